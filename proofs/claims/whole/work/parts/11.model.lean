/-! the model: its cells, and its small methods -/
def mM (σ : kt_H) (f : Nat → Int32) (a : Nat → Nat → Int32) : kt_H := (fun k =>
  if k = 136 then .inr (12, [.int (f 0), .int (f 1), .ref 137, .ref 138, .ref 139, .ref 140, .int (f 6), .int (f 7), .ref 141, .ref 142, .int (f 10), .ref 143, .ref 144, .int (f 13), .int (f 14), .ref 145, .ref 146, .int (f 17), .int (f 18), .ref 147, .ref 148, .ref 149, .ref 150, .int (f 23)])
  else if k = 137 then .inl (0, 16, .inl (a 0)) else if k = 138 then .inl (0, 16, .inl (a 1)) else if k = 139 then .inl (0, 128, .inl (a 2)) else if k = 140 then .inl (0, 128, .inl (a 3))
  else if k = 141 then .inl (0, 8, .inl (a 4)) else if k = 142 then .inl (0, 8, .inl (a 5)) else if k = 143 then .inl (0, 8, .inl (a 6)) else if k = 144 then .inl (0, 160, .inl (a 7))
  else if k = 145 then .inl (0, 20, .inl (a 8)) else if k = 146 then .inl (0, 6, .inl (a 9)) else if k = 147 then .inl (0, 4, .inl (a 10)) else if k = 148 then .inl (0, 4, .inl (a 11))
  else if k = 149 then .inl (0, 240, .inl (a 12)) else if k = 150 then .inl (0, 60, .inl (a 13)) else σ.1 k, σ.2)
abbrev mO (x0 x1 x6 x7 x10 x13 x14 x17 x18 x23 : Int32) : kt_C := .inr (12, [.int x0, .int x1, .ref 137, .ref 138, .ref 139, .ref 140, .int x6, .int x7, .ref 141, .ref 142, .int x10, .ref 143, .ref 144, .int x13, .int x14, .ref 145, .ref 146, .int x17, .int x18, .ref 147, .ref 148, .ref 149, .ref 150, .int x23])
theorem mM_o {σ : kt_H} {f : Nat → Int32} {a : Nat → Nat → Int32} (g : Nat → Int32) {x0 x1 x6 x7 x10 x13 x14 x17 x18 x23 : Int32} (h : mO x0 x1 x6 x7 x10 x13 x14 x17 x18 x23 = mO (g 0) (g 1) (g 6) (g 7) (g 10) (g 13) (g 14) (g 17) (g 18) (g 23)) : kt_put (mM σ f a) 136 (mO x0 x1 x6 x7 x10 x13 x14 x17 x18 x23) = mM σ g a := by
  rw [h]
  unfold kt_put mM
  congr 1
  funext j
  by_cases hj : j = 136
  · simp [va_up, hj]
  · simp [va_up, hj]
theorem mM_cong {σ : kt_H} {f : Nat → Int32} {a a2 : Nat → Nat → Int32} {j : Nat} (e : ∀ z, z < 14 → j = 137 + z → a z = a2 z) : (mM σ f a).1 j = (mM σ f a2).1 j := by
  unfold mM
  dsimp only
  by_cases h : j = 136
  · rw [if_pos h, if_pos h]
  rw [if_neg h, if_neg h]
  by_cases h : j = 137
  · rw [if_pos h, if_pos h, e 0 (by decide) h]
  rw [if_neg h, if_neg h]
  by_cases h : j = 138
  · rw [if_pos h, if_pos h, e 1 (by decide) h]
  rw [if_neg h, if_neg h]
  by_cases h : j = 139
  · rw [if_pos h, if_pos h, e 2 (by decide) h]
  rw [if_neg h, if_neg h]
  by_cases h : j = 140
  · rw [if_pos h, if_pos h, e 3 (by decide) h]
  rw [if_neg h, if_neg h]
  by_cases h : j = 141
  · rw [if_pos h, if_pos h, e 4 (by decide) h]
  rw [if_neg h, if_neg h]
  by_cases h : j = 142
  · rw [if_pos h, if_pos h, e 5 (by decide) h]
  rw [if_neg h, if_neg h]
  by_cases h : j = 143
  · rw [if_pos h, if_pos h, e 6 (by decide) h]
  rw [if_neg h, if_neg h]
  by_cases h : j = 144
  · rw [if_pos h, if_pos h, e 7 (by decide) h]
  rw [if_neg h, if_neg h]
  by_cases h : j = 145
  · rw [if_pos h, if_pos h, e 8 (by decide) h]
  rw [if_neg h, if_neg h]
  by_cases h : j = 146
  · rw [if_pos h, if_pos h, e 9 (by decide) h]
  rw [if_neg h, if_neg h]
  by_cases h : j = 147
  · rw [if_pos h, if_pos h, e 10 (by decide) h]
  rw [if_neg h, if_neg h]
  by_cases h : j = 148
  · rw [if_pos h, if_pos h, e 11 (by decide) h]
  rw [if_neg h, if_neg h]
  by_cases h : j = 149
  · rw [if_pos h, if_pos h, e 12 (by decide) h]
  rw [if_neg h, if_neg h]
  by_cases h : j = 150
  · rw [if_pos h, if_pos h, e 13 (by decide) h]
  rw [if_neg h, if_neg h]
theorem mM_a {σ : kt_H} {f : Nat → Int32} {a : Nat → Nat → Int32} {k n : Nat} {x : Nat → Int32} (q : Nat) (hk : k = 137 + q) (hn : ∀ y : Nat → Nat → Int32, (mM σ f y).1 k = .inl (0, n, .inl (y q))) : kt_put (mM σ f a) k (.inl (0, n, .inl x)) = mM σ f (va_up a q x) := by
  unfold kt_put
  have : va_up (mM σ f a).1 k (.inl (0, n, .inl x)) = (mM σ f (va_up a q x)).1 := by
    funext j
    by_cases hj : j = k
    · subst hj
      rw [hn (va_up a q x)]
      simp [va_up]
    · rw [show va_up (mM σ f a).1 k (.inl (0, n, .inl x)) j = (mM σ f a).1 j by simp [va_up, hj]]
      refine mM_cong (fun z hz h => ?_)
      have : z ≠ q := by omega
      simp [va_up, this]
  rw [this]
  rfl
theorem mM_Q {σ : kt_H} {f : Nat → Int32} {a : Nat → Nat → Int32} {c : kt_C} {Q : Option Value → kt_H → Prop} {v : Option Value} (g : Nat → Int32) (hq : Q v (mM σ g a)) (h : c = mO (g 0) (g 1) (g 6) (g 7) (g 10) (g 13) (g 14) (g 17) (g 18) (g 23)) : Q v (kt_put (mM σ f a) 136 c) := by
  rw [h, mM_o g rfl]; exact hq
theorem Ev_mo {k : Nat → kt_S} {pc : Nat} {L : kt_L} {S : List Value} {Q : Option Value → kt_H → Prop} {σ : kt_H} {f : Nat → Int32} {a : Nat → Nat → Int32} {c : kt_C} (g : Nat → Int32) (hq : Ev k (pc, L, S, mM σ g a) Q) (h : c = mO (g 0) (g 1) (g 6) (g 7) (g 10) (g 13) (g 14) (g 17) (g 18) (g 23)) : Ev k (pc, L, S, kt_put (mM σ f a) 136 c) Q := by
  rw [h, mM_o g rfl]; exact hq
theorem Ev_ma {k : Nat → kt_S} {pc : Nat} {L : kt_L} {S : List Value} {Q : Option Value → kt_H → Prop} {σ : kt_H} {f : Nat → Int32} {a : Nat → Nat → Int32} {q n : Nat} {x : Nat → Int32} (hq : Ev k (pc, L, S, mM σ f (va_up a q x)) Q) (hn : ∀ y : Nat → Nat → Int32, (mM σ f y).1 (137 + q) = .inl (0, n, .inl (y q))) : Ev k (pc, L, S, kt_put (mM σ f a) (137 + q) (.inl (0, n, .inl x))) Q := by
  rw [mM_a q rfl hn]; exact hq
theorem nI_ex {x : Int32} {A B : Int} (N : Nat) (h : A ≤ x.toInt ∧ x.toInt ≤ B) (hA : 0 ≤ A := by omega) (hB : B ≤ N := by omega) : ∃ j : Nat, j ≤ N ∧ (j : Int) = x.toInt ∧ x = nI j := by
  refine ⟨x.toInt.toNat, by omega, by omega, ?_⟩
  rw [fa_eq]
  have h2 := Int32.toInt_lt x
  rw [nI_toInt (by omega)]
  omega
/-- in(v, l, h) -/
theorem m_in {σ : kt_H} {Q : Option Value → kt_H → Prop} {v l h : Int64} (V A B : Int) (hv : v.toInt = V) (ha : l.toInt = A) (hb : h.toInt = B) (hq : Q (some (.int (bI (A ≤ V ∧ V ≤ B)))) σ) : Cs nX12_in [.long v, .long l, .long h] σ Q := by
  refine Cs_in (k := kX12_in) [some (.long v), none, some (.long l), none, some (.long h), none] rfl rfl ?_
  repeat refine Ev_go rfl ?_
  refine Ev_if (fun h1 => ?_) (fun h1 => ?_)
  · rw [cmp_lt] at h1
    repeat refine Ev_go rfl ?_
    rw [bI_f (by omega)] at hq
    exact Ev_rz rfl (Or.inl rfl) hq
  · rw [cmp_lt] at h1
    repeat refine Ev_go rfl ?_
    refine Ev_if (fun h2 => ?_) (fun h2 => ?_)
    · rw [cmp_gt] at h2
      repeat refine Ev_go rfl ?_
      rw [bI_f (by omega)] at hq
      exact Ev_rz rfl (Or.inl rfl) hq
    · rw [cmp_gt] at h2
      repeat refine Ev_go rfl ?_
      rw [bI_t (by omega)] at hq
      exact Ev_rz rfl (Or.inr rfl) hq
theorem m_lost {σ : kt_H} {Q : Option Value → kt_H → Prop} (hq : Q (some (.long (-9223372036854775808))) σ) : Cs nX12_lost [] σ Q := by
  refine Cs_in (k := kX12_lost) [] rfl rfl ?_
  repeat refine Ev_go rfl ?_
  refine Ev_rt rfl ?_
  exact hq
theorem m_greater {σ : kt_H} {Q : Option Value → kt_H → Prop} (a b : Int32) (hq : Q (some (.int (if b < a then a else b))) σ) : Cs nX12_greater [.int a, .int b] σ Q := by
  refine Cs_in (k := kX12_greater) [some (.int a), some (.int b)] rfl rfl ?_
  repeat refine Ev_go rfl ?_
  refine Ev_if (fun h1 => ?_) (fun h1 => ?_)
  · repeat refine Ev_go rfl ?_
    refine Ev_rt rfl ?_
    rw [if_neg (by rw [fa_lt]; rw [fa_le] at h1; omega)] at hq
    exact hq
  · repeat refine Ev_go rfl ?_
    refine Ev_rt rfl ?_
    rw [if_pos (by rw [fa_lt]; rw [fa_le] at h1; omega)] at hq
    exact hq
theorem m_isLane {σ : kt_H} {Q : Option Value → kt_H → Prop} (x : Int32) (hq : Q (some (.int (bI (0 ≤ x.toInt ∧ x.toInt ≤ 2)))) σ) : Cs nX12_isLane [.int x] σ Q := by
  refine Cs_in (k := kX12_isLane) [some (.int x)] rfl rfl ?_
  repeat refine Ev_go rfl ?_
  refine Ev_ca rfl ?_
  refine m_in x.toInt 0 2 (fa_wide _) rfl rfl ?_
  exact Ev_rz rfl bI_01 hq
theorem m_isKind {σ : kt_H} {Q : Option Value → kt_H → Prop} (x : Int32) (hq : Q (some (.int (bI (0 ≤ x.toInt ∧ x.toInt ≤ 2)))) σ) : Cs nX12_isKind [.int x] σ Q := by
  refine Cs_in (k := kX12_isKind) [some (.int x)] rfl rfl ?_
  repeat refine Ev_go rfl ?_
  refine Ev_ca rfl ?_
  refine m_in x.toInt 0 2 (fa_wide _) rfl rfl ?_
  exact Ev_rz rfl bI_01 hq
/-- the end of 'not that' -/
theorem m_noSheet {σ : kt_H} {Q : Option Value → kt_H → Prop} (x : Int32) (hq : Q (some (.int (bI (¬ (0 ≤ x.toInt ∧ x.toInt ≤ 3))))) σ) : Cs nX12_noSheet [.int x] σ Q := by
  refine Cs_in (k := kX12_noSheet) [some (.int x)] rfl rfl ?_
  repeat refine Ev_go rfl ?_
  refine Ev_ca rfl ?_
  refine m_in x.toInt 0 3 (fa_wide _) rfl rfl ?_
  repeat refine Ev_go rfl ?_
  refine Ev_ifb (fun h1 => ?_) (fun h1 => ?_)
  · repeat refine Ev_go rfl ?_
    rw [bI_t h1] at hq
    exact Ev_rz rfl (Or.inr rfl) hq
  · repeat refine Ev_go rfl ?_
    rw [bI_f (fun e => e h1)] at hq
    exact Ev_rz rfl (Or.inl rfl) hq
theorem wide_m1 (x : Int32) : (x.toInt64 - 1).toInt = x.toInt - 1 := by
  have h1 := Int32.toInt_lt x
  have h2 := Int32.le_toInt x
  have h3 := fa_wide x
  have h4 : (1 : Int64).toInt = 1 := rfl
  rw [fb_subL (by omega) (by omega)]
  omega
theorem m_noHull {σ : kt_H} {f : Nat → Int32} {a : Nat → Nat → Int32} {Q : Option Value → kt_H → Prop} (x : Int32) (hq : Q (some (.int (bI (¬ (0 ≤ x.toInt ∧ x.toInt ≤ (f 1).toInt - 1))))) (mM σ f a)) : Cs nX12_noHull [.ref 136, .int x] (mM σ f a) Q := by
  refine Cs_in (k := kX12_noHull) [some (.ref 136), some (.int x)] rfl rfl ?_
  repeat refine Ev_go rfl ?_
  refine Ev_ca rfl ?_
  refine m_in x.toInt 0 ((f 1).toInt - 1) (fa_wide _) rfl (wide_m1 _) ?_
  repeat refine Ev_go rfl ?_
  refine Ev_ifb (fun h1 => ?_) (fun h1 => ?_)
  · repeat refine Ev_go rfl ?_
    rw [bI_t h1] at hq
    exact Ev_rz rfl (Or.inr rfl) hq
  · repeat refine Ev_go rfl ?_
    rw [bI_f (fun e => e h1)] at hq
    exact Ev_rz rfl (Or.inl rfl) hq
theorem m_noLaw {σ : kt_H} {f : Nat → Int32} {a : Nat → Nat → Int32} {Q : Option Value → kt_H → Prop} (x : Int32) (hq : Q (some (.int (bI (¬ (0 ≤ x.toInt ∧ x.toInt ≤ (f 10).toInt - 1))))) (mM σ f a)) : Cs nX12_noLaw [.ref 136, .int x] (mM σ f a) Q := by
  refine Cs_in (k := kX12_noLaw) [some (.ref 136), some (.int x)] rfl rfl ?_
  repeat refine Ev_go rfl ?_
  refine Ev_ca rfl ?_
  refine m_in x.toInt 0 ((f 10).toInt - 1) (fa_wide _) rfl (wide_m1 _) ?_
  repeat refine Ev_go rfl ?_
  refine Ev_ifb (fun h1 => ?_) (fun h1 => ?_)
  · repeat refine Ev_go rfl ?_
    rw [bI_t h1] at hq
    exact Ev_rz rfl (Or.inr rfl) hq
  · repeat refine Ev_go rfl ?_
    rw [bI_f (fun e => e h1)] at hq
    exact Ev_rz rfl (Or.inl rfl) hq
theorem m_noneLaw {σ : kt_H} {f : Nat → Int32} {a : Nat → Nat → Int32} {Q : Option Value → kt_H → Prop} (x : Int32) (hq : Q (some (.int (bI (¬ (0 ≤ x.toInt ∧ x.toInt ≤ (f 10).toInt - 1) ∧ x ≠ -9)))) (mM σ f a)) : Cs nX12_noneLaw [.ref 136, .int x] (mM σ f a) Q := by
  refine Cs_in (k := kX12_noneLaw) [some (.ref 136), some (.int x)] rfl rfl ?_
  repeat refine Ev_go rfl ?_
  refine Ev_ca rfl ?_
  refine m_noLaw x ?_
  repeat refine Ev_go rfl ?_
  refine Ev_ifb (fun h1 => ?_) (fun h1 => ?_)
  · repeat refine Ev_go rfl ?_
    rw [bI_f (fun e => h1 e.1)] at hq
    exact Ev_rz rfl (Or.inl rfl) hq
  · repeat refine Ev_go rfl ?_
    refine Ev_if (fun h2 => ?_) (fun h2 => ?_)
    · repeat refine Ev_go rfl ?_
      rw [bI_f (fun e => e.2 h2)] at hq
      exact Ev_rz rfl (Or.inl rfl) hq
    · repeat refine Ev_go rfl ?_
      rw [bI_t ⟨h1, h2⟩] at hq
      exact Ev_rz rfl (Or.inr rfl) hq
theorem m_refused {σ : kt_H} {f : Nat → Int32} {a : Nat → Nat → Int32} {Q : Option Value → kt_H → Prop} (x : Int32) (hq : Q (some (.int x)) (mM σ (va_up f 0 0) a)) : Cs nX12_refused [.ref 136, .int x] (mM σ f a) Q := by
  refine Cs_in (k := kX12_refused) [some (.ref 136), some (.int x)] rfl rfl ?_
  repeat refine Ev_go rfl ?_
  refine Ev_rt rfl ?_
  exact mM_Q (va_up f 0 0) hq rfl
theorem m_failed {σ : kt_H} {f : Nat → Int32} {a : Nat → Nat → Int32} {Q : Option Value → kt_H → Prop} (x : Int32) (hq : Q (some (.int (-10 - x))) (mM σ (va_up f 0 x) a)) : Cs nX12_failed [.ref 136, .int x] (mM σ f a) Q := by
  refine Cs_in (k := kX12_failed) [some (.ref 136), some (.int x)] rfl rfl ?_
  repeat refine Ev_go rfl ?_
  refine Ev_rt rfl ?_
  exact mM_Q (va_up f 0 x) hq rfl
theorem m_failedLong {σ : kt_H} {f : Nat → Int32} {a : Nat → Nat → Int32} {Q : Option Value → kt_H → Prop} (x : Int32) (hq : Q (some (.long (-9223372036854775808))) (mM σ (va_up f 0 x) a)) : Cs nX12_failedLong [.ref 136, .int x] (mM σ f a) Q := by
  refine Cs_in (k := kX12_failedLong) [some (.ref 136), some (.int x)] rfl rfl ?_
  repeat refine Ev_go rfl ?_
  refine Ev_ca rfl ?_
  refine m_lost ?_
  refine Ev_rt rfl ?_
  exact mM_Q (va_up f 0 x) hq rfl
theorem m_traced {σ : kt_H} {f : Nat → Int32} {a : Nat → Nat → Int32} {Q : Option Value → kt_H → Prop} (x : Int32) (hq : Q none (mM σ (va_up f 23 (31 * f 23 + x)) a)) : Cs nX12_traced [.ref 136, .int x] (mM σ f a) Q := by
  refine Cs_in (k := kX12_traced) [some (.ref 136), some (.int x)] rfl rfl ?_
  repeat refine Ev_go rfl ?_
  refine Ev_rt rfl ?_
  exact mM_Q (va_up f 23 (31 * f 23 + x)) hq rfl
theorem m_isBeyond {σ : kt_H} {Q : Option Value → kt_H → Prop} (i all : Int32) {n : Int64} (N : Int) (hn : n.toInt = N) (hN : -1099511627776 ≤ N ∧ N ≤ 1099511627776) (hq : Q (some (.int (bI (i.toInt < 0 ∨ N < 0 ∨ all.toInt < i.toInt + N)))) σ) : Cs nX12_isBeyond [.int i, .long n, .int all] σ Q := by
  have e0 : (0 : Int32).toInt = 0 := rfl
  have e1 : (0 : Int64).toInt = 0 := rfl
  have b1 := Int32.toInt_lt i
  have b2 := Int32.le_toInt i
  have b3 := fa_wide i
  have b4 := fa_wide all
  have b5 : (i.toInt64 + n).toInt = i.toInt + N := by rw [fb_addL (by omega) (by omega)]; omega
  refine Cs_in (k := kX12_isBeyond) [some (.int i), some (.long n), none, some (.int all)] rfl rfl ?_
  repeat refine Ev_go rfl ?_
  refine Ev_if (fun h1 => ?_) (fun h1 => ?_)
  · repeat refine Ev_go rfl ?_
    rw [fa_lt] at h1
    rw [bI_t (by omega)] at hq
    exact Ev_rz rfl (Or.inr rfl) hq
  · rw [fa_lt] at h1
    repeat refine Ev_go rfl ?_
    refine Ev_if (fun h2 => ?_) (fun h2 => ?_)
    · rw [cmp_lt] at h2
      repeat refine Ev_go rfl ?_
      rw [bI_t (by omega)] at hq
      exact Ev_rz rfl (Or.inr rfl) hq
    · rw [cmp_lt] at h2
      repeat refine Ev_go rfl ?_
      refine Ev_if (fun h3 => ?_) (fun h3 => ?_)
      · have h3 : ¬ (0 < lg_cmp (i.toInt64 + n) all.toInt64) := by rw [fa_lt]; rw [fa_le] at h3; omega
        rw [cmp_gt] at h3
        repeat refine Ev_go rfl ?_
        rw [bI_f (by omega)] at hq
        exact Ev_rz rfl (Or.inl rfl) hq
      · have h3 : 0 < lg_cmp (i.toInt64 + n) all.toInt64 := by rw [fa_lt]; rw [fa_le] at h3; omega
        rw [cmp_gt] at h3
        repeat refine Ev_go rfl ?_
        rw [bI_t (by omega)] at hq
        exact Ev_rz rfl (Or.inr rfl) hq
theorem m_noCell {σ : kt_H} {f : Nat → Int32} {a : Nat → Nat → Int32} {Q : Option Value → kt_H → Prop} (k : Nat) (hk : k < 4) (i : Int32) (hq : Q (some (.int (if (a 10 k).toInt < 0 then 1 else if 0 ≤ i.toInt ∧ i.toInt ≤ (a 10 k).toInt - 1 then 0 else 3))) (mM σ f a)) : Cs nX12_noCell [.ref 136, .int (nI k), .int i] (mM σ f a) Q := by
  refine Cs_in (k := kX12_noCell) [some (.ref 136), some (.int (nI k)), some (.int i)] rfl rfl ?_
  have e0 : (0 : Int32).toInt = 0 := rfl
  repeat refine Ev_go rfl ?_
  refine Ev_ial k rfl rfl rfl hk (by decide) ?_
  repeat refine Ev_go rfl ?_
  refine Ev_if (fun h1 => ?_) (fun h1 => ?_)
  · rw [fa_le] at h1
    repeat refine Ev_go rfl ?_
    refine Ev_ial k rfl rfl rfl hk (by decide) ?_
    repeat refine Ev_go rfl ?_
    refine Ev_ca rfl ?_
    refine m_in i.toInt 0 ((a 10 k).toInt - 1) (fa_wide _) rfl (wide_m1 _) ?_
    repeat refine Ev_go rfl ?_
    rw [if_neg (by omega)] at hq
    refine Ev_ifb (fun h2 => ?_) (fun h2 => ?_)
    · repeat refine Ev_go rfl ?_
      refine Ev_rt rfl ?_
      rw [if_neg h2] at hq
      exact hq
    · repeat refine Ev_go rfl ?_
      refine Ev_rt rfl ?_
      rw [if_pos h2] at hq
      exact hq
  · rw [fa_le] at h1
    repeat refine Ev_go rfl ?_
    refine Ev_rt rfl ?_
    rw [if_pos (by omega)] at hq
    exact hq
