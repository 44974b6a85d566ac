/-! the model: hulls, their stations, needs, telling -/
theorem ix8 (h x : Nat) : 8 * nI h + nI x = nI (8 * h + x) := by rw [fa_lit 8, pk_mul, nI_add]
/-- a hull's number -/
theorem Inv_h {f : FF} {a : AA} (hI : Inv f a) {h : Int32} (hh : isH f h) : ∃ h' : Nat, h' < 16 ∧ h = nI h' ∧ (a 0 h' = 0 ∨ a 0 h' = 1 ∨ a 0 h' = 2) ∧ ∃ n : Nat, 1 ≤ n ∧ n ≤ 8 ∧ a 1 h' = nI n ∧ ∀ x, x < n → (1 ≤ (a 2 (8 * h' + x)).toInt ∧ (a 2 (8 * h' + x)).toInt ≤ 9) ∧ (1 ≤ (a 3 (8 * h' + x)).toInt ∧ (a 3 (8 * h' + x)).toInt ≤ 9) := by
  obtain ⟨hc, b1, b2, b3⟩ := hI.1
  rw [isH, b2, nI_toInt (by omega)] at hh
  obtain ⟨h', c1, c2, c3⟩ := nI_ex (x := h) 15 hh
  exact ⟨h', by omega, c3, b3 h' (by omega)⟩
abbrev isS (a : AA) (h k : Int32) : Prop := 0 ≤ k.toInt ∧ k.toInt ≤ (a 1 (nC h)).toInt - 1
theorem m_noStation {σ : kt_H} {f : FF} {a : AA} {Q : Option Value → kt_H → Prop} (hI : Inv f a) (h k : Int32) (hq : Q (some (.int (bI (¬ (isH f h ∧ isS a h k))))) (mM σ f a)) : Cs nX12_noStation [.ref 136, .int h, .int k] (mM σ f a) Q := by
  refine Cs_in (k := kX12_noStation) [some (.ref 136), some (.int h), some (.int k)] rfl rfl ?_
  repeat refine Ev_go rfl ?_
  refine Ev_ca rfl ?_
  refine m_noHull h ?_
  repeat refine Ev_go rfl ?_
  refine Ev_ifb (fun g1 => ?_) (fun g1 => ?_)
  · have g1 := Decidable.not_not.mp g1
    obtain ⟨h', c1, rfl, -⟩ := Inv_h hI g1
    simp only [isS, nC, nI_clamp (show h' < 2 ^ 31 by omega)] at hq
    repeat refine Ev_go rfl ?_
    refine Ev_ial h' rfl rfl rfl c1 (by decide) ?_
    repeat refine Ev_go rfl ?_
    refine Ev_ca rfl ?_
    refine m_in k.toInt 0 ((a 1 h').toInt - 1) (fa_wide _) rfl (wide_m1 _) ?_
    repeat refine Ev_go rfl ?_
    refine Ev_ifb (fun g2 => ?_) (fun g2 => ?_)
    · repeat refine Ev_go rfl ?_
      rw [bI_t (p := ¬ _) (fun e => g2 e.2)] at hq
      exact Ev_rz rfl (Or.inr rfl) hq
    · repeat refine Ev_go rfl ?_
      rw [bI_f (fun e => e ⟨g1, g2⟩)] at hq
      exact Ev_rz rfl (Or.inl rfl) hq
  · repeat refine Ev_go rfl ?_
    rw [bI_t (p := ¬ _) (fun e => g1 e.1)] at hq
    exact Ev_rz rfl (Or.inr rfl) hq
def sp_station (f : FF) (a : AA) (h k what : Int32) : Int32 := if ¬ (isH f h ∧ isS a h k) then -1 else if what = 0 then a 2 (8 * nC h + nC k) else if what = 1 then a 3 (8 * nC h + nC k) else -2
theorem M_station {σ : kt_H} {f : FF} {a : AA} {Q : Option Value → kt_H → Prop} (hI : Inv f a) (h k what : Int32) (hq : Q (some (.int (sp_station f a h k what))) (mM σ f a)) : Cs nX12_station [.ref 136, .int h, .int k, .int what] (mM σ f a) Q := by
  unfold sp_station at hq
  refine Cs_in (k := kX12_station) [some (.ref 136), some (.int h), some (.int k), some (.int what)] rfl rfl ?_
  repeat refine Ev_go rfl ?_
  refine Ev_ca rfl ?_
  refine m_noStation hI h k ?_
  repeat refine Ev_go rfl ?_
  refine Ev_ifb (fun g1 => ?_) (fun g1 => ?_)
  · rw [if_neg g1] at hq
    have g1 := Decidable.not_not.mp g1
    obtain ⟨h', c1, rfl, -, n, n1, n2, n3, -⟩ := Inv_h hI g1.1
    have g2 := g1.2
    simp only [isS, nC, nI_clamp (show h' < 2 ^ 31 by omega), n3, nI_toInt (show n < 2 ^ 31 by omega)] at hq g2
    obtain ⟨k', d1, d2, rfl⟩ := nI_ex (x := k) 7 g2
    simp only [nI_clamp (show k' < 2 ^ 31 by omega)] at hq
    repeat refine Ev_go rfl ?_
    refine Ev_if (fun g3 => ?_) (fun g3 => ?_)
    · rw [if_pos g3] at hq
      repeat refine Ev_go rfl ?_
      refine Ev_ial (8 * h' + k') rfl rfl (ix8 h' k') (by omega) (by decide) ?_
      repeat refine Ev_go rfl ?_
      refine Ev_rt rfl ?_
      exact hq
    · rw [if_neg g3] at hq
      repeat refine Ev_go rfl ?_
      refine Ev_if (fun g4 => ?_) (fun g4 => ?_)
      · rw [if_pos g4] at hq
        repeat refine Ev_go rfl ?_
        refine Ev_ial (8 * h' + k') rfl rfl (ix8 h' k') (by omega) (by decide) ?_
        repeat refine Ev_go rfl ?_
        refine Ev_rt rfl ?_
        exact hq
      · rw [if_neg g4] at hq
        repeat refine Ev_go rfl ?_
        refine Ev_rt rfl ?_
        exact hq
  · rw [if_pos g1] at hq
    repeat refine Ev_go rfl ?_
    refine Ev_rt rfl ?_
    exact hq
def sp_build (f : FF) (a : AA) (h k what v : Int32) : Int32 × AA := if ¬ (isH f h ∧ isS a h k) then (-1, a) else if ¬ (0 ≤ what.toInt ∧ what.toInt ≤ 1) ∨ ¬ (1 ≤ v.toInt ∧ v.toInt ≤ 9) then (-2, a)
  else if what = 0 then (a 2 (8 * nC h + nC k), va_up a 2 (upd (a 2) (8 * nC h + nC k) v)) else (a 3 (8 * nC h + nC k), va_up a 3 (upd (a 3) (8 * nC h + nC k) v))
theorem M_build {σ : kt_H} {f : FF} {a : AA} {Q : Option Value → kt_H → Prop} (hI : Inv f a) (h k what v : Int32) (hq : Q (some (.int (sp_build f a h k what v).1)) (mM σ f (sp_build f a h k what v).2)) : Cs nX12_build [.ref 136, .int h, .int k, .int what, .int v] (mM σ f a) Q := by
  unfold sp_build at hq
  refine Cs_in (k := kX12_build) [some (.ref 136), some (.int h), some (.int k), some (.int what), some (.int v), none] rfl rfl ?_
  repeat refine Ev_go rfl ?_
  refine Ev_ca rfl ?_
  refine m_noStation hI h k ?_
  repeat refine Ev_go rfl ?_
  refine Ev_ifb (fun g1 => ?_) (fun g1 => ?_)
  · rw [if_neg g1] at hq
    have g1 := Decidable.not_not.mp g1
    have bad : (¬ (0 ≤ what.toInt ∧ what.toInt ≤ 1) ∨ ¬ (1 ≤ v.toInt ∧ v.toInt ≤ 9)) → Ev kX12_build (34, [some (.ref 136), some (.int h), some (.int k), some (.int what), some (.int v), none], [], mM σ f a) Q := by
      intro hb
      rw [if_pos hb] at hq
      repeat refine Ev_go rfl ?_
      refine Ev_rt rfl ?_
      exact hq
    repeat refine Ev_go rfl ?_
    refine Ev_ca rfl ?_
    refine m_in what.toInt 0 1 (fa_wide _) rfl rfl ?_
    repeat refine Ev_go rfl ?_
    refine Ev_ifb (fun g2 => bad (Or.inl g2)) (fun g2 => ?_)
    repeat refine Ev_go rfl ?_
    refine Ev_ca rfl ?_
    refine m_in v.toInt 1 9 (fa_wide _) rfl rfl ?_
    repeat refine Ev_go rfl ?_
    refine Ev_ifb (fun g3 => bad (Or.inr g3)) (fun g3 => ?_)
    rw [if_neg (fun e => e.elim (fun z => z g2) (fun z => z g3))] at hq
    repeat refine Ev_go rfl ?_
    refine Ev_ca rfl ?_
    refine M_station hI h k what ?_
    unfold sp_station
    rw [if_neg (fun e => e g1)]
    obtain ⟨h', c1, rfl, -, n, n1, n2, n3, -⟩ := Inv_h hI g1.1
    have g4 := g1.2
    simp only [isS, nC, nI_clamp (show h' < 2 ^ 31 by omega), n3, nI_toInt (show n < 2 ^ 31 by omega)] at hq g4 ⊢
    obtain ⟨k', d1, d2, rfl⟩ := nI_ex (x := k) 7 g4
    simp only [nI_clamp (show k' < 2 ^ 31 by omega)] at hq ⊢
    repeat refine Ev_go rfl ?_
    refine Ev_if (fun g5 => ?_) (fun g5 => ?_)
    · rw [if_pos g5] at hq ⊢
      repeat refine Ev_go rfl ?_
      refine Ev_mst 2 (8 * h' + k') rfl (fun _ => rfl) (ix8 h' k') (by omega) (by decide) ?_
      repeat refine Ev_go rfl ?_
      refine Ev_rt rfl ?_
      exact hq
    · rw [if_neg g5] at hq ⊢
      have g6 : what = 1 := by
        rw [fa_eq] at g5 ⊢
        have e0 : (0 : Int32).toInt = 0 := rfl
        have e1 : (1 : Int32).toInt = 1 := rfl
        omega
      rw [if_pos g6]
      repeat refine Ev_go rfl ?_
      refine Ev_mst 3 (8 * h' + k') rfl (fun _ => rfl) (ix8 h' k') (by omega) (by decide) ?_
      repeat refine Ev_go rfl ?_
      refine Ev_rt rfl ?_
      exact hq
  · rw [if_pos g1] at hq
    repeat refine Ev_go rfl ?_
    refine Ev_rt rfl ?_
    exact hq
/-- the greatest a need may be -/
def grO (what : Int32) : Int32 := if what < 2 then 8 else if what = 2 ∨ what = 4 then 9 else if what = 3 then 999 else 99
theorem m_greatestOf {σ : kt_H} {Q : Option Value → kt_H → Prop} (what : Int32) (hq : Q (some (.int (grO what))) σ) : Cs nX12_greatestOf [.int what] σ Q := by
  unfold grO at hq
  refine Cs_in (k := kX12_greatestOf) [some (.int what)] rfl rfl ?_
  repeat refine Ev_go rfl ?_
  refine Ev_if (fun g1 => ?_) (fun g1 => ?_)
  · rw [if_neg (by rw [fa_lt]; rw [fa_le] at g1; omega)] at hq
    repeat refine Ev_go rfl ?_
    refine Ev_if (fun g2 => ?_) (fun g2 => ?_)
    · rw [if_pos (Or.inl g2)] at hq
      repeat refine Ev_go rfl ?_
      refine Ev_rt rfl ?_
      exact hq
    · repeat refine Ev_go rfl ?_
      refine Ev_if (fun g3 => ?_) (fun g3 => ?_)
      · rw [if_pos (Or.inr g3)] at hq
        repeat refine Ev_go rfl ?_
        refine Ev_rt rfl ?_
        exact hq
      · rw [if_neg (fun e => e.elim g2 g3)] at hq
        repeat refine Ev_go rfl ?_
        refine Ev_if (fun g4 => ?_) (fun g4 => ?_)
        · rw [if_pos g4] at hq
          repeat refine Ev_go rfl ?_
          refine Ev_rt rfl ?_
          exact hq
        · rw [if_neg g4] at hq
          repeat refine Ev_go rfl ?_
          refine Ev_rt rfl ?_
          exact hq
  · rw [if_pos (by rw [fa_lt]; rw [fa_le] at g1; omega)] at hq
    repeat refine Ev_go rfl ?_
    refine Ev_rt rfl ?_
    exact hq
def loO (what : Int32) : Int := if what = 2 ∨ what = 5 then 1 else 0
def sp_need (a : AA) (what v : Int32) : Int32 × AA := if ¬ (0 ≤ what.toInt ∧ what.toInt ≤ 5) then (-1, a) else if ¬ (loO what ≤ v.toInt ∧ v.toInt ≤ (grO what).toInt) then (-2, a) else (a 9 (nC what), va_up a 9 (upd (a 9) (nC what) v))
theorem M_need {σ : kt_H} {f : FF} {a : AA} {Q : Option Value → kt_H → Prop} (what v : Int32) (hq : Q (some (.int (sp_need a what v).1)) (mM σ f (sp_need a what v).2)) : Cs nX12_need [.ref 136, .int what, .int v] (mM σ f a) Q := by
  unfold sp_need at hq
  refine Cs_in (k := kX12_need) [some (.ref 136), some (.int what), some (.int v), none] rfl rfl ?_
  repeat refine Ev_go rfl ?_
  refine Ev_ca rfl ?_
  refine m_in what.toInt 0 5 (fa_wide _) rfl rfl ?_
  repeat refine Ev_go rfl ?_
  refine Ev_ifb (fun g1 => ?_) (fun g1 => ?_)
  · rw [if_pos g1] at hq
    repeat refine Ev_go rfl ?_
    refine Ev_rt rfl ?_
    exact hq
  · rw [if_neg (fun e => e g1)] at hq
    have fin : ∀ x : Int64, x.toInt = loO what → Ev kX12_need (31, [some (.ref 136), some (.int what), some (.int v), none], [.long x, .long v.toInt64], mM σ f a) Q := by
      intro x hx
      repeat refine Ev_go rfl ?_
      refine Ev_ca rfl ?_
      refine m_greatestOf what ?_
      repeat refine Ev_go rfl ?_
      refine Ev_ca rfl ?_
      refine m_in v.toInt (loO what) (grO what).toInt (fa_wide _) hx (fa_wide _) ?_
      repeat refine Ev_go rfl ?_
      refine Ev_ifb (fun g2 => ?_) (fun g2 => ?_)
      · rw [if_pos g2] at hq
        repeat refine Ev_go rfl ?_
        refine Ev_rt rfl ?_
        exact hq
      · rw [if_neg (fun e => e g2)] at hq
        obtain ⟨w', d1, d2, rfl⟩ := nI_ex (x := what) 5 g1
        simp only [nC, nI_clamp (show w' < 2 ^ 31 by omega)] at hq
        repeat refine Ev_go rfl ?_
        refine Ev_ial w' rfl rfl rfl (by omega) (by decide) ?_
        repeat refine Ev_go rfl ?_
        refine Ev_mst 9 w' rfl (fun _ => rfl) rfl (by omega) (by decide) ?_
        repeat refine Ev_go rfl ?_
        refine Ev_rt rfl ?_
        exact hq
    repeat refine Ev_go rfl ?_
    refine Ev_if (fun g2 => ?_) (fun g2 => ?_)
    · iterate 2 refine Ev_go rfl ?_
      exact fin 1 (by unfold loO; rw [if_pos (Or.inl g2)]; rfl)
    · repeat refine Ev_go rfl ?_
      refine Ev_if (fun g3 => ?_) (fun g3 => ?_)
      · iterate 2 refine Ev_go rfl ?_
        exact fin 1 (by unfold loO; rw [if_pos (Or.inr g3)]; rfl)
      · iterate 1 refine Ev_go rfl ?_
        exact fin 0 (by unfold loO; rw [if_neg (fun e => e.elim g2 g3)]; rfl)
def trc (t : Int32) (x : Int32) : Int32 := 31 * t + x
def sp_tell (f : FF) (a : AA) (h : Int32) : Int32 × FF := if ¬ isH f h then (-1, f) else if a 0 (nC h) = 2 then (2 * a 1 (nC h) + 100, va_up f 23 (trc (trc (trc (trc (f 23) 3) 2) 1) 1)) else if a 0 (nC h) = 1 then (a 1 (nC h) + 100, va_up f 23 (trc (trc (f 23) 2) 1)) else (a 1 (nC h), va_up f 23 (trc (f 23) 1))
theorem M_tell {σ : kt_H} {f : FF} {a : AA} {Q : Option Value → kt_H → Prop} (hI : Inv f a) (h : Int32) (hq : Q (some (.int (sp_tell f a h).1)) (mM σ (sp_tell f a h).2 a)) : Cs nX12_tell [.ref 136, .int h] (mM σ f a) Q := by
  unfold sp_tell at hq
  refine Cs_in (k := kX12_tell) [some (.ref 136), some (.int h), none, none] rfl rfl ?_
  repeat refine Ev_go rfl ?_
  refine Ev_ca rfl ?_
  refine m_noHull h ?_
  repeat refine Ev_go rfl ?_
  refine Ev_ifb (fun g1 => ?_) (fun g1 => ?_)
  · rw [if_neg g1] at hq
    have g1 := Decidable.not_not.mp g1
    obtain ⟨h', c1, rfl, hk, -⟩ := Inv_h hI g1
    simp only [nC, nI_clamp (show h' < 2 ^ 31 by omega)] at hq
    repeat refine Ev_go rfl ?_
    refine Ev_ial h' rfl rfl rfl c1 (by decide) ?_
    rcases hk with hk | hk | hk
    · rw [hk, if_neg (by decide), if_neg (by decide)] at hq
      rw [hk]
      repeat refine Ev_go rfl ?_
      refine Ev_ca rfl ?_
      refine m_traced 1 ?_
      repeat refine Ev_go rfl ?_
      refine Ev_ial h' rfl rfl rfl c1 (by decide) ?_
      repeat refine Ev_go rfl ?_
      refine Ev_rt rfl ?_
      exact hq
    · rw [hk, if_neg (by decide), if_pos rfl] at hq
      rw [hk]
      repeat refine Ev_go rfl ?_
      refine Ev_ca rfl ?_
      refine m_traced 2 ?_
      repeat refine Ev_go rfl ?_
      refine Ev_ca rfl ?_
      refine m_traced 1 ?_
      repeat refine Ev_go rfl ?_
      refine Ev_ial h' rfl rfl rfl c1 (by decide) ?_
      repeat refine Ev_go rfl ?_
      refine Ev_rt rfl ?_
      rw [bx_uu]
      exact hq
    · rw [hk, if_pos rfl] at hq
      rw [hk]
      repeat refine Ev_go rfl ?_
      refine Ev_ca rfl ?_
      refine m_traced 3 ?_
      repeat refine Ev_go rfl ?_
      refine Ev_ca rfl ?_
      refine m_traced 2 ?_
      repeat refine Ev_go rfl ?_
      refine Ev_ca rfl ?_
      refine m_traced 1 ?_
      repeat refine Ev_go rfl ?_
      refine Ev_ca rfl ?_
      refine m_traced 1 ?_
      repeat refine Ev_go rfl ?_
      refine Ev_ial h' rfl rfl rfl c1 (by decide) ?_
      repeat refine Ev_go rfl ?_
      refine Ev_rt rfl ?_
      rw [bx_uu, bx_uu, bx_uu]
      exact hq
  · rw [if_pos g1] at hq
    repeat refine Ev_go rfl ?_
    refine Ev_rt rfl ?_
    exact hq
def sp_launch (f : FF) (a : AA) (h : Int32) : Int32 × FF := if ¬ isH f h then (-1, f) else if a 0 (nC h) = 2 then (90, va_up f 23 (trc (f 23) 5)) else (h, va_up f 23 (trc (f 23) 4))
theorem M_launch {σ : kt_H} {f : FF} {a : AA} {Q : Option Value → kt_H → Prop} (hI : Inv f a) (h : Int32) (hq : Q (some (.int (sp_launch f a h).1)) (mM σ (sp_launch f a h).2 a)) : Cs nX12_launch [.ref 136, .int h] (mM σ f a) Q := by
  unfold sp_launch at hq
  refine Cs_in (k := kX12_launch) [some (.ref 136), some (.int h)] rfl rfl ?_
  repeat refine Ev_go rfl ?_
  refine Ev_ca rfl ?_
  refine m_noHull h ?_
  repeat refine Ev_go rfl ?_
  refine Ev_ifb (fun g1 => ?_) (fun g1 => ?_)
  · rw [if_neg g1] at hq
    have g1 := Decidable.not_not.mp g1
    obtain ⟨h', c1, rfl, hk, -⟩ := Inv_h hI g1
    simp only [nC, nI_clamp (show h' < 2 ^ 31 by omega)] at hq
    repeat refine Ev_go rfl ?_
    refine Ev_ial h' rfl rfl rfl c1 (by decide) ?_
    repeat refine Ev_go rfl ?_
    refine Ev_if (fun g2 => ?_) (fun g2 => ?_)
    · rw [if_pos g2] at hq
      repeat refine Ev_go rfl ?_
      refine Ev_ca rfl ?_
      refine m_traced 5 ?_
      repeat refine Ev_go rfl ?_
      refine Ev_ial h' rfl rfl rfl c1 (by decide) ?_
      repeat refine Ev_go rfl ?_
      refine Ev_if (fun _ => ?_) (fun e => absurd g2 e)
      repeat refine Ev_go rfl ?_
      refine Ev_rt rfl ?_
      exact hq
    · rw [if_neg g2] at hq
      repeat refine Ev_go rfl ?_
      refine Ev_ca rfl ?_
      refine m_traced 4 ?_
      repeat refine Ev_go rfl ?_
      refine Ev_ial h' rfl rfl rfl c1 (by decide) ?_
      repeat refine Ev_go rfl ?_
      refine Ev_if (fun e => absurd e g2) (fun _ => ?_)
      repeat refine Ev_go rfl ?_
      refine Ev_rt rfl ?_
      exact hq
  · rw [if_pos g1] at hq
    repeat refine Ev_go rfl ?_
    refine Ev_rt rfl ?_
    exact hq
def sp_as (f : FF) (a : AA) (h kind : Int32) : Int32 × FF := if ¬ isH f h then (-1, va_up f 0 0) else if ¬ is2 kind then (-2, va_up f 0 0) else if a 0 (nC h) < kind then (-12, va_up f 0 2) else (1, va_up f 0 0)
theorem M_as {σ : kt_H} {f : FF} {a : AA} {Q : Option Value → kt_H → Prop} (hI : Inv f a) (h kind : Int32) (hq : Q (some (.int (sp_as f a h kind).1)) (mM σ (sp_as f a h kind).2 a)) : Cs nX12_as [.ref 136, .int h, .int kind] (mM σ f a) Q := by
  unfold sp_as at hq
  refine Cs_in (k := kX12_as) [some (.ref 136), some (.int h), some (.int kind)] rfl rfl ?_
  repeat refine Ev_go rfl ?_
  refine Ev_ca rfl ?_
  refine m_noHull h ?_
  repeat refine Ev_go rfl ?_
  refine Ev_ifb (fun g1 => ?_) (fun g1 => ?_)
  · rw [if_neg g1] at hq
    have g1 := Decidable.not_not.mp g1
    obtain ⟨h', c1, rfl, hk, -⟩ := Inv_h hI g1
    simp only [nC, nI_clamp (show h' < 2 ^ 31 by omega)] at hq
    repeat refine Ev_go rfl ?_
    refine Ev_ca rfl ?_
    refine m_isKind kind ?_
    repeat refine Ev_go rfl ?_
    refine Ev_ifb (fun g2 => ?_) (fun g2 => ?_)
    · rw [if_pos g2] at hq
      repeat refine Ev_go rfl ?_
      refine Ev_ca rfl ?_
      refine m_refused _ ?_
      refine Ev_rt rfl ?_
      exact hq
    · rw [if_neg (fun e => e g2)] at hq
      repeat refine Ev_go rfl ?_
      refine Ev_ial h' rfl rfl rfl c1 (by decide) ?_
      repeat refine Ev_go rfl ?_
      refine Ev_if (fun g3 => ?_) (fun g3 => ?_)
      · rw [if_pos g3] at hq
        repeat refine Ev_go rfl ?_
        refine Ev_ca rfl ?_
        refine m_failed _ ?_
        refine Ev_rt rfl ?_
        exact hq
      · rw [if_neg g3] at hq
        repeat refine Ev_go rfl ?_
        refine Ev_ca rfl ?_
        refine m_refused _ ?_
        repeat refine Ev_go rfl ?_
        refine Ev_rt rfl ?_
        exact hq
  · rw [if_pos g1] at hq
    repeat refine Ev_go rfl ?_
    refine Ev_ca rfl ?_
    refine m_refused _ ?_
    refine Ev_rt rfl ?_
    exact hq
