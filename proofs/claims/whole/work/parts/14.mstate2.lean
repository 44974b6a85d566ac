/-! the model: more calls that move the state -/
theorem mM_Qa {σ : kt_H} {f : FF} {a b : AA} {Q : Option Value → kt_H → Prop} {v : Option Value} (e : a = b) (hq : Q v (mM σ f b)) : Q v (mM σ f a) := e ▸ hq
abbrev bey (i n sz : Int32) : Prop := i.toInt < 0 ∨ n.toInt < 0 ∨ sz.toInt < i.toInt + n.toInt
def sp_copy (f : FF) (a : AA) (k i o j n : Int32) : Int32 × FF × AA :=
  if ¬ isK k ∨ ¬ isK o then (-1, va_up f 0 0, a) else if (a 10 (nC k)).toInt < 0 ∨ (a 10 (nC o)).toInt < 0 then (-11, va_up f 0 1, a)
  else if ¬ a 11 (nC k) = a 11 (nC o) then (-12, va_up f 0 2, a) else if bey i n (a 10 (nC k)) ∨ bey j n (a 10 (nC o)) then (-13, va_up f 0 3, a)
  else (n, va_up f 0 0, va_up a 12 (va_cpy (a 12) (a 12) (60 * nC k + nC i) (60 * nC o + nC j) (nC n)))
/-- the first d of n places laid from b on, out of g from s on -/
def cpf (g h : Nat → Int32) (s b d : Nat) : Nat → Int32 := fun z => if b ≤ z ∧ z < b + d then g (s + (z - b)) else h z
theorem cpf_0 (g h : Nat → Int32) (s b : Nat) : cpf g h s b 0 = h := by
  funext z
  unfold cpf
  rw [if_neg (by omega)]
theorem cpf_s (g h : Nat → Int32) (s b d : Nat) : upd (cpf g h s b d) (b + d) (g (s + d)) = cpf g h s b (d + 1) := by
  funext z
  unfold cpf upd
  by_cases e : z = b + d
  · rw [if_pos e, if_pos (by omega)]
    congr 1
    omega
  · by_cases e2 : b ≤ z ∧ z < b + d
    · rw [if_neg e]
      dsimp only
      rw [if_pos e2, if_pos (by omega)]
    · rw [if_neg e]
      dsimp only
      rw [if_neg e2, if_neg (by omega)]
theorem ix60' (k i x : Nat) : 60 * nI k + nI i + nI x = nI (60 * k + i + x) := by rw [ix60, nI_add]
theorem m_copy_1 {σ : kt_H} {f : FF} {a : AA} {Q : Option Value → kt_H → Prop} (k i n : Nat) (o j : Int32) (hk : k < 4) (hin : i + n ≤ 60) : ∀ (d x : Nat), x + d = n → Ev kX12_copy (141, [some (.ref 136), some (.int (nI k)), some (.int (nI i)), some (.int o), some (.int j), some (.int (nI n)), some (.int (nI n))], [], mM σ f (va_up a 13 (cpf (a 12) (a 13) (60 * k + i) 0 n))) Q → Ev kX12_copy (if nI n ≤ nI x then 141 else 114, [some (.ref 136), some (.int (nI k)), some (.int (nI i)), some (.int o), some (.int j), some (.int (nI n)), some (.int (nI x))], [], mM σ f (va_up a 13 (cpf (a 12) (a 13) (60 * k + i) 0 x))) Q := by
  intro d
  induction d with
  | zero =>
    intro x hx h
    have e : x = n := by omega
    subst e
    exact Ev_if (fun _ => h) (fun g1 => absurd (nI_le (Nat.le_refl x) (by omega)) g1)
  | succ d ih =>
    intro x hx h
    refine Ev_if (fun g1 => absurd g1 (nI_ge (by omega) (by omega))) (fun _ => ?_)
    repeat refine Ev_go rfl ?_
    refine Ev_ial (60 * k + i + x) rfl rfl (ix60' k i x) (by omega) (by decide) ?_
    refine Ev_mstu 13 x rfl (fun _ => rfl) rfl (by omega) (by decide) ?_
    rw [show upd (cpf (a 12) (a 13) (60 * k + i) 0 x) x (va_up a 13 (cpf (a 12) (a 13) (60 * k + i) 0 x) 12 (60 * k + i + x)) = cpf (a 12) (a 13) (60 * k + i) 0 (x + 1) by
      have := cpf_s (a 12) (a 13) (60 * k + i) 0 x
      rw [Nat.zero_add] at this
      exact this]
    repeat refine Ev_go rfl ?_
    rw [nI_1]
    exact ih (x + 1) (by omega) h
theorem m_copy_2 {σ : kt_H} {f : FF} {a : AA} {Q : Option Value → kt_H → Prop} {h0 : Nat → Int32} (o j n : Nat) (k i : Int32) (ho : o < 4) (hjn : j + n ≤ 60) : ∀ (d x : Nat), x + d = n → Ev kX12_copy (179, [some (.ref 136), some (.int k), some (.int i), some (.int (nI o)), some (.int (nI j)), some (.int (nI n)), some (.int (nI n))], [], mM σ f (va_up a 12 (cpf (a 13) h0 0 (60 * o + j) n))) Q → Ev kX12_copy (if nI n ≤ nI x then 179 else 151, [some (.ref 136), some (.int k), some (.int i), some (.int (nI o)), some (.int (nI j)), some (.int (nI n)), some (.int (nI x))], [], mM σ f (va_up a 12 (cpf (a 13) h0 0 (60 * o + j) x))) Q := by
  intro d
  induction d with
  | zero =>
    intro x hx h
    have e : x = n := by omega
    subst e
    exact Ev_if (fun _ => h) (fun g1 => absurd (nI_le (Nat.le_refl x) (by omega)) g1)
  | succ d ih =>
    intro x hx h
    refine Ev_if (fun g1 => absurd g1 (nI_ge (by omega) (by omega))) (fun _ => ?_)
    repeat refine Ev_go rfl ?_
    refine Ev_ial x rfl rfl rfl (by omega) (by decide) ?_
    refine Ev_mstu 12 (60 * o + j + x) rfl (fun _ => rfl) (ix60' o j x) (by omega) (by decide) ?_
    rw [show upd (cpf (a 13) h0 0 (60 * o + j) x) (60 * o + j + x) (va_up a 12 (cpf (a 13) h0 0 (60 * o + j) x) 13 x) = cpf (a 13) h0 0 (60 * o + j) (x + 1) by
      have := cpf_s (a 13) h0 0 (60 * o + j) x
      rw [Nat.zero_add] at this
      exact this]
    repeat refine Ev_go rfl ?_
    rw [nI_1]
    exact ih (x + 1) (by omega) h
theorem M_copy {σ : kt_H} {f : FF} {a : AA} {Q : Option Value → kt_H → Prop} (hI : Inv f a) (k i o j n : Int32) (hq : ∀ f2 a2, Jk (sp_copy f a k i o j n).2.1 (sp_copy f a k i o j n).2.2 f2 a2 → Q (some (.int (sp_copy f a k i o j n).1)) (mM σ f2 a2)) : Cs nX12_copy [.ref 136, .int k, .int i, .int o, .int j, .int n] (mM σ f a) Q := by
  have e0 : (0 : Int32).toInt = 0 := rfl
  have bn1 := Int32.toInt_lt n
  have bn2 := Int32.le_toInt n
  unfold sp_copy at hq
  refine Cs_in (k := kX12_copy) [some (.ref 136), some (.int k), some (.int i), some (.int o), some (.int j), some (.int n), none] rfl rfl ?_
  have bad : (¬ isK k ∨ ¬ isK o) → Ev kX12_copy (14, [some (.ref 136), some (.int k), some (.int i), some (.int o), some (.int j), some (.int n), none], [], mM σ f a) Q := by
    intro h
    rw [if_pos h] at hq
    repeat refine Ev_go rfl ?_
    refine Ev_ca rfl ?_
    refine m_refused _ ?_
    refine Ev_rt rfl ?_
    exact hq _ _ Jk.rf
  repeat refine Ev_go rfl ?_
  refine Ev_ca rfl ?_
  refine m_noSheet k ?_
  repeat refine Ev_go rfl ?_
  refine Ev_ifb (fun g1 => ?_) (fun g1 => bad (Or.inl g1))
  have g1 := Decidable.not_not.mp g1
  repeat refine Ev_go rfl ?_
  refine Ev_ca rfl ?_
  refine m_noSheet o ?_
  repeat refine Ev_go rfl ?_
  refine Ev_ifb (fun g2 => ?_) (fun g2 => bad (Or.inr g2))
  have g2 := Decidable.not_not.mp g2
  rw [if_neg (fun e => e.elim (fun z => z g1) (fun z => z g2))] at hq
  obtain ⟨k', a1, -, rfl⟩ := nI_ex 3 g1
  obtain ⟨o', a2, -, rfl⟩ := nI_ex 3 g2
  simp only [nC, nI_clamp (show k' < 2 ^ 31 by omega), nI_clamp (show o' < 2 ^ 31 by omega)] at hq
  have bad2 : ((a 10 k').toInt < 0 ∨ (a 10 o').toInt < 0) → Ev kX12_copy (38, [some (.ref 136), some (.int (nI k')), some (.int i), some (.int (nI o')), some (.int j), some (.int n), none], [], mM σ f a) Q := by
    intro h
    rw [if_pos h] at hq
    repeat refine Ev_go rfl ?_
    refine Ev_ca rfl ?_
    refine m_failed _ ?_
    refine Ev_rt rfl ?_
    exact hq _ _ Jk.rf
  repeat refine Ev_go rfl ?_
  refine Ev_ial k' rfl rfl rfl (by omega) (by decide) ?_
  repeat refine Ev_go rfl ?_
  refine Ev_if (fun g3 => bad2 (Or.inl (by rw [fa_lt] at g3; omega))) (fun g3 => ?_)
  rw [fa_lt] at g3
  repeat refine Ev_go rfl ?_
  refine Ev_ial o' rfl rfl rfl (by omega) (by decide) ?_
  repeat refine Ev_go rfl ?_
  refine Ev_if (fun g4 => ?_) (fun g4 => bad2 (Or.inr (by rw [fa_le] at g4; omega)))
  rw [fa_le] at g4
  rw [if_neg (by omega)] at hq
  repeat refine Ev_go rfl ?_
  refine Ev_ial k' rfl rfl rfl (by omega) (by decide) ?_
  repeat refine Ev_go rfl ?_
  refine Ev_ial o' rfl rfl rfl (by omega) (by decide) ?_
  repeat refine Ev_go rfl ?_
  refine Ev_if (fun g5 => ?_) (fun g5 => ?_)
  · rw [if_neg (fun e => e g5)] at hq
    have bad3 : (bey i n (a 10 k') ∨ bey j n (a 10 o')) → Ev kX12_copy (98, [some (.ref 136), some (.int (nI k')), some (.int i), some (.int (nI o')), some (.int j), some (.int n), none], [], mM σ f a) Q := by
      intro h
      rw [if_pos h] at hq
      repeat refine Ev_go rfl ?_
      refine Ev_ca rfl ?_
      refine m_failed _ ?_
      refine Ev_rt rfl ?_
      exact hq _ _ Jk.rf
    repeat refine Ev_go rfl ?_
    refine Ev_ial k' rfl rfl rfl (by omega) (by decide) ?_
    refine Ev_ca rfl ?_
    refine m_isBeyond i (a 10 k') n.toInt (fa_wide _) ⟨by omega, by omega⟩ ?_
    repeat refine Ev_go rfl ?_
    refine Ev_ifb (fun g6 => ?_) (fun g6 => bad3 (Or.inl g6))
    repeat refine Ev_go rfl ?_
    refine Ev_ial o' rfl rfl rfl (by omega) (by decide) ?_
    refine Ev_ca rfl ?_
    refine m_isBeyond j (a 10 o') n.toInt (fa_wide _) ⟨by omega, by omega⟩ ?_
    repeat refine Ev_go rfl ?_
    refine Ev_ifb (fun g7 => ?_) (fun g7 => bad3 (Or.inr g7))
    rw [if_neg (fun e => e.elim g6 g7)] at hq
    have s1 := (hI.2.2.2 k' (by omega)).1
    have s2 := (hI.2.2.2 o' (by omega)).1
    obtain ⟨i', b1, c1, rfl⟩ := nI_ex (x := i) (A := 0) (B := 60) 60 ⟨by omega, by omega⟩
    obtain ⟨j', b2, c2, rfl⟩ := nI_ex (x := j) (A := 0) (B := 60) 60 ⟨by omega, by omega⟩
    obtain ⟨n', b3, c3, rfl⟩ := nI_ex (x := n) (A := 0) (B := 60) 60 ⟨by omega, by omega⟩
    simp only [nI_clamp (show i' < 2 ^ 31 by omega), nI_clamp (show j' < 2 ^ 31 by omega), nI_clamp (show n' < 2 ^ 31 by omega)] at hq
    repeat refine Ev_go rfl ?_
    have l1 := m_copy_1 (σ := σ) (f := f) (a := a) (Q := Q) k' i' n' (nI o') (nI j') (by omega) (by omega) n' 0 (by omega)
    rw [cpf_0, va_up_id] at l1
    refine l1 ?_
    repeat refine Ev_go rfl ?_
    have l2 := m_copy_2 (σ := σ) (f := f) (a := va_up a 13 (cpf (a 12) (a 13) (60 * k' + i') 0 n')) (Q := Q) (h0 := a 12) o' j' n' (nI k') (nI i') (by omega) (by omega) n' 0 (by omega)
    rw [cpf_0, show va_up (va_up a 13 (cpf (a 12) (a 13) (60 * k' + i') 0 n')) 12 (a 12) = va_up a 13 (cpf (a 12) (a 13) (60 * k' + i') 0 n') from va_up_id (va_up a 13 (cpf (a 12) (a 13) (60 * k' + i') 0 n')) 12] at l2
    refine l2 ?_
    repeat refine Ev_go rfl ?_
    refine Ev_ca rfl ?_
    refine m_refused _ ?_
    refine Ev_rt rfl ?_
    refine hq _ _ ⟨fun _ _ _ _ _ _ _ => rfl, fun q q1 q2 q3 q4 => ?_⟩
    by_cases h12 : q = 12
    · subst h12
      rw [va_up_s, va_up_s, va_up_s]
      funext z
      unfold cpf va_cpy
      by_cases hz : 60 * o' + j' ≤ z ∧ z < 60 * o' + j' + n'
      · rw [if_pos hz, if_pos hz, if_pos (by omega)]
        congr 1
        omega
      · rw [if_neg hz, if_neg hz]
    · rw [va_up_n _ _ h12, va_up_n _ _ h12, va_up_n _ _ q4]
  · rw [if_pos g5] at hq
    repeat refine Ev_go rfl ?_
    refine Ev_ca rfl ?_
    refine m_failed _ ?_
    refine Ev_rt rfl ?_
    exact hq _ _ Jk.rf
theorem M_trace {σ : kt_H} {f : FF} {a : AA} {Q : Option Value → kt_H → Prop} (hq : Q (some (.int (f 23))) (mM σ f a)) : Cs nX12_trace [.ref 136] (mM σ f a) Q := by
  refine Cs_in (k := kX12_trace) [some (.ref 136)] rfl rfl ?_
  repeat refine Ev_go rfl ?_
  refine Ev_rt rfl ?_
  exact hq
theorem M_fault {σ : kt_H} {f : FF} {a : AA} {Q : Option Value → kt_H → Prop} (hq : Q (some (.int (f 0))) (mM σ f a)) : Cs nX12_fault [.ref 136] (mM σ f a) Q := by
  refine Cs_in (k := kX12_fault) [some (.ref 136)] rfl rfl ?_
  repeat refine Ev_go rfl ?_
  refine Ev_rt rfl ?_
  exact hq
/-- the sum of the first n -/
def smI (g : Nat → Int32) : Nat → Int32
  | 0 => 0
  | n + 1 => smI g n + g n
def sp_many (f : FF) (a : AA) (what : Int32) : Int32 := if what = 0 then f 1 else if what = 1 then f 10 else if what = 2 then smI (a 6) (nC (f 10)) else -2
theorem m_many_loop {σ : kt_H} {f : FF} {a : AA} {Q : Option Value → kt_H → Prop} (what : Int32) (lc : Nat) (hl : lc ≤ 8) (hf : f 10 = nI lc) : ∀ (d x : Nat), x + d = lc → Ev kX12_many (27, [some (.ref 136), some (.int what), some (.int (smI (a 6) lc)), some (.int (nI lc))], [], mM σ f a) Q → Ev kX12_many (if f 10 ≤ nI x then 27 else 12, [some (.ref 136), some (.int what), some (.int (smI (a 6) x)), some (.int (nI x))], [], mM σ f a) Q := by
  intro d
  induction d with
  | zero =>
    intro x hx h
    have e : x = lc := by omega
    subst e
    rw [hf]
    exact Ev_if (fun _ => h) (fun g1 => absurd (nI_le (Nat.le_refl x) (by omega)) g1)
  | succ d ih =>
    intro x hx h
    rw [hf]
    refine Ev_if (fun g1 => absurd g1 (nI_ge (by omega) (by omega))) (fun _ => ?_)
    repeat refine Ev_go rfl ?_
    refine Ev_ial x rfl rfl rfl (by omega) (by decide) ?_
    repeat refine Ev_go rfl ?_
    rw [nI_1]
    exact ih (x + 1) (by omega) h
theorem M_many {σ : kt_H} {f : FF} {a : AA} {Q : Option Value → kt_H → Prop} (hI : Inv f a) (what : Int32) (hq : Q (some (.int (sp_many f a what))) (mM σ f a)) : Cs nX12_many [.ref 136, .int what] (mM σ f a) Q := by
  obtain ⟨lc, b1, b2, -⟩ := hI.2.1
  unfold sp_many at hq
  rw [show nC (f 10) = lc by rw [b2]; exact nI_clamp (by omega)] at hq
  refine Cs_in (k := kX12_many) [some (.ref 136), some (.int what), none, none] rfl rfl ?_
  repeat refine Ev_go rfl ?_
  refine m_many_loop what lc b1 b2 lc 0 (by omega) ?_
  repeat refine Ev_go rfl ?_
  refine Ev_if (fun g1 => ?_) (fun g1 => ?_)
  · rw [if_pos g1] at hq
    repeat refine Ev_go rfl ?_
    refine Ev_rt rfl ?_
    exact hq
  · rw [if_neg g1] at hq
    repeat refine Ev_go rfl ?_
    refine Ev_if (fun g2 => ?_) (fun g2 => ?_)
    · rw [if_pos g2] at hq
      repeat refine Ev_go rfl ?_
      refine Ev_rt rfl ?_
      exact hq
    · rw [if_neg g2] at hq
      repeat refine Ev_go rfl ?_
      refine Ev_if (fun g3 => ?_) (fun g3 => ?_)
      · rw [if_pos g3] at hq
        repeat refine Ev_go rfl ?_
        refine Ev_rt rfl ?_
        exact hq
      · rw [if_neg g3] at hq
        repeat refine Ev_go rfl ?_
        refine Ev_rt rfl ?_
        exact hq
