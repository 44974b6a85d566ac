/-! the model: calls that move the state, each by a function of the state -/
abbrev FF : Type := Nat → Int32
abbrev AA : Type := Nat → Nat → Int32
/-- all but the model's own scratch agrees -/
def Jk (f : FF) (a : AA) (f2 : FF) (a2 : AA) : Prop := (∀ q, q ≠ 6 → q ≠ 7 → q ≠ 13 → q ≠ 14 → q ≠ 17 → q ≠ 18 → f2 q = f q) ∧ ∀ q, q ≠ 4 → q ≠ 5 → q ≠ 8 → q ≠ 13 → a2 q = a q
theorem Jk.rf {f : FF} {a : AA} : Jk f a f a := ⟨fun _ _ _ _ _ _ _ => rfl, fun _ _ _ _ _ => rfl⟩
abbrev isK (k : Int32) : Prop := 0 ≤ k.toInt ∧ k.toInt ≤ 3
abbrev is2 (k : Int32) : Prop := 0 ≤ k.toInt ∧ k.toInt ≤ 2
abbrev isH (f : FF) (h : Int32) : Prop := 0 ≤ h.toInt ∧ h.toInt ≤ (f 1).toInt - 1
abbrev isW (f : FF) (l : Int32) : Prop := 0 ≤ l.toInt ∧ l.toInt ≤ (f 10).toInt - 1
abbrev LOSTL : Int64 := -9223372036854775808
/-- what the tables' numbers are, always -/
def Inv (f : FF) (a : AA) : Prop := (∃ hc : Nat, hc ≤ 16 ∧ f 1 = nI hc ∧ ∀ h, h < hc → (a 0 h = 0 ∨ a 0 h = 1 ∨ a 0 h = 2) ∧ ∃ n : Nat, 1 ≤ n ∧ n ≤ 8 ∧ a 1 h = nI n ∧ ∀ x, x < n → (1 ≤ (a 2 (8 * h + x)).toInt ∧ (a 2 (8 * h + x)).toInt ≤ 9) ∧ (1 ≤ (a 3 (8 * h + x)).toInt ∧ (a 3 (8 * h + x)).toInt ≤ 9)) ∧
  (∃ lc : Nat, lc ≤ 8 ∧ f 10 = nI lc ∧ ∀ l, l < lc → ∃ n : Nat, 1 ≤ n ∧ n ≤ 4 ∧ a 6 l = nI n ∧ ∀ w, w < n → (∀ q, q < 3 → a 7 (20 * l + 5 * w + q) = -9 ∨ (0 ≤ (a 7 (20 * l + 5 * w + q)).toInt ∧ (a 7 (20 * l + 5 * w + q)).toInt ≤ 7) ∨ (101 ≤ (a 7 (20 * l + 5 * w + q)).toInt ∧ (a 7 (20 * l + 5 * w + q)).toInt ≤ 199)) ∧ (1 ≤ (a 7 (20 * l + 5 * w + 3)).toInt ∧ (a 7 (20 * l + 5 * w + 3)).toInt ≤ 9) ∧ (a 7 (20 * l + 5 * w + 4) = -9 ∨ (0 ≤ (a 7 (20 * l + 5 * w + 4)).toInt ∧ (a 7 (20 * l + 5 * w + 4)).toInt ≤ 999))) ∧
  ((0 ≤ (a 9 0).toInt ∧ (a 9 0).toInt ≤ 8) ∧ (0 ≤ (a 9 1).toInt ∧ (a 9 1).toInt ≤ 8) ∧ (1 ≤ (a 9 2).toInt ∧ (a 9 2).toInt ≤ 9) ∧ (0 ≤ (a 9 3).toInt ∧ (a 9 3).toInt ≤ 999) ∧ (0 ≤ (a 9 4).toInt ∧ (a 9 4).toInt ≤ 9) ∧ (1 ≤ (a 9 5).toInt ∧ (a 9 5).toInt ≤ 99)) ∧
  ∀ k, k < 4 → (-1 ≤ (a 10 k).toInt ∧ (a 10 k).toInt ≤ 60) ∧ (0 ≤ (a 11 k).toInt ∧ (a 11 k).toInt ≤ 2)
/-- what comes to a cell is cut to its lane -/
def cut (lane v : Int32) : Int32 := if lane = 0 then v.toInt8.toInt32 else if lane = 1 then v.toInt16.toInt32 else v
abbrev nC (x : Int32) : Nat := x.toNatClampNeg
def sp_sheet (f : FF) (a : AA) (k lane n : Int32) : Int32 × FF × AA :=
  if ¬ isK k then (-1, va_up f 0 0, a) else if ¬ is2 lane ∨ 60 < n.toInt then (-2, va_up f 0 0, a) else if n.toInt < 0 then (-14, va_up f 0 4, a)
  else (1, va_up f 0 0, va_up (va_up (va_up a 10 (upd (a 10) (nC k) n)) 11 (upd (a 11) (nC k) lane)) 12 (zf (a 12) (60 * nC k) (nC n)))
theorem M_sheet {σ : kt_H} {f : FF} {a : AA} {Q : Option Value → kt_H → Prop} (k lane n : Int32) (hq : Q (some (.int (sp_sheet f a k lane n).1)) (mM σ (sp_sheet f a k lane n).2.1 (sp_sheet f a k lane n).2.2)) : Cs nX12_sheet [.ref 136, .int k, .int lane, .int n] (mM σ f a) Q := by
  unfold sp_sheet at hq
  refine m_sheet k lane n (fun h1 => ?_) (fun h1 h2 => ?_) (fun h1 h2 h3 => ?_) (fun k' n' h1 h2 h3 h4 h5 => ?_)
  · rw [if_pos h1] at hq; exact hq
  · rw [if_neg (fun e => e h1), if_pos h2] at hq; exact hq
  · rw [if_neg (fun e => e h1), if_neg h2, if_pos h3] at hq; exact hq
  · subst h3
    subst h4
    have e1 := nI_toInt (n := k') (by omega)
    have e2 := nI_toInt (n := n') (by omega)
    rw [if_neg (fun e => e ⟨by omega, by omega⟩), if_neg (fun e => e.elim (fun z => z h5) (fun z => by omega)), if_neg (by omega)] at hq
    simp only [nC, nI_clamp (show k' < 2 ^ 31 by omega), nI_clamp (show n' < 2 ^ 31 by omega)] at hq
    exact hq
def sp_lose (a : AA) (k : Int32) : Int32 × AA := if ¬ isK k then (-1, a) else (if (a 10 (nC k)).toInt < 0 then 0 else 1, va_up a 10 (upd (a 10) (nC k) (-1)))
theorem M_lose {σ : kt_H} {f : FF} {a : AA} {Q : Option Value → kt_H → Prop} (k : Int32) (hq : Q (some (.int (sp_lose a k).1)) (mM σ f (sp_lose a k).2)) : Cs nX12_lose [.ref 136, .int k] (mM σ f a) Q := by
  unfold sp_lose at hq
  have e0 : (0 : Int32).toInt = 0 := rfl
  refine Cs_in (k := kX12_lose) [some (.ref 136), some (.int k), none] rfl rfl ?_
  repeat refine Ev_go rfl ?_
  refine Ev_ca rfl ?_
  refine m_noSheet k ?_
  repeat refine Ev_go rfl ?_
  refine Ev_ifb (fun g1 => ?_) (fun g1 => ?_)
  · have g1 := Decidable.not_not.mp g1
    rw [if_neg (fun e => e g1)] at hq
    obtain ⟨k', a1, -, rfl⟩ := nI_ex 3 g1
    simp only [nC, nI_clamp (show k' < 2 ^ 31 by omega)] at hq
    repeat refine Ev_go rfl ?_
    refine Ev_ial k' rfl rfl rfl (by omega) (by decide) ?_
    repeat refine Ev_go rfl ?_
    have fin : ∀ x : Int32, x = (if (a 10 k').toInt < 0 then 0 else 1) → Ev kX12_lose (23, [some (.ref 136), some (.int (nI k')), none], [.int x], mM σ f a) Q := by
      intro x hx
      subst hx
      repeat refine Ev_go rfl ?_
      refine Ev_mst 10 k' rfl (fun _ => rfl) rfl (by omega) (by decide) ?_
      repeat refine Ev_go rfl ?_
      refine Ev_rt rfl ?_
      exact hq
    refine Ev_if (fun g2 => ?_) (fun g2 => ?_)
    · rw [fa_le] at g2
      iterate 1 refine Ev_go rfl ?_
      exact fin 1 (by rw [if_neg (by omega)])
    · rw [fa_le] at g2
      iterate 2 refine Ev_go rfl ?_
      exact fin 0 (by rw [if_pos (by omega)])
  · rw [if_pos g1] at hq
    repeat refine Ev_go rfl ?_
    refine Ev_rt rfl ?_
    exact hq
/-- why a cell can't be had: the fault, or 0 -/
def noC (a : AA) (k : Nat) (i : Int32) : Int32 := if (a 10 k).toInt < 0 then 1 else if 0 ≤ i.toInt ∧ i.toInt ≤ (a 10 k).toInt - 1 then 0 else 3
theorem noC_c {a : AA} {k : Nat} {i : Int32} : noC a k i = 0 ∨ noC a k i = 1 ∨ noC a k i = 3 := by
  unfold noC
  split
  · exact Or.inr (Or.inl rfl)
  · split
    · exact Or.inl rfl
    · exact Or.inr (Or.inr rfl)
def sp_put (f : FF) (a : AA) (k i v : Int32) : Int32 × FF × AA :=
  if ¬ isK k then (-1, va_up f 0 0, a) else if noC a (nC k) i ≠ 0 then (-10 - noC a (nC k) i, va_up f 0 (noC a (nC k) i), a)
  else (1, va_up f 0 0, va_up a 12 (upd (a 12) (60 * nC k + nC i) (cut (a 11 (nC k)) v)))
theorem M_put {σ : kt_H} {f : FF} {a : AA} {Q : Option Value → kt_H → Prop} (hI : Inv f a) (k i v : Int32) (hq : Q (some (.int (sp_put f a k i v).1)) (mM σ (sp_put f a k i v).2.1 (sp_put f a k i v).2.2)) : Cs nX12_put [.ref 136, .int k, .int i, .int v] (mM σ f a) Q := by
  unfold sp_put at hq
  refine Cs_in (k := kX12_put) [some (.ref 136), some (.int k), some (.int i), some (.int v)] rfl rfl ?_
  repeat refine Ev_go rfl ?_
  refine Ev_ca rfl ?_
  refine m_noSheet k ?_
  repeat refine Ev_go rfl ?_
  refine Ev_ifb (fun g1 => ?_) (fun g1 => ?_)
  · have g1 := Decidable.not_not.mp g1
    rw [if_neg (fun e => e g1)] at hq
    obtain ⟨k', a1, -, rfl⟩ := nI_ex 3 g1
    simp only [nC, nI_clamp (show k' < 2 ^ 31 by omega)] at hq
    repeat refine Ev_go rfl ?_
    refine Ev_ca rfl ?_
    refine m_noCell k' (by omega) i ?_
    repeat refine Ev_go rfl ?_
    refine Ev_if (fun g2 => ?_) (fun g2 => ?_)
    · have g3 : noC a k' i = 0 := by
        rcases noC_c (a := a) (k := k') (i := i) with h | h | h
        · exact h
        · have g2 : noC a k' i ≤ 0 := g2
          rw [h] at g2; exact absurd g2 (by decide)
        · have g2 : noC a k' i ≤ 0 := g2
          rw [h] at g2; exact absurd g2 (by decide)
      rw [if_neg (fun e => e g3)] at hq
      have hin : 0 ≤ i.toInt ∧ i.toInt ≤ (a 10 k').toInt - 1 := by
        unfold noC at g3
        split at g3
        · exact absurd g3 (by decide)
        · split at g3
          · assumption
          · exact absurd g3 (by decide)
      have hsz := (hI.2.2.2 k' (by omega)).1
      obtain ⟨i', b1, -, rfl⟩ := nI_ex 59 hin
      simp only [nI_clamp (show i' < 2 ^ 31 by omega)] at hq
      repeat refine Ev_go rfl ?_
      refine Ev_ial k' rfl rfl rfl (by omega) (by decide) ?_
      repeat refine Ev_go rfl ?_
      have fin : ∀ x : Int32, x = cut (a 11 k') v → Ev kX12_put (73, [some (.ref 136), some (.int (nI k')), some (.int (nI i')), some (.int v)], [.int x, .int (60 * nI k' + nI i'), .ref 149], mM σ f a) Q := by
        intro x hx
        subst hx
        refine Ev_mst 12 (60 * k' + i') rfl (fun _ => rfl) (ix60 k' i') (by omega) (by decide) ?_
        repeat refine Ev_go rfl ?_
        refine Ev_ca rfl ?_
        refine m_refused _ ?_
        refine Ev_rt rfl ?_
        exact hq
      refine Ev_if (fun g4 => ?_) (fun g4 => ?_)
      · iterate 3 refine Ev_go rfl ?_
        exact fin _ (by unfold cut; rw [if_pos g4])
      · repeat refine Ev_go rfl ?_
        refine Ev_ial k' rfl rfl rfl (by omega) (by decide) ?_
        repeat refine Ev_go rfl ?_
        refine Ev_if (fun g5 => ?_) (fun g5 => ?_)
        · iterate 3 refine Ev_go rfl ?_
          exact fin _ (by unfold cut; rw [if_neg g4, if_pos g5])
        · iterate 1 refine Ev_go rfl ?_
          exact fin _ (by unfold cut; rw [if_neg g4, if_neg g5])
    · have g3 : noC a k' i ≠ 0 := fun e => by
        have g2 : ¬ noC a k' i ≤ 0 := g2
        rw [e] at g2
        exact g2 (by decide)
      rw [if_pos g3] at hq
      repeat refine Ev_go rfl ?_
      refine Ev_ca rfl ?_
      refine m_noCell k' (by omega) i ?_
      refine Ev_ca rfl ?_
      refine m_failed _ ?_
      refine Ev_rt rfl ?_
      exact hq
  · rw [if_pos g1] at hq
    repeat refine Ev_go rfl ?_
    refine Ev_ca rfl ?_
    refine m_refused _ ?_
    refine Ev_rt rfl ?_
    exact hq
def sp_cell (f : FF) (a : AA) (k i lane : Int32) : Int64 × FF :=
  if ¬ isK k ∨ ¬ is2 lane then (LOSTL, va_up f 0 0) else if 0 ≤ (a 10 (nC k)).toInt ∧ ¬ a 11 (nC k) = lane then (LOSTL, va_up f 0 2)
  else if noC a (nC k) i ≠ 0 then (LOSTL, va_up f 0 (noC a (nC k) i)) else ((a 12 (60 * nC k + nC i)).toInt64, va_up f 0 0)
theorem M_cell {σ : kt_H} {f : FF} {a : AA} {Q : Option Value → kt_H → Prop} (hI : Inv f a) (k i lane : Int32) (hq : Q (some (.long (sp_cell f a k i lane).1)) (mM σ (sp_cell f a k i lane).2 a)) : Cs nX12_cell [.ref 136, .int k, .int i, .int lane] (mM σ f a) Q := by
  have e0 : (0 : Int32).toInt = 0 := rfl
  unfold sp_cell at hq
  refine Cs_in (k := kX12_cell) [some (.ref 136), some (.int k), some (.int i), some (.int lane)] rfl rfl ?_
  iterate 3 refine Ev_go rfl ?_
  refine Ev_mo (va_up f 0 0) ?_ rfl
  repeat refine Ev_go rfl ?_
  refine Ev_ca rfl ?_
  refine m_noSheet k ?_
  repeat refine Ev_go rfl ?_
  refine Ev_ifb (fun g1 => ?_) (fun g1 => ?_)
  · have g1 := Decidable.not_not.mp g1
    repeat refine Ev_go rfl ?_
    refine Ev_ca rfl ?_
    refine m_isLane lane ?_
    repeat refine Ev_go rfl ?_
    refine Ev_ifb (fun g2 => ?_) (fun g2 => ?_)
    · rw [if_pos (Or.inr g2)] at hq
      repeat refine Ev_go rfl ?_
      refine Ev_ca rfl ?_
      refine m_lost ?_
      refine Ev_rt rfl ?_
      exact hq
    · rw [if_neg (fun e => e.elim (fun z => z g1) (fun z => z g2))] at hq
      obtain ⟨k', a1, -, rfl⟩ := nI_ex 3 g1
      simp only [nC, nI_clamp (show k' < 2 ^ 31 by omega)] at hq
      have rest : ¬ (0 ≤ (a 10 k').toInt ∧ ¬ a 11 k' = lane) → Ev kX12_cell (48, [some (.ref 136), some (.int (nI k')), some (.int i), some (.int lane)], [], mM σ (va_up f 0 0) a) Q := by
        intro g3
        rw [if_neg g3] at hq
        repeat refine Ev_go rfl ?_
        refine Ev_ca rfl ?_
        refine m_noCell k' (by omega) i ?_
        repeat refine Ev_go rfl ?_
        refine Ev_if (fun g4 => ?_) (fun g4 => ?_)
        · have g5 : noC a k' i = 0 := by
            rcases noC_c (a := a) (k := k') (i := i) with h | h | h
            · exact h
            · have g4 : noC a k' i ≤ 0 := g4
              rw [h] at g4; exact absurd g4 (by decide)
            · have g4 : noC a k' i ≤ 0 := g4
              rw [h] at g4; exact absurd g4 (by decide)
          rw [if_neg (fun e => e g5)] at hq
          have hin : 0 ≤ i.toInt ∧ i.toInt ≤ (a 10 k').toInt - 1 := by
            unfold noC at g5
            split at g5
            · exact absurd g5 (by decide)
            · split at g5
              · assumption
              · exact absurd g5 (by decide)
          have hsz := (hI.2.2.2 k' (by omega)).1
          obtain ⟨i', b1, -, rfl⟩ := nI_ex 59 hin
          simp only [nI_clamp (show i' < 2 ^ 31 by omega)] at hq
          repeat refine Ev_go rfl ?_
          refine Ev_ial (60 * k' + i') rfl rfl (ix60 k' i') (by omega) (by decide) ?_
          repeat refine Ev_go rfl ?_
          refine Ev_rt rfl ?_
          exact hq
        · have g5 : noC a k' i ≠ 0 := fun e => by
            have g4 : ¬ noC a k' i ≤ 0 := g4
            rw [e] at g4
            exact g4 (by decide)
          rw [if_pos g5] at hq
          repeat refine Ev_go rfl ?_
          refine Ev_ca rfl ?_
          refine m_noCell k' (by omega) i ?_
          refine Ev_ca rfl ?_
          refine m_failedLong _ ?_
          repeat refine Ev_go rfl ?_
          refine Ev_rt rfl ?_
          rw [bx_uu]
          exact hq
      repeat refine Ev_go rfl ?_
      refine Ev_ial k' rfl rfl rfl (by omega) (by decide) ?_
      repeat refine Ev_go rfl ?_
      refine Ev_if (fun g3 => ?_) (fun g3 => ?_)
      · rw [fa_lt] at g3
        exact rest (by omega)
      · rw [fa_lt] at g3
        repeat refine Ev_go rfl ?_
        refine Ev_ial k' rfl rfl rfl (by omega) (by decide) ?_
        repeat refine Ev_go rfl ?_
        refine Ev_if (fun g4 => ?_) (fun g4 => ?_)
        · exact rest (fun e => e.2 g4)
        · rw [if_pos ⟨by omega, g4⟩] at hq
          repeat refine Ev_go rfl ?_
          refine Ev_ca rfl ?_
          refine m_failedLong _ ?_
          refine Ev_rt rfl ?_
          rw [bx_uu]
          exact hq
  · rw [if_pos (Or.inl g1)] at hq
    repeat refine Ev_go rfl ?_
    refine Ev_ca rfl ?_
    refine m_lost ?_
    refine Ev_rt rfl ?_
    exact hq
