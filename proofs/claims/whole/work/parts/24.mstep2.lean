/-! the model: step; a new hull -/
section S2
variable {σ : kt_H} {f : FF} {a : AA} {Q : Option Value → kt_H → Prop}
theorem nI_0iff {q : Nat} (h : q < 2 ^ 31) : nI q = 0 ↔ q = 0 := nI_eq (b := 0) h (by decide)
theorem nI_1iff {q : Nat} (h : q < 2 ^ 31) : nI q = 1 ↔ q = 1 := nI_eq (b := 1) h (by decide)
theorem if_nI0 {q : Nat} (h : q < 2 ^ 31) (x y : Int32) : (if nI q = 0 then x else y) = if q = 0 then x else y := by
  by_cases e : q = 0
  · rw [if_pos e, if_pos ((nI_0iff h).mpr e)]
  · rw [if_neg e, if_neg (fun z => e ((nI_0iff h).mp z))]
theorem if_nI1 {q : Nat} (h : q < 2 ^ 31) (x y : Int32) : (if nI q = 1 then x else y) = if q = 1 then x else y := by
  by_cases e : q = 1
  · rw [if_pos e, if_pos ((nI_1iff h).mpr e)]
  · rw [if_neg e, if_neg (fun z => e ((nI_1iff h).mp z))]
theorem m_step_loop (hI : Inv f a) {kd : Int32} {n : Nat} {w d : Nat → Int32} (hn : n ≤ 8) (h l : Int32) (hl : isW f l ∨ l = -9) (hq : ∀ f2 a2, Jk f a f2 a2 → Q (some (.int (stI a kd n w d l (4 * n)).2)) (mM σ f2 a2)) : ∀ (e k : Nat) (f2 : FF) (a2 : AA) (o6 o7 o8 o9 o10 : Option Value), k + e = 4 * n → Jk f a f2 a2 → Cur f2 a2 kd n w d → Ev kX12_step (if 4 * f2 7 ≤ nI k then 205 else 55, [some (.ref 136), some (.int h), some (.int l), some (.int (stI a kd n w d l k).1), some (.int (stI a kd n w d l k).2), some (.int (nI k)), o6, o7, o8, o9, o10], [], mM σ f2 a2) Q := by
  intro e
  induction e with
  | zero =>
    intro k f2 a2 o6 o7 o8 o9 o10 hk hJ hC
    have e : k = 4 * n := by omega
    subst e
    rw [hC.2.1, fa_lit 4, pk_mul]
    refine Ev_if (fun _ => ?_) (fun g1 => absurd (nI_le (Nat.le_refl _) (by omega)) g1)
    repeat refine Ev_go rfl ?_
    refine Ev_rt rfl ?_
    exact hq _ _ hJ
  | succ e ih =>
    intro k f2 a2 o6 o7 o8 o9 o10 hk hJ hC
    rw [hC.2.1, fa_lit 4, pk_mul]
    refine Ev_if (fun g1 => absurd g1 (nI_ge (by omega) (by omega))) (fun _ => ?_)
    have e4 : nI k / 4 = nI (k / 4) := pk_div (d := 4) (by omega) (by decide) (by decide)
    have e2 : nI k / 2 = nI (k / 2) := pk_div (d := 2) (by omega) (by decide) (by decide)
    have ek : nI k - nI k / 2 * 2 = nI (k % 2) := pk_rem (a := k) (d := 2) (by omega) (by decide) (by decide)
    have e22 : nI (k / 2) - nI (k / 2) / 2 * 2 = nI (k / 2 % 2) := pk_rem (a := k / 2) (d := 2) (by omega) (by decide) (by decide)
    have hx : k / 4 < n := by omega
    obtain ⟨c1, c2, c3, c4, c5, c6⟩ := hC
    have q2 : k / 2 % 2 < 2 ^ 31 := by omega
    -- the step is made
    have s83 : ∀ by' : Int32, by' = byS k → Ev kX12_step (83, [some (.ref 136), some (.int h), some (.int l), some (.int (stI a kd n w d l k).1), some (.int (stI a kd n w d l k).2), some (.int (nI k)), some (.int (nI (k / 4))), some (.int (nI (k / 2 % 2))), some (.int by'), o9, o10], [], mM σ f2 a2) Q := by
      intro by' hby
      subst hby
      repeat refine Ev_go rfl ?_
      refine Ev_ca rfl ?_
      refine m_change (k / 4) (by omega) _ _ ?_
      rw [if_nI0 q2, if_nI1 q2]
      generalize ha3 : va_up (va_up a2 4 (upd (a2 4) (k / 4) (a2 4 (k / 4) + if k / 2 % 2 = 0 then byS k else 0))) 5 (upd (a2 5) (k / 4) (a2 5 (k / 4) + if k / 2 % 2 = 1 then byS k else 0)) = a3
      have h34 : ∀ y, y < n → a3 4 y = chW w k y := by
        intro y hy
        rw [← ha3, va_up_n _ _ (by decide), va_up_s]
        unfold chW
        by_cases e : y = k / 4
        · subst e; rw [pk_us, pk_us, c5 _ hx]
        · rw [pk_un e, pk_un e, c5 y hy]
      have h35 : ∀ y, y < n → a3 5 y = chD d k y := by
        intro y hy
        rw [← ha3, va_up_s]
        unfold chD
        by_cases e : y = k / 4
        · subst e; rw [pk_us, pk_us, c6 _ hx]
        · rw [pk_un e, pk_un e, c6 y hy]
      have h3 : ∀ q, q ≠ 4 → q ≠ 5 → a3 q = a2 q := fun q q4 q5 => by rw [← ha3, va_up_n _ _ q5, va_up_n _ _ q4]
      have hJ3 : Jk f a f2 a3 := hJ.tr ⟨fun _ _ _ _ _ _ _ => rfl, fun q q4 q5 _ _ => h3 q q4 q5⟩
      have hC3 : Cur f2 a3 kd n (chW w k) (chD d k) := ⟨c1, c2, c3, c4, h34, h35⟩
      have next : ∀ (x3 x4 : Int32) (o9 o10 : Option Value), x3 = (stI a kd n w d l (k + 1)).1 → x4 = (stI a kd n w d l (k + 1)).2 → Ev kX12_step (188, [some (.ref 136), some (.int h), some (.int l), some (.int x3), some (.int x4), some (.int (nI k)), some (.int (nI (k / 4))), some (.int (nI (k / 2 % 2))), some (.int (byS k)), o9, o10], [], mM σ f2 a3) Q := by
        intro x3 x4 o9 o10 q3 q4
        subst q3
        subst q4
        repeat refine Ev_go rfl ?_
        refine Ev_ca rfl ?_
        refine m_change (k / 4) (by omega) _ _ ?_
        rw [if_nI0 q2, if_nI1 q2]
        repeat refine Ev_go rfl ?_
        rw [nI_1]
        refine ih (k + 1) f2 _ _ _ _ _ _ (by omega) (hJ3.tr ⟨fun _ _ _ _ _ _ _ => rfl, fun q q4 q5 _ _ => by rw [va_up_n _ _ q5, va_up_n _ _ q4]⟩) ⟨c1, c2, c3, c4, fun y hy => ?_, fun y hy => ?_⟩
        · rw [va_up_n _ _ (by decide), va_up_s]
          by_cases e : y = k / 4
          · subst e
            rw [pk_us, h34 _ hx]
            unfold chW
            rw [pk_us]
            split
            · exact add_neg_back _ _
            · rw [Int32.add_zero, Int32.add_zero]
          · rw [pk_un e, h34 y hy]
            unfold chW
            rw [pk_un e]
        · rw [va_up_s]
          by_cases e : y = k / 4
          · subst e
            rw [pk_us, h35 _ hx]
            unfold chD
            rw [pk_us]
            split
            · exact add_neg_back _ _
            · rw [Int32.add_zero, Int32.add_zero]
          · rw [pk_un e, h35 y hy]
            unfold chD
            rw [pk_un e]
      have s139 : ∀ y : Int32, y = bI ((1 ≤ (chP w d k).toInt ∧ (chP w d k).toInt ≤ 9) ∧ fbI (a 9) kd n (chW w k) (chD d k) < 0) → Ev kX12_step (139, [some (.ref 136), some (.int h), some (.int l), some (.int (stI a kd n w d l k).1), some (.int (stI a kd n w d l k).2), some (.int (nI k)), some (.int (nI (k / 4))), some (.int (nI (k / 2 % 2))), some (.int (byS k)), o9, o10], [.int y], mM σ f2 a3) Q := by
        intro y hy
        subst hy
        repeat refine Ev_go rfl ?_
        refine Ev_ca rfl ?_
        refine m_value hC3 (hI.jk hJ3) _ l _ (hl.imp (isW.jk hJ3) id) ?_
        rw [vlI.jk hJ3, show a3 9 = a 9 from hJ3.a 9]
        repeat refine Ev_go rfl ?_
        refine Ev_ifb (fun g => ?_) (fun g => ?_)
        · refine next _ _ _ _ ?_ ?_ <;> (rw [stI, if_neg (fun z => g z.1)])
        · repeat refine Ev_go rfl ?_
          refine Ev_if (fun g2 => ?_) (fun g2 => ?_)
          · have g2 : vlI (a 9 5) a kd n (chW w k) (chD d k) l (-9) ≤ (stI a kd n w d l k).1 := g2
            refine next _ _ _ _ ?_ ?_ <;> (rw [stI, if_neg (fun z => by have z := z.2; rw [fa_lt] at z; rw [fa_le] at g2; omega)])
          · have g2 : ¬ vlI (a 9 5) a kd n (chW w k) (chD d k) l (-9) ≤ (stI a kd n w d l k).1 := g2
            have g3 : (stI a kd n w d l k).1 < vlI (a 9 5) a kd n (chW w k) (chD d k) l (-9) := by
              rw [fa_lt]; rw [fa_le] at g2; omega
            iterate 14 refine Ev_go rfl ?_
            refine next _ _ _ _ ?_ ?_
            · rw [stI, if_pos ⟨g, g3⟩]; rfl
            · rw [stI, if_pos ⟨g, g3⟩]
              show _ = 100 * nI (k / 4) + 10 * nI (k / 2 % 2) + nI (k % 2)
              rw [← ek]
      have s117 : Ev kX12_step (117, [some (.ref 136), some (.int h), some (.int l), some (.int (stI a kd n w d l k).1), some (.int (stI a kd n w d l k).2), some (.int (nI k)), some (.int (nI (k / 4))), some (.int (nI (k / 2 % 2))), some (.int (byS k)), o9, o10], [.long (Int32.toInt64 (chP w d k))], mM σ f2 a3) Q := by
        repeat refine Ev_go rfl ?_
        refine Ev_ca rfl ?_
        refine m_in (chP w d k).toInt 1 9 (fa_wide _) rfl rfl ?_
        repeat refine Ev_go rfl ?_
        refine Ev_ifb (fun g => ?_) (fun g => ?_)
        · iterate 1 refine Ev_go rfl ?_
          exact s139 _ (by rw [bI_f (fun z => g z.1)])
        · repeat refine Ev_go rfl ?_
          refine Ev_ca rfl ?_
          refine m_firstBroken hC3 ?_
          rw [show a3 9 = a 9 from hJ3.a 9]
          repeat refine Ev_go rfl ?_
          refine Ev_if (fun g2 => ?_) (fun g2 => ?_)
          · have g2 : (0 : Int32) ≤ fbI (a 9) kd n (chW w k) (chD d k) := g2
            iterate 1 refine Ev_go rfl ?_
            exact s139 _ (by rw [bI_f (fun z => by have z := z.2; rw [fa_lt] at z; rw [fa_le] at g2; omega)])
          · have g2 : ¬ (0 : Int32) ≤ fbI (a 9) kd n (chW w k) (chD d k) := g2
            iterate 2 refine Ev_go rfl ?_
            exact s139 _ (by rw [bI_t (⟨g, by rw [fa_lt]; rw [fa_le] at g2; omega⟩)])
      repeat refine Ev_go rfl ?_
      refine Ev_if (fun g => ?_) (fun g => ?_)
      · rw [nI_0iff q2] at g
        repeat refine Ev_go rfl ?_
        refine Ev_ial (k / 4) rfl rfl rfl (by omega) (by decide) ?_
        iterate 2 refine Ev_go rfl ?_
        have e : chP w d k = a3 4 (k / 4) := by unfold chP; rw [if_pos g, h34 _ hx]
        rw [e] at s117
        exact s117
      · rw [nI_0iff q2] at g
        repeat refine Ev_go rfl ?_
        refine Ev_ial (k / 4) rfl rfl rfl (by omega) (by decide) ?_
        iterate 1 refine Ev_go rfl ?_
        have e : chP w d k = a3 5 (k / 4) := by unfold chP; rw [if_neg g, h35 _ hx]
        rw [e] at s117
        exact s117
    repeat refine Ev_go rfl ?_
    rw [ek, e4, e2, e22]
    refine Ev_if (fun g => ?_) (fun g => ?_)
    · rw [nI_0iff (by omega)] at g
      iterate 3 refine Ev_go rfl ?_
      exact s83 _ (by unfold byS; rw [if_pos g])
    · rw [nI_0iff (by omega)] at g
      iterate 2 refine Ev_go rfl ?_
      exact s83 _ (by unfold byS; rw [if_neg g])
def sp_step (f : FF) (a : AA) (h l : Int32) : Int32 := if ¬ isH f h ∨ nL f l then -1 else (stI a (a 0 (nC h)) (nC (a 1 (nC h))) (hW a (nC h)) (hD a (nC h)) l (4 * nC (a 1 (nC h)))).2
theorem M_step (hI : Inv f a) (h l : Int32) (hq : ∀ f2 a2, Jk f a f2 a2 → Q (some (.int (sp_step f a h l))) (mM σ f2 a2)) : Cs nX12_step [.ref 136, .int h, .int l] (mM σ f a) Q := by
  unfold sp_step at hq
  refine Cs_in (k := kX12_step) [some (.ref 136), some (.int h), some (.int l), none, none, none, none, none, none, none, none] rfl rfl ?_
  have bad : (¬ isH f h ∨ nL f l) → Ev kX12_step (16, [some (.ref 136), some (.int h), some (.int l), none, none, none, none, none, none, none, none], [], mM σ f a) Q := by
    intro hb
    rw [if_pos hb] at hq
    repeat refine Ev_go rfl ?_
    refine Ev_rt rfl ?_
    exact hq _ _ Jk.rf
  repeat refine Ev_go rfl ?_
  refine Ev_ca rfl ?_
  refine m_noHull h ?_
  repeat refine Ev_go rfl ?_
  refine Ev_ifb (fun g1 => ?_) (fun g1 => bad (Or.inl g1))
  have g1 := Decidable.not_not.mp g1
  repeat refine Ev_go rfl ?_
  refine Ev_ca rfl ?_
  refine m_noneLaw l ?_
  repeat refine Ev_go rfl ?_
  refine Ev_ifb (fun g2 => ?_) (fun g2 => bad (Or.inr g2))
  rw [if_neg (fun e => e.elim (fun z => z g1) (fun z => g2 z))] at hq
  have hl : isW f l ∨ l = -9 := by
    by_cases e : l = -9
    · exact Or.inr e
    · exact Or.inl (Decidable.not_not.mp fun z => g2 ⟨z, e⟩)
  obtain ⟨h', c1, rfl, hk, n, n1, n2, n3, -⟩ := Inv_h hI g1
  simp only [nC, hM, nI_clamp (show h' < 2 ^ 31 by omega), n3, nI_clamp (show n < 2 ^ 31 by omega)] at hq
  repeat refine Ev_go rfl ?_
  refine Ev_ca rfl ?_
  refine m_takeUp h' n c1 n1 n2 n3 (fun f2 a2 hJ hC => ?_)
  repeat refine Ev_go rfl ?_
  refine Ev_ca rfl ?_
  refine m_value hC (hI.jk hJ) _ l _ (hl.imp (isW.jk hJ) id) ?_
  rw [vlI.jk hJ, show a2 9 = a 9 from hJ.a 9]
  repeat refine Ev_go rfl ?_
  exact m_step_loop hI n2 _ l hl hq (4 * n) 0 f2 a2 _ _ _ _ _ (by omega) hJ hC
end S2
