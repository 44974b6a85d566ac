/-! the model: the best and its like, as they are asked -/
section PB
variable {σ : kt_H} {f : FF} {a : AA} {Q : Option Value → kt_H → Prop}
abbrev nL (f : FF) (l : Int32) : Prop := ¬ isW f l ∧ l ≠ -9
abbrev R2 (n m : Int32) : Nat := nC m ^ (2 * nC n)
abbrev bR (a : AA) (n m sort l but : Int32) : Int32 × Int32 := bsI a (nC n) (nC m) sort l but (R2 n m)
theorem so_ex {n m sort : Int32} (h : isSo n m sort) : ∃ n' m' : Nat, 1 ≤ n' ∧ n' ≤ 4 ∧ 1 ≤ m' ∧ m' ≤ 3 ∧ n = nI n' ∧ m = nI m' := by
  obtain ⟨n', a1, a2, a3⟩ := nI_ex (x := n) 4 h.1
  obtain ⟨m', b1, b2, b3⟩ := nI_ex (x := m) 3 h.2.1
  exact ⟨n', m', by omega, a1, by omega, b1, a3, b3⟩
def sp_best (f : FF) (a : AA) (n m sort l what : Int32) : Int64 := if nL f l ∨ ¬ isSo n m sort ∨ ¬ (0 ≤ what.toInt ∧ what.toInt ≤ 3) then LOSTL else if (bR a n m sort l (-9)).1 < 0 then LOSTL
  else (if what = 0 then (bR a n m sort l (-9)).2 else if what = 1 then toI (msr sort (nC n) (rW (nC n) (nC m) (nC (bR a n m sort l (-9)).1)) (rD (nC n) (nC m) (nC (bR a n m sort l (-9)).1))) a l (-9)
    else if what = 2 then lsI a (nC n) (nC m) sort l (-9) else rmI sort (nC n) (rW (nC n) (nC m) (nC (bR a n m sort l (-9)).1)) (rD (nC n) (nC m) (nC (bR a n m sort l (-9)).1))).toInt64
theorem M_best (hI : Inv f a) (n m sort l what : Int32) (hq : ∀ f2 a2, Jk f a f2 a2 → Q (some (.long (sp_best f a n m sort l what))) (mM σ f2 a2)) : Cs nX12_best [.ref 136, .int n, .int m, .int sort, .int l, .int what] (mM σ f a) Q := by
  unfold sp_best at hq
  refine Cs_in (k := kX12_best) [some (.ref 136), some (.int n), some (.int m), some (.int sort), some (.int l), some (.int what)] rfl rfl ?_
  have bad : (nL f l ∨ ¬ isSo n m sort ∨ ¬ (0 ≤ what.toInt ∧ what.toInt ≤ 3)) → Ev kX12_best (31, [some (.ref 136), some (.int n), some (.int m), some (.int sort), some (.int l), some (.int what)], [], mM σ f a) Q := by
    intro hb
    rw [if_pos hb] at hq
    refine Ev_ca rfl ?_
    refine m_lost ?_
    refine Ev_rt rfl ?_
    exact hq _ _ Jk.rf
  repeat refine Ev_go rfl ?_
  refine Ev_ca rfl ?_
  refine m_noneLaw l ?_
  repeat refine Ev_go rfl ?_
  refine Ev_ifb (fun g1 => ?_) (fun g1 => bad (Or.inl g1))
  repeat refine Ev_go rfl ?_
  refine Ev_ca rfl ?_
  refine m_isSort n m sort ?_
  repeat refine Ev_go rfl ?_
  refine Ev_ifb (fun g2 => bad (Or.inr (Or.inl g2))) (fun g2 => ?_)
  repeat refine Ev_go rfl ?_
  refine Ev_ca rfl ?_
  refine m_in what.toInt 0 3 (fa_wide _) rfl rfl ?_
  repeat refine Ev_go rfl ?_
  refine Ev_ifb (fun g3 => bad (Or.inr (Or.inr g3))) (fun g3 => ?_)
  rw [if_neg (fun e => e.elim g1 (fun z => z.elim (fun z => z g2) (fun z => z g3)))] at hq
  have hl := noneLaw_ok g1
  obtain ⟨n', m', n1, n2, m1, m2, rfl, rfl⟩ := so_ex g2
  simp only [bR, R2, nC, nI_clamp (show n' < 2 ^ 31 by omega), nI_clamp (show m' < 2 ^ 31 by omega)] at hq
  have hR := pw_le n2 m2
  repeat refine Ev_go rfl ?_
  refine Ev_ca rfl ?_
  refine m_layBest hI n' m' n1 n2 m1 m2 sort l _ hl (fun f2 a2 h2 => ?_)
  obtain ⟨hJ, h17, h18, row, hC, hrow⟩ := h2
  have hq0 := hq
  have hq := hq _ _ hJ
  repeat refine Ev_go rfl ?_
  rw [h17]
  refine Ev_if (fun g4 => ?_) (fun g4 => ?_)
  · have g4 : ¬ (bsI a n' m' sort l (-9) (m' ^ (2 * n'))).1 < 0 := fun z => by rw [fa_lt] at z; rw [fa_le] at g4; omega
    obtain ⟨e1, e2⟩ := hrow g4
    rw [if_neg g4, e1, show (nI row).toNatClampNeg = row from nI_clamp (by omega)] at hq
    repeat refine Ev_go rfl ?_
    refine Ev_if (fun g5 => ?_) (fun g5 => ?_)
    · rw [if_pos g5] at hq
      repeat refine Ev_go rfl ?_
      refine Ev_rt rfl ?_
      rw [h18]
      exact hq
    · rw [if_neg g5] at hq
      repeat refine Ev_go rfl ?_
      refine Ev_if (fun g6 => ?_) (fun g6 => ?_)
      · rw [if_pos g6] at hq
        repeat refine Ev_go rfl ?_
        refine Ev_ca rfl ?_
        refine m_toll hC (hI.jk hJ) l _ (hl.imp (isW.jk hJ) id) ?_
        rw [toI.jk hJ]
        repeat refine Ev_go rfl ?_
        refine Ev_rt rfl ?_
        exact hq
      · rw [if_neg g6] at hq
        repeat refine Ev_go rfl ?_
        refine Ev_if (fun g7 => ?_) (fun g7 => ?_)
        · rw [if_pos g7] at hq
          repeat refine Ev_go rfl ?_
          refine Ev_ca rfl ?_
          refine m_loss (hI.jk hJ) n' m' n1 n2 m1 m2 sort l _ (hl.imp (isW.jk hJ) id) (fun f3 a3 v h3 hv => ?_)
          rw [bsI.jk hJ] at hv
          have hv := hv g4
          have e3 : lsI a2 n' m' sort l (-9) = lsI a n' m' sort l (-9) := by
            unfold lsI
            rw [bsI.jk hJ, bsI.jk hJ, vlR.jk hJ]
          rw [hv, e3]
          repeat refine Ev_go rfl ?_
          refine Ev_rt rfl ?_
          have hq0 := hq0 f3 a3 (hJ.tr h3.1)
          rw [if_neg g4, if_neg g5, if_neg g6, if_pos g7] at hq0
          exact hq0
        · rw [if_neg g7] at hq
          repeat refine Ev_go rfl ?_
          refine Ev_ca rfl ?_
          refine m_room hC ?_
          repeat refine Ev_go rfl ?_
          refine Ev_rt rfl ?_
          exact hq
  · have g4 : (bsI a n' m' sort l (-9) (m' ^ (2 * n'))).1 < 0 := by rw [fa_lt]; rw [fa_le] at g4; omega
    rw [if_pos g4] at hq
    repeat refine Ev_go rfl ?_
    refine Ev_ca rfl ?_
    refine m_lost ?_
    refine Ev_rt rfl ?_
    exact hq
def sp_shape (f : FF) (a : AA) (n m sort l k : Int32) : Int32 := if nL f l then -1 else if ¬ isSo n m sort then -2 else if ¬ (0 ≤ k.toInt ∧ k.toInt ≤ 2 * n.toInt - 1) then -1 else if (bR a n m sort l (-9)).1 < 0 then -3
  else if nC k % 2 = 0 then rW (nC n) (nC m) (nC (bR a n m sort l (-9)).1) (nC k / 2) else rD (nC n) (nC m) (nC (bR a n m sort l (-9)).1) (nC k / 2)
theorem M_shape (hI : Inv f a) (n m sort l k : Int32) (hq : ∀ f2 a2, Jk f a f2 a2 → Q (some (.int (sp_shape f a n m sort l k))) (mM σ f2 a2)) : Cs nX12_shape [.ref 136, .int n, .int m, .int sort, .int l, .int k] (mM σ f a) Q := by
  unfold sp_shape at hq
  refine Cs_in (k := kX12_shape) [some (.ref 136), some (.int n), some (.int m), some (.int sort), some (.int l), some (.int k)] rfl rfl ?_
  repeat refine Ev_go rfl ?_
  refine Ev_ca rfl ?_
  refine m_noneLaw l ?_
  repeat refine Ev_go rfl ?_
  refine Ev_ifb (fun g1 => ?_) (fun g1 => ?_)
  · rw [if_neg g1] at hq
    have hl := noneLaw_ok g1
    repeat refine Ev_go rfl ?_
    refine Ev_ca rfl ?_
    refine m_isSort n m sort ?_
    repeat refine Ev_go rfl ?_
    refine Ev_ifb (fun g2 => ?_) (fun g2 => ?_)
    · rw [if_pos g2] at hq
      repeat refine Ev_go rfl ?_
      refine Ev_rt rfl ?_
      exact hq _ _ Jk.rf
    · rw [if_neg (fun e => e g2)] at hq
      obtain ⟨n', m', n1, n2, m1, m2, rfl, rfl⟩ := so_ex g2
      have hR := pw_le n2 m2
      rw [nI_toInt (by omega)] at hq
      repeat refine Ev_go rfl ?_
      refine Ev_ca rfl ?_
      refine m_in k.toInt 0 (2 * n' - 1) (fa_wide _) rfl ?_ ?_
      · rw [nI_l (by omega), show (2 : Int64) = lN 2 from rfl, lN_mul, show (1 : Int64) = lN 1 from rfl, lN_sub (by omega), lN_toInt (by omega)]
        omega
      repeat refine Ev_go rfl ?_
      refine Ev_ifb (fun g3 => ?_) (fun g3 => ?_)
      · rw [if_pos g3] at hq
        repeat refine Ev_go rfl ?_
        refine Ev_rt rfl ?_
        exact hq _ _ Jk.rf
      · rw [if_neg (fun e => e g3)] at hq
        obtain ⟨k', k1, k2, rfl⟩ := nI_ex (x := k) 7 g3
        simp only [bR, R2, nC, nI_clamp (show n' < 2 ^ 31 by omega), nI_clamp (show m' < 2 ^ 31 by omega), nI_clamp (show k' < 2 ^ 31 by omega)] at hq
        repeat refine Ev_go rfl ?_
        refine Ev_ca rfl ?_
        refine m_layBest hI n' m' n1 n2 m1 m2 sort l _ hl (fun f2 a2 h2 => ?_)
        obtain ⟨hJ, h17, h18, row, hC, hrow⟩ := h2
        have hq := hq _ _ hJ
        repeat refine Ev_go rfl ?_
        rw [h17]
        refine Ev_if (fun g4 => ?_) (fun g4 => ?_)
        · have g4 : ¬ (bsI a n' m' sort l (-9) (m' ^ (2 * n'))).1 < 0 := fun z => by rw [fa_lt] at z; rw [fa_le] at g4; omega
          obtain ⟨e1, e2⟩ := hrow g4
          rw [if_neg g4, e1, show (nI row).toNatClampNeg = row from nI_clamp (by omega)] at hq
          iterate 2 refine Ev_go rfl ?_
          refine Ev_rem rfl (by decide) ?_
          rw [show nI k' - nI k' / 2 * 2 = nI (k' % 2) from pk_rem (a := k') (d := 2) (by omega) (by decide) (by decide)]
          repeat refine Ev_go rfl ?_
          refine Ev_if (fun g5 => ?_) (fun g5 => ?_)
          · have g5 : k' % 2 = 0 := (nI_eq (b := 0) (by omega) (by decide)).mp g5
            rw [if_pos g5] at hq
            iterate 4 refine Ev_go rfl ?_
            refine Ev_div rfl (by decide) ?_
            refine Ev_ial (k' / 2) rfl rfl (nI_half k' (by omega)) (by omega) (by decide) ?_
            repeat refine Ev_go rfl ?_
            refine Ev_rt rfl ?_
            rw [hC.2.2.2.2.1 _ (by omega)]
            exact hq
          · have g5 : ¬ k' % 2 = 0 := fun e => g5 (by rw [e]; rfl)
            rw [if_neg g5] at hq
            iterate 4 refine Ev_go rfl ?_
            refine Ev_div rfl (by decide) ?_
            refine Ev_ial (k' / 2) rfl rfl (nI_half k' (by omega)) (by omega) (by decide) ?_
            refine Ev_rt rfl ?_
            rw [hC.2.2.2.2.2 _ (by omega)]
            exact hq
        · have g4 : (bsI a n' m' sort l (-9) (m' ^ (2 * n'))).1 < 0 := by rw [fa_lt]; rw [fa_le] at g4; omega
          rw [if_pos g4] at hq
          repeat refine Ev_go rfl ?_
          refine Ev_rt rfl ?_
          exact hq
  · rw [if_pos g1] at hq
    repeat refine Ev_go rfl ?_
    refine Ev_rt rfl ?_
    exact hq _ _ Jk.rf
/-- how many of the rows below r -/
def ctI (p : Nat → Prop) [DecidablePred p] : Nat → Int32
  | 0 => 0
  | r + 1 => ctI p r + (if p r then 1 else 0)
def sp_shapes (a : AA) (n m sort : Int32) : Int32 := if ¬ isSo n m sort then -2 else ctI (okR a (nC n) (nC m) sort) (R2 n m)
theorem m_shapes_loop (hI : Inv f a) (n m : Nat) (hn1 : 1 ≤ n) (hn : n ≤ 4) (hm : 1 ≤ m) (hm3 : m ≤ 3) (sort : Int32) (hq : ∀ f2 a2, Jk f a f2 a2 → Q (some (.int (ctI (okR a n m sort) (m ^ (2 * n))))) (mM σ f2 a2)) : ∀ (e r : Nat) (f2 : FF) (a2 : AA), r + e = m ^ (2 * n) → Jk f a f2 a2 → Ev kX12_shapes (if nI (m ^ (2 * n)) ≤ nI r then 64 else 32, [some (.ref 136), some (.int (nI n)), some (.int (nI m)), some (.int sort), some (.int (ctI (okR a n m sort) r)), some (.int (nI (m ^ (2 * n)))), some (.int (nI r))], [], mM σ f2 a2) Q := by
  have hR := pw_le hn hm3
  intro e
  induction e with
  | zero =>
    intro r f2 a2 hr hJ
    have e : r = m ^ (2 * n) := by omega
    subst e
    refine Ev_if (fun _ => ?_) (fun g1 => absurd (nI_le (Nat.le_refl _) (by omega)) g1)
    repeat refine Ev_go rfl ?_
    refine Ev_rt rfl ?_
    exact hq _ _ hJ
  | succ e ih =>
    intro r f2 a2 hr hJ
    refine Ev_if (fun g1 => absurd g1 (nI_ge (by omega) (by omega))) (fun _ => ?_)
    repeat refine Ev_go rfl ?_
    refine Ev_ca rfl ?_
    refine m_takeRow n m r hn1 hn hm hm3 (by omega) sort (fun a3 h3 hC => ?_)
    have hJ3 := hJ.tr (Jk.row (x := sort) (y := nI n) h3)
    have fin : ∀ y : Int32, y = (if okR a n m sort r then 1 else 0) → Ev kX12_shapes (55, [some (.ref 136), some (.int (nI n)), some (.int (nI m)), some (.int sort), some (.int (ctI (okR a n m sort) r)), some (.int (nI (m ^ (2 * n)))), some (.int (nI r))], [.int y, .int (ctI (okR a n m sort) r)], mM σ (va_up (va_up f2 6 sort) 7 (nI n)) a3) Q := by
      intro y hy
      subst hy
      repeat refine Ev_go rfl ?_
      rw [nI_1]
      exact ih (r + 1) _ a3 (by omega) hJ3
    repeat refine Ev_go rfl ?_
    refine Ev_ca rfl ?_
    refine m_firstBroken hC ?_
    rw [hJ3.a 9]
    repeat refine Ev_go rfl ?_
    refine Ev_if (fun g => ?_) (fun g => ?_)
    · iterate 1 refine Ev_go rfl ?_
      exact fin _ (by rw [if_neg (fun z => by rw [okR, fa_lt] at z; rw [fa_le] at g; omega)])
    · iterate 2 refine Ev_go rfl ?_
      exact fin _ (by rw [if_pos (by rw [okR, fa_lt]; rw [fa_le] at g; omega)])
theorem M_shapes (hI : Inv f a) (n m sort : Int32) (hq : ∀ f2 a2, Jk f a f2 a2 → Q (some (.int (sp_shapes a n m sort))) (mM σ f2 a2)) : Cs nX12_shapes [.ref 136, .int n, .int m, .int sort] (mM σ f a) Q := by
  unfold sp_shapes at hq
  refine Cs_in (k := kX12_shapes) [some (.ref 136), some (.int n), some (.int m), some (.int sort), none, none, none] rfl rfl ?_
  repeat refine Ev_go rfl ?_
  refine Ev_ca rfl ?_
  refine m_isSort n m sort ?_
  repeat refine Ev_go rfl ?_
  refine Ev_ifb (fun g2 => ?_) (fun g2 => ?_)
  · rw [if_pos g2] at hq
    repeat refine Ev_go rfl ?_
    refine Ev_rt rfl ?_
    exact hq _ _ Jk.rf
  · rw [if_neg (fun e => e g2)] at hq
    obtain ⟨n', m', n1, n2, m1, m2, rfl, rfl⟩ := so_ex g2
    simp only [R2, nC, nI_clamp (show n' < 2 ^ 31 by omega), nI_clamp (show m' < 2 ^ 31 by omega)] at hq
    repeat refine Ev_go rfl ?_
    refine Ev_ca rfl ?_
    refine m_manyRows n' m' n2 ?_
    repeat refine Ev_go rfl ?_
    exact m_shapes_loop hI n' m' n1 n2 m1 m2 sort hq (m' ^ (2 * n')) 0 f a (by omega) Jk.rf
def sp_crowd (f : FF) (a : AA) (n m sort l v : Int32) : Int32 := if ¬ isW f l then -1 else if ¬ isSo n m sort then -2 else ctI (fun r => toI (msr sort (nC n) (rW (nC n) (nC m) r) (rD (nC n) (nC m) r)) a l (-9) = v ∧ okR a (nC n) (nC m) sort r) (R2 n m)
theorem m_crowd_loop (hI : Inv f a) (n m : Nat) (hn1 : 1 ≤ n) (hn : n ≤ 4) (hm : 1 ≤ m) (hm3 : m ≤ 3) (sort l v : Int32) (hl : isW f l) (hq : ∀ f2 a2, Jk f a f2 a2 → Q (some (.int (ctI (fun r => toI (msr sort n (rW n m r) (rD n m r)) a l (-9) = v ∧ okR a n m sort r) (m ^ (2 * n))))) (mM σ f2 a2)) : ∀ (e r : Nat) (f2 : FF) (a2 : AA), r + e = m ^ (2 * n) → Jk f a f2 a2 → Ev kX12_crowd (if nI (m ^ (2 * n)) ≤ nI r then 88 else 43, [some (.ref 136), some (.int (nI n)), some (.int (nI m)), some (.int sort), some (.int l), some (.int v), some (.int (ctI (fun r => toI (msr sort n (rW n m r) (rD n m r)) a l (-9) = v ∧ okR a n m sort r) r)), some (.int (nI (m ^ (2 * n)))), some (.int (nI r))], [], mM σ f2 a2) Q := by
  have hR := pw_le hn hm3
  intro e
  induction e with
  | zero =>
    intro r f2 a2 hr hJ
    have e : r = m ^ (2 * n) := by omega
    subst e
    refine Ev_if (fun _ => ?_) (fun g1 => absurd (nI_le (Nat.le_refl _) (by omega)) g1)
    repeat refine Ev_go rfl ?_
    refine Ev_rt rfl ?_
    exact hq _ _ hJ
  | succ e ih =>
    intro r f2 a2 hr hJ
    refine Ev_if (fun g1 => absurd g1 (nI_ge (by omega) (by omega))) (fun _ => ?_)
    repeat refine Ev_go rfl ?_
    refine Ev_ca rfl ?_
    refine m_takeRow n m r hn1 hn hm hm3 (by omega) sort (fun a3 h3 hC => ?_)
    have hJ3 := hJ.tr (Jk.row (x := sort) (y := nI n) h3)
    have fin : ∀ y : Int32, y = (if toI (msr sort n (rW n m r) (rD n m r)) a l (-9) = v ∧ okR a n m sort r then 1 else 0) → Ev kX12_crowd (79, [some (.ref 136), some (.int (nI n)), some (.int (nI m)), some (.int sort), some (.int l), some (.int v), some (.int (ctI (fun r => toI (msr sort n (rW n m r) (rD n m r)) a l (-9) = v ∧ okR a n m sort r) r)), some (.int (nI (m ^ (2 * n)))), some (.int (nI r))], [.int y, .int (ctI (fun r => toI (msr sort n (rW n m r) (rD n m r)) a l (-9) = v ∧ okR a n m sort r) r)], mM σ (va_up (va_up f2 6 sort) 7 (nI n)) a3) Q := by
      intro y hy
      subst hy
      repeat refine Ev_go rfl ?_
      rw [nI_1]
      exact ih (r + 1) _ a3 (by omega) hJ3
    repeat refine Ev_go rfl ?_
    refine Ev_ca rfl ?_
    refine m_toll hC (hI.jk hJ3) l _ (Or.inl (isW.jk hJ3 hl)) ?_
    rw [toI.jk hJ3]
    repeat refine Ev_go rfl ?_
    refine Ev_if (fun g0 => ?_) (fun g0 => ?_)
    · repeat refine Ev_go rfl ?_
      refine Ev_ca rfl ?_
      refine m_firstBroken hC ?_
      rw [hJ3.a 9]
      repeat refine Ev_go rfl ?_
      refine Ev_if (fun g => ?_) (fun g => ?_)
      · iterate 1 refine Ev_go rfl ?_
        exact fin _ (by rw [if_neg (fun z => by have z := z.2; rw [okR, fa_lt] at z; rw [fa_le] at g; omega)])
      · iterate 2 refine Ev_go rfl ?_
        exact fin _ (by rw [if_pos ⟨g0, by rw [okR, fa_lt]; rw [fa_le] at g; omega⟩])
    · iterate 1 refine Ev_go rfl ?_
      exact fin _ (by rw [if_neg (fun z => g0 z.1)])
theorem M_crowd (hI : Inv f a) (n m sort l v : Int32) (hq : ∀ f2 a2, Jk f a f2 a2 → Q (some (.int (sp_crowd f a n m sort l v))) (mM σ f2 a2)) : Cs nX12_crowd [.ref 136, .int n, .int m, .int sort, .int l, .int v] (mM σ f a) Q := by
  unfold sp_crowd at hq
  refine Cs_in (k := kX12_crowd) [some (.ref 136), some (.int n), some (.int m), some (.int sort), some (.int l), some (.int v), none, none, none] rfl rfl ?_
  repeat refine Ev_go rfl ?_
  refine Ev_ca rfl ?_
  refine m_noLaw l ?_
  repeat refine Ev_go rfl ?_
  refine Ev_ifb (fun g1 => ?_) (fun g1 => ?_)
  · rw [if_neg g1] at hq
    have g1 := Decidable.not_not.mp g1
    repeat refine Ev_go rfl ?_
    refine Ev_ca rfl ?_
    refine m_isSort n m sort ?_
    repeat refine Ev_go rfl ?_
    refine Ev_ifb (fun g2 => ?_) (fun g2 => ?_)
    · rw [if_pos g2] at hq
      repeat refine Ev_go rfl ?_
      refine Ev_rt rfl ?_
      exact hq _ _ Jk.rf
    · rw [if_neg (fun e => e g2)] at hq
      obtain ⟨n', m', n1, n2, m1, m2, rfl, rfl⟩ := so_ex g2
      simp only [R2, nC, nI_clamp (show n' < 2 ^ 31 by omega), nI_clamp (show m' < 2 ^ 31 by omega)] at hq
      repeat refine Ev_go rfl ?_
      refine Ev_ca rfl ?_
      refine m_manyRows n' m' n2 ?_
      repeat refine Ev_go rfl ?_
      exact m_crowd_loop hI n' m' n1 n2 m1 m2 sort l v g1 hq (m' ^ (2 * n')) 0 f a (by omega) Jk.rf
  · rw [if_pos g1] at hq
    repeat refine Ev_go rfl ?_
    refine Ev_rt rfl ?_
    exact hq _ _ Jk.rf
def sp_without (f : FF) (a : AA) (n m sort l w what : Int32) : Int64 := if ¬ isW f l ∨ ¬ (0 ≤ w.toInt ∧ w.toInt ≤ (a 6 (nC l)).toInt - 1) ∨ ¬ isSo n m sort ∨ ¬ (1 ≤ what.toInt ∧ what.toInt ≤ 2) then LOSTL else if (bR a n m sort l w).1 < 0 then LOSTL
  else (if what = 2 then lsI a (nC n) (nC m) sort l w else toI (msr sort (nC n) (rW (nC n) (nC m) (nC (bR a n m sort l w).1)) (rD (nC n) (nC m) (nC (bR a n m sort l w).1))) a l w).toInt64
theorem M_without (hI : Inv f a) (n m sort l w what : Int32) (hq : ∀ f2 a2, Jk f a f2 a2 → Q (some (.long (sp_without f a n m sort l w what))) (mM σ f2 a2)) : Cs nX12_without [.ref 136, .int n, .int m, .int sort, .int l, .int w, .int what] (mM σ f a) Q := by
  unfold sp_without at hq
  refine Cs_in (k := kX12_without) [some (.ref 136), some (.int n), some (.int m), some (.int sort), some (.int l), some (.int w), some (.int what), none] rfl rfl ?_
  have bad : (¬ isW f l ∨ ¬ (0 ≤ w.toInt ∧ w.toInt ≤ (a 6 (nC l)).toInt - 1) ∨ ¬ isSo n m sort ∨ ¬ (1 ≤ what.toInt ∧ what.toInt ≤ 2)) → Ev kX12_without (51, [some (.ref 136), some (.int n), some (.int m), some (.int sort), some (.int l), some (.int w), some (.int what), none], [], mM σ f a) Q := by
    intro hb
    rw [if_pos hb] at hq
    refine Ev_ca rfl ?_
    refine m_lost ?_
    refine Ev_rt rfl ?_
    exact hq _ _ Jk.rf
  repeat refine Ev_go rfl ?_
  refine Ev_ca rfl ?_
  refine m_noLaw l ?_
  repeat refine Ev_go rfl ?_
  refine Ev_ifb (fun g1 => ?_) (fun g1 => bad (Or.inl g1))
  have g1 := Decidable.not_not.mp g1
  obtain ⟨l', b1, el, -⟩ := Inv_l hI g1
  have ec : nC l = l' := by rw [el]; exact nI_clamp (by omega)
  rw [ec] at bad hq
  repeat refine Ev_go rfl ?_
  refine Ev_ial l' rfl rfl el b1 (by decide) ?_
  repeat refine Ev_go rfl ?_
  refine Ev_ca rfl ?_
  refine m_in w.toInt 0 ((a 6 l').toInt - 1) (fa_wide _) rfl (wide_m1 _) ?_
  repeat refine Ev_go rfl ?_
  refine Ev_ifb (fun g3 => bad (Or.inr (Or.inl g3))) (fun g3 => ?_)
  repeat refine Ev_go rfl ?_
  refine Ev_ca rfl ?_
  refine m_isSort n m sort ?_
  repeat refine Ev_go rfl ?_
  refine Ev_ifb (fun g2 => bad (Or.inr (Or.inr (Or.inl g2)))) (fun g2 => ?_)
  repeat refine Ev_go rfl ?_
  refine Ev_ca rfl ?_
  refine m_in what.toInt 1 2 (fa_wide _) rfl rfl ?_
  repeat refine Ev_go rfl ?_
  refine Ev_ifb (fun g4 => bad (Or.inr (Or.inr (Or.inr g4)))) (fun g4 => ?_)
  rw [if_neg (fun e => e.elim (fun z => z g1) (fun z => z.elim (fun z => z g3) (fun z => z.elim (fun z => z g2) (fun z => z g4))))] at hq
  obtain ⟨n', m', n1, n2, m1, m2, rfl, rfl⟩ := so_ex g2
  simp only [bR, R2, nC, nI_clamp (show n' < 2 ^ 31 by omega), nI_clamp (show m' < 2 ^ 31 by omega)] at hq
  have hR := pw_le n2 m2
  repeat refine Ev_go rfl ?_
  refine Ev_ca rfl ?_
  refine m_loss hI n' m' n1 n2 m1 m2 sort l w (Or.inl g1) (fun f2 a2 v h2 hv => ?_)
  obtain ⟨hJ, h17, h18, row, hC, hrow⟩ := h2
  have hq := hq _ _ hJ
  repeat refine Ev_go rfl ?_
  rw [h17]
  refine Ev_if (fun g5 => ?_) (fun g5 => ?_)
  · have g5 : ¬ (bsI a n' m' sort l w (m' ^ (2 * n'))).1 < 0 := fun z => by rw [fa_lt] at z; rw [fa_le] at g5; omega
    obtain ⟨e1, e2⟩ := hrow g5
    have hv := hv g5
    rw [if_neg g5, e1, show (nI row).toNatClampNeg = row from nI_clamp (by omega)] at hq
    repeat refine Ev_go rfl ?_
    refine Ev_if (fun g6 => ?_) (fun g6 => ?_)
    · rw [if_pos g6] at hq
      repeat refine Ev_go rfl ?_
      refine Ev_rt rfl ?_
      rw [hv]
      exact hq
    · rw [if_neg g6] at hq
      repeat refine Ev_go rfl ?_
      refine Ev_ca rfl ?_
      refine m_toll hC (hI.jk hJ) l w (Or.inl (isW.jk hJ g1)) ?_
      rw [toI.jk hJ]
      repeat refine Ev_go rfl ?_
      refine Ev_rt rfl ?_
      exact hq
  · have g5 : (bsI a n' m' sort l w (m' ^ (2 * n'))).1 < 0 := by rw [fa_lt]; rw [fa_le] at g5; omega
    rw [if_pos g5] at hq
    repeat refine Ev_go rfl ?_
    refine Ev_ca rfl ?_
    refine m_lost ?_
    repeat refine Ev_go rfl ?_
    refine Ev_rt rfl ?_
    exact hq
end PB
