/-! the model: the best of all shapes -/
abbrev okR (a : AA) (n m : Nat) (sort : Int32) (r : Nat) : Prop := fbI (a 9) sort n (rW n m r) (rD n m r) < 0
def vlR (a : AA) (n m : Nat) (sort l but : Int32) (r : Nat) : Int32 := vlI (a 9 5) a sort n (rW n m r) (rD n m r) l but
def bsI (a : AA) (n m : Nat) (sort l but : Int32) : Nat → Int32 × Int32
  | 0 => (-9, 0)
  | r + 1 => if ((bsI a n m sort l but r).1 < 0 ∨ (bsI a n m sort l but r).2 < vlR a n m sort l but r) ∧ okR a n m sort r then (nI r, vlR a n m sort l but r) else bsI a n m sort l but r
theorem bsI_c (a : AA) (n m : Nat) (sort l but : Int32) : ∀ r, (bsI a n m sort l but r).1 = -9 ∨ ∃ q : Nat, q < r ∧ (bsI a n m sort l but r).1 = nI q
  | 0 => Or.inl rfl
  | r + 1 => by
    rw [bsI]
    split
    · exact Or.inr ⟨r, Nat.lt_succ_self r, rfl⟩
    · rcases bsI_c a n m sort l but r with h | ⟨q, h1, h2⟩
      · exact Or.inl h
      · exact Or.inr ⟨q, by omega, h2⟩
theorem Jk.row {f2 : FF} {a2 a3 : AA} {x y : Int32} (h : ∀ q, q ≠ 4 → q ≠ 5 → a3 q = a2 q) : Jk f2 a2 (va_up (va_up f2 6 x) 7 y) a3 := ⟨fun q q6 q7 _ _ _ _ => by rw [va_up_n _ _ q7, va_up_n _ _ q6], fun q q4 q5 _ _ => h q q4 q5⟩
theorem okR.jk {f f2 : FF} {a a2 : AA} (hJ : Jk f a f2 a2) (n m : Nat) (sort : Int32) (r : Nat) : okR a2 n m sort r ↔ okR a n m sort r := by
  unfold okR
  rw [hJ.a 9]
theorem vlR.jk {f f2 : FF} {a a2 : AA} (hJ : Jk f a f2 a2) (n m : Nat) (sort l but : Int32) (r : Nat) : vlR a2 n m sort l but r = vlR a n m sort l but r := by
  unfold vlR
  rw [vlI.jk hJ, hJ.a 9]
theorem pw_le {n m : Nat} (hn : n ≤ 4) (hm3 : m ≤ 3) : m ^ (2 * n) ≤ 6561 := by
  have h1 : m ^ (2 * n) ≤ 3 ^ (2 * n) := Nat.pow_le_pow_left hm3 _
  have h2 : 3 ^ (2 * n) ≤ 3 ^ 8 := Nat.pow_le_pow_right (by decide) (by omega)
  have h3 : 3 ^ 8 = 6561 := by decide
  omega
section LB
variable {σ : kt_H} {f : FF} {a : AA} {Q : Option Value → kt_H → Prop}
/-- what layBest leaves -/
abbrev lbQ (f : FF) (a : AA) (n m : Nat) (sort l but : Int32) (f2 : FF) (a2 : AA) : Prop := Jk f a f2 a2 ∧ f2 17 = (bsI a n m sort l but (m ^ (2 * n))).1 ∧ f2 18 = (bsI a n m sort l but (m ^ (2 * n))).2 ∧ ∃ row : Nat, Cur f2 a2 sort n (rW n m row) (rD n m row) ∧ (¬ (bsI a n m sort l but (m ^ (2 * n))).1 < 0 → (bsI a n m sort l but (m ^ (2 * n))).1 = nI row ∧ row < m ^ (2 * n))
theorem m_lb_loop (hI : Inv f a) (n m : Nat) (hn1 : 1 ≤ n) (hn : n ≤ 4) (hm : 1 ≤ m) (hm3 : m ≤ 3) (sort l but : Int32) (hl : isW f l ∨ l = -9) (hq : ∀ f2 a2, lbQ f a n m sort l but f2 a2 → Q none (mM σ f2 a2)) : ∀ (e r : Nat) (f2 : FF) (a2 : AA) (o8 : Option Value), r + e = m ^ (2 * n) → Jk f a f2 a2 → f2 17 = (bsI a n m sort l but r).1 → f2 18 = (bsI a n m sort l but r).2 → (r = 0 ∨ ∃ row : Nat, Cur f2 a2 sort n (rW n m row) (rD n m row)) → Ev kX12_layBest (if nI (m ^ (2 * n)) ≤ nI r then 94 else 28, [some (.ref 136), some (.int (nI n)), some (.int (nI m)), some (.int sort), some (.int l), some (.int but), some (.int (nI (m ^ (2 * n)))), some (.int (nI r)), o8], [], mM σ f2 a2) Q := by
  have hR := pw_le hn hm3
  have hRp : 1 ≤ m ^ (2 * n) := Nat.pow_pos hm
  intro e
  induction e with
  | zero =>
    intro r f2 a2 o8 hr hJ h17 h18 hcur
    have e : r = m ^ (2 * n) := by omega
    subst e
    refine Ev_if (fun _ => ?_) (fun g1 => absurd (nI_le (Nat.le_refl _) (by omega)) g1)
    repeat refine Ev_go rfl ?_
    refine Ev_if (fun g => ?_) (fun g => ?_)
    · refine Ev_rt rfl ?_
      rcases hcur with h0 | ⟨row, hC⟩
      · omega
      · exact hq f2 a2 ⟨hJ, h17, h18, row, hC, fun z => absurd (by rw [h17] at g; exact g) z⟩
    · rw [h17] at g
      rcases bsI_c a n m sort l but (m ^ (2 * n)) with h | ⟨q, q1, q2⟩
      · rw [h] at g; exact absurd (by decide) g
      · repeat refine Ev_go rfl ?_
        rw [h17, q2]
        refine Ev_ca rfl ?_
        refine m_takeRow n m q hn1 hn hm hm3 (by omega) sort (fun a3 h3 hC => ?_)
        refine Ev_rt rfl ?_
        exact hq _ a3 ⟨hJ.tr (Jk.row h3), h17, h18, q, hC, fun _ => ⟨q2, q1⟩⟩
  | succ e ih =>
    intro r f2 a2 o8 hr hJ h17 h18 hcur
    refine Ev_if (fun g1 => absurd g1 (nI_ge (by omega) (by omega))) (fun _ => ?_)
    repeat refine Ev_go rfl ?_
    refine Ev_ca rfl ?_
    refine m_takeRow n m r hn1 hn hm hm3 (by omega) sort (fun a3 h3 hC => ?_)
    have hJ3 := hJ.tr (Jk.row (x := sort) (y := nI n) h3)
    repeat refine Ev_go rfl ?_
    refine Ev_ca rfl ?_
    refine m_value hC (hI.jk hJ3) _ l but (hl.imp (isW.jk hJ3) id) ?_
    rw [vlI.jk hJ3, show a3 9 = a 9 from hJ3.a 9]
    have e17 : (va_up (va_up f2 6 sort) 7 (nI n)) 17 = (bsI a n m sort l but r).1 := h17
    have e18 : (va_up (va_up f2 6 sort) 7 (nI n)) 18 = (bsI a n m sort l but r).2 := h18
    have next : ∀ (f4 : FF) (o8 : Option Value), Jk f a f4 a3 → Cur f4 a3 sort n (rW n m r) (rD n m r) → f4 17 = (bsI a n m sort l but (r + 1)).1 → f4 18 = (bsI a n m sort l but (r + 1)).2 → Ev kX12_layBest (88, [some (.ref 136), some (.int (nI n)), some (.int (nI m)), some (.int sort), some (.int l), some (.int but), some (.int (nI (m ^ (2 * n)))), some (.int (nI r)), o8], [], mM σ f4 a3) Q := by
      intro f4 o8 k1 k2 k3 k4
      repeat refine Ev_go rfl ?_
      rw [nI_1]
      exact ih (r + 1) f4 a3 _ (by omega) k1 k3 k4 (Or.inr ⟨r, k2⟩)
    have s69 : ((bsI a n m sort l but r).1 < 0 ∨ (bsI a n m sort l but r).2 < vlR a n m sort l but r) → Ev kX12_layBest (69, [some (.ref 136), some (.int (nI n)), some (.int (nI m)), some (.int sort), some (.int l), some (.int but), some (.int (nI (m ^ (2 * n)))), some (.int (nI r)), some (.int (vlR a n m sort l but r))], [], mM σ (va_up (va_up f2 6 sort) 7 (nI n)) a3) Q := by
      intro hc
      repeat refine Ev_go rfl ?_
      refine Ev_ca rfl ?_
      refine m_firstBroken hC ?_
      rw [hJ3.a 9]
      repeat refine Ev_go rfl ?_
      refine Ev_if (fun g => ?_) (fun g => ?_)
      · have hb : bsI a n m sort l but (r + 1) = bsI a n m sort l but r := by
          rw [bsI, if_neg (fun z => by have z := z.2; rw [okR, fa_lt] at z; rw [fa_le] at g; omega)]
        exact next _ _ hJ3 hC (by rw [hb]; exact e17) (by rw [hb]; exact e18)
      · have hb : bsI a n m sort l but (r + 1) = (nI r, vlR a n m sort l but r) := by
          rw [bsI, if_pos ⟨hc, by rw [okR, fa_lt]; rw [fa_le] at g; omega⟩]
        iterate 3 refine Ev_go rfl ?_
        refine Ev_mo (va_up (va_up (va_up f2 6 sort) 7 (nI n)) 17 (nI r)) ?_ rfl
        iterate 3 refine Ev_go rfl ?_
        refine Ev_mo (va_up (va_up (va_up (va_up f2 6 sort) 7 (nI n)) 17 (nI r)) 18 (vlR a n m sort l but r)) ?_ rfl
        refine next _ _ (hJ3.tr ⟨fun q _ _ _ _ q17 q18 => by rw [va_up_n _ _ q18, va_up_n _ _ q17], fun _ _ _ _ _ => rfl⟩) hC (by rw [hb]; rfl) (by rw [hb]; rfl)
    repeat refine Ev_go rfl ?_
    refine Ev_if (fun g => ?_) (fun g => ?_)
    · exact s69 (Or.inl (by rw [← h17]; exact g))
    · repeat refine Ev_go rfl ?_
      refine Ev_if (fun g2 => ?_) (fun g2 => ?_)
      · have g2 : vlR a n m sort l but r ≤ (bsI a n m sort l but r).2 := by rw [← h18]; exact g2
        have g : ¬ (bsI a n m sort l but r).1 < 0 := by rw [← h17]; exact g
        have hb : bsI a n m sort l but (r + 1) = bsI a n m sort l but r := by
          rw [bsI, if_neg (fun z => z.1.elim g (fun z => by rw [fa_lt] at z; rw [fa_le] at g2; omega))]
        exact next _ _ hJ3 hC (by rw [hb]; exact e17) (by rw [hb]; exact e18)
      · refine s69 (Or.inr ?_)
        have g2 : ¬ vlR a n m sort l but r ≤ (bsI a n m sort l but r).2 := by rw [← h18]; exact g2
        rw [fa_lt]; rw [fa_le] at g2; omega
theorem m_layBest (hI : Inv f a) (n m : Nat) (hn1 : 1 ≤ n) (hn : n ≤ 4) (hm : 1 ≤ m) (hm3 : m ≤ 3) (sort l but : Int32) (hl : isW f l ∨ l = -9) (hq : ∀ f2 a2, lbQ f a n m sort l but f2 a2 → Q none (mM σ f2 a2)) : Cs nX12_layBest [.ref 136, .int (nI n), .int (nI m), .int sort, .int l, .int but] (mM σ f a) Q := by
  refine Cs_in (k := kX12_layBest) [some (.ref 136), some (.int (nI n)), some (.int (nI m)), some (.int sort), some (.int l), some (.int but), none, none, none] rfl rfl ?_
  iterate 3 refine Ev_go rfl ?_
  refine Ev_mo (va_up f 17 (-9)) ?_ rfl
  iterate 3 refine Ev_go rfl ?_
  refine Ev_mo (va_up (va_up f 17 (-9)) 18 0) ?_ rfl
  repeat refine Ev_go rfl ?_
  refine Ev_ca rfl ?_
  refine m_manyRows n m hn ?_
  repeat refine Ev_go rfl ?_
  exact m_lb_loop hI n m hn1 hn hm hm3 sort l but hl hq (m ^ (2 * n)) 0 _ a none (by omega) ⟨fun q _ _ _ _ q17 q18 => by rw [va_up_n _ _ q18, va_up_n _ _ q17], fun _ _ _ _ _ => rfl⟩ rfl rfl (Or.inl rfl)
/-- the loss, where there is a shape -/
def lsI (a : AA) (n m : Nat) (sort l but : Int32) : Int32 := (bsI a n m sort (-9) (-9) (m ^ (2 * n))).2 - vlR a n m sort (-9) (-9) (nC (bsI a n m sort l but (m ^ (2 * n))).1)
theorem bsI.jk {f f2 : FF} {a a2 : AA} (hJ : Jk f a f2 a2) (n m : Nat) (sort l but : Int32) : ∀ r, bsI a2 n m sort l but r = bsI a n m sort l but r
  | 0 => rfl
  | r + 1 => by
    rw [bsI, bsI, bsI.jk hJ n m sort l but r, vlR.jk hJ]
    unfold okR
    rw [hJ.a 9]
theorem m_loss (hI : Inv f a) (n m : Nat) (hn1 : 1 ≤ n) (hn : n ≤ 4) (hm : 1 ≤ m) (hm3 : m ≤ 3) (sort l but : Int32) (hl : isW f l ∨ l = -9) (hq : ∀ f2 a2 (v : Int32), lbQ f a n m sort l but f2 a2 → (¬ (bsI a n m sort l but (m ^ (2 * n))).1 < 0 → v = lsI a n m sort l but) → Q (some (.int v)) (mM σ f2 a2)) : Cs nX12_loss [.ref 136, .int (nI n), .int (nI m), .int sort, .int l, .int but] (mM σ f a) Q := by
  have hR := pw_le hn hm3
  refine Cs_in (k := kX12_loss) [some (.ref 136), some (.int (nI n)), some (.int (nI m)), some (.int sort), some (.int l), some (.int but), none] rfl rfl ?_
  repeat refine Ev_go rfl ?_
  refine Ev_ca rfl ?_
  refine m_layBest hI n m hn1 hn hm hm3 sort _ _ (Or.inr rfl) (fun f2 a2 h2 => ?_)
  obtain ⟨hJ, h17, h18, -⟩ := h2
  repeat refine Ev_go rfl ?_
  rw [h18]
  refine Ev_ca rfl ?_
  refine m_layBest (hI.jk hJ) n m hn1 hn hm hm3 sort l but (hl.imp (isW.jk hJ) id) (fun f3 a3 h3 => ?_)
  obtain ⟨hJ3, k17, k18, row, hC, hrow⟩ := h3
  rw [bsI.jk hJ] at k17 k18 hrow
  have hJ4 := hJ.tr hJ3
  repeat refine Ev_go rfl ?_
  refine Ev_ca rfl ?_
  refine m_value hC (hI.jk hJ4) _ _ _ (Or.inr rfl) ?_
  rw [vlI.jk hJ4, show a3 9 = a 9 from hJ4.a 9]
  repeat refine Ev_go rfl ?_
  refine Ev_rt rfl ?_
  refine hq f3 a3 _ ⟨hJ4, k17, k18, row, hC, hrow⟩ (fun hz => ?_)
  obtain ⟨e1, e2⟩ := hrow hz
  unfold lsI
  rw [e1, show nC (nI row) = row from nI_clamp (by omega)]
  rfl
end LB
