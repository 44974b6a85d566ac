/-! the model: words, tolls, needs, worth -/
/-- a factor's number -/
def fac (m : Nat → Int32) (F : Int32) : Int32 := if F < 0 then 1 else if F < 100 then m (nC F) else F - 100
theorem fac_n {m : Nat → Int32} {F : Int32} (h : F.toInt < 0) : fac m F = 1 := by
  unfold fac
  rw [if_pos (by rw [fa_lt]; exact h)]
theorem fac_m {m : Nat → Int32} {j : Nat} (h : j ≤ 7) : fac m (nI j) = m j := by
  unfold fac
  rw [if_neg (nI_pos (by omega)), if_pos (show nI j < 100 from nI_lt (b := 100) (by omega) (by decide)), show nC (nI j) = j from nI_clamp (by omega)]
theorem fac_c {m : Nat → Int32} {F : Int32} (h : 100 ≤ F.toInt) : fac m F = F - 100 := by
  have e0 : (0 : Int32).toInt = 0 := rfl
  have e100 : (100 : Int32).toInt = 100 := rfl
  unfold fac
  rw [if_neg (by rw [fa_lt]; omega), if_neg (by rw [fa_lt]; omega)]
/-- a word's number -/
def wvI (m : Nat → Int32) (t : Nat → Int32) (b : Nat) : Int32 := if 0 ≤ t (b + 4) ∧ t (b + 4) < 1 * fac m (t b) * fac m (t (b + 1)) * fac m (t (b + 2)) / t (b + 3) then t (b + 4) else 1 * fac m (t b) * fac m (t (b + 1)) * fac m (t (b + 2)) / t (b + 3)
def tlI (m : Nat → Int32) (t : Nat → Int32) (l : Nat) (but : Int32) : Nat → Int32
  | 0 => 0
  | w + 1 => tlI m t l but w + (if nI w = but then 0 else wvI m t (20 * l + 5 * w))
/-- a word as it is kept -/
def wOk (t : Nat → Int32) (b : Nat) : Prop := (∀ q, q < 3 → t (b + q) = -9 ∨ (0 ≤ (t (b + q)).toInt ∧ (t (b + q)).toInt ≤ 7) ∨ (101 ≤ (t (b + q)).toInt ∧ (t (b + q)).toInt ≤ 199)) ∧ (1 ≤ (t (b + 3)).toInt ∧ (t (b + 3)).toInt ≤ 9) ∧ (t (b + 4) = -9 ∨ (0 ≤ (t (b + 4)).toInt ∧ (t (b + 4)).toInt ≤ 999))
theorem Inv_l {f : FF} {a : AA} (hI : Inv f a) {l : Int32} (hl : isW f l) : ∃ l' : Nat, l' < 8 ∧ l = nI l' ∧ ∃ n : Nat, 1 ≤ n ∧ n ≤ 4 ∧ a 6 l' = nI n ∧ ∀ w, w < n → wOk (a 7) (20 * l' + 5 * w) := by
  obtain ⟨lc, b1, b2, b3⟩ := hI.2.1
  rw [isW, b2, nI_toInt (by omega)] at hl
  obtain ⟨l', c1, c2, c3⟩ := nI_ex (x := l) 7 hl
  exact ⟨l', by omega, c3, b3 l' (by omega)⟩
theorem ix205 (l w k : Nat) : 20 * nI l + 5 * nI w + nI k = nI (20 * l + 5 * w + k) := by rw [fa_lit 20, fa_lit 5, pk_mul, pk_mul, nI_add, nI_add]
theorem m_ws_step {σ : kt_H} {f : FF} {a : AA} {Q : Option Value → kt_H → Prop} {kd : Int32} {n : Nat} {w d : Nat → Int32} (hC : Cur f a kd n w d) (l wd k : Nat) (hl : l < 8) (hw : wd < 4) (hk : k < 3) (hok : wOk (a 7) (20 * l + 5 * wd)) (v : Int32) (o : Option Value) (h : ∀ o, Ev kX12_wordSum (if 3 ≤ nI (k + 1) then 73 else 21, [some (.ref 136), some (.int (nI l)), some (.int (nI wd)), some (.int (20 * nI l + 5 * nI wd)), some (.int (v * fac (msr kd n w d) (a 7 (20 * l + 5 * wd + k)))), some (.int (nI (k + 1))), o], [], mM σ f a) Q) : Ev kX12_wordSum (if 3 ≤ nI k then 73 else 21, [some (.ref 136), some (.int (nI l)), some (.int (nI wd)), some (.int (20 * nI l + 5 * nI wd)), some (.int v), some (.int (nI k)), o], [], mM σ f a) Q := by
  refine Ev_if (fun g1 => absurd g1 (nI_ge (b := 3) (by omega) (by decide))) (fun _ => ?_)
  repeat refine Ev_go rfl ?_
  refine Ev_ial (20 * l + 5 * wd + k) rfl rfl (ix205 l wd k) (by omega) (by decide) ?_
  have hF := hok.1 k hk
  generalize a 7 (20 * l + 5 * wd + k) = F at h hF ⊢
  have e0 : (0 : Int32).toInt = 0 := rfl
  have e100 : (100 : Int32).toInt = 100 := rfl
  repeat refine Ev_go rfl ?_
  refine Ev_if (fun g2 => ?_) (fun g2 => ?_)
  · rw [fa_le] at g2
    repeat refine Ev_go rfl ?_
    refine Ev_if (fun g3 => ?_) (fun g3 => ?_)
    · rw [fa_le] at g3
      rw [fac_c (by omega)] at h
      repeat refine Ev_go rfl ?_
      rw [nI_1]
      exact h _
    · rw [fa_le] at g3
      rcases hF with hF | hF | hF
      · rw [hF] at g2; exact absurd g2 (by decide)
      · obtain ⟨F', p1, p2, rfl⟩ := nI_ex (x := F) 7 hF
        rw [fac_m p1] at h
        repeat refine Ev_go rfl ?_
        refine Ev_ca rfl ?_
        refine m_measure hC F' (by omega) ?_
        repeat refine Ev_go rfl ?_
        rw [nI_1]
        exact h _
      · omega
  · rw [fa_le] at g2
    rw [fac_n (by omega)] at h
    repeat refine Ev_go rfl ?_
    rw [nI_1]
    exact h _
theorem m_wordSum {σ : kt_H} {f : FF} {a : AA} {Q : Option Value → kt_H → Prop} {kd : Int32} {n : Nat} {w d : Nat → Int32} (hC : Cur f a kd n w d) (l wd : Nat) (hl : l < 8) (hw : wd < 4) (hok : wOk (a 7) (20 * l + 5 * wd)) (hq : Q (some (.int (wvI (msr kd n w d) (a 7) (20 * l + 5 * wd)))) (mM σ f a)) : Cs nX12_wordSum [.ref 136, .int (nI l), .int (nI wd)] (mM σ f a) Q := by
  have e0 : (0 : Int32).toInt = 0 := rfl
  unfold wvI at hq
  refine Cs_in (k := kX12_wordSum) [some (.ref 136), some (.int (nI l)), some (.int (nI wd)), none, none, none, none] rfl rfl ?_
  iterate 15 refine Ev_go rfl ?_
  refine m_ws_step hC l wd 0 hl hw (by decide) hok 1 none (fun o => ?_)
  refine m_ws_step hC l wd 1 hl hw (by decide) hok _ o (fun o => ?_)
  refine m_ws_step hC l wd 2 hl hw (by decide) hok _ o (fun o => ?_)
  generalize hp : 1 * fac (msr kd n w d) (a 7 (20 * l + 5 * wd + 0)) * fac (msr kd n w d) (a 7 (20 * l + 5 * wd + 1)) * fac (msr kd n w d) (a 7 (20 * l + 5 * wd + 2)) = P at hq ⊢
  repeat refine Ev_go rfl ?_
  refine Ev_ial (20 * l + 5 * wd + 3) rfl rfl (ix205 l wd 3) (by omega) (by decide) ?_
  refine Ev_div rfl (fun e => by have h3 := hok.2.1; rw [e, e0] at h3; omega) ?_
  repeat refine Ev_go rfl ?_
  refine Ev_ial (20 * l + 5 * wd + 4) rfl rfl (ix205 l wd 4) (by omega) (by decide) ?_
  repeat refine Ev_go rfl ?_
  refine Ev_if (fun g1 => ?_) (fun g1 => ?_)
  · rw [if_neg (fun e => by rw [fa_le] at e; rw [fa_lt] at g1; omega)] at hq
    repeat refine Ev_go rfl ?_
    refine Ev_rt rfl ?_
    exact hq
  · repeat refine Ev_go rfl ?_
    refine Ev_if (fun g2 => ?_) (fun g2 => ?_)
    · rw [if_neg (fun e => by have := e.2; rw [fa_lt] at this; rw [fa_le] at g2; omega)] at hq
      repeat refine Ev_go rfl ?_
      refine Ev_rt rfl ?_
      exact hq
    · rw [if_pos ⟨by rw [fa_le]; rw [fa_lt] at g1; omega, by rw [fa_lt]; rw [fa_le] at g2; omega⟩] at hq
      repeat refine Ev_go rfl ?_
      refine Ev_rt rfl ?_
      exact hq
theorem m_toll_loop {σ : kt_H} {f : FF} {a : AA} {Q : Option Value → kt_H → Prop} {kd : Int32} {n : Nat} {w d : Nat → Int32} (hC : Cur f a kd n w d) (l m : Nat) (hl : l < 8) (hm : m ≤ 4) (ha : a 6 l = nI m) (hok : ∀ x, x < m → wOk (a 7) (20 * l + 5 * x)) (but : Int32) (hq : Q (some (.int (tlI (msr kd n w d) (a 7) l but m))) (mM σ f a)) : ∀ (e x : Nat), x + e = m → Ev kX12_toll (5, [some (.ref 136), some (.int (nI l)), some (.int but), some (.int (tlI (msr kd n w d) (a 7) l but x)), some (.int (nI x))], [], mM σ f a) Q := by
  intro e
  induction e with
  | zero =>
    intro x hx
    have e : x = m := by omega
    subst e
    repeat refine Ev_go rfl ?_
    refine Ev_if (fun g1 => absurd g1 (nI_pos (by omega))) (fun _ => ?_)
    repeat refine Ev_go rfl ?_
    refine Ev_ial l rfl rfl rfl hl (by decide) ?_
    rw [ha]
    repeat refine Ev_go rfl ?_
    refine Ev_if (fun _ => ?_) (fun g1 => absurd (nI_le (Nat.le_refl x) (by omega)) g1)
    repeat refine Ev_go rfl ?_
    refine Ev_rt rfl ?_
    exact hq
  | succ e ih =>
    intro x hx
    repeat refine Ev_go rfl ?_
    refine Ev_if (fun g1 => absurd g1 (nI_pos (by omega))) (fun _ => ?_)
    repeat refine Ev_go rfl ?_
    refine Ev_ial l rfl rfl rfl hl (by decide) ?_
    rw [ha]
    repeat refine Ev_go rfl ?_
    refine Ev_if (fun g1 => absurd g1 (nI_ge (by omega) (by omega))) (fun _ => ?_)
    have fin : ∀ y : Int32, y = (if nI x = but then 0 else wvI (msr kd n w d) (a 7) (20 * l + 5 * x)) → Ev kX12_toll (38, [some (.ref 136), some (.int (nI l)), some (.int but), some (.int (tlI (msr kd n w d) (a 7) l but x)), some (.int (nI x))], [.int y, .int (tlI (msr kd n w d) (a 7) l but x)], mM σ f a) Q := by
      intro y hy
      subst hy
      iterate 4 refine Ev_go rfl ?_
      rw [nI_1]
      exact ih (x + 1) (by omega)
    repeat refine Ev_go rfl ?_
    refine Ev_if (fun g2 => ?_) (fun g2 => ?_)
    · iterate 2 refine Ev_go rfl ?_
      exact fin _ (by rw [if_pos g2])
    · repeat refine Ev_go rfl ?_
      refine Ev_ca rfl ?_
      refine m_wordSum hC l x hl (by omega) (hok x (by omega)) ?_
      exact fin _ (by rw [if_neg g2])
/-- what is owed by the law l (by none 0), one word left out -/
def toI (m : Nat → Int32) (a : AA) (l but : Int32) : Int32 := if l < 0 then 0 else tlI m (a 7) (nC l) but (nC (a 6 (nC l)))
theorem m_toll {σ : kt_H} {f : FF} {a : AA} {Q : Option Value → kt_H → Prop} {kd : Int32} {n : Nat} {w d : Nat → Int32} (hC : Cur f a kd n w d) (hI : Inv f a) (l but : Int32) (hl : isW f l ∨ l = -9) (hq : Q (some (.int (toI (msr kd n w d) a l but))) (mM σ f a)) : Cs nX12_toll [.ref 136, .int l, .int but] (mM σ f a) Q := by
  unfold toI at hq
  refine Cs_in (k := kX12_toll) [some (.ref 136), some (.int l), some (.int but), none, none] rfl rfl ?_
  rcases hl with hl | hl
  · obtain ⟨l', b1, rfl, m, m1, m2, m3, m4⟩ := Inv_l hI hl
    rw [if_neg (nI_pos (by omega))] at hq
    simp only [nC, nI_clamp (show l' < 2 ^ 31 by omega), m3, nI_clamp (show m < 2 ^ 31 by omega)] at hq
    iterate 4 refine Ev_go rfl ?_
    exact m_toll_loop hC l' m b1 m2 m3 m4 but hq m 0 (by omega)
  · subst hl
    rw [if_pos (by decide)] at hq
    repeat refine Ev_go rfl ?_
    refine Ev_rt rfl ?_
    exact hq
theorem Inv.jk {f f2 : FF} {a a2 : AA} (hJ : Jk f a f2 a2) (h : Inv f a) : Inv f2 a2 := by
  have e1 : f2 1 = f 1 := hJ.1 1 (by decide) (by decide) (by decide) (by decide) (by decide) (by decide)
  have e10 : f2 10 = f 10 := hJ.1 10 (by decide) (by decide) (by decide) (by decide) (by decide) (by decide)
  have q : ∀ z, z ≠ 4 → z ≠ 5 → z ≠ 8 → z ≠ 13 → a2 z = a z := hJ.2
  unfold Inv
  rw [e1, e10, q 0 (by decide) (by decide) (by decide) (by decide), q 1 (by decide) (by decide) (by decide) (by decide), q 2 (by decide) (by decide) (by decide) (by decide), q 3 (by decide) (by decide) (by decide) (by decide), q 6 (by decide) (by decide) (by decide) (by decide), q 7 (by decide) (by decide) (by decide) (by decide), q 9 (by decide) (by decide) (by decide) (by decide), q 10 (by decide) (by decide) (by decide) (by decide), q 11 (by decide) (by decide) (by decide) (by decide)]
  exact h
theorem Jk.a {f f2 : FF} {a a2 : AA} (hJ : Jk f a f2 a2) (q : Nat) (h4 : q ≠ 4 := by decide) (h5 : q ≠ 5 := by decide) (h8 : q ≠ 8 := by decide) (h13 : q ≠ 13 := by decide) : a2 q = a q := hJ.2 q h4 h5 h8 h13
theorem Jk.tr {f f2 f3 : FF} {a a2 a3 : AA} (h : Jk f a f2 a2) (h2 : Jk f2 a2 f3 a3) : Jk f a f3 a3 := ⟨fun q q1 q2 q3 q4 q5 q6 => (h2.1 q q1 q2 q3 q4 q5 q6).trans (h.1 q q1 q2 q3 q4 q5 q6), fun q q1 q2 q3 q4 => (h2.2 q q1 q2 q3 q4).trans (h.2 q q1 q2 q3 q4)⟩
theorem isW.jk {f f2 : FF} {a a2 : AA} (hJ : Jk f a f2 a2) {l : Int32} (h : isW f l) : isW f2 l := by
  have e10 : f2 10 = f 10 := hJ.1 10 (by decide) (by decide) (by decide) (by decide) (by decide) (by decide)
  rw [isW, e10]; exact h
theorem toI.jk {f f2 : FF} {a a2 : AA} (hJ : Jk f a f2 a2) (m : Nat → Int32) (l but : Int32) : toI m a2 l but = toI m a l but := by
  unfold toI
  rw [hJ.a 6, hJ.a 7]
/-- the measures of the hull h -/
abbrev hM (a : AA) (h : Nat) : Nat → Int32 := msr (a 0 h) (nC (a 1 h)) (hW a h) (hD a h)
def sp_owes (f : FF) (a : AA) (h l : Int32) : Int32 := if ¬ isH f h ∨ ¬ isW f l then -1 else toI (hM a (nC h)) a l (-9)
theorem M_owes {σ : kt_H} {f : FF} {a : AA} {Q : Option Value → kt_H → Prop} (hI : Inv f a) (h l : Int32) (hq : ∀ f2 a2, Jk f a f2 a2 → Q (some (.int (sp_owes f a h l))) (mM σ f2 a2)) : Cs nX12_owes [.ref 136, .int h, .int l] (mM σ f a) Q := by
  unfold sp_owes at hq
  refine Cs_in (k := kX12_owes) [some (.ref 136), some (.int h), some (.int l)] rfl rfl ?_
  have bad : (¬ isH f h ∨ ¬ isW f l) → Ev kX12_owes (16, [some (.ref 136), some (.int h), some (.int l)], [], mM σ f a) Q := by
    intro hb
    rw [if_pos hb] at hq
    repeat refine Ev_go rfl ?_
    refine Ev_rt rfl ?_
    exact hq _ _ Jk.rf
  repeat refine Ev_go rfl ?_
  refine Ev_ca rfl ?_
  refine m_noHull h ?_
  repeat refine Ev_go rfl ?_
  refine Ev_ifb (fun g1 => ?_) (fun g1 => bad (Or.inl g1))
  have g1 := Decidable.not_not.mp g1
  repeat refine Ev_go rfl ?_
  refine Ev_ca rfl ?_
  refine m_noLaw l ?_
  repeat refine Ev_go rfl ?_
  refine Ev_ifb (fun g2 => ?_) (fun g2 => bad (Or.inr g2))
  have g2 := Decidable.not_not.mp g2
  rw [if_neg (fun e => e.elim (fun z => z g1) (fun z => z g2))] at hq
  obtain ⟨h', c1, rfl, hk, n, n1, n2, n3, -⟩ := Inv_h hI g1
  simp only [nC, hM, nI_clamp (show h' < 2 ^ 31 by omega), n3, nI_clamp (show n < 2 ^ 31 by omega)] at hq
  repeat refine Ev_go rfl ?_
  refine Ev_ca rfl ?_
  refine m_takeUp h' n c1 n1 n2 n3 (fun f2 a2 hJ hC => ?_)
  repeat refine Ev_go rfl ?_
  refine Ev_ca rfl ?_
  refine m_toll hC (hI.jk hJ) l _ (Or.inl (isW.jk hJ g2)) ?_
  refine Ev_rt rfl ?_
  rw [toI.jk hJ]
  exact hq _ _ hJ
def sp_word (f : FF) (a : AA) (h l w : Int32) : Int32 := if ¬ isH f h ∨ ¬ isW f l ∨ ¬ (0 ≤ w.toInt ∧ w.toInt ≤ (a 6 (nC l)).toInt - 1) then -1 else wvI (hM a (nC h)) (a 7) (20 * nC l + 5 * nC w)
theorem M_word {σ : kt_H} {f : FF} {a : AA} {Q : Option Value → kt_H → Prop} (hI : Inv f a) (h l w : Int32) (hq : ∀ f2 a2, Jk f a f2 a2 → Q (some (.int (sp_word f a h l w))) (mM σ f2 a2)) : Cs nX12_word [.ref 136, .int h, .int l, .int w] (mM σ f a) Q := by
  unfold sp_word at hq
  refine Cs_in (k := kX12_word) [some (.ref 136), some (.int h), some (.int l), some (.int w)] rfl rfl ?_
  have bad : (¬ isH f h ∨ ¬ isW f l ∨ ¬ (0 ≤ w.toInt ∧ w.toInt ≤ (a 6 (nC l)).toInt - 1)) → Ev kX12_word (34, [some (.ref 136), some (.int h), some (.int l), some (.int w)], [], mM σ f a) Q := by
    intro hb
    rw [if_pos hb] at hq
    repeat refine Ev_go rfl ?_
    refine Ev_rt rfl ?_
    exact hq _ _ Jk.rf
  repeat refine Ev_go rfl ?_
  refine Ev_ca rfl ?_
  refine m_noHull h ?_
  repeat refine Ev_go rfl ?_
  refine Ev_ifb (fun g1 => ?_) (fun g1 => bad (Or.inl g1))
  have g1 := Decidable.not_not.mp g1
  repeat refine Ev_go rfl ?_
  refine Ev_ca rfl ?_
  refine m_noLaw l ?_
  repeat refine Ev_go rfl ?_
  refine Ev_ifb (fun g2 => ?_) (fun g2 => bad (Or.inr (Or.inl g2)))
  have g2 := Decidable.not_not.mp g2
  obtain ⟨h', c1, rfl, hk, n, n1, n2, n3, -⟩ := Inv_h hI g1
  obtain ⟨l', b1, rfl, m, m1, m2, m3, m4⟩ := Inv_l hI g2
  simp only [nC, hM, nI_clamp (show h' < 2 ^ 31 by omega), nI_clamp (show l' < 2 ^ 31 by omega), n3, nI_clamp (show n < 2 ^ 31 by omega)] at hq bad
  repeat refine Ev_go rfl ?_
  refine Ev_ial l' rfl rfl rfl b1 (by decide) ?_
  repeat refine Ev_go rfl ?_
  refine Ev_ca rfl ?_
  refine m_in w.toInt 0 ((a 6 l').toInt - 1) (fa_wide _) rfl (wide_m1 _) ?_
  repeat refine Ev_go rfl ?_
  refine Ev_ifb (fun g3 => bad (Or.inr (Or.inr g3))) (fun g3 => ?_)
  rw [if_neg (fun e => e.elim (fun z => z g1) (fun z => z.elim (fun z => z g2) (fun z => z g3)))] at hq
  rw [m3, nI_toInt (by omega)] at g3
  obtain ⟨w', p1, p2, rfl⟩ := nI_ex (x := w) 3 g3
  simp only [nI_clamp (show w' < 2 ^ 31 by omega)] at hq
  repeat refine Ev_go rfl ?_
  refine Ev_ca rfl ?_
  refine m_takeUp h' n c1 n1 n2 n3 (fun f2 a2 hJ hC => ?_)
  repeat refine Ev_go rfl ?_
  refine Ev_ca rfl ?_
  refine m_wordSum hC l' w' b1 (by omega) (by rw [hJ.a 7]; exact m4 w' (by omega)) ?_
  refine Ev_rt rfl ?_
  rw [hJ.a 7]
  exact hq _ _ hJ
def sp_words (f : FF) (a : AA) (l : Int32) : Int32 := if ¬ isW f l then -1 else a 6 (nC l)
theorem M_words {σ : kt_H} {f : FF} {a : AA} {Q : Option Value → kt_H → Prop} (hI : Inv f a) (l : Int32) (hq : Q (some (.int (sp_words f a l))) (mM σ f a)) : Cs nX12_words [.ref 136, .int l] (mM σ f a) Q := by
  unfold sp_words at hq
  refine Cs_in (k := kX12_words) [some (.ref 136), some (.int l)] rfl rfl ?_
  repeat refine Ev_go rfl ?_
  refine Ev_ca rfl ?_
  refine m_noLaw l ?_
  repeat refine Ev_go rfl ?_
  refine Ev_ifb (fun g2 => ?_) (fun g2 => ?_)
  · rw [if_neg g2] at hq
    obtain ⟨l', b1, rfl, -⟩ := Inv_l hI (Decidable.not_not.mp g2)
    simp only [nC, nI_clamp (show l' < 2 ^ 31 by omega)] at hq
    repeat refine Ev_go rfl ?_
    refine Ev_ial l' rfl rfl rfl b1 (by decide) ?_
    refine Ev_rt rfl ?_
    exact hq
  · rw [if_pos g2] at hq
    repeat refine Ev_go rfl ?_
    refine Ev_rt rfl ?_
    exact hq
/-- worth: freight times what it holds, less what is owed, less cost -/
def vlI (fr : Int32) (a : AA) (kd : Int32) (n : Nat) (w d : Nat → Int32) (l but : Int32) : Int32 := fr * rmI kd n w d - toI (msr kd n w d) a l but - prI (a 9 4) kd n w d
theorem m_value {σ : kt_H} {f : FF} {a : AA} {Q : Option Value → kt_H → Prop} {kd : Int32} {n : Nat} {w d : Nat → Int32} (hC : Cur f a kd n w d) (hI : Inv f a) (fr l but : Int32) (hl : isW f l ∨ l = -9) (hq : Q (some (.int (vlI fr a kd n w d l but))) (mM σ f a)) : Cs nX12_value [.ref 136, .int fr, .int l, .int but] (mM σ f a) Q := by
  refine Cs_in (k := kX12_value) [some (.ref 136), some (.int fr), some (.int l), some (.int but)] rfl rfl ?_
  repeat refine Ev_go rfl ?_
  refine Ev_ca rfl ?_
  refine m_room hC ?_
  repeat refine Ev_go rfl ?_
  refine Ev_ca rfl ?_
  refine m_toll hC hI l but hl ?_
  repeat refine Ev_go rfl ?_
  refine Ev_ca rfl ?_
  refine m_price hC ?_
  repeat refine Ev_go rfl ?_
  refine Ev_rt rfl ?_
  exact hq
theorem vlI.jk {f f2 : FF} {a a2 : AA} (hJ : Jk f a f2 a2) (fr : Int32) (kd : Int32) (n : Nat) (w d : Nat → Int32) (l but : Int32) : vlI fr a2 kd n w d l but = vlI fr a kd n w d l but := by
  unfold vlI
  rw [toI.jk hJ, hJ.a 9]
def sp_worth (f : FF) (a : AA) (h l : Int32) : Int64 := if ¬ isH f h ∨ (¬ isW f l ∧ l ≠ -9) then LOSTL else (vlI (a 9 5) a (a 0 (nC h)) (nC (a 1 (nC h))) (hW a (nC h)) (hD a (nC h)) l (-9)).toInt64
theorem noneLaw_ok {f : FF} {l : Int32} (h : ¬ (¬ isW f l ∧ l ≠ -9)) : isW f l ∨ l = -9 := by
  by_cases h1 : isW f l
  · exact Or.inl h1
  · exact Or.inr (Decidable.not_not.mp (fun e => h ⟨h1, e⟩))
theorem M_worth {σ : kt_H} {f : FF} {a : AA} {Q : Option Value → kt_H → Prop} (hI : Inv f a) (h l : Int32) (hq : ∀ f2 a2, Jk f a f2 a2 → Q (some (.long (sp_worth f a h l))) (mM σ f2 a2)) : Cs nX12_worth [.ref 136, .int h, .int l] (mM σ f a) Q := by
  unfold sp_worth at hq
  refine Cs_in (k := kX12_worth) [some (.ref 136), some (.int h), some (.int l)] rfl rfl ?_
  have bad : (¬ isH f h ∨ (¬ isW f l ∧ l ≠ -9)) → Ev kX12_worth (16, [some (.ref 136), some (.int h), some (.int l)], [], mM σ f a) Q := by
    intro hb
    rw [if_pos hb] at hq
    refine Ev_ca rfl ?_
    refine m_lost ?_
    refine Ev_rt rfl ?_
    exact hq _ _ Jk.rf
  repeat refine Ev_go rfl ?_
  refine Ev_ca rfl ?_
  refine m_noHull h ?_
  repeat refine Ev_go rfl ?_
  refine Ev_ifb (fun g1 => ?_) (fun g1 => bad (Or.inl g1))
  have g1 := Decidable.not_not.mp g1
  repeat refine Ev_go rfl ?_
  refine Ev_ca rfl ?_
  refine m_noneLaw l ?_
  repeat refine Ev_go rfl ?_
  refine Ev_ifb (fun g2 => ?_) (fun g2 => bad (Or.inr g2))
  rw [if_neg (fun e => e.elim (fun z => z g1) g2)] at hq
  obtain ⟨h', c1, rfl, hk, n, n1, n2, n3, -⟩ := Inv_h hI g1
  simp only [nC, hM, nI_clamp (show h' < 2 ^ 31 by omega), n3, nI_clamp (show n < 2 ^ 31 by omega)] at hq
  repeat refine Ev_go rfl ?_
  refine Ev_ca rfl ?_
  refine m_takeUp h' n c1 n1 n2 n3 (fun f2 a2 hJ hC => ?_)
  repeat refine Ev_go rfl ?_
  refine Ev_ca rfl ?_
  refine m_value hC (hI.jk hJ) _ l _ ((noneLaw_ok g2).imp (isW.jk hJ) id) ?_
  repeat refine Ev_go rfl ?_
  refine Ev_rt rfl ?_
  rw [vlI.jk hJ, show a2 9 = a 9 from hJ.a 9]
  exact hq _ _ hJ
