/-! the component: a law's text is read -/
section XR
variable {σ τ : kt_H} {Q : Option Value → kt_H → Prop}
/-- the reader's cell, and a word's -/
abbrev rdC (s i n : Nat) (p ff : Int32) : kt_C := kt_ob 4 [.ref s, .int (nI i), .int (nI n), .int p, .int ff]
abbrev woC (w : Nat) (num : Int32) (cnt : Nat) (dv mo : Int32) : kt_C := kt_ob 10 [.int num, .ref (w + 1), .int (nI cnt), .int dv, .int mo]
/-- a sheet's cells as a text -/
def Tx (σ : kt_H) (s i n : Nat) (c : Nat → Int32) : Prop := ∃ (q : Nat) (v1 v2 v3 : Value) (g : Nat → Int32), σ.1 s = kt_ob 8 [.ref q, v1, v2, v3] ∧ σ.1 q = kt_ia 60 g ∧ (∀ x, x < n → g (i + x) = c x) ∧ i + n ≤ 60 ∧ s ≠ 36 ∧ q ≠ 36
theorem Tx.put {s i n : Nat} {c : Nat → Int32} (h : Tx σ s i n c) (z : kt_C) : Tx (kt_put σ 36 z) s i n c := by
  obtain ⟨q, v1, v2, v3, g, h1, h2, h3, h4, h5, h6⟩ := h
  exact ⟨q, v1, v2, v3, g, by rw [kt_put_n _ _ h5]; exact h1, by rw [kt_put_n _ _ h6]; exact h2, h3, h4, h5, h6⟩
/-- the code at a place, -1 for none -/
def cx (c : Nat → Int32) (n p : Nat) : Int32 := if p < n then c p else -1
theorem cx_cd (c : Nat → Int32) (n p : Nat) : cx c n p = cd c n p ∨ (cx c n p = -1 ∧ cd c n p = -9) := by
  unfold cx cd
  split
  · exact Or.inl rfl
  · exact Or.inr ⟨rfl, rfl⟩
theorem cx_eq {c : Nat → Int32} {n p : Nat} {x : Int32} (h1 : x ≠ -1) (h9 : x ≠ -9) : cx c n p = x ↔ cd c n p = x := by
  rcases cx_cd c n p with e | ⟨e, f⟩
  · rw [e]
  · rw [e, f]; exact ⟨fun z => absurd z.symm h1, fun z => absurd z.symm h9⟩
theorem cx_dg {c : Nat → Int32} {n p : Nat} : dgP (cx c n p) ↔ dgP (cd c n p) := by
  rcases cx_cd c n p with e | ⟨e, f⟩
  · rw [e]
  · rw [e, f]; exact ⟨fun z => absurd z (by decide), fun z => absurd z (by decide)⟩
theorem cx_lt {c : Nat → Int32} {n p : Nat} : ltI (cx c n p) = ltI (cd c n p) := by
  rcases cx_cd c n p with e | ⟨e, f⟩
  · rw [e]
  · rw [e, f]; rfl
abbrev rdP (σ : kt_H) (s i n : Nat) (p ff : Int32) : kt_H := kt_put σ 36 (rdC s i n p ff)
theorem x_code {s i n : Nat} {c : Nat → Int32} (hT : Tx σ s i n c) (p : Nat) (hp : p < 1000) (hq : Q (some (.int (cx c n p))) (rdP σ s i n (nI p) (-9))) : Cs nX4_code [.ref 36] (rdP σ s i n (nI p) (-9)) Q := by
  unfold cx at hq
  obtain ⟨q, v1, v2, v3, g, h1, h2, h3, h4, h5, h6⟩ := hT.put (rdC s i n (nI p) (-9))
  refine Cs_in (k := kX4_code) [some (.ref 36)] rfl rfl ?_
  repeat refine Ev_go rfl ?_
  refine Ev_if (fun g => ?_) (fun g => ?_)
  · have g : nI n ≤ nI p := g
    rw [if_neg (fun e => absurd g (nI_ge e (by omega)))] at hq
    repeat refine Ev_go rfl ?_
    refine Ev_rt rfl ?_
    exact hq
  · have g : ¬ nI n ≤ nI p := g
    have e : p < n := by
      rcases Nat.lt_or_ge p n with e | e
      · exact e
      · exact absurd (nI_le e (by omega)) g
    rw [if_pos e, ← h3 p e] at hq
    (repeat first | refine Ev_go rfl ?_ | refine Ev_gf rfl (h1) rfl rfl ?_ )
    refine Ev_ial (i + p) rfl h2 (nI_add i p) (by omega) (by decide) ?_
    repeat refine Ev_go rfl ?_
    refine Ev_rt rfl ?_
    exact hq
/-- after a fault nothing is read -/
theorem x_code_f {s i n : Nat} (p ff : Int32) (hf : ff ≠ -9) (hq : Q (some (.int (-1))) (rdP σ s i n p ff)) : Cs nX4_code [.ref 36] (rdP σ s i n p ff) Q := by
  refine Cs_in (k := kX4_code) [some (.ref 36)] rfl rfl ?_
  repeat refine Ev_go rfl ?_
  refine Ev_if (fun g => absurd g hf) (fun _ => ?_)
  repeat refine Ev_go rfl ?_
  refine Ev_rt rfl ?_
  exact hq
theorem x_failAt {s i n : Nat} (p : Int32) (x : Int32) (hq : Q none (rdP σ s i n p x)) : Cs nX4_failAt [.ref 36, .int x] (rdP σ s i n p (-9)) Q := by
  refine Cs_in (k := kX4_failAt) [some (.ref 36), some (.int x)] rfl rfl ?_
  repeat refine Ev_go rfl ?_
  rw [kt_put_put]
  refine Ev_rt rfl ?_
  exact hq
theorem x_failAt_f {s i n : Nat} (p ff : Int32) (hf : ff ≠ -9) (x : Int32) (hq : Q none (rdP σ s i n p ff)) : Cs nX4_failAt [.ref 36, .int x] (rdP σ s i n p ff) Q := by
  refine Cs_in (k := kX4_failAt) [some (.ref 36), some (.int x)] rfl rfl ?_
  repeat refine Ev_go rfl ?_
  refine Ev_if (fun g => absurd g hf) (fun _ => ?_)
  refine Ev_rt rfl ?_
  exact hq
theorem x_isDigit (x : Int32) (hq : Q (some (.int (bI (dgP x)))) σ) : Cs nX4_isDigit [.int x] σ Q := by
  have t1 : (48 : Int32).toInt = 48 := rfl
  have t9 : (57 : Int32).toInt = 57 := rfl
  refine Cs_in (k := kX4_isDigit) [some (.int x)] rfl rfl ?_
  repeat refine Ev_go rfl ?_
  refine Ev_if (fun g => ?_) (fun g => ?_)
  · rw [bI_f (by rw [fa_lt] at g; omega)] at hq
    repeat refine Ev_go rfl ?_
    refine Ev_rt rfl ?_
    exact hq
  · repeat refine Ev_go rfl ?_
    refine Ev_if (fun g2 => ?_) (fun g2 => ?_)
    · rw [bI_f (by rw [fa_lt] at g2; omega)] at hq
      repeat refine Ev_go rfl ?_
      refine Ev_rt rfl ?_
      exact hq
    · rw [bI_t (by rw [fa_lt] at g g2; omega)] at hq
      repeat refine Ev_go rfl ?_
      refine Ev_rt rfl ?_
      exact hq
theorem x_measureOf (x : Int32) (hq : Q (some (.int (ltI x))) σ) : Cs nX4_measureOf [.int x] σ Q := by
  unfold ltI at hq
  refine Cs_in (k := kX4_measureOf) [some (.int x)] rfl rfl ?_
  iterate 2 refine Ev_go rfl ?_
  rw [show kt_sw 65 83 [98, 94, 110, 100, 110, 110, 110, 102, 110, 110, 107, 92, 96, 110, 110, 110, 110, 110, 104] 110 x = _ from sw_lt x]
  refine Ev_if (fun g => ?_) (fun g => ?_)
  · rw [if_pos g] at hq; repeat refine Ev_go rfl ?_; refine Ev_rt rfl ?_; exact hq
  rw [if_neg g] at hq
  refine Ev_if (fun g => ?_) (fun g => ?_)
  · rw [if_pos g] at hq; repeat refine Ev_go rfl ?_; refine Ev_rt rfl ?_; exact hq
  rw [if_neg g] at hq
  refine Ev_if (fun g => ?_) (fun g => ?_)
  · rw [if_pos g] at hq; repeat refine Ev_go rfl ?_; refine Ev_rt rfl ?_; exact hq
  rw [if_neg g] at hq
  refine Ev_if (fun g => ?_) (fun g => ?_)
  · rw [if_pos g] at hq; repeat refine Ev_go rfl ?_; refine Ev_rt rfl ?_; exact hq
  rw [if_neg g] at hq
  refine Ev_if (fun g => ?_) (fun g => ?_)
  · rw [if_pos g] at hq; repeat refine Ev_go rfl ?_; refine Ev_rt rfl ?_; exact hq
  rw [if_neg g] at hq
  refine Ev_if (fun g => ?_) (fun g => ?_)
  · rw [if_pos g] at hq; repeat refine Ev_go rfl ?_; refine Ev_rt rfl ?_; exact hq
  rw [if_neg g] at hq
  refine Ev_if (fun g => ?_) (fun g => ?_)
  · rw [if_pos g] at hq; repeat refine Ev_go rfl ?_; refine Ev_rt rfl ?_; exact hq
  rw [if_neg g] at hq
  refine Ev_if (fun g => ?_) (fun g => ?_)
  · rw [if_pos g] at hq; repeat refine Ev_go rfl ?_; refine Ev_rt rfl ?_; exact hq
  rw [if_neg g] at hq
  repeat refine Ev_go rfl ?_
  refine Ev_rt rfl ?_
  exact hq
theorem x_takes {s i n : Nat} {c : Nat → Int32} (hT : Tx σ s i n c) (p : Nat) (hp : p < 1000) (x : Int32) (x1 : x ≠ -1) (x9 : x ≠ -9) (h1 : cd c n p = x → Q (some (.int 1)) (rdP σ s i n (nI (p + 1)) (-9))) (h0 : ¬ cd c n p = x → Q (some (.int 0)) (rdP σ s i n (nI p) (-9))) : Cs nX4_takes [.ref 36, .int x] (rdP σ s i n (nI p) (-9)) Q := by
  refine Cs_in (k := kX4_takes) [some (.ref 36), some (.int x), none] rfl rfl ?_
  repeat refine Ev_go rfl ?_
  refine Ev_ca rfl ?_
  refine x_code hT p hp ?_
  repeat refine Ev_go rfl ?_
  refine Ev_if (fun g => ?_) (fun g => ?_)
  · repeat refine Ev_go rfl ?_
    rw [kt_put_put, nI_1]
    refine Ev_rt rfl ?_
    exact h1 ((cx_eq x1 x9).mp g)
  · repeat refine Ev_go rfl ?_
    refine Ev_rt rfl ?_
    exact h0 (fun z => g ((cx_eq x1 x9).mpr z))
theorem x_takes_f {s i n : Nat} (p ff : Int32) (hf : ff ≠ -9) (x : Int32) (x1 : x ≠ -1) (hq : Q (some (.int 0)) (rdP σ s i n p ff)) : Cs nX4_takes [.ref 36, .int x] (rdP σ s i n p ff) Q := by
  refine Cs_in (k := kX4_takes) [some (.ref 36), some (.int x), none] rfl rfl ?_
  repeat refine Ev_go rfl ?_
  refine Ev_ca rfl ?_
  refine x_code_f p ff hf ?_
  repeat refine Ev_go rfl ?_
  refine Ev_if (fun g => absurd g.symm x1) (fun _ => ?_)
  repeat refine Ev_go rfl ?_
  refine Ev_rt rfl ?_
  exact hq
theorem x_number_loop {s i n : Nat} {c : Nat → Int32} (hT : Tx σ s i n c) (m : Nat) (le p0 : Int32) (hm : m ≤ 3) : ∀ (e x p : Nat) (v : Int32), x + e = m → p + e < 900 → (∀ d, Ev kX4_readNumber (58, [some (.ref 36), some (.int (nI m)), some (.int le), some (.int p0), some (.int (nmI c n e p v).2), some (.int d)], [], rdP σ s i n (nI (nmI c n e p v).1) (-9)) Q) → Ev kX4_readNumber (if nI m ≤ nI x then 58 else 17, [some (.ref 36), some (.int (nI m)), some (.int le), some (.int p0), some (.int v), some (.int (nI x))], [], rdP σ s i n (nI p) (-9)) Q := by
  intro e
  induction e with
  | zero =>
    intro x p v hx hp h
    exact Ev_if (fun _ => h _) (fun g1 => absurd (nI_le (by omega) (by omega)) g1)
  | succ e ih =>
    intro x p v hx hp h
    refine Ev_if (fun g1 => absurd g1 (nI_ge (by omega) (by omega))) (fun _ => ?_)
    unfold nmI at h
    repeat refine Ev_go rfl ?_
    refine Ev_ca rfl ?_
    refine x_code hT p (by omega) ?_
    repeat refine Ev_go rfl ?_
    refine Ev_ca rfl ?_
    refine x_isDigit _ ?_
    repeat refine Ev_go rfl ?_
    refine Ev_ifb (fun g => ?_) (fun g => ?_)
    · rw [if_neg (fun z => g (cx_dg.mpr z))] at h
      exact h _
    · have g2 := cx_dg.mp g
      rw [if_pos g2] at h
      have ec : cx c n p = cd c n p := by
        rcases cx_cd c n p with e | ⟨e, f⟩
        · exact e
        · rw [e] at g; exact absurd g (by decide)
      repeat refine Ev_go rfl ?_
      refine Ev_ca rfl ?_
      refine x_code hT p (by omega) ?_
      repeat refine Ev_go rfl ?_
      rw [kt_put_put, nI_1, nI_1, ec]
      exact ih (x + 1) (p + 1) _ (by omega) (by omega) h
theorem x_readNumber {s i n : Nat} {c : Nat → Int32} (hT : Tx σ s i n c) (m : Nat) (hm : m ≤ 3) (le : Int32) (p : Nat) (hp : p < 800) (h0 : ((nmI c n m p 0).1 = p ∨ (nmI c n m p 0).2 < le) → Q (some (.int (nmI c n m p 0).2)) (rdP σ s i n (nI (nmI c n m p 0).1) (nI p))) (h1 : ¬ ((nmI c n m p 0).1 = p ∨ (nmI c n m p 0).2 < le) → Q (some (.int (nmI c n m p 0).2)) (rdP σ s i n (nI (nmI c n m p 0).1) (-9))) : Cs nX4_readNumber [.ref 36, .int (nI m), .int le] (rdP σ s i n (nI p) (-9)) Q := by
  have hl := nmI_le c n m p 0
  refine Cs_in (k := kX4_readNumber) [some (.ref 36), some (.int (nI m)), some (.int le), none, none, none] rfl rfl ?_
  repeat refine Ev_go rfl ?_
  refine x_number_loop hT m le (nI p) hm m 0 p 0 (by omega) (by omega) (fun d => ?_)
  generalize nmI c n m p 0 = r at h0 h1 hl ⊢
  obtain ⟨P, V⟩ := r
  have bad : (P = p ∨ V < le) → Ev kX4_readNumber (72, [some (.ref 36), some (.int (nI m)), some (.int le), some (.int (nI p)), some (.int V), some (.int d)], [], rdP σ s i n (nI P) (-9)) Q := by
    intro h
    repeat refine Ev_go rfl ?_
    refine Ev_ca rfl ?_
    refine x_failAt _ _ ?_
    repeat refine Ev_go rfl ?_
    refine Ev_rt rfl ?_
    exact h0 h
  repeat refine Ev_go rfl ?_
  refine Ev_if (fun g => bad (Or.inl ((nI_eq (by omega) (by omega)).mp g))) (fun g => ?_)
  repeat refine Ev_go rfl ?_
  refine Ev_if (fun g2 => ?_) (fun g2 => bad (Or.inr (by have g2 : ¬ le ≤ V := g2; rw [fa_lt]; rw [fa_le] at g2; omega)))
  have g2 : le ≤ V := g2
  repeat refine Ev_go rfl ?_
  refine Ev_rt rfl ?_
  refine h1 (fun z => ?_)
  rcases z with z | z
  · exact g ((nI_eq (by omega) (by omega)).mpr z)
  · rw [fa_lt] at z; rw [fa_le] at g2
    have z : V.toInt < le.toInt := z
    omega
end XR
