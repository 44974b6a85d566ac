/-! how great a hull's numbers are -/
theorem sub_sw (x y z : Int32) : x - y - z = x - z - y := by
  rw [Int32.sub_eq_add_neg, Int32.sub_eq_add_neg, Int32.sub_eq_add_neg, Int32.sub_eq_add_neg, Int32.add_assoc, Int32.add_comm (-y), ← Int32.add_assoc]
theorem pt_n {x : Int32} (h : pt x) : ∃ j : Nat, 1 ≤ j ∧ j ≤ 9 ∧ x = nI j := by
  obtain ⟨j, h1, h2, h3⟩ := nI_ex 9 h
  exact ⟨j, by omega, h1, h3⟩
theorem smI_b {w : Nat → Int32} : ∀ {n : Nat}, (∀ x, x < n → pt (w x)) → ∃ j : Nat, j ≤ 9 * n ∧ smI w n = nI j
  | 0, _ => ⟨0, by omega, rfl⟩
  | n + 1, h => by
    obtain ⟨j, h1, h2⟩ := smI_b (w := w) (n := n) (fun x hx => h x (by omega))
    obtain ⟨i, i1, i2, i3⟩ := pt_n (h n (by omega))
    exact ⟨j + i, by omega, by rw [smI, h2, i3, nI_add]⟩
theorem gtI_n {i j : Nat} : gtI (nI i) (nI j) = nI i ∨ gtI (nI i) (nI j) = nI j := by
  unfold gtI
  split
  · exact Or.inl rfl
  · exact Or.inr rfl
theorem mxI_b {w : Nat → Int32} : ∀ {n : Nat}, (∀ x, x < n → pt (w x)) → ∃ j : Nat, j ≤ 9 ∧ mxI w n = nI j
  | 0, _ => ⟨0, by omega, rfl⟩
  | n + 1, h => by
    obtain ⟨j, h1, h2⟩ := mxI_b (w := w) (n := n) (fun x hx => h x (by omega))
    obtain ⟨i, i1, i2, i3⟩ := pt_n (h n (by omega))
    rw [mxI, h2, i3]
    rcases gtI_n (i := j) (j := i) with e | e
    · exact ⟨j, h1, e⟩
    · exact ⟨i, i2, e⟩
theorem dtI_b {w d : Nat → Int32} : ∀ {n : Nat}, (∀ x, x < n → pt (w x) ∧ pt (d x)) → ∃ j : Nat, j ≤ 81 * n ∧ dtI 0 w d n = nI j
  | 0, _ => ⟨0, by omega, rfl⟩
  | n + 1, h => by
    obtain ⟨j, h1, h2⟩ := dtI_b (w := w) (d := d) (n := n) (fun x hx => h x (by omega))
    obtain ⟨i, i1, i2, i3⟩ := pt_n (h n (by omega)).1
    obtain ⟨k, k1, k2, k3⟩ := pt_n (h n (by omega)).2
    have : i * k ≤ 9 * 9 := Nat.mul_le_mul i2 k2
    exact ⟨j + i * k, by omega, by rw [dtI, h2, i3, k3, pk_mul, nI_add]⟩
section XB2
variable {n : Nat} {w d : Nat → Int32} {kd : Int32}
theorem rmI_b (hB : Bd n w d) : ∃ j : Nat, j ≤ 90 * n ∧ rmI kd n w d = nI j := by
  obtain ⟨j, h1, h2⟩ := dtI_b hB
  obtain ⟨i, i1, i2⟩ := smI_b (fun x hx => (hB x hx).1)
  unfold rmI
  rw [dtI_s, h2]
  split
  · exact ⟨j, by omega, by rw [Int32.add_zero]⟩
  · exact ⟨j + i, by omega, by rw [i2, nI_add]⟩
theorem prI_b (hB : Bd n w d) {pl : Int32} (hp : 0 ≤ pl.toInt ∧ pl.toInt ≤ 9) : ∃ j : Nat, j ≤ 243 * n ∧ prI pl kd n w d = nI j := by
  obtain ⟨j, h1, h2⟩ := smI_b (fun x hx => (hB x hx).1)
  obtain ⟨i, i1, i2⟩ := smI_b (fun x hx => (hB x hx).2)
  obtain ⟨k, k1, k2, k3⟩ := nI_ex 9 hp
  unfold prI
  rw [h2, i2, k3, fa_lit 2, pk_mul, nI_add, pk_mul]
  have : k * (j + 2 * i) ≤ 9 * (j + 2 * i) := Nat.mul_le_mul_right _ k1
  exact ⟨_, by omega, rfl⟩
theorem msr_b (hB : Bd n w d) (hn1 : 1 ≤ n) (hn : n ≤ 8) (q : Nat) : ∃ j : Nat, j ≤ 99 ∧ msr kd n w d q = nI j := by
  obtain ⟨sw, sw1, sw2⟩ := smI_b (fun x hx => (hB x hx).1)
  obtain ⟨sd, sd1, sd2⟩ := smI_b (fun x hx => (hB x hx).2)
  obtain ⟨mw, mw1, mw2⟩ := mxI_b (fun x hx => (hB x hx).1)
  obtain ⟨md, md1, md2⟩ := mxI_b (fun x hx => (hB x hx).2)
  obtain ⟨cw, cw1, cw2, cw3⟩ := pt_n (hB (n / 2) (by omega)).1
  obtain ⟨cd', cd1, cd2, cd3⟩ := pt_n (hB (n / 2) (by omega)).2
  unfold msr
  split
  · split
    · by_cases h : 2 ≤ n
      · rw [show nI n - 2 = nI (n - 2) from pk_sub (b := 2) (by omega)]
        rcases gtI_n (i := 0) (j := n - 2) with e | e
        · exact ⟨0, by omega, e⟩
        · exact ⟨n - 2, by omega, e⟩
      · rw [show n = 1 by omega]
        exact ⟨0, by omega, by decide⟩
    · exact ⟨n, by omega, rfl⟩
  · exact ⟨mw, by omega, mw2⟩
  · exact ⟨cw, by omega, cw3⟩
  · exact ⟨sw, by omega, sw2⟩
  · exact ⟨md, by omega, md2⟩
  · exact ⟨cd', by omega, cd3⟩
  · exact ⟨sd, by omega, sd2⟩
  · split
    · exact ⟨0, by omega, rfl⟩
    · exact ⟨1, by omega, rfl⟩
  · exact ⟨sd, by omega, sd2⟩
theorem msr_u (hB : Bd n w d) (hn1 : 1 ≤ n) (hn : n ≤ 8) : uOk (msr kd n w d) := by
  intro q _
  obtain ⟨j, h1, h2⟩ := msr_b (kd := kd) hB hn1 hn q
  rw [h2, nI_toInt (by omega)]
  omega
end XB2
abbrev Mv (v : Nat → Int32) (kd : Int32) (n : Nat) (w d : Nat → Int32) : Prop := ∀ q, q < 9 → v q = msX kd n w d q
theorem Mv.m {v : Nat → Int32} {kd : Int32} {n : Nat} {w d : Nat → Int32} (h : Mv v kd n w d) {q : Nat} (hq : q < 8) : v q = msr kd n w d q := by
  rw [h q (by omega), msX, if_pos hq]
theorem Mv.r {v : Nat → Int32} {kd : Int32} {n : Nat} {w d : Nat → Int32} (h : Mv v kd n w d) : v 8 = rmI kd n w d := h 8 (by decide)
theorem Mv.u {v : Nat → Int32} {kd : Int32} {n : Nat} {w d : Nat → Int32} (h : Mv v kd n w d) (hB : Bd n w d) (hn1 : 1 ≤ n) (hn : n ≤ 8) : uOk v := by
  intro q hq
  rw [h.m hq]
  exact msr_u hB hn1 hn q hq
theorem fac_u {u v : Nat → Int32} (h : ∀ q, q < 8 → u q = v q) {x : Int32} (hx : x = -9 ∨ (0 ≤ x.toInt ∧ x.toInt ≤ 7) ∨ (101 ≤ x.toInt ∧ x.toInt ≤ 199)) : fac u x = fac v x := by
  rcases hx with e | e | e
  · subst e; rw [fac_n (by decide), fac_n (by decide)]
  · obtain ⟨j, a1, a2, rfl⟩ := nI_ex 7 e
    rw [fac_m a1, fac_m a1, h j (by omega)]
  · rw [fac_c (by omega), fac_c (by omega)]
theorem wvI_u {u v : Nat → Int32} (h : ∀ q, q < 8 → u q = v q) {t : Nat → Int32} {b : Nat} (ht : wOk t b) : wvI u t b = wvI v t b := by
  unfold wvI
  rw [show fac u (t b) = fac v (t b) from fac_u h (ht.1 0 (by decide)), fac_u h (ht.1 1 (by decide)), fac_u h (ht.1 2 (by decide))]
theorem tlI_u {u v : Nat → Int32} (h : ∀ q, q < 8 → u q = v q) {t : Nat → Int32} {l : Nat} {but : Int32} : ∀ {n : Nat}, (∀ w, w < n → wOk t (20 * l + 5 * w)) → tlI u t l but n = tlI v t l but n
  | 0, _ => rfl
  | n + 1, ht => by
    rw [tlI, tlI, tlI_u h (fun w hw => ht w (by omega)), wvI_u h (ht n (by omega))]
theorem wvI_b {u : Nat → Int32} (hu : uOk u) {t : Nat → Int32} {b : Nat} (ht : wOk t b) : ∃ j : Nat, j ≤ 970299 ∧ wvI u t b = nI j := by
  obtain ⟨j0, b0, e0⟩ := fac_b hu (ht.1 0 (by decide))
  obtain ⟨j1, b1, e1⟩ := fac_b hu (ht.1 1 (by decide))
  obtain ⟨j2, b2, e2⟩ := fac_b hu (ht.1 2 (by decide))
  obtain ⟨dv, c1, c2, c3⟩ := nI_ex 9 ht.2.1
  unfold wvI
  rw [show fac u (t b) = nI j0 from e0, e1, e2, c3, show (1 : Int32) * nI j0 * nI j1 * nI j2 = nI (1 * j0 * j1 * j2) by rw [fa_lit 1, pk_mul, pk_mul, pk_mul]]
  have hb : 1 * j0 * j1 * j2 ≤ 970299 := by
    have : j0 * j1 ≤ 99 * 99 := Nat.mul_le_mul b0 b1
    have := Nat.mul_le_mul this b2
    rw [Nat.one_mul]
    omega
  generalize 1 * j0 * j1 * j2 = P at hb ⊢
  have hd : nI P / nI dv = nI (P / dv) := pk_div (by omega) (by have := ht.2.1; omega) (by omega)
  have hle : P / dv ≤ P := Nat.div_le_self P dv
  rw [hd]
  split
  · rename_i hh
    rcases ht.2.2 with e | e
    · rw [e] at hh
      exact absurd hh.1 (by decide)
    · obtain ⟨k, k1, k2, k3⟩ := nI_ex 999 e
      exact ⟨k, by omega, k3⟩
  · exact ⟨P / dv, by omega, rfl⟩
theorem tlI_b {u : Nat → Int32} (hu : uOk u) {t : Nat → Int32} {l : Nat} {but : Int32} : ∀ {n : Nat}, (∀ w, w < n → wOk t (20 * l + 5 * w)) → ∃ j : Nat, j ≤ 970299 * n ∧ tlI u t l but n = nI j
  | 0, _ => ⟨0, by omega, rfl⟩
  | n + 1, ht => by
    obtain ⟨j, h1, h2⟩ := tlI_b hu (but := but) (n := n) (fun w hw => ht w (by omega))
    obtain ⟨i, i1, i2⟩ := wvI_b hu (ht n (by omega))
    rw [tlI, h2]
    split
    · exact ⟨j, by omega, by rw [Int32.add_zero]⟩
    · exact ⟨j + i, by omega, by rw [i2, nI_add]⟩
theorem toI_b {f : FF} {a : AA} (hI : Inv f a) {u : Nat → Int32} (hu : uOk u) {l : Int32} (but : Int32) (hl : isW f l ∨ l = -9) : ∃ j : Nat, j ≤ 3881196 ∧ toI u a l but = nI j := by
  unfold toI
  rcases hl with h | h
  · obtain ⟨l', a1, rfl, n, n1, n4, a6, hw⟩ := Inv_l hI h
    rw [if_neg (nI_pos (by omega)), nC, nI_clamp (by omega), a6, nC, nI_clamp (by omega)]
    obtain ⟨j, j1, j2⟩ := tlI_b hu (but := but) hw
    exact ⟨j, by omega, j2⟩
  · subst h
    exact ⟨0, by omega, rfl⟩
theorem toI_9 (u : Nat → Int32) (a : AA) (but : Int32) : toI u a (-9) but = 0 := if_pos (by decide)
theorem toI_n {u : Nat → Int32} {a : AA} {L k : Nat} (hL : L < 8) (hk : a 6 L = nI k) (h4 : k ≤ 4) (but : Int32) : toI u a (nI L) but = tlI u (a 7) L but k := by
  unfold toI
  rw [if_neg (nI_pos (by omega)), nC, nI_clamp (by omega), hk, nC, nI_clamp (by omega)]
theorem vlI_9 (fr : Int32) (a : AA) (kd : Int32) (n : Nat) (w d : Nat → Int32) (but : Int32) : vlI fr a kd n w d (-9) but = fr * rmI kd n w d - prI (a 9 4) kd n w d := by
  unfold vlI
  rw [toI_9, Int32.sub_zero]
theorem vlI_s (fr : Int32) (a : AA) (kd : Int32) (n : Nat) (w d : Nat → Int32) (l but : Int32) : vlI fr a kd n w d l but = vlI fr a kd n w d (-9) (-9) - toI (msr kd n w d) a l but := by
  rw [vlI_9]
  exact sub_sw _ _ _
/-- what is owed is no less than 0 -/
theorem vlI_le {f : FF} {a : AA} (hI : Inv f a) {fr : Int32} (hf : isF fr) {kd : Int32} {n : Nat} {w d : Nat → Int32} (hB : Bd n w d) (hn1 : 1 ≤ n) (hn : n ≤ 8) {l : Int32} (but : Int32) (hl : isW f l ∨ l = -9) : (vlI fr a kd n w d l but).toInt ≤ (vlI fr a kd n w d (-9) (-9)).toInt := by
  obtain ⟨o, o1, o2⟩ := toI_b hI (msr_u (kd := kd) hB hn1 hn) but hl
  obtain ⟨r, r1, r2⟩ := rmI_b (kd := kd) hB
  obtain ⟨p, p1, p2⟩ := prI_b (kd := kd) hB hI.2.2.1.2.2.2.2.1
  obtain ⟨F, f1, f2, f3⟩ := nI_ex 99 hf
  rw [vlI_s, o2, vlI_9, r2, p2, f3, pk_mul]
  have hFr : F * r ≤ 99 * r := Nat.mul_le_mul_right _ f1
  have e1 : (nI (F * r) - nI p).toInt = (F * r : Nat) - (p : Int) := by
    rw [fb_subI (by rw [nI_toInt (by omega), nI_toInt (by omega)]; omega) (by rw [nI_toInt (by omega), nI_toInt (by omega)]; omega), nI_toInt (by omega), nI_toInt (by omega)]
  have e2 := nI_toInt (n := o) (by omega)
  rw [fb_subI (by omega) (by omega)]
  omega
/-- where a need is broken, as a number -/
theorem fsI_c {P : Nat → Prop} [DecidablePred P] : ∀ (e x : Nat), fsI P e x = -9 ∨ ∃ y : Nat, y < x + e ∧ fsI P e x = nI y := by
  intro e
  induction e with
  | zero => intro x; exact Or.inl rfl
  | succ e ih =>
    intro x
    rw [fsI]
    split
    · exact Or.inr ⟨x, by omega, rfl⟩
    · rcases ih (x + 1) with h | ⟨y, h1, h2⟩
      · exact Or.inl h
      · exact Or.inr ⟨y, by omega, h2⟩
theorem brI_c (nv : Nat → Int32) (kd : Int32) (n : Nat) (hn1 : 1 ≤ n) (w d : Nat → Int32) (q : Nat) : brI nv kd n w d q = -9 ∨ ∃ y : Nat, y < n ∧ brI nv kd n w d q = nI y := by
  unfold brI
  split
  · rcases fsI_c (P := b0P nv n w) n 0 with h | ⟨y, h1, h2⟩
    · exact Or.inl h
    · exact Or.inr ⟨y, by omega, h2⟩
  · rcases fsI_c (P := b1P nv w d) n 0 with h | ⟨y, h1, h2⟩
    · exact Or.inl h
    · exact Or.inr ⟨y, by omega, h2⟩
  · rcases fsI_c (P := b2P nv n w) n 0 with h | ⟨y, h1, h2⟩
    · exact Or.inl h
    · exact Or.inr ⟨y, by omega, h2⟩
  · split
    · exact Or.inl rfl
    · exact Or.inr ⟨0, by omega, rfl⟩
theorem fb_br {nv : Nat → Int32} {kd : Int32} {n : Nat} {w d : Nat → Int32} (h : ¬ fbI nv kd n w d < 0) : ¬ brI nv kd n w d (nC (fbI nv kd n w d)) < 0 := by
  unfold fbI at h ⊢
  split at h
  · rename_i h0
    rw [if_pos h0]
    split at h
    · rename_i h1
      rw [if_pos h1]
      split at h
      · rename_i h2
        rw [if_pos h2]
        split at h
        · exact absurd (by decide) h
        · rename_i h3
          rw [if_neg h3]
          exact h3
      · rename_i h2
        rw [if_neg h2]
        exact h2
    · rename_i h1
      rw [if_neg h1]
      exact h1
  · rename_i h0
    rw [if_neg h0]
    exact h0
/-- the number of what is broken, or none -/
theorem fx_c {nv : Nat → Int32} {kd : Int32} {n : Nat} {w d : Nat → Int32} (hn1 : 1 ≤ n) (hn : n ≤ 8) : (fbI nv kd n w d < 0 ∧ fxI nv kd n w d = -9) ∨ ∃ q y : Nat, q ≤ 3 ∧ y < 8 ∧ fbI nv kd n w d = nI q ∧ brI nv kd n w d q = nI y ∧ fxI nv kd n w d = nI (8 * q + y) := by
  rcases fbI_c nv kd n w d with h | ⟨q, q3, hq⟩
  · refine Or.inl ⟨by rw [h]; decide, ?_⟩
    unfold fxI
    rw [h, if_pos (by decide)]
  · have h0 : ¬ fbI nv kd n w d < 0 := by rw [hq]; exact nI_pos (by omega)
    have h1 := fb_br h0
    have ec : nC (fbI nv kd n w d) = q := by rw [hq, nC, nI_clamp (by omega)]
    rw [ec] at h1
    rcases brI_c nv kd n hn1 w d q with e | ⟨y, y1, y2⟩
    · rw [e] at h1; exact absurd (by decide) h1
    · refine Or.inr ⟨q, y, q3, by omega, hq, y2, ?_⟩
      unfold fxI
      rw [if_neg h0, ec, y2, hq, fa_lit 8, pk_mul, nI_add]
theorem fx_9 {nv : Nat → Int32} {kd : Int32} {n : Nat} {w d : Nat → Int32} (hn1 : 1 ≤ n) (hn : n ≤ 8) : fxI nv kd n w d = -9 ↔ fbI nv kd n w d < 0 := by
  rcases fx_c (nv := nv) (kd := kd) (w := w) (d := d) hn1 hn with ⟨h1, h2⟩ | ⟨q, y, h1, h2, h3, h4, h5⟩
  · exact ⟨fun _ => h1, fun _ => h2⟩
  · refine ⟨fun z => ?_, fun z => ?_⟩
    · rw [h5] at z; exact absurd z (nI_ne9 (by omega))
    · rw [h3] at z; exact absurd z (nI_pos (by omega))
theorem Bd_row {n m r : Nat} (hm : 1 ≤ m) (hm3 : m ≤ 3) : Bd n (rW n m r) (rD n m r) := by
  intro x _
  have c : ∀ z : Nat, pt (nI (z % m + 1)) := fun z => by
    have := Nat.mod_lt z (show 0 < m by omega)
    rw [pt, nI_toInt (by omega)]
    omega
  exact ⟨c _, c _⟩
