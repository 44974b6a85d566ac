/-! both objects are made: small ones -/
section IN
variable {k : Nat → kt_S} {pc nx : Nat} {L : kt_L} {S : List Value} {σ τ : kt_H} {Q : Option Value → kt_H → Prop}
theorem Ev_new {ci z : Nat} {fs : List Value} (hk : k pc = s_new ci fs nx) (hz : σ.2.1 = z) (h : ∀ τ : kt_H, τ.1 z = kt_ob ci fs → (∀ j, j ≠ z → τ.1 j = σ.1 j) → τ.2.1 = z + 1 → τ.2.2 = σ.2.2 + fs.length → Ev k (nx, L, .ref z :: S, τ) Q) : Ev k (pc, L, S, σ) Q := by
  subst hz
  refine Ev_go (fr := (nx, L, .ref σ.2.1 :: S, kt_new σ (.inr (ci, fs)) fs.length)) ?_ (h _ (kt_new_s _ _ _) (fun j hj => kt_new_n _ _ _ hj) rfl rfl)
  rw [hk]
  rfl
theorem Ev_nai {z n : Nat} {i : Int32} (hk : k pc = s_nai nx) (hi : i = nI n) (hn : n < 1000) (hz : σ.2.1 = z) (h : ∀ τ : kt_H, τ.1 z = kt_ia n (fun _ => 0) → (∀ j, j ≠ z → τ.1 j = σ.1 j) → τ.2.1 = z + 1 → τ.2.2 = σ.2.2 + n → Ev k (nx, L, .ref z :: S, τ) Q) : Ev k (pc, L, .int i :: S, σ) Q := by
  subst hz
  refine Ev_go (fr := (nx, L, .ref σ.2.1 :: S, kt_new σ (kt_ia n (fun _ => 0)) n)) ?_ (h _ (kt_new_s _ _ _) (fun j hj => kt_new_n _ _ _ hj) rfl rfl)
  rw [hk]
  unfold s_nai
  dsimp only
  have e : i.toNatClampNeg = n := by rw [hi]; exact nI_clamp (by omega)
  rw [e, if_neg (fun z => z.elim (fun y => by rw [hi] at y; exact absurd y (nI_pos (by omega))) (fun y => by omega))]
theorem Ev_naq {z n t : Nat} {i : Int32} (hk : k pc = s_naq t nx) (hi : i = nI n) (hn : n < 1000) (hz : σ.2.1 = z) (h : ∀ τ : kt_H, τ.1 z = kt_ra t n (fun _ => none) → (∀ j, j ≠ z → τ.1 j = σ.1 j) → τ.2.1 = z + 1 → τ.2.2 = σ.2.2 + n → Ev k (nx, L, .ref z :: S, τ) Q) : Ev k (pc, L, .int i :: S, σ) Q := by
  subst hz
  refine Ev_go (fr := (nx, L, .ref σ.2.1 :: S, kt_new σ (kt_ra t n (fun _ => none)) n)) ?_ (h _ (kt_new_s _ _ _) (fun j hj => kt_new_n _ _ _ hj) rfl rfl)
  rw [hk]
  unfold s_naq
  dsimp only
  have e : i.toNatClampNeg = n := by rw [hi]; exact nI_clamp (by omega)
  rw [e, if_neg (fun z => z.elim (fun y => by rw [hi] at y; exact absurd y (nI_pos (by omega))) (fun y => by omega))]
theorem Ev_ppf {o ci q b : Nat} {cs : List Nat} {fs gs : List Value} {v : Value} (hk : k pc = s_pf cs q b nx) (ho : σ.1 o = kt_ob ci fs) (hm : kt_mem ci cs = true) (hf : kt_fit b v = true) (hv : kt_fset fs q v = some gs) (h : ∀ τ : kt_H, τ.1 o = kt_ob ci gs → (∀ j, j ≠ o → τ.1 j = σ.1 j) → τ.2 = σ.2 → Ev k (nx, L, S, τ) Q) : Ev k (pc, L, v :: .ref o :: S, σ) Q :=
  Ev_pf hk ho hm hf hv (h _ (kt_put_s _ _ _) (fun j hj => kt_put_n _ _ hj) rfl)
theorem Ev_aag {o v t n ci : Nat} {fs : List Value} {g : Nat → Option Nat} {i : Int32} (j : Nat) (hk : k pc = s_aas nx) (hc : σ.1 o = kt_ra t n g) (hv : σ.1 v = kt_ob ci fs) (ht : kt_mem ci (kt_ac t) = true) (hi : i = nI j) (hj : j < n) (hn : n < 2 ^ 31) (h : ∀ τ : kt_H, τ.1 o = kt_ra t n (va_up g j (some v)) → (∀ j, j ≠ o → τ.1 j = σ.1 j) → τ.2 = σ.2 → Ev k (nx, L, S, τ) Q) : Ev k (pc, L, .ref v :: .int i :: .ref o :: S, σ) Q :=
  Ev_aas j hk hc hv ht hi hj hn (h _ (kt_put_s _ _ _) (fun j hj => kt_put_n _ _ hj) rfl)
end IN
section IM
variable {σ : kt_H} {Q : Option Value → kt_H → Prop}
theorem x_i10 {o : Nat} (ho : σ.1 o = kt_ob 10 [.int 0, .null, .int 0, .int 0, .int 0]) (hz : σ.2.1 = o + 1) (hq : ∀ τ : kt_H, τ.1 o = kt_ob 10 [.int 1, .ref (o + 1), .int 0, .int 1, .int 970299] → τ.1 (o + 1) = kt_ia 3 (fun _ => 0) → (∀ j, j < o → τ.1 j = σ.1 j) → τ.2.1 = o + 2 → τ.2.2 = σ.2.2 + 3 → Q none τ) : Cs nX10_init [.ref o] σ Q := by
  refine Cs_in (k := kX10_init) [some (.ref o)] rfl rfl ?_
  repeat refine Ev_go rfl ?_
  refine Ev_ppf rfl ho rfl rfl rfl (fun σ1 a1 b1 c1 => ?_)
  iterate 2 refine Ev_go rfl ?_
  refine Ev_nai (n := 3) (z := o + 1) rfl rfl (by decide) (by rw [c1]; exact hz) (fun σ2 a2 b2 c2 d2 => ?_)
  refine Ev_ppf rfl (by rw [b2 _ (by omega)]; exact a1) rfl rfl rfl (fun σ3 a3 b3 c3 => ?_)
  repeat refine Ev_go rfl ?_
  refine Ev_ppf rfl a3 rfl rfl rfl (fun σ4 a4 b4 c4 => ?_)
  repeat refine Ev_go rfl ?_
  refine Ev_ppf rfl a4 rfl rfl rfl (fun σ5 a5 b5 c5 => ?_)
  repeat refine Ev_go rfl ?_
  refine Ev_ppf rfl a5 rfl rfl rfl (fun σ6 a6 b6 c6 => ?_)
  refine Ev_rt rfl ?_
  refine hq σ6 a6 (by rw [b6 _ (by omega), b5 _ (by omega), b4 _ (by omega), b3 _ (by omega)]; exact a2) (fun j hj => by rw [b6 _ (by omega), b5 _ (by omega), b4 _ (by omega), b3 _ (by omega), b2 _ (by omega), b1 _ (by omega)]) ?_ ?_
  · rw [c6, c5, c4, c3]; exact c2
  · rw [c6, c5, c4, c3, d2, c1]
theorem x_i0 {o : Nat} (ho : σ.1 o = kt_ob 0 [.null, .int 0, .int 0, .int 0, .int 0, .int 0, .int 0, .null]) (hz : σ.2.1 = o + 1) (hq : ∀ τ : kt_H, τ.1 o = kt_ob 0 [.null, .int (-1), .int 0, .int 0, .int 0, .int 0, .int 0, .ref (o + 1)] → τ.1 (o + 1) = kt_ia 8 (fun _ => 0) → (∀ j, j < o → τ.1 j = σ.1 j) → τ.2.1 = o + 2 → τ.2.2 = σ.2.2 + 8 → Q none τ) : Cs nX0_init [.ref o] σ Q := by
  refine Cs_in (k := kX0_init) [some (.ref o)] rfl rfl ?_
  repeat refine Ev_go rfl ?_
  refine Ev_ppf rfl ho rfl rfl rfl (fun σ1 a1 b1 c1 => ?_)
  repeat refine Ev_go rfl ?_
  refine Ev_ppf rfl a1 rfl rfl rfl (fun σ2 a2 b2 c2 => ?_)
  repeat refine Ev_go rfl ?_
  refine Ev_ppf rfl a2 rfl rfl rfl (fun σ3 a3 b3 c3 => ?_)
  repeat refine Ev_go rfl ?_
  refine Ev_ppf rfl a3 rfl rfl rfl (fun σ4 a4 b4 c4 => ?_)
  repeat refine Ev_go rfl ?_
  refine Ev_ppf rfl a4 rfl rfl rfl (fun σ5 a5 b5 c5 => ?_)
  repeat refine Ev_go rfl ?_
  refine Ev_ppf rfl a5 rfl rfl rfl (fun σ6 a6 b6 c6 => ?_)
  repeat refine Ev_go rfl ?_
  refine Ev_ppf rfl a6 rfl rfl rfl (fun σ7 a7 b7 c7 => ?_)
  iterate 2 refine Ev_go rfl ?_
  have e7 : σ7.2 = σ.2 := by rw [c7, c6, c5, c4, c3, c2, c1]
  refine Ev_nai (n := 8) (z := o + 1) rfl rfl (by decide) (by rw [e7]; exact hz) (fun σ8 a8 b8 c8 d8 => ?_)
  refine Ev_ppf rfl (by rw [b8 _ (by omega)]; exact a7) rfl rfl rfl (fun σ9 a9 b9 c9 => ?_)
  refine Ev_rt rfl ?_
  refine hq σ9 a9 (by rw [b9 _ (by omega)]; exact a8) (fun j hj => by rw [b9 _ (by omega), b8 _ (by omega), b7 _ (by omega), b6 _ (by omega), b5 _ (by omega), b4 _ (by omega), b3 _ (by omega), b2 _ (by omega), b1 _ (by omega)]) ?_ ?_
  · rw [c9]; exact c8
  · rw [c9, d8, e7]
theorem x_i8 {o : Nat} (ho : σ.1 o = kt_ob 8 [.null, .int 0, .int 0, .int 0]) (hz : σ.2.1 = o + 1) (hq : ∀ τ : kt_H, τ.1 o = kt_ob 8 [.ref (o + 1), .int 0, .int 0, .int 0] → τ.1 (o + 1) = kt_ia 60 (fun _ => 0) → (∀ j, j < o → τ.1 j = σ.1 j) → τ.2.1 = o + 2 → τ.2.2 = σ.2.2 + 60 → Q none τ) : Cs nX8_init [.ref o] σ Q := by
  refine Cs_in (k := kX8_init) [some (.ref o)] rfl rfl ?_
  iterate 4 refine Ev_go rfl ?_
  refine Ev_nai (n := 60) rfl rfl (by decide) hz (fun σ1 a1 b1 c1 d1 => ?_)
  refine Ev_ppf rfl (by rw [b1 _ (by omega)]; exact ho) rfl rfl rfl (fun σ2 a2 b2 c2 => ?_)
  repeat refine Ev_go rfl ?_
  refine Ev_ppf rfl a2 rfl rfl rfl (fun σ3 a3 b3 c3 => ?_)
  repeat refine Ev_go rfl ?_
  refine Ev_ppf rfl a3 rfl rfl rfl (fun σ4 a4 b4 c4 => ?_)
  repeat refine Ev_go rfl ?_
  refine Ev_ppf rfl a4 rfl rfl rfl (fun σ5 a5 b5 c5 => ?_)
  refine Ev_rt rfl ?_
  refine hq σ5 a5 (by rw [b5 _ (by omega), b4 _ (by omega), b3 _ (by omega), b2 _ (by omega)]; exact a1) (fun j hj => by rw [b5 _ (by omega), b4 _ (by omega), b3 _ (by omega), b2 _ (by omega), b1 _ (by omega)]) ?_ ?_
  · rw [c5, c4, c3, c2]; exact c1
  · rw [c5, c4, c3, c2, d1]
theorem x_i4 {o : Nat} (ho : σ.1 o = kt_ob 4 [.null, .int 0, .int 0, .int 0, .int 0]) (hq : ∀ τ : kt_H, τ.1 o = kt_ob 4 [.null, .int 0, .int 0, .int 0, .int (-9)] → (∀ j, j ≠ o → τ.1 j = σ.1 j) → τ.2 = σ.2 → Q none τ) : Cs nX4_init [.ref o] σ Q := by
  refine Cs_in (k := kX4_init) [some (.ref o)] rfl rfl ?_
  repeat refine Ev_go rfl ?_
  refine Ev_ppf rfl ho rfl rfl rfl (fun σ1 a1 b1 c1 => ?_)
  repeat refine Ev_go rfl ?_
  refine Ev_ppf rfl a1 rfl rfl rfl (fun σ2 a2 b2 c2 => ?_)
  repeat refine Ev_go rfl ?_
  refine Ev_ppf rfl a2 rfl rfl rfl (fun σ3 a3 b3 c3 => ?_)
  repeat refine Ev_go rfl ?_
  refine Ev_ppf rfl a3 rfl rfl rfl (fun σ4 a4 b4 c4 => ?_)
  repeat refine Ev_go rfl ?_
  refine Ev_ppf rfl a4 rfl rfl rfl (fun σ5 a5 b5 c5 => ?_)
  refine Ev_rt rfl ?_
  exact hq σ5 a5 (fun j hj => by rw [b5 _ hj, b4 _ hj, b3 _ hj, b2 _ hj, b1 _ hj]) (by rw [c5, c4, c3, c2, c1])
theorem x_i9 {o : Nat} (ho : σ.1 o = kt_ob 9 [.int 0]) (hq : ∀ τ : kt_H, τ.1 o = kt_ob 9 [.int 0] → (∀ j, j ≠ o → τ.1 j = σ.1 j) → τ.2 = σ.2 → Q none τ) : Cs nX9_init [.ref o] σ Q := by
  refine Cs_in (k := kX9_init) [some (.ref o)] rfl rfl ?_
  repeat refine Ev_go rfl ?_
  refine Ev_ppf rfl ho rfl rfl rfl (fun σ1 a1 b1 c1 => ?_)
  refine Ev_rt rfl ?_
  exact hq σ1 a1 b1 c1
theorem x_i5 {o : Nat} (ho : σ.1 o = kt_ob 5 [.null]) (hz : σ.2.1 = o + 1) (hq : ∀ τ : kt_H, τ.1 o = kt_ob 5 [.ref (o + 1)] → τ.1 (o + 1) = kt_ia 6 (upd (upd (upd (upd (upd (upd (fun _ => 0) 0 8) 1 8) 2 9) 3 0) 4 1) 5 10) → (∀ j, j < o → τ.1 j = σ.1 j) → τ.2.1 = o + 2 → τ.2.2 = σ.2.2 + 6 → Q none τ) : Cs nX5_init [.ref o] σ Q := by
  refine Cs_in (k := kX5_init) [some (.ref o)] rfl rfl ?_
  iterate 4 refine Ev_go rfl ?_
  refine Ev_nai (n := 6) rfl rfl (by decide) hz (fun σ1 a1 b1 c1 d1 => ?_)
  repeat refine Ev_go rfl ?_
  refine Ev_ias 0 rfl a1 rfl (by decide) (by decide) ?_
  repeat refine Ev_go rfl ?_
  refine Ev_iap 1 rfl rfl (by decide) (by decide) ?_
  repeat refine Ev_go rfl ?_
  refine Ev_iap 2 rfl rfl (by decide) (by decide) ?_
  repeat refine Ev_go rfl ?_
  refine Ev_iap 3 rfl rfl (by decide) (by decide) ?_
  repeat refine Ev_go rfl ?_
  refine Ev_iap 4 rfl rfl (by decide) (by decide) ?_
  repeat refine Ev_go rfl ?_
  refine Ev_iap 5 rfl rfl (by decide) (by decide) ?_
  refine Ev_ppf rfl (by rw [kt_put_n _ _ (by omega), b1 _ (by omega)]; exact ho) rfl rfl rfl (fun σ2 a2 b2 c2 => ?_)
  refine Ev_rt rfl ?_
  refine hq σ2 a2 (by rw [b2 _ (by omega), kt_put_s]) (fun j hj => by rw [b2 _ (by omega), kt_put_n _ _ (by omega), b1 _ (by omega)]) ?_ ?_
  · rw [c2]; exact c1
  · rw [c2]; exact d1
/-- a law's cells -/
theorem x_i3 {l : Nat} (ho : σ.1 (38 + 10 * l) = kt_ob 3 [.null, .int 0]) (hz : σ.2.1 = 39 + 10 * l) (hq : ∀ τ : kt_H, Lf τ l → (∀ j, j < 38 + 10 * l → τ.1 j = σ.1 j) → τ.2.1 = 48 + 10 * l → τ.2.2 = σ.2.2 + 36 → Q none τ) : Cs nX3_init [.ref (38 + 10 * l)] σ Q := by
  refine Cs_in (k := kX3_init) [some (.ref (38 + 10 * l))] rfl rfl ?_
  iterate 4 refine Ev_go rfl ?_
  refine Ev_naq (n := 4) rfl rfl (by decide) hz (fun s0 a0 b0 c0 d0 => ?_)
  iterate 2 refine Ev_go rfl ?_
  refine Ev_new (z := 40 + 10 * l + 2 * 0) rfl (by omega) (fun n0 e0 f0 g0 h0 => ?_)
  iterate 1 refine Ev_go rfl ?_
  refine Ev_ca rfl ?_
  refine x_i10 e0 g0 (fun i0 j0 k0 l0 m0 o0 => ?_)
  refine Ev_aag 0 rfl (by rw [l0 _ (by omega), f0 _ (by omega)]; exact a0) j0 rfl rfl (by decide) (by decide) (fun s1 a1 b1 c1 => ?_)
  have z1 : s1.2.1 = 40 + 10 * l + 2 * 1 := by rw [c1]; omega
  have y1 : s1.2.2 = σ.2.2 + 4 + 8 * 1 := by
    rw [c1, o0, h0, d0]
    rfl
  iterate 2 refine Ev_go rfl ?_
  refine Ev_new (z := 40 + 10 * l + 2 * 1) rfl (by omega) (fun n1 e1 f1 g1 h1 => ?_)
  iterate 1 refine Ev_go rfl ?_
  refine Ev_ca rfl ?_
  refine x_i10 e1 g1 (fun i1 j1 k1 l1 m1 o1 => ?_)
  refine Ev_aag 1 rfl (by rw [l1 _ (by omega), f1 _ (by omega)]; exact a1) j1 rfl rfl (by decide) (by decide) (fun s2 a2 b2 c2 => ?_)
  have z2 : s2.2.1 = 40 + 10 * l + 2 * 2 := by rw [c2]; omega
  have y2 : s2.2.2 = σ.2.2 + 4 + 8 * 2 := by
    rw [c2, o1, h1, y1]
    rfl
  iterate 2 refine Ev_go rfl ?_
  refine Ev_new (z := 40 + 10 * l + 2 * 2) rfl (by omega) (fun n2 e2 f2 g2 h2 => ?_)
  iterate 1 refine Ev_go rfl ?_
  refine Ev_ca rfl ?_
  refine x_i10 e2 g2 (fun i2 j2 k2 l2 m2 o2 => ?_)
  refine Ev_aag 2 rfl (by rw [l2 _ (by omega), f2 _ (by omega)]; exact a2) j2 rfl rfl (by decide) (by decide) (fun s3 a3 b3 c3 => ?_)
  have z3 : s3.2.1 = 40 + 10 * l + 2 * 3 := by rw [c3]; omega
  have y3 : s3.2.2 = σ.2.2 + 4 + 8 * 3 := by
    rw [c3, o2, h2, y2]
    rfl
  iterate 2 refine Ev_go rfl ?_
  refine Ev_new (z := 40 + 10 * l + 2 * 3) rfl (by omega) (fun n3 e3 f3 g3 h3 => ?_)
  iterate 1 refine Ev_go rfl ?_
  refine Ev_ca rfl ?_
  refine x_i10 e3 g3 (fun i3 j3 k3 l3 m3 o3 => ?_)
  refine Ev_aag 3 rfl (by rw [l3 _ (by omega), f3 _ (by omega)]; exact a3) j3 rfl rfl (by decide) (by decide) (fun s4 a4 b4 c4 => ?_)
  have z4 : s4.2.1 = 40 + 10 * l + 2 * 4 := by rw [c4]; omega
  have y4 : s4.2.2 = σ.2.2 + 4 + 8 * 4 := by
    rw [c4, o3, h3, y3]
    rfl
  have fr : ∀ j, j < 39 + 10 * l → s4.1 j = σ.1 j := fun j hj => by rw [b4 _ (by omega), l3 _ (by omega), f3 _ (by omega), b3 _ (by omega), l2 _ (by omega), f2 _ (by omega), b2 _ (by omega), l1 _ (by omega), f1 _ (by omega), b1 _ (by omega), l0 _ (by omega), f0 _ (by omega), b0 _ (by omega)]
  have w0 : s4.1 (40 + 10 * l + 2 * 0) = kt_ob 10 [.int 1, .ref (40 + 10 * l + 2 * 0 + 1), .int 0, .int 1, .int 970299] ∧ s4.1 (40 + 10 * l + 2 * 0 + 1) = kt_ia 3 (fun _ => 0) := by
    rw [b4 _ (by omega), l3 _ (by omega), f3 _ (by omega), b3 _ (by omega), l2 _ (by omega), f2 _ (by omega), b2 _ (by omega), l1 _ (by omega), f1 _ (by omega), b1 _ (by omega), b4 _ (by omega), l3 _ (by omega), f3 _ (by omega), b3 _ (by omega), l2 _ (by omega), f2 _ (by omega), b2 _ (by omega), l1 _ (by omega), f1 _ (by omega), b1 _ (by omega)]
    exact ⟨j0, k0⟩
  have w1 : s4.1 (40 + 10 * l + 2 * 1) = kt_ob 10 [.int 1, .ref (40 + 10 * l + 2 * 1 + 1), .int 0, .int 1, .int 970299] ∧ s4.1 (40 + 10 * l + 2 * 1 + 1) = kt_ia 3 (fun _ => 0) := by
    rw [b4 _ (by omega), l3 _ (by omega), f3 _ (by omega), b3 _ (by omega), l2 _ (by omega), f2 _ (by omega), b2 _ (by omega), b4 _ (by omega), l3 _ (by omega), f3 _ (by omega), b3 _ (by omega), l2 _ (by omega), f2 _ (by omega), b2 _ (by omega)]
    exact ⟨j1, k1⟩
  have w2 : s4.1 (40 + 10 * l + 2 * 2) = kt_ob 10 [.int 1, .ref (40 + 10 * l + 2 * 2 + 1), .int 0, .int 1, .int 970299] ∧ s4.1 (40 + 10 * l + 2 * 2 + 1) = kt_ia 3 (fun _ => 0) := by
    rw [b4 _ (by omega), l3 _ (by omega), f3 _ (by omega), b3 _ (by omega), b4 _ (by omega), l3 _ (by omega), f3 _ (by omega), b3 _ (by omega)]
    exact ⟨j2, k2⟩
  have w3 : s4.1 (40 + 10 * l + 2 * 3) = kt_ob 10 [.int 1, .ref (40 + 10 * l + 2 * 3 + 1), .int 0, .int 1, .int 970299] ∧ s4.1 (40 + 10 * l + 2 * 3 + 1) = kt_ia 3 (fun _ => 0) := by
    rw [b4 _ (by omega), b4 _ (by omega)]
    exact ⟨j3, k3⟩
  refine Ev_ppf rfl (by rw [fr _ (by omega)]; exact ho) rfl rfl rfl (fun s5 a5 b5 c5 => ?_)
  repeat refine Ev_go rfl ?_
  refine Ev_ppf rfl a5 rfl rfl rfl (fun s6 a6 b6 c6 => ?_)
  refine Ev_rt rfl ?_
  have hh : ∀ j, j ≠ 38 + 10 * l → s6.1 j = s4.1 j := fun j hj => by rw [b6 _ hj, b5 _ hj]
  refine hq s6 ⟨⟨0, a6⟩, ⟨_, by rw [hh _ (by omega)]; exact a4, fun w hw => ?_⟩, fun w hw => ?_⟩ (fun j hj => by rw [hh _ (by omega), fr _ (by omega)]) (by rw [c6, c5, z4]; omega) (by rw [c6, c5, y4])
  · have : w = 0 ∨ w = 1 ∨ w = 2 ∨ w = 3 := by omega
    rcases this with rfl | rfl | rfl | rfl <;> rfl
  · have : w = 0 ∨ w = 1 ∨ w = 2 ∨ w = 3 := by omega
    rcases this with rfl | rfl | rfl | rfl
    · exact ⟨_, _, _, _, _, by rw [hh _ (by omega)]; exact w0.1, by rw [hh _ (by omega)]; exact w0.2⟩
    · exact ⟨_, _, _, _, _, by rw [hh _ (by omega)]; exact w1.1, by rw [hh _ (by omega)]; exact w1.2⟩
    · exact ⟨_, _, _, _, _, by rw [hh _ (by omega)]; exact w2.1, by rw [hh _ (by omega)]; exact w2.2⟩
    · exact ⟨_, _, _, _, _, by rw [hh _ (by omega)]; exact w3.1, by rw [hh _ (by omega)]; exact w3.2⟩
/-- the search's cells -/
theorem x_i7 (ho : σ.1 16 = kt_ob 7 [.null, .null, .int 0]) (hz : σ.2.1 = 17) (hq : ∀ τ : kt_H, (∀ j, 16 ≤ j → j < 36 → Ck j (τ.1 j)) → (∀ j, j < 16 → τ.1 j = σ.1 j) → τ.2.1 = 36 → τ.2.2 = σ.2.2 + 152 → Q none τ) : Cs nX7_init [.ref 16] σ Q := by
  refine Cs_in (k := kX7_init) [some (.ref 16), none] rfl rfl ?_
  iterate 3 refine Ev_go rfl ?_
  refine Ev_new (z := 17) rfl hz (fun s1 a1 b1 c1 d1 => ?_)
  iterate 1 refine Ev_go rfl ?_
  refine Ev_ca rfl ?_
  refine x_i0 a1 c1 (fun s2 a2 e2 b2 c2 d2 => ?_)
  refine Ev_ppf rfl (by rw [b2 _ (by decide), b1 _ (by decide)]; exact ho) rfl rfl rfl (fun s3 a3 b3 c3 => ?_)
  iterate 2 refine Ev_go rfl ?_
  refine Ev_naq (n := 8) (z := 19) rfl rfl (by decide) (by rw [c3]; exact c2) (fun s4 a4 b4 c4 d4 => ?_)
  refine Ev_ppf rfl (by rw [b4 _ (by decide)]; exact a3) rfl rfl rfl (fun s5 a5 b5 c5 => ?_)
  repeat refine Ev_go rfl ?_
  refine Ev_ppf rfl a5 rfl rfl rfl (fun s6 a6 b6 c6 => ?_)
  iterate 2 refine Ev_go rfl ?_
  have lp : ∀ (e b : Nat) (τ : kt_H) (g : Nat → Option Nat), b + e = 8 → τ.1 16 = kt_ob 7 [.ref 17, .ref 19, .int 0] → τ.1 19 = kt_ra 4 8 g → (∀ b', b' < b → g b' = some (20 + 2 * b')) → τ.1 17 = kt_ob 0 [.null, .int (-1), .int 0, .int 0, .int 0, .int 0, .int 0, .ref 18] → τ.1 18 = kt_ia 8 (fun _ => 0) → (∀ b', b' < b → Ck (20 + 2 * b') (τ.1 (20 + 2 * b')) ∧ Ck (20 + 2 * b' + 1) (τ.1 (20 + 2 * b' + 1))) → (∀ j, j < 16 → τ.1 j = σ.1 j) → τ.2.1 = 20 + 2 * b → τ.2.2 = σ.2.2 + 24 + 16 * b → Ev kX7_init (31, [some (.ref 16), some (.int (nI b))], [], τ) Q := by
    intro e
    induction e with
    | zero =>
      intro b τ g hb h16 h19 hg h17 h18 hB hlo hnx hct
      have e : b = 8 := by omega
      subst e
      (repeat first | refine Ev_go rfl ?_ | refine Ev_gf rfl (h16) rfl rfl ?_ )
      refine Ev_lenr rfl h19 rfl ?_
      repeat refine Ev_go rfl ?_
      refine Ev_rt rfl ?_
      refine hq τ (fun j j1 j2 => ?_) hlo hnx hct
      by_cases e16 : j = 16
      · subst e16; rw [h16]; exact Ck_16 0
      by_cases e17 : j = 17
      · subst e17; rw [h17]; exact Ck_17 ⟨_, _, _, _, _, _, _, rfl⟩
      by_cases e18 : j = 18
      · subst e18; rw [h18]; exact Ck_18 _
      by_cases e19 : j = 19
      · subst e19
        rw [h19]
        exact ⟨by omega, by omega, by omega, by omega, fun k' hk' => ⟨by omega, by omega, by omega⟩, by omega, by omega, by omega, fun _ => ⟨g, rfl, fun b hb => hg b hb⟩, fun b hb => ⟨by omega, by omega⟩, by omega⟩
      have hb := hB ((j - 20) / 2) (by omega)
      rcases Nat.mod_two_eq_zero_or_one j with z | z
      · have ej : 20 + 2 * ((j - 20) / 2) = j := by omega
        rw [ej] at hb
        exact hb.1
      · have ej : 20 + 2 * ((j - 20) / 2) + 1 = j := by omega
        have := hb.2
        rw [ej] at this
        exact this
    | succ e ih =>
      intro b τ g hb h16 h19 hg h17 h18 hB hlo hnx hct
      (repeat first | refine Ev_go rfl ?_ | refine Ev_gf rfl (h16) rfl rfl ?_ )
      refine Ev_lenr rfl h19 rfl ?_
      repeat refine Ev_go rfl ?_
      refine Ev_if (fun g1 => absurd g1 (nI_ge (b := 8) (by omega) (by decide))) (fun _ => ?_)
      iterate 1 refine Ev_go rfl ?_
      refine Ev_gf rfl h16 rfl rfl ?_
      iterate 1 refine Ev_go rfl ?_
      refine Ev_new (z := 20 + 2 * b) rfl hnx (fun t1 a1 b1 c1 d1 => ?_)
      iterate 1 refine Ev_go rfl ?_
      refine Ev_ca rfl ?_
      refine x_i0 a1 c1 (fun t2 a2 e2 b2 c2 d2 => ?_)
      refine Ev_aag b rfl (by rw [b2 _ (by omega), b1 _ (by omega)]; exact h19) a2 rfl rfl (by omega) (by decide) (fun t3 a3 b3 c3 => ?_)
      have fr : ∀ j, j < 20 + 2 * b → j ≠ 19 → t3.1 j = τ.1 j := fun j hj hn => by rw [b3 _ hn, b2 _ hj, b1 _ (by omega)]
      iterate 2 refine Ev_go rfl ?_
      rw [nI_1]
      refine ih (b + 1) t3 _ (by omega) (by rw [fr _ (by omega) (by omega)]; exact h16) a3 (fun b' hb' => ?_) (by rw [fr _ (by omega) (by omega)]; exact h17) (by rw [fr _ (by omega) (by omega)]; exact h18) (fun b' hb' => ?_) (fun j hj => by rw [fr _ (by omega) (by omega)]; exact hlo j hj) (by rw [c3]; omega) ?_
      · by_cases e : b' = b
        · subst e; rw [va_up_s]
        · rw [va_up_n _ _ e]; exact hg b' (by omega)
      · by_cases e : b' = b
        · subst e
          rw [b3 _ (by omega), b3 _ (by omega), a2, e2]
          exact ⟨Ck_20 (by omega) ⟨_, _, _, _, _, _, _, rfl⟩, Ck_21 (by omega) _⟩
        · rw [fr _ (by omega) (by omega), fr _ (by omega) (by omega)]; exact hB b' (by omega)
      · rw [c3, d2, d1, hct]
        show σ.2.2 + 24 + 16 * b + 8 + 8 = σ.2.2 + 24 + 16 * (b + 1)
        omega
  have fr : ∀ j, j ≠ 16 → j ≠ 19 → s6.1 j = s2.1 j := fun j h1 h2 => by rw [b6 _ h1, b5 _ h1, b4 _ h2, b3 _ h1]
  refine lp 8 0 s6 _ rfl a6 (by rw [b6 _ (by decide), b5 _ (by decide)]; exact a4) (fun b' hb' => absurd hb' (Nat.not_lt_zero b')) (by rw [fr _ (by decide) (by decide)]; exact a2) (by rw [fr _ (by decide) (by decide)]; exact e2) (fun b' hb' => absurd hb' (Nat.not_lt_zero b')) (fun j hj => by rw [fr _ (by omega) (by omega), b2 _ (by omega), b1 _ (by omega)]) (by rw [c6, c5]; exact c4) ?_
  rw [c6, c5, d4, c3, d2, d1]
  rfl
end IM
