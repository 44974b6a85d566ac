/-! the component is made -/
abbrev ndF : Nat → Int32 := upd (upd (upd (upd (upd (upd (fun _ => 0) 0 8) 1 8) 2 9) 3 0) 4 1) 5 10
/-- phase one: all but laws and sheets -/
def Z1 (τ : kt_H) : Prop := τ.1 1 = kt_ra 1 16 (fun _ => none) ∧ τ.1 4 = kt_ob 5 [.ref 5] ∧ τ.1 5 = kt_ia 6 ndF ∧ (∀ j, 6 ≤ j → j < 37 → Ck j (τ.1 j)) ∧ τ.1 37 = kt_ob 9 [.int 0]
theorem Z1.c {σ τ : kt_H} (h : Z1 σ) (hc : ∀ j, j = 1 ∨ (4 ≤ j ∧ j < 38) → τ.1 j = σ.1 j) : Z1 τ := by
  obtain ⟨h1, h4, h5, h6, h7⟩ := h
  exact ⟨by rw [hc _ (by omega)]; exact h1, by rw [hc _ (by omega)]; exact h4, by rw [hc _ (by omega)]; exact h5, fun j a b => by rw [hc _ (by omega)]; exact h6 j a b, by rw [hc _ (by omega)]; exact h7⟩
section IO
variable {σ : kt_H} {Q : Option Value → kt_H → Prop}
abbrev k00 : kt_C := kt_ob 11 [.ref 1, .int 0, .ref 2, .int 0, .ref 3, .ref 4, .ref 6, .ref 16, .ref 36, .ref 37, .int 0]
theorem x_i11a (ho : σ.1 0 = kt_ob 11 [.null, .int 0, .null, .int 0, .null, .null, .null, .null, .null, .null, .int 0]) (hz : σ.2.1 = 1) (hq : ∀ τ : kt_H, Z1 τ → τ.1 0 = k00 → τ.1 2 = kt_ra 2 9 (fun _ => none) → τ.1 3 = kt_ra 3 4 (fun _ => none) → τ.2.1 = 38 → τ.2.2 = σ.2.2 + 287 → Ev kX11_init (135, [some (.ref 0), some (.int 0)], [], τ) Q) : Cs nX11_init [.ref 0] σ Q := by
  refine Cs_in (k := kX11_init) [some (.ref 0), none] rfl rfl ?_
  iterate 4 refine Ev_go rfl ?_
  refine Ev_naq (n := 16) (z := 1) rfl rfl (by decide) hz (fun s1 a1 b1 c1 d1 => ?_)
  have y1 : s1.2.2 = σ.2.2 + 16 := by
    rw [d1]
  refine Ev_ppf rfl (by rw [b1 _ (by omega)]; exact ho) rfl rfl rfl (fun s2 a2 b2 c2 => ?_)
  have x2 : s2.2.1 = 2 := by rw [c2]; exact c1
  have y2 : s2.2.2 = σ.2.2 + 16 := by rw [c2, y1]
  repeat refine Ev_go rfl ?_
  refine Ev_ppf rfl a2 rfl rfl rfl (fun s3 a3 b3 c3 => ?_)
  have x3 : s3.2.1 = 2 := by rw [c3]; exact x2
  have y3 : s3.2.2 = σ.2.2 + 16 := by rw [c3, y2]
  iterate 2 refine Ev_go rfl ?_
  refine Ev_naq (n := 9) (z := 2) rfl rfl (by decide) x3 (fun s4 a4 b4 c4 d4 => ?_)
  have y4 : s4.2.2 = σ.2.2 + 25 := by
    rw [d4, y3]
  refine Ev_ppf rfl (by rw [b4 _ (by omega)]; exact a3) rfl rfl rfl (fun s5 a5 b5 c5 => ?_)
  have x5 : s5.2.1 = 3 := by rw [c5]; exact c4
  have y5 : s5.2.2 = σ.2.2 + 25 := by rw [c5, y4]
  repeat refine Ev_go rfl ?_
  refine Ev_ppf rfl a5 rfl rfl rfl (fun s6 a6 b6 c6 => ?_)
  have x6 : s6.2.1 = 3 := by rw [c6]; exact x5
  have y6 : s6.2.2 = σ.2.2 + 25 := by rw [c6, y5]
  iterate 2 refine Ev_go rfl ?_
  refine Ev_naq (n := 4) (z := 3) rfl rfl (by decide) x6 (fun s7 a7 b7 c7 d7 => ?_)
  have y7 : s7.2.2 = σ.2.2 + 29 := by
    rw [d7, y6]
  refine Ev_ppf rfl (by rw [b7 _ (by omega)]; exact a6) rfl rfl rfl (fun s8 a8 b8 c8 => ?_)
  have x8 : s8.2.1 = 4 := by rw [c8]; exact c7
  have y8 : s8.2.2 = σ.2.2 + 29 := by rw [c8, y7]
  iterate 1 refine Ev_go rfl ?_
  refine Ev_new (z := 4) rfl x8 (fun s9 a9 b9 c9 d9 => ?_)
  have y9 : s9.2.2 = σ.2.2 + 30 := by
    rw [d9, y8]
    rfl
  iterate 1 refine Ev_go rfl ?_
  refine Ev_ca rfl ?_
  refine x_i5 a9 c9 (fun s10 a10 e10 b10 c10 d10 => ?_)
  have y10 : s10.2.2 = σ.2.2 + 36 := by rw [d10, y9]
  refine Ev_ppf rfl (by rw [b10 _ (by omega), b9 _ (by omega)]; exact a8) rfl rfl rfl (fun s11 a11 b11 c11 => ?_)
  have x11 : s11.2.1 = 6 := by rw [c11]; exact c10
  have y11 : s11.2.2 = σ.2.2 + 36 := by rw [c11, y10]
  iterate 2 refine Ev_go rfl ?_
  refine Ev_naq (n := 3) (z := 6) rfl rfl (by decide) x11 (fun s12 a12 b12 c12 d12 => ?_)
  have y12 : s12.2.2 = σ.2.2 + 39 := by
    rw [d12, y11]
  iterate 2 refine Ev_go rfl ?_
  refine Ev_new (z := 7) rfl c12 (fun s13 a13 b13 c13 d13 => ?_)
  have y13 : s13.2.2 = σ.2.2 + 43 := by
    rw [d13, y12]
    rfl
  iterate 2 refine Ev_go rfl ?_
  refine Ev_ca rfl ?_
  refine x_init2 (ci := 2) rfl a13 c13 (-9) (fun s14 N14 => ?_)
  obtain ⟨a14, e14, f14, b14, c14, d14⟩ := N14
  have y14 : s14.2.2 = σ.2.2 + 68 := by rw [d14, y13]
  refine Ev_aag 0 rfl (by rw [b14 _ (by omega), b13 _ (by omega)]; exact a12) a14 rfl rfl (by decide) (by decide) (fun s15 a15 b15 c15 => ?_)
  have x15 : s15.2.1 = 10 := by rw [c15]; exact c14
  have y15 : s15.2.2 = σ.2.2 + 68 := by rw [c15, y14]
  iterate 2 refine Ev_go rfl ?_
  refine Ev_new (z := 10) rfl x15 (fun s16 a16 b16 c16 d16 => ?_)
  have y16 : s16.2.2 = σ.2.2 + 72 := by
    rw [d16, y15]
    rfl
  iterate 2 refine Ev_go rfl ?_
  refine Ev_ca rfl ?_
  refine Cs_in (k := kX1_init) [some (.ref 10), some (.int (-9))] rfl rfl ?_
  repeat refine Ev_go rfl ?_
  refine Ev_ca rfl ?_
  refine x_init2 (ci := 1) rfl a16 c16 (-9) (fun s17 N17 => ?_)
  obtain ⟨a17, e17, f17, b17, c17, d17⟩ := N17
  refine Ev_rt rfl ?_
  have y17 : s17.2.2 = σ.2.2 + 97 := by rw [d17, y16]
  refine Ev_aag 1 rfl (by rw [b17 _ (by omega), b16 _ (by omega)]; exact a15) a17 rfl rfl (by decide) (by decide) (fun s18 a18 b18 c18 => ?_)
  have x18 : s18.2.1 = 13 := by rw [c18]; exact c17
  have y18 : s18.2.2 = σ.2.2 + 97 := by rw [c18, y17]
  iterate 2 refine Ev_go rfl ?_
  refine Ev_new (z := 13) rfl x18 (fun s19 a19 b19 c19 d19 => ?_)
  have y19 : s19.2.2 = σ.2.2 + 101 := by
    rw [d19, y18]
    rfl
  iterate 2 refine Ev_go rfl ?_
  refine Ev_ca rfl ?_
  refine Cs_in (k := kX6_init) [some (.ref 13), some (.int (-9))] rfl rfl ?_
  repeat refine Ev_go rfl ?_
  refine Ev_ca rfl ?_
  refine Cs_in (k := kX1_init) [some (.ref 13), some (.int (-9))] rfl rfl ?_
  repeat refine Ev_go rfl ?_
  refine Ev_ca rfl ?_
  refine x_init2 (ci := 6) rfl a19 c19 (-9) (fun s20 N20 => ?_)
  obtain ⟨a20, e20, f20, b20, c20, d20⟩ := N20
  refine Ev_rt rfl ?_
  refine Ev_rt rfl ?_
  have y20 : s20.2.2 = σ.2.2 + 126 := by rw [d20, y19]
  refine Ev_aag 2 rfl (by rw [b20 _ (by omega), b19 _ (by omega)]; exact a18) a20 rfl rfl (by decide) (by decide) (fun s21 a21 b21 c21 => ?_)
  have x21 : s21.2.1 = 16 := by rw [c21]; exact c20
  have y21 : s21.2.2 = σ.2.2 + 126 := by rw [c21, y20]
  refine Ev_ppf rfl (by rw [b21 _ (by omega), b20 _ (by omega), b19 _ (by omega), b18 _ (by omega), b17 _ (by omega), b16 _ (by omega), b15 _ (by omega), b14 _ (by omega), b13 _ (by omega), b12 _ (by omega)]; exact a11) rfl rfl rfl (fun s22 a22 b22 c22 => ?_)
  have x22 : s22.2.1 = 16 := by rw [c22]; exact x21
  have y22 : s22.2.2 = σ.2.2 + 126 := by rw [c22, y21]
  iterate 1 refine Ev_go rfl ?_
  refine Ev_new (z := 16) rfl x22 (fun s23 a23 b23 c23 d23 => ?_)
  have y23 : s23.2.2 = σ.2.2 + 129 := by
    rw [d23, y22]
    rfl
  iterate 1 refine Ev_go rfl ?_
  refine Ev_ca rfl ?_
  refine x_i7 a23 c23 (fun s24 a24 b24 c24 d24 => ?_)
  have y24 : s24.2.2 = σ.2.2 + 281 := by rw [d24, y23]
  refine Ev_ppf rfl (by rw [b24 _ (by omega), b23 _ (by omega)]; exact a22) rfl rfl rfl (fun s25 a25 b25 c25 => ?_)
  have x25 : s25.2.1 = 36 := by rw [c25]; exact c24
  have y25 : s25.2.2 = σ.2.2 + 281 := by rw [c25, y24]
  iterate 1 refine Ev_go rfl ?_
  refine Ev_new (z := 36) rfl x25 (fun s26 a26 b26 c26 d26 => ?_)
  have y26 : s26.2.2 = σ.2.2 + 286 := by
    rw [d26, y25]
    rfl
  iterate 1 refine Ev_go rfl ?_
  refine Ev_ca rfl ?_
  refine x_i4 a26 (fun s27 a27 b27 c27 => ?_)
  have x27 : s27.2.1 = 37 := by rw [c27]; exact c26
  have y27 : s27.2.2 = σ.2.2 + 286 := by rw [c27, y26]
  refine Ev_ppf rfl (by rw [b27 _ (by omega), b26 _ (by omega)]; exact a25) rfl rfl rfl (fun s28 a28 b28 c28 => ?_)
  have x28 : s28.2.1 = 37 := by rw [c28]; exact x27
  have y28 : s28.2.2 = σ.2.2 + 286 := by rw [c28, y27]
  iterate 1 refine Ev_go rfl ?_
  refine Ev_new (z := 37) rfl x28 (fun s29 a29 b29 c29 d29 => ?_)
  have y29 : s29.2.2 = σ.2.2 + 287 := by
    rw [d29, y28]
    rfl
  iterate 1 refine Ev_go rfl ?_
  refine Ev_ca rfl ?_
  refine x_i9 a29 (fun s30 a30 b30 c30 => ?_)
  have x30 : s30.2.1 = 38 := by rw [c30]; exact c29
  have y30 : s30.2.2 = σ.2.2 + 287 := by rw [c30, y29]
  refine Ev_ppf rfl (by rw [b30 _ (by omega), b29 _ (by omega)]; exact a28) rfl rfl rfl (fun s31 a31 b31 c31 => ?_)
  have x31 : s31.2.1 = 38 := by rw [c31]; exact x30
  have y31 : s31.2.2 = σ.2.2 + 287 := by rw [c31, y30]
  repeat refine Ev_go rfl ?_
  refine Ev_ppf rfl a31 rfl rfl rfl (fun s32 a32 b32 c32 => ?_)
  have x32 : s32.2.1 = 38 := by rw [c32]; exact x31
  have y32 : s32.2.2 = σ.2.2 + 287 := by rw [c32, y31]
  iterate 2 refine Ev_go rfl ?_
  refine hq s32 ⟨(by rw [b32 _ (by omega), b31 _ (by omega), b30 _ (by omega), b29 _ (by omega), b28 _ (by omega), b27 _ (by omega), b26 _ (by omega), b25 _ (by omega), b24 _ (by omega), b23 _ (by omega), b22 _ (by omega), b21 _ (by omega), b20 _ (by omega), b19 _ (by omega), b18 _ (by omega), b17 _ (by omega), b16 _ (by omega), b15 _ (by omega), b14 _ (by omega), b13 _ (by omega), b12 _ (by omega), b11 _ (by omega), b10 _ (by omega), b9 _ (by omega), b8 _ (by omega), b7 _ (by omega), b6 _ (by omega), b5 _ (by omega), b4 _ (by omega), b3 _ (by omega), b2 _ (by omega)]; exact a1), (by rw [b32 _ (by omega), b31 _ (by omega), b30 _ (by omega), b29 _ (by omega), b28 _ (by omega), b27 _ (by omega), b26 _ (by omega), b25 _ (by omega), b24 _ (by omega), b23 _ (by omega), b22 _ (by omega), b21 _ (by omega), b20 _ (by omega), b19 _ (by omega), b18 _ (by omega), b17 _ (by omega), b16 _ (by omega), b15 _ (by omega), b14 _ (by omega), b13 _ (by omega), b12 _ (by omega), b11 _ (by omega)]; exact a10), (by rw [b32 _ (by omega), b31 _ (by omega), b30 _ (by omega), b29 _ (by omega), b28 _ (by omega), b27 _ (by omega), b26 _ (by omega), b25 _ (by omega), b24 _ (by omega), b23 _ (by omega), b22 _ (by omega), b21 _ (by omega), b20 _ (by omega), b19 _ (by omega), b18 _ (by omega), b17 _ (by omega), b16 _ (by omega), b15 _ (by omega), b14 _ (by omega), b13 _ (by omega), b12 _ (by omega), b11 _ (by omega)]; exact e10), fun j j1 j2 => ?_, (by rw [b32 _ (by omega), b31 _ (by omega)]; exact a30)⟩ a32 (by rw [b32 _ (by omega), b31 _ (by omega), b30 _ (by omega), b29 _ (by omega), b28 _ (by omega), b27 _ (by omega), b26 _ (by omega), b25 _ (by omega), b24 _ (by omega), b23 _ (by omega), b22 _ (by omega), b21 _ (by omega), b20 _ (by omega), b19 _ (by omega), b18 _ (by omega), b17 _ (by omega), b16 _ (by omega), b15 _ (by omega), b14 _ (by omega), b13 _ (by omega), b12 _ (by omega), b11 _ (by omega), b10 _ (by omega), b9 _ (by omega), b8 _ (by omega), b7 _ (by omega), b6 _ (by omega), b5 _ (by omega)]; exact a4) (by rw [b32 _ (by omega), b31 _ (by omega), b30 _ (by omega), b29 _ (by omega), b28 _ (by omega), b27 _ (by omega), b26 _ (by omega), b25 _ (by omega), b24 _ (by omega), b23 _ (by omega), b22 _ (by omega), b21 _ (by omega), b20 _ (by omega), b19 _ (by omega), b18 _ (by omega), b17 _ (by omega), b16 _ (by omega), b15 _ (by omega), b14 _ (by omega), b13 _ (by omega), b12 _ (by omega), b11 _ (by omega), b10 _ (by omega), b9 _ (by omega), b8 _ (by omega)]; exact a7) x32 y32
  by_cases e6 : j = 6
  · subst e6
    rw [b32 _ (by omega), b31 _ (by omega), b30 _ (by omega), b29 _ (by omega), b28 _ (by omega), b27 _ (by omega), b26 _ (by omega), b25 _ (by omega), b24 _ (by omega), b23 _ (by omega), b22 _ (by omega), a21]
    refine ⟨by omega, by omega, by omega, fun _ => ⟨_, rfl, fun k hk => ?_⟩, fun k' hk' => ⟨by omega, by omega, by omega⟩, by omega, by omega, by omega, by omega, fun b hb => ⟨by omega, by omega⟩, by omega⟩
    have : k = 0 ∨ k = 1 ∨ k = 2 := by omega
    rcases this with rfl | rfl | rfl <;> rfl
  by_cases e7 : j = 7
  · subst e7
    rw [b32 _ (by omega), b31 _ (by omega), b30 _ (by omega), b29 _ (by omega), b28 _ (by omega), b27 _ (by omega), b26 _ (by omega), b25 _ (by omega), b24 _ (by omega), b23 _ (by omega), b22 _ (by omega), b21 _ (by omega), b20 _ (by omega), b19 _ (by omega), b18 _ (by omega), b17 _ (by omega), b16 _ (by omega), b15 _ (by omega), a14]
    exact Ck_7 (k := 0) (by decide) 0
  by_cases e8 : j = 8
  · subst e8
    rw [b32 _ (by omega), b31 _ (by omega), b30 _ (by omega), b29 _ (by omega), b28 _ (by omega), b27 _ (by omega), b26 _ (by omega), b25 _ (by omega), b24 _ (by omega), b23 _ (by omega), b22 _ (by omega), b21 _ (by omega), b20 _ (by omega), b19 _ (by omega), b18 _ (by omega), b17 _ (by omega), b16 _ (by omega), b15 _ (by omega), e14]
    exact Ck_8 (k := 0) (by decide) _
  by_cases e9 : j = 9
  · subst e9
    rw [b32 _ (by omega), b31 _ (by omega), b30 _ (by omega), b29 _ (by omega), b28 _ (by omega), b27 _ (by omega), b26 _ (by omega), b25 _ (by omega), b24 _ (by omega), b23 _ (by omega), b22 _ (by omega), b21 _ (by omega), b20 _ (by omega), b19 _ (by omega), b18 _ (by omega), b17 _ (by omega), b16 _ (by omega), b15 _ (by omega), f14]
    exact Ck_9 (k := 0) (by decide) _
  by_cases e10 : j = 10
  · subst e10
    rw [b32 _ (by omega), b31 _ (by omega), b30 _ (by omega), b29 _ (by omega), b28 _ (by omega), b27 _ (by omega), b26 _ (by omega), b25 _ (by omega), b24 _ (by omega), b23 _ (by omega), b22 _ (by omega), b21 _ (by omega), b20 _ (by omega), b19 _ (by omega), b18 _ (by omega), a17]
    exact Ck_7 (k := 1) (by decide) 0
  by_cases e11 : j = 11
  · subst e11
    rw [b32 _ (by omega), b31 _ (by omega), b30 _ (by omega), b29 _ (by omega), b28 _ (by omega), b27 _ (by omega), b26 _ (by omega), b25 _ (by omega), b24 _ (by omega), b23 _ (by omega), b22 _ (by omega), b21 _ (by omega), b20 _ (by omega), b19 _ (by omega), b18 _ (by omega), e17]
    exact Ck_8 (k := 1) (by decide) _
  by_cases e12 : j = 12
  · subst e12
    rw [b32 _ (by omega), b31 _ (by omega), b30 _ (by omega), b29 _ (by omega), b28 _ (by omega), b27 _ (by omega), b26 _ (by omega), b25 _ (by omega), b24 _ (by omega), b23 _ (by omega), b22 _ (by omega), b21 _ (by omega), b20 _ (by omega), b19 _ (by omega), b18 _ (by omega), f17]
    exact Ck_9 (k := 1) (by decide) _
  by_cases e13 : j = 13
  · subst e13
    rw [b32 _ (by omega), b31 _ (by omega), b30 _ (by omega), b29 _ (by omega), b28 _ (by omega), b27 _ (by omega), b26 _ (by omega), b25 _ (by omega), b24 _ (by omega), b23 _ (by omega), b22 _ (by omega), b21 _ (by omega), a20]
    exact Ck_7 (k := 2) (by decide) 0
  by_cases e14 : j = 14
  · subst e14
    rw [b32 _ (by omega), b31 _ (by omega), b30 _ (by omega), b29 _ (by omega), b28 _ (by omega), b27 _ (by omega), b26 _ (by omega), b25 _ (by omega), b24 _ (by omega), b23 _ (by omega), b22 _ (by omega), b21 _ (by omega), e20]
    exact Ck_8 (k := 2) (by decide) _
  by_cases e15 : j = 15
  · subst e15
    rw [b32 _ (by omega), b31 _ (by omega), b30 _ (by omega), b29 _ (by omega), b28 _ (by omega), b27 _ (by omega), b26 _ (by omega), b25 _ (by omega), b24 _ (by omega), b23 _ (by omega), b22 _ (by omega), b21 _ (by omega), f20]
    exact Ck_9 (k := 2) (by decide) _
  by_cases e36 : j = 36
  · subst e36
    rw [b32 _ (by omega), b31 _ (by omega), b30 _ (by omega), b29 _ (by omega), b28 _ (by omega), a27]
    exact Ck_36 _ _ _ _ _
  rw [b32 _ (by omega), b31 _ (by omega), b30 _ (by omega), b29 _ (by omega), b28 _ (by omega), b27 _ (by omega), b26 _ (by omega), b25 _ (by omega)]
  exact a24 j (by omega) (by omega)
/-- the component's cells as they begin -/
def Zz (τ : kt_H) : Prop := Z1 τ ∧ τ.1 0 = k00 ∧ (∃ g, τ.1 2 = kt_ra 2 9 g ∧ ∀ l, l < 9 → g l = some (38 + 10 * l)) ∧ (∃ g, τ.1 3 = kt_ra 3 4 g ∧ ∀ k, k < 4 → g k = some (128 + 2 * k)) ∧ (∀ l, l < 9 → Lf τ l) ∧ ∀ k, k < 4 → τ.1 (128 + 2 * k) = kt_ob 8 [.ref (129 + 2 * k), .int 0, .int 0, .int 0] ∧ τ.1 (129 + 2 * k) = kt_ia 60 (fun _ => 0)
theorem x_i11c (hq : ∀ τ : kt_H, Zz τ → τ.2.1 = 136 → τ.2.2 = σ.2.2 + 885 → Q none τ) : ∀ (e k : Nat) (τ : kt_H) (g : Nat → Option Nat), k + e = 4 → Z1 τ → τ.1 0 = k00 → (∃ g, τ.1 2 = kt_ra 2 9 g ∧ ∀ l, l < 9 → g l = some (38 + 10 * l)) → τ.1 3 = kt_ra 3 4 g → (∀ k', k' < k → g k' = some (128 + 2 * k')) → (∀ l, l < 9 → Lf τ l) → (∀ k', k' < k → τ.1 (128 + 2 * k') = kt_ob 8 [.ref (129 + 2 * k'), .int 0, .int 0, .int 0] ∧ τ.1 (129 + 2 * k') = kt_ia 60 (fun _ => 0)) → τ.2.1 = 128 + 2 * k → τ.2.2 = σ.2.2 + 629 + 64 * k → Ev kX11_init (165, [some (.ref 0), some (.int (nI k))], [], τ) Q := by
  intro e
  induction e with
  | zero =>
    intro k τ g hk z1 c0 c2 c3 hg hL hS hn hc
    have e : k = 4 := by omega
    subst e
    (repeat first | refine Ev_go rfl ?_ | refine Ev_gf rfl (c0) rfl rfl ?_ )
    refine Ev_lenr rfl c3 rfl ?_
    repeat refine Ev_go rfl ?_
    refine Ev_rt rfl ?_
    exact hq τ ⟨z1, c0, c2, ⟨g, c3, hg⟩, hL, hS⟩ hn hc
  | succ e ih =>
    intro k τ g hk z1 c0 c2 c3 hg hL hS hn hc
    (repeat first | refine Ev_go rfl ?_ | refine Ev_gf rfl (c0) rfl rfl ?_ )
    refine Ev_lenr rfl c3 rfl ?_
    repeat refine Ev_go rfl ?_
    refine Ev_if (fun g1 => absurd g1 (nI_ge (b := 4) (by omega) (by decide))) (fun _ => ?_)
    iterate 1 refine Ev_go rfl ?_
    refine Ev_gf rfl c0 rfl rfl ?_
    iterate 1 refine Ev_go rfl ?_
    refine Ev_new (z := 128 + 2 * k) rfl hn (fun t1 a1 b1 d1 e1 => ?_)
    iterate 1 refine Ev_go rfl ?_
    refine Ev_ca rfl ?_
    refine x_i8 a1 d1 (fun t2 a2 f2 b2 d2 e2 => ?_)
    refine Ev_aag k rfl (by rw [b2 _ (by omega), b1 _ (by omega)]; exact c3) a2 rfl rfl (by omega) (by decide) (fun t3 a3 b3 d3 => ?_)
    have fr : ∀ j, j < 128 + 2 * k → j ≠ 3 → t3.1 j = τ.1 j := fun j hj hn => by rw [b3 _ hn, b2 _ hj, b1 _ (by omega)]
    iterate 2 refine Ev_go rfl ?_
    rw [nI_1]
    refine ih (k + 1) t3 _ (by omega) (z1.c (fun j hj => fr _ (by omega) (by omega))) (by rw [fr _ (by omega) (by omega)]; exact c0) (by rw [fr _ (by omega) (by omega)]; exact c2) a3 (fun k' hk' => ?_) (fun l hl => (hL l hl).c (fun j h1 h2 => fr _ (by omega) (by omega))) (fun k' hk' => ?_) (by rw [d3]; omega) ?_
    · by_cases e : k' = k
      · subst e; rw [va_up_s]
      · rw [va_up_n _ _ e]; exact hg k' (by omega)
    · by_cases e : k' = k
      · subst e
        rw [b3 _ (by omega), b3 _ (by omega), a2, show 129 + 2 * k' = 128 + 2 * k' + 1 by omega, f2]
        exact ⟨rfl, rfl⟩
      · rw [fr _ (by omega) (by omega), fr _ (by omega) (by omega)]; exact hS k' (by omega)
    · rw [d3, e2, e1, hc]
      show σ.2.2 + 629 + 64 * k + 4 + 60 = σ.2.2 + 629 + 64 * (k + 1)
      omega
theorem x_i11b (hq : ∀ τ : kt_H, Zz τ → τ.2.1 = 136 → τ.2.2 = σ.2.2 + 885 → Q none τ) : ∀ (e l : Nat) (τ : kt_H) (g : Nat → Option Nat), l + e = 9 → Z1 τ → τ.1 0 = k00 → τ.1 2 = kt_ra 2 9 g → (∀ l', l' < l → g l' = some (38 + 10 * l')) → τ.1 3 = kt_ra 3 4 (fun _ => none) → (∀ l', l' < l → Lf τ l') → τ.2.1 = 38 + 10 * l → τ.2.2 = σ.2.2 + 287 + 38 * l → Ev kX11_init (135, [some (.ref 0), some (.int (nI l))], [], τ) Q := by
  intro e
  induction e with
  | zero =>
    intro l τ g hl z1 c0 c2 hg c3 hL hn hc
    have e : l = 9 := by omega
    subst e
    (repeat first | refine Ev_go rfl ?_ | refine Ev_gf rfl (c0) rfl rfl ?_ )
    refine Ev_lenr rfl c2 rfl ?_
    iterate 3 refine Ev_go rfl ?_
    exact x_i11c hq 4 0 τ _ rfl z1 c0 ⟨g, c2, hg⟩ c3 (fun k' hk' => absurd hk' (Nat.not_lt_zero k')) hL (fun k' hk' => absurd hk' (Nat.not_lt_zero k')) hn hc
  | succ e ih =>
    intro l τ g hl z1 c0 c2 hg c3 hL hn hc
    (repeat first | refine Ev_go rfl ?_ | refine Ev_gf rfl (c0) rfl rfl ?_ )
    refine Ev_lenr rfl c2 rfl ?_
    repeat refine Ev_go rfl ?_
    refine Ev_if (fun g1 => absurd g1 (nI_ge (b := 9) (by omega) (by decide))) (fun _ => ?_)
    iterate 1 refine Ev_go rfl ?_
    refine Ev_gf rfl c0 rfl rfl ?_
    iterate 1 refine Ev_go rfl ?_
    refine Ev_new (z := 38 + 10 * l) rfl hn (fun t1 a1 b1 d1 e1 => ?_)
    iterate 1 refine Ev_go rfl ?_
    refine Ev_ca rfl ?_
    refine x_i3 a1 (by rw [d1]; omega) (fun t2 a2 b2 d2 e2 => ?_)
    obtain ⟨cn, o2⟩ := a2.1
    refine Ev_aag l rfl (by rw [b2 _ (by omega), b1 _ (by omega)]; exact c2) o2 rfl rfl (by omega) (by decide) (fun t3 a3 b3 d3 => ?_)
    have fr : ∀ j, j < 38 + 10 * l → j ≠ 2 → t3.1 j = τ.1 j := fun j hj hn => by rw [b3 _ hn, b2 _ hj, b1 _ (by omega)]
    iterate 2 refine Ev_go rfl ?_
    rw [nI_1]
    refine ih (l + 1) t3 _ (by omega) (z1.c (fun j hj => fr _ (by omega) (by omega))) (by rw [fr _ (by omega) (by omega)]; exact c0) a3 (fun l' hl' => ?_) (by rw [fr _ (by omega) (by omega)]; exact c3) (fun l' hl' => ?_) (by rw [d3]; omega) ?_
    · by_cases e : l' = l
      · subst e; rw [va_up_s]
      · rw [va_up_n _ _ e]; exact hg l' (by omega)
    · by_cases e : l' = l
      · subst e
        exact a2.c (fun j h1 h2 => b3 _ (by omega))
      · exact (hL l' (by omega)).c (fun j h1 h2 => fr _ (by omega) (by omega))
    · rw [d3, e2, e1, hc]
      show σ.2.2 + 287 + 38 * l + 2 + 36 = σ.2.2 + 287 + 38 * (l + 1)
      omega
theorem x_i11 (ho : σ.1 0 = kt_ob 11 [.null, .int 0, .null, .int 0, .null, .null, .null, .null, .null, .null, .int 0]) (hz : σ.2.1 = 1) (hq : ∀ τ : kt_H, Zz τ → τ.2.1 = 136 → τ.2.2 = σ.2.2 + 885 → Q none τ) : Cs nX11_init [.ref 0] σ Q :=
  x_i11a ho hz (fun τ z1 c0 c2 c3 hn hc => x_i11b hq 9 0 τ _ rfl z1 c0 c2 (fun l' hl' => absurd hl' (Nat.not_lt_zero l')) c3 (fun l' hl' => absurd hl' (Nat.not_lt_zero l')) hn hc)
end IO
