/-! the reference is made -/
def fF : FF := fun _ => 0
def aA : AA := fun q => if q = 9 then upd (upd (upd (upd (upd (fun _ => 0) 0 8) 1 8) 2 9) 4 1) 5 10 else if q = 10 then upd (upd (upd (upd (fun _ => 0) 0 (-1)) 1 (-1)) 2 (-1)) 3 (-1) else fun _ => 0
theorem Ev_iag {k : Nat → kt_S} {pc nx : Nat} {L : kt_L} {S : List Value} {σ : kt_H} {Q : Option Value → kt_H → Prop} {o n : Nat} {f : Nat → Int32} {i x : Int32} (j : Nat) (hk : k pc = s_ias nx) (hc : σ.1 o = kt_ia n f) (hi : i = nI j) (hj : j < n) (hn : n < 2 ^ 31) (h : ∀ τ : kt_H, τ.1 o = kt_ia n (upd f j x) → (∀ j, j ≠ o → τ.1 j = σ.1 j) → τ.2 = σ.2 → Ev k (nx, L, S, τ) Q) : Ev k (pc, L, .int x :: .int i :: .ref o :: S, σ) Q :=
  Ev_ias j hk hc hi hj hn (h _ (kt_put_s _ _ _) (fun j hj => kt_put_n _ _ hj) rfl)
abbrev mOb : kt_C := kt_ob 12 [.int 0, .int 0, .ref 137, .ref 138, .ref 139, .ref 140, .int 0, .int 0, .ref 141, .ref 142, .int 0, .ref 143, .ref 144, .int 0, .int 0, .ref 145, .ref 146, .int 0, .int 0, .ref 147, .ref 148, .ref 149, .ref 150, .int 0]
section IP
variable {σ : kt_H} {Q : Option Value → kt_H → Prop}
theorem x_i12 (ho : σ.1 136 = kt_ob 12 [.int 0, .int 0, .null, .null, .null, .null, .int 0, .int 0, .null, .null, .int 0, .null, .null, .int 0, .int 0, .null, .null, .int 0, .int 0, .null, .null, .null, .null, .int 0]) (hz : σ.2.1 = 137) (hq : ∀ τ : kt_H, mM τ fF aA = τ → (∀ j, j < 136 → τ.1 j = σ.1 j) → τ.2.1 = 151 → τ.2.2 = σ.2.2 + 806 → Q none τ) : Cs nX12_init [.ref 136] σ Q := by
  refine Cs_in (k := kX12_init) [some (.ref 136), none] rfl rfl ?_
  iterate 4 refine Ev_go rfl ?_
  refine Ev_nai (n := 16) (z := 137) rfl rfl (by decide) hz (fun s1 a1 b1 c1 d1 => ?_)
  have y1 : s1.2.2 = σ.2.2 + 16 := by rw [d1]
  refine Ev_ppf rfl (by rw [b1 _ (by decide)]; exact ho) rfl rfl rfl (fun s2 a2 b2 c2 => ?_)
  have x2 : s2.2.1 = 138 := by rw [c2]; exact c1
  have y2 : s2.2.2 = σ.2.2 + 16 := by rw [c2, y1]
  iterate 2 refine Ev_go rfl ?_
  refine Ev_nai (n := 16) (z := 138) rfl rfl (by decide) x2 (fun s3 a3 b3 c3 d3 => ?_)
  have y3 : s3.2.2 = σ.2.2 + 32 := by rw [d3, y2]
  refine Ev_ppf rfl (by rw [b3 _ (by decide)]; exact a2) rfl rfl rfl (fun s4 a4 b4 c4 => ?_)
  have x4 : s4.2.1 = 139 := by rw [c4]; exact c3
  have y4 : s4.2.2 = σ.2.2 + 32 := by rw [c4, y3]
  iterate 2 refine Ev_go rfl ?_
  refine Ev_nai (n := 128) (z := 139) rfl rfl (by decide) x4 (fun s5 a5 b5 c5 d5 => ?_)
  have y5 : s5.2.2 = σ.2.2 + 160 := by rw [d5, y4]
  refine Ev_ppf rfl (by rw [b5 _ (by decide)]; exact a4) rfl rfl rfl (fun s6 a6 b6 c6 => ?_)
  have x6 : s6.2.1 = 140 := by rw [c6]; exact c5
  have y6 : s6.2.2 = σ.2.2 + 160 := by rw [c6, y5]
  iterate 2 refine Ev_go rfl ?_
  refine Ev_nai (n := 128) (z := 140) rfl rfl (by decide) x6 (fun s7 a7 b7 c7 d7 => ?_)
  have y7 : s7.2.2 = σ.2.2 + 288 := by rw [d7, y6]
  refine Ev_ppf rfl (by rw [b7 _ (by decide)]; exact a6) rfl rfl rfl (fun s8 a8 b8 c8 => ?_)
  have x8 : s8.2.1 = 141 := by rw [c8]; exact c7
  have y8 : s8.2.2 = σ.2.2 + 288 := by rw [c8, y7]
  iterate 2 refine Ev_go rfl ?_
  refine Ev_nai (n := 8) (z := 141) rfl rfl (by decide) x8 (fun s9 a9 b9 c9 d9 => ?_)
  have y9 : s9.2.2 = σ.2.2 + 296 := by rw [d9, y8]
  refine Ev_ppf rfl (by rw [b9 _ (by decide)]; exact a8) rfl rfl rfl (fun s10 a10 b10 c10 => ?_)
  have x10 : s10.2.1 = 142 := by rw [c10]; exact c9
  have y10 : s10.2.2 = σ.2.2 + 296 := by rw [c10, y9]
  iterate 2 refine Ev_go rfl ?_
  refine Ev_nai (n := 8) (z := 142) rfl rfl (by decide) x10 (fun s11 a11 b11 c11 d11 => ?_)
  have y11 : s11.2.2 = σ.2.2 + 304 := by rw [d11, y10]
  refine Ev_ppf rfl (by rw [b11 _ (by decide)]; exact a10) rfl rfl rfl (fun s12 a12 b12 c12 => ?_)
  have x12 : s12.2.1 = 143 := by rw [c12]; exact c11
  have y12 : s12.2.2 = σ.2.2 + 304 := by rw [c12, y11]
  iterate 2 refine Ev_go rfl ?_
  refine Ev_nai (n := 8) (z := 143) rfl rfl (by decide) x12 (fun s13 a13 b13 c13 d13 => ?_)
  have y13 : s13.2.2 = σ.2.2 + 312 := by rw [d13, y12]
  refine Ev_ppf rfl (by rw [b13 _ (by decide)]; exact a12) rfl rfl rfl (fun s14 a14 b14 c14 => ?_)
  have x14 : s14.2.1 = 144 := by rw [c14]; exact c13
  have y14 : s14.2.2 = σ.2.2 + 312 := by rw [c14, y13]
  iterate 2 refine Ev_go rfl ?_
  refine Ev_nai (n := 160) (z := 144) rfl rfl (by decide) x14 (fun s15 a15 b15 c15 d15 => ?_)
  have y15 : s15.2.2 = σ.2.2 + 472 := by rw [d15, y14]
  refine Ev_ppf rfl (by rw [b15 _ (by decide)]; exact a14) rfl rfl rfl (fun s16 a16 b16 c16 => ?_)
  have x16 : s16.2.1 = 145 := by rw [c16]; exact c15
  have y16 : s16.2.2 = σ.2.2 + 472 := by rw [c16, y15]
  iterate 2 refine Ev_go rfl ?_
  refine Ev_nai (n := 20) (z := 145) rfl rfl (by decide) x16 (fun s17 a17 b17 c17 d17 => ?_)
  have y17 : s17.2.2 = σ.2.2 + 492 := by rw [d17, y16]
  refine Ev_ppf rfl (by rw [b17 _ (by decide)]; exact a16) rfl rfl rfl (fun s18 a18 b18 c18 => ?_)
  have x18 : s18.2.1 = 146 := by rw [c18]; exact c17
  have y18 : s18.2.2 = σ.2.2 + 492 := by rw [c18, y17]
  iterate 2 refine Ev_go rfl ?_
  refine Ev_nai (n := 6) (z := 146) rfl rfl (by decide) x18 (fun s19 a19 b19 c19 d19 => ?_)
  have y19 : s19.2.2 = σ.2.2 + 498 := by rw [d19, y18]
  refine Ev_ppf rfl (by rw [b19 _ (by decide)]; exact a18) rfl rfl rfl (fun s20 a20 b20 c20 => ?_)
  have x20 : s20.2.1 = 147 := by rw [c20]; exact c19
  have y20 : s20.2.2 = σ.2.2 + 498 := by rw [c20, y19]
  iterate 2 refine Ev_go rfl ?_
  refine Ev_nai (n := 4) (z := 147) rfl rfl (by decide) x20 (fun s21 a21 b21 c21 d21 => ?_)
  have y21 : s21.2.2 = σ.2.2 + 502 := by rw [d21, y20]
  refine Ev_ppf rfl (by rw [b21 _ (by decide)]; exact a20) rfl rfl rfl (fun s22 a22 b22 c22 => ?_)
  have x22 : s22.2.1 = 148 := by rw [c22]; exact c21
  have y22 : s22.2.2 = σ.2.2 + 502 := by rw [c22, y21]
  iterate 2 refine Ev_go rfl ?_
  refine Ev_nai (n := 4) (z := 148) rfl rfl (by decide) x22 (fun s23 a23 b23 c23 d23 => ?_)
  have y23 : s23.2.2 = σ.2.2 + 506 := by rw [d23, y22]
  refine Ev_ppf rfl (by rw [b23 _ (by decide)]; exact a22) rfl rfl rfl (fun s24 a24 b24 c24 => ?_)
  have x24 : s24.2.1 = 149 := by rw [c24]; exact c23
  have y24 : s24.2.2 = σ.2.2 + 506 := by rw [c24, y23]
  iterate 2 refine Ev_go rfl ?_
  refine Ev_nai (n := 240) (z := 149) rfl rfl (by decide) x24 (fun s25 a25 b25 c25 d25 => ?_)
  have y25 : s25.2.2 = σ.2.2 + 746 := by rw [d25, y24]
  refine Ev_ppf rfl (by rw [b25 _ (by decide)]; exact a24) rfl rfl rfl (fun s26 a26 b26 c26 => ?_)
  have x26 : s26.2.1 = 150 := by rw [c26]; exact c25
  have y26 : s26.2.2 = σ.2.2 + 746 := by rw [c26, y25]
  iterate 2 refine Ev_go rfl ?_
  refine Ev_nai (n := 60) (z := 150) rfl rfl (by decide) x26 (fun s27 a27 b27 c27 d27 => ?_)
  have y27 : s27.2.2 = σ.2.2 + 806 := by rw [d27, y26]
  refine Ev_ppf rfl (by rw [b27 _ (by decide)]; exact a26) rfl rfl rfl (fun s28 a28 b28 c28 => ?_)
  have x28 : s28.2.1 = 151 := by rw [c28]; exact c27
  have y28 : s28.2.2 = σ.2.2 + 806 := by rw [c28, y27]
  have o0 := (show s28.1 136 = mOb from a28)
  iterate 1 refine Ev_go rfl ?_
  refine Ev_gf rfl o0 rfl rfl ?_
  repeat refine Ev_go rfl ?_
  refine Ev_iag 0 rfl (by rw [b28 _ (by decide), b27 _ (by decide), b26 _ (by decide), b25 _ (by decide), b24 _ (by decide), b23 _ (by decide), b22 _ (by decide), b21 _ (by decide), b20 _ (by decide)]; exact a19) rfl (by decide) (by decide) (fun s29 a29 b29 c29 => ?_)
  have x29 : s29.2.1 = 151 := by rw [c29]; exact x28
  have y29 : s29.2.2 = σ.2.2 + 806 := by rw [c29, y28]
  have o1 := (show s29.1 136 = mOb from (by rw [b29 _ (by decide)]; exact a28))
  iterate 1 refine Ev_go rfl ?_
  refine Ev_gf rfl o1 rfl rfl ?_
  repeat refine Ev_go rfl ?_
  refine Ev_iag 1 rfl a29 rfl (by decide) (by decide) (fun s30 a30 b30 c30 => ?_)
  have x30 : s30.2.1 = 151 := by rw [c30]; exact x29
  have y30 : s30.2.2 = σ.2.2 + 806 := by rw [c30, y29]
  have o2 := (show s30.1 136 = mOb from (by rw [b30 _ (by decide), b29 _ (by decide)]; exact a28))
  iterate 1 refine Ev_go rfl ?_
  refine Ev_gf rfl o2 rfl rfl ?_
  repeat refine Ev_go rfl ?_
  refine Ev_iag 2 rfl a30 rfl (by decide) (by decide) (fun s31 a31 b31 c31 => ?_)
  have x31 : s31.2.1 = 151 := by rw [c31]; exact x30
  have y31 : s31.2.2 = σ.2.2 + 806 := by rw [c31, y30]
  have o4 := (show s31.1 136 = mOb from (by rw [b31 _ (by decide), b30 _ (by decide), b29 _ (by decide)]; exact a28))
  iterate 1 refine Ev_go rfl ?_
  refine Ev_gf rfl o4 rfl rfl ?_
  repeat refine Ev_go rfl ?_
  refine Ev_iag 4 rfl a31 rfl (by decide) (by decide) (fun s32 a32 b32 c32 => ?_)
  have x32 : s32.2.1 = 151 := by rw [c32]; exact x31
  have y32 : s32.2.2 = σ.2.2 + 806 := by rw [c32, y31]
  have o5 := (show s32.1 136 = mOb from (by rw [b32 _ (by decide), b31 _ (by decide), b30 _ (by decide), b29 _ (by decide)]; exact a28))
  iterate 1 refine Ev_go rfl ?_
  refine Ev_gf rfl o5 rfl rfl ?_
  repeat refine Ev_go rfl ?_
  refine Ev_iag 5 rfl a32 rfl (by decide) (by decide) (fun s33 a33 b33 c33 => ?_)
  have x33 : s33.2.1 = 151 := by rw [c33]; exact x32
  have y33 : s33.2.2 = σ.2.2 + 806 := by rw [c33, y32]
  iterate 5 refine Ev_go rfl ?_
  have p0 := (show s33.1 136 = mOb from (by rw [b33 _ (by decide), b32 _ (by decide), b31 _ (by decide), b30 _ (by decide), b29 _ (by decide)]; exact a28))
  iterate 1 refine Ev_go rfl ?_
  refine Ev_gf rfl p0 rfl rfl ?_
  repeat refine Ev_go rfl ?_
  refine Ev_iag 0 rfl (by rw [b33 _ (by decide), b32 _ (by decide), b31 _ (by decide), b30 _ (by decide), b29 _ (by decide), b28 _ (by decide), b27 _ (by decide), b26 _ (by decide), b25 _ (by decide), b24 _ (by decide), b23 _ (by decide), b22 _ (by decide)]; exact a21) rfl (by decide) (by decide) (fun s34 a34 b34 c34 => ?_)
  have x34 : s34.2.1 = 151 := by rw [c34]; exact x33
  have y34 : s34.2.2 = σ.2.2 + 806 := by rw [c34, y33]
  iterate 5 refine Ev_go rfl ?_
  have p1 := (show s34.1 136 = mOb from (by rw [b34 _ (by decide), b33 _ (by decide), b32 _ (by decide), b31 _ (by decide), b30 _ (by decide), b29 _ (by decide)]; exact a28))
  iterate 1 refine Ev_go rfl ?_
  refine Ev_gf rfl p1 rfl rfl ?_
  repeat refine Ev_go rfl ?_
  refine Ev_iag 1 rfl a34 rfl (by decide) (by decide) (fun s35 a35 b35 c35 => ?_)
  have x35 : s35.2.1 = 151 := by rw [c35]; exact x34
  have y35 : s35.2.2 = σ.2.2 + 806 := by rw [c35, y34]
  iterate 5 refine Ev_go rfl ?_
  have p2 := (show s35.1 136 = mOb from (by rw [b35 _ (by decide), b34 _ (by decide), b33 _ (by decide), b32 _ (by decide), b31 _ (by decide), b30 _ (by decide), b29 _ (by decide)]; exact a28))
  iterate 1 refine Ev_go rfl ?_
  refine Ev_gf rfl p2 rfl rfl ?_
  repeat refine Ev_go rfl ?_
  refine Ev_iag 2 rfl a35 rfl (by decide) (by decide) (fun s36 a36 b36 c36 => ?_)
  have x36 : s36.2.1 = 151 := by rw [c36]; exact x35
  have y36 : s36.2.2 = σ.2.2 + 806 := by rw [c36, y35]
  iterate 5 refine Ev_go rfl ?_
  have p3 := (show s36.1 136 = mOb from (by rw [b36 _ (by decide), b35 _ (by decide), b34 _ (by decide), b33 _ (by decide), b32 _ (by decide), b31 _ (by decide), b30 _ (by decide), b29 _ (by decide)]; exact a28))
  iterate 1 refine Ev_go rfl ?_
  refine Ev_gf rfl p3 rfl rfl ?_
  repeat refine Ev_go rfl ?_
  refine Ev_iag 3 rfl a36 rfl (by decide) (by decide) (fun s37 a37 b37 c37 => ?_)
  have x37 : s37.2.1 = 151 := by rw [c37]; exact x36
  have y37 : s37.2.2 = σ.2.2 + 806 := by rw [c37, y36]
  repeat refine Ev_go rfl ?_
  refine Ev_rt rfl ?_
  refine hq s37 (mM_ext (fun j j1 j2 => ?_)) (fun j hj => by rw [b37 _ (by omega), b36 _ (by omega), b35 _ (by omega), b34 _ (by omega), b33 _ (by omega), b32 _ (by omega), b31 _ (by omega), b30 _ (by omega), b29 _ (by omega), b28 _ (by omega), b27 _ (by omega), b26 _ (by omega), b25 _ (by omega), b24 _ (by omega), b23 _ (by omega), b22 _ (by omega), b21 _ (by omega), b20 _ (by omega), b19 _ (by omega), b18 _ (by omega), b17 _ (by omega), b16 _ (by omega), b15 _ (by omega), b14 _ (by omega), b13 _ (by omega), b12 _ (by omega), b11 _ (by omega), b10 _ (by omega), b9 _ (by omega), b8 _ (by omega), b7 _ (by omega), b6 _ (by omega), b5 _ (by omega), b4 _ (by omega), b3 _ (by omega), b2 _ (by omega), b1 _ (by omega)]) x37 y37
  have : j = 136 ∨ j = 137 ∨ j = 138 ∨ j = 139 ∨ j = 140 ∨ j = 141 ∨ j = 142 ∨ j = 143 ∨ j = 144 ∨ j = 145 ∨ j = 146 ∨ j = 147 ∨ j = 148 ∨ j = 149 ∨ j = 150 := by omega
  rcases this with rfl | rfl | rfl | rfl | rfl | rfl | rfl | rfl | rfl | rfl | rfl | rfl | rfl | rfl | rfl
  · rw [b37 _ (by decide), b36 _ (by decide), b35 _ (by decide), b34 _ (by decide), b33 _ (by decide), b32 _ (by decide), b31 _ (by decide), b30 _ (by decide), b29 _ (by decide)]
    exact a28
  · rw [b37 _ (by decide), b36 _ (by decide), b35 _ (by decide), b34 _ (by decide), b33 _ (by decide), b32 _ (by decide), b31 _ (by decide), b30 _ (by decide), b29 _ (by decide), b28 _ (by decide), b27 _ (by decide), b26 _ (by decide), b25 _ (by decide), b24 _ (by decide), b23 _ (by decide), b22 _ (by decide), b21 _ (by decide), b20 _ (by decide), b19 _ (by decide), b18 _ (by decide), b17 _ (by decide), b16 _ (by decide), b15 _ (by decide), b14 _ (by decide), b13 _ (by decide), b12 _ (by decide), b11 _ (by decide), b10 _ (by decide), b9 _ (by decide), b8 _ (by decide), b7 _ (by decide), b6 _ (by decide), b5 _ (by decide), b4 _ (by decide), b3 _ (by decide), b2 _ (by decide)]
    exact a1
  · rw [b37 _ (by decide), b36 _ (by decide), b35 _ (by decide), b34 _ (by decide), b33 _ (by decide), b32 _ (by decide), b31 _ (by decide), b30 _ (by decide), b29 _ (by decide), b28 _ (by decide), b27 _ (by decide), b26 _ (by decide), b25 _ (by decide), b24 _ (by decide), b23 _ (by decide), b22 _ (by decide), b21 _ (by decide), b20 _ (by decide), b19 _ (by decide), b18 _ (by decide), b17 _ (by decide), b16 _ (by decide), b15 _ (by decide), b14 _ (by decide), b13 _ (by decide), b12 _ (by decide), b11 _ (by decide), b10 _ (by decide), b9 _ (by decide), b8 _ (by decide), b7 _ (by decide), b6 _ (by decide), b5 _ (by decide), b4 _ (by decide)]
    exact a3
  · rw [b37 _ (by decide), b36 _ (by decide), b35 _ (by decide), b34 _ (by decide), b33 _ (by decide), b32 _ (by decide), b31 _ (by decide), b30 _ (by decide), b29 _ (by decide), b28 _ (by decide), b27 _ (by decide), b26 _ (by decide), b25 _ (by decide), b24 _ (by decide), b23 _ (by decide), b22 _ (by decide), b21 _ (by decide), b20 _ (by decide), b19 _ (by decide), b18 _ (by decide), b17 _ (by decide), b16 _ (by decide), b15 _ (by decide), b14 _ (by decide), b13 _ (by decide), b12 _ (by decide), b11 _ (by decide), b10 _ (by decide), b9 _ (by decide), b8 _ (by decide), b7 _ (by decide), b6 _ (by decide)]
    exact a5
  · rw [b37 _ (by decide), b36 _ (by decide), b35 _ (by decide), b34 _ (by decide), b33 _ (by decide), b32 _ (by decide), b31 _ (by decide), b30 _ (by decide), b29 _ (by decide), b28 _ (by decide), b27 _ (by decide), b26 _ (by decide), b25 _ (by decide), b24 _ (by decide), b23 _ (by decide), b22 _ (by decide), b21 _ (by decide), b20 _ (by decide), b19 _ (by decide), b18 _ (by decide), b17 _ (by decide), b16 _ (by decide), b15 _ (by decide), b14 _ (by decide), b13 _ (by decide), b12 _ (by decide), b11 _ (by decide), b10 _ (by decide), b9 _ (by decide), b8 _ (by decide)]
    exact a7
  · rw [b37 _ (by decide), b36 _ (by decide), b35 _ (by decide), b34 _ (by decide), b33 _ (by decide), b32 _ (by decide), b31 _ (by decide), b30 _ (by decide), b29 _ (by decide), b28 _ (by decide), b27 _ (by decide), b26 _ (by decide), b25 _ (by decide), b24 _ (by decide), b23 _ (by decide), b22 _ (by decide), b21 _ (by decide), b20 _ (by decide), b19 _ (by decide), b18 _ (by decide), b17 _ (by decide), b16 _ (by decide), b15 _ (by decide), b14 _ (by decide), b13 _ (by decide), b12 _ (by decide), b11 _ (by decide), b10 _ (by decide)]
    exact a9
  · rw [b37 _ (by decide), b36 _ (by decide), b35 _ (by decide), b34 _ (by decide), b33 _ (by decide), b32 _ (by decide), b31 _ (by decide), b30 _ (by decide), b29 _ (by decide), b28 _ (by decide), b27 _ (by decide), b26 _ (by decide), b25 _ (by decide), b24 _ (by decide), b23 _ (by decide), b22 _ (by decide), b21 _ (by decide), b20 _ (by decide), b19 _ (by decide), b18 _ (by decide), b17 _ (by decide), b16 _ (by decide), b15 _ (by decide), b14 _ (by decide), b13 _ (by decide), b12 _ (by decide)]
    exact a11
  · rw [b37 _ (by decide), b36 _ (by decide), b35 _ (by decide), b34 _ (by decide), b33 _ (by decide), b32 _ (by decide), b31 _ (by decide), b30 _ (by decide), b29 _ (by decide), b28 _ (by decide), b27 _ (by decide), b26 _ (by decide), b25 _ (by decide), b24 _ (by decide), b23 _ (by decide), b22 _ (by decide), b21 _ (by decide), b20 _ (by decide), b19 _ (by decide), b18 _ (by decide), b17 _ (by decide), b16 _ (by decide), b15 _ (by decide), b14 _ (by decide)]
    exact a13
  · rw [b37 _ (by decide), b36 _ (by decide), b35 _ (by decide), b34 _ (by decide), b33 _ (by decide), b32 _ (by decide), b31 _ (by decide), b30 _ (by decide), b29 _ (by decide), b28 _ (by decide), b27 _ (by decide), b26 _ (by decide), b25 _ (by decide), b24 _ (by decide), b23 _ (by decide), b22 _ (by decide), b21 _ (by decide), b20 _ (by decide), b19 _ (by decide), b18 _ (by decide), b17 _ (by decide), b16 _ (by decide)]
    exact a15
  · rw [b37 _ (by decide), b36 _ (by decide), b35 _ (by decide), b34 _ (by decide), b33 _ (by decide), b32 _ (by decide), b31 _ (by decide), b30 _ (by decide), b29 _ (by decide), b28 _ (by decide), b27 _ (by decide), b26 _ (by decide), b25 _ (by decide), b24 _ (by decide), b23 _ (by decide), b22 _ (by decide), b21 _ (by decide), b20 _ (by decide), b19 _ (by decide), b18 _ (by decide)]
    exact a17
  · rw [b37 _ (by decide), b36 _ (by decide), b35 _ (by decide), b34 _ (by decide)]
    exact a33
  · exact a37
  · rw [b37 _ (by decide), b36 _ (by decide), b35 _ (by decide), b34 _ (by decide), b33 _ (by decide), b32 _ (by decide), b31 _ (by decide), b30 _ (by decide), b29 _ (by decide), b28 _ (by decide), b27 _ (by decide), b26 _ (by decide), b25 _ (by decide), b24 _ (by decide)]
    exact a23
  · rw [b37 _ (by decide), b36 _ (by decide), b35 _ (by decide), b34 _ (by decide), b33 _ (by decide), b32 _ (by decide), b31 _ (by decide), b30 _ (by decide), b29 _ (by decide), b28 _ (by decide), b27 _ (by decide), b26 _ (by decide)]
    exact a25
  · rw [b37 _ (by decide), b36 _ (by decide), b35 _ (by decide), b34 _ (by decide), b33 _ (by decide), b32 _ (by decide), b31 _ (by decide), b30 _ (by decide), b29 _ (by decide), b28 _ (by decide)]
    exact a27
end IP
