/-! the law: all calls -/
abbrev lwtab : List Nat := [180, 243, 276, 319, 372, 425, 448, 481, 524, 557, 590, 624, 658, 722, 785, 828, 904, 957, 1020, 1053, 1096, 1129, 1162, 1205, 1228, 1271, 1315, 1378, 1401, 1424, 1457, 1470, 1483]
section LX
variable {xs : Nat → Int32} {n : Nat} {f : FF} {a : AA} {τ : kt_H} {Q : Option Value → kt_H → Prop}
theorem L_sw {i : Nat} (hn : n ≤ 3584) (hi : i + 7 ≤ n) (hS : St f a τ) (hq : ∀ f2 a2 τ2, St f2 a2 τ2 → Ev (kL_law xs n) (1506, lwL i, [], τ2) Q) (w : Int32) : Ev (kL_law xs n) (kt_sw 0 32 lwtab 1506 w, lwL i, [], τ) Q := by
  by_cases h : 0 ≤ w.toInt ∧ w.toInt ≤ 32
  · obtain ⟨j, a1, a2, rfl⟩ := nI_ex 32 h
    have : j = 0 ∨ j = 1 ∨ j = 2 ∨ j = 3 ∨ j = 4 ∨ j = 5 ∨ j = 6 ∨ j = 7 ∨ j = 8 ∨ j = 9 ∨ j = 10 ∨ j = 11 ∨ j = 12 ∨ j = 13 ∨ j = 14 ∨ j = 15 ∨ j = 16 ∨ j = 17 ∨ j = 18 ∨ j = 19 ∨ j = 20 ∨ j = 21 ∨ j = 22 ∨ j = 23 ∨ j = 24 ∨ j = 25 ∨ j = 26 ∨ j = 27 ∨ j = 28 ∨ j = 29 ∨ j = 30 ∨ j = 31 ∨ j = 32 := by omega
    rcases this with rfl | rfl | rfl | rfl | rfl | rfl | rfl | rfl | rfl | rfl | rfl | rfl | rfl | rfl | rfl | rfl | rfl | rfl | rfl | rfl | rfl | rfl | rfl | rfl | rfl | rfl | rfl | rfl | rfl | rfl | rfl | rfl | rfl
    · rw [show kt_sw 0 32 lwtab 1506 (nI 0) = 180 from rfl]
      exact L_0 hn hi hS hq
    · rw [show kt_sw 0 32 lwtab 1506 (nI 1) = 243 from rfl]
      exact L_1 hn hi hS hq
    · rw [show kt_sw 0 32 lwtab 1506 (nI 2) = 276 from rfl]
      exact L_2 hn hi hS hq
    · rw [show kt_sw 0 32 lwtab 1506 (nI 3) = 319 from rfl]
      exact L_3 hn hi hS hq
    · rw [show kt_sw 0 32 lwtab 1506 (nI 4) = 372 from rfl]
      exact L_4 hn hi hS hq
    · rw [show kt_sw 0 32 lwtab 1506 (nI 5) = 425 from rfl]
      exact L_5 hn hi hS hq
    · rw [show kt_sw 0 32 lwtab 1506 (nI 6) = 448 from rfl]
      exact L_6 hn hi hS hq
    · rw [show kt_sw 0 32 lwtab 1506 (nI 7) = 481 from rfl]
      exact L_7 hn hi hS hq
    · rw [show kt_sw 0 32 lwtab 1506 (nI 8) = 524 from rfl]
      exact L_8 hn hi hS hq
    · rw [show kt_sw 0 32 lwtab 1506 (nI 9) = 557 from rfl]
      exact L_9 hn hi hS hq
    · rw [show kt_sw 0 32 lwtab 1506 (nI 10) = 590 from rfl]
      exact L_10 hn hi hS hq
    · rw [show kt_sw 0 32 lwtab 1506 (nI 11) = 624 from rfl]
      exact L_11 hn hi hS hq
    · rw [show kt_sw 0 32 lwtab 1506 (nI 12) = 658 from rfl]
      exact L_12 hn hi hS hq
    · rw [show kt_sw 0 32 lwtab 1506 (nI 13) = 722 from rfl]
      exact L_13 hn hi hS hq
    · rw [show kt_sw 0 32 lwtab 1506 (nI 14) = 785 from rfl]
      exact L_14 hn hi hS hq
    · rw [show kt_sw 0 32 lwtab 1506 (nI 15) = 828 from rfl]
      exact L_15 hn hi hS hq
    · rw [show kt_sw 0 32 lwtab 1506 (nI 16) = 904 from rfl]
      exact L_16 hn hi hS hq
    · rw [show kt_sw 0 32 lwtab 1506 (nI 17) = 957 from rfl]
      exact L_17 hn hi hS hq
    · rw [show kt_sw 0 32 lwtab 1506 (nI 18) = 1020 from rfl]
      exact L_18 hn hi hS hq
    · rw [show kt_sw 0 32 lwtab 1506 (nI 19) = 1053 from rfl]
      exact L_19 hn hi hS hq
    · rw [show kt_sw 0 32 lwtab 1506 (nI 20) = 1096 from rfl]
      exact L_20 hn hi hS hq
    · rw [show kt_sw 0 32 lwtab 1506 (nI 21) = 1129 from rfl]
      exact L_21 hn hi hS hq
    · rw [show kt_sw 0 32 lwtab 1506 (nI 22) = 1162 from rfl]
      exact L_22 hn hi hS hq
    · rw [show kt_sw 0 32 lwtab 1506 (nI 23) = 1205 from rfl]
      exact L_23 hn hi hS hq
    · rw [show kt_sw 0 32 lwtab 1506 (nI 24) = 1228 from rfl]
      exact L_24 hn hi hS hq
    · rw [show kt_sw 0 32 lwtab 1506 (nI 25) = 1271 from rfl]
      exact L_25 hn hi hS hq
    · rw [show kt_sw 0 32 lwtab 1506 (nI 26) = 1315 from rfl]
      exact L_26 hn hi hS hq
    · rw [show kt_sw 0 32 lwtab 1506 (nI 27) = 1378 from rfl]
      exact L_27 hn hi hS hq
    · rw [show kt_sw 0 32 lwtab 1506 (nI 28) = 1401 from rfl]
      exact L_28 hn hi hS hq
    · rw [show kt_sw 0 32 lwtab 1506 (nI 29) = 1424 from rfl]
      exact L_29 hn hi hS hq
    · rw [show kt_sw 0 32 lwtab 1506 (nI 30) = 1457 from rfl]
      exact L_30 hn hi hS hq
    · rw [show kt_sw 0 32 lwtab 1506 (nI 31) = 1470 from rfl]
      exact L_31 hn hi hS hq
    · rw [show kt_sw 0 32 lwtab 1506 (nI 32) = 1483 from rfl]
      exact L_32 hn hi hS hq
  · rw [show kt_sw 0 32 lwtab 1506 w = 1506 from by unfold kt_sw; rw [if_pos (by omega)]]
    exact hq f a τ hS
theorem L_loop (hn : n ≤ 3584) (hQ : ∀ σ : kt_H, σ.2.1 ≤ 600000 → σ.2.2 ≤ 7302250 → Q (some (.int 1)) σ) : ∀ (m i : Nat) (f : FF) (a : AA) (τ : kt_H), i ≤ 4000 → n ≤ i + 7 * m + 6 → St f a τ → Ev (kL_law xs n) (18, lwL i, [], τ) Q := by
  have tm : (Int32.ofNat n - 7).toInt = (n : Int) - 7 := by
    have t7 : (7 : Int32).toInt = 7 := rfl
    have tn : (Int32.ofNat n).toInt = n := nI_toInt (by omega)
    rw [fb_subI (by omega) (by omega), tn, t7]
  have fin : ∀ (i : Nat) (f : FF) (a : AA) (τ : kt_H), St f a τ → Ev (kL_law xs n) (1512, lwL i, [], τ) Q := by
    intro i f a τ hS
    obtain ⟨hX, ⟨⟨hc, h16, hf, -⟩, -⟩, -⟩ := hS
    have e : nC (f 1) = hc := by rw [hf, nC, nI_clamp (by omega)]
    repeat refine Ev_go rfl ?_
    refine Ev_rt rfl ?_
    exact hQ τ (by rw [hX.2.2.2.1, e]; omega) (Nat.le_trans hX.2.2.2.2 (by rw [e]; omega))
  intro m
  induction m with
  | zero =>
    intro i f a τ hi hm hS
    repeat refine Ev_go rfl ?_
    refine Ev_if (fun _ => fin i f a τ hS) (fun g => absurd (by rw [fa_lt, tm, nI_toInt (by omega)]; omega) g)
  | succ m ih =>
    intro i f a τ hi hm hS
    repeat refine Ev_go rfl ?_
    refine Ev_if (fun _ => fin i f a τ hS) (fun g => ?_)
    rw [fa_lt, tm, nI_toInt (by omega)] at g
    repeat refine Ev_go rfl ?_
    refine Ev_ialS i rfl rfl (by omega) (by omega) ?_
    repeat refine Ev_go rfl ?_
    refine L_sw hn (by omega) hS (fun f2 a2 τ2 hS2 => ?_) _
    iterate 2 refine Ev_go rfl ?_
    rw [show nI i + 7 = nI (i + 7) from nI_add i 7]
    exact ih (i + 7) f2 a2 τ2 (by omega) (by omega) hS2
end LX
