/-! the component: the calls that change nothing -/
theorem sw_3 (x y z u : Nat) (w : Int32) : kt_sw 0 2 [x, y, z] u w = if w = 0 then x else if w = 1 then y else if w = 2 then z else u := by
  by_cases h : 0 ≤ w.toInt ∧ w.toInt ≤ 2
  · obtain ⟨j, a1, a2, rfl⟩ := nI_ex 2 h
    have : j = 0 ∨ j = 1 ∨ j = 2 := by omega
    rcases this with rfl | rfl | rfl <;> rfl
  · unfold kt_sw
    rw [if_pos (by omega)]
    have ne : ∀ y : Int32, 0 ≤ y.toInt → y.toInt ≤ 2 → ¬ w = y := fun y h1 h2 e => h (by rw [e]; exact ⟨h1, h2⟩)
    rw [if_neg (ne 0 (by decide) (by decide)), if_neg (ne 1 (by decide) (by decide)), if_neg (ne 2 (by decide) (by decide))]
theorem cK_1 {kd : Int32} (h : isKd kd) (y : Nat) : kt_look (cK kd) [(2, y), (1, y), (6, y)] = some y := by
  rcases h with e | e | e <;> subst e <;> rfl
theorem kd_n {kd : Int32} (h : isKd kd) : ∃ k : Nat, k < 3 ∧ kd = nI k := by
  rcases h with e | e | e
  · exact ⟨0, by decide, e⟩
  · exact ⟨1, by decide, e⟩
  · exact ⟨2, by decide, e⟩
theorem t01 : (0 : Int32).toInt = 0 ∧ (1 : Int32).toInt = 1 ∧ (2 : Int32).toInt = 2 ∧ (3 : Int32).toInt = 3 ∧ (8 : Int32).toInt = 8 ∧ (9 : Int32).toInt = 9 ∧ (10 : Int32).toInt = 10 := ⟨rfl, rfl, rfl, rfl, rfl, rfl, rfl⟩
section XP
variable {f : FF} {a : AA} {σ : kt_H} {Q : Option Value → kt_H → Prop}
theorem X_ofHull (hI : Inv f a) (hX : Xr f a σ) (h what : Int32) (hq : ∀ τ, Sr σ τ → Q (some (.int (sp_ofHull f a h what))) τ) : Cs nX11_ofHull [.ref 0, .int h, .int what] σ Q := by
  have c0 := hX.c0
  obtain ⟨t0, t1, t2, t3, t8, t9, t10⟩ := t01
  unfold sp_ofHull at hq
  refine Cs_in (k := kX11_ofHull) [some (.ref 0), some (.int h), some (.int what), none, none] rfl rfl ?_
  repeat refine Ev_go rfl ?_
  refine Ev_cv rfl rfl c0 rfl rfl ?_
  refine x_hullAt hI hX h (fun hh h' a1 a2 a3 a4 => ?_) (fun hh => ?_)
  rotate_left
  · rw [if_pos hh] at hq
    repeat refine Ev_go rfl ?_
    refine Ev_rt rfl ?_
    exact hq σ Sr.rf
  obtain ⟨-, n, n1, n8, ha, hc, hH, hB⟩ := hX.h hI a1
  have ho := hH.1
  rw [if_neg (fun z => z hh), a4, hc] at hq
  have out : ¬ (0 ≤ what.toInt ∧ what.toInt ≤ 10) → Ev kX11_ofHull (22, [some (.ref 0), some (.int h), some (.int what), some (.ref (151 + 3 * h')), none], [], σ) Q := by
    intro z
    rw [if_pos z] at hq
    repeat refine Ev_go rfl ?_
    refine Ev_rt rfl ?_
    exact hq σ Sr.rf
  repeat refine Ev_go rfl ?_
  refine Ev_if (fun z => out (fun y => by rw [fa_lt] at z; omega)) (fun z1 => ?_)
  repeat refine Ev_go rfl ?_
  refine Ev_if (fun z2 => ?_) (fun z2 => out (fun y => by rw [fa_le] at z2; omega))
  rw [fa_lt] at z1
  rw [fa_le] at z2
  rw [if_neg (fun z => z ⟨by omega, by omega⟩)] at hq
  repeat refine Ev_go rfl ?_
  refine Ev_if (fun z3 => ?_) (fun z3 => ?_)
  · subst z3
    rw [if_neg (by omega), if_neg (by decide), if_neg (by decide)] at hq
    repeat refine Ev_go rfl ?_
    refine Ev_kind rfl rfl ho hH.2.2.2.2.2.2.1 ?_
    refine Ev_rt rfl ?_
    exact hq σ Sr.rf
  · repeat refine Ev_go rfl ?_
    refine Ev_meas rfl rfl hH (fun v hv => ?_)
    have hS : Sr σ (kt_put σ (153 + 3 * h') (kt_ia 9 v)) := Sr.rf.meas (by omega) hH.2.2.1
    have hm : (kt_put σ (153 + 3 * h') (kt_ia 9 v)).1 (153 + 3 * h') = kt_ia 9 v := kt_put_s _ _ _
    generalize kt_put σ (153 + 3 * h') (kt_ia 9 v) = τ at hS hm ⊢
    have d0 := (hX.s hS).c0
    have hN := (hX.s hS).nd hI
    repeat refine Ev_go rfl ?_
    refine Ev_if (fun z4 => ?_) (fun z4 => ?_)
    · subst z4
      rw [if_neg (by omega), if_neg (by decide), if_pos rfl] at hq
      (repeat first | refine Ev_go rfl ?_ | refine Ev_gf rfl (d0) rfl rfl ?_ )
      refine Ev_cv rfl rfl hN.1 rfl rfl ?_
      refine x_costOf hN hm ?_
      rw [Mv.m hv (q := 3) (by decide), Mv.m hv (q := 6) (by decide)]
      repeat refine Ev_go rfl ?_
      refine Ev_rt rfl ?_
      exact hq τ hS
    · have w8 : what.toInt ≤ 8 := by
        have e9 : ¬ what.toInt = 9 := fun e => z4 (by rw [fa_eq]; omega)
        have e10 : ¬ what.toInt = 10 := fun e => z3 (by rw [fa_eq]; omega)
        omega
      obtain ⟨j, j1, j2, j3⟩ := nI_ex (x := what) (A := 0) 8 ⟨by omega, w8⟩
      subst j3
      rw [nC, nI_clamp (by omega)] at hq
      repeat refine Ev_go rfl ?_
      refine Ev_ial j rfl hm rfl (by omega) (by decide) ?_
      refine Ev_rt rfl ?_
      rw [hv j (by omega)]
      unfold msX
      by_cases e : j < 8
      · rw [if_pos (by omega)] at hq
        rw [if_pos e]
        exact hq τ hS
      · have e8 : j = 8 := by omega
        subst e8
        rw [if_neg (by omega), if_pos (show nI 8 = 8 from rfl)] at hq
        rw [if_neg e]
        exact hq τ hS
theorem X_station (hI : Inv f a) (hX : Xr f a σ) (h k what : Int32) (hq : ∀ τ, Sr σ τ → Q (some (.int (sp_station f a h k what))) τ) : Cs nX11_station [.ref 0, .int h, .int k, .int what] σ Q := by
  have c0 := hX.c0
  obtain ⟨t0, t1, -⟩ := t01
  unfold sp_station at hq
  refine Cs_in (k := kX11_station) [some (.ref 0), some (.int h), some (.int k), some (.int what), none] rfl rfl ?_
  repeat refine Ev_go rfl ?_
  refine Ev_cv rfl rfl c0 rfl rfl ?_
  refine x_hullAt hI hX h (fun hh h' a1 a2 a3 a4 => ?_) (fun hh => ?_)
  rotate_left
  · rw [if_pos (fun z => hh z.1)] at hq
    repeat refine Ev_go rfl ?_
    refine Ev_rt rfl ?_
    exact hq σ Sr.rf
  obtain ⟨-, n, n1, n8, ha, hc, hH, hB⟩ := hX.h hI a1
  obtain ⟨ho, ⟨g, hp, hg⟩, -, -, -, -, hkd, -⟩ := hH
  have tn := nI_toInt (n := n) (by omega)
  unfold isS at hq
  rw [a4, ha, tn] at hq
  repeat refine Ev_go rfl ?_
  refine Ev_cv rfl rfl ho (cK_1 hkd 9) rfl ?_
  refine x_hasStation ho hkd n8 k ?_
  repeat refine Ev_go rfl ?_
  refine Ev_ifb (fun z => ?_) (fun z => ?_)
  · rw [if_pos (fun y => z y.2)] at hq
    repeat refine Ev_go rfl ?_
    refine Ev_rt rfl ?_
    exact hq σ Sr.rf
  · rw [if_neg (fun y => y ⟨hh, z⟩)] at hq
    obtain ⟨k', k1, k2, k3⟩ := nI_ex (x := k) 7 z
    subst k3
    rw [nC, nI_clamp (by omega)] at hq
    have out : ¬ what = 0 → ¬ what = 1 → Ev kX11_station (32, [some (.ref 0), some (.int h), some (.int (nI k')), some (.int what), some (.ref (151 + 3 * h'))], [], σ) Q := by
      intro z0 z1
      rw [if_neg z0, if_neg z1] at hq
      repeat refine Ev_go rfl ?_
      refine Ev_rt rfl ?_
      exact hq σ Sr.rf
    repeat refine Ev_go rfl ?_
    refine Ev_if (fun y => out (fun e => by rw [e] at y; exact absurd y (by decide)) (fun e => by rw [e] at y; exact absurd y (by decide))) (fun y1 => ?_)
    repeat refine Ev_go rfl ?_
    refine Ev_if (fun y2 => ?_) (fun y => out (fun e => by rw [e] at y; exact y (by decide)) (fun e => by rw [e] at y; exact y (by decide)))
    rw [fa_lt] at y1
    rw [fa_le] at y2
    obtain ⟨w', w1, w2, w3⟩ := nI_ex (x := what) (A := 0) (B := 1) 1 ⟨by omega, by omega⟩
    subst w3
    repeat refine Ev_go rfl ?_
    refine Ev_gf rfl ho (cK_m hkd) rfl ?_
    repeat refine Ev_go rfl ?_
    refine Ev_ial (2 * k' + w') rfl hp (by rw [fa_lit 2, pk_mul, nI_add]) (by omega) (by decide) ?_
    refine Ev_rt rfl ?_
    have : w' = 0 ∨ w' = 1 := by omega
    rcases this with rfl | rfl
    · rw [if_pos (show nI 0 = 0 from rfl)] at hq
      rw [show 2 * k' + 0 = 2 * k' from rfl, (hg k' (by omega)).1]
      exact hq σ Sr.rf
    · rw [if_neg (by decide), if_pos (show nI 1 = 1 from rfl)] at hq
      rw [(hg k' (by omega)).2]
      exact hq σ Sr.rf
theorem X_words (hI : Inv f a) (hX : Xr f a σ) (l : Int32) (hq : ∀ τ, Sr σ τ → Q (some (.int (sp_words f a l))) τ) : Cs nX11_words [.ref 0, .int l] σ Q := by
  have c0 := hX.c0
  unfold sp_words at hq
  refine Cs_in (k := kX11_words) [some (.ref 0), some (.int l), none] rfl rfl ?_
  repeat refine Ev_go rfl ?_
  refine Ev_cv rfl rfl c0 rfl rfl ?_
  refine x_lawAt hI hX l (fun hh l' a1 a2 a3 a4 => ?_) (fun hh => ?_)
  · obtain ⟨-, c, k1, k2, k3, k4, hL⟩ := hX.l hI a1
    have l1 := hL.1
    rw [if_neg (fun z => z hh), a4, k1] at hq
    (repeat first | refine Ev_go rfl ?_ | refine Ev_gf rfl (l1) rfl rfl ?_ )
    refine Ev_rt rfl ?_
    exact hq σ Sr.rf
  · rw [if_pos hh] at hq
    repeat refine Ev_go rfl ?_
    refine Ev_rt rfl ?_
    exact hq σ Sr.rf
theorem X_owes (hI : Inv f a) (hX : Xr f a σ) (h l : Int32) (hq : ∀ τ, Sr σ τ → Q (some (.int (sp_owes f a h l))) τ) : Cs nX11_owes [.ref 0, .int h, .int l] σ Q := by
  have c0 := hX.c0
  unfold sp_owes at hq
  refine Cs_in (k := kX11_owes) [some (.ref 0), some (.int h), some (.int l), none, none] rfl rfl ?_
  repeat refine Ev_go rfl ?_
  refine Ev_cv rfl rfl c0 rfl rfl ?_
  refine x_hullAt hI hX h (fun hh h' a1 a2 a3 a4 => ?_) (fun hh => ?_)
  · repeat refine Ev_go rfl ?_
    refine Ev_cv rfl rfl c0 rfl rfl ?_
    refine x_lawAt hI hX l (fun hl l' b1 b2 b3 b4 => ?_) (fun hl => ?_)
    · obtain ⟨-, n, n1, n8, ha, hc, hH, hB⟩ := hX.h hI a1
      obtain ⟨-, c, k1, k2, k3, k4, hL⟩ := hX.l hI b1
      rw [if_neg (fun z => z.elim (fun y => y hh) (fun y => y hl)), a4, b3] at hq
      unfold hM at hq
      rw [hc] at hq
      repeat refine Ev_go rfl ?_
      refine Ev_meas rfl rfl hH (fun v hv => ?_)
      have hS : Sr σ (kt_put σ (153 + 3 * h') (kt_ia 9 v)) := Sr.rf.meas (by omega) hH.2.2.1
      have hm : (kt_put σ (153 + 3 * h') (kt_ia 9 v)).1 (153 + 3 * h') = kt_ia 9 v := kt_put_s _ _ _
      generalize kt_put σ (153 + 3 * h') (kt_ia 9 v) = τ at hS hm ⊢
      have hL1 : LR τ l' (a 7) c := hL.c (fun j a b => hS.hi (by omega))
      repeat refine Ev_go rfl ?_
      refine Ev_cv rfl rfl hL1.1 rfl rfl ?_
      refine x_owed b2 k1 hL1 hm hv hB n1 n8 _ _ lo19 ?_
      refine Ev_rt rfl ?_
      exact hq τ hS
    · rw [if_pos (Or.inr hl)] at hq
      repeat refine Ev_go rfl ?_
      refine Ev_rt rfl ?_
      exact hq σ Sr.rf
  · rw [if_pos (Or.inl hh)] at hq
    repeat refine Ev_go rfl ?_
    refine Ev_cv rfl rfl c0 rfl rfl ?_
    refine x_lawAt hI hX l (fun hl l' b1 b2 b3 b4 => ?_) (fun hl => ?_)
    · repeat refine Ev_go rfl ?_
      refine Ev_rt rfl ?_
      exact hq σ Sr.rf
    · repeat refine Ev_go rfl ?_
      refine Ev_rt rfl ?_
      exact hq σ Sr.rf
theorem X_word (hI : Inv f a) (hX : Xr f a σ) (h l w : Int32) (hq : ∀ τ, Sr σ τ → Q (some (.int (sp_word f a h l w))) τ) : Cs nX11_word [.ref 0, .int h, .int l, .int w] σ Q := by
  have c0 := hX.c0
  unfold sp_word at hq
  refine Cs_in (k := kX11_word) [some (.ref 0), some (.int h), some (.int l), some (.int w), none, none] rfl rfl ?_
  repeat refine Ev_go rfl ?_
  refine Ev_cv rfl rfl c0 rfl rfl ?_
  refine x_hullAt hI hX h (fun hh h' a1 a2 a3 a4 => ?_) (fun hh => ?_)
  · repeat refine Ev_go rfl ?_
    refine Ev_cv rfl rfl c0 rfl rfl ?_
    refine x_lawAt hI hX l (fun hl l' b1 b2 b3 b4 => ?_) (fun hl => ?_)
    · obtain ⟨-, n, n1, n8, ha, hc, hH, hB⟩ := hX.h hI a1
      obtain ⟨-, c, k1, k2, k3, k4, hL⟩ := hX.l hI b1
      have tc := nI_toInt (n := c) (by omega)
      rw [b4, k1, tc] at hq
      repeat refine Ev_go rfl ?_
      refine Ev_cv rfl rfl hL.1 rfl rfl ?_
      refine x_hasWord hL.1 k4 w ?_
      repeat refine Ev_go rfl ?_
      refine Ev_ifb (fun z => ?_) (fun z => ?_)
      · rw [if_pos (Or.inr (Or.inr z))] at hq
        repeat refine Ev_go rfl ?_
        refine Ev_rt rfl ?_
        exact hq σ Sr.rf
      · rw [if_neg (fun y => y.elim (fun y => y hh) (fun y => y.elim (fun y => y hl) (fun y => y z))), a4] at hq
        unfold hM at hq
        rw [hc] at hq
        obtain ⟨w', w1, w2, w3⟩ := nI_ex (x := w) 3 z
        subst w3
        rw [nC, nI_clamp (by omega)] at hq
        obtain ⟨L1, ⟨gl, L2, L3⟩, L4, L5⟩ := id hL
        (repeat first | refine Ev_go rfl ?_ | refine Ev_gf rfl (L1) rfl rfl ?_ )
        refine Ev_aal w' rfl L2 rfl rfl (by omega) (by decide) ?_
        rw [L3 w' (by omega)]
        repeat refine Ev_go rfl ?_
        refine Ev_meas rfl rfl hH (fun v hv => ?_)
        have hS : Sr σ (kt_put σ (153 + 3 * h') (kt_ia 9 v)) := Sr.rf.meas (by omega) hH.2.2.1
        have hm : (kt_put σ (153 + 3 * h') (kt_ia 9 v)).1 (153 + 3 * h') = kt_ia 9 v := kt_put_s _ _ _
        generalize kt_put σ (153 + 3 * h') (kt_ia 9 v) = τ at hS hm ⊢
        have hW : WR τ (40 + 10 * l' + 2 * w') (a 7) (20 * l' + 5 * w') := (L5 w' (by omega)).c (hS.hi (by omega)) (hS.hi (by omega))
        obtain ⟨x1, x2, x3, x4, x5, x6, x7, x8, ok⟩ := id hW
        refine Ev_cv rfl rfl x4 rfl rfl ?_
        refine x_makes hW hm (Mv.u hv hB n1 n8) ?_
        rw [wvI_u (fun q hq => Mv.m hv hq) ok]
        refine Ev_rt rfl ?_
        exact hq τ hS
    · rw [if_pos (Or.inr (Or.inl hl))] at hq
      repeat refine Ev_go rfl ?_
      refine Ev_rt rfl ?_
      exact hq σ Sr.rf
  · rw [if_pos (Or.inl hh)] at hq
    repeat refine Ev_go rfl ?_
    refine Ev_cv rfl rfl c0 rfl rfl ?_
    refine x_lawAt hI hX l (fun hl l' b1 b2 b3 b4 => ?_) (fun hl => ?_)
    · repeat refine Ev_go rfl ?_
      refine Ev_rt rfl ?_
      exact hq σ Sr.rf
    · repeat refine Ev_go rfl ?_
      refine Ev_rt rfl ?_
      exact hq σ Sr.rf
theorem X_broken (hI : Inv f a) (hX : Xr f a σ) (h what : Int32) (hq : ∀ τ, Sr σ τ → Q (some (.int (sp_broken f a h what))) τ) : Cs nX11_broken [.ref 0, .int h, .int what] σ Q := by
  have c0 := hX.c0
  obtain ⟨t0, t1, -⟩ := t01
  unfold sp_broken at hq
  refine Cs_in (k := kX11_broken) [some (.ref 0), some (.int h), some (.int what), none, none] rfl rfl ?_
  repeat refine Ev_go rfl ?_
  refine Ev_cv rfl rfl c0 rfl rfl ?_
  refine x_hullAt hI hX h (fun hh h' a1 a2 a3 a4 => ?_) (fun hh => ?_)
  rotate_left
  · rw [if_pos hh] at hq
    repeat refine Ev_go rfl ?_
    refine Ev_rt rfl ?_
    exact hq σ Sr.rf
  obtain ⟨-, n, n1, n8, ha, hc, hH, hB⟩ := hX.h hI a1
  rw [if_neg (fun z => z hh), a4, hc] at hq
  have out : ¬ (0 ≤ what.toInt ∧ what.toInt ≤ 1) → Ev kX11_broken (21, [some (.ref 0), some (.int h), some (.int what), some (.ref (151 + 3 * h')), none], [], σ) Q := by
    intro z
    rw [if_pos z] at hq
    repeat refine Ev_go rfl ?_
    refine Ev_rt rfl ?_
    exact hq σ Sr.rf
  repeat refine Ev_go rfl ?_
  refine Ev_if (fun z => out (fun y => by rw [fa_lt] at z; omega)) (fun z1 => ?_)
  repeat refine Ev_go rfl ?_
  refine Ev_if (fun z2 => ?_) (fun z2 => out (fun y => by rw [fa_le] at z2; omega))
  rw [fa_lt] at z1
  rw [fa_le] at z2
  rw [if_neg (fun z => z ⟨by omega, by omega⟩)] at hq
  (repeat first | refine Ev_go rfl ?_ | refine Ev_gf rfl (c0) rfl rfl ?_ )
  refine Ev_meas rfl rfl hH (fun v hv => ?_)
  have hS : Sr σ (kt_put σ (153 + 3 * h') (kt_ia 9 v)) := Sr.rf.meas (by omega) hH.2.2.1
  have hm : (kt_put σ (153 + 3 * h') (kt_ia 9 v)).1 (153 + 3 * h') = kt_ia 9 v := kt_put_s _ _ _
  have hH1 := hH.put v
  generalize kt_put σ (153 + 3 * h') (kt_ia 9 v) = τ at hS hm hH1 ⊢
  have hN := (hX.s hS).nd hI
  refine Ev_cv rfl rfl hN.1 rfl rfl ?_
  refine x_firstBroken hH1 hB hN hm (Mv.r hv) ?_
  rcases fx_c (nv := a 9) (kd := a 0 h') (w := hW a h') (d := hD a h') n1 n8 with ⟨g1, g2⟩ | ⟨q, y, g1, g2, g3, g4, g5⟩
  · rw [if_pos (Or.inr g1)] at hq
    have e9 : fbI (a 9) (a 0 h') n (hW a h') (hD a h') = -9 := by
      rcases fbI_c (a 9) (a 0 h') n (hW a h') (hD a h') with e | ⟨q, q1, e⟩
      · exact e
      · rw [e] at g1; exact absurd g1 (nI_pos (by omega))
    rw [e9] at hq
    rw [g2]
    repeat refine Ev_go rfl ?_
    refine Ev_rt rfl ?_
    exact hq τ hS
  · rw [g3, nC, nI_clamp (by omega), g4] at hq
    rw [g5]
    repeat refine Ev_go rfl ?_
    refine Ev_if (fun z => absurd z (nI_ne9 (by omega))) (fun _ => ?_)
    repeat refine Ev_go rfl ?_
    refine Ev_if (fun z => ?_) (fun z => ?_)
    · rw [if_pos (Or.inl z)] at hq
      repeat refine Ev_go rfl ?_
      rw [show nI (8 * q + y) / 8 = nI ((8 * q + y) / 8) from pk_div (d := 8) (by omega) (by decide) (by decide), show (8 * q + y) / 8 = q by omega]
      repeat refine Ev_go rfl ?_
      refine Ev_rt rfl ?_
      exact hq τ hS
    · rw [if_neg (fun y => y.elim z (nI_pos (by omega)))] at hq
      repeat refine Ev_go rfl ?_
      rw [show nI (8 * q + y) - nI (8 * q + y) / 8 * 8 = nI ((8 * q + y) % 8) from pk_rem (d := 8) (by omega) (by decide) (by decide), show (8 * q + y) % 8 = y by omega]
      refine Ev_rt rfl ?_
      exact hq τ hS
theorem X_trace (hX : Xr f a σ) (hq : ∀ τ, Sr σ τ → Q (some (.int (f 23))) τ) : Cs nX11_trace [.ref 0] σ Q := by
  have c0 := hX.c0
  have c37 := hX.c37
  refine Cs_in (k := kX11_trace) [some (.ref 0)] rfl rfl ?_
  (repeat first | refine Ev_go rfl ?_ | refine Ev_gf rfl (c0) rfl rfl ?_ | refine Ev_gf rfl (c37) rfl rfl ?_ )
  refine Ev_rt rfl ?_
  exact hq σ Sr.rf
theorem X_fault (hX : Xr f a σ) (hq : ∀ τ, Sr σ τ → Q (some (.int (f 0))) τ) : Cs nX11_fault [.ref 0] σ Q := by
  have c0 := hX.c0
  refine Cs_in (k := kX11_fault) [some (.ref 0)] rfl rfl ?_
  (repeat first | refine Ev_go rfl ?_ | refine Ev_gf rfl (c0) rfl rfl ?_ )
  refine Ev_rt rfl ?_
  exact hq σ Sr.rf
theorem X_many (hI : Inv f a) (hX : Xr f a σ) (what : Int32) (hq : ∀ τ, Sr σ τ → Q (some (.int (sp_many f a what))) τ) : Cs nX11_many [.ref 0, .int what] σ Q := by
  have c0 := hX.c0
  unfold sp_many at hq
  refine Cs_in (k := kX11_many) [some (.ref 0), some (.int what)] rfl rfl ?_
  repeat refine Ev_go rfl ?_
  rw [sw_3]
  refine Ev_if (fun z => ?_) (fun z => ?_)
  · rw [if_pos z] at hq
    (repeat first | refine Ev_go rfl ?_ | refine Ev_gf rfl (c0) rfl rfl ?_ )
    refine Ev_rt rfl ?_
    exact hq σ Sr.rf
  rw [if_neg z] at hq
  refine Ev_if (fun z => ?_) (fun z => ?_)
  · rw [if_pos z] at hq
    (repeat first | refine Ev_go rfl ?_ | refine Ev_gf rfl (c0) rfl rfl ?_ )
    refine Ev_rt rfl ?_
    exact hq σ Sr.rf
  rw [if_neg z] at hq
  refine Ev_if (fun z => ?_) (fun z => ?_)
  rotate_left
  · rw [if_neg z] at hq
    repeat refine Ev_go rfl ?_
    refine Ev_rt rfl ?_
    exact hq σ Sr.rf
  rw [if_pos z] at hq
  repeat refine Ev_go rfl ?_
  refine Ev_cv rfl rfl c0 rfl rfl ?_
  have hlc : nC (f 10) ≤ 8 ∧ f 10 = nI (nC (f 10)) := by
    obtain ⟨-, ⟨lc, h8, hf, -⟩, -⟩ := hI
    rw [hf, nC, nI_clamp (by omega)]
    exact ⟨h8, rfl⟩
  obtain ⟨g2, c2, cg⟩ := hX.c2
  have lp : ∀ (e x : Nat), x + e = nC (f 10) → Ev kX11_wordsOfAll (4, [some (.ref 0), some (.int (smI (a 6) x)), some (.int (nI x))], [], σ) (fun v τ => Ev kX11_many (42, [some (.ref 0), some (.int what)], kt_push v [], τ) Q) := by
    intro e
    induction e with
    | zero =>
      intro x hx
      have e : x = nC (f 10) := by omega
      (repeat first | refine Ev_go rfl ?_ | refine Ev_gf rfl (c0) rfl rfl ?_ )
      refine Ev_if (fun _ => ?_) (fun g1 => absurd (by rw [hlc.2]; exact nI_le (by omega) (by omega)) g1)
      repeat refine Ev_go rfl ?_
      refine Ev_rt rfl ?_
      refine Ev_rt rfl ?_
      rw [e]
      exact hq σ Sr.rf
    | succ e ih =>
      intro x hx
      obtain ⟨-, c, k1, k2, k3, k4, hL⟩ := hX.l hI (l := x) (by omega)
      have l1 := hL.1
      (repeat first | refine Ev_go rfl ?_ | refine Ev_gf rfl (c0) rfl rfl ?_ )
      refine Ev_if (fun g1 => absurd g1 (by rw [hlc.2]; exact nI_ge (by omega) (by omega))) (fun _ => ?_)
      (repeat first | refine Ev_go rfl ?_ | refine Ev_gf rfl (c0) rfl rfl ?_ )
      refine Ev_aal x rfl c2 rfl rfl (by omega) (by decide) ?_
      rw [cg x (by omega)]
      refine Ev_gf rfl l1 rfl rfl ?_
      iterate 4 refine Ev_go rfl ?_
      rw [nI_1]
      have hh := ih (x + 1) (by omega)
      rw [smI, k1] at hh
      exact hh
  refine Cs_in (k := kX11_wordsOfAll) [some (.ref 0), none, none] rfl rfl ?_
  iterate 4 refine Ev_go rfl ?_
  exact lp (nC (f 10)) 0 (by omega)
end XP
