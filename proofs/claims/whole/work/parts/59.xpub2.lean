/-! the component: worth, risk, trim, routes -/
section XP2
variable {f : FF} {a : AA} {σ : kt_H} {Q : Option Value → kt_H → Prop}
theorem nL_or {l : Int32} (h : isW f l ∨ l = -9) : ¬ nL f l := fun z => h.elim z.1 z.2
theorem X_worth (hI : Inv f a) (hX : Xr f a σ) (h l : Int32) (hq : ∀ τ, Sr σ τ → Q (some (.long (sp_worth f a h l))) τ) : Cs nX11_worth [.ref 0, .int h, .int l] σ Q := by
  have c0 := hX.c0
  unfold sp_worth at hq
  refine Cs_in (k := kX11_worth) [some (.ref 0), some (.int h), some (.int l), none] rfl rfl ?_
  repeat refine Ev_go rfl ?_
  refine Ev_cv rfl rfl c0 rfl rfl ?_
  refine x_hullAt hI hX h (fun hh h' a1 a2 a3 a4 => ?_) (fun hh => ?_)
  rotate_left
  · rw [if_pos (Or.inl hh)] at hq
    repeat refine Ev_go rfl ?_
    refine Ev_rt rfl ?_
    exact hq σ Sr.rf
  repeat refine Ev_go rfl ?_
  refine Ev_cv rfl rfl c0 rfl rfl ?_
  refine x_isLawOrNone hI hX l (fun hl => ?_) (fun hl => ?_)
  rotate_left
  · rw [if_pos (Or.inr hl)] at hq
    repeat refine Ev_go rfl ?_
    refine Ev_rt rfl ?_
    exact hq σ Sr.rf
  obtain ⟨-, n, n1, n8, ha, hc, hH, hB⟩ := hX.h hI a1
  rw [if_neg (fun z => z.elim (fun y => y hh) (nL_or hl)), a4, hc] at hq
  repeat refine Ev_go rfl ?_
  refine Ev_meas rfl rfl hH (fun v hv => ?_)
  have hS : Sr σ (kt_put σ (153 + 3 * h') (kt_ia 9 v)) := Sr.rf.meas (by omega) hH.2.2.1
  have hm : (kt_put σ (153 + 3 * h') (kt_ia 9 v)).1 (153 + 3 * h') = kt_ia 9 v := kt_put_s _ _ _
  generalize kt_put σ (153 + 3 * h') (kt_ia 9 v) = τ at hS hm ⊢
  have hX1 := hX.s hS
  have d0 := hX1.c0
  have hN := hX1.nd hI
  obtain ⟨n4, ⟨gn, n5, n5g⟩, -⟩ := id hN
  repeat refine Ev_go rfl ?_
  refine Ev_cv rfl rfl d0 rfl rfl ?_
  refine x_lawK hI hX1 l hl (fun lv hK => ?_)
  (repeat first | refine Ev_go rfl ?_ | refine Ev_gf rfl (d0) rfl rfl ?_ | refine Ev_gf rfl (n4) rfl rfl ?_ )
  refine Ev_ial 5 rfl n5 rfl (by decide) (by decide) ?_
  rw [n5g 5 (by decide)]
  refine Ev_cv rfl rfl d0 rfl rfl ?_
  refine x_worthBy d0 hN hm hv hB n1 n8 hK _ ?_
  repeat refine Ev_go rfl ?_
  refine Ev_rt rfl ?_
  exact hq τ hS
theorem X_risk (hI : Inv f a) (hX : Xr f a σ) (h which : Int32) (hq : ∀ τ, Sr σ τ → Q (some (.long (sp_risk f a h which))) τ) : Cs nX11_risk [.ref 0, .int h, .int which] σ Q := by
  have c0 := hX.c0
  obtain ⟨t0, t1, -⟩ := t01
  unfold sp_risk at hq
  refine Cs_in (k := kX11_risk) [some (.ref 0), some (.int h), some (.int which), none, none, none, none] rfl rfl ?_
  repeat refine Ev_go rfl ?_
  refine Ev_cv rfl rfl c0 rfl rfl ?_
  refine x_hullAt hI hX h (fun hh h' a1 a2 a3 a4 => ?_) (fun hh => ?_)
  rotate_left
  · rw [if_pos (Or.inl hh)] at hq
    repeat refine Ev_go rfl ?_
    refine Ev_rt rfl ?_
    exact hq σ Sr.rf
  have out : ¬ (0 ≤ which.toInt ∧ which.toInt ≤ 1) → Ev kX11_risk (19, [some (.ref 0), some (.int h), some (.int which), some (.ref (151 + 3 * h')), none, none, none], [], σ) Q := by
    intro z
    rw [if_pos (Or.inr z)] at hq
    repeat refine Ev_go rfl ?_
    refine Ev_rt rfl ?_
    exact hq σ Sr.rf
  repeat refine Ev_go rfl ?_
  refine Ev_if (fun z => out (fun y => by rw [fa_lt] at z; omega)) (fun z1 => ?_)
  repeat refine Ev_go rfl ?_
  refine Ev_if (fun z2 => ?_) (fun z2 => out (fun y => by rw [fa_le] at z2; omega))
  rw [fa_lt] at z1
  rw [fa_le] at z2
  obtain ⟨-, n, n1, n8, ha, hc, hH, hB⟩ := hX.h hI a1
  have ho := hH.1
  have hkd := hH.2.2.2.2.2.2.1
  rw [if_neg (fun z => z.elim (fun y => y hh) (fun y => y ⟨by omega, by omega⟩)), a4, hc] at hq
  repeat refine Ev_go rfl ?_
  refine Ev_cv rfl rfl ho (cK_1 hkd 13) rfl ?_
  refine x_drowned hH hB ?_
  have hle := drN_le (w := hW a h') (d := hD a h') (n := n) (fun x hx => (hB x hx).2.2)
  generalize drN (hW a h') (hD a h') n = D at hle hq ⊢
  repeat refine Ev_go rfl ?_
  refine Ev_gf rfl ho (cK_m hkd) rfl ?_
  repeat refine Ev_go rfl ?_
  rw [show 9 * nI n = nI (9 * n) from by rw [fa_lit 9, pk_mul]]
  refine Ev_ca rfl ?_
  refine x_commonDivisor D (9 * n) (by omega) (by omega) ?_
  have gp : 0 < Nat.gcd D (9 * n) := Nat.gcd_pos_of_pos_right _ (by omega)
  have gl : Nat.gcd D (9 * n) ≤ 9 * n := Nat.le_of_dvd (by omega) (Nat.gcd_dvd_right _ _)
  generalize Nat.gcd D (9 * n) = G at gp gl hq ⊢
  have gne : nI G ≠ 0 := fun e => by have := (nI_0iff (by omega)).mp e; omega
  have d1 : D / G ≤ D := Nat.div_le_self _ _
  have d2 : 9 * n / G ≤ 9 * n := Nat.div_le_self _ _
  repeat refine Ev_go rfl ?_
  refine Ev_if (fun _ => ?_) (fun z => absurd (by rw [fa_le, nI_toInt (by omega), t1]; omega) z)
  repeat refine Ev_go rfl ?_
  refine Ev_if (fun z => ?_) (fun z => ?_)
  · rw [if_pos z] at hq
    repeat refine Ev_go rfl ?_
    refine Ev_div rfl gne ?_
    rw [pk_div (by omega) gp (by omega)]
    repeat refine Ev_go rfl ?_
    rw [nI_l (by omega)]
    refine Ev_rt rfl ?_
    exact hq σ Sr.rf
  · rw [if_neg z] at hq
    repeat refine Ev_go rfl ?_
    refine Ev_div rfl gne ?_
    rw [pk_div (by omega) gp (by omega)]
    repeat refine Ev_go rfl ?_
    rw [nI_l (by omega)]
    refine Ev_rt rfl ?_
    exact hq σ Sr.rf
theorem isF_5 {x : Int32} : (loO (nI 5) ≤ x.toInt ∧ x.toInt ≤ (grO (nI 5)).toInt) ↔ isF x := Iff.rfl
theorem X_route (hI : Inv f a) (hX : Xr f a σ) (fr l : Int32) (hq : ∀ τ, Sr σ τ → Q (some (.int (sp_route f a fr l))) τ) : Cs nX11_route [.ref 0, .int fr, .int l] σ Q := by
  have c0 := hX.c0
  have hN := hX.nd hI
  unfold sp_route at hq
  refine Cs_in (k := kX11_route) [some (.ref 0), some (.int fr), some (.int l)] rfl rfl ?_
  repeat refine Ev_go rfl ?_
  refine Ev_cv rfl rfl c0 rfl rfl ?_
  refine x_isLawOrNone hI hX l (fun hl => ?_) (fun hl => ?_)
  rotate_left
  · rw [if_pos hl] at hq
    repeat refine Ev_go rfl ?_
    refine Ev_rt rfl ?_
    exact hq σ Sr.rf
  rw [if_neg (nL_or hl)] at hq
  (repeat first | refine Ev_go rfl ?_ | refine Ev_gf rfl (c0) rfl rfl ?_ )
  refine Ev_cv rfl rfl hN.1 rfl rfl ?_
  refine x_allows 5 (by decide) fr ?_
  repeat refine Ev_go rfl ?_
  refine Ev_ifb (fun z => ?_) (fun z => ?_)
  · rw [if_neg (fun y => z (isF_5.mpr y))] at hq
    repeat refine Ev_go rfl ?_
    refine Ev_rt rfl ?_
    exact hq σ Sr.rf
  · rw [if_pos (isF_5.mp z)] at hq
    repeat refine Ev_go rfl ?_
    refine Ev_cv rfl rfl c0 rfl rfl ?_
    refine x_lawK hI hX l hl (fun lv hK => ?_)
    refine Ev_cv rfl rfl c0 rfl rfl ?_
    refine x_hullThatGoes hI hX fr l hK (fun τ hS => ?_)
    repeat refine Ev_go rfl ?_
    refine Ev_rt rfl ?_
    exact hq τ hS
theorem X_paid (hI : Inv f a) (hX : Xr f a σ) (fr l : Int32) (hq : ∀ τ, Sr σ τ → Q (some (.int (sp_paid f a fr l))) τ) : Cs nX11_paid [.ref 0, .int fr, .int l] σ Q := by
  have c0 := hX.c0
  have hN := hX.nd hI
  unfold sp_paid at hq
  refine Cs_in (k := kX11_paid) [some (.ref 0), some (.int fr), some (.int l), none, none, none, none] rfl rfl ?_
  repeat refine Ev_go rfl ?_
  refine Ev_cv rfl rfl c0 rfl rfl ?_
  refine x_lawAt hI hX l (fun hl L b1 b2 b3 b4 => ?_) (fun hl => ?_)
  rotate_left
  · rw [if_pos hl] at hq
    repeat refine Ev_go rfl ?_
    refine Ev_rt rfl ?_
    exact hq σ Sr.rf
  rw [if_neg (fun z => z hl)] at hq
  obtain ⟨-, c, k1, k2, k3, k4, hL⟩ := hX.l hI b1
  (repeat first | refine Ev_go rfl ?_ | refine Ev_gf rfl (c0) rfl rfl ?_ )
  refine Ev_cv rfl rfl hN.1 rfl rfl ?_
  refine x_allows 5 (by decide) fr ?_
  repeat refine Ev_go rfl ?_
  refine Ev_ifb (fun z => ?_) (fun z => ?_)
  · rw [if_pos (fun y => z (isF_5.mpr y))] at hq
    repeat refine Ev_go rfl ?_
    refine Ev_rt rfl ?_
    exact hq σ Sr.rf
  have z := isF_5.mp z
  rw [if_neg (fun y => y z)] at hq
  obtain ⟨F, f1, f2, f3⟩ := nI_ex (x := fr) 99 z
  subst f3
  rw [show nC (nI F) = F from nI_clamp (by omega)] at hq
  iterate 4 refine Ev_go rfl ?_
  have lp : ∀ (e x : Nat) (τ : kt_H) (o6 : Option Value), x + e = F → Sr σ τ → Ev kX11_paid (33, [some (.ref 0), some (.int (nI F)), some (.int l), some (.ref (38 + 10 * L)), some (.int (pdI a l (nC (f 1)) x)), some (.int (nI (x + 1))), o6], [], τ) Q := by
    intro e
    induction e with
    | zero =>
      intro x τ o6 hx hS
      have e : x = F := by omega
      repeat refine Ev_go rfl ?_
      refine Ev_if (fun _ => ?_) (fun g1 => absurd (nI_lt (by omega) (by omega)) g1)
      repeat refine Ev_go rfl ?_
      refine Ev_rt rfl ?_
      rw [e]
      exact hq τ hS
    | succ e ih =>
      intro x τ o6 hx hS
      have hX1 := hX.s hS
      have d0 := hX1.c0
      repeat refine Ev_go rfl ?_
      refine Ev_if (fun g1 => absurd g1 (by rw [fa_lt, nI_toInt (by omega), nI_toInt (by omega)]; omega)) (fun _ => ?_)
      repeat refine Ev_go rfl ?_
      refine Ev_cv rfl rfl d0 rfl rfl ?_
      have hK : Lk τ a (.ref (38 + 10 * L)) (-1) l (-9) := Or.inr ⟨L, c, b2, b3, rfl, k1, hL.c (fun j a b => hS.hi (by omega)), lo19⟩
      refine x_hullThatGoes hI hX1 (nI (x + 1)) l hK (fun τ1 hS1 => ?_)
      have hS2 := hS.tr hS1
      have hX2 := hX.s hS2
      have e0 := hX2.c0
      have fin : ∀ (s : Int32) (τ2 : kt_H) (o6 : Option Value), s = pdI a l (nC (f 1)) (x + 1) → Sr σ τ2 → Ev kX11_paid (72, [some (.ref 0), some (.int (nI F)), some (.int l), some (.ref (38 + 10 * L)), some (.int s), some (.int (nI (x + 1))), o6], [], τ2) Q := by
        intro s τ2 o6 hs hS3
        subst hs
        iterate 2 refine Ev_go rfl ?_
        rw [nI_1]
        exact ih (x + 1) τ2 _ (by omega) hS3
      have ep : pdI a l (nC (f 1)) (x + 1) = pdI a l (nC (f 1)) x + (if (gfI a (nI (x + 1)) l (nC (f 1))).1 < 0 then 0 else toI (hM a (nC (gfI a (nI (x + 1)) l (nC (f 1))).1)) a l (-9)) := rfl
      have gc := gfI_c a (nI (x + 1)) l (nC (f 1))
      generalize (gfI a (nI (x + 1)) l (nC (f 1))).1 = G at ep gc ⊢
      refine Ev_cv rfl rfl e0 rfl rfl ?_
      refine x_hullAt hI hX2 G (fun hh h' a1 a2 a3 a4 => ?_) (fun hh => ?_)
      · obtain ⟨-, n, n1, n8, ha, hc, hH, hB⟩ := hX2.h hI a1
        rw [if_neg (by rw [a3]; exact nI_pos (by omega)), a4] at ep
        unfold hM at ep
        rw [hc] at ep
        repeat refine Ev_go rfl ?_
        refine Ev_meas rfl rfl hH (fun v hv => ?_)
        have hS3 : Sr σ (kt_put τ1 (153 + 3 * h') (kt_ia 9 v)) := hS2.meas (by omega) hH.2.2.1
        have hm : (kt_put τ1 (153 + 3 * h') (kt_ia 9 v)).1 (153 + 3 * h') = kt_ia 9 v := kt_put_s _ _ _
        generalize kt_put τ1 (153 + 3 * h') (kt_ia 9 v) = τ3 at hS3 hm ⊢
        have hL3 : LR τ3 L (a 7) c := hL.c (fun j a b => hS3.hi (by omega))
        repeat refine Ev_go rfl ?_
        refine Ev_cv rfl rfl hL3.1 rfl rfl ?_
        refine x_owed b2 k1 hL3 hm hv hB n1 n8 _ (-9) lo19 ?_
        iterate 2 refine Ev_go rfl ?_
        exact fin _ τ3 _ (by rw [ep, b3]) hS3
      · have g0 : G < 0 := by
          rcases gc with e | ⟨q, q1, e⟩
          · rw [e]; decide
          · refine absurd ?_ hh
            obtain ⟨⟨hc, h16, hf, -⟩, -⟩ := id hI
            rw [hf, nC, nI_clamp (by omega)] at q1
            unfold isH
            rw [e, hf, nI_toInt (by omega), nI_toInt (by omega)]
            omega
        rw [if_pos g0, Int32.add_zero] at ep
        iterate 3 refine Ev_go rfl ?_
        exact fin _ τ1 _ ep.symm hS2
  exact lp F 0 σ _ (by omega) Sr.rf
theorem X_trim (hI : Inv f a) (hX : Xr f a σ) (h l what : Int32) (hq : ∀ τ, Sr σ τ → Q (some (.int (sp_trim f a h l what))) τ) : Cs nX11_trim [.ref 0, .int h, .int l, .int what] σ Q := by
  have c0 := hX.c0
  obtain ⟨t0, t1, -⟩ := t01
  unfold sp_trim at hq
  refine Cs_in (k := kX11_trim) [some (.ref 0), some (.int h), some (.int l), some (.int what), none, none, none, none, none] rfl rfl ?_
  repeat refine Ev_go rfl ?_
  refine Ev_cv rfl rfl c0 rfl rfl ?_
  refine x_hullAt hI hX h (fun hh h' a1 a2 a3 a4 => ?_) (fun hh => ?_)
  rotate_left
  · rw [if_pos (Or.inl hh)] at hq
    repeat refine Ev_go rfl ?_
    refine Ev_cv rfl rfl c0 rfl rfl ?_
    refine x_lawAt hI hX l (fun hl l' b1 b2 b3 b4 => ?_) (fun hl => ?_)
    · repeat refine Ev_go rfl ?_
      refine Ev_rt rfl ?_
      exact hq σ Sr.rf
    · repeat refine Ev_go rfl ?_
      refine Ev_rt rfl ?_
      exact hq σ Sr.rf
  repeat refine Ev_go rfl ?_
  refine Ev_cv rfl rfl c0 rfl rfl ?_
  refine x_lawAt hI hX l (fun hl L b1 b2 b3 b4 => ?_) (fun hl => ?_)
  rotate_left
  · rw [if_pos (Or.inr hl)] at hq
    repeat refine Ev_go rfl ?_
    refine Ev_rt rfl ?_
    exact hq σ Sr.rf
  obtain ⟨-, n, n1, n8, ha, hc, hH, hB⟩ := hX.h hI a1
  obtain ⟨-, c, k1, k2, k3, k4, hL⟩ := hX.l hI b1
  rw [if_neg (fun z => z.elim (fun y => y hh) (fun y => y hl)), a4] at hq
  have out : ¬ (0 ≤ what.toInt ∧ what.toInt ≤ 1) → Ev kX11_trim (35, [some (.ref 0), some (.int h), some (.int l), some (.int what), some (.ref (151 + 3 * h')), some (.ref (38 + 10 * L)), none, none, none], [], σ) Q := by
    intro z
    rw [if_pos z] at hq
    repeat refine Ev_go rfl ?_
    refine Ev_rt rfl ?_
    exact hq σ Sr.rf
  repeat refine Ev_go rfl ?_
  refine Ev_if (fun z => out (fun y => by rw [fa_lt] at z; omega)) (fun z1 => ?_)
  repeat refine Ev_go rfl ?_
  refine Ev_if (fun z2 => ?_) (fun z2 => out (fun y => by rw [fa_le] at z2; omega))
  rw [fa_lt] at z1
  rw [fa_le] at z2
  rw [if_neg (fun z => z ⟨by omega, by omega⟩)] at hq
  unfold hM hR at hq
  rw [hc, b3] at hq
  have ho := hH.1
  have hkd := hH.2.2.2.2.2.2.1
  obtain ⟨k, kk, ek⟩ := kd_n hkd
  obtain ⟨g6, c6, g6g⟩ := hX.c6
  obtain ⟨st, gp, um, s1, s2, s3⟩ := hX.sp kk
  rw [← ek] at s1
  (repeat first | refine Ev_go rfl ?_ | refine Ev_gf rfl (c0) rfl rfl ?_ )
  refine Ev_kind rfl rfl ho hkd ?_
  refine Ev_aal k rfl c6 rfl ek kk (by decide) ?_
  rw [g6g k kk]
  repeat refine Ev_go rfl ?_
  refine Ev_cv rfl rfl s1 (cK_1 hkd 11) rfl ?_
  refine x_takeTurned s1 s2 (by omega) hkd hH (by omega) (by omega) (by omega) (by omega) (fun g' hg' => ?_)
  have hSp := hlP_H (o := 7 + 3 * k) (p := 8 + 3 * k) (num := -9) (w := fun x => hW a h' (n - 1 - x)) (d := fun x => hD a h' (n - 1 - x)) s3 (by omega) (by omega) (by omega) hkd n1 n8 hg'
  have hS : Sr σ (hlP σ (7 + 3 * k) (8 + 3 * k) (9 + 3 * k) (a 0 h') (-9) n g') := (Sr.rf.put (by omega) (by rw [ek]; exact Ck_7 kk _)).put (by omega) (Ck_8 kk _)
  generalize hlP σ (7 + 3 * k) (8 + 3 * k) (9 + 3 * k) (a 0 h') (-9) n g' = τ at hSp hS ⊢
  have hX1 := hX.s hS
  obtain ⟨-, n', n1', n8', ha', hc', hH1, -⟩ := hX1.h hI a1
  have en : n' = n := by rw [← hc', hc]
  subst en
  repeat refine Ev_go rfl ?_
  refine Ev_meas rfl rfl hH1 (fun v hv => ?_)
  have hS1 : Sr σ (kt_put τ (153 + 3 * h') (kt_ia 9 v)) := hS.meas (by omega) hH1.2.2.1
  have hm : (kt_put τ (153 + 3 * h') (kt_ia 9 v)).1 (153 + 3 * h') = kt_ia 9 v := kt_put_s _ _ _
  have hSp1 : Hl (kt_put τ (153 + 3 * h') (kt_ia 9 v)) (7 + 3 * k) (8 + 3 * k) (9 + 3 * k) (a 0 h') (-9) n' (fun x => hW a h' (n' - 1 - x)) (fun x => hD a h' (n' - 1 - x)) := by
    obtain ⟨q1, ⟨gg, q2, q2'⟩, ⟨uu, q3⟩, q4⟩ := hSp
    exact ⟨by rw [kt_put_n _ _ (by omega)]; exact q1, ⟨gg, by rw [kt_put_n _ _ (by omega)]; exact q2, q2'⟩, ⟨uu, by rw [kt_put_n _ _ (by omega)]; exact q3⟩, q4⟩
  generalize kt_put τ (153 + 3 * h') (kt_ia 9 v) = τ1 at hS1 hm hSp1 ⊢
  have hL1 : LR τ1 L (a 7) c := hL.c (fun j a b => hS1.hi (by omega))
  repeat refine Ev_go rfl ?_
  refine Ev_cv rfl rfl hL1.1 rfl rfl ?_
  refine x_owed b2 k1 hL1 hm hv hB n1 n8 _ (-9) lo19 ?_
  repeat refine Ev_go rfl ?_
  refine Ev_meas rfl rfl hSp1 (fun v2 hv2 => ?_)
  have hS2 : Sr σ (kt_put τ1 (9 + 3 * k) (kt_ia 9 v2)) := hS1.put (by omega) (Ck_9 kk _)
  have hm2 : (kt_put τ1 (9 + 3 * k) (kt_ia 9 v2)).1 (9 + 3 * k) = kt_ia 9 v2 := kt_put_s _ _ _
  generalize kt_put τ1 (9 + 3 * k) (kt_ia 9 v2) = τ2 at hS2 hm2 ⊢
  have hL2 : LR τ2 L (a 7) c := hL.c (fun j a b => hS2.hi (by omega))
  have hB2 : Bd n' (fun x => hW a h' (n' - 1 - x)) (fun x => hD a h' (n' - 1 - x)) := fun x hx => hB (n' - 1 - x) (by omega)
  repeat refine Ev_go rfl ?_
  refine Ev_cv rfl rfl hL2.1 rfl rfl ?_
  refine x_owed b2 k1 hL2 hm2 hv2 hB2 n1 n8 _ (-9) lo19 ?_
  generalize toI (msr (a 0 h') n' (hW a h') (hD a h')) a (nI L) (-9) = A at hq ⊢
  generalize toI (msr (a 0 h') n' (fun x => hW a h' (n' - 1 - x)) (fun x => hD a h' (n' - 1 - x))) a (nI L) (-9) = B at hq ⊢
  repeat refine Ev_go rfl ?_
  refine Ev_if (fun z => ?_) (fun z => ?_)
  · rw [if_neg (by rw [z]; decide)] at hq
    repeat refine Ev_go rfl ?_
    refine Ev_rt rfl ?_
    exact hq τ2 hS2
  · have e1 : what = 1 := by
      rw [fa_eq, t1]
      have : ¬ what.toInt = 0 := fun e => z (by rw [fa_eq, t0]; exact e)
      omega
    rw [if_pos e1] at hq
    repeat refine Ev_go rfl ?_
    refine Ev_if (fun z3 => ?_) (fun z3 => ?_)
    · rw [if_neg (by rw [fa_lt]; rw [fa_le] at z3; omega)] at hq
      repeat refine Ev_go rfl ?_
      refine Ev_rt rfl ?_
      exact hq τ2 hS2
    · rw [if_pos (by rw [fa_lt]; rw [fa_le] at z3; omega)] at hq
      repeat refine Ev_go rfl ?_
      refine Ev_rt rfl ?_
      exact hq τ2 hS2
end XP2
