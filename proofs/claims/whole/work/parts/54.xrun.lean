/-! the component: all shapes are gone through -/
/-- a spare hull -/
def Sp (σ : kt_H) (k : Nat) : Prop := ∃ (st : Int32) (g u : Nat → Int32), σ.1 (7 + 3 * k) = kt_ob (cK (nI k)) [.int (-9), .ref (8 + 3 * k), .int st, .ref (9 + 3 * k)] ∧ σ.1 (8 + 3 * k) = kt_ia 16 g ∧ σ.1 (9 + 3 * k) = kt_ia 9 u
abbrev HlS (σ : kt_H) (k n M r : Nat) : Prop := Hl σ (7 + 3 * k) (8 + 3 * k) (9 + 3 * k) (nI k) (-9) n (rW n M r) (rD n M r)
def Fp (σ τ : kt_H) (k : Nat) : Prop := τ.2 = σ.2 ∧ ∀ j, (j < 7 + 3 * k ∨ 9 + 3 * k < j) → τ.1 j = σ.1 j
def Fq (σ τ : kt_H) (k s : Nat) : Prop := τ.2 = σ.2 ∧ ∀ j, (j < 7 + 3 * k ∨ 9 + 3 * k < j) → (j < 17 ∨ 19 + 2 * s < j ∨ j = 19) → τ.1 j = σ.1 j
theorem kd_k {k : Nat} (hk : k < 3) : isKd (nI k) := by
  have : k = 0 ∨ k = 1 ∨ k = 2 := by omega
  rcases this with rfl | rfl | rfl
  · exact Or.inl rfl
  · exact Or.inr (Or.inl rfl)
  · exact Or.inr (Or.inr rfl)
theorem Nd.c {σ τ : kt_H} {nv : Nat → Int32} (h : Nd σ nv) (h4 : τ.1 4 = σ.1 4) (h5 : τ.1 5 = σ.1 5) : Nd τ nv := by
  unfold Nd at *
  rw [h4, h5]
  exact h
theorem nI_m1 (e : Nat) : nI (e + 1) + -1 = nI e := by
  rw [show nI (e + 1) + -1 = nI (e + 1) - 1 from (Int32.sub_eq_add_neg (a := nI (e + 1)) (b := 1)).symm, nI_pred]
theorem nI_nle0 {e : Nat} (h : e < 2 ^ 30) : ¬ nI (e + 1) ≤ 0 := by
  rw [fa_le, nI_toInt (by omega)]
  have t : (0 : Int32).toInt = 0 := rfl
  omega
section XU
variable {σ τ : kt_H} {Q : Option Value → kt_H → Prop} {f : FF} {a : AA} {k n M r : Nat}
theorem x_next (hk : k < 3) (hH : HlS τ k n M r) (hM : 1 ≤ M) (hM3 : M ≤ 3) (hq : ∀ τ' : kt_H, τ'.2 = τ.2 → (∀ j, j ≠ 8 + 3 * k → τ'.1 j = τ.1 j) → HlS τ' k n M (r + 1) → Q none τ') : Cs nX7_nextShape [.ref (7 + 3 * k), .int (nI M)] τ Q := by
  obtain ⟨h1, ⟨g, h2, h3⟩, ⟨u, h4⟩, h5, h6, h7, h8, h9, h10⟩ := hH
  refine x_nextShape n M r h1 h2 h7 h8 h10 hM hM3 (fun q hq => ?_) (fun g' hg' => hq _ rfl (fun j hj => kt_put_n _ _ hj) ⟨by rw [kt_put_n _ _ (by omega)]; exact h1, ⟨g', kt_put_s _ _ _, fun x hx => ?_⟩, ⟨u, by rw [kt_put_n _ _ (by omega)]; exact h4⟩, h5, h6, h7, h8, h9, h10⟩)
  · rcases Nat.mod_two_eq_zero_or_one q with e | e
    · have e2 : q = 2 * (q / 2) := by omega
      rw [e2, (h3 (q / 2) (by omega)).1, dgq_w (by omega)]
    · have e2 : q = 2 * (q / 2) + 1 := by omega
      rw [e2, (h3 (q / 2) (by omega)).2, dgq_d (by omega)]
  · exact ⟨by rw [hg' _ (by omega), dgq_w hx], by rw [hg' _ (by omega), dgq_d hx]⟩
theorem x_first (hk : k < 3) (hS : Sp σ k) (hn1 : 1 ≤ n) (hn : n ≤ 8) (hq : ∀ τ' : kt_H, τ'.2 = σ.2 → (∀ j, j ≠ 7 + 3 * k → j ≠ 8 + 3 * k → τ'.1 j = σ.1 j) → HlS τ' k n M 0 → Q (some (.int (nI (M ^ (2 * n))))) τ') : Cs nX7_firstShape [.ref (7 + 3 * k), .int (nI n), .int (nI M)] σ Q := by
  obtain ⟨st, g, u, h1, h2, h3⟩ := hS
  refine x_firstShape h1 h2 (by omega) (kd_k hk) n M hn (fun g' hg' => hq _ rfl (fun j a b => by rw [kt_put_n _ _ b, kt_put_n _ _ a]) (hlP_H h3 (by omega) (by omega) (by omega) (kd_k hk) hn1 hn (fun x hx => ?_)))
  rw [hg' _ (by omega), hg' _ (by omega), ← dgq_w hx, ← dgq_d hx, dgq_0, dgq_0]
  exact ⟨rfl, rfl⟩
theorem x_countAll (hk : k < 3) (hS : Sp σ k) (hn1 : 1 ≤ n) (hn : n ≤ 4) (hM : 1 ≤ M) (hM3 : M ≤ 3) (hN : Nd σ (a 9)) (hq : ∀ τ, Fp σ τ k → HlS τ k n M (M ^ (2 * n)) → Q (some (.int (ctI (okR a n M (nI k)) (M ^ (2 * n))))) τ) : Cs nX7_countAll [.ref 16, .ref (7 + 3 * k), .int (nI n), .int (nI M), .ref 4] σ Q := by
  have hR := pw_le hn hM3
  have lp : ∀ (e r : Nat) (τ : kt_H), r + e = M ^ (2 * n) → Fp σ τ k → HlS τ k n M r → Ev kX7_countAll (11, [some (.ref 16), some (.ref (7 + 3 * k)), some (.int (nI n)), some (.int (nI M)), some (.ref 4), some (.int (ctI (okR a n M (nI k)) r)), some (.int (nI e))], [], τ) Q := by
    intro e
    induction e with
    | zero =>
      intro r τ hr hF hH
      have e : r = M ^ (2 * n) := by omega
      subst e
      repeat refine Ev_go rfl ?_
      refine Ev_rt rfl ?_
      exact hq τ hF hH
    | succ e ih =>
      intro r τ hr hF hH
      have h1 := hH.1
      repeat refine Ev_go rfl ?_
      refine Ev_if (fun g => absurd g (nI_nle0 (by omega))) (fun _ => ?_)
      repeat refine Ev_go rfl ?_
      refine Ev_meas rfl rfl hH (fun v hv => ?_)
      have hN' : Nd (kt_put τ (9 + 3 * k) (kt_ia 9 v)) (a 9) := hN.c (by rw [kt_put_n _ _ (by omega)]; exact hF.2 4 (by omega)) (by rw [kt_put_n _ _ (by omega)]; exact hF.2 5 (by omega))
      have hF' : Fp σ (kt_put τ (9 + 3 * k) (kt_ia 9 v)) k := ⟨hF.1, fun j a => by rw [kt_put_n _ _ (by omega)]; exact hF.2 j a⟩
      have hH' := Hl.put hH v
      have hv' : (kt_put τ (9 + 3 * k) (kt_ia 9 v)).1 (9 + 3 * k) = kt_ia 9 v := kt_put_s _ _ _
      generalize kt_put τ (9 + 3 * k) (kt_ia 9 v) = τ1 at hN' hF' hH' hv' ⊢
      refine Ev_cv rfl rfl hN'.1 rfl rfl ?_
      refine x_firstBroken hH' (Bd_row hM hM3) hN' hv' (Mv.r hv) ?_
      have fin : ∀ c : Int32, c = ctI (okR a n M (nI k)) (r + 1) → Ev kX7_countAll (34, [some (.ref 16), some (.ref (7 + 3 * k)), some (.int (nI n)), some (.int (nI M)), some (.ref 4), some (.int c), some (.int (nI (e + 1)))], [], τ1) Q := by
        intro c hc
        subst hc
        repeat refine Ev_go rfl ?_
        refine Ev_ca rfl ?_
        refine x_next hk hH' hM hM3 (fun τ2 t1 t2 t3 => ?_)
        iterate 2 refine Ev_go rfl ?_
        rw [nI_m1]
        exact ih (r + 1) τ2 (by omega) ⟨t1.trans hF'.1, fun j a => by rw [t2 j (by omega)]; exact hF'.2 j a⟩ t3
      repeat refine Ev_go rfl ?_
      have fx := fx_9 (nv := a 9) (kd := nI k) (w := rW n M r) (d := rD n M r) hn1 (by omega)
      refine Ev_if (fun g => ?_) (fun g => ?_)
      · iterate 1 refine Ev_go rfl ?_
        exact fin _ (by rw [ctI, if_pos (show okR a n M (nI k) r from fx.mp g)])
      · exact fin _ (by rw [ctI, if_neg (show ¬ okR a n M (nI k) r from fun z => g (fx.mpr z)), Int32.add_zero])
  refine Cs_in (k := kX7_countAll) [some (.ref 16), some (.ref (7 + 3 * k)), some (.int (nI n)), some (.int (nI M)), some (.ref 4), none, none] rfl rfl ?_
  repeat refine Ev_go rfl ?_
  refine Ev_ca rfl ?_
  refine x_first hk hS hn1 (by omega) (fun τ t1 t2 t3 => ?_)
  iterate 1 refine Ev_go rfl ?_
  exact lp (M ^ (2 * n)) 0 τ (by omega) ⟨t1, fun j a => t2 j (by omega) (by omega)⟩ t3
theorem x_countOwing {L c : Nat} (hk : k < 3) (hS : Sp σ k) (hn1 : 1 ≤ n) (hn : n ≤ 4) (hM : 1 ≤ M) (hM3 : M ≤ 3) (hN : Nd σ (a 9)) (hL : L < 8) (hc : a 6 L = nI c) (hLR : LR σ L (a 7) c) (v : Int32) (hq : ∀ τ, Fp σ τ k → HlS τ k n M (M ^ (2 * n)) → Q (some (.int (ctI (fun r => toI (msr (nI k) n (rW n M r) (rD n M r)) a (nI L) (-9) = v ∧ okR a n M (nI k) r) (M ^ (2 * n))))) τ) : Cs nX7_countOwing [.ref 16, .ref (7 + 3 * k), .int (nI n), .int (nI M), .ref 4, .ref (38 + 10 * L), .int v] σ Q := by
  have hR := pw_le hn hM3
  have lp : ∀ (e r : Nat) (τ : kt_H) (o9 : Option Value), r + e = M ^ (2 * n) → Fp σ τ k → HlS τ k n M r → Ev kX7_countOwing (11, [some (.ref 16), some (.ref (7 + 3 * k)), some (.int (nI n)), some (.int (nI M)), some (.ref 4), some (.ref (38 + 10 * L)), some (.int v), some (.int (ctI (fun r => toI (msr (nI k) n (rW n M r) (rD n M r)) a (nI L) (-9) = v ∧ okR a n M (nI k) r) r)), some (.int (nI e)), o9], [], τ) Q := by
    intro e
    induction e with
    | zero =>
      intro r τ o9 hr hF hH
      have e : r = M ^ (2 * n) := by omega
      subst e
      repeat refine Ev_go rfl ?_
      refine Ev_rt rfl ?_
      exact hq τ hF hH
    | succ e ih =>
      intro r τ o9 hr hF hH
      have h1 := hH.1
      repeat refine Ev_go rfl ?_
      refine Ev_if (fun g => absurd g (nI_nle0 (by omega))) (fun _ => ?_)
      repeat refine Ev_go rfl ?_
      refine Ev_meas rfl rfl hH (fun u hu => ?_)
      have hN' : Nd (kt_put τ (9 + 3 * k) (kt_ia 9 u)) (a 9) := hN.c (by rw [kt_put_n _ _ (by omega)]; exact hF.2 4 (by omega)) (by rw [kt_put_n _ _ (by omega)]; exact hF.2 5 (by omega))
      have hF' : Fp σ (kt_put τ (9 + 3 * k) (kt_ia 9 u)) k := ⟨hF.1, fun j a => by rw [kt_put_n _ _ (by omega)]; exact hF.2 j a⟩
      have hH' := Hl.put hH u
      have hv' : (kt_put τ (9 + 3 * k) (kt_ia 9 u)).1 (9 + 3 * k) = kt_ia 9 u := kt_put_s _ _ _
      generalize kt_put τ (9 + 3 * k) (kt_ia 9 u) = τ1 at hN' hF' hH' hv' ⊢
      have hLR' : LR τ1 L (a 7) c := hLR.c (fun j a b => hF'.2 j (by omega))
      have hBd := Bd_row (n := n) (r := r) hM hM3
      have fin : ∀ (cc : Int32) (o9 : Option Value), cc = ctI (fun r => toI (msr (nI k) n (rW n M r) (rD n M r)) a (nI L) (-9) = v ∧ okR a n M (nI k) r) (r + 1) → Ev kX7_countOwing (51, [some (.ref 16), some (.ref (7 + 3 * k)), some (.int (nI n)), some (.int (nI M)), some (.ref 4), some (.ref (38 + 10 * L)), some (.int v), some (.int cc), some (.int (nI (e + 1))), o9], [], τ1) Q := by
        intro cc o9 hc
        subst hc
        repeat refine Ev_go rfl ?_
        refine Ev_ca rfl ?_
        refine x_next hk hH' hM hM3 (fun τ2 t1 t2 t3 => ?_)
        iterate 2 refine Ev_go rfl ?_
        rw [nI_m1]
        exact ih (r + 1) τ2 _ (by omega) ⟨t1.trans hF'.1, fun j a => by rw [t2 j (by omega)]; exact hF'.2 j a⟩ t3
      repeat refine Ev_go rfl ?_
      refine Ev_cv rfl rfl hLR'.1 rfl rfl ?_
      refine x_owed hL hc hLR' hv' hu hBd hn1 (by omega) _ (-9) lo19 ?_
      repeat refine Ev_go rfl ?_
      refine Ev_if (fun g0 => ?_) (fun g0 => ?_)
      · repeat refine Ev_go rfl ?_
        refine Ev_cv rfl rfl hN'.1 rfl rfl ?_
        refine x_firstBroken hH' hBd hN' hv' (Mv.r hu) ?_
        repeat refine Ev_go rfl ?_
        have fx := fx_9 (nv := a 9) (kd := nI k) (w := rW n M r) (d := rD n M r) hn1 (by omega)
        refine Ev_if (fun g => ?_) (fun g => ?_)
        · iterate 1 refine Ev_go rfl ?_
          exact fin _ _ (by rw [ctI, if_pos ⟨g0, fx.mp g⟩])
        · exact fin _ _ (by rw [ctI, if_neg (fun z => g (fx.mpr z.2)), Int32.add_zero])
      · exact fin _ _ (by rw [ctI, if_neg (fun z => g0 z.1), Int32.add_zero])
  refine Cs_in (k := kX7_countOwing) [some (.ref 16), some (.ref (7 + 3 * k)), some (.int (nI n)), some (.int (nI M)), some (.ref 4), some (.ref (38 + 10 * L)), some (.int v), none, none, none] rfl rfl ?_
  repeat refine Ev_go rfl ?_
  refine Ev_ca rfl ?_
  refine x_first hk hS hn1 (by omega) (fun τ t1 t2 t3 => ?_)
  iterate 1 refine Ev_go rfl ?_
  exact lp (M ^ (2 * n)) 0 τ _ (by omega) ⟨t1, fun j a => t2 j (by omega) (by omega)⟩ t3
end XU
section XI
variable {σ : kt_H} {Q : Option Value → kt_H → Prop} {f : FF} {a : AA} {k n M s : Nat} {lv : Nat → Value} {lo l but : Nat → Int32}
theorem x_run (hI : Inv f a) (hk : k < 3) (hS : Sp σ k) (hn1 : 1 ≤ n) (hn : n ≤ 4) (hM : 1 ≤ M) (hM3 : M ≤ 3) (hs : s ≤ 8) (hN : Nd σ (a 9)) (h16 : σ.1 16 = kt_ob 7 [.ref 17, .ref 19, .int (nI s)]) (h19 : ∃ g, σ.1 19 = kt_ra 4 8 g ∧ ∀ b, b < 8 → g b = some (20 + 2 * b)) (hl : ∀ b, b < s → isW f (l b) ∨ l b = -9) (hK : ∀ b, b < s → Lk σ a (lv b) (lo b) (l b) (but b)) (hB0 : Bt σ a n M (nI k) 17 .null (-1) (-9) (-9) 0) (hBs : ∀ b, b < s → Bt σ a n M (nI k) (20 + 2 * b) (lv b) (lo b) (l b) (but b) 0)
    (hq : ∀ τ, Fq σ τ k s → HlS τ k n M (M ^ (2 * n)) → Bt τ a n M (nI k) 17 .null (-1) (-9) (-9) (M ^ (2 * n)) → (∀ b, b < s → Bt τ a n M (nI k) (20 + 2 * b) (lv b) (lo b) (l b) (but b) (M ^ (2 * n))) → Q none τ) : Cs nX7_run [.ref 16, .ref (7 + 3 * k), .int (nI n), .int (nI M), .ref 4] σ Q := by
  have hR := pw_le hn hM3
  obtain ⟨gb, h19, hgb⟩ := h19
  have lp : ∀ (e r : Nat) (τ : kt_H) (o6 o7 o8 : Option Value), r + e = M ^ (2 * n) → Fq σ τ k s → HlS τ k n M r → Bt τ a n M (nI k) 17 .null (-1) (-9) (-9) r → (∀ b, b < s → Bt τ a n M (nI k) (20 + 2 * b) (lv b) (lo b) (l b) (but b) r) → Ev kX7_run (8, [some (.ref 16), some (.ref (7 + 3 * k)), some (.int (nI n)), some (.int (nI M)), some (.ref 4), some (.int (nI e)), o6, o7, o8], [], τ) Q := by
    intro e
    induction e with
    | zero =>
      intro r τ o6 o7 o8 hr hF hH b0 bs
      have e : r = M ^ (2 * n) := by omega
      subst e
      repeat refine Ev_go rfl ?_
      refine Ev_rt rfl ?_
      exact hq τ hF hH b0 bs
    | succ e ih =>
      intro r τ o6 o7 o8 hr hF hH b0 bs
      have h1 := hH.1
      repeat refine Ev_go rfl ?_
      refine Ev_if (fun g => absurd g (nI_nle0 (by omega))) (fun _ => ?_)
      repeat refine Ev_go rfl ?_
      refine Ev_meas rfl rfl hH (fun u hu => ?_)
      have hN' : Nd (kt_put τ (9 + 3 * k) (kt_ia 9 u)) (a 9) := hN.c (by rw [kt_put_n _ _ (by omega)]; exact hF.2 4 (by omega) (by omega)) (by rw [kt_put_n _ _ (by omega)]; exact hF.2 5 (by omega) (by omega))
      have hF' : Fq σ (kt_put τ (9 + 3 * k) (kt_ia 9 u)) k s := ⟨hF.1, fun j a b => by rw [kt_put_n _ _ (by omega)]; exact hF.2 j a b⟩
      have hH' := Hl.put hH u
      have b0' : Bt (kt_put τ (9 + 3 * k) (kt_ia 9 u)) a n M (nI k) 17 .null (-1) (-9) (-9) r := b0.c (kt_put_n _ _ (by omega)) (kt_put_n _ _ (by omega))
      have bs' : ∀ b, b < s → Bt (kt_put τ (9 + 3 * k) (kt_ia 9 u)) a n M (nI k) (20 + 2 * b) (lv b) (lo b) (l b) (but b) r := fun b hb => (bs b hb).c (kt_put_n _ _ (by omega)) (kt_put_n _ _ (by omega))
      have hv' : (kt_put τ (9 + 3 * k) (kt_ia 9 u)).1 (9 + 3 * k) = kt_ia 9 u := kt_put_s _ _ _
      generalize kt_put τ (9 + 3 * k) (kt_ia 9 u) = τ1 at hN' hF' hH' hv' b0' bs' ⊢
      have hBd := Bd_row (n := n) (r := r) hM hM3
      have s93 : ∀ (τ2 : kt_H) (o6 o7 o8 : Option Value), Fq σ τ2 k s → HlS τ2 k n M r → Bt τ2 a n M (nI k) 17 .null (-1) (-9) (-9) (r + 1) → (∀ b, b < s → Bt τ2 a n M (nI k) (20 + 2 * b) (lv b) (lo b) (l b) (but b) (r + 1)) → Ev kX7_run (93, [some (.ref 16), some (.ref (7 + 3 * k)), some (.int (nI n)), some (.int (nI M)), some (.ref 4), some (.int (nI (e + 1))), o6, o7, o8], [], τ2) Q := by
        intro τ2 o6 o7 o8 q1 q2 q3 q4
        repeat refine Ev_go rfl ?_
        refine Ev_ca rfl ?_
        refine x_next hk q2 hM hM3 (fun τ3 t1 t2 t3 => ?_)
        iterate 2 refine Ev_go rfl ?_
        rw [nI_m1]
        exact ih (r + 1) τ3 _ _ _ (by omega) ⟨t1.trans q1.1, fun j a b => by rw [t2 j (by omega)]; exact q1.2 j a b⟩ t3 (q3.c (t2 _ (by omega)) (t2 _ (by omega))) (fun b hb => (q4 b hb).c (t2 _ (by omega)) (t2 _ (by omega)))
      repeat refine Ev_go rfl ?_
      refine Ev_cv rfl rfl hN'.1 rfl rfl ?_
      refine x_firstBroken hH' hBd hN' hv' (Mv.r hu) ?_
      have fx := fx_9 (nv := a 9) (kd := nI k) (w := rW n M r) (d := rD n M r) hn1 (by omega)
      repeat refine Ev_go rfl ?_
      refine Ev_if (fun g => ?_) (fun g => s93 τ1 _ _ _ hF' hH' (b0'.skip (fun z => g (fx.mpr z))) (fun b hb => (bs' b hb).skip (fun z => g (fx.mpr z))))
      have ok : okR a n M (nI k) r := fx.mp g
      obtain ⟨n4, ⟨gn, n5, n5g⟩, -⟩ := id hN'
      (repeat first | refine Ev_go rfl ?_ | refine Ev_gf rfl (n4) rfl rfl ?_ )
      refine Ev_ial 5 rfl n5 rfl (by decide) (by decide) ?_
      rw [n5g 5 (by decide)]
      refine Ev_cv rfl rfl n4 rfl rfl ?_
      refine x_freeWorth hN' hv' _ ?_
      rw [show a 9 5 * u 8 - a 9 4 * (u 3 + 2 * u 6) = vlR a n M (nI k) (-9) (-9) r from fw_eq hu _]
      have c16 : ∀ τ2, Fq σ τ2 k s → τ2.1 16 = kt_ob 7 [.ref 17, .ref 19, .int (nI s)] := fun τ2 q => by rw [q.2 16 (by omega) (by omega)]; exact h16
      have d16 := c16 τ1 hF'
      (repeat first | refine Ev_go rfl ?_ | refine Ev_gf rfl (d16) rfl rfl ?_ )
      obtain ⟨x1, x2, x3, x4, x5, hb0, -⟩ := id b0'
      refine Ev_cv rfl rfl hb0 rfl rfl ?_
      have Lk0 : Lk τ1 a .null (-1) (-9) (-9) := Or.inl ⟨rfl, rfl⟩
      refine x_weigh hI hn1 hn hM hM3 (by omega) hH' hv' hu ok (Or.inr rfl) Lk0 b0' (by omega) (by omega) (by omega) (by omega) (fun τ2 t1 t2 t3 => ?_)
      have li : ∀ (c b : Nat) (τ2 : kt_H), b + c = s → Fq σ τ2 k s → HlS τ2 k n M r → τ2.1 (9 + 3 * k) = kt_ia 9 u → Bt τ2 a n M (nI k) 17 .null (-1) (-9) (-9) (r + 1) → (∀ b', b' < b → Bt τ2 a n M (nI k) (20 + 2 * b') (lv b') (lo b') (l b') (but b') (r + 1)) → (∀ b', b ≤ b' → b' < s → Bt τ2 a n M (nI k) (20 + 2 * b') (lv b') (lo b') (l b') (but b') r) → Ev kX7_run (63, [some (.ref 16), some (.ref (7 + 3 * k)), some (.int (nI n)), some (.int (nI M)), some (.ref 4), some (.int (nI (e + 1))), some (.ref (9 + 3 * k)), some (.int (vlR a n M (nI k) (-9) (-9) r)), some (.int (nI b))], [], τ2) Q := by
        intro c
        induction c with
        | zero =>
          intro b τ2 hb q1 q2 q3 q4 q5 q6
          have d := c16 τ2 q1
          have e : b = s := by omega
          subst e
          (repeat first | refine Ev_go rfl ?_ | refine Ev_gf rfl (d) rfl rfl ?_ )
          exact Ev_if (fun _ => s93 τ2 _ _ _ q1 q2 q4 q5) (fun g1 => absurd (nI_le (Nat.le_refl _) (by omega)) g1)
        | succ c ihc =>
          intro b τ2 hb q1 q2 q3 q4 q5 q6
          have d := c16 τ2 q1
          (repeat first | refine Ev_go rfl ?_ | refine Ev_gf rfl (d) rfl rfl ?_ )
          refine Ev_if (fun g1 => absurd g1 (nI_ge (by omega) (by omega))) (fun _ => ?_)
          (repeat first | refine Ev_go rfl ?_ | refine Ev_gf rfl (d) rfl rfl ?_ )
          refine Ev_aal b rfl (by rw [q1.2 19 (by omega) (by omega)]; exact h19) rfl rfl (by omega) (by decide) ?_
          rw [hgb b (by omega)]
          repeat refine Ev_go rfl ?_
          have qb := q6 b (Nat.le_refl _) (by omega)
          obtain ⟨y1, y2, y3, y4, y5, hbb, -⟩ := id qb
          refine Ev_cv rfl rfl hbb rfl rfl ?_
          refine x_weigh hI hn1 hn hM hM3 (by omega) q2 q3 hu ok (hl b (by omega)) ((hK b (by omega)).c (fun j a1 a2 => q1.2 j (by omega) (by omega))) qb (by omega) (by omega) (by omega) (by omega) (fun τ3 u1 u2 u3 => ?_)
          iterate 2 refine Ev_go rfl ?_
          rw [nI_1]
          refine ihc (b + 1) τ3 (by omega) ⟨u1.trans q1.1, fun j a1 a2 => by rw [u2 j (by omega) (by omega)]; exact q1.2 j a1 a2⟩ ?_ (by rw [u2 _ (by omega) (by omega)]; exact q3) (q4.c (u2 _ (by omega) (by omega)) (u2 _ (by omega) (by omega))) (fun b' hb' => ?_) (fun b' h1 h2 => (q6 b' (by omega) h2).c (u2 _ (by omega) (by omega)) (u2 _ (by omega) (by omega)))
          · obtain ⟨z1, z2, z3, z4⟩ := q2
            exact ⟨by rw [u2 _ (by omega) (by omega)]; exact z1, by rw [u2 _ (by omega) (by omega)]; exact z2, by rw [u2 _ (by omega) (by omega)]; exact z3, z4⟩
          · by_cases e : b' = b
            · subst e; exact u3
            · exact (q5 b' (by omega)).c (u2 _ (by omega) (by omega)) (u2 _ (by omega) (by omega))
      iterate 2 refine Ev_go rfl ?_
      refine li s 0 τ2 (by omega) ⟨t1.trans hF'.1, fun j a1 a2 => by rw [t2 j (by omega) (by omega)]; exact hF'.2 j a1 a2⟩ ?_ (by rw [t2 _ (by omega) (by omega)]; exact hv') t3 (fun b' hb' => absurd hb' (Nat.not_lt_zero b')) (fun b' h1 h2 => (bs' b' h2).c (t2 _ (by omega) (by omega)) (t2 _ (by omega) (by omega)))
      obtain ⟨z1, z2, z3, z4⟩ := hH'
      exact ⟨by rw [t2 _ (by omega) (by omega)]; exact z1, by rw [t2 _ (by omega) (by omega)]; exact z2, by rw [t2 _ (by omega) (by omega)]; exact z3, z4⟩
  refine Cs_in (k := kX7_run) [some (.ref 16), some (.ref (7 + 3 * k)), some (.int (nI n)), some (.int (nI M)), some (.ref 4), none, none, none, none] rfl rfl ?_
  repeat refine Ev_go rfl ?_
  refine Ev_ca rfl ?_
  refine x_first hk hS hn1 (by omega) (fun τ t1 t2 t3 => ?_)
  iterate 1 refine Ev_go rfl ?_
  exact lp (M ^ (2 * n)) 0 τ _ _ _ (by omega) ⟨t1, fun j a b => t2 j (by omega) (by omega)⟩ t3 (hB0.c (t2 _ (by omega) (by omega)) (t2 _ (by omega) (by omega))) (fun b hb => (hBs b hb).c (t2 _ (by omega) (by omega)) (t2 _ (by omega) (by omega)))
end XI
