/-! the component: a law is told -/
theorem WR.t {σ : kt_H} {o : Nat} {t t' : Nat → Int32} {b : Nat} (h : WR σ o t b) (e : ∀ q, q < 5 → t' (b + q) = t (b + q)) : WR σ o t' b := by
  have e0 : t' b = t b := e 0 (by decide)
  have e1 := e 1 (by decide)
  have e2 := e 2 (by decide)
  have e3 := e 3 (by decide)
  have e4 := e 4 (by decide)
  obtain ⟨num, cnt, g, h1, h2, h3, h4, h5, h6, h7, h8⟩ := h
  refine ⟨num, cnt, g, by rw [e3, e4]; exact h1, h2, h3, h4, fun u => by rw [e0, e1, e2]; exact h5 u, fun q hq => by rw [e q (by omega)]; exact h6 q hq, by rw [e3]; exact h7, by rw [e4]; exact h8⟩
theorem LR.t {σ : kt_H} {l : Nat} {t t' : Nat → Int32} {n : Nat} (h : LR σ l t n) (e : ∀ z, 20 * l ≤ z → z < 20 * l + 20 → t' z = t z) : LR σ l t' n := by
  obtain ⟨h1, h2, h3, h4⟩ := h
  exact ⟨h1, h2, h3, fun w hw => (h4 w hw).t (fun q hq => e _ (by omega) (by omega))⟩
section XZ3
variable {f : FF} {a : AA} {σ τ : kt_H} {Q : Option Value → kt_H → Prop}
theorem Lr.xk {l s i n : Nat} {p ff cn : Int32} {k : Nat} {W : WW} (h : Lr σ τ l s i n p ff cn k W) (hl : l < 9) {f' : FF} {a' : AA} (hX : Xr f a σ) (hv : ∀ j, Cv f a j (σ.1 j) → Cv f' a' j (σ.1 j)) : (∀ j, Ck j (τ.1 j)) ∧ ∀ j, Cv f' a' j (τ.1 j) := by
  obtain ⟨h1, h2, h3, h4, h5, h6, h7⟩ := h
  refine ⟨fun j => ?_, fun j => ?_⟩
  · by_cases e : j = 36
    · subst e; rw [h3]; exact Ck_36 _ _ _ _ _
    · by_cases e2 : j < 38 + 10 * l ∨ 48 + 10 * l ≤ j
      · rw [h2 j e e2]; exact hX.1 j
      · exact Ck_hi _ (by omega)
  · by_cases e : j = 36
    · exact Cv_s _ (by omega)
    · by_cases e2 : j < 38 + 10 * l ∨ 48 + 10 * l ≤ j
      · rw [h2 j e e2]; exact hv j (hX.2.1 j)
      · refine ⟨by omega, by omega, by omega, by omega, fun k hk => ⟨by omega, by omega⟩, fun h hh => ⟨by omega, by omega, by omega⟩⟩
theorem Lr.lf {l s i n : Nat} {p ff cn : Int32} {k : Nat} {W : WW} (h : Lr σ τ l s i n p ff cn k W) : Lf τ l := ⟨⟨cn, h.2.2.2.1⟩, h.2.2.2.2.1, h.2.2.2.2.2.1⟩
theorem Lr.xr {l s i n : Nat} {p ff cn : Int32} {k : Nat} {W : WW} (h : Lr σ τ l s i n p ff cn k W) (hl : l < 9) (hX : Xr f a σ) (hlc : nC (f 10) = l) : Xr f a τ := by
  obtain ⟨x1, x2⟩ := h.xk hl hX (fun j hc => hc)
  have hf := h.lf
  obtain ⟨h1, h2, -⟩ := h
  refine ⟨x1, x2, fun l2 hl2 => ?_, by rw [h1]; exact hX.2.2.2.1, by rw [h1]; exact hX.2.2.2.2⟩
  by_cases e : l2 = l
  · subst e
    exact ⟨fun z => by omega, fun _ => hf⟩
  · exact (hX.2.2.1 l2 hl2).c (fun j a b => h2 j (by omega) (by omega))
theorem Lr.un {l s i n : Nat} {p ff cn : Int32} {k : Nat} {W : WW} (h : Lr σ τ l s i n p ff cn k W) (hl : l < 9) : Un σ τ := fun j a b => h.2.1 j (by omega) (by omega)
theorem X_law (hI : Inv f a) (hX : Xr f a σ) (k lane i n : Int32) (hq : ∀ τ, Xr (sp_law f a k lane i n).2.1 (sp_law f a k lane i n).2.2 τ → Un σ τ → Q (some (.int (sp_law f a k lane i n).1)) τ) : Cs nX11_law [.ref 0, .int k, .int lane, .int i, .int n] σ Q := by
  have c0 := hX.c0
  unfold sp_law at hq
  refine Cs_in (k := kX11_law) [some (.ref 0), some (.int k), some (.int lane), some (.int i), some (.int n), none, none, none] rfl rfl ?_
  repeat refine Ev_go rfl ?_
  refine Ev_pf rfl c0 rfl rfl rfl ?_
  have hU : Un σ (kt_put σ 0 (k0 (va_up f 0 0))) := Un.rf.put _ (by omega)
  have hX0 := hX.f0 0
  refine Ev_h (τ := kt_put σ 0 (k0 (va_up f 0 0))) rfl ?_
  generalize kt_put σ 0 (k0 (va_up f 0 0)) = σ0 at hU hX0 ⊢
  have d0 := hX0.c0
  have flt : ∀ x : Int32, Xr (va_up f 0 x) a (kt_put σ0 0 (k0 (va_up f 0 x))) := fun x => by
    have h := hX0.f0 x
    rw [va_up_uu] at h
    exact h
  repeat refine Ev_go rfl ?_
  refine Ev_cv rfl rfl d0 rfl rfl ?_
  refine x_sheetAt hX0 k (fun hk k' k1 k2 k3 => ?_) (fun hk => ?_)
  rotate_left
  · rw [if_pos hk] at hq
    repeat refine Ev_go rfl ?_
    refine Ev_rt rfl ?_
    exact hq σ0 hX0 hU
  rw [if_neg (fun z => z hk), k3] at hq
  repeat refine Ev_go rfl ?_
  refine Ev_ca rfl ?_
  refine x_isLane lane ?_
  repeat refine Ev_go rfl ?_
  refine Ev_ifb (fun z => ?_) (fun hl => ?_)
  · rw [if_pos z] at hq
    repeat refine Ev_go rfl ?_
    refine Ev_rt rfl ?_
    exact hq σ0 hX0 hU
  rw [if_neg (fun z => z hl)] at hq
  have hS := hX0.sh k1
  have hsz := (hI.2.2.2 k' k1).1
  obtain ⟨len, g, s1, s2, s3, s4⟩ := id hS
  repeat refine Ev_go rfl ?_
  refine Ev_cv rfl rfl s1 rfl rfl ?_
  refine x_faultOfCells hS hsz.2 lane i n 1 (Or.inl rfl) ?_
  rw [show ((1 : Nat) : Int) * n.toInt = n.toInt from Int.one_mul _]
  have hbd : bar (a 10 k') (a 11 k') lane i n.toInt = bar (a 10 k') (a 11 k') lane i n.toInt := rfl
  generalize hbar : bar (a 10 k') (a 11 k') lane i n.toInt = B at hq ⊢
  repeat refine Ev_go rfl ?_
  refine Ev_if (fun z => ?_) (fun z => ?_)
  rotate_left
  · rw [if_pos z] at hq
    repeat refine Ev_go rfl ?_
    refine Ev_cv rfl rfl d0 rfl rfl ?_
    refine x_faulted d0 B ?_
    refine Ev_rt rfl ?_
    rw [va_up_uu]
    exact hq _ (flt B) (hU.put _ (by omega))
  rw [if_neg (fun y => y z)] at hq
  subst z
  have hin : 0 ≤ (a 10 k').toInt ∧ 0 ≤ i.toInt ∧ 0 ≤ n.toInt ∧ i.toInt + n.toInt ≤ (a 10 k').toInt := by
    unfold bar at hbar
    by_cases h2 : 0 ≤ (a 10 k').toInt ∧ ¬ a 11 k' = lane
    · rw [if_pos h2] at hbar; exact absurd hbar (by decide)
    · rw [if_neg h2] at hbar
      by_cases h1 : (a 10 k').toInt < 0
      · rw [if_pos h1] at hbar; exact absurd hbar (by decide)
      · rw [if_neg h1] at hbar
        by_cases h3 : n.toInt < 0
        · rw [if_pos h3] at hbar; exact absurd hbar (by decide)
        · rw [if_neg h3] at hbar
          by_cases h4 : i.toInt < 0 ∨ n.toInt < 0 ∨ (a 10 k').toInt < i.toInt + n.toInt
          · rw [if_pos h4] at hbar; exact absurd hbar (by decide)
          · omega
  obtain ⟨i', i1, i2, i3⟩ := nI_ex (x := i) (A := 0) (B := 60) 60 ⟨by omega, by omega⟩
  obtain ⟨n', n1, n2, n3⟩ := nI_ex (x := n) (A := 0) (B := 60) 60 ⟨by omega, by omega⟩
  subst i3
  subst n3
  rw [show nC (nI i') = i' from nI_clamp (by omega), show nC (nI n') = n' from nI_clamp (by omega)] at hq
  have hlc : nC (f 10) ≤ 8 ∧ f 10 = nI (nC (f 10)) := by
    obtain ⟨-, ⟨lc, h8, hf, -⟩, -⟩ := hI
    rw [hf, nC, nI_clamp (by omega)]
    exact ⟨h8, rfl⟩
  generalize hlcc : nC (f 10) = lc at hlc
  have f10 := hlc.2
  have hL0 : Lf σ0 lc := (hX0.2.2.1 lc (by omega)).2 (by show nC (f 10) ≤ lc; omega)
  obtain ⟨gl, c2, c2g⟩ := hX0.c2
  obtain ⟨v0, v1, v2, v3, v4, h36⟩ := hX0.c36
  have hT : TT σ0 (128 + 2 * k') i' n' (fun x => a 12 (60 * k' + i' + x)) := fun τ ht => ⟨129 + 2 * k', _, _, _, g, by rw [ht _ (by omega)]; exact s1, by rw [ht _ (by omega)]; exact s3, fun x hx => by
    rw [s4 _ (by omega)]
    show a 12 (60 * k' + (i' + x)) = a 12 (60 * k' + i' + x)
    rw [Nat.add_assoc], by omega, by omega, by omega⟩
  have g10 : va_up f 0 0 10 = nI lc := f10
  (repeat first | refine Ev_go rfl ?_ | refine Ev_gf rfl (d0) rfl rfl ?_ )
  refine Ev_aal lc rfl c2 rfl g10 (by omega) (by decide) ?_
  rw [c2g lc (by omega)]
  refine Ev_cv rfl rfl h36 rfl rfl ?_
  refine x_read (by omega) n1 hT h36 hL0 (fun e p cn kk W τ' hE hN => ?_) (fun kk W p τ' hE hN => ?_)
  · have he := (rL_le (fun x => a 12 (60 * k' + i' + x)) n' 4 0 0 W0 (fun w hw => absurd hw (Nat.not_lt_zero w))).1 e hE
    rw [hE] at hq
    repeat refine Ev_go rfl ?_
    refine Ev_if (fun z => absurd z (nI_ne9 (by omega))) (fun _ => ?_)
    repeat refine Ev_go rfl ?_
    refine Ev_rt rfl ?_
    exact hq τ' (hN.xr (by omega) hX0 hlcc) (hU.tr (hN.un (by omega)))
  · have hw := (rL_le (fun x => a 12 (60 * k' + i' + x)) n' 4 0 0 W0 (fun w hw => absurd hw (Nat.not_lt_zero w))).2 kk W hE
    rw [hE] at hq
    have hX1 := hN.xr (by omega) hX0 hlcc
    have e0 := hX1.c0
    (repeat first | refine Ev_go rfl ?_ | refine Ev_gf rfl (e0) rfl rfl ?_ )
    refine Ev_if (fun z => ?_) (fun z => ?_)
    rotate_left
    · have e8 : f 10 = 8 := by
        have z : ¬ f 10 < 8 := z
        rw [f10, fa_lt, nI_toInt (by omega)] at z
        have t8 : (8 : Int32).toInt = 8 := rfl
        rw [f10, show lc = 8 by omega]
        rfl
      unfold lwS at hq
      dsimp only at hq
      rw [if_pos e8] at hq
      repeat refine Ev_go rfl ?_
      refine Ev_rt rfl ?_
      exact hq τ' hX1 (hU.tr (hN.un (by omega)))
    have l8 : lc < 8 := by
      have z : f 10 < 8 := z
      rw [f10, fa_lt, nI_toInt (by omega)] at z
      have t8 : (8 : Int32).toInt = 8 := rfl
      omega
    have ne8 : ¬ f 10 = 8 := fun e => by
      rw [f10] at e
      have := (nI_eq (b := 8) (by omega) (by decide)).mp e
      omega
    unfold lwS at hq
    dsimp only at hq
    rw [if_neg ne8, hlcc] at hq
    (repeat first | refine Ev_go rfl ?_ | refine Ev_gf rfl (e0) rfl rfl ?_ )
    refine Ev_pf rfl e0 rfl rfl rfl ?_
    repeat refine Ev_go rfl ?_
    refine Ev_rt rfl ?_
    rw [show va_up f 0 0 10 + 1 - 1 = f 10 from Int32.add_sub_cancel (f 10) 1]
    refine hq _ ?_ ((hU.tr (hN.un (by omega))).put _ (by omega))
    obtain ⟨y1, y2, y3, y4, y5⟩ := hX1
    obtain ⟨hw1, hw2, hw3⟩ := hw
    have fc : nC (f 10 + 1) = lc + 1 := by rw [f10, nI_1, nC, nI_clamp (by omega)]
    have fr : ∀ c j, 38 ≤ j → (kt_put τ' 0 c).1 j = τ'.1 j := fun c j hj => kt_put_n _ _ (by omega)
    refine ⟨fun j => ?_, fun j => ?_, fun l2 hl2 => ⟨fun hl3 => ?_, fun hl3 => ?_⟩, y4, y5⟩
    · by_cases ej : j = 0
      · subst ej; rw [kt_put_s]; exact Ck_lo _ (by omega)
      · rw [kt_put_n _ _ ej]; exact y1 j
    · by_cases ej : j = 0
      · subst ej
        rw [kt_put_s]
        refine ⟨fun _ => rfl, by omega, by omega, by omega, fun k hk => ⟨by omega, by omega⟩, fun h hh => ⟨by omega, by omega, by omega⟩⟩
      · rw [kt_put_n _ _ ej]
        obtain ⟨q0, q1⟩ := y2 j
        exact ⟨fun e => absurd e ej, q1⟩
    · have hl4 : l2 < nC (f 10 + 1) := hl3
      rw [fc] at hl4
      by_cases e : l2 = lc
      · subst e
        refine ⟨kk, pk_us, ?_⟩
        have LRt : LR τ' l2 (lwA (a 7) l2 (5 * kk) W) kk := ⟨hN.2.2.2.1, hN.2.2.2.2.1, ⟨by omega, by omega⟩, fun w hw' => (hN.2.2.2.2.2.2 w hw').wr (hw3 w hw') (fun q hq => by
          unfold lwA
          rw [if_pos (by omega), show (20 * l2 + 5 * w + q - 20 * l2) / 5 = w by omega, show (20 * l2 + 5 * w + q - 20 * l2) % 5 = q by omega])⟩
        exact LRt.c (fun j a b => fr _ j (by omega))
      · obtain ⟨m, m1, m2⟩ := (y3 l2 hl2).1 (show l2 < nC (f 10) by omega)
        refine ⟨m, ?_, ?_⟩
        · show upd (a 6) lc (nI kk) l2 = nI m
          rw [pk_un e]; exact m1
        · have m3 : LR τ' l2 (lwA (a 7) lc (5 * kk) W) m := m2.t (fun z z1 z2 => by
            unfold lwA
            rw [if_neg (by omega)])
          exact m3.c (fun j a b => fr _ j (by omega))
    · have hl4 : nC (f 10 + 1) ≤ l2 := hl3
      rw [fc] at hl4
      exact ((y3 l2 hl2).2 (show nC (f 10) ≤ l2 by omega)).c (fun j a b => fr _ j (by omega))
end XZ3
