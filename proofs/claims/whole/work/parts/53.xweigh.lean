/-! the component: what is owed, worth; a shape is weighed -/
abbrev k0 (f : FF) : kt_C := kt_ob 11 [.ref 1, .int (f 1), .ref 2, .int (f 10), .ref 3, .ref 4, .ref 6, .ref 16, .ref 36, .ref 37, .int (f 0)]
theorem lo19 (w : Nat) (hw : w < 4) : nI w = -1 ↔ nI w = -9 := by
  have h1 : nI w ≠ -1 := fun z => by
    rw [fa_eq, nI_toInt (by omega)] at z
    have t : (-1 : Int32).toInt = -1 := rfl
    omega
  exact ⟨fun z => absurd z h1, fun z => absurd z (nI_ne9 (by omega))⟩
/-- a law as the component holds it, or none -/
def Lk (σ : kt_H) (a : AA) (lv : Value) (lo l but : Int32) : Prop := (lv = .null ∧ l = -9) ∨ ∃ L k : Nat, L < 8 ∧ l = nI L ∧ lv = .ref (38 + 10 * L) ∧ a 6 L = nI k ∧ LR σ L (a 7) k ∧ ∀ w : Nat, w < 4 → (nI w = lo ↔ nI w = but)
theorem Lk.c {σ τ : kt_H} {a : AA} {lv : Value} {lo l but : Int32} (h : Lk σ a lv lo l but) (hc : ∀ j, 38 ≤ j → j < 128 → τ.1 j = σ.1 j) : Lk τ a lv lo l but := by
  rcases h with h | ⟨L, k, h1, h2, h3, h4, h5, h6⟩
  · exact Or.inl h
  · exact Or.inr ⟨L, k, h1, h2, h3, h4, h5.c (fun j a b => hc j (by omega) (by omega)), h6⟩
theorem fw_eq {v : Nat → Int32} {a : AA} {kd : Int32} {n : Nat} {w d : Nat → Int32} (h : Mv v kd n w d) (F : Int32) : F * v 8 - a 9 4 * (v 3 + 2 * v 6) = vlI F a kd n w d (-9) (-9) := by
  rw [vlI_9, h.r, h.m (q := 3) (by decide), h.m (q := 6) (by decide)]
  rfl
/-- the best so far -/
def Bt (σ : kt_H) (a : AA) (n m : Nat) (kd : Int32) (o : Nat) (lv : Value) (lo l but : Int32) (r : Nat) : Prop := ∃ (wo fw pd hd : Int32) (g : Nat → Int32), σ.1 o = kt_ob 0 [lv, .int lo, .int (bI (¬ (bsI a n m kd l but r).1 < 0)), .int wo, .int fw, .int pd, .int hd, .ref (o + 1)] ∧ σ.1 (o + 1) = kt_ia 8 g ∧ (¬ (bsI a n m kd l but r).1 < 0 → wo = (bsI a n m kd l but r).2 ∧ fw = vlR a n m kd (-9) (-9) (nC (bsI a n m kd l but r).1) ∧ pd = toI (msr kd n (rW n m (nC (bsI a n m kd l but r).1)) (rD n m (nC (bsI a n m kd l but r).1))) a l but ∧ hd = rmI kd n (rW n m (nC (bsI a n m kd l but r).1)) (rD n m (nC (bsI a n m kd l but r).1)) ∧ ∀ x, x < n → g (2 * x) = rW n m (nC (bsI a n m kd l but r).1) x ∧ g (2 * x + 1) = rD n m (nC (bsI a n m kd l but r).1) x)
theorem Bt.c {σ τ : kt_H} {a : AA} {n m : Nat} {kd : Int32} {o : Nat} {lv : Value} {lo l but : Int32} {r : Nat} (h : Bt σ a n m kd o lv lo l but r) (h1 : τ.1 o = σ.1 o) (h2 : τ.1 (o + 1) = σ.1 (o + 1)) : Bt τ a n m kd o lv lo l but r := by
  unfold Bt at *
  rw [h1, h2]
  exact h
theorem Bt.skip {σ : kt_H} {a : AA} {n m : Nat} {kd : Int32} {o : Nat} {lv : Value} {lo l but : Int32} {r : Nat} (h : Bt σ a n m kd o lv lo l but r) (hn : ¬ okR a n m kd r) : Bt σ a n m kd o lv lo l but (r + 1) := by
  have e : bsI a n m kd l but (r + 1) = bsI a n m kd l but r := by rw [bsI, if_neg (fun z => hn z.2)]
  unfold Bt at *
  rw [e]
  exact h
section XO
variable {σ : kt_H} {Q : Option Value → kt_H → Prop} {n : Nat} {w d : Nat → Int32} {kd : Int32} {a : AA}
theorem x_owed {L k m : Nat} {v : Nat → Int32} (hL : L < 8) (hk : a 6 L = nI k) (hR : LR σ L (a 7) k) (hm : σ.1 m = kt_ia 9 v) (hv : Mv v kd n w d) (hB : Bd n w d) (hn1 : 1 ≤ n) (hn : n ≤ 8) (lo but : Int32) (hlo : ∀ w : Nat, w < 4 → (nI w = lo ↔ nI w = but)) (hq : Q (some (.int (toI (msr kd n w d) a (nI L) but))) σ) : Cs nX3_owedBy [.ref (38 + 10 * L), .ref m, .int lo] σ Q := by
  refine x_owedBy (by omega) hR hm (hv.u hB hn1 hn) lo but hlo ?_
  rw [toI_n hL hk hR.2.2.1.2] at hq
  rw [tlI_u (fun q hq => hv.m hq) (fun w hw => by
    obtain ⟨_, _, _, _, _, _, _, _, ok⟩ := hR.2.2.2 w hw
    exact ok)]
  exact hq
theorem x_worthBy {f : FF} {m : Nat} {v : Nat → Int32} {lv : Value} {l : Int32} (h0 : σ.1 0 = k0 f) (hN : Nd σ (a 9)) (hm : σ.1 m = kt_ia 9 v) (hv : Mv v kd n w d) (hB : Bd n w d) (hn1 : 1 ≤ n) (hn : n ≤ 8) (hK : Lk σ a lv (-1) l (-9)) (F : Int32) (hq : Q (some (.int (vlI F a kd n w d l (-9)))) σ) : Cs nX11_worthBy [.ref 0, .ref m, lv, .int F] σ Q := by
  have h4 := hN.1
  rcases hK with ⟨rfl, rfl⟩ | ⟨L, k, h1, rfl, rfl, h5, h6, h7⟩
  · refine Cs_in (k := kX11_worthBy) [some (.ref 0), some (.ref m), some .null, some (.int F), none] rfl rfl ?_
    (repeat first | refine Ev_go rfl ?_ | refine Ev_gf rfl (h0) rfl rfl ?_ )
    refine Ev_cv rfl rfl h4 rfl rfl ?_
    refine x_freeWorth hN hm F ?_
    rw [fw_eq hv]
    repeat refine Ev_go rfl ?_
    refine Ev_rt rfl ?_
    exact hq
  · refine Cs_in (k := kX11_worthBy) [some (.ref 0), some (.ref m), some (.ref (38 + 10 * L)), some (.int F), none] rfl rfl ?_
    (repeat first | refine Ev_go rfl ?_ | refine Ev_gf rfl (h0) rfl rfl ?_ )
    refine Ev_cv rfl rfl h4 rfl rfl ?_
    refine x_freeWorth hN hm F ?_
    rw [fw_eq hv]
    repeat refine Ev_go rfl ?_
    refine Ev_cv rfl rfl h6.1 rfl rfl ?_
    refine x_owed h1 h5 h6 hm hv hB hn1 hn _ _ h7 ?_
    rw [vlI_s] at hq
    repeat refine Ev_go rfl ?_
    refine Ev_rt rfl ?_
    exact hq
theorem x_begin0 {o : Nat} {lv v1 v2 v3 v4 v5 v6 v7 : Value} (hb : σ.1 o = kt_ob 0 [lv, v1, v2, v3, v4, v5, v6, v7]) (lw : Value) (hlw : kt_fit 1 lw = true) (lo : Int32) (hq : Q none (kt_put σ o (kt_ob 0 [lw, .int lo, .int 0, v3, v4, v5, v6, v7]))) : Cs nX0_begin [.ref o, lw, .int lo] σ Q := by
  have key : Ev kX0_begin (0, [some (.ref o), some lw, some (.int lo)], [], σ) Q := by
    cases lw with
    | null =>
      repeat refine Ev_go rfl ?_
      refine Ev_pf rfl hb rfl rfl rfl ?_
      repeat refine Ev_go rfl ?_
      refine Ev_pf rfl (kt_put_s _ _ _) rfl rfl rfl ?_
      rw [kt_put_put]
      repeat refine Ev_go rfl ?_
      refine Ev_pf rfl (kt_put_s _ _ _) rfl rfl rfl ?_
      rw [kt_put_put]
      refine Ev_rt rfl ?_
      exact hq
    | ref z =>
      repeat refine Ev_go rfl ?_
      refine Ev_pf rfl hb rfl rfl rfl ?_
      repeat refine Ev_go rfl ?_
      refine Ev_pf rfl (kt_put_s _ _ _) rfl rfl rfl ?_
      rw [kt_put_put]
      repeat refine Ev_go rfl ?_
      refine Ev_pf rfl (kt_put_s _ _ _) rfl rfl rfl ?_
      rw [kt_put_put]
      refine Ev_rt rfl ?_
      exact hq
    | _ => cases hlw
  cases lw with
  | null => exact Cs_in (k := kX0_begin) _ rfl rfl key
  | ref z => exact Cs_in (k := kX0_begin) _ rfl rfl key
  | _ => cases hlw
end XO
section XG
variable {σ : kt_H} {Q : Option Value → kt_H → Prop} {f : FF} {a : AA}
theorem x_weigh (hI : Inv f a) {n M r o p m o2 : Nat} {kd num : Int32} {v : Nat → Int32} {lv : Value} {lo l but : Int32} (hn1 : 1 ≤ n) (hn : n ≤ 4) (hM : 1 ≤ M) (hM3 : M ≤ 3) (hr : r < 6561) (hH : Hl σ o p m kd num n (rW n M r) (rD n M r)) (hv : σ.1 m = kt_ia 9 v) (hMv : Mv v kd n (rW n M r) (rD n M r)) (ok : okR a n M kd r) (hl : isW f l ∨ l = -9) (hK : Lk σ a lv lo l but) (hB : Bt σ a n M kd o2 lv lo l but r) (c1 : o < 17) (c2 : p < 17) (c3 : m < 17) (c4 : 17 ≤ o2)
    (hq : ∀ τ : kt_H, τ.2 = σ.2 → (∀ j, j ≠ o2 → j ≠ o2 + 1 → τ.1 j = σ.1 j) → Bt τ a n M kd o2 lv lo l but (r + 1) → Q none τ) : Cs nX0_weigh [.ref o2, .ref o, .ref m, .int (vlR a n M kd (-9) (-9) r)] σ Q := by
  have hBd := Bd_row (n := n) (r := r) hM hM3
  have hB0 := hB
  obtain ⟨wo, fw, pd, hd, g, b1, b2, b3⟩ := hB
  obtain ⟨h1, ⟨gp, h2, h3⟩, -, -, -, -, h8, h9, h10⟩ := hH
  have hm := cK_m h8
  have bs : bsI a n M kd l but (r + 1) = if (bsI a n M kd l but r).1 < 0 ∨ (bsI a n M kd l but r).2 < vlR a n M kd l but r then (nI r, vlR a n M kd l but r) else bsI a n M kd l but r := by
    rw [bsI]
    by_cases z : (bsI a n M kd l but r).1 < 0 ∨ (bsI a n M kd l but r).2 < vlR a n M kd l but r
    · rw [if_pos ⟨z, ok⟩, if_pos z]
    · rw [if_neg (fun y => z y.1), if_neg z]
  have hle : (vlR a n M kd l but r).toInt ≤ (vlR a n M kd (-9) (-9) r).toInt := vlI_le hI hI.2.2.1.2.2.2.2.2 hBd hn1 (by omega) but hl
  have hs : vlR a n M kd (-9) (-9) r - toI (msr kd n (rW n M r) (rD n M r)) a l but = vlR a n M kd l but r := (vlI_s _ _ _ _ _ _ _ _).symm
  have stay : ¬ ((bsI a n M kd l but r).1 < 0 ∨ (bsI a n M kd l but r).2 < vlR a n M kd l but r) → Q none σ := fun z => hq σ rfl (fun _ _ _ => rfl) (by unfold Bt at hB0 ⊢; rw [bs, if_neg z]; exact hB0)
  have cr : nC (nI r) = r := nI_clamp (by omega)
  have s60 : ∀ ow, ow = toI (msr kd n (rW n M r) (rD n M r)) a l but → ((bsI a n M kd l but r).1 < 0 ∨ (bsI a n M kd l but r).2 < vlR a n M kd l but r) → Ev kX0_weigh (60, [some (.ref o2), some (.ref o), some (.ref m), some (.int (vlR a n M kd (-9) (-9) r)), some (.int ow)], [], σ) Q := by
    intro ow how z
    rw [if_pos z] at bs
    repeat refine Ev_go rfl ?_
    refine Ev_pf rfl b1 rfl rfl rfl ?_
    repeat refine Ev_go rfl ?_
    refine Ev_pf rfl (kt_put_s _ _ _) rfl rfl rfl ?_
    rw [kt_put_put]
    repeat refine Ev_go rfl ?_
    refine Ev_pf rfl (kt_put_s _ _ _) rfl rfl rfl ?_
    rw [kt_put_put]
    repeat refine Ev_go rfl ?_
    refine Ev_pf rfl (kt_put_s _ _ _) rfl rfl rfl ?_
    rw [kt_put_put]
    repeat refine Ev_go rfl ?_
    refine Ev_ial 8 rfl (by rw [kt_put_n _ _ (by omega)]; exact hv) rfl (by decide) (by decide) ?_
    refine Ev_pf rfl (kt_put_s _ _ _) rfl rfl rfl ?_
    rw [kt_put_put]
    repeat refine Ev_go rfl ?_
    refine Ev_gf rfl (by rw [kt_put_n _ _ (by omega)]; exact h1) hm rfl ?_
    repeat refine Ev_go rfl ?_
    refine Ev_gf rfl (kt_put_s _ _ _) rfl rfl ?_
    repeat refine Ev_go rfl ?_
    refine Ev_gf rfl (kt_put_s _ _ _) rfl rfl ?_
    refine Ev_len rfl (by rw [kt_put_n _ _ (by omega)]; exact b2) ?_
    refine Ev_cp (f := gp) (g := g) 0 0 8 rfl (by rw [kt_put_n _ _ (by omega)]; exact h2) (by rw [kt_put_n _ _ (by omega)]; exact b2) rfl rfl rfl (by decide) (by decide) (by decide) (by decide) rfl ?_
    refine Ev_rt rfl ?_
    refine hq _ rfl (fun j a b => by rw [kt_put_n _ _ b, kt_put_n _ _ a]) ?_
    unfold Bt
    rw [bs]
    refine ⟨vlR a n M kd (-9) (-9) r - ow, vlR a n M kd (-9) (-9) r, ow, v 8, va_cpy gp g 0 0 8, ?_, kt_put_s _ _ _, fun _ => ?_⟩
    · rw [kt_put_n _ _ (by omega), kt_put_s, bI_t (show ¬ (nI r, vlR a n M kd l but r).1 < 0 from nI_pos (by omega))]
    · dsimp only
      rw [cr]
      refine ⟨by rw [how]; exact hs, rfl, how, hMv.r, fun x hx => ?_⟩
      rw [sb_cpy0 (by omega), sb_cpy0 (by omega)]
      exact h3 x hx
  have sEnd : ∀ ow, ow = toI (msr kd n (rW n M r) (rD n M r)) a l but → Ev kX0_weigh (if bI (¬ (bsI a n M kd l but r).1 < 0) = 0 then 60 else 48, [some (.ref o2), some (.ref o), some (.ref m), some (.int (vlR a n M kd (-9) (-9) r)), some (.int ow)], [], σ) Q := by
    intro ow how
    refine Ev_ifb (fun hf => s60 ow how (Or.inl (Decidable.not_not.mp hf))) (fun ht => ?_)
    (repeat first | refine Ev_go rfl ?_ | refine Ev_gf rfl (b1) rfl rfl ?_ )
    rw [(b3 ht).1]
    have e : vlR a n M kd (-9) (-9) r - ow = vlR a n M kd l but r := by rw [how]; exact hs
    refine Ev_if (fun z => s60 ow how (Or.inr (by rw [e] at z; exact z))) (fun z => ?_)
    refine Ev_rt rfl ?_
    refine stay (fun y => ?_)
    rcases y with y | y
    · exact ht y
    · rw [e] at z; exact z y
  have s16 : Ev kX0_weigh (16, [some (.ref o2), some (.ref o), some (.ref m), some (.int (vlR a n M kd (-9) (-9) r)), none], [], σ) Q := by
    rcases hK with ⟨rfl, rfl⟩ | ⟨L, k, k1, rfl, rfl, k5, k6, k7⟩
    · (repeat first | refine Ev_go rfl ?_ | refine Ev_gf rfl (b1) rfl rfl ?_ )
      exact sEnd 0 (toI_9 _ _ _).symm
    · (repeat first | refine Ev_go rfl ?_ | refine Ev_gf rfl (b1) rfl rfl ?_ )
      refine Ev_cv rfl rfl k6.1 rfl rfl ?_
      refine x_owed k1 k5 k6 hv hMv hBd hn1 (by omega) _ _ k7 ?_
      (repeat first | refine Ev_go rfl ?_ | refine Ev_gf rfl (b1) rfl rfl ?_ )
      exact sEnd _ rfl
  refine Cs_in (k := kX0_weigh) [some (.ref o2), some (.ref o), some (.ref m), some (.int (vlR a n M kd (-9) (-9) r)), none] rfl rfl ?_
  (repeat first | refine Ev_go rfl ?_ | refine Ev_gf rfl (b1) rfl rfl ?_ )
  refine Ev_ifb (fun _ => s16) (fun ht => ?_)
  (repeat first | refine Ev_go rfl ?_ | refine Ev_gf rfl (b1) rfl rfl ?_ )
  refine Ev_if (fun _ => s16) (fun z => ?_)
  refine Ev_rt rfl ?_
  refine stay (fun y => ?_)
  rcases y with y | y
  · exact ht y
  · rw [(b3 ht).1, fa_lt] at z
    rw [fa_lt] at y
    omega
end XG
