/-! the component: the best -/
theorem bsI_v (a : AA) (n m : Nat) (sort l but : Int32) : ∀ r, r ≤ 6561 → ¬ (bsI a n m sort l but r).1 < 0 → (bsI a n m sort l but r).2 = vlR a n m sort l but (nC (bsI a n m sort l but r).1) ∧ ∃ x, x < r ∧ okR a n m sort x
  | 0, _ => fun h => absurd (show (-9 : Int32) < 0 by decide) h
  | r + 1, hr => by
    rw [bsI]
    split
    · rename_i hc
      intro _
      dsimp only
      exact ⟨by rw [nC, nI_clamp (by omega)], r, by omega, hc.2⟩
    · intro h
      obtain ⟨h1, x, h2, h3⟩ := bsI_v a n m sort l but r (by omega) h
      exact ⟨h1, x, by omega, h3⟩
theorem bs_any {a : AA} {n m : Nat} {sort l but : Int32} {r : Nat} (hr : r ≤ 6561) (h : ¬ (bsI a n m sort l but r).1 < 0) (l2 but2 : Int32) : ¬ (bsI a n m sort l2 but2 r).1 < 0 := by
  obtain ⟨-, x, h2, h3⟩ := bsI_v a n m sort l but r hr h
  exact bsI_some x h3 r hr h2
section XBB
variable {f : FF} {a : AA} {σ τ : kt_H} {Q : Option Value → kt_H → Prop} {k n M s : Nat}
theorem Bt_0 {kd : Int32} {o : Nat} {lv : Value} {lo l but x3 x4 x5 x6 : Int32} {g : Nat → Int32} (h1 : σ.1 o = kt_ob 0 [lv, .int lo, .int 0, .int x3, .int x4, .int x5, .int x6, .ref (o + 1)]) (h2 : σ.1 (o + 1) = kt_ia 8 g) : Bt σ a n M kd o lv lo l but 0 := by
  refine ⟨x3, x4, x5, x6, g, ?_, h2, fun h => absurd (show (-9 : Int32) < 0 by decide) h⟩
  rw [h1, bI_f (fun h => h (by show (-9 : Int32) < 0; decide))]
theorem x_clear7 {v0 : Value} {x x1 x2 x3 x4 x5 x6 : Int32} (h16 : σ.1 16 = kt_ob 7 [.ref 17, .ref 19, .int x]) (h17 : σ.1 17 = kt_ob 0 [v0, .int x1, .int x2, .int x3, .int x4, .int x5, .int x6, .ref 18]) (hq : Q none (kt_put (kt_put σ 16 (kt_ob 7 [.ref 17, .ref 19, .int 0])) 17 (kt_ob 0 [.null, .int (-1), .int 0, .int x3, .int x4, .int x5, .int x6, .ref 18]))) : Cs nX7_clear [.ref 16] σ Q := by
  refine Cs_in (k := kX7_clear) [some (.ref 16)] rfl rfl ?_
  repeat refine Ev_go rfl ?_
  refine Ev_pf rfl h16 rfl rfl rfl ?_
  repeat refine Ev_go rfl ?_
  have h17' : (kt_put σ 16 (kt_ob 7 [.ref 17, .ref 19, .int 0])).1 17 = kt_ob 0 [v0, .int x1, .int x2, .int x3, .int x4, .int x5, .int x6, .ref 18] := by rw [kt_put_n _ _ (by decide)]; exact h17
  refine Ev_cv rfl rfl h17' rfl rfl ?_
  refine x_begin0 h17' .null rfl (-1) ?_
  refine Ev_rt rfl ?_
  exact hq
theorem x_seek {v0 : Value} {x1 x2 x3 x4 x5 x6 : Int32} {gb : Nat → Option Nat} (hs : s < 8) (h16 : σ.1 16 = kt_ob 7 [.ref 17, .ref 19, .int (nI s)]) (h19 : σ.1 19 = kt_ra 4 8 gb) (hgb : ∀ b, b < 8 → gb b = some (20 + 2 * b)) (hb : σ.1 (20 + 2 * s) = kt_ob 0 [v0, .int x1, .int x2, .int x3, .int x4, .int x5, .int x6, .ref (20 + 2 * s + 1)]) (z : Nat) (lo : Int32) (hq : Q (some (.ref (20 + 2 * s))) (kt_put (kt_put σ (20 + 2 * s) (kt_ob 0 [.ref z, .int lo, .int 0, .int x3, .int x4, .int x5, .int x6, .ref (20 + 2 * s + 1)])) 16 (kt_ob 7 [.ref 17, .ref 19, .int (nI (s + 1))]))) : Cs nX7_seek [.ref 16, .ref z, .int lo] σ Q := by
  refine Cs_in (k := kX7_seek) [some (.ref 16), some (.ref z), some (.int lo), none] rfl rfl ?_
  (repeat first | refine Ev_go rfl ?_ | refine Ev_gf rfl (h16) rfl rfl ?_ )
  refine Ev_lenr rfl h19 rfl ?_
  repeat refine Ev_go rfl ?_
  refine Ev_if (fun _ => ?_) (fun g => absurd (nI_lt (b := 8) hs (by decide)) g)
  (repeat first | refine Ev_go rfl ?_ | refine Ev_gf rfl (h16) rfl rfl ?_ )
  refine Ev_aal s rfl h19 rfl rfl hs (by decide) ?_
  rw [hgb s hs]
  repeat refine Ev_go rfl ?_
  refine Ev_cv rfl rfl hb rfl rfl ?_
  refine x_begin0 hb (.ref z) rfl lo ?_
  have h16' : ∀ c, (kt_put σ (20 + 2 * s) c).1 16 = kt_ob 7 [.ref 17, .ref 19, .int (nI s)] := fun c => by rw [kt_put_n _ _ (by omega)]; exact h16
  (repeat first | refine Ev_go rfl ?_ | refine Ev_gf rfl (h16' _) rfl rfl ?_ )
  refine Ev_pf rfl (h16' _) rfl rfl rfl ?_
  rw [nI_1]
  repeat refine Ev_go rfl ?_
  refine Ev_rt rfl ?_
  exact hq
theorem x_lossOf {kd : Int32} {o : Nat} {lv : Value} {lo l but x : Int32} (hn : n ≤ 4) (hM3 : M ≤ 3) (h16 : σ.1 16 = kt_ob 7 [.ref 17, .ref 19, .int x]) (hB0 : Bt σ a n M kd 17 .null (-1) (-9) (-9) (M ^ (2 * n))) (hB : Bt σ a n M kd o lv lo l but (M ^ (2 * n))) (hany : ¬ (bsI a n M kd l but (M ^ (2 * n))).1 < 0) (hq : Q (some (.int (lsI a n M kd l but))) σ) : Cs nX7_lossOf [.ref 16, .ref o] σ Q := by
  have hR := pw_le hn hM3
  have any0 := bs_any hR hany (-9) (-9)
  obtain ⟨w0, f0, p0, d0, g0, b1, b2, b3⟩ := hB0
  obtain ⟨w1, f1, p1, d1, g1, e1, e2, e3⟩ := hB
  refine Cs_in (k := kX7_lossOf) [some (.ref 16), some (.ref o)] rfl rfl ?_
  (repeat first | refine Ev_go rfl ?_ | refine Ev_gf rfl (h16) rfl rfl ?_ | refine Ev_gf rfl (b1) rfl rfl ?_ | refine Ev_gf rfl (e1) rfl rfl ?_ )
  refine Ev_rt rfl ?_
  rw [(e3 hany).2.1, (b3 any0).2.1, ← (bsI_v _ _ _ _ _ _ _ hR any0).1]
  exact hq
theorem mdI_c (a : AA) (n m : Nat) (sort v : Int32) : ∀ l, (mdI a n m sort v l).1 = -9 ∨ ∃ q : Nat, q < l ∧ (mdI a n m sort v l).1 = nI q
  | 0 => Or.inl rfl
  | l + 1 => by
    rw [mdI]
    split
    · exact Or.inr ⟨l, Nat.lt_succ_self l, rfl⟩
    · rcases mdI_c a n m sort v l with h | ⟨q, h1, h2⟩
      · exact Or.inl h
      · exact Or.inr ⟨q, by omega, h2⟩
theorem x_leastLoss {kd : Int32} {gb : Nat → Option Nat} (hn : n ≤ 4) (hM3 : M ≤ 3) (hs : s ≤ 8) (h16 : σ.1 16 = kt_ob 7 [.ref 17, .ref 19, .int (nI s)]) (h19 : σ.1 19 = kt_ra 4 8 gb) (hgb : ∀ b, b < 8 → gb b = some (20 + 2 * b)) (hB0 : Bt σ a n M kd 17 .null (-1) (-9) (-9) (M ^ (2 * n))) (hB : ∀ b, b < s → Bt σ a n M kd (20 + 2 * b) (.ref (38 + 10 * b)) (-1) (nI b) (-9) (M ^ (2 * n))) (hany : ∀ l, ¬ (bsI a n M kd l (-9) (M ^ (2 * n))).1 < 0) (v : Int32) (hq : Q (some (.int (mdI a n M kd v s).1)) σ) : Cs nX7_leastLoss [.ref 16, .int v] σ Q := by
  have lp : ∀ (e b : Nat) (o5 : Option Value), b + e = s → Ev kX7_leastLoss (8, [some (.ref 16), some (.int v), some (.int (mdI a n M kd v b).1), some (.int (mdI a n M kd v b).2), some (.int (nI b)), o5], [], σ) Q := by
    intro e
    induction e with
    | zero =>
      intro b o5 hb
      have e : b = s := by omega
      subst e
      (repeat first | refine Ev_go rfl ?_ | refine Ev_gf rfl (h16) rfl rfl ?_ )
      refine Ev_if (fun _ => ?_) (fun g1 => absurd (nI_le (Nat.le_refl _) (by omega)) g1)
      repeat refine Ev_go rfl ?_
      refine Ev_rt rfl ?_
      exact hq
    | succ e ih =>
      intro b o5 hb
      (repeat first | refine Ev_go rfl ?_ | refine Ev_gf rfl (h16) rfl rfl ?_ )
      refine Ev_if (fun g1 => absurd g1 (nI_ge (by omega) (by omega))) (fun _ => ?_)
      (repeat first | refine Ev_go rfl ?_ | refine Ev_gf rfl (h16) rfl rfl ?_ )
      refine Ev_aal b rfl h19 rfl rfl (by omega) (by decide) ?_
      rw [hgb b (by omega)]
      refine Ev_cv rfl rfl h16 rfl rfl ?_
      have hBb := hB b (by omega)
      refine x_lossOf hn hM3 h16 hB0 hBb (hany _) ?_
      (repeat first | refine Ev_go rfl ?_ | refine Ev_gf rfl (h16) rfl rfl ?_ )
      refine Ev_aal b rfl h19 rfl rfl (by omega) (by decide) ?_
      rw [hgb b (by omega)]
      obtain ⟨w1, f1, p1, d1, g1, e1, e2, e3⟩ := hBb
      obtain ⟨-, -, e4, -, -⟩ := e3 (hany _)
      have fin : ∀ (x y : Int32) (o5 : Option Value), mdI a n M kd v (b + 1) = (x, y) → Ev kX7_leastLoss (62, [some (.ref 16), some (.int v), some (.int x), some (.int y), some (.int (nI b)), o5], [], σ) Q := by
        intro x y o5 hE
        have hh := ih (b + 1) o5 (by omega)
        rw [hE] at hh
        iterate 2 refine Ev_go rfl ?_
        rw [nI_1]
        exact hh
      have eg : mdI a n M kd v (b + 1) = if v ≤ p1 ∧ ((mdI a n M kd v b).1 < 0 ∨ lsI a n M kd (nI b) (-9) < (mdI a n M kd v b).2) then (nI b, lsI a n M kd (nI b) (-9)) else mdI a n M kd v b := by rw [mdI, e4]
      (repeat first | refine Ev_go rfl ?_ | refine Ev_gf rfl (e1) rfl rfl ?_ )
      refine Ev_if (fun z => ?_) (fun z => ?_)
      · refine fin _ _ _ ?_
        rw [eg, if_neg (fun y => by have y := y.1; rw [fa_le] at y; rw [fa_lt] at z; omega)]
      · have hv : v ≤ p1 := by rw [fa_le]; rw [fa_lt] at z; omega
        have s56 : (mdI a n M kd v b).1 < 0 ∨ lsI a n M kd (nI b) (-9) < (mdI a n M kd v b).2 → Ev kX7_leastLoss (56, [some (.ref 16), some (.int v), some (.int (mdI a n M kd v b).1), some (.int (mdI a n M kd v b).2), some (.int (nI b)), some (.int (lsI a n M kd (nI b) (-9)))], [], σ) Q := by
          intro hc
          iterate 4 refine Ev_go rfl ?_
          exact fin _ _ _ (by rw [eg, if_pos ⟨hv, hc⟩])
        repeat refine Ev_go rfl ?_
        refine Ev_if (fun z2 => s56 (Or.inl (by rw [z2]; decide))) (fun z2 => ?_)
        repeat refine Ev_go rfl ?_
        refine Ev_if (fun z3 => ?_) (fun z3 => s56 (Or.inr (by rw [fa_lt]; rw [fa_le] at z3; omega)))
        refine fin _ _ _ ?_
        rw [eg, if_neg (fun y => ?_)]
        rcases y.2 with y | y
        · rcases mdI_c a n M kd v b with h | ⟨q, h1, h2⟩
          · exact z2 h
          · rw [h2] at y; exact absurd y (nI_pos (by omega))
        · rw [fa_lt] at y; rw [fa_le] at z3; omega
  refine Cs_in (k := kX7_leastLoss) [some (.ref 16), some (.int v), none, none, none, none] rfl rfl ?_
  iterate 6 refine Ev_go rfl ?_
  exact lp s 0 _ (by omega)
/-- the search's cells as they are -/
theorem Sr.sk (hX : Xr f a σ) : ∃ (x x1 x2 x3 x4 x5 x6 : Int32) (v0 : Value) (g : Nat → Int32), σ.1 16 = kt_ob 7 [.ref 17, .ref 19, .int x] ∧ σ.1 17 = kt_ob 0 [v0, .int x1, .int x2, .int x3, .int x4, .int x5, .int x6, .ref 18] ∧ σ.1 18 = kt_ia 8 g := by
  obtain ⟨x, h16⟩ := hX.c16
  obtain ⟨v0, x1, x2, x3, x4, x5, x6, h17⟩ := hX.c17
  obtain ⟨g, h18⟩ := hX.c18
  exact ⟨x, x1, x2, x3, x4, x5, x6, v0, g, h16, h17, h18⟩
theorem x_bestBy (hI : Inv f a) (hX : Xr f a σ) (hk : k < 3) (hn1 : 1 ≤ n) (hn : n ≤ 4) (hM : 1 ≤ M) (hM3 : M ≤ 3) {lv : Value} {lo l but : Int32} (hl : isW f l ∨ l = -9) (hK : Lk σ a lv lo l but) (hb9 : l = -9 → but = -9) (hq : ∀ τ o lv' lo', Sr σ τ → (∃ x : Int32, τ.1 16 = kt_ob 7 [.ref 17, .ref 19, .int x]) → Bt τ a n M (nI k) 17 .null (-1) (-9) (-9) (M ^ (2 * n)) → Bt τ a n M (nI k) o lv' lo' l but (M ^ (2 * n)) → Q (some (.ref o)) τ) : Cs nX11_bestBy [.ref 0, .int (nI n), .int (nI M), .int (nI k), lv, .int lo] σ Q := by
  have c0 := hX.c0
  obtain ⟨g6, c6, g6g⟩ := hX.c6
  obtain ⟨gb, c19, hgb⟩ := hX.c19
  obtain ⟨x, x1, x2, x3, x4, x5, x6, v0, g, h16, h17, h18⟩ := Sr.sk hX
  generalize hσ1 : kt_put (kt_put σ 16 (kt_ob 7 [.ref 17, .ref 19, .int 0])) 17 (kt_ob 0 [.null, .int (-1), .int 0, .int x3, .int x4, .int x5, .int x6, .ref 18]) = σ1
  have hS1 : Sr σ σ1 := by
    rw [← hσ1]
    exact (Sr.rf.put (by decide) (Ck_16 0)).put (by decide) (Ck_17 ⟨_, _, _, _, _, _, _, rfl⟩)
  have hX1 := hX.s hS1
  have d0 := hX1.c0
  have d6 : σ1.1 6 = kt_ra 1 3 g6 := by rw [hS1.hi (by omega)]; exact c6
  have d16 : σ1.1 16 = kt_ob 7 [.ref 17, .ref 19, .int (nI 0)] := by rw [← hσ1, kt_put_n _ _ (by decide), kt_put_s]; rfl
  have d17 : σ1.1 17 = kt_ob 0 [.null, .int (-1), .int 0, .int x3, .int x4, .int x5, .int x6, .ref (17 + 1)] := by rw [← hσ1, kt_put_s]
  have d18 : σ1.1 (17 + 1) = kt_ia 8 g := by rw [← hσ1, kt_put_n _ _ (by decide), kt_put_n _ _ (by decide)]; exact h18
  have d19 : σ1.1 19 = kt_ra 4 8 gb := by rw [← hσ1, kt_put_n _ _ (by decide), kt_put_n _ _ (by decide)]; exact c19
  rcases hK with ⟨rfl, rfl⟩ | ⟨L, c, k1, rfl, rfl, k5, k6, k7⟩
  · have hb := hb9 rfl
    subst hb
    refine Cs_in (k := kX11_bestBy) [some (.ref 0), some (.int (nI n)), some (.int (nI M)), some (.int (nI k)), some .null, some (.int lo), none] rfl rfl ?_
    (repeat first | refine Ev_go rfl ?_ | refine Ev_gf rfl (c0) rfl rfl ?_ )
    refine Ev_cv rfl rfl h16 rfl rfl ?_
    refine x_clear7 h16 h17 ?_
    rw [hσ1]
    (repeat first | refine Ev_go rfl ?_ | refine Ev_gf rfl (d0) rfl rfl ?_ )
    refine Ev_aal k rfl d6 rfl rfl hk (by decide) ?_
    rw [g6g k hk]
    (repeat first | refine Ev_go rfl ?_ | refine Ev_gf rfl (d0) rfl rfl ?_ )
    refine Ev_cv rfl rfl d16 rfl rfl ?_
    refine x_run (s := 0) (lv := fun _ => .null) (lo := fun _ => 0) (l := fun _ => 0) (but := fun _ => 0) hI hk (hX1.sp hk) hn1 hn hM hM3 (by decide) (hX1.nd hI) d16 ⟨gb, d19, hgb⟩ (fun b hb => absurd hb (Nat.not_lt_zero b)) (fun b hb => absurd hb (Nat.not_lt_zero b)) (Bt_0 d17 d18) (fun b hb => absurd hb (Nat.not_lt_zero b)) (fun τ t1 t2 t3 t4 => ?_)
    have hS2 : Sr σ1 τ := t1.sr hk (by decide) t2 t3.bs (fun b hb => absurd hb (Nat.not_lt_zero b))
    have e0 := (hX1.s hS2).c0
    have e16 : τ.1 16 = kt_ob 7 [.ref 17, .ref 19, .int (nI 0)] := by rw [t1.2 16 (by omega) (by omega)]; exact d16
    (repeat first | refine Ev_go rfl ?_ | refine Ev_gf rfl (e0) rfl rfl ?_ | refine Ev_gf rfl (e16) rfl rfl ?_ )
    refine Ev_rt rfl ?_
    exact hq τ 17 _ _ (hS1.tr hS2) ⟨_, e16⟩ t3 t3
  · refine Cs_in (k := kX11_bestBy) [some (.ref 0), some (.int (nI n)), some (.int (nI M)), some (.int (nI k)), some (.ref (38 + 10 * L)), some (.int lo), none] rfl rfl ?_
    (repeat first | refine Ev_go rfl ?_ | refine Ev_gf rfl (c0) rfl rfl ?_ )
    refine Ev_cv rfl rfl h16 rfl rfl ?_
    refine x_clear7 h16 h17 ?_
    rw [hσ1]
    (repeat first | refine Ev_go rfl ?_ | refine Ev_gf rfl (d0) rfl rfl ?_ )
    refine Ev_cv rfl rfl d16 rfl rfl ?_
    obtain ⟨y0, y1, y2, y3, y4, y5, y6, d20⟩ := hX1.c20 (b := 0) (by decide)
    obtain ⟨g21, d21⟩ := hX1.c21 (b := 0) (by decide)
    refine x_seek (s := 0) (by decide) d16 d19 hgb d20 _ _ ?_
    generalize hσ2 : kt_put (kt_put σ1 (20 + 2 * 0) (kt_ob 0 [.ref (38 + 10 * L), .int lo, .int 0, .int y3, .int y4, .int y5, .int y6, .ref (20 + 2 * 0 + 1)])) 16 (kt_ob 7 [.ref 17, .ref 19, .int (nI (0 + 1))]) = σ2
    have hS2 : Sr σ1 σ2 := by
      rw [← hσ2]
      exact (Sr.rf.put (by decide) (Ck_20 (b := 0) (by decide) ⟨_, _, _, _, _, _, _, rfl⟩)).put (by decide) (Ck_16 _)
    have hX2 := hX1.s hS2
    have e0 := hX2.c0
    have e6 : σ2.1 6 = kt_ra 1 3 g6 := by rw [hS2.hi (by omega)]; exact d6
    have e16 : σ2.1 16 = kt_ob 7 [.ref 17, .ref 19, .int (nI 1)] := by rw [← hσ2, kt_put_s]
    have e17 : σ2.1 17 = kt_ob 0 [.null, .int (-1), .int 0, .int x3, .int x4, .int x5, .int x6, .ref (17 + 1)] := by rw [← hσ2, kt_put_n _ _ (by decide), kt_put_n _ _ (by decide)]; exact d17
    have e18 : σ2.1 (17 + 1) = kt_ia 8 g := by rw [← hσ2, kt_put_n _ _ (by decide), kt_put_n _ _ (by decide)]; exact d18
    have e19 : σ2.1 19 = kt_ra 4 8 gb := by rw [← hσ2, kt_put_n _ _ (by decide), kt_put_n _ _ (by decide)]; exact d19
    have e20 : σ2.1 (20 + 2 * 0) = kt_ob 0 [.ref (38 + 10 * L), .int lo, .int 0, .int y3, .int y4, .int y5, .int y6, .ref (20 + 2 * 0 + 1)] := by rw [← hσ2, kt_put_n _ _ (by decide), kt_put_s]
    have e21 : σ2.1 (20 + 2 * 0 + 1) = kt_ia 8 g21 := by rw [← hσ2, kt_put_n _ _ (by decide), kt_put_n _ _ (by decide)]; exact d21
    (repeat first | refine Ev_go rfl ?_ | refine Ev_gf rfl (e0) rfl rfl ?_ )
    refine Ev_aal k rfl e6 rfl rfl hk (by decide) ?_
    rw [g6g k hk]
    (repeat first | refine Ev_go rfl ?_ | refine Ev_gf rfl (e0) rfl rfl ?_ )
    refine Ev_cv rfl rfl e16 rfl rfl ?_
    have hK2 : Lk σ2 a (.ref (38 + 10 * L)) lo (nI L) but := Or.inr ⟨L, c, k1, rfl, rfl, k5, k6.c (fun j a b => by rw [hS2.hi (by omega), hS1.hi (by omega)]), k7⟩
    refine x_run (s := 1) (lv := fun _ => .ref (38 + 10 * L)) (lo := fun _ => lo) (l := fun _ => nI L) (but := fun _ => but) hI hk (hX2.sp hk) hn1 hn hM hM3 (by decide) (hX2.nd hI) e16 ⟨gb, e19, hgb⟩ (fun b hb => hl) (fun b hb => hK2) (Bt_0 e17 e18) (fun b hb => ?_) (fun τ t1 t2 t3 t4 => ?_)
    · have : b = 0 := by omega
      subst this
      exact Bt_0 e20 e21
    have hS3 : Sr σ2 τ := t1.sr hk (by decide) t2 t3.bs (fun b hb => (t4 b hb).bs)
    have f16 : τ.1 16 = kt_ob 7 [.ref 17, .ref 19, .int (nI 1)] := by rw [t1.2 16 (by omega) (by omega)]; exact e16
    repeat refine Ev_go rfl ?_
    refine Ev_rt rfl ?_
    exact hq τ 20 _ _ ((hS1.tr hS2).tr hS3) ⟨_, f16⟩ t3 (t4 0 (by decide))
end XBB
