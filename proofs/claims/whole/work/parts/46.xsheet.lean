/-! the component: sheets -/
section XS
variable {σ : kt_H} {Q : Option Value → kt_H → Prop}
def Sh (σ : kt_H) (k : Nat) (sz ln : Int32) (c : Nat → Int32) : Prop := ∃ (len : Int32) (g : Nat → Int32), σ.1 (128 + 2 * k) = kt_ob 8 [.ref (129 + 2 * k), .int (bI (0 ≤ sz.toInt)), .int ln, .int len] ∧ (0 ≤ sz.toInt → len = sz) ∧ σ.1 (129 + 2 * k) = kt_ia 60 g ∧ ∀ i, i < 60 → g i = c i
theorem x_hasCells {o : Nat} {v0 v1 v2 : Value} {sz : Int32} (ho : σ.1 o = kt_ob 8 [v0, v1, v2, .int sz]) (hs : 0 ≤ sz.toInt ∧ sz.toInt ≤ 60) (i : Int32) {n : Int64} (N : Int) (hn : n.toInt = N) (hq : Q (some (.int (bI ((0 ≤ i.toInt ∧ i.toInt ≤ sz.toInt) ∧ 0 ≤ N ∧ N ≤ sz.toInt - i.toInt)))) σ) : Cs nX8_hasCells [.ref o, .int i, .long n] σ Q := by
  have t0 : (0 : Int32).toInt = 0 := rfl
  have u0 : (0 : Int64).toInt = 0 := rfl
  refine Cs_in (k := kX8_hasCells) [some (.ref o), some (.int i), some (.long n), none] rfl rfl ?_
  have no : ¬ ((0 ≤ i.toInt ∧ i.toInt ≤ sz.toInt) ∧ 0 ≤ N ∧ N ≤ sz.toInt - i.toInt) → Ev kX8_hasCells (34, [some (.ref o), some (.int i), some (.long n), none], [], σ) Q := by
    intro h
    rw [bI_f h] at hq
    repeat refine Ev_go rfl ?_
    refine Ev_rt rfl ?_
    exact hq
  repeat refine Ev_go rfl ?_
  refine Ev_if (fun g => no (by rw [fa_lt] at g; omega)) (fun g1 => ?_)
  rw [fa_lt] at g1
  (repeat first | refine Ev_go rfl ?_ | refine Ev_gf rfl (ho) rfl rfl ?_ )
  refine Ev_if (fun g => no (by rw [fa_lt] at g; omega)) (fun g2 => ?_)
  rw [fa_lt] at g2
  repeat refine Ev_go rfl ?_
  refine Ev_if (fun g => no (by rw [cmp_lt] at g; omega)) (fun g3 => ?_)
  rw [cmp_lt] at g3
  have es : (sz - i).toInt = sz.toInt - i.toInt := fb_subI (by omega) (by omega)
  (repeat first | refine Ev_go rfl ?_ | refine Ev_gf rfl (ho) rfl rfl ?_ )
  refine Ev_if (fun g => no (by rw [cmp_gt, fa_wide, es] at g; omega)) (fun g4 => ?_)
  rw [cmp_gt, fa_wide, es] at g4
  rw [bI_t (by omega)] at hq
  repeat refine Ev_go rfl ?_
  refine Ev_rt rfl ?_
  exact hq
theorem x_faultOfCells {k : Nat} {sz ln : Int32} {c : Nat → Int32} (hS : Sh σ k sz ln c) (hz : sz.toInt ≤ 60) (lane i n : Int32) (tm : Nat) (ht : tm = 1 ∨ tm = 2) (hq : Q (some (.int (bar sz ln lane i ((tm : Int) * n.toInt)))) σ) : Cs nX8_faultOfCells [.ref (128 + 2 * k), .int lane, .int i, .int n, .int (nI tm)] σ Q := by
  obtain ⟨len, g, h1, h2, -, -⟩ := hS
  have t0 : (0 : Int32).toInt = 0 := rfl
  unfold bar at hq
  refine Cs_in (k := kX8_faultOfCells) [some (.ref (128 + 2 * k)), some (.int lane), some (.int i), some (.int n), some (.int (nI tm))] rfl rfl ?_
  have s17 : ¬ (0 ≤ sz.toInt ∧ ¬ ln = lane) → Ev kX8_faultOfCells (17, [some (.ref (128 + 2 * k)), some (.int lane), some (.int i), some (.int n), some (.int (nI tm))], [], σ) Q := by
    intro h
    rw [if_neg h] at hq
    (repeat first | refine Ev_go rfl ?_ | refine Ev_gf rfl (h1) rfl rfl ?_ )
    refine Ev_ifb (fun g => ?_) (fun g => ?_)
    · rw [if_pos (by omega)] at hq
      repeat refine Ev_go rfl ?_
      refine Ev_rt rfl ?_
      exact hq
    · rw [if_neg (by omega)] at hq
      have nb1 := Int32.toInt_lt n
      have nb2 := Int32.le_toInt n
      repeat refine Ev_go rfl ?_
      refine Ev_if (fun g2 => ?_) (fun g2 => ?_)
      · rw [fa_le] at g2
        have tt : ((nI tm).toInt64 * n.toInt64).toInt = (tm : Int) * n.toInt := by
          have e1 : (nI tm).toInt64.toInt = tm := by rw [fa_wide, nI_toInt (by omega)]
          rcases ht with e | e
          · subst e
            rw [fb_mulL (by rw [e1, fa_wide]; omega) (by rw [e1, fa_wide]; omega), e1, fa_wide]
          · subst e
            rw [fb_mulL (by rw [e1, fa_wide]; omega) (by rw [e1, fa_wide]; omega), e1, fa_wide]
        have pos : 0 ≤ (tm : Int) * n.toInt := Int.mul_nonneg (by omega) (by omega)
        rw [if_neg (by omega)] at hq
        repeat refine Ev_go rfl ?_
        refine Ev_cv rfl rfl h1 rfl rfl ?_
        rw [h2 g] at h1
        refine x_hasCells h1 ⟨g, hz⟩ i _ tt ?_
        repeat refine Ev_go rfl ?_
        refine Ev_ifb (fun g3 => ?_) (fun g3 => ?_)
        · rw [if_pos (by omega)] at hq
          repeat refine Ev_go rfl ?_
          refine Ev_rt rfl ?_
          exact hq
        · rw [if_neg (by omega)] at hq
          repeat refine Ev_go rfl ?_
          refine Ev_rt rfl ?_
          exact hq
      · rw [fa_le] at g2
        have neg : (tm : Int) * n.toInt < 0 := by
          rcases ht with e | e <;> subst e <;> omega
        rw [if_pos neg] at hq
        repeat refine Ev_go rfl ?_
        refine Ev_rt rfl ?_
        exact hq
  (repeat first | refine Ev_go rfl ?_ | refine Ev_gf rfl (h1) rfl rfl ?_ )
  refine Ev_ifb (fun g => s17 (fun z => g z.1)) (fun g => ?_)
  (repeat first | refine Ev_go rfl ?_ | refine Ev_gf rfl (h1) rfl rfl ?_ )
  refine Ev_if (fun g2 => s17 (fun z => z.2 g2)) (fun g2 => ?_)
  rw [if_pos ⟨g, g2⟩] at hq
  repeat refine Ev_go rfl ?_
  refine Ev_rt rfl ?_
  exact hq
theorem x_begin {o c : Nat} {v1 v2 v3 : Value} {g : Nat → Int32} (ho : σ.1 o = kt_ob 8 [.ref c, v1, v2, v3]) (hc : σ.1 c = kt_ia 60 g) (oc : o ≠ c) (ln : Int32) (n : Nat) (hn : n ≤ 60) (hq : ∀ g', (∀ i, g' i = if i < n then 0 else g i) → Q none (kt_put (kt_put σ o (kt_ob 8 [.ref c, .int 1, .int ln, .int (nI n)])) c (kt_ia 60 g'))) : Cs nX8_begin [.ref o, .int ln, .int (nI n)] σ Q := by
  refine Cs_in (k := kX8_begin) [some (.ref o), some (.int ln), some (.int (nI n)), none] rfl rfl ?_
  repeat refine Ev_go rfl ?_
  refine Ev_pf rfl ho rfl rfl rfl ?_
  repeat refine Ev_go rfl ?_
  refine Ev_pf rfl (kt_put_s _ _ _) rfl rfl rfl ?_
  rw [kt_put_put]
  repeat refine Ev_go rfl ?_
  refine Ev_pf rfl (kt_put_s _ _ _) rfl rfl rfl ?_
  rw [kt_put_put]
  generalize hσ : kt_put σ o (kt_ob 8 [.ref c, .int 1, .int ln, .int (nI n)]) = τ at hq ⊢
  have to : ∀ z, (kt_put τ c z).1 o = kt_ob 8 [.ref c, .int 1, .int ln, .int (nI n)] := fun z => by rw [← hσ, kt_put_n _ _ oc, kt_put_s]
  have tc : τ.1 c = kt_ia 60 g := by rw [← hσ, kt_put_n _ _ (fun e => oc e.symm)]; exact hc
  rw [← kt_put_id τ c _ tc]
  repeat refine Ev_go rfl ?_
  have lp : ∀ (e x : Nat) (g' : Nat → Int32), x + e = n → (∀ i, g' i = if i < x then 0 else g i) → Ev kX8_begin (if nI n ≤ nI x then 35 else 22, [some (.ref o), some (.int ln), some (.int (nI n)), some (.int (nI x))], [], kt_put τ c (kt_ia 60 g')) Q := by
    intro e
    induction e with
    | zero =>
      intro x g' hx hg
      have e : x = n := by omega
      subst e
      refine Ev_if (fun _ => ?_) (fun g1 => absurd (nI_le (Nat.le_refl _) (by omega)) g1)
      refine Ev_rt rfl ?_
      exact hq g' hg
    | succ e ih =>
      intro x g' hx hg
      refine Ev_if (fun g1 => absurd g1 (nI_ge (by omega) (by omega))) (fun _ => ?_)
      repeat refine Ev_go rfl ?_
      refine Ev_gf rfl (to _) rfl rfl ?_
      repeat refine Ev_go rfl ?_
      refine Ev_iap x rfl rfl (by omega) (by decide) ?_
      repeat refine Ev_go rfl ?_
      rw [nI_1]
      refine ih (x + 1) _ (by omega) (fun i => ?_)
      by_cases e : i = x
      · subst e
        rw [pk_us, if_pos (by omega)]
      · rw [pk_un e, hg i]
        by_cases h : i < x
        · rw [if_pos h, if_pos (by omega)]
        · rw [if_neg h, if_neg (by omega)]
  exact lp n 0 g (by omega) (fun i => by rw [if_neg (by omega)])
theorem x_store {o c : Nat} {v1 v3 : Value} {ln : Int32} {g : Nat → Int32} (ho : σ.1 o = kt_ob 8 [.ref c, v1, .int ln, v3]) (hc : σ.1 c = kt_ia 60 g) (i : Nat) (hi : i < 60) (v : Int32) (hq : Q none (kt_put σ c (kt_ia 60 (upd g i (cut ln v))))) : Cs nX8_store [.ref o, .int (nI i), .int v] σ Q := by
  unfold cut at hq
  refine Cs_in (k := kX8_store) [some (.ref o), some (.int (nI i)), some (.int v)] rfl rfl ?_
  (repeat first | refine Ev_go rfl ?_ | refine Ev_gf rfl (ho) rfl rfl ?_ )
  refine Ev_if (fun g1 => ?_) (fun g1 => ?_)
  · rw [if_pos g1] at hq
    (repeat first | refine Ev_go rfl ?_ | refine Ev_gf rfl (ho) rfl rfl ?_ )
    refine Ev_ias i rfl hc rfl hi (by decide) ?_
    repeat refine Ev_go rfl ?_
    refine Ev_rt rfl ?_
    exact hq
  · rw [if_neg g1] at hq
    (repeat first | refine Ev_go rfl ?_ | refine Ev_gf rfl (ho) rfl rfl ?_ )
    refine Ev_if (fun g2 => ?_) (fun g2 => ?_)
    · rw [if_pos g2] at hq
      (repeat first | refine Ev_go rfl ?_ | refine Ev_gf rfl (ho) rfl rfl ?_ )
      refine Ev_ias i rfl hc rfl hi (by decide) ?_
      repeat refine Ev_go rfl ?_
      refine Ev_rt rfl ?_
      exact hq
    · rw [if_neg g2] at hq
      (repeat first | refine Ev_go rfl ?_ | refine Ev_gf rfl (ho) rfl rfl ?_ )
      refine Ev_ias i rfl hc rfl hi (by decide) ?_
      refine Ev_rt rfl ?_
      exact hq
theorem x_isPart (x : Int32) (hq : Q (some (.int (bI (pt x)))) σ) : Cs nX11_isPart [.int x] σ Q := by
  have t1 : (1 : Int32).toInt = 1 := rfl
  have t9 : (9 : Int32).toInt = 9 := rfl
  refine Cs_in (k := kX11_isPart) [some (.int x)] rfl rfl ?_
  repeat refine Ev_go rfl ?_
  refine Ev_if (fun g => ?_) (fun g => ?_)
  · rw [bI_f (by rw [fa_lt] at g; omega)] at hq
    repeat refine Ev_go rfl ?_
    refine Ev_rt rfl ?_
    exact hq
  · repeat refine Ev_go rfl ?_
    refine Ev_if (fun g2 => ?_) (fun g2 => ?_)
    · rw [bI_f (by rw [fa_lt] at g2; omega)] at hq
      repeat refine Ev_go rfl ?_
      refine Ev_rt rfl ?_
      exact hq
    · rw [bI_t (by rw [fa_lt] at g g2; omega)] at hq
      repeat refine Ev_go rfl ?_
      refine Ev_rt rfl ?_
      exact hq
theorem x_hasOnlyParts {o c : Nat} {v1 v2 v3 : Value} {g : Nat → Int32} (ho : σ.1 o = kt_ob 8 [.ref c, v1, v2, v3]) (hc : σ.1 c = kt_ia 60 g) (i n : Nat) (hi : i + n ≤ 60) (hq : Q (some (.int (bI (∀ y, y < n → pt (g (i + y)))))) σ) : Cs nX8_hasOnlyParts [.ref o, .int (nI i), .int (nI n)] σ Q := by
  refine Cs_in (k := kX8_hasOnlyParts) [some (.ref o), some (.int (nI i)), some (.int (nI n)), none] rfl rfl ?_
  repeat refine Ev_go rfl ?_
  have lp : ∀ (e x : Nat), x + e = n → (∀ y, y < x → pt (g (i + y))) → Ev kX8_hasOnlyParts (if nI i + nI n ≤ nI (i + x) then 29 else 9, [some (.ref o), some (.int (nI i)), some (.int (nI n)), some (.int (nI (i + x)))], [], σ) Q := by
    intro e
    induction e with
    | zero =>
      intro x hx hg
      have e : x = n := by omega
      subst e
      rw [nI_add]
      refine Ev_if (fun _ => ?_) (fun g1 => absurd (nI_le (Nat.le_refl _) (by omega)) g1)
      rw [bI_t hg] at hq
      repeat refine Ev_go rfl ?_
      refine Ev_rt rfl ?_
      exact hq
    | succ e ih =>
      intro x hx hg
      rw [nI_add]
      refine Ev_if (fun g1 => absurd g1 (nI_ge (by omega) (by omega))) (fun _ => ?_)
      (repeat first | refine Ev_go rfl ?_ | refine Ev_gf rfl (ho) rfl rfl ?_ )
      refine Ev_ial (i + x) rfl hc rfl (by omega) (by decide) ?_
      repeat refine Ev_go rfl ?_
      refine Ev_ca rfl ?_
      refine x_isPart _ ?_
      repeat refine Ev_go rfl ?_
      refine Ev_ifb (fun g2 => ?_) (fun g2 => ?_)
      · rw [bI_f (fun z => g2 (z x (by omega)))] at hq
        repeat refine Ev_go rfl ?_
        refine Ev_rt rfl ?_
        exact hq
      · repeat refine Ev_go rfl ?_
        rw [nI_1]
        refine ih (x + 1) (by omega) (fun y hy => ?_)
        by_cases e : y = x
        · rw [e]; exact g2
        · exact hg y (by omega)
  exact lp n 0 (by omega) (fun y hy => absurd hy (Nat.not_lt_zero y))
end XS
