/-! the component: parts taken -/
section XK
variable {σ : kt_H} {Q : Option Value → kt_H → Prop} {o p m : Nat} {num : Int32} {n : Nat} {w d : Nat → Int32} {kd : Int32}
theorem Ev_cp {k : Nat → kt_S} {pc nx : Nat} {L : kt_L} {S : List Value} {a a0 t t0 n0 n1 : Nat} {f g : Nat → Int32} {ni si di : Int32} (s q n : Nat) (hk : k pc = s_cp nx) (h0 : σ.1 a0 = .inl (t0, n0, .inl f)) (h1 : σ.1 a = .inl (t, n1, .inl g)) (hn : ni = nI n) (hs : si = nI s) (hd : di = nI q) (b0 : s + n ≤ n0) (b1 : q + n ≤ n1) (l0 : n0 < 2 ^ 30) (l1 : n1 < 2 ^ 30) (hw : Nat.ble (kt_w S) 8 = true) (h : Ev k (nx, L, S, kt_put σ a (.inl (t, n1, .inl (va_cpy f g s q n)))) Q) : Ev k (pc, L, .int ni :: .int di :: .ref a :: .int si :: .ref a0 :: S, σ) Q := by
  refine Ev_go (fr := (nx, L, S, kt_put σ a (.inl (t, n1, .inl (va_cpy f g s q n))))) ?_ h
  rw [hk]
  unfold s_cp
  simp only [h0, h1]
  subst hn
  subst hs
  subst hd
  have c : ∀ x : Nat, x < 2 ^ 31 → ¬ nI x < 0 := fun x hx => by rw [fa_lt, nI_toInt hx]; show ¬ _ < (0 : Int); omega
  rw [nI_clamp (n := n) (by omega), nI_clamp (n := s) (by omega), nI_clamp (n := q) (by omega)]
  rw [if_neg (fun z => by
    rcases z with z | z | z | z | z
    · exact c s (by omega) z
    · exact c q (by omega) z
    · exact c n (by omega) z
    · omega
    · omega), hw]
  rfl
/-- a hull with other parts -/
abbrev hlP (σ : kt_H) (o p m : Nat) (kd num : Int32) (n : Nat) (g : Nat → Int32) : kt_H := kt_put (kt_put σ o (kt_ob (cK kd) [.int num, .ref p, .int (nI n), .ref m])) p (kt_ia 16 g)
theorem hlP_H {g u : Nat → Int32} (hm : σ.1 m = kt_ia 9 u) (om : o ≠ m) (pm : p ≠ m) (op : o ≠ p) (hk : isKd kd) (n1 : 1 ≤ n) (n8 : n ≤ 8) (hg : ∀ x, x < n → g (2 * x) = w x ∧ g (2 * x + 1) = d x) : Hl (hlP σ o p m kd num n g) o p m kd num n w d :=
  ⟨by rw [kt_put_n _ _ op, kt_put_s], ⟨g, kt_put_s _ _ _, hg⟩, ⟨u, by rw [kt_put_n _ _ (fun e => pm e.symm), kt_put_n _ _ (fun e => om e.symm)]; exact hm⟩, om, pm, op, hk, n1, n8⟩
theorem x_takeParts {st : Int32} {g f : Nat → Int32} {src n0 : Nat} (ho : σ.1 o = kt_ob (cK kd) [.int num, .ref p, .int st, .ref m]) (hp : σ.1 p = kt_ia 16 g) (op : o ≠ p) (hk : isKd kd) (hs : σ.1 src = kt_ia n0 f) (os : src ≠ o) (n8 : n ≤ 8) (i : Nat) (hi : i + 2 * n ≤ n0) (hn0 : n0 ≤ 60) (hq : Q none (hlP σ o p m kd num n (va_cpy f g i 0 (2 * n)))) : Cs nX2_takeParts [.ref o, .ref src, .int (nI i), .int (nI n)] σ Q := by
  have hm := cK_m hk
  refine Cs_in (k := kX2_takeParts) [some (.ref o), some (.ref src), some (.int (nI i)), some (.int (nI n))] rfl rfl ?_
  repeat refine Ev_go rfl ?_
  refine Ev_pf rfl ho hm rfl rfl ?_
  repeat refine Ev_go rfl ?_
  refine Ev_gf rfl (kt_put_s _ _ _) hm rfl ?_
  repeat refine Ev_go rfl ?_
  refine Ev_cp (f := f) (g := g) i 0 (2 * n) rfl (by rw [kt_put_n _ _ os]; exact hs) (by rw [kt_put_n _ _ (fun e => op e.symm)]; exact hp) (by rw [fa_lit 2, pk_mul]) rfl rfl hi (by omega) (by omega) (by decide) rfl ?_
  refine Ev_rt rfl ?_
  exact hq
theorem x_commonDivisor (x y : Nat) (hx : x < 1000) (hy : y < 99) (hq : Q (some (.int (nI (Nat.gcd x y)))) σ) : Cs nX11_commonDivisor [.int (nI x), .int (nI y)] σ Q := by
  refine Cs_in (k := kX11_commonDivisor) [some (.int (nI x)), some (.int (nI y)), none, none, none, none] rfl rfl ?_
  have lp : ∀ (e u v r : Nat) (o5 : Option Value), v + r < 100 → v ≤ e → u < 1000 → Nat.gcd u v = Nat.gcd x y → Ev kX11_commonDivisor (7, [some (.int (nI x)), some (.int (nI y)), some (.int (nI u)), some (.int (nI v)), some (.int (nI r)), o5], [], σ) Q := by
    intro e
    induction e with
    | zero =>
      intro u v r o5 h1 h2 h3 h4
      have : v = 0 := by omega
      subst this
      rw [Nat.gcd_zero_right] at h4
      repeat refine Ev_go rfl ?_
      refine Ev_if (fun g => absurd g (nI_ge (b := 100) (by omega) (by omega))) (fun _ => ?_)
      repeat refine Ev_go rfl ?_
      refine Ev_rt rfl ?_
      rw [h4]
      exact hq
    | succ e ih =>
      intro u v r o5 h1 h2 h3 h4
      repeat refine Ev_go rfl ?_
      refine Ev_if (fun g => absurd g (nI_ge (b := 100) (by omega) (by omega))) (fun _ => ?_)
      repeat refine Ev_go rfl ?_
      refine Ev_if (fun g => ?_) (fun g => ?_)
      · have : v = 0 := (nI_0iff (by omega)).mp g
        subst this
        rw [Nat.gcd_zero_right] at h4
        repeat refine Ev_go rfl ?_
        refine Ev_rt rfl ?_
        rw [h4]
        exact hq
      · have hv : v ≠ 0 := fun z => g (by rw [z]; rfl)
        repeat refine Ev_go rfl ?_
        refine Ev_rem rfl g ?_
        rw [pk_rem (by omega) (by omega) (by omega)]
        have := Nat.mod_lt u (Nat.pos_of_ne_zero hv)
        iterate 7 refine Ev_go rfl ?_
        rw [nI_1]
        refine ih v (u % v) (r + 1) _ (by omega) (by omega) (by omega) ?_
        rw [Nat.gcd_comm v (u % v), ← Nat.gcd_rec, Nat.gcd_comm, h4]
  iterate 6 refine Ev_go rfl ?_
  exact lp y x y 0 none (by omega) (Nat.le_refl _) hx rfl
/-- the parts in the other order -/
theorem x_takeTurned {st : Int32} {g : Nat → Int32} {o2 p2 m2 : Nat} {num2 : Int32} (ho : σ.1 o = kt_ob (cK kd) [.int num, .ref p, .int st, .ref m]) (hp : σ.1 p = kt_ia 16 g) (op : o ≠ p) (hk : isKd kd) (hH : Hl σ o2 p2 m2 kd num2 n w d) (c1 : o2 ≠ o) (c2 : o2 ≠ p) (c3 : p2 ≠ o) (c4 : p2 ≠ p) (hq : ∀ g', (∀ x, x < n → g' (2 * x) = w (n - 1 - x) ∧ g' (2 * x + 1) = d (n - 1 - x)) → Q none (hlP σ o p m kd num n g')) : Cs nX2_takeTurned [.ref o, .ref o2] σ Q := by
  have hm := cK_m hk
  obtain ⟨h1, ⟨gg, h2, h3⟩, -, -, -, -, h8, h9, h10⟩ := hH
  refine Cs_in (k := kX2_takeTurned) [some (.ref o), some (.ref o2), none, none] rfl rfl ?_
  repeat refine Ev_go rfl ?_
  refine Ev_gf rfl h1 hm rfl ?_
  refine Ev_pf rfl ho hm rfl rfl ?_
  generalize hσ : kt_put σ o (kt_ob (cK kd) [.int num, .ref p, .int (nI n), .ref m]) = τ
  have to : ∀ c, (kt_put τ p c).1 o = kt_ob (cK kd) [.int num, .ref p, .int (nI n), .ref m] := fun c => by rw [← hσ, kt_put_n _ _ op, kt_put_s]
  have t2 : ∀ c, (kt_put τ p c).1 o2 = kt_ob (cK kd) [.int num2, .ref p2, .int (nI n), .ref m2] := fun c => by rw [← hσ, kt_put_n _ _ c2, kt_put_n _ _ c1]; exact h1
  have t3 : ∀ c, (kt_put τ p c).1 p2 = kt_ia 16 gg := fun c => by rw [← hσ, kt_put_n _ _ c4, kt_put_n _ _ c3]; exact h2
  have tp : τ.1 p = kt_ia 16 g := by rw [← hσ, kt_put_n _ _ (fun e => op e.symm)]; exact hp
  rw [← kt_put_id τ p _ tp]
  repeat refine Ev_go rfl ?_
  refine Ev_gf rfl (to _) hm rfl ?_
  repeat refine Ev_go rfl ?_
  have lp : ∀ (e x : Nat) (g' : Nat → Int32) (o3 : Option Value), x + e = n → (∀ y, y < x → g' (2 * y) = w (n - 1 - y) ∧ g' (2 * y + 1) = d (n - 1 - y)) → Ev kX2_takeTurned (if nI n ≤ nI x then 69 else 18, [some (.ref o), some (.ref o2), some (.int (nI x)), o3], [], kt_put τ p (kt_ia 16 g')) Q := by
    intro e
    induction e with
    | zero =>
      intro x g' o3 hx hg
      have e : x = n := by omega
      subst e
      refine Ev_if (fun _ => ?_) (fun g1 => absurd (nI_le (Nat.le_refl _) (by omega)) g1)
      refine Ev_rt rfl ?_
      rw [← hσ]
      exact hq g' hg
    | succ e ih =>
      intro x g' o3 hx hg
      refine Ev_if (fun g1 => absurd g1 (nI_ge (by omega) (by omega))) (fun _ => ?_)
      repeat refine Ev_go rfl ?_
      refine Ev_gf rfl (to _) hm rfl ?_
      repeat refine Ev_go rfl ?_
      rw [show nI n - 1 = nI (n - 1) from pk_sub (b := 1) (by omega), pk_sub (by omega)]
      refine Ev_gf rfl (to _) hm rfl ?_
      repeat refine Ev_go rfl ?_
      refine Ev_gf rfl (t2 _) hm rfl ?_
      repeat refine Ev_go rfl ?_
      refine Ev_ial (2 * (n - 1 - x)) rfl (t3 _) (by rw [fa_lit 2, pk_mul]) (by omega) (by decide) ?_
      refine Ev_iap (2 * x) rfl (by rw [fa_lit 2, pk_mul]) (by omega) (by decide) ?_
      repeat refine Ev_go rfl ?_
      refine Ev_gf rfl (to _) hm rfl ?_
      repeat refine Ev_go rfl ?_
      refine Ev_gf rfl (t2 _) hm rfl ?_
      repeat refine Ev_go rfl ?_
      refine Ev_ial (2 * (n - 1 - x) + 1) rfl (t3 _) (by rw [fa_lit 2, pk_mul, nI_1]) (by omega) (by decide) ?_
      refine Ev_iap (2 * x + 1) rfl (by rw [fa_lit 2, pk_mul, nI_1]) (by omega) (by decide) ?_
      repeat refine Ev_go rfl ?_
      refine Ev_gf rfl (to _) hm rfl ?_
      repeat refine Ev_go rfl ?_
      rw [nI_1, (h3 (n - 1 - x) (by omega)).1, (h3 (n - 1 - x) (by omega)).2]
      refine ih (x + 1) _ _ (by omega) (fun y hy => ?_)
      by_cases e : y = x
      · subst e
        rw [pk_un (by omega), pk_us, pk_us]
        exact ⟨rfl, rfl⟩
      · rw [pk_un (by omega), pk_un (by omega), pk_un (by omega), pk_un (by omega)]
        exact hg y (by omega)
  exact lp n 0 g none (by omega) (fun y hy => absurd hy (Nat.not_lt_zero y))
end XK
