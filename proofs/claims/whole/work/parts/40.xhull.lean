/-! the component: a hull and its measures -/
section XB
variable {k : Nat → kt_S} {pc nx : Nat} {L : kt_L} {S : List Value} {σ : kt_H} {Q : Option Value → kt_H → Prop}
/-- a store into the cell that is told as the last put -/
theorem Ev_iap {a t n : Nat} {f : Nat → Int32} {i x : Int32} (j : Nat) (hk : k pc = s_ias nx) (hi : i = nI j) (hj : j < n) (hn : n < 2 ^ 31) (h : Ev k (nx, L, S, kt_put σ a (.inl (t, n, .inl (upd f j x)))) Q) : Ev k (pc, L, .int x :: .int i :: .ref a :: S, kt_put σ a (.inl (t, n, .inl f))) Q := by
  refine Ev_ias j hk (kt_put_s σ a _) hi hj hn ?_
  rw [kt_put_put]
  exact h
theorem Ev_lap {a t n : Nat} {f : Nat → Int32} {i : Int32} (j : Nat) (hk : k pc = s_ial nx) (hi : i = nI j) (hj : j < n) (hn : n < 2 ^ 31) (h : Ev k (nx, L, .int (f j) :: S, kt_put σ a (.inl (t, n, .inl f))) Q) : Ev k (pc, L, .int i :: .ref a :: S, kt_put σ a (.inl (t, n, .inl f))) Q :=
  Ev_ial j hk (kt_put_s σ a _) hi hj hn h
end XB
def cK (kd : Int32) : Nat := if kd = 0 then 2 else if kd = 1 then 1 else 6
abbrev isKd (kd : Int32) : Prop := kd = 0 ∨ kd = 1 ∨ kd = 2
/-- a hull's three cells -/
def Hl (σ : kt_H) (o p m : Nat) (kd num : Int32) (n : Nat) (w d : Nat → Int32) : Prop :=
  σ.1 o = kt_ob (cK kd) [.int num, .ref p, .int (nI n), .ref m] ∧ (∃ g, σ.1 p = kt_ia 16 g ∧ ∀ x, x < n → g (2 * x) = w x ∧ g (2 * x + 1) = d x) ∧ (∃ u, σ.1 m = kt_ia 9 u) ∧ o ≠ m ∧ p ≠ m ∧ o ≠ p ∧ isKd kd ∧ 1 ≤ n ∧ n ≤ 8
theorem Hl.put {σ : kt_H} {o p m : Nat} {kd num : Int32} {n : Nat} {w d : Nat → Int32} (h : Hl σ o p m kd num n w d) (u : Nat → Int32) : Hl (kt_put σ m (kt_ia 9 u)) o p m kd num n w d := by
  obtain ⟨h1, ⟨g, h2, h3⟩, h4, h5, h6, h7, h8, h9, h10⟩ := h
  exact ⟨by rw [kt_put_n _ _ h5]; exact h1, ⟨g, by rw [kt_put_n _ _ h6]; exact h2, h3⟩, ⟨u, kt_put_s _ _ _⟩, h5, h6, h7, h8, h9, h10⟩
/-- all its measures, and what it holds -/
def msX (kd : Int32) (n : Nat) (w d : Nat → Int32) (q : Nat) : Int32 := if q < 8 then msr kd n w d q else rmI kd n w d
theorem cK_m {kd : Int32} (h : isKd kd) : kt_mem (cK kd) [2, 1, 6] = true := by
  rcases h with e | e | e <;> subst e <;> rfl
section XM
variable {σ : kt_H} {Q : Option Value → kt_H → Prop} {o p m : Nat} {num : Int32} {n : Nat} {w d : Nat → Int32} {kd : Int32}
theorem gtI_le (M v : Int32) : gtI M v = if v ≤ M then M else v := by
  unfold gtI
  by_cases h : v < M
  · rw [if_pos h, if_pos (by rw [fa_le]; rw [fa_lt] at h; omega)]
  · rw [if_neg h]
    by_cases h2 : v ≤ M
    · rw [if_pos h2, fa_eq]
      rw [fa_lt] at h; rw [fa_le] at h2; omega
    · rw [if_neg h2]
theorem x_m2_loop (hH : Hl σ o p m kd num n w d) (hq : ∀ o7 o8, Ev kX2_measured (92, [some (.ref o), some (.int (smI w n)), some (.int (smI d n)), some (.int (mxI w n)), some (.int (mxI d n)), some (.int (dtI 0 w d n)), some (.int (nI (2 * n))), o7, o8], [], σ) Q) : ∀ (e x : Nat) (o7 o8 : Option Value), x + e = n → (o7 = none ∨ ∃ y, o7 = some (.int y)) → Ev kX2_measured (if 2 * nI n ≤ nI (2 * x) then 92 else 26, [some (.ref o), some (.int (smI w x)), some (.int (smI d x)), some (.int (mxI w x)), some (.int (mxI d x)), some (.int (dtI 0 w d x)), some (.int (nI (2 * x))), o7, o8], [], σ) Q := by
  obtain ⟨h1, ⟨g, h2, h3⟩, h4, h5, h6, h7, h8, h9, h10⟩ := hH
  have hm := cK_m h8
  intro e
  induction e with
  | zero =>
    intro x o7 o8 hx _
    have e : x = n := by omega
    subst e
    rw [fa_lit 2, pk_mul]
    exact Ev_if (fun _ => hq _ _) (fun g1 => absurd (nI_le (Nat.le_refl _) (by omega)) g1)
  | succ e ih =>
    intro x o7 o8 hx ho7
    rw [fa_lit 2, pk_mul]
    refine Ev_if (fun g1 => absurd g1 (nI_ge (by omega) (by omega))) (fun _ => ?_)
    refine Ev_go rfl ?_
    refine Ev_gf rfl h1 hm rfl ?_
    refine Ev_go rfl ?_
    refine Ev_ial (2 * x) rfl h2 rfl (by omega) (by decide) ?_
    have s86 : ∀ M D : Int32, M = mxI w (x + 1) → D = mxI d (x + 1) → Ev kX2_measured (86, [some (.ref o), some (.int (smI w x + w x)), some (.int (smI d x + d x)), some (.int M), some (.int D), some (.int (dtI 0 w d x + w x * d x)), some (.int (nI (2 * x))), some (.int (w x)), some (.int (d x))], [], σ) Q := by
      intro M D hM hD
      subst hM
      subst hD
      (repeat first | refine Ev_go rfl ?_ | refine Ev_gf rfl (h1) rfl rfl ?_ )
      refine Ev_gf rfl h1 hm rfl ?_
      repeat refine Ev_go rfl ?_
      rw [show nI (2 * x) + 2 = nI (2 * (x + 1)) from by rw [fa_lit 2, nI_add]; rfl]
      exact ih (x + 1) _ _ (by omega) (Or.inr ⟨_, rfl⟩)
    have s75 : ∀ M : Int32, M = mxI w (x + 1) → Ev kX2_measured (75, [some (.ref o), some (.int (smI w x + w x)), some (.int (smI d x + d x)), some (.int M), some (.int (mxI d x)), some (.int (dtI 0 w d x + w x * d x)), some (.int (nI (2 * x))), some (.int (w x)), some (.int (d x))], [], σ) Q := by
      intro M hM
      repeat refine Ev_go rfl ?_
      refine Ev_if (fun g1 => ?_) (fun g1 => ?_)
      · exact s86 _ _ hM (by rw [mxI, gtI_le, if_pos g1])
      · iterate 2 refine Ev_go rfl ?_
        exact s86 _ _ hM (by rw [mxI, gtI_le, if_neg g1])
    rcases ho7 with rfl | ⟨y, rfl⟩
    all_goals
      repeat refine Ev_go rfl ?_
      refine Ev_gf rfl h1 hm rfl ?_
      repeat refine Ev_go rfl ?_
      rw [nI_1]
      refine Ev_ial (2 * x + 1) rfl h2 rfl (by omega) (by decide) ?_
      rw [(h3 x (by omega)).1, (h3 x (by omega)).2]
      repeat refine Ev_go rfl ?_
      refine Ev_if (fun g1 => ?_) (fun g1 => ?_)
      · exact s75 _ (by rw [mxI, gtI_le, if_pos g1])
      · iterate 2 refine Ev_go rfl ?_
        exact s75 _ (by rw [mxI, gtI_le, if_neg g1])
def m2X (n : Nat) (w d : Nat → Int32) (q : Nat) : Int32 := if q = 0 then nI n else if q = 1 then mxI w n else if q = 2 then w (n / 2) else if q = 3 then smI w n else if q = 4 then mxI d n else if q = 5 then d (n / 2) else if q = 6 then smI d n else if q = 7 then 0 else dtI 0 w d n
theorem nine {P : Nat → Prop} (h0 : P 0) (h1 : P 1) (h2 : P 2) (h3 : P 3) (h4 : P 4) (h5 : P 5) (h6 : P 6) (h7 : P 7) (h8 : P 8) : ∀ q, q < 9 → P q := by
  intro q hq
  have : q = 0 ∨ q = 1 ∨ q = 2 ∨ q = 3 ∨ q = 4 ∨ q = 5 ∨ q = 6 ∨ q = 7 ∨ q = 8 := by omega
  rcases this with rfl | rfl | rfl | rfl | rfl | rfl | rfl | rfl | rfl <;> assumption
theorem x_measured2 (hH : Hl σ o p m kd num n w d) (hq : ∀ v, (∀ q, q < 9 → v q = m2X n w d q) → Q (some (.ref m)) (kt_put σ m (kt_ia 9 v))) : Cs nX2_measured [.ref o] σ Q := by
  have hL := @x_m2_loop σ Q o p m num n w d kd hH
  obtain ⟨h1, ⟨g, h2, h3⟩, ⟨u, h4⟩, h5, h6, h7, h8, h9, h10⟩ := hH
  have hm := cK_m h8
  have h1' : ∀ c, (kt_put σ m c).1 o = kt_ob (cK kd) [.int num, .ref p, .int (nI n), .ref m] := fun c => by rw [kt_put_n _ _ h5]; exact h1
  have h2' : ∀ c, (kt_put σ m c).1 p = kt_ia 16 g := fun c => by rw [kt_put_n _ _ h6]; exact h2
  refine Cs_in (k := kX2_measured) [some (.ref o), none, none, none, none, none, none, none, none] rfl rfl ?_
  repeat refine Ev_go rfl ?_
  refine Ev_gf rfl h1 hm rfl ?_
  repeat refine Ev_go rfl ?_
  refine hL (fun o7 o8 => ?_) n 0 _ _ (by omega) (Or.inl rfl)
  repeat refine Ev_go rfl ?_
  refine Ev_gf rfl h1 hm rfl ?_
  repeat refine Ev_go rfl ?_
  rw [fa_lit 2, show nI n / nI 2 = nI (n / 2) from pk_div (d := 2) (by omega) (by decide) (by decide), pk_mul]
  refine Ev_gf rfl h1 hm rfl ?_
  repeat refine Ev_go rfl ?_
  refine Ev_gf rfl h1 hm rfl ?_
  rw [← kt_put_id σ m _ h4]
  refine Ev_iap 0 rfl rfl (by decide) (by decide) ?_
  repeat refine Ev_go rfl ?_
  refine Ev_gf rfl (h1' _) hm rfl ?_
  repeat refine Ev_go rfl ?_
  refine Ev_iap 1 rfl rfl (by decide) (by decide) ?_
  repeat refine Ev_go rfl ?_
  refine Ev_gf rfl (h1' _) hm rfl ?_
  repeat refine Ev_go rfl ?_
  refine Ev_gf rfl (h1' _) hm rfl ?_
  repeat refine Ev_go rfl ?_
  refine Ev_ial (2 * (n / 2)) rfl (h2' _) rfl (by omega) (by decide) ?_
  refine Ev_iap 2 rfl rfl (by decide) (by decide) ?_
  repeat refine Ev_go rfl ?_
  refine Ev_gf rfl (h1' _) hm rfl ?_
  repeat refine Ev_go rfl ?_
  refine Ev_iap 3 rfl rfl (by decide) (by decide) ?_
  repeat refine Ev_go rfl ?_
  refine Ev_gf rfl (h1' _) hm rfl ?_
  repeat refine Ev_go rfl ?_
  refine Ev_iap 4 rfl rfl (by decide) (by decide) ?_
  repeat refine Ev_go rfl ?_
  refine Ev_gf rfl (h1' _) hm rfl ?_
  repeat refine Ev_go rfl ?_
  refine Ev_gf rfl (h1' _) hm rfl ?_
  repeat refine Ev_go rfl ?_
  rw [nI_1]
  refine Ev_ial (2 * (n / 2) + 1) rfl (h2' _) rfl (by omega) (by decide) ?_
  refine Ev_iap 5 rfl rfl (by decide) (by decide) ?_
  repeat refine Ev_go rfl ?_
  refine Ev_gf rfl (h1' _) hm rfl ?_
  repeat refine Ev_go rfl ?_
  refine Ev_iap 6 rfl rfl (by decide) (by decide) ?_
  repeat refine Ev_go rfl ?_
  refine Ev_gf rfl (h1' _) hm rfl ?_
  repeat refine Ev_go rfl ?_
  refine Ev_iap 7 rfl rfl (by decide) (by decide) ?_
  repeat refine Ev_go rfl ?_
  refine Ev_gf rfl (h1' _) hm rfl ?_
  repeat refine Ev_go rfl ?_
  refine Ev_iap 8 rfl rfl (by decide) (by decide) ?_
  repeat refine Ev_go rfl ?_
  refine Ev_gf rfl (h1' _) hm rfl ?_
  refine Ev_rt rfl ?_
  refine hq _ (nine rfl rfl (h3 (n / 2) (by omega)).1 rfl rfl (h3 (n / 2) (by omega)).2 rfl rfl rfl)
theorem dtI_s (s : Int32) (w d : Nat → Int32) : ∀ n, dtI s w d n = dtI 0 w d n + s := by
  intro n
  induction n with
  | zero => exact (Int32.zero_add s).symm
  | succ n ih => rw [dtI, dtI, ih, Int32.add_assoc, Int32.add_comm s, Int32.add_assoc]
theorem x_measured1 (hH : Hl σ o p m kd num n w d) (hk : kd = 1 ∨ kd = 2) (hq : ∀ v, (∀ q, q < 9 → v q = msX 1 n w d q) → Q (some (.ref m)) (kt_put σ m (kt_ia 9 v))) : Cs nX1_measured [.ref o] σ Q := by
  have h1 := hH.1
  refine Cs_in (k := kX1_measured) [some (.ref o), none] rfl rfl ?_
  repeat refine Ev_go rfl ?_
  refine Ev_cv (as := []) (S' := []) rfl rfl h1 (y := nX2_measured) (by rcases hk with e | e <;> subst e <;> rfl) rfl ?_
  refine x_measured2 hH (fun v hv => ?_)
  repeat refine Ev_go rfl ?_
  refine Ev_iap 7 rfl rfl (by decide) (by decide) ?_
  repeat refine Ev_go rfl ?_
  refine Ev_lap 8 rfl rfl (by decide) (by decide) ?_
  repeat refine Ev_go rfl ?_
  refine Ev_lap 3 rfl rfl (by decide) (by decide) ?_
  repeat refine Ev_go rfl ?_
  refine Ev_iap 8 rfl rfl (by decide) (by decide) ?_
  repeat refine Ev_go rfl ?_
  refine Ev_rt rfl ?_
  refine hq _ (nine (hv 0 (by decide)) (hv 1 (by decide)) (hv 2 (by decide)) (hv 3 (by decide)) (hv 4 (by decide)) (hv 5 (by decide)) (hv 6 (by decide)) rfl ?_)
  show v 8 + v 3 = rmI 1 n w d
  rw [hv 8 (by decide), hv 3 (by decide)]
  exact (dtI_s _ w d n).symm
theorem max_gt (x y : Int32) : (if x < y then y else x) = gtI x y := by
  rw [gtI_le]
  by_cases h : x < y
  · rw [if_pos h, if_neg (by rw [fa_le]; rw [fa_lt] at h; omega)]
  · rw [if_neg h, if_pos (by rw [fa_le]; rw [fa_lt] at h; omega)]
theorem x_measured6 (hH : Hl σ o p m kd num n w d) (hk : kd = 2) (hq : ∀ v, (∀ q, q < 9 → v q = msX 2 n w d q) → Q (some (.ref m)) (kt_put σ m (kt_ia 9 v))) : Cs nX6_measured [.ref o] σ Q := by
  have h1 := hH.1
  refine Cs_in (k := kX6_measured) [some (.ref o), none] rfl rfl ?_
  repeat refine Ev_go rfl ?_
  refine Ev_cv (as := []) (S' := []) rfl rfl h1 (y := nX1_measured) (by subst hk; rfl) rfl ?_
  refine x_measured1 hH (Or.inr hk) (fun v hv => ?_)
  repeat refine Ev_go rfl ?_
  refine Ev_lap 0 rfl rfl (by decide) (by decide) ?_
  repeat refine Ev_go rfl ?_
  refine Ev_iap 0 rfl rfl (by decide) (by decide) ?_
  repeat refine Ev_go rfl ?_
  refine Ev_rt rfl ?_
  refine hq _ (nine ?_ (hv 1 (by decide)) (hv 2 (by decide)) (hv 3 (by decide)) (hv 4 (by decide)) (hv 5 (by decide)) (hv 6 (by decide)) (hv 7 (by decide)) (hv 8 (by decide)))
  show (if 0 < v 0 - 2 then v 0 - 2 else 0) = gtI 0 (nI n - 2)
  rw [max_gt, hv 0 (by decide)]
  rfl
/-- the call by the hull's own kind -/
theorem Ev_meas {k : Nat → kt_S} {pc nx : Nat} {L : kt_L} {S : List Value} (hk : k pc = s_cv [(2, 12), (1, 5), (6, 38)] 0 nx) (hw : Nat.ble (kt_w S) 8 = true) (hH : Hl σ o p m kd num n w d) (hq : ∀ v, (∀ q, q < 9 → v q = msX kd n w d q) → Ev k (nx, L, .ref m :: S, kt_put σ m (kt_ia 9 v)) Q) : Ev k (pc, L, .ref o :: S, σ) Q := by
  have h1 := hH.1
  have h8 := hH.2.2.2.2.2.2.1
  rcases h8 with e | e | e
  · subst e
    refine Ev_cv (as := []) (S' := S) hk rfl h1 (y := nX2_measured) rfl hw ?_
    have e : ∀ q, q < 9 → m2X n w d q = msX 0 n w d q := nine rfl rfl rfl rfl rfl rfl rfl rfl rfl
    exact x_measured2 hH (fun v hv => hq v (fun q h => (hv q h).trans (e q h)))
  · subst e
    refine Ev_cv (as := []) (S' := S) hk rfl h1 (y := nX1_measured) rfl hw ?_
    exact x_measured1 hH (Or.inl rfl) hq
  · subst e
    refine Ev_cv (as := []) (S' := S) hk rfl h1 (y := nX6_measured) rfl hw ?_
    exact x_measured6 hH rfl hq
end XM
