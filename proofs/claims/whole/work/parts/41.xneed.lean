/-! the component: needs -/
abbrev nvOk (nv : Nat → Int32) : Prop := (0 ≤ (nv 0).toInt ∧ (nv 0).toInt ≤ 8) ∧ (0 ≤ (nv 1).toInt ∧ (nv 1).toInt ≤ 8) ∧ (1 ≤ (nv 2).toInt ∧ (nv 2).toInt ≤ 9) ∧ (0 ≤ (nv 3).toInt ∧ (nv 3).toInt ≤ 999) ∧ (0 ≤ (nv 4).toInt ∧ (nv 4).toInt ≤ 9) ∧ (1 ≤ (nv 5).toInt ∧ (nv 5).toInt ≤ 99)
def Nd (σ : kt_H) (nv : Nat → Int32) : Prop := σ.1 4 = kt_ob 5 [.ref 5] ∧ (∃ g, σ.1 5 = kt_ia 6 g ∧ ∀ q, q < 6 → g q = nv q) ∧ nvOk nv
abbrev Bd (n : Nat) (w d : Nat → Int32) : Prop := ∀ x, x < n → pt (w x) ∧ pt (d x)
/-- the first need that is broken, eightfold, and the station, or -9 -/
def fxI (nv : Nat → Int32) (kd : Int32) (n : Nat) (w d : Nat → Int32) : Int32 := if fbI nv kd n w d < 0 then -9 else 8 * fbI nv kd n w d + brI nv kd n w d (nC (fbI nv kd n w d))
section XN
variable {σ : kt_H} {Q : Option Value → kt_H → Prop} {o p m : Nat} {num : Int32} {n : Nat} {w d : Nat → Int32} {kd : Int32} {nv : Nat → Int32}
theorem x_costOf (hN : Nd σ nv) {m : Nat} {v : Nat → Int32} (hm : σ.1 m = kt_ia 9 v) (hq : Q (some (.int (nv 4 * (v 3 + 2 * v 6)))) σ) : Cs nX5_costOf [.ref 4, .ref m] σ Q := by
  obtain ⟨h4, ⟨g, h5, hg⟩, -⟩ := hN
  refine Cs_in (k := kX5_costOf) [some (.ref 4), some (.ref m)] rfl rfl ?_
  (repeat first | refine Ev_go rfl ?_ | refine Ev_gf rfl (h4) rfl rfl ?_ )
  refine Ev_ial 4 rfl h5 rfl (by decide) (by decide) ?_
  repeat refine Ev_go rfl ?_
  refine Ev_ial 3 rfl hm rfl (by decide) (by decide) ?_
  repeat refine Ev_go rfl ?_
  refine Ev_ial 6 rfl hm rfl (by decide) (by decide) ?_
  repeat refine Ev_go rfl ?_
  refine Ev_rt rfl ?_
  rw [hg 4 (by decide)]
  exact hq
theorem x_freeWorth (hN : Nd σ nv) {m : Nat} {v : Nat → Int32} (hm : σ.1 m = kt_ia 9 v) (F : Int32) (hq : Q (some (.int (F * v 8 - nv 4 * (v 3 + 2 * v 6)))) σ) : Cs nX5_freeWorth [.ref 4, .ref m, .int F] σ Q := by
  have h4 := hN.1
  refine Cs_in (k := kX5_freeWorth) [some (.ref 4), some (.ref m), some (.int F)] rfl rfl ?_
  repeat refine Ev_go rfl ?_
  refine Ev_ial 8 rfl hm rfl (by decide) (by decide) ?_
  repeat refine Ev_go rfl ?_
  refine Ev_cv rfl rfl h4 rfl rfl ?_
  refine x_costOf hN hm ?_
  repeat refine Ev_go rfl ?_
  refine Ev_rt rfl ?_
  exact hq
theorem abs_gt (v : Int32) : (if 0 ≤ v then v else 0 - v) = gtI v (-v) := by
  unfold gtI
  rw [Int32.zero_sub]
  have h1 := Int32.le_toInt v
  have h2 := Int32.toInt_lt v
  have t0 : (0 : Int32).toInt = 0 := rfl
  by_cases e : v.toInt = -2147483648
  · have : v = -2147483648 := by rw [fa_eq]; exact e
    subst this
    rfl
  · have en := fb_negI e
    by_cases h : 0 ≤ v
    · rw [if_pos h]
      by_cases g : -v < v
      · rw [if_pos g]
      · rw [if_neg g, fa_eq, en]
        rw [fa_lt, en] at g; rw [fa_le, t0] at h; omega
    · rw [if_neg h, if_neg (by rw [fa_lt, en]; rw [fa_le, t0] at h; omega)]
theorem x_fb_1 (hH : Hl σ o p m kd num n w d) (hN : Nd σ nv) {m2 : Nat} (hgo : fsI (b0P nv n w) n 0 = -9 → ∀ o4, Ev kX5_firstBroken (60, [some (.ref 4), some (.ref o), some (.ref m2), some (.int (nI (n - 1))), some (.int o4)], [], σ) Q) (hret : ∀ y, y < n → fsI (b0P nv n w) n 0 = nI y → Q (some (.int (nI y))) σ) : ∀ (e x : Nat), x + e = n - 1 → fsI (b0P nv n w) n 0 = fsI (b0P nv n w) (e + 1) x → Ev kX5_firstBroken (if nI (n - 1) ≤ nI x then 60 else 16, [some (.ref 4), some (.ref o), some (.ref m2), some (.int (nI (n - 1))), some (.int (nI x))], [], σ) Q := by
  obtain ⟨h1, ⟨g, h2, h3⟩, -, -, -, -, h8, h9, h10⟩ := hH
  obtain ⟨q4, ⟨gn, q5, qg⟩, qo⟩ := hN
  have hm := cK_m h8
  intro e
  induction e with
  | zero =>
    intro x hx hs
    refine Ev_if (fun _ => hgo ?_ _) (fun g1 => absurd (nI_le (by omega) (by omega)) g1)
    rw [hs, fsI, if_neg, fsI]
    show ¬ nv 0 < gtI (byI n w x) (-byI n w x)
    unfold byI
    rw [if_neg (by omega), fa_lt]
    have : (gtI 0 (-0)).toInt = 0 := rfl
    omega
  | succ e ih =>
    intro x hx hs
    refine Ev_if (fun g1 => absurd g1 (nI_ge (by omega) (by omega))) (fun _ => ?_)
    refine Ev_go rfl ?_
    refine Ev_gf rfl h1 hm rfl ?_
    repeat refine Ev_go rfl ?_
    rw [fa_lit 2, pk_mul]
    refine Ev_ial (2 * x) rfl h2 rfl (by omega) (by decide) ?_
    repeat refine Ev_go rfl ?_
    refine Ev_gf rfl h1 hm rfl ?_
    repeat refine Ev_go rfl ?_
    rw [fa_lit 2, pk_mul, nI_add, show 2 * x + 2 = 2 * (x + 1) by omega]
    refine Ev_ial (2 * (x + 1)) rfl h2 rfl (by omega) (by decide) ?_
    rw [(h3 x (by omega)).1, (h3 (x + 1) (by omega)).1]
    (repeat first | refine Ev_go rfl ?_ | refine Ev_gf rfl (q4) rfl rfl ?_ )
    refine Ev_ial 0 rfl q5 rfl (by decide) (by decide) ?_
    rw [abs_gt, qg 0 (by decide)]
    repeat refine Ev_go rfl ?_
    have e0 : byI n w x = w x - w (x + 1) := by unfold byI; rw [if_pos (by omega)]
    refine Ev_if (fun g1 => ?_) (fun g1 => ?_)
    · repeat refine Ev_go rfl ?_
      rw [nI_1]
      refine ih (x + 1) (by omega) ?_
      rw [hs, fsI, if_neg]
      rw [b0P, e0, fa_lt]; rw [fa_le] at g1; omega
    · repeat refine Ev_go rfl ?_
      refine Ev_rt rfl ?_
      rw [Int32.zero_add]
      refine hret x (by omega) ?_
      rw [hs, fsI, if_pos]
      rw [b0P, e0, fa_lt]; rw [fa_le] at g1; omega
theorem x_fb_2 (hH : Hl σ o p m kd num n w d) (hB : Bd n w d) (hN : Nd σ nv) {m2 : Nat} (hgo : fsI (b1P nv w d) n 0 = -9 → ∀ o4, Ev kX5_firstBroken (111, [some (.ref 4), some (.ref o), some (.ref m2), some (.int (nI (n - 1))), some (.int o4)], [], σ) Q) (hret : ∀ y, y < n → fsI (b1P nv w d) n 0 = nI y → Q (some (.int (8 + nI y))) σ) : ∀ (e x : Nat), x + e = n → fsI (b1P nv w d) n 0 = fsI (b1P nv w d) e x → Ev kX5_firstBroken (if nI (n - 1) < nI x then 111 else 69, [some (.ref 4), some (.ref o), some (.ref m2), some (.int (nI (n - 1))), some (.int (nI x))], [], σ) Q := by
  obtain ⟨h1, ⟨g, h2, h3⟩, -, -, -, -, h8, h9, h10⟩ := hH
  obtain ⟨q4, ⟨gn, q5, qg⟩, qo⟩ := hN
  have hm := cK_m h8
  intro e
  induction e with
  | zero =>
    intro x hx hs
    refine Ev_if (fun _ => hgo ?_ _) (fun g1 => absurd (by rw [fa_lt, nI_toInt (by omega), nI_toInt (by omega)]; omega) g1)
    rw [hs, fsI]
  | succ e ih =>
    intro x hx hs
    refine Ev_if (fun g1 => absurd g1 (by rw [fa_lt, nI_toInt (by omega), nI_toInt (by omega)]; omega)) (fun _ => ?_)
    refine Ev_go rfl ?_
    refine Ev_gf rfl h1 hm rfl ?_
    repeat refine Ev_go rfl ?_
    rw [fa_lit 2, pk_mul, nI_1]
    refine Ev_ial (2 * x + 1) rfl h2 rfl (by omega) (by decide) ?_
    repeat refine Ev_go rfl ?_
    refine Ev_gf rfl h1 hm rfl ?_
    repeat refine Ev_go rfl ?_
    rw [fa_lit 2, pk_mul]
    refine Ev_ial (2 * x) rfl h2 rfl (by omega) (by decide) ?_
    rw [(h3 x (by omega)).1, (h3 x (by omega)).2]
    (repeat first | refine Ev_go rfl ?_ | refine Ev_gf rfl (q4) rfl rfl ?_ )
    refine Ev_ial 1 rfl q5 rfl (by decide) (by decide) ?_
    rw [qg 1 (by decide)]
    repeat refine Ev_go rfl ?_
    have b := hB x (by omega)
    have t : b1P nv w d x ↔ ¬ d x - w x ≤ nv 1 := by
      rw [b1P, fa_lt, fa_le, fb_addI (by omega) (by omega), fb_subI (by omega) (by omega)]
      omega
    refine Ev_if (fun g1 => ?_) (fun g1 => ?_)
    · repeat refine Ev_go rfl ?_
      rw [nI_1]
      refine ih (x + 1) (by omega) ?_
      rw [hs, fsI, if_neg (fun z => t.mp z g1)]
    · repeat refine Ev_go rfl ?_
      refine Ev_rt rfl ?_
      refine hret x (by omega) ?_
      rw [hs, fsI, if_pos (t.mpr g1)]
theorem fsI_none {P : Nat → Prop} [DecidablePred P] : ∀ (e x : Nat), (∀ y, x ≤ y → y < x + e → ¬ P y) → fsI P e x = -9 := by
  intro e
  induction e with
  | zero => intro x _; rfl
  | succ e ih =>
    intro x h
    rw [fsI, if_neg (h x (Nat.le_refl _) (by omega))]
    exact ih (x + 1) (fun y a b => h y (by omega) (by omega))
theorem fsI_at {P : Nat → Prop} [DecidablePred P] : ∀ (e x y : Nat), x ≤ y → y < x + e → (∀ z, x ≤ z → z < y → ¬ P z) → P y → fsI P e x = nI y := by
  intro e
  induction e with
  | zero => intro x y a b; omega
  | succ e ih =>
    intro x y a b h hp
    by_cases e : x = y
    · subst e; rw [fsI, if_pos hp]
    · rw [fsI, if_neg (h x (Nat.le_refl _) (by omega))]
      exact ih (x + 1) y (by omega) (by omega) (fun z a b => h z (by omega) b) hp
theorem fbI_eq : fbI nv kd n w d = if fsI (b0P nv n w) n 0 < 0 then (if fsI (b1P nv w d) n 0 < 0 then (if fsI (b2P nv n w) n 0 < 0 then (if (if nv 3 ≤ rmI kd n w d then (-9 : Int32) else 0) < 0 then -9 else 3) else 2) else 1) else 0 := rfl
theorem x_firstBroken (hH : Hl σ o p m kd num n w d) (hB : Bd n w d) (hN : Nd σ nv) {m2 : Nat} {v : Nat → Int32} (hv : σ.1 m2 = kt_ia 9 v) (h8v : v 8 = rmI kd n w d) (hq : Q (some (.int (fxI nv kd n w d))) σ) : Cs nX5_firstBroken [.ref 4, .ref o, .ref m2] σ Q := by
  have L1 := @x_fb_1 σ Q o p m num n w d kd nv hH hN m2
  have L2 := @x_fb_2 σ Q o p m num n w d kd nv hH hB hN m2
  obtain ⟨h1, ⟨g, h2, h3⟩, -, -, -, -, h8, h9, h10⟩ := hH
  obtain ⟨q4, ⟨gn, q5, qg⟩, qo⟩ := hN
  have hm := cK_m h8
  have neg : ∀ y : Nat, y < 8 → ¬ nI y < 0 := fun y hy => by rw [fa_lt, nI_toInt (by omega)]; show ¬ (_ : Int) < 0; omega
  refine Cs_in (k := kX5_firstBroken) [some (.ref 4), some (.ref o), some (.ref m2), none, none] rfl rfl ?_
  repeat refine Ev_go rfl ?_
  refine Ev_gf rfl h1 hm rfl ?_
  repeat refine Ev_go rfl ?_
  rw [show nI n - 1 = nI (n - 1) from pk_sub (b := 1) (by omega)]
  refine L1 (fun e0 o4 => ?_) (fun y hy e0 => ?_) (n - 1) 0 (by omega) (by rw [show n - 1 + 1 = n by omega])
  rotate_left
  · have : fxI nv kd n w d = nI y := by
      have f0 : fbI nv kd n w d = 0 := by rw [fbI_eq, e0, if_neg (neg y (by omega))]
      unfold fxI
      rw [f0, if_neg (by decide)]
      show 0 + fsI (b0P nv n w) n 0 = _
      rw [e0, Int32.zero_add]
    rw [this] at hq
    exact hq
  repeat refine Ev_go rfl ?_
  refine L2 (fun e1 o4 => ?_) (fun y hy e1 => ?_) n 0 (by omega) rfl
  rotate_left
  · have : fxI nv kd n w d = 8 + nI y := by
      have f0 : fbI nv kd n w d = 1 := by rw [fbI_eq, e0, e1, if_pos (by decide), if_neg (neg y (by omega))]
      unfold fxI
      rw [f0, if_neg (by decide)]
      show 8 + fsI (b1P nv w d) n 0 = _
      rw [e1]
    rw [this] at hq
    exact hq
  repeat refine Ev_go rfl ?_
  refine Ev_if (fun g1 => absurd g1 (neg (n - 1) (by omega))) (fun _ => ?_)
  refine Ev_go rfl ?_
  refine Ev_gf rfl h1 hm rfl ?_
  repeat refine Ev_go rfl ?_
  refine Ev_ial 0 rfl h2 rfl (by decide) (by decide) ?_
  (repeat first | refine Ev_go rfl ?_ | refine Ev_gf rfl (q4) rfl rfl ?_ )
  refine Ev_ial 2 rfl q5 rfl (by decide) (by decide) ?_
  rw [show g 0 = w 0 from (h3 0 (by omega)).1, qg 2 (by decide)]
  repeat refine Ev_go rfl ?_
  refine Ev_if (fun g1 => ?_) (fun g1 => ?_)
  rotate_left
  · have e2 : fsI (b2P nv n w) n 0 = nI 0 := fsI_at n 0 0 (by omega) (by omega) (fun z a b => by omega) ⟨Or.inl rfl, by rw [fa_lt]; rw [fa_le] at g1; omega⟩
    have : fxI nv kd n w d = 16 := by
      have f0 : fbI nv kd n w d = 2 := by rw [fbI_eq, e0, e1, e2, if_pos (by decide), if_pos (by decide), if_neg (by decide)]
      unfold fxI
      rw [f0, if_neg (by decide)]
      show 16 + fsI (b2P nv n w) n 0 = _
      rw [e2]
      rfl
    rw [this] at hq
    repeat refine Ev_go rfl ?_
    refine Ev_rt rfl ?_
    exact hq
  repeat refine Ev_go rfl ?_
  refine Ev_if (fun g1 => absurd g1 (neg (n - 1) (by omega))) (fun _ => ?_)
  refine Ev_go rfl ?_
  refine Ev_gf rfl h1 hm rfl ?_
  repeat refine Ev_go rfl ?_
  rw [fa_lit 2, pk_mul]
  refine Ev_ial (2 * (n - 1)) rfl h2 rfl (by omega) (by decide) ?_
  (repeat first | refine Ev_go rfl ?_ | refine Ev_gf rfl (q4) rfl rfl ?_ )
  refine Ev_ial 2 rfl q5 rfl (by decide) (by decide) ?_
  rw [(h3 (n - 1) (by omega)).1, qg 2 (by decide)]
  repeat refine Ev_go rfl ?_
  refine Ev_if (fun g2 => ?_) (fun g2 => ?_)
  rotate_left
  · have e2 : fsI (b2P nv n w) n 0 = nI (n - 1) := fsI_at n 0 (n - 1) (by omega) (by omega) (fun z a b c => by
      rcases c.1 with e | e
      · subst e
        have c := c.2
        rw [fa_lt] at c; rw [fa_le] at g1; omega
      · omega) ⟨Or.inr rfl, by rw [fa_lt]; rw [fa_le] at g2; omega⟩
    have : fxI nv kd n w d = 16 + nI (n - 1) := by
      have f0 : fbI nv kd n w d = 2 := by rw [fbI_eq, e0, e1, e2, if_pos (by decide), if_pos (by decide), if_neg (neg (n - 1) (by omega))]
      unfold fxI
      rw [f0, if_neg (by decide)]
      show 16 + fsI (b2P nv n w) n 0 = _
      rw [e2]
    rw [this] at hq
    repeat refine Ev_go rfl ?_
    refine Ev_rt rfl ?_
    exact hq
  have e2 : fsI (b2P nv n w) n 0 = -9 := fsI_none n 0 (fun y a b c => by
    have c2 := c.2
    rw [fa_lt] at c2; rw [fa_le] at g1 g2
    rcases c.1 with e | e
    · subst e; omega
    · subst e; omega)
  repeat refine Ev_go rfl ?_
  refine Ev_ial 8 rfl hv rfl (by decide) (by decide) ?_
  (repeat first | refine Ev_go rfl ?_ | refine Ev_gf rfl (q4) rfl rfl ?_ )
  refine Ev_ial 3 rfl q5 rfl (by decide) (by decide) ?_
  rw [h8v, qg 3 (by decide)]
  repeat refine Ev_go rfl ?_
  refine Ev_if (fun g3 => ?_) (fun g3 => ?_)
  · have : fxI nv kd n w d = -9 := by
      have f0 : fbI nv kd n w d = -9 := by rw [fbI_eq, e0, e1, e2, if_pos (by decide), if_pos (by decide), if_pos (by decide), if_pos g3]; rfl
      unfold fxI
      rw [f0, if_pos (by decide)]
    rw [this] at hq
    repeat refine Ev_go rfl ?_
    refine Ev_rt rfl ?_
    exact hq
  · have : fxI nv kd n w d = 24 := by
      have f0 : fbI nv kd n w d = 3 := by rw [fbI_eq, e0, e1, e2, if_pos (by decide), if_pos (by decide), if_pos (by decide), if_neg g3]; rfl
      unfold fxI
      rw [f0, if_neg (by decide)]
      show 24 + (if nv 3 ≤ rmI kd n w d then -9 else 0) = 24
      rw [if_neg g3]
      rfl
    rw [this] at hq
    repeat refine Ev_go rfl ?_
    refine Ev_rt rfl ?_
    exact hq
end XN
