/-! the component: the best, mended -/
section XP3
variable {f : FF} {a : AA} {σ : kt_H} {Q : Option Value → kt_H → Prop}
theorem X_shapes (hI : Inv f a) (hX : Xr f a σ) (n m sort : Int32) (hq : ∀ τ, Sr σ τ → Q (some (.int (sp_shapes a n m sort))) τ) : Cs nX11_shapes [.ref 0, .int n, .int m, .int sort] σ Q := by
  have c0 := hX.c0
  obtain ⟨x, h16⟩ := hX.c16
  unfold sp_shapes at hq
  refine Cs_in (k := kX11_shapes) [some (.ref 0), some (.int n), some (.int m), some (.int sort)] rfl rfl ?_
  repeat refine Ev_go rfl ?_
  refine Ev_ca rfl ?_
  refine x_areShapes n m sort ?_
  repeat refine Ev_go rfl ?_
  refine Ev_ifb (fun z => ?_) (fun z => ?_)
  · rw [if_pos z] at hq
    repeat refine Ev_go rfl ?_
    refine Ev_rt rfl ?_
    exact hq σ Sr.rf
  · rw [if_neg (fun y => y z)] at hq
    obtain ⟨n', M, k, n1, n4, M1, M3, kk, rfl, rfl, rfl, en, em⟩ := so_k z
    obtain ⟨g6, c6, g6g⟩ := hX.c6
    unfold R2 at hq
    rw [en, em] at hq
    (repeat first | refine Ev_go rfl ?_ | refine Ev_gf rfl (c0) rfl rfl ?_ )
    refine Ev_aal k rfl c6 rfl rfl kk (by decide) ?_
    rw [g6g k kk]
    (repeat first | refine Ev_go rfl ?_ | refine Ev_gf rfl (c0) rfl rfl ?_ )
    refine Ev_cv rfl rfl h16 rfl rfl ?_
    refine x_countAll kk (hX.sp kk) n1 n4 M1 M3 (hX.nd hI) (fun τ t1 t2 => ?_)
    repeat refine Ev_go rfl ?_
    refine Ev_rt rfl ?_
    exact hq τ (t1.sr kk t2)
theorem X_crowd (hI : Inv f a) (hX : Xr f a σ) (n m sort l v : Int32) (hq : ∀ τ, Sr σ τ → Q (some (.int (sp_crowd f a n m sort l v))) τ) : Cs nX11_crowd [.ref 0, .int n, .int m, .int sort, .int l, .int v] σ Q := by
  have c0 := hX.c0
  obtain ⟨x, h16⟩ := hX.c16
  unfold sp_crowd at hq
  refine Cs_in (k := kX11_crowd) [some (.ref 0), some (.int n), some (.int m), some (.int sort), some (.int l), some (.int v), none] rfl rfl ?_
  repeat refine Ev_go rfl ?_
  refine Ev_cv rfl rfl c0 rfl rfl ?_
  refine x_lawAt hI hX l (fun hl L b1 b2 b3 b4 => ?_) (fun hl => ?_)
  rotate_left
  · rw [if_pos hl] at hq
    repeat refine Ev_go rfl ?_
    refine Ev_rt rfl ?_
    exact hq σ Sr.rf
  rw [if_neg (fun z => z hl)] at hq
  repeat refine Ev_go rfl ?_
  refine Ev_ca rfl ?_
  refine x_areShapes n m sort ?_
  repeat refine Ev_go rfl ?_
  refine Ev_ifb (fun z => ?_) (fun z => ?_)
  · rw [if_pos z] at hq
    repeat refine Ev_go rfl ?_
    refine Ev_rt rfl ?_
    exact hq σ Sr.rf
  · rw [if_neg (fun y => y z)] at hq
    obtain ⟨n', M, k, n1, n4, M1, M3, kk, rfl, rfl, rfl, en, em⟩ := so_k z
    obtain ⟨-, c, k1, k2, k3, k4, hL⟩ := hX.l hI b1
    obtain ⟨g6, c6, g6g⟩ := hX.c6
    subst b3
    unfold R2 at hq
    rw [en, em] at hq
    (repeat first | refine Ev_go rfl ?_ | refine Ev_gf rfl (c0) rfl rfl ?_ )
    refine Ev_aal k rfl c6 rfl rfl kk (by decide) ?_
    rw [g6g k kk]
    (repeat first | refine Ev_go rfl ?_ | refine Ev_gf rfl (c0) rfl rfl ?_ )
    refine Ev_cv rfl rfl h16 rfl rfl ?_
    refine x_countOwing kk (hX.sp kk) n1 n4 M1 M3 (hX.nd hI) b2 k1 hL v (fun τ t1 t2 => ?_)
    repeat refine Ev_go rfl ?_
    refine Ev_rt rfl ?_
    exact hq τ (t1.sr kk t2)
theorem X_best (hI : Inv f a) (hX : Xr f a σ) (n m sort l what : Int32) (hq : ∀ τ, Sr σ τ → Q (some (.long (sp_best f a n m sort l what))) τ) : Cs nX11_best [.ref 0, .int n, .int m, .int sort, .int l, .int what] σ Q := by
  have c0 := hX.c0
  obtain ⟨t0, t1, t2, t3, -⟩ := t01
  unfold sp_best at hq
  refine Cs_in (k := kX11_best) [some (.ref 0), some (.int n), some (.int m), some (.int sort), some (.int l), some (.int what), none] rfl rfl ?_
  have out : (nL f l ∨ ¬ isSo n m sort ∨ ¬ (0 ≤ what.toInt ∧ what.toInt ≤ 3)) → Ev kX11_best (29, [some (.ref 0), some (.int n), some (.int m), some (.int sort), some (.int l), some (.int what), none], [], σ) Q := by
    intro z
    rw [if_pos z] at hq
    repeat refine Ev_go rfl ?_
    refine Ev_rt rfl ?_
    exact hq σ Sr.rf
  repeat refine Ev_go rfl ?_
  refine Ev_cv rfl rfl c0 rfl rfl ?_
  refine x_isLawOrNone hI hX l (fun hl => ?_) (fun hl => ?_)
  rotate_left
  · iterate 1 refine Ev_go rfl ?_
    exact out (Or.inl hl)
  repeat refine Ev_go rfl ?_
  refine Ev_ca rfl ?_
  refine x_areShapes n m sort ?_
  repeat refine Ev_go rfl ?_
  refine Ev_ifb (fun z => out (Or.inr (Or.inl z))) (fun z => ?_)
  repeat refine Ev_go rfl ?_
  refine Ev_if (fun y => out (Or.inr (Or.inr (fun u => by rw [fa_lt] at y; omega)))) (fun z1 => ?_)
  repeat refine Ev_go rfl ?_
  refine Ev_if (fun z2 => ?_) (fun y => out (Or.inr (Or.inr (fun u => by rw [fa_le] at y; omega))))
  rw [fa_lt] at z1
  rw [fa_le] at z2
  rw [if_neg (fun y => y.elim (nL_or hl) (fun y => y.elim (fun y => y z) (fun y => y ⟨by omega, by omega⟩)))] at hq
  obtain ⟨n', M, k, n1, n4, M1, M3, kk, rfl, rfl, rfl, en, em⟩ := so_k z
  unfold bR R2 at hq
  rw [en, em] at hq
  repeat refine Ev_go rfl ?_
  refine Ev_cv rfl rfl c0 rfl rfl ?_
  refine x_lawK hI hX l hl (fun lv hK => ?_)
  repeat refine Ev_go rfl ?_
  refine Ev_cv rfl rfl c0 rfl rfl ?_
  refine x_bestBy hI hX kk n1 n4 M1 M3 hl hK (fun _ => rfl) (fun τ o lv' lo' hS h16 hB0 hB => ?_)
  obtain ⟨x, h16⟩ := h16
  have hB' := hB
  obtain ⟨wo, fw, pd, hd, g, b1, b2, b3⟩ := hB
  (repeat first | refine Ev_go rfl ?_ | refine Ev_gf rfl (b1) rfl rfl ?_ )
  refine Ev_ifb (fun y => ?_) (fun any => ?_)
  · rw [if_pos (Decidable.not_not.mp y)] at hq
    repeat refine Ev_go rfl ?_
    refine Ev_rt rfl ?_
    exact hq τ hS
  · rw [if_neg any] at hq
    obtain ⟨e1, e2, e3, e4, -⟩ := b3 any
    repeat refine Ev_go rfl ?_
    rw [sw_3]
    refine Ev_if (fun y => ?_) (fun y => ?_)
    · rw [if_pos y, ← e1] at hq
      (repeat first | refine Ev_go rfl ?_ | refine Ev_gf rfl (b1) rfl rfl ?_ )
      refine Ev_rt rfl ?_
      exact hq τ hS
    rw [if_neg y] at hq
    refine Ev_if (fun y => ?_) (fun y => ?_)
    · rw [if_pos y, ← e3] at hq
      (repeat first | refine Ev_go rfl ?_ | refine Ev_gf rfl (b1) rfl rfl ?_ )
      refine Ev_rt rfl ?_
      exact hq τ hS
    rw [if_neg y] at hq
    refine Ev_if (fun y => ?_) (fun y => ?_)
    · rw [if_pos y] at hq
      have d0 := (hX.s hS).c0
      (repeat first | refine Ev_go rfl ?_ | refine Ev_gf rfl (d0) rfl rfl ?_ )
      refine Ev_cv rfl rfl h16 rfl rfl ?_
      refine x_lossOf n4 M3 h16 hB0 hB' any ?_
      repeat refine Ev_go rfl ?_
      refine Ev_rt rfl ?_
      exact hq τ hS
    rw [if_neg y, ← e4] at hq
    (repeat first | refine Ev_go rfl ?_ | refine Ev_gf rfl (b1) rfl rfl ?_ )
    refine Ev_rt rfl ?_
    exact hq τ hS
theorem X_shape (hI : Inv f a) (hX : Xr f a σ) (n m sort l k : Int32) (hq : ∀ τ, Sr σ τ → Q (some (.int (sp_shape f a n m sort l k))) τ) : Cs nX11_shape [.ref 0, .int n, .int m, .int sort, .int l, .int k] σ Q := by
  have c0 := hX.c0
  obtain ⟨t0, t1, t2, t3, -⟩ := t01
  unfold sp_shape at hq
  refine Cs_in (k := kX11_shape) [some (.ref 0), some (.int n), some (.int m), some (.int sort), some (.int l), some (.int k), none] rfl rfl ?_
  repeat refine Ev_go rfl ?_
  refine Ev_cv rfl rfl c0 rfl rfl ?_
  refine x_isLawOrNone hI hX l (fun hl => ?_) (fun hl => ?_)
  rotate_left
  · rw [if_pos hl] at hq
    repeat refine Ev_go rfl ?_
    refine Ev_rt rfl ?_
    exact hq σ Sr.rf
  rw [if_neg (nL_or hl)] at hq
  repeat refine Ev_go rfl ?_
  refine Ev_ca rfl ?_
  refine x_areShapes n m sort ?_
  repeat refine Ev_go rfl ?_
  refine Ev_ifb (fun z => ?_) (fun z => ?_)
  · rw [if_pos z] at hq
    repeat refine Ev_go rfl ?_
    refine Ev_rt rfl ?_
    exact hq σ Sr.rf
  rw [if_neg (fun y => y z)] at hq
  obtain ⟨n', M, kd, n1, n4, M1, M3, kk, rfl, rfl, rfl, en, em⟩ := so_k z
  have tn := nI_toInt (n := n') (by omega)
  have t2n : (2 * nI n').toInt = 2 * (n' : Int) := by rw [fa_lit 2, pk_mul, nI_toInt (by omega)]; omega
  have out : ¬ (0 ≤ k.toInt ∧ k.toInt ≤ 2 * (nI n').toInt - 1) → Ev kX11_shape (36, [some (.ref 0), some (.int (nI n')), some (.int (nI M)), some (.int (nI kd)), some (.int l), some (.int k), none], [], σ) Q := by
    intro z
    rw [if_pos z] at hq
    repeat refine Ev_go rfl ?_
    refine Ev_rt rfl ?_
    exact hq σ Sr.rf
  repeat refine Ev_go rfl ?_
  refine Ev_if (fun y => out (fun u => by rw [fa_lt] at y; omega)) (fun z1 => ?_)
  repeat refine Ev_go rfl ?_
  refine Ev_if (fun z2 => ?_) (fun y => out (fun u => by rw [fa_lt] at y; omega))
  rw [fa_lt] at z1 z2
  rw [if_neg (fun y => y ⟨by omega, by omega⟩)] at hq
  obtain ⟨q, q1, q2, q3⟩ := nI_ex (x := k) (A := 0) (B := 7) 7 ⟨by omega, by omega⟩
  subst q3
  unfold bR R2 at hq
  rw [en, em, show nC (nI q) = q from nI_clamp (by omega)] at hq
  repeat refine Ev_go rfl ?_
  refine Ev_cv rfl rfl c0 rfl rfl ?_
  refine x_lawK hI hX l hl (fun lv hK => ?_)
  repeat refine Ev_go rfl ?_
  refine Ev_cv rfl rfl c0 rfl rfl ?_
  refine x_bestBy hI hX kk n1 n4 M1 M3 hl hK (fun _ => rfl) (fun τ o lv' lo' hS h16 hB0 hB => ?_)
  obtain ⟨wo, fw, pd, hd, g, b1, b2, b3⟩ := hB
  (repeat first | refine Ev_go rfl ?_ | refine Ev_gf rfl (b1) rfl rfl ?_ )
  refine Ev_ifb (fun y => ?_) (fun any => ?_)
  · rw [if_pos (Decidable.not_not.mp y)] at hq
    repeat refine Ev_go rfl ?_
    refine Ev_rt rfl ?_
    exact hq τ hS
  · rw [if_neg any] at hq
    obtain ⟨-, -, -, -, e5⟩ := b3 any
    have e6 := e5 (q / 2) (by omega)
    (repeat first | refine Ev_go rfl ?_ | refine Ev_gf rfl (b1) rfl rfl ?_ )
    refine Ev_ial q rfl b2 rfl (by omega) (by decide) ?_
    repeat refine Ev_go rfl ?_
    refine Ev_rt rfl ?_
    rcases Nat.mod_two_eq_zero_or_one q with e | e
    · rw [if_pos e, ← e6.1, show 2 * (q / 2) = q by omega] at hq
      exact hq τ hS
    · rw [if_neg (by omega), ← e6.2, show 2 * (q / 2) + 1 = q by omega] at hq
      exact hq τ hS
theorem X_without (hI : Inv f a) (hX : Xr f a σ) (n m sort l w what : Int32) (hq : ∀ τ, Sr σ τ → Q (some (.long (sp_without f a n m sort l w what))) τ) : Cs nX11_without [.ref 0, .int n, .int m, .int sort, .int l, .int w, .int what] σ Q := by
  have c0 := hX.c0
  obtain ⟨t0, t1, t2, t3, -⟩ := t01
  unfold sp_without at hq
  refine Cs_in (k := kX11_without) [some (.ref 0), some (.int n), some (.int m), some (.int sort), some (.int l), some (.int w), some (.int what), none, none] rfl rfl ?_
  repeat refine Ev_go rfl ?_
  refine Ev_cv rfl rfl c0 rfl rfl ?_
  refine x_lawAt hI hX l (fun hl L b1 b2 b3 b4 => ?_) (fun hl => ?_)
  rotate_left
  · rw [if_pos (Or.inl hl)] at hq
    repeat refine Ev_go rfl ?_
    refine Ev_rt rfl ?_
    exact hq σ Sr.rf
  obtain ⟨-, c, k1, k2, k3, k4, hL⟩ := hX.l hI b1
  have tc := nI_toInt (n := c) (by omega)
  rw [b4, k1, tc] at hq
  have out : (¬ (0 ≤ w.toInt ∧ w.toInt ≤ (c : Int) - 1) ∨ ¬ isSo n m sort ∨ ¬ (1 ≤ what.toInt ∧ what.toInt ≤ 2)) → Ev kX11_without (44, [some (.ref 0), some (.int n), some (.int m), some (.int sort), some (.int l), some (.int w), some (.int what), some (.ref (38 + 10 * L)), none], [], σ) Q := by
    intro z
    rw [if_pos (Or.inr z)] at hq
    repeat refine Ev_go rfl ?_
    refine Ev_rt rfl ?_
    exact hq σ Sr.rf
  repeat refine Ev_go rfl ?_
  refine Ev_cv rfl rfl hL.1 rfl rfl ?_
  refine x_hasWord hL.1 k4 w ?_
  repeat refine Ev_go rfl ?_
  refine Ev_ifb (fun z => out (Or.inl z)) (fun zw => ?_)
  repeat refine Ev_go rfl ?_
  refine Ev_ca rfl ?_
  refine x_areShapes n m sort ?_
  repeat refine Ev_go rfl ?_
  refine Ev_ifb (fun z => out (Or.inr (Or.inl z))) (fun z => ?_)
  repeat refine Ev_go rfl ?_
  refine Ev_if (fun y => out (Or.inr (Or.inr (fun u => by rw [fa_lt] at y; omega)))) (fun z1 => ?_)
  repeat refine Ev_go rfl ?_
  refine Ev_if (fun z2 => ?_) (fun y => out (Or.inr (Or.inr (fun u => by rw [fa_le] at y; omega))))
  rw [fa_lt] at z1
  rw [fa_le] at z2
  rw [if_neg (fun y => y.elim (fun y => y hl) (fun y => y.elim (fun y => y zw) (fun y => y.elim (fun y => y z) (fun y => y ⟨by omega, by omega⟩))))] at hq
  obtain ⟨n', M, k, n1, n4, M1, M3, kk, rfl, rfl, rfl, en, em⟩ := so_k z
  unfold bR R2 at hq
  rw [en, em] at hq
  repeat refine Ev_go rfl ?_
  refine Ev_cv rfl rfl c0 rfl rfl ?_
  have hK : Lk σ a (.ref (38 + 10 * L)) w l w := Or.inr ⟨L, c, b2, b3, rfl, k1, hL, fun _ _ => Iff.rfl⟩
  refine x_bestBy hI hX kk n1 n4 M1 M3 (Or.inl hl) hK (fun e => absurd (b3.symm.trans e) (nI_ne9 (by omega))) (fun τ o lv' lo' hS h16 hB0 hB => ?_)
  obtain ⟨x, h16⟩ := h16
  have hB' := hB
  obtain ⟨wo, fw, pd, hd, g, b1, b2, b3⟩ := hB
  (repeat first | refine Ev_go rfl ?_ | refine Ev_gf rfl (b1) rfl rfl ?_ )
  refine Ev_ifb (fun y => ?_) (fun any => ?_)
  · rw [if_pos (Decidable.not_not.mp y)] at hq
    repeat refine Ev_go rfl ?_
    refine Ev_rt rfl ?_
    exact hq τ hS
  · rw [if_neg any] at hq
    obtain ⟨e1, e2, e3, e4, -⟩ := b3 any
    repeat refine Ev_go rfl ?_
    refine Ev_if (fun y => ?_) (fun y => ?_)
    · rw [if_neg (by rw [y]; decide), ← e3] at hq
      (repeat first | refine Ev_go rfl ?_ | refine Ev_gf rfl (b1) rfl rfl ?_ )
      refine Ev_rt rfl ?_
      exact hq τ hS
    · rw [if_pos (by
        rw [fa_eq, t2]
        have : ¬ what.toInt = 1 := fun e => y (by rw [fa_eq, t1]; exact e)
        omega)] at hq
      have d0 := (hX.s hS).c0
      (repeat first | refine Ev_go rfl ?_ | refine Ev_gf rfl (d0) rfl rfl ?_ )
      refine Ev_cv rfl rfl h16 rfl rfl ?_
      refine x_lossOf n4 M3 h16 hB0 hB' any ?_
      repeat refine Ev_go rfl ?_
      refine Ev_rt rfl ?_
      exact hq τ hS
theorem ctI_0 {p : Nat → Prop} [DecidablePred p] : ∀ r, (∀ x, x < r → ¬ p x) → ctI p r = 0
  | 0, _ => rfl
  | r + 1, h => by rw [ctI, ctI_0 r (fun x hx => h x (by omega)), if_neg (h r (by omega))]; rfl
theorem ct_any {n m : Nat} {sort : Int32} (hn : n ≤ 4) (hm : m ≤ 3) : ctI (okR a n m sort) (m ^ (2 * n)) = 0 ↔ (bsI a n m sort (-9) (-9) (m ^ (2 * n))).1 < 0 := by
  have hR := pw_le hn hm
  obtain ⟨q, q1, q2, q3⟩ := ctI_c (p := okR a n m sort) (m ^ (2 * n))
  refine ⟨fun h => ?_, fun h => ?_⟩
  · have e : q = 0 := by
      rw [q2] at h
      exact (nI_0iff (by omega)).mp h
    refine Decidable.byContradiction (fun z => ?_)
    obtain ⟨-, x, x1, x2⟩ := bsI_v _ _ _ _ _ _ _ hR z
    exact q3 e x x1 x2
  · refine ctI_0 _ (fun x hx hp => ?_)
    exact bsI_some x hp _ hR hx h
theorem X_mend (hI : Inv f a) (hX : Xr f a σ) (n m sort v : Int32) (hq : ∀ τ, Sr σ τ → Q (some (.int (sp_mend f a n m sort v))) τ) : Cs nX11_mend [.ref 0, .int n, .int m, .int sort, .int v] σ Q := by
  have c0 := hX.c0
  obtain ⟨t0, -⟩ := t01
  unfold sp_mend at hq
  refine Cs_in (k := kX11_mend) [some (.ref 0), some (.int n), some (.int m), some (.int sort), some (.int v), none] rfl rfl ?_
  have out : (¬ isSo n m sort ∨ v.toInt < 0) → Ev kX11_mend (14, [some (.ref 0), some (.int n), some (.int m), some (.int sort), some (.int v), none], [], σ) Q := by
    intro z
    rw [if_pos z] at hq
    repeat refine Ev_go rfl ?_
    refine Ev_rt rfl ?_
    exact hq σ Sr.rf
  repeat refine Ev_go rfl ?_
  refine Ev_ca rfl ?_
  refine x_areShapes n m sort ?_
  repeat refine Ev_go rfl ?_
  refine Ev_ifb (fun z => out (Or.inl z)) (fun z => ?_)
  repeat refine Ev_go rfl ?_
  refine Ev_if (fun z1 => ?_) (fun y => out (Or.inr (by rw [fa_le] at y; omega)))
  rw [fa_le] at z1
  rw [if_neg (fun y => y.elim (fun y => y z) (fun y => by omega))] at hq
  obtain ⟨n', M, k, n1, n4, M1, M3, kk, rfl, rfl, rfl, en, em⟩ := so_k z
  unfold R2 at hq
  rw [en, em] at hq
  have hlc : nC (f 10) ≤ 8 ∧ f 10 = nI (nC (f 10)) := by
    obtain ⟨-, ⟨lc, h8, hf, -⟩, -⟩ := hI
    rw [hf, nC, nI_clamp (by omega)]
    exact ⟨h8, rfl⟩
  generalize hlcc : nC (f 10) = lc at hlc hq
  obtain ⟨g6, c6, g6g⟩ := hX.c6
  obtain ⟨gl, c2, c2g⟩ := hX.c2
  obtain ⟨gb, c19, hgb⟩ := hX.c19
  obtain ⟨x, x1, x2, x3, x4, x5, x6, v0, g, h16, h17, h18⟩ := Sr.sk hX
  (repeat first | refine Ev_go rfl ?_ | refine Ev_gf rfl (c0) rfl rfl ?_ )
  refine Ev_cv rfl rfl h16 rfl rfl ?_
  refine x_clear7 h16 h17 ?_
  have lp : ∀ (e b : Nat) (τ : kt_H), b + e = lc → Sr σ τ → τ.1 16 = kt_ob 7 [.ref 17, .ref 19, .int (nI b)] → τ.1 19 = kt_ra 4 8 gb → Bt τ a n' M (nI k) 17 .null (-1) (-9) (-9) 0 → (∀ b', b' < b → Bt τ a n' M (nI k) (20 + 2 * b') (.ref (38 + 10 * b')) (-1) (nI b') (-9) 0) → Ev kX11_mend (27, [some (.ref 0), some (.int (nI n')), some (.int (nI M)), some (.int (nI k)), some (.int v), some (.int (nI b))], [], τ) Q := by
    intro e
    induction e with
    | zero =>
      intro b τ hb hS d16 d19 d17 ds
      have e : b = lc := by omega
      subst e
      have hX1 := hX.s hS
      have d0 := hX1.c0
      have d6 : τ.1 6 = kt_ra 1 3 g6 := by rw [hS.hi (by omega)]; exact c6
      (repeat first | refine Ev_go rfl ?_ | refine Ev_gf rfl (d0) rfl rfl ?_ )
      refine Ev_if (fun _ => ?_) (fun g1 => absurd (by rw [hlc.2]; exact nI_le (Nat.le_refl _) (by omega)) g1)
      (repeat first | refine Ev_go rfl ?_ | refine Ev_gf rfl (d0) rfl rfl ?_ )
      refine Ev_aal k rfl d6 rfl rfl kk (by decide) ?_
      rw [g6g k kk]
      (repeat first | refine Ev_go rfl ?_ | refine Ev_gf rfl (d0) rfl rfl ?_ )
      refine Ev_cv rfl rfl d16 rfl rfl ?_
      have hW : ∀ b', b' < b → isW f (nI b') := fun b' hb' => by
        unfold isW
        rw [hlc.2, nI_toInt (by omega), nI_toInt (by omega)]
        omega
      refine x_run (s := b) (lv := fun b => .ref (38 + 10 * b)) (lo := fun _ => -1) (l := fun b => nI b) (but := fun _ => -9) hI kk (hX1.sp kk) n1 n4 M1 M3 hlc.1 (hX1.nd hI) d16 ⟨gb, d19, hgb⟩ (fun b' hb' => Or.inl (hW b' hb')) (fun b' hb' => ?_) d17 ds (fun τ2 u1 u2 u3 u4 => ?_)
      · obtain ⟨l8, c, k1, k2, k3, k4, hL⟩ := hX1.l hI (l := b') (by omega)
        exact Or.inr ⟨b', c, l8, rfl, rfl, k1, hL, lo19⟩
      have hS2 : Sr τ τ2 := u1.sr kk hlc.1 u2 u3.bs (fun b' hb' => (u4 b' hb').bs)
      have hS3 := hS.tr hS2
      have e0 := (hX.s hS3).c0
      have e16 : τ2.1 16 = kt_ob 7 [.ref 17, .ref 19, .int (nI b)] := by rw [u1.2 16 (by omega) (by omega)]; exact d16
      have e19 : τ2.1 19 = kt_ra 4 8 gb := by rw [u1.2 19 (by omega) (by omega)]; exact d19
      have u3' := u3
      obtain ⟨w0, f0, p0, q0, g0, e17, -⟩ := u3
      (repeat first | refine Ev_go rfl ?_ | refine Ev_gf rfl (e0) rfl rfl ?_ | refine Ev_gf rfl (e16) rfl rfl ?_ | refine Ev_gf rfl (e17) rfl rfl ?_ )
      refine Ev_ifb (fun y => ?_) (fun any => ?_)
      · rw [if_pos ((ct_any n4 M3).mpr (Decidable.not_not.mp y))] at hq
        repeat refine Ev_go rfl ?_
        refine Ev_rt rfl ?_
        exact hq τ2 hS3
      · rw [if_neg (fun y => any ((ct_any n4 M3).mp y))] at hq
        (repeat first | refine Ev_go rfl ?_ | refine Ev_gf rfl (e0) rfl rfl ?_ )
        refine Ev_cv rfl rfl e16 rfl rfl ?_
        refine x_leastLoss n4 M3 hlc.1 e16 e19 hgb u3' u4 (fun l => bs_any (pw_le n4 M3) any l (-9)) v ?_
        repeat refine Ev_go rfl ?_
        refine Ev_rt rfl ?_
        exact hq τ2 hS3
    | succ e ih =>
      intro b τ hb hS d16 d19 d17 ds
      have hX1 := hX.s hS
      have d0 := hX1.c0
      have d2 : τ.1 2 = kt_ra 2 9 gl := by rw [hS.hi (by omega)]; exact c2
      obtain ⟨y0, y1, y2, y3, y4, y5, y6, d20⟩ := hX1.c20 (b := b) (by omega)
      obtain ⟨g21, d21⟩ := hX1.c21 (b := b) (by omega)
      (repeat first | refine Ev_go rfl ?_ | refine Ev_gf rfl (d0) rfl rfl ?_ )
      refine Ev_if (fun g1 => absurd g1 (by rw [hlc.2]; exact nI_ge (by omega) (by omega))) (fun _ => ?_)
      (repeat first | refine Ev_go rfl ?_ | refine Ev_gf rfl (d0) rfl rfl ?_ )
      refine Ev_aal b rfl d2 rfl rfl (by omega) (by decide) ?_
      rw [c2g b (by omega)]
      repeat refine Ev_go rfl ?_
      refine Ev_cv rfl rfl d16 rfl rfl ?_
      refine x_seek (by omega) d16 d19 hgb d20 _ _ ?_
      have hS2 : Sr σ (kt_put (kt_put τ (20 + 2 * b) (kt_ob 0 [.ref (38 + 10 * b), .int (-1), .int 0, .int y3, .int y4, .int y5, .int y6, .ref (20 + 2 * b + 1)])) 16 (kt_ob 7 [.ref 17, .ref 19, .int (nI (b + 1))])) := (hS.put (by omega) (Ck_20 (by omega) ⟨_, _, _, _, _, _, _, rfl⟩)).put (by decide) (Ck_16 _)
      iterate 3 refine Ev_go rfl ?_
      rw [nI_1]
      refine ih (b + 1) _ (by omega) hS2 (kt_put_s _ _ _) (by rw [kt_put_n _ _ (by decide), kt_put_n _ _ (by omega)]; exact d19) (d17.c (by rw [kt_put_n _ _ (by decide), kt_put_n _ _ (by omega)]) (by rw [kt_put_n _ _ (by decide), kt_put_n _ _ (by omega)])) (fun b' hb' => ?_)
      by_cases e : b' = b
      · subst e
        exact Bt_0 (by rw [kt_put_n _ _ (by omega), kt_put_s]) (by rw [kt_put_n _ _ (by omega), kt_put_n _ _ (by omega)]; exact d21)
      · exact (ds b' (by omega)).c (by rw [kt_put_n _ _ (by omega), kt_put_n _ _ (by omega)]) (by rw [kt_put_n _ _ (by omega), kt_put_n _ _ (by omega)])
  iterate 2 refine Ev_go rfl ?_
  refine lp lc 0 _ (by omega) ((Sr.rf.put (by decide) (Ck_16 0)).put (by decide) (Ck_17 ⟨_, _, _, _, _, _, _, rfl⟩)) (by rw [kt_put_n _ _ (by decide), kt_put_s]; rfl) (by rw [kt_put_n _ _ (by decide), kt_put_n _ _ (by decide)]; exact c19) (Bt_0 (kt_put_s _ _ _) (by rw [kt_put_n _ _ (by decide), kt_put_n _ _ (by decide)]; exact h18)) (fun b' hb' => absurd hb' (Nat.not_lt_zero b'))
end XP3
