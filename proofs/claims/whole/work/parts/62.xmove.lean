/-! the component: the calls that change what is told -/
theorem Cv.c {f f' : FF} {a a' : AA} {j : Nat} {c : kt_C} (h : Cv f a j c) (h1 : f' 1 = f 1) (h0 : j = 0 → k0 f' = k0 f) (h23 : j = 37 → f' 23 = f 23) (h9 : j = 5 → ∀ q, q < 6 → a' 9 q = a 9 q) (hs : ∀ k, k < 4 → (j = 128 + 2 * k → a' 10 k = a 10 k ∧ a' 11 k = a 11 k) ∧ (j = 129 + 2 * k → ∀ i, i < 60 → a' 12 (60 * k + i) = a 12 (60 * k + i))) (hh : ∀ h, h < nC (f 1) → (j = 151 + 3 * h → a' 0 h = a 0 h ∧ a' 1 h = a 1 h) ∧ (j = 152 + 3 * h → a' 1 h = a 1 h ∧ ∀ x, x < nC (a 1 h) → a' 2 (8 * h + x) = a 2 (8 * h + x) ∧ a' 3 (8 * h + x) = a 3 (8 * h + x))) : Cv f' a' j c := by
  obtain ⟨c0, c1, c5, c37, cs, ch⟩ := h
  refine ⟨fun e => by rw [h0 e]; exact c0 e, fun e => by rw [h1]; exact c1 e, fun e => ?_, fun e => by rw [h23 e]; exact c37 e, fun k hk => ⟨fun e => ?_, fun e => ?_⟩, fun h hl => ?_⟩
  · obtain ⟨g, g1, g2⟩ := c5 e
    exact ⟨g, g1, fun q hq => by rw [h9 e q hq]; exact g2 q hq⟩
  · rw [((hs k hk).1 e).1, ((hs k hk).1 e).2]
    exact (cs k hk).1 e
  · obtain ⟨g, g1, g2⟩ := (cs k hk).2 e
    exact ⟨g, g1, fun i hi => by rw [(hs k hk).2 e i hi]; exact g2 i hi⟩
  · rw [h1] at hl
    refine ⟨fun e => ?_, fun e => ?_, (ch h hl).2.2⟩
    · rw [((hh h hl).1 e).1, ((hh h hl).1 e).2]
      exact (ch h hl).1 e
    · obtain ⟨g, g1, g2⟩ := (ch h hl).2.1 e
      obtain ⟨e1, e2⟩ := (hh h hl).2 e
      rw [e1]
      exact ⟨g, g1, fun x hx => by rw [(e2 x hx).1, (e2 x hx).2]; exact g2 x hx⟩
section XZ
variable {f f' : FF} {a a' : AA} {σ τ : kt_H} {Q : Option Value → kt_H → Prop}
/-- one cell moves -/
theorem Xr.mv (hX : Xr f a σ) {j0 : Nat} {c0 : kt_C} (hj : j0 < 2 ∨ j0 = 5 ∨ j0 = 37 ∨ 128 ≤ j0) (h1 : f' 1 = f 1) (h10 : f' 10 = f 10) (h6 : a' 6 = a 6) (h7 : a' 7 = a 7) (hv0 : Cv f' a' j0 c0) (hv : ∀ j, j ≠ j0 → Cv f a j (σ.1 j) → Cv f' a' j (σ.1 j)) : Xr f' a' (kt_put σ j0 c0) := by
  obtain ⟨x1, x2, x3, x4, x5⟩ := hX
  refine ⟨fun j => ?_, fun j => ?_, fun l hl => ?_, by rw [h1]; exact x4, by rw [h1]; exact x5⟩
  · by_cases e : j = j0
    · subst e
      rw [kt_put_s]
      by_cases e : j < 2 ∨ j = 5
      · exact Ck_lo _ e
      · exact Ck_hi _ (by omega)
    · rw [kt_put_n _ _ e]; exact x1 j
  · by_cases e : j = j0
    · subst e; rw [kt_put_s]; exact hv0
    · rw [kt_put_n _ _ e]; exact hv j e (x2 j)
  · have h : Cl f' a' σ l := by
      unfold Cl
      rw [h10, h6, h7]
      exact x3 l hl
    exact h.c (fun j a b => kt_put_n _ _ (by omega))
theorem Un.put (h : Un σ τ) {j : Nat} (c : kt_C) (hj : j < 136 ∨ 151 ≤ j) : Un σ (kt_put τ j c) := fun i a b => by
  rw [kt_put_n _ _ (by omega)]; exact h i a b
theorem Un.rf : Un σ σ := fun _ _ _ => rfl
theorem Un.tr {ρ : kt_H} (h : Un σ τ) (h2 : Un τ ρ) : Un σ ρ := fun j a b => (h2 j a b).trans (h j a b)
theorem X_need (hI : Inv f a) (hX : Xr f a σ) (what v : Int32) (hq : ∀ τ, Xr f (sp_need a what v).2 τ → Un σ τ → Q (some (.int (sp_need a what v).1)) τ) : Cs nX11_need [.ref 0, .int what, .int v] σ Q := by
  have c0 := hX.c0
  have hN := hX.nd hI
  unfold sp_need at hq
  refine Cs_in (k := kX11_need) [some (.ref 0), some (.int what), some (.int v), none] rfl rfl ?_
  (repeat first | refine Ev_go rfl ?_ | refine Ev_gf rfl (c0) rfl rfl ?_ )
  refine Ev_cv rfl rfl hN.1 rfl rfl ?_
  refine x_has hN what ?_
  repeat refine Ev_go rfl ?_
  refine Ev_ifb (fun z => ?_) (fun z => ?_)
  · rw [if_pos z] at hq
    repeat refine Ev_go rfl ?_
    refine Ev_rt rfl ?_
    exact hq σ hX Un.rf
  rw [if_neg (fun y => y z)] at hq
  obtain ⟨w, w1, w2, w3⟩ := nI_ex (x := what) 5 z
  subst w3
  (repeat first | refine Ev_go rfl ?_ | refine Ev_gf rfl (c0) rfl rfl ?_ )
  refine Ev_cv rfl rfl hN.1 rfl rfl ?_
  refine x_allows w (by omega) v ?_
  repeat refine Ev_go rfl ?_
  refine Ev_ifb (fun y => ?_) (fun y => ?_)
  · rw [if_pos y] at hq
    repeat refine Ev_go rfl ?_
    refine Ev_rt rfl ?_
    exact hq σ hX Un.rf
  rw [if_neg (fun u => u y), show nC (nI w) = w from nI_clamp (by omega)] at hq
  obtain ⟨n4, ⟨g, n5, n5g⟩, -⟩ := hN
  (repeat first | refine Ev_go rfl ?_ | refine Ev_gf rfl (c0) rfl rfl ?_ | refine Ev_gf rfl (n4) rfl rfl ?_ )
  refine Ev_ial w rfl n5 rfl (by omega) (by decide) ?_
  (repeat first | refine Ev_go rfl ?_ | refine Ev_gf rfl (c0) rfl rfl ?_ | refine Ev_gf rfl (n4) rfl rfl ?_ )
  refine Ev_ias w rfl n5 rfl (by omega) (by decide) ?_
  repeat refine Ev_go rfl ?_
  refine Ev_rt rfl ?_
  rw [n5g w (by omega)]
  refine hq _ ?_ (Un.rf.put _ (by omega))
  refine hX.mv (by omega) rfl rfl rfl rfl ⟨by omega, by omega, fun _ => ⟨_, rfl, fun q hq => ?_⟩, by omega, fun k hk => ⟨by omega, by omega⟩, fun h hh => ⟨by omega, by omega, by omega⟩⟩ (fun j hj hc => hc.c rfl (fun _ => rfl) (fun _ => rfl) (fun e => absurd e hj) (fun k hk => ⟨fun _ => ⟨rfl, rfl⟩, fun _ i hi => rfl⟩) (fun h hh => ⟨fun _ => ⟨rfl, rfl⟩, fun _ => ⟨rfl, fun x hx => ⟨rfl, rfl⟩⟩⟩))
  show upd g w v q = upd (a 9) w v q
  by_cases e : q = w
  · subst e; rw [pk_us, pk_us]
  · rw [pk_un e, pk_un e]; exact n5g q hq
theorem X_build (hI : Inv f a) (hX : Xr f a σ) (h k what v : Int32) (hq : ∀ τ, Xr f (sp_build f a h k what v).2 τ → Un σ τ → Q (some (.int (sp_build f a h k what v).1)) τ) : Cs nX11_build [.ref 0, .int h, .int k, .int what, .int v] σ Q := by
  have c0 := hX.c0
  obtain ⟨t0, t1, -⟩ := t01
  unfold sp_build at hq
  refine Cs_in (k := kX11_build) [some (.ref 0), some (.int h), some (.int k), some (.int what), some (.int v), none, none] rfl rfl ?_
  repeat refine Ev_go rfl ?_
  refine Ev_cv rfl rfl c0 rfl rfl ?_
  refine x_hullAt hI hX h (fun hh h' a1 a2 a3 a4 => ?_) (fun hh => ?_)
  rotate_left
  · rw [if_pos (fun z => hh z.1)] at hq
    repeat refine Ev_go rfl ?_
    refine Ev_rt rfl ?_
    exact hq σ hX Un.rf
  obtain ⟨-, n, n1, n8, ha, hc, hH, hB⟩ := hX.h hI a1
  obtain ⟨ho, ⟨g, hp, hg⟩, -, -, -, -, hkd, -⟩ := hH
  have tn := nI_toInt (n := n) (by omega)
  unfold isS at hq
  rw [a4, ha, tn] at hq
  repeat refine Ev_go rfl ?_
  refine Ev_cv rfl rfl ho (cK_1 hkd 9) rfl ?_
  refine x_hasStation ho hkd n8 k ?_
  repeat refine Ev_go rfl ?_
  refine Ev_ifb (fun z => ?_) (fun z => ?_)
  · rw [if_pos (fun y => z y.2)] at hq
    repeat refine Ev_go rfl ?_
    refine Ev_rt rfl ?_
    exact hq σ hX Un.rf
  rw [if_neg (fun y => y ⟨hh, z⟩)] at hq
  obtain ⟨k', k1, k2, k3⟩ := nI_ex (x := k) 7 z
  subst k3
  rw [show nC (nI k') = k' from nI_clamp (by omega)] at hq
  have out : ¬ (0 ≤ what.toInt ∧ what.toInt ≤ 1) ∨ ¬ (1 ≤ v.toInt ∧ v.toInt ≤ 9) → Ev kX11_build (40, [some (.ref 0), some (.int h), some (.int (nI k')), some (.int what), some (.int v), some (.ref (151 + 3 * h')), none], [], σ) Q := by
    intro y
    rw [if_pos y] at hq
    repeat refine Ev_go rfl ?_
    refine Ev_rt rfl ?_
    exact hq σ hX Un.rf
  repeat refine Ev_go rfl ?_
  refine Ev_if (fun y => out (Or.inl (fun u => by rw [fa_lt] at y; omega))) (fun y1 => ?_)
  repeat refine Ev_go rfl ?_
  refine Ev_if (fun y => out (Or.inl (fun u => by rw [fa_lt] at y; omega))) (fun y2 => ?_)
  repeat refine Ev_go rfl ?_
  refine Ev_ca rfl ?_
  refine x_isPart v ?_
  repeat refine Ev_go rfl ?_
  refine Ev_ifb (fun y => out (Or.inr y)) (fun hv => ?_)
  rw [fa_lt] at y1 y2
  rw [if_neg (fun y => y.elim (fun y => y ⟨by omega, by omega⟩) (fun y => y hv))] at hq
  obtain ⟨w', w1, w2, w3⟩ := nI_ex (x := what) (A := 0) (B := 1) 1 ⟨by omega, by omega⟩
  subst w3
  have ei : 2 * nI k' + nI w' = nI (2 * k' + w') := by rw [fa_lit 2, pk_mul, nI_add]
  repeat refine Ev_go rfl ?_
  refine Ev_gf rfl ho (cK_m hkd) rfl ?_
  repeat refine Ev_go rfl ?_
  refine Ev_ial (2 * k' + w') rfl hp ei (by omega) (by decide) ?_
  repeat refine Ev_go rfl ?_
  refine Ev_gf rfl ho (cK_m hkd) rfl ?_
  repeat refine Ev_go rfl ?_
  refine Ev_ias (2 * k' + w') rfl hp ei (by omega) (by decide) ?_
  repeat refine Ev_go rfl ?_
  refine Ev_rt rfl ?_
  have : w' = 0 ∨ w' = 1 := by omega
  rcases this with rfl | rfl
  · rw [if_pos (show nI 0 = 0 from rfl)] at hq
    rw [show 2 * k' + 0 = 2 * k' from rfl, (hg k' (by omega)).1]
    refine hq _ ?_ (Un.rf.put _ (by omega))
    refine hX.mv (by omega) rfl rfl rfl rfl ⟨by omega, by omega, by omega, by omega, fun k hk => ⟨by omega, by omega⟩, fun h2 hh2 => ⟨by omega, fun e => ⟨_, rfl, fun x hx => ?_⟩, by omega⟩⟩ (fun j hj hc => hc.c rfl (fun _ => rfl) (fun _ => rfl) (fun _ q _ => rfl) (fun k hk => ⟨fun _ => ⟨rfl, rfl⟩, fun _ i hi => rfl⟩) (fun h2 hh2 => ⟨fun _ => ⟨rfl, rfl⟩, fun e => ⟨rfl, fun x hx => ⟨?_, rfl⟩⟩⟩))
    · have eh : h2 = h' := by omega
      subst eh
      have hx : x < n := by rw [← hc]; exact hx
      rw [pk_un (show 2 * x + 1 ≠ 2 * k' by omega), (hg x hx).2]
      refine ⟨?_, rfl⟩
      show upd g (2 * k') v (2 * x) = upd (a 2) (8 * h2 + k') v (8 * h2 + x)
      by_cases ex : x = k'
      · subst ex; rw [pk_us, pk_us]
      · rw [pk_un (by omega), pk_un (by omega)]; exact (hg x hx).1
    · show upd (a 2) (8 * h' + k') v (8 * h2 + x) = a 2 (8 * h2 + x)
      have hx8 : x < 8 := by
        obtain ⟨_, n', _, n8', _, hc', _⟩ := hX.h hI hh2
        omega
      rw [pk_un (by omega)]
  · rw [if_neg (by decide)] at hq
    rw [(hg k' (by omega)).2]
    refine hq _ ?_ (Un.rf.put _ (by omega))
    refine hX.mv (by omega) rfl rfl rfl rfl ⟨by omega, by omega, by omega, by omega, fun k hk => ⟨by omega, by omega⟩, fun h2 hh2 => ⟨by omega, fun e => ⟨_, rfl, fun x hx => ?_⟩, by omega⟩⟩ (fun j hj hc => hc.c rfl (fun _ => rfl) (fun _ => rfl) (fun _ q _ => rfl) (fun k hk => ⟨fun _ => ⟨rfl, rfl⟩, fun _ i hi => rfl⟩) (fun h2 hh2 => ⟨fun _ => ⟨rfl, rfl⟩, fun e => ⟨rfl, fun x hx => ⟨rfl, ?_⟩⟩⟩))
    · have eh : h2 = h' := by omega
      subst eh
      have hx : x < n := by rw [← hc]; exact hx
      rw [pk_un (show 2 * x ≠ 2 * k' + 1 by omega), (hg x hx).1]
      refine ⟨rfl, ?_⟩
      show upd g (2 * k' + 1) v (2 * x + 1) = upd (a 3) (8 * h2 + k') v (8 * h2 + x)
      by_cases ex : x = k'
      · subst ex; rw [pk_us, pk_us]
      · rw [pk_un (by omega), pk_un (by omega)]; exact (hg x hx).2
    · show upd (a 3) (8 * h' + k') v (8 * h2 + x) = a 3 (8 * h2 + x)
      have hx8 : x < 8 := by
        obtain ⟨_, n', _, n8', _, hc', _⟩ := hX.h hI hh2
        omega
      rw [pk_un (by omega)]
theorem X_tell (hI : Inv f a) (hX : Xr f a σ) (h : Int32) (hq : ∀ τ, Xr (sp_tell f a h).2 a τ → Un σ τ → Q (some (.int (sp_tell f a h).1)) τ) : Cs nX11_tell [.ref 0, .int h] σ Q := by
  have c0 := hX.c0
  unfold sp_tell at hq
  refine Cs_in (k := kX11_tell) [some (.ref 0), some (.int h), none] rfl rfl ?_
  repeat refine Ev_go rfl ?_
  refine Ev_cv rfl rfl c0 rfl rfl ?_
  refine x_hullAt hI hX h (fun hh h' a1 a2 a3 a4 => ?_) (fun hh => ?_)
  rotate_left
  · rw [if_pos hh] at hq
    repeat refine Ev_go rfl ?_
    refine Ev_rt rfl ?_
    exact hq σ hX Un.rf
  obtain ⟨-, n, n1, n8, ha, hc, hH, hB⟩ := hX.h hI a1
  rw [if_neg (fun z => z hh), a4, ha] at hq
  have mv : ∀ t : Int32, Xr (va_up f 23 t) a (trO σ t) := fun t => hX.mv (by omega) rfl rfl rfl rfl ⟨by omega, by omega, by omega, fun _ => rfl, fun k hk => ⟨by omega, by omega⟩, fun h2 hh2 => ⟨by omega, by omega, by omega⟩⟩ (fun j hj hc => hc.c rfl (fun _ => rfl) (fun e => absurd e hj) (fun _ q _ => rfl) (fun k hk => ⟨fun _ => ⟨rfl, rfl⟩, fun _ i hi => rfl⟩) (fun h2 hh2 => ⟨fun _ => ⟨rfl, rfl⟩, fun e => ⟨rfl, fun x hx => ⟨rfl, rfl⟩⟩⟩))
  (repeat first | refine Ev_go rfl ?_ | refine Ev_gf rfl (c0) rfl rfl ?_ )
  refine Ev_told rfl rfl hX.c37 hH.1 rfl hH.2.2.2.2.2.2.1 (by omega) ?_
  refine Ev_rt rfl ?_
  unfold tdI tdT
  by_cases e2 : a 0 h' = 2
  · rw [if_pos e2] at hq
    rw [if_pos e2, if_pos e2]
    exact hq _ (mv _) (Un.rf.put _ (by omega))
  · rw [if_neg e2] at hq
    rw [if_neg e2, if_neg e2]
    by_cases e1 : a 0 h' = 1
    · rw [if_pos e1] at hq
      rw [if_pos e1, if_pos e1]
      exact hq _ (mv _) (Un.rf.put _ (by omega))
    · rw [if_neg e1] at hq
      rw [if_neg e1, if_neg e1]
      exact hq _ (mv _) (Un.rf.put _ (by omega))
theorem X_launch (hI : Inv f a) (hX : Xr f a σ) (h : Int32) (hq : ∀ τ, Xr (sp_launch f a h).2 a τ → Un σ τ → Q (some (.int (sp_launch f a h).1)) τ) : Cs nX11_launch [.ref 0, .int h] σ Q := by
  have c0 := hX.c0
  unfold sp_launch at hq
  refine Cs_in (k := kX11_launch) [some (.ref 0), some (.int h), none] rfl rfl ?_
  repeat refine Ev_go rfl ?_
  refine Ev_cv rfl rfl c0 rfl rfl ?_
  refine x_hullAt hI hX h (fun hh h' a1 a2 a3 a4 => ?_) (fun hh => ?_)
  rotate_left
  · rw [if_pos hh] at hq
    repeat refine Ev_go rfl ?_
    refine Ev_rt rfl ?_
    exact hq σ hX Un.rf
  obtain ⟨-, n, n1, n8, ha, hc, hH, hB⟩ := hX.h hI a1
  rw [if_neg (fun z => z hh), a4] at hq
  have mv : ∀ t : Int32, Xr (va_up f 23 t) a (trO σ t) := fun t => hX.mv (by omega) rfl rfl rfl rfl ⟨by omega, by omega, by omega, fun _ => rfl, fun k hk => ⟨by omega, by omega⟩, fun h2 hh2 => ⟨by omega, by omega, by omega⟩⟩ (fun j hj hc => hc.c rfl (fun _ => rfl) (fun e => absurd e hj) (fun _ q _ => rfl) (fun k hk => ⟨fun _ => ⟨rfl, rfl⟩, fun _ i hi => rfl⟩) (fun h2 hh2 => ⟨fun _ => ⟨rfl, rfl⟩, fun e => ⟨rfl, fun x hx => ⟨rfl, rfl⟩⟩⟩))
  (repeat first | refine Ev_go rfl ?_ | refine Ev_gf rfl (c0) rfl rfl ?_ )
  refine Ev_launched rfl rfl hX.c37 hH.1 rfl hH.2.2.2.2.2.2.1 (by omega) ?_
  refine Ev_rt rfl ?_
  by_cases e2 : a 0 h' = 2
  · rw [if_pos e2] at hq
    rw [if_pos e2, if_pos e2]
    exact hq _ (mv _) (Un.rf.put _ (by omega))
  · rw [if_neg e2] at hq
    rw [if_neg e2, if_neg e2, ← a3]
    exact hq _ (mv _) (Un.rf.put _ (by omega))
theorem x_isOfKind {o : Nat} {kd : Int32} {fs : List Value} (ho : σ.1 o = kt_ob (cK kd) fs) (hkd : isKd kd) (kind : Int32) (h2 : is2 kind) (hq : Q (some (.int (bI (¬ kd < kind)))) σ) : Cs nX11_isOfKind [.ref o, .int kind] σ Q := by
  obtain ⟨k, k1, k2, k3⟩ := nI_ex 2 h2
  have hk : k = 0 ∨ k = 1 ∨ k = 2 := by omega
  have go : ∀ (ys ns : List Nat) (nx pc : Nat) (x : Int32) (L : kt_L) (S : List Value), kX11_isOfKind pc = s_ins ys ns nx → ((kt_mem (cK kd) ys = true ∧ x = 1) ∨ (kt_mem (cK kd) ys = false ∧ kt_mem (cK kd) ns = true ∧ x = 0)) → Ev kX11_isOfKind (nx, L, .int x :: S, σ) Q → Ev kX11_isOfKind (pc, L, .ref o :: S, σ) Q := by
    intro ys ns nx pc x L S hk hx h
    refine Ev_go (fr := (nx, L, .int x :: S, σ)) ?_ h
    rw [hk]
    unfold s_ins
    simp only [ho]
    rcases hx with ⟨e, rfl⟩ | ⟨e, e2, rfl⟩
    · rw [e]
    · rw [e, e2]
  refine Cs_in (k := kX11_isOfKind) [some (.ref o), some (.int kind)] rfl rfl ?_
  rcases hkd with rfl | rfl | rfl <;> rcases hk with rfl | rfl | rfl <;> subst k3
  · repeat refine Ev_go rfl ?_
    refine Ev_rt rfl ?_
    exact hq
  · repeat refine Ev_go rfl ?_
    refine go _ _ _ _ 0 _ _ rfl (Or.inr ⟨rfl, rfl, rfl⟩) ?_
    repeat refine Ev_go rfl ?_
    refine Ev_rt rfl ?_
    exact hq
  · repeat refine Ev_go rfl ?_
    refine go _ _ _ _ 0 _ _ rfl (Or.inr ⟨rfl, rfl, rfl⟩) ?_
    refine Ev_rt rfl ?_
    exact hq
  · repeat refine Ev_go rfl ?_
    refine Ev_rt rfl ?_
    exact hq
  · repeat refine Ev_go rfl ?_
    refine go _ _ _ _ 1 _ _ rfl (Or.inl ⟨rfl, rfl⟩) ?_
    repeat refine Ev_go rfl ?_
    refine Ev_rt rfl ?_
    exact hq
  · repeat refine Ev_go rfl ?_
    refine go _ _ _ _ 0 _ _ rfl (Or.inr ⟨rfl, rfl, rfl⟩) ?_
    refine Ev_rt rfl ?_
    exact hq
  · repeat refine Ev_go rfl ?_
    refine Ev_rt rfl ?_
    exact hq
  · repeat refine Ev_go rfl ?_
    refine go _ _ _ _ 1 _ _ rfl (Or.inl ⟨rfl, rfl⟩) ?_
    repeat refine Ev_go rfl ?_
    refine Ev_rt rfl ?_
    exact hq
  · repeat refine Ev_go rfl ?_
    refine go _ _ _ _ 1 _ _ rfl (Or.inl ⟨rfl, rfl⟩) ?_
    refine Ev_rt rfl ?_
    exact hq
theorem X_as (hI : Inv f a) (hX : Xr f a σ) (h kind : Int32) (hq : ∀ τ, Xr (sp_as f a h kind).2 a τ → Un σ τ → Q (some (.int (sp_as f a h kind).1)) τ) : Cs nX11_as [.ref 0, .int h, .int kind] σ Q := by
  have c0 := hX.c0
  unfold sp_as at hq
  refine Cs_in (k := kX11_as) [some (.ref 0), some (.int h), some (.int kind), none] rfl rfl ?_
  repeat refine Ev_go rfl ?_
  refine Ev_pf rfl c0 rfl rfl rfl ?_
  have hU : Un σ (kt_put σ 0 (k0 (va_up f 0 0))) := Un.rf.put _ (by omega)
  have hX0 := hX.f0 0
  refine Ev_h (τ := kt_put σ 0 (k0 (va_up f 0 0))) rfl ?_
  generalize kt_put σ 0 (k0 (va_up f 0 0)) = σ0 at hU hX0 ⊢
  have d0 := hX0.c0
  repeat refine Ev_go rfl ?_
  refine Ev_cv rfl rfl d0 rfl rfl ?_
  refine x_hullAt (hI.f0 0) hX0 h (fun hh h' a1 a2 a3 a4 => ?_) (fun hh => ?_)
  rotate_left
  · have hh : ¬ isH f h := hh
    rw [if_pos hh] at hq
    repeat refine Ev_go rfl ?_
    refine Ev_rt rfl ?_
    exact hq σ0 hX0 hU
  obtain ⟨-, n, n1, n8, ha, hc, hH, hB⟩ := hX0.h (hI.f0 0) a1
  rw [if_neg (fun z => z hh), a4] at hq
  repeat refine Ev_go rfl ?_
  refine Ev_ca rfl ?_
  refine x_isKind kind ?_
  repeat refine Ev_go rfl ?_
  refine Ev_ifb (fun z => ?_) (fun z => ?_)
  · rw [if_pos z] at hq
    repeat refine Ev_go rfl ?_
    refine Ev_rt rfl ?_
    exact hq σ0 hX0 hU
  rw [if_neg (fun y => y z)] at hq
  repeat refine Ev_go rfl ?_
  refine Ev_ca rfl ?_
  refine x_isOfKind hH.1 hH.2.2.2.2.2.2.1 kind z ?_
  repeat refine Ev_go rfl ?_
  refine Ev_ifb (fun y => ?_) (fun y => ?_)
  · rw [if_pos (Decidable.not_not.mp y)] at hq
    repeat refine Ev_go rfl ?_
    refine Ev_cv rfl rfl d0 rfl rfl ?_
    refine x_faulted d0 2 ?_
    refine Ev_rt rfl ?_
    have hX2 := hX0.f0 2
    rw [va_up_uu] at hX2 ⊢
    exact hq _ hX2 (hU.put _ (by omega))
  · rw [if_neg y] at hq
    repeat refine Ev_go rfl ?_
    refine Ev_rt rfl ?_
    exact hq σ0 hX0 hU
end XZ
