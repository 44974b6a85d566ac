/-! the law: each call -/
theorem Ev_ialS {k : Nat → kt_S} {pc nx : Nat} {L : kt_L} {S : List Value} {σ : kt_H} {Q : Option Value → kt_H → Prop} {xs : Nat → Int32} {n : Nat} {i : Int32} (j : Nat) (hk : k pc = s_ialS xs n nx) (hi : i = nI j) (hj : j < n) (hn : n < 2 ^ 31) (h : Ev k (nx, L, .int (xs j) :: S, σ) Q) : Ev k (pc, L, .int i :: .ref 1000000 :: S, σ) Q := by
  refine Ev_go (fr := (nx, L, .int (xs j) :: S, σ)) ?_ h
  rw [hk]
  show (if i < 0 ∨ n ≤ i.toNatClampNeg then none else kt_go nx L (.int (xs i.toNatClampNeg) :: S) σ) = _
  rw [if_neg (kt_inN hi hj hn), hi, nI_clamp (by omega)]
abbrev lwL (i : Nat) : kt_L := [some (.ref 1000000), some (.ref 0), some (.ref 136), some (.int (nI i))]
section LW
variable {xs : Nat → Int32} {n i : Nat} {f : FF} {a : AA} {τ : kt_H} {Q : Option Value → kt_H → Prop}
theorem L_0 (hn : n ≤ 3584) (hi : i + 7 ≤ n) (hS : St f a τ) (hq : ∀ f2 a2 τ2, St f2 a2 τ2 → Ev (kL_law xs n) (1506, lwL i, [], τ2) Q) : Ev (kL_law xs n) (180, lwL i, [], τ) Q := by
  obtain ⟨hX, hI, hM⟩ := hS
  have c0 := hX.c0
  repeat refine Ev_go rfl ?_
  refine Ev_ialS (i + 1) rfl (nI_add i 1) (by omega) (by omega) ?_
  repeat refine Ev_go rfl ?_
  refine Ev_ialS (i + 2) rfl (nI_add i 2) (by omega) (by omega) ?_
  repeat refine Ev_go rfl ?_
  refine Ev_ialS (i + 3) rfl (nI_add i 3) (by omega) (by omega) ?_
  repeat refine Ev_go rfl ?_
  refine Ev_ialS (i + 4) rfl (nI_add i 4) (by omega) (by omega) ?_
  repeat refine Ev_go rfl ?_
  refine Ev_ialS (i + 5) rfl (nI_add i 5) (by omega) (by omega) ?_
  repeat refine Ev_go rfl ?_
  refine Ev_cv rfl rfl c0 rfl rfl ?_
  refine X_hull hI hX _ _ _ _ _ (fun τ1 hX1 hU => ?_)
  have hM1 := mM_un hM hU
  repeat refine Ev_go rfl ?_
  refine Ev_ialS (i + 1) rfl (nI_add i 1) (by omega) (by omega) ?_
  repeat refine Ev_go rfl ?_
  refine Ev_ialS (i + 2) rfl (nI_add i 2) (by omega) (by omega) ?_
  repeat refine Ev_go rfl ?_
  refine Ev_ialS (i + 3) rfl (nI_add i 3) (by omega) (by omega) ?_
  repeat refine Ev_go rfl ?_
  refine Ev_ialS (i + 4) rfl (nI_add i 4) (by omega) (by omega) ?_
  repeat refine Ev_go rfl ?_
  refine Ev_ialS (i + 5) rfl (nI_add i 5) (by omega) (by omega) ?_
  repeat refine Ev_go rfl ?_
  rw [← hM1]
  refine Ev_ca rfl ?_
  refine M_hull hI _ _ _ _ _ ?_
  repeat refine Ev_go rfl ?_
  refine Ev_if (fun _ => ?_) (fun g => absurd rfl g)
  exact hq _ _ _ (St.mk hX1 (I_hull hI _ _ _ _ _) Jk.rf)
theorem L_1 (hn : n ≤ 3584) (hi : i + 7 ≤ n) (hS : St f a τ) (hq : ∀ f2 a2 τ2, St f2 a2 τ2 → Ev (kL_law xs n) (1506, lwL i, [], τ2) Q) : Ev (kL_law xs n) (243, lwL i, [], τ) Q := by
  obtain ⟨hX, hI, hM⟩ := hS
  have c0 := hX.c0
  repeat refine Ev_go rfl ?_
  refine Ev_ialS (i + 1) rfl (nI_add i 1) (by omega) (by omega) ?_
  repeat refine Ev_go rfl ?_
  refine Ev_ialS (i + 2) rfl (nI_add i 2) (by omega) (by omega) ?_
  repeat refine Ev_go rfl ?_
  refine Ev_cv rfl rfl c0 rfl rfl ?_
  refine X_ofHull hI hX _ _ (fun τ1 h1 => ?_)
  have hX1 := hX.s h1
  have hM1 := mM_un hM h1.un
  repeat refine Ev_go rfl ?_
  refine Ev_ialS (i + 1) rfl (nI_add i 1) (by omega) (by omega) ?_
  repeat refine Ev_go rfl ?_
  refine Ev_ialS (i + 2) rfl (nI_add i 2) (by omega) (by omega) ?_
  repeat refine Ev_go rfl ?_
  rw [← hM1]
  refine Ev_ca rfl ?_
  refine M_ofHull hI _ _ (fun f2 a2 hJ => ?_)
  repeat refine Ev_go rfl ?_
  refine Ev_if (fun _ => ?_) (fun g => absurd rfl g)
  exact hq _ _ _ (St.mk hX1 hI hJ)
theorem L_2 (hn : n ≤ 3584) (hi : i + 7 ≤ n) (hS : St f a τ) (hq : ∀ f2 a2 τ2, St f2 a2 τ2 → Ev (kL_law xs n) (1506, lwL i, [], τ2) Q) : Ev (kL_law xs n) (276, lwL i, [], τ) Q := by
  obtain ⟨hX, hI, hM⟩ := hS
  have c0 := hX.c0
  repeat refine Ev_go rfl ?_
  refine Ev_ialS (i + 1) rfl (nI_add i 1) (by omega) (by omega) ?_
  repeat refine Ev_go rfl ?_
  refine Ev_ialS (i + 2) rfl (nI_add i 2) (by omega) (by omega) ?_
  repeat refine Ev_go rfl ?_
  refine Ev_ialS (i + 3) rfl (nI_add i 3) (by omega) (by omega) ?_
  repeat refine Ev_go rfl ?_
  refine Ev_cv rfl rfl c0 rfl rfl ?_
  refine X_station hI hX _ _ _ (fun τ1 h1 => ?_)
  have hX1 := hX.s h1
  have hM1 := mM_un hM h1.un
  repeat refine Ev_go rfl ?_
  refine Ev_ialS (i + 1) rfl (nI_add i 1) (by omega) (by omega) ?_
  repeat refine Ev_go rfl ?_
  refine Ev_ialS (i + 2) rfl (nI_add i 2) (by omega) (by omega) ?_
  repeat refine Ev_go rfl ?_
  refine Ev_ialS (i + 3) rfl (nI_add i 3) (by omega) (by omega) ?_
  repeat refine Ev_go rfl ?_
  rw [← hM1]
  refine Ev_ca rfl ?_
  refine M_station hI _ _ _ ?_
  repeat refine Ev_go rfl ?_
  refine Ev_if (fun _ => ?_) (fun g => absurd rfl g)
  exact hq _ _ _ (St.mk hX1 hI Jk.rf)
theorem L_3 (hn : n ≤ 3584) (hi : i + 7 ≤ n) (hS : St f a τ) (hq : ∀ f2 a2 τ2, St f2 a2 τ2 → Ev (kL_law xs n) (1506, lwL i, [], τ2) Q) : Ev (kL_law xs n) (319, lwL i, [], τ) Q := by
  obtain ⟨hX, hI, hM⟩ := hS
  have c0 := hX.c0
  repeat refine Ev_go rfl ?_
  refine Ev_ialS (i + 1) rfl (nI_add i 1) (by omega) (by omega) ?_
  repeat refine Ev_go rfl ?_
  refine Ev_ialS (i + 2) rfl (nI_add i 2) (by omega) (by omega) ?_
  repeat refine Ev_go rfl ?_
  refine Ev_ialS (i + 3) rfl (nI_add i 3) (by omega) (by omega) ?_
  repeat refine Ev_go rfl ?_
  refine Ev_ialS (i + 4) rfl (nI_add i 4) (by omega) (by omega) ?_
  repeat refine Ev_go rfl ?_
  refine Ev_cv rfl rfl c0 rfl rfl ?_
  refine X_build hI hX _ _ _ _ (fun τ1 hX1 hU => ?_)
  have hM1 := mM_un hM hU
  repeat refine Ev_go rfl ?_
  refine Ev_ialS (i + 1) rfl (nI_add i 1) (by omega) (by omega) ?_
  repeat refine Ev_go rfl ?_
  refine Ev_ialS (i + 2) rfl (nI_add i 2) (by omega) (by omega) ?_
  repeat refine Ev_go rfl ?_
  refine Ev_ialS (i + 3) rfl (nI_add i 3) (by omega) (by omega) ?_
  repeat refine Ev_go rfl ?_
  refine Ev_ialS (i + 4) rfl (nI_add i 4) (by omega) (by omega) ?_
  repeat refine Ev_go rfl ?_
  rw [← hM1]
  refine Ev_ca rfl ?_
  refine M_build hI _ _ _ _ ?_
  repeat refine Ev_go rfl ?_
  refine Ev_if (fun _ => ?_) (fun g => absurd rfl g)
  exact hq _ _ _ (St.mk hX1 (I_build hI _ _ _ _) Jk.rf)
theorem L_4 (hn : n ≤ 3584) (hi : i + 7 ≤ n) (hS : St f a τ) (hq : ∀ f2 a2 τ2, St f2 a2 τ2 → Ev (kL_law xs n) (1506, lwL i, [], τ2) Q) : Ev (kL_law xs n) (372, lwL i, [], τ) Q := by
  obtain ⟨hX, hI, hM⟩ := hS
  have c0 := hX.c0
  repeat refine Ev_go rfl ?_
  refine Ev_ialS (i + 1) rfl (nI_add i 1) (by omega) (by omega) ?_
  repeat refine Ev_go rfl ?_
  refine Ev_ialS (i + 2) rfl (nI_add i 2) (by omega) (by omega) ?_
  repeat refine Ev_go rfl ?_
  refine Ev_ialS (i + 3) rfl (nI_add i 3) (by omega) (by omega) ?_
  repeat refine Ev_go rfl ?_
  refine Ev_ialS (i + 4) rfl (nI_add i 4) (by omega) (by omega) ?_
  repeat refine Ev_go rfl ?_
  refine Ev_cv rfl rfl c0 rfl rfl ?_
  refine X_law hI hX _ _ _ _ (fun τ1 hX1 hU => ?_)
  have hM1 := mM_un hM hU
  repeat refine Ev_go rfl ?_
  refine Ev_ialS (i + 1) rfl (nI_add i 1) (by omega) (by omega) ?_
  repeat refine Ev_go rfl ?_
  refine Ev_ialS (i + 2) rfl (nI_add i 2) (by omega) (by omega) ?_
  repeat refine Ev_go rfl ?_
  refine Ev_ialS (i + 3) rfl (nI_add i 3) (by omega) (by omega) ?_
  repeat refine Ev_go rfl ?_
  refine Ev_ialS (i + 4) rfl (nI_add i 4) (by omega) (by omega) ?_
  repeat refine Ev_go rfl ?_
  rw [← hM1]
  refine Ev_ca rfl ?_
  refine M_law hI _ _ _ _ (fun f2 a2 hJ => ?_)
  repeat refine Ev_go rfl ?_
  refine Ev_if (fun _ => ?_) (fun g => absurd rfl g)
  exact hq _ _ _ (St.mk hX1 (I_law hI _ _ _ _) hJ)
theorem L_5 (hn : n ≤ 3584) (hi : i + 7 ≤ n) (hS : St f a τ) (hq : ∀ f2 a2 τ2, St f2 a2 τ2 → Ev (kL_law xs n) (1506, lwL i, [], τ2) Q) : Ev (kL_law xs n) (425, lwL i, [], τ) Q := by
  obtain ⟨hX, hI, hM⟩ := hS
  have c0 := hX.c0
  repeat refine Ev_go rfl ?_
  refine Ev_ialS (i + 1) rfl (nI_add i 1) (by omega) (by omega) ?_
  repeat refine Ev_go rfl ?_
  refine Ev_cv rfl rfl c0 rfl rfl ?_
  refine X_words hI hX _ (fun τ1 h1 => ?_)
  have hX1 := hX.s h1
  have hM1 := mM_un hM h1.un
  repeat refine Ev_go rfl ?_
  refine Ev_ialS (i + 1) rfl (nI_add i 1) (by omega) (by omega) ?_
  repeat refine Ev_go rfl ?_
  rw [← hM1]
  refine Ev_ca rfl ?_
  refine M_words hI _ ?_
  repeat refine Ev_go rfl ?_
  refine Ev_if (fun _ => ?_) (fun g => absurd rfl g)
  exact hq _ _ _ (St.mk hX1 hI Jk.rf)
theorem L_6 (hn : n ≤ 3584) (hi : i + 7 ≤ n) (hS : St f a τ) (hq : ∀ f2 a2 τ2, St f2 a2 τ2 → Ev (kL_law xs n) (1506, lwL i, [], τ2) Q) : Ev (kL_law xs n) (448, lwL i, [], τ) Q := by
  obtain ⟨hX, hI, hM⟩ := hS
  have c0 := hX.c0
  repeat refine Ev_go rfl ?_
  refine Ev_ialS (i + 1) rfl (nI_add i 1) (by omega) (by omega) ?_
  repeat refine Ev_go rfl ?_
  refine Ev_ialS (i + 2) rfl (nI_add i 2) (by omega) (by omega) ?_
  repeat refine Ev_go rfl ?_
  refine Ev_cv rfl rfl c0 rfl rfl ?_
  refine X_owes hI hX _ _ (fun τ1 h1 => ?_)
  have hX1 := hX.s h1
  have hM1 := mM_un hM h1.un
  repeat refine Ev_go rfl ?_
  refine Ev_ialS (i + 1) rfl (nI_add i 1) (by omega) (by omega) ?_
  repeat refine Ev_go rfl ?_
  refine Ev_ialS (i + 2) rfl (nI_add i 2) (by omega) (by omega) ?_
  repeat refine Ev_go rfl ?_
  rw [← hM1]
  refine Ev_ca rfl ?_
  refine M_owes hI _ _ (fun f2 a2 hJ => ?_)
  repeat refine Ev_go rfl ?_
  refine Ev_if (fun _ => ?_) (fun g => absurd rfl g)
  exact hq _ _ _ (St.mk hX1 hI hJ)
theorem L_7 (hn : n ≤ 3584) (hi : i + 7 ≤ n) (hS : St f a τ) (hq : ∀ f2 a2 τ2, St f2 a2 τ2 → Ev (kL_law xs n) (1506, lwL i, [], τ2) Q) : Ev (kL_law xs n) (481, lwL i, [], τ) Q := by
  obtain ⟨hX, hI, hM⟩ := hS
  have c0 := hX.c0
  repeat refine Ev_go rfl ?_
  refine Ev_ialS (i + 1) rfl (nI_add i 1) (by omega) (by omega) ?_
  repeat refine Ev_go rfl ?_
  refine Ev_ialS (i + 2) rfl (nI_add i 2) (by omega) (by omega) ?_
  repeat refine Ev_go rfl ?_
  refine Ev_ialS (i + 3) rfl (nI_add i 3) (by omega) (by omega) ?_
  repeat refine Ev_go rfl ?_
  refine Ev_cv rfl rfl c0 rfl rfl ?_
  refine X_word hI hX _ _ _ (fun τ1 h1 => ?_)
  have hX1 := hX.s h1
  have hM1 := mM_un hM h1.un
  repeat refine Ev_go rfl ?_
  refine Ev_ialS (i + 1) rfl (nI_add i 1) (by omega) (by omega) ?_
  repeat refine Ev_go rfl ?_
  refine Ev_ialS (i + 2) rfl (nI_add i 2) (by omega) (by omega) ?_
  repeat refine Ev_go rfl ?_
  refine Ev_ialS (i + 3) rfl (nI_add i 3) (by omega) (by omega) ?_
  repeat refine Ev_go rfl ?_
  rw [← hM1]
  refine Ev_ca rfl ?_
  refine M_word hI _ _ _ (fun f2 a2 hJ => ?_)
  repeat refine Ev_go rfl ?_
  refine Ev_if (fun _ => ?_) (fun g => absurd rfl g)
  exact hq _ _ _ (St.mk hX1 hI hJ)
theorem L_8 (hn : n ≤ 3584) (hi : i + 7 ≤ n) (hS : St f a τ) (hq : ∀ f2 a2 τ2, St f2 a2 τ2 → Ev (kL_law xs n) (1506, lwL i, [], τ2) Q) : Ev (kL_law xs n) (524, lwL i, [], τ) Q := by
  obtain ⟨hX, hI, hM⟩ := hS
  have c0 := hX.c0
  repeat refine Ev_go rfl ?_
  refine Ev_ialS (i + 1) rfl (nI_add i 1) (by omega) (by omega) ?_
  repeat refine Ev_go rfl ?_
  refine Ev_ialS (i + 2) rfl (nI_add i 2) (by omega) (by omega) ?_
  repeat refine Ev_go rfl ?_
  refine Ev_cv rfl rfl c0 rfl rfl ?_
  refine X_need hI hX _ _ (fun τ1 hX1 hU => ?_)
  have hM1 := mM_un hM hU
  repeat refine Ev_go rfl ?_
  refine Ev_ialS (i + 1) rfl (nI_add i 1) (by omega) (by omega) ?_
  repeat refine Ev_go rfl ?_
  refine Ev_ialS (i + 2) rfl (nI_add i 2) (by omega) (by omega) ?_
  repeat refine Ev_go rfl ?_
  rw [← hM1]
  refine Ev_ca rfl ?_
  refine M_need  _ _ ?_
  repeat refine Ev_go rfl ?_
  refine Ev_if (fun _ => ?_) (fun g => absurd rfl g)
  exact hq _ _ _ (St.mk hX1 (I_need hI _ _) Jk.rf)
theorem L_9 (hn : n ≤ 3584) (hi : i + 7 ≤ n) (hS : St f a τ) (hq : ∀ f2 a2 τ2, St f2 a2 τ2 → Ev (kL_law xs n) (1506, lwL i, [], τ2) Q) : Ev (kL_law xs n) (557, lwL i, [], τ) Q := by
  obtain ⟨hX, hI, hM⟩ := hS
  have c0 := hX.c0
  repeat refine Ev_go rfl ?_
  refine Ev_ialS (i + 1) rfl (nI_add i 1) (by omega) (by omega) ?_
  repeat refine Ev_go rfl ?_
  refine Ev_ialS (i + 2) rfl (nI_add i 2) (by omega) (by omega) ?_
  repeat refine Ev_go rfl ?_
  refine Ev_cv rfl rfl c0 rfl rfl ?_
  refine X_broken hI hX _ _ (fun τ1 h1 => ?_)
  have hX1 := hX.s h1
  have hM1 := mM_un hM h1.un
  repeat refine Ev_go rfl ?_
  refine Ev_ialS (i + 1) rfl (nI_add i 1) (by omega) (by omega) ?_
  repeat refine Ev_go rfl ?_
  refine Ev_ialS (i + 2) rfl (nI_add i 2) (by omega) (by omega) ?_
  repeat refine Ev_go rfl ?_
  rw [← hM1]
  refine Ev_ca rfl ?_
  refine M_broken hI _ _ (fun f2 a2 hJ => ?_)
  repeat refine Ev_go rfl ?_
  refine Ev_if (fun _ => ?_) (fun g => absurd rfl g)
  exact hq _ _ _ (St.mk hX1 hI hJ)
theorem L_10 (hn : n ≤ 3584) (hi : i + 7 ≤ n) (hS : St f a τ) (hq : ∀ f2 a2 τ2, St f2 a2 τ2 → Ev (kL_law xs n) (1506, lwL i, [], τ2) Q) : Ev (kL_law xs n) (590, lwL i, [], τ) Q := by
  obtain ⟨hX, hI, hM⟩ := hS
  have c0 := hX.c0
  repeat refine Ev_go rfl ?_
  refine Ev_ialS (i + 1) rfl (nI_add i 1) (by omega) (by omega) ?_
  repeat refine Ev_go rfl ?_
  refine Ev_ialS (i + 2) rfl (nI_add i 2) (by omega) (by omega) ?_
  repeat refine Ev_go rfl ?_
  refine Ev_cv rfl rfl c0 rfl rfl ?_
  refine X_worth hI hX _ _ (fun τ1 h1 => ?_)
  have hX1 := hX.s h1
  have hM1 := mM_un hM h1.un
  repeat refine Ev_go rfl ?_
  refine Ev_ialS (i + 1) rfl (nI_add i 1) (by omega) (by omega) ?_
  repeat refine Ev_go rfl ?_
  refine Ev_ialS (i + 2) rfl (nI_add i 2) (by omega) (by omega) ?_
  repeat refine Ev_go rfl ?_
  rw [← hM1]
  refine Ev_ca rfl ?_
  refine M_worth hI _ _ (fun f2 a2 hJ => ?_)
  repeat refine Ev_go rfl ?_
  refine Ev_if (fun _ => ?_) (fun g => absurd ((cmp_eq _ _).mpr rfl) g)
  exact hq _ _ _ (St.mk hX1 hI hJ)
theorem L_11 (hn : n ≤ 3584) (hi : i + 7 ≤ n) (hS : St f a τ) (hq : ∀ f2 a2 τ2, St f2 a2 τ2 → Ev (kL_law xs n) (1506, lwL i, [], τ2) Q) : Ev (kL_law xs n) (624, lwL i, [], τ) Q := by
  obtain ⟨hX, hI, hM⟩ := hS
  have c0 := hX.c0
  repeat refine Ev_go rfl ?_
  refine Ev_ialS (i + 1) rfl (nI_add i 1) (by omega) (by omega) ?_
  repeat refine Ev_go rfl ?_
  refine Ev_ialS (i + 2) rfl (nI_add i 2) (by omega) (by omega) ?_
  repeat refine Ev_go rfl ?_
  refine Ev_cv rfl rfl c0 rfl rfl ?_
  refine X_risk hI hX _ _ (fun τ1 h1 => ?_)
  have hX1 := hX.s h1
  have hM1 := mM_un hM h1.un
  repeat refine Ev_go rfl ?_
  refine Ev_ialS (i + 1) rfl (nI_add i 1) (by omega) (by omega) ?_
  repeat refine Ev_go rfl ?_
  refine Ev_ialS (i + 2) rfl (nI_add i 2) (by omega) (by omega) ?_
  repeat refine Ev_go rfl ?_
  rw [← hM1]
  refine Ev_ca rfl ?_
  refine M_risk hI _ _ (fun f2 a2 hJ => ?_)
  repeat refine Ev_go rfl ?_
  refine Ev_if (fun _ => ?_) (fun g => absurd ((cmp_eq _ _).mpr rfl) g)
  exact hq _ _ _ (St.mk hX1 hI hJ)
theorem L_12 (hn : n ≤ 3584) (hi : i + 7 ≤ n) (hS : St f a τ) (hq : ∀ f2 a2 τ2, St f2 a2 τ2 → Ev (kL_law xs n) (1506, lwL i, [], τ2) Q) : Ev (kL_law xs n) (658, lwL i, [], τ) Q := by
  obtain ⟨hX, hI, hM⟩ := hS
  have c0 := hX.c0
  repeat refine Ev_go rfl ?_
  refine Ev_ialS (i + 1) rfl (nI_add i 1) (by omega) (by omega) ?_
  repeat refine Ev_go rfl ?_
  refine Ev_ialS (i + 2) rfl (nI_add i 2) (by omega) (by omega) ?_
  repeat refine Ev_go rfl ?_
  refine Ev_ialS (i + 3) rfl (nI_add i 3) (by omega) (by omega) ?_
  repeat refine Ev_go rfl ?_
  refine Ev_ialS (i + 4) rfl (nI_add i 4) (by omega) (by omega) ?_
  repeat refine Ev_go rfl ?_
  refine Ev_ialS (i + 5) rfl (nI_add i 5) (by omega) (by omega) ?_
  repeat refine Ev_go rfl ?_
  refine Ev_cv rfl rfl c0 rfl rfl ?_
  refine X_best hI hX _ _ _ _ _ (fun τ1 h1 => ?_)
  have hX1 := hX.s h1
  have hM1 := mM_un hM h1.un
  repeat refine Ev_go rfl ?_
  refine Ev_ialS (i + 1) rfl (nI_add i 1) (by omega) (by omega) ?_
  repeat refine Ev_go rfl ?_
  refine Ev_ialS (i + 2) rfl (nI_add i 2) (by omega) (by omega) ?_
  repeat refine Ev_go rfl ?_
  refine Ev_ialS (i + 3) rfl (nI_add i 3) (by omega) (by omega) ?_
  repeat refine Ev_go rfl ?_
  refine Ev_ialS (i + 4) rfl (nI_add i 4) (by omega) (by omega) ?_
  repeat refine Ev_go rfl ?_
  refine Ev_ialS (i + 5) rfl (nI_add i 5) (by omega) (by omega) ?_
  repeat refine Ev_go rfl ?_
  rw [← hM1]
  refine Ev_ca rfl ?_
  refine M_best hI _ _ _ _ _ (fun f2 a2 hJ => ?_)
  repeat refine Ev_go rfl ?_
  refine Ev_if (fun _ => ?_) (fun g => absurd ((cmp_eq _ _).mpr rfl) g)
  exact hq _ _ _ (St.mk hX1 hI hJ)
theorem L_13 (hn : n ≤ 3584) (hi : i + 7 ≤ n) (hS : St f a τ) (hq : ∀ f2 a2 τ2, St f2 a2 τ2 → Ev (kL_law xs n) (1506, lwL i, [], τ2) Q) : Ev (kL_law xs n) (722, lwL i, [], τ) Q := by
  obtain ⟨hX, hI, hM⟩ := hS
  have c0 := hX.c0
  repeat refine Ev_go rfl ?_
  refine Ev_ialS (i + 1) rfl (nI_add i 1) (by omega) (by omega) ?_
  repeat refine Ev_go rfl ?_
  refine Ev_ialS (i + 2) rfl (nI_add i 2) (by omega) (by omega) ?_
  repeat refine Ev_go rfl ?_
  refine Ev_ialS (i + 3) rfl (nI_add i 3) (by omega) (by omega) ?_
  repeat refine Ev_go rfl ?_
  refine Ev_ialS (i + 4) rfl (nI_add i 4) (by omega) (by omega) ?_
  repeat refine Ev_go rfl ?_
  refine Ev_ialS (i + 5) rfl (nI_add i 5) (by omega) (by omega) ?_
  repeat refine Ev_go rfl ?_
  refine Ev_cv rfl rfl c0 rfl rfl ?_
  refine X_shape hI hX _ _ _ _ _ (fun τ1 h1 => ?_)
  have hX1 := hX.s h1
  have hM1 := mM_un hM h1.un
  repeat refine Ev_go rfl ?_
  refine Ev_ialS (i + 1) rfl (nI_add i 1) (by omega) (by omega) ?_
  repeat refine Ev_go rfl ?_
  refine Ev_ialS (i + 2) rfl (nI_add i 2) (by omega) (by omega) ?_
  repeat refine Ev_go rfl ?_
  refine Ev_ialS (i + 3) rfl (nI_add i 3) (by omega) (by omega) ?_
  repeat refine Ev_go rfl ?_
  refine Ev_ialS (i + 4) rfl (nI_add i 4) (by omega) (by omega) ?_
  repeat refine Ev_go rfl ?_
  refine Ev_ialS (i + 5) rfl (nI_add i 5) (by omega) (by omega) ?_
  repeat refine Ev_go rfl ?_
  rw [← hM1]
  refine Ev_ca rfl ?_
  refine M_shape hI _ _ _ _ _ (fun f2 a2 hJ => ?_)
  repeat refine Ev_go rfl ?_
  refine Ev_if (fun _ => ?_) (fun g => absurd rfl g)
  exact hq _ _ _ (St.mk hX1 hI hJ)
theorem L_14 (hn : n ≤ 3584) (hi : i + 7 ≤ n) (hS : St f a τ) (hq : ∀ f2 a2 τ2, St f2 a2 τ2 → Ev (kL_law xs n) (1506, lwL i, [], τ2) Q) : Ev (kL_law xs n) (785, lwL i, [], τ) Q := by
  obtain ⟨hX, hI, hM⟩ := hS
  have c0 := hX.c0
  repeat refine Ev_go rfl ?_
  refine Ev_ialS (i + 1) rfl (nI_add i 1) (by omega) (by omega) ?_
  repeat refine Ev_go rfl ?_
  refine Ev_ialS (i + 2) rfl (nI_add i 2) (by omega) (by omega) ?_
  repeat refine Ev_go rfl ?_
  refine Ev_ialS (i + 3) rfl (nI_add i 3) (by omega) (by omega) ?_
  repeat refine Ev_go rfl ?_
  refine Ev_cv rfl rfl c0 rfl rfl ?_
  refine X_shapes hI hX _ _ _ (fun τ1 h1 => ?_)
  have hX1 := hX.s h1
  have hM1 := mM_un hM h1.un
  repeat refine Ev_go rfl ?_
  refine Ev_ialS (i + 1) rfl (nI_add i 1) (by omega) (by omega) ?_
  repeat refine Ev_go rfl ?_
  refine Ev_ialS (i + 2) rfl (nI_add i 2) (by omega) (by omega) ?_
  repeat refine Ev_go rfl ?_
  refine Ev_ialS (i + 3) rfl (nI_add i 3) (by omega) (by omega) ?_
  repeat refine Ev_go rfl ?_
  rw [← hM1]
  refine Ev_ca rfl ?_
  refine M_shapes hI _ _ _ (fun f2 a2 hJ => ?_)
  repeat refine Ev_go rfl ?_
  refine Ev_if (fun _ => ?_) (fun g => absurd rfl g)
  exact hq _ _ _ (St.mk hX1 hI hJ)
theorem L_15 (hn : n ≤ 3584) (hi : i + 7 ≤ n) (hS : St f a τ) (hq : ∀ f2 a2 τ2, St f2 a2 τ2 → Ev (kL_law xs n) (1506, lwL i, [], τ2) Q) : Ev (kL_law xs n) (828, lwL i, [], τ) Q := by
  obtain ⟨hX, hI, hM⟩ := hS
  have c0 := hX.c0
  repeat refine Ev_go rfl ?_
  refine Ev_ialS (i + 1) rfl (nI_add i 1) (by omega) (by omega) ?_
  repeat refine Ev_go rfl ?_
  refine Ev_ialS (i + 2) rfl (nI_add i 2) (by omega) (by omega) ?_
  repeat refine Ev_go rfl ?_
  refine Ev_ialS (i + 3) rfl (nI_add i 3) (by omega) (by omega) ?_
  repeat refine Ev_go rfl ?_
  refine Ev_ialS (i + 4) rfl (nI_add i 4) (by omega) (by omega) ?_
  repeat refine Ev_go rfl ?_
  refine Ev_ialS (i + 5) rfl (nI_add i 5) (by omega) (by omega) ?_
  repeat refine Ev_go rfl ?_
  refine Ev_ialS (i + 6) rfl (nI_add i 6) (by omega) (by omega) ?_
  repeat refine Ev_go rfl ?_
  refine Ev_cv rfl rfl c0 rfl rfl ?_
  refine X_without hI hX _ _ _ _ _ _ (fun τ1 h1 => ?_)
  have hX1 := hX.s h1
  have hM1 := mM_un hM h1.un
  repeat refine Ev_go rfl ?_
  refine Ev_ialS (i + 1) rfl (nI_add i 1) (by omega) (by omega) ?_
  repeat refine Ev_go rfl ?_
  refine Ev_ialS (i + 2) rfl (nI_add i 2) (by omega) (by omega) ?_
  repeat refine Ev_go rfl ?_
  refine Ev_ialS (i + 3) rfl (nI_add i 3) (by omega) (by omega) ?_
  repeat refine Ev_go rfl ?_
  refine Ev_ialS (i + 4) rfl (nI_add i 4) (by omega) (by omega) ?_
  repeat refine Ev_go rfl ?_
  refine Ev_ialS (i + 5) rfl (nI_add i 5) (by omega) (by omega) ?_
  repeat refine Ev_go rfl ?_
  refine Ev_ialS (i + 6) rfl (nI_add i 6) (by omega) (by omega) ?_
  repeat refine Ev_go rfl ?_
  rw [← hM1]
  refine Ev_ca rfl ?_
  refine M_without hI _ _ _ _ _ _ (fun f2 a2 hJ => ?_)
  repeat refine Ev_go rfl ?_
  refine Ev_if (fun _ => ?_) (fun g => absurd ((cmp_eq _ _).mpr rfl) g)
  exact hq _ _ _ (St.mk hX1 hI hJ)
theorem L_16 (hn : n ≤ 3584) (hi : i + 7 ≤ n) (hS : St f a τ) (hq : ∀ f2 a2 τ2, St f2 a2 τ2 → Ev (kL_law xs n) (1506, lwL i, [], τ2) Q) : Ev (kL_law xs n) (904, lwL i, [], τ) Q := by
  obtain ⟨hX, hI, hM⟩ := hS
  have c0 := hX.c0
  repeat refine Ev_go rfl ?_
  refine Ev_ialS (i + 1) rfl (nI_add i 1) (by omega) (by omega) ?_
  repeat refine Ev_go rfl ?_
  refine Ev_ialS (i + 2) rfl (nI_add i 2) (by omega) (by omega) ?_
  repeat refine Ev_go rfl ?_
  refine Ev_ialS (i + 3) rfl (nI_add i 3) (by omega) (by omega) ?_
  repeat refine Ev_go rfl ?_
  refine Ev_ialS (i + 4) rfl (nI_add i 4) (by omega) (by omega) ?_
  repeat refine Ev_go rfl ?_
  refine Ev_cv rfl rfl c0 rfl rfl ?_
  refine X_mend hI hX _ _ _ _ (fun τ1 h1 => ?_)
  have hX1 := hX.s h1
  have hM1 := mM_un hM h1.un
  repeat refine Ev_go rfl ?_
  refine Ev_ialS (i + 1) rfl (nI_add i 1) (by omega) (by omega) ?_
  repeat refine Ev_go rfl ?_
  refine Ev_ialS (i + 2) rfl (nI_add i 2) (by omega) (by omega) ?_
  repeat refine Ev_go rfl ?_
  refine Ev_ialS (i + 3) rfl (nI_add i 3) (by omega) (by omega) ?_
  repeat refine Ev_go rfl ?_
  refine Ev_ialS (i + 4) rfl (nI_add i 4) (by omega) (by omega) ?_
  repeat refine Ev_go rfl ?_
  rw [← hM1]
  refine Ev_ca rfl ?_
  refine M_mend hI _ _ _ _ (fun f2 a2 hJ => ?_)
  repeat refine Ev_go rfl ?_
  refine Ev_if (fun _ => ?_) (fun g => absurd rfl g)
  exact hq _ _ _ (St.mk hX1 hI hJ)
theorem L_17 (hn : n ≤ 3584) (hi : i + 7 ≤ n) (hS : St f a τ) (hq : ∀ f2 a2 τ2, St f2 a2 τ2 → Ev (kL_law xs n) (1506, lwL i, [], τ2) Q) : Ev (kL_law xs n) (957, lwL i, [], τ) Q := by
  obtain ⟨hX, hI, hM⟩ := hS
  have c0 := hX.c0
  repeat refine Ev_go rfl ?_
  refine Ev_ialS (i + 1) rfl (nI_add i 1) (by omega) (by omega) ?_
  repeat refine Ev_go rfl ?_
  refine Ev_ialS (i + 2) rfl (nI_add i 2) (by omega) (by omega) ?_
  repeat refine Ev_go rfl ?_
  refine Ev_ialS (i + 3) rfl (nI_add i 3) (by omega) (by omega) ?_
  repeat refine Ev_go rfl ?_
  refine Ev_ialS (i + 4) rfl (nI_add i 4) (by omega) (by omega) ?_
  repeat refine Ev_go rfl ?_
  refine Ev_ialS (i + 5) rfl (nI_add i 5) (by omega) (by omega) ?_
  repeat refine Ev_go rfl ?_
  refine Ev_cv rfl rfl c0 rfl rfl ?_
  refine X_crowd hI hX _ _ _ _ _ (fun τ1 h1 => ?_)
  have hX1 := hX.s h1
  have hM1 := mM_un hM h1.un
  repeat refine Ev_go rfl ?_
  refine Ev_ialS (i + 1) rfl (nI_add i 1) (by omega) (by omega) ?_
  repeat refine Ev_go rfl ?_
  refine Ev_ialS (i + 2) rfl (nI_add i 2) (by omega) (by omega) ?_
  repeat refine Ev_go rfl ?_
  refine Ev_ialS (i + 3) rfl (nI_add i 3) (by omega) (by omega) ?_
  repeat refine Ev_go rfl ?_
  refine Ev_ialS (i + 4) rfl (nI_add i 4) (by omega) (by omega) ?_
  repeat refine Ev_go rfl ?_
  refine Ev_ialS (i + 5) rfl (nI_add i 5) (by omega) (by omega) ?_
  repeat refine Ev_go rfl ?_
  rw [← hM1]
  refine Ev_ca rfl ?_
  refine M_crowd hI _ _ _ _ _ (fun f2 a2 hJ => ?_)
  repeat refine Ev_go rfl ?_
  refine Ev_if (fun _ => ?_) (fun g => absurd rfl g)
  exact hq _ _ _ (St.mk hX1 hI hJ)
theorem L_18 (hn : n ≤ 3584) (hi : i + 7 ≤ n) (hS : St f a τ) (hq : ∀ f2 a2 τ2, St f2 a2 τ2 → Ev (kL_law xs n) (1506, lwL i, [], τ2) Q) : Ev (kL_law xs n) (1020, lwL i, [], τ) Q := by
  obtain ⟨hX, hI, hM⟩ := hS
  have c0 := hX.c0
  repeat refine Ev_go rfl ?_
  refine Ev_ialS (i + 1) rfl (nI_add i 1) (by omega) (by omega) ?_
  repeat refine Ev_go rfl ?_
  refine Ev_ialS (i + 2) rfl (nI_add i 2) (by omega) (by omega) ?_
  repeat refine Ev_go rfl ?_
  refine Ev_cv rfl rfl c0 rfl rfl ?_
  refine X_step hI hX _ _ (fun τ1 h1 => ?_)
  have hX1 := hX.s h1
  have hM1 := mM_un hM h1.un
  repeat refine Ev_go rfl ?_
  refine Ev_ialS (i + 1) rfl (nI_add i 1) (by omega) (by omega) ?_
  repeat refine Ev_go rfl ?_
  refine Ev_ialS (i + 2) rfl (nI_add i 2) (by omega) (by omega) ?_
  repeat refine Ev_go rfl ?_
  rw [← hM1]
  refine Ev_ca rfl ?_
  refine M_step hI _ _ (fun f2 a2 hJ => ?_)
  repeat refine Ev_go rfl ?_
  refine Ev_if (fun _ => ?_) (fun g => absurd rfl g)
  exact hq _ _ _ (St.mk hX1 hI hJ)
theorem L_19 (hn : n ≤ 3584) (hi : i + 7 ≤ n) (hS : St f a τ) (hq : ∀ f2 a2 τ2, St f2 a2 τ2 → Ev (kL_law xs n) (1506, lwL i, [], τ2) Q) : Ev (kL_law xs n) (1053, lwL i, [], τ) Q := by
  obtain ⟨hX, hI, hM⟩ := hS
  have c0 := hX.c0
  repeat refine Ev_go rfl ?_
  refine Ev_ialS (i + 1) rfl (nI_add i 1) (by omega) (by omega) ?_
  repeat refine Ev_go rfl ?_
  refine Ev_ialS (i + 2) rfl (nI_add i 2) (by omega) (by omega) ?_
  repeat refine Ev_go rfl ?_
  refine Ev_ialS (i + 3) rfl (nI_add i 3) (by omega) (by omega) ?_
  repeat refine Ev_go rfl ?_
  refine Ev_cv rfl rfl c0 rfl rfl ?_
  refine X_trim hI hX _ _ _ (fun τ1 h1 => ?_)
  have hX1 := hX.s h1
  have hM1 := mM_un hM h1.un
  repeat refine Ev_go rfl ?_
  refine Ev_ialS (i + 1) rfl (nI_add i 1) (by omega) (by omega) ?_
  repeat refine Ev_go rfl ?_
  refine Ev_ialS (i + 2) rfl (nI_add i 2) (by omega) (by omega) ?_
  repeat refine Ev_go rfl ?_
  refine Ev_ialS (i + 3) rfl (nI_add i 3) (by omega) (by omega) ?_
  repeat refine Ev_go rfl ?_
  rw [← hM1]
  refine Ev_ca rfl ?_
  refine M_trim hI _ _ _ (fun f2 a2 hJ => ?_)
  repeat refine Ev_go rfl ?_
  refine Ev_if (fun _ => ?_) (fun g => absurd rfl g)
  exact hq _ _ _ (St.mk hX1 hI hJ)
theorem L_20 (hn : n ≤ 3584) (hi : i + 7 ≤ n) (hS : St f a τ) (hq : ∀ f2 a2 τ2, St f2 a2 τ2 → Ev (kL_law xs n) (1506, lwL i, [], τ2) Q) : Ev (kL_law xs n) (1096, lwL i, [], τ) Q := by
  obtain ⟨hX, hI, hM⟩ := hS
  have c0 := hX.c0
  repeat refine Ev_go rfl ?_
  refine Ev_ialS (i + 1) rfl (nI_add i 1) (by omega) (by omega) ?_
  repeat refine Ev_go rfl ?_
  refine Ev_ialS (i + 2) rfl (nI_add i 2) (by omega) (by omega) ?_
  repeat refine Ev_go rfl ?_
  refine Ev_cv rfl rfl c0 rfl rfl ?_
  refine X_route hI hX _ _ (fun τ1 h1 => ?_)
  have hX1 := hX.s h1
  have hM1 := mM_un hM h1.un
  repeat refine Ev_go rfl ?_
  refine Ev_ialS (i + 1) rfl (nI_add i 1) (by omega) (by omega) ?_
  repeat refine Ev_go rfl ?_
  refine Ev_ialS (i + 2) rfl (nI_add i 2) (by omega) (by omega) ?_
  repeat refine Ev_go rfl ?_
  rw [← hM1]
  refine Ev_ca rfl ?_
  refine M_route hI _ _ (fun f2 a2 hJ => ?_)
  repeat refine Ev_go rfl ?_
  refine Ev_if (fun _ => ?_) (fun g => absurd rfl g)
  exact hq _ _ _ (St.mk hX1 hI hJ)
theorem L_21 (hn : n ≤ 3584) (hi : i + 7 ≤ n) (hS : St f a τ) (hq : ∀ f2 a2 τ2, St f2 a2 τ2 → Ev (kL_law xs n) (1506, lwL i, [], τ2) Q) : Ev (kL_law xs n) (1129, lwL i, [], τ) Q := by
  obtain ⟨hX, hI, hM⟩ := hS
  have c0 := hX.c0
  repeat refine Ev_go rfl ?_
  refine Ev_ialS (i + 1) rfl (nI_add i 1) (by omega) (by omega) ?_
  repeat refine Ev_go rfl ?_
  refine Ev_ialS (i + 2) rfl (nI_add i 2) (by omega) (by omega) ?_
  repeat refine Ev_go rfl ?_
  refine Ev_cv rfl rfl c0 rfl rfl ?_
  refine X_paid hI hX _ _ (fun τ1 h1 => ?_)
  have hX1 := hX.s h1
  have hM1 := mM_un hM h1.un
  repeat refine Ev_go rfl ?_
  refine Ev_ialS (i + 1) rfl (nI_add i 1) (by omega) (by omega) ?_
  repeat refine Ev_go rfl ?_
  refine Ev_ialS (i + 2) rfl (nI_add i 2) (by omega) (by omega) ?_
  repeat refine Ev_go rfl ?_
  rw [← hM1]
  refine Ev_ca rfl ?_
  refine M_paid hI _ _ (fun f2 a2 hJ => ?_)
  repeat refine Ev_go rfl ?_
  refine Ev_if (fun _ => ?_) (fun g => absurd rfl g)
  exact hq _ _ _ (St.mk hX1 hI hJ)
theorem L_22 (hn : n ≤ 3584) (hi : i + 7 ≤ n) (hS : St f a τ) (hq : ∀ f2 a2 τ2, St f2 a2 τ2 → Ev (kL_law xs n) (1506, lwL i, [], τ2) Q) : Ev (kL_law xs n) (1162, lwL i, [], τ) Q := by
  obtain ⟨hX, hI, hM⟩ := hS
  have c0 := hX.c0
  repeat refine Ev_go rfl ?_
  refine Ev_ialS (i + 1) rfl (nI_add i 1) (by omega) (by omega) ?_
  repeat refine Ev_go rfl ?_
  refine Ev_ialS (i + 2) rfl (nI_add i 2) (by omega) (by omega) ?_
  repeat refine Ev_go rfl ?_
  refine Ev_ialS (i + 3) rfl (nI_add i 3) (by omega) (by omega) ?_
  repeat refine Ev_go rfl ?_
  refine Ev_cv rfl rfl c0 rfl rfl ?_
  refine X_sheet hX _ _ _ (fun τ1 hX1 hU => ?_)
  have hM1 := mM_un hM hU
  repeat refine Ev_go rfl ?_
  refine Ev_ialS (i + 1) rfl (nI_add i 1) (by omega) (by omega) ?_
  repeat refine Ev_go rfl ?_
  refine Ev_ialS (i + 2) rfl (nI_add i 2) (by omega) (by omega) ?_
  repeat refine Ev_go rfl ?_
  refine Ev_ialS (i + 3) rfl (nI_add i 3) (by omega) (by omega) ?_
  repeat refine Ev_go rfl ?_
  rw [← hM1]
  refine Ev_ca rfl ?_
  refine M_sheet  _ _ _ ?_
  repeat refine Ev_go rfl ?_
  refine Ev_if (fun _ => ?_) (fun g => absurd rfl g)
  exact hq _ _ _ (St.mk hX1 (I_sheet hI _ _ _) Jk.rf)
theorem L_23 (hn : n ≤ 3584) (hi : i + 7 ≤ n) (hS : St f a τ) (hq : ∀ f2 a2 τ2, St f2 a2 τ2 → Ev (kL_law xs n) (1506, lwL i, [], τ2) Q) : Ev (kL_law xs n) (1205, lwL i, [], τ) Q := by
  obtain ⟨hX, hI, hM⟩ := hS
  have c0 := hX.c0
  repeat refine Ev_go rfl ?_
  refine Ev_ialS (i + 1) rfl (nI_add i 1) (by omega) (by omega) ?_
  repeat refine Ev_go rfl ?_
  refine Ev_cv rfl rfl c0 rfl rfl ?_
  refine X_lose hX _ (fun τ1 hX1 hU => ?_)
  have hM1 := mM_un hM hU
  repeat refine Ev_go rfl ?_
  refine Ev_ialS (i + 1) rfl (nI_add i 1) (by omega) (by omega) ?_
  repeat refine Ev_go rfl ?_
  rw [← hM1]
  refine Ev_ca rfl ?_
  refine M_lose  _ ?_
  repeat refine Ev_go rfl ?_
  refine Ev_if (fun _ => ?_) (fun g => absurd rfl g)
  exact hq _ _ _ (St.mk hX1 (I_lose hI _) Jk.rf)
theorem L_24 (hn : n ≤ 3584) (hi : i + 7 ≤ n) (hS : St f a τ) (hq : ∀ f2 a2 τ2, St f2 a2 τ2 → Ev (kL_law xs n) (1506, lwL i, [], τ2) Q) : Ev (kL_law xs n) (1228, lwL i, [], τ) Q := by
  obtain ⟨hX, hI, hM⟩ := hS
  have c0 := hX.c0
  repeat refine Ev_go rfl ?_
  refine Ev_ialS (i + 1) rfl (nI_add i 1) (by omega) (by omega) ?_
  repeat refine Ev_go rfl ?_
  refine Ev_ialS (i + 2) rfl (nI_add i 2) (by omega) (by omega) ?_
  repeat refine Ev_go rfl ?_
  refine Ev_ialS (i + 3) rfl (nI_add i 3) (by omega) (by omega) ?_
  repeat refine Ev_go rfl ?_
  refine Ev_cv rfl rfl c0 rfl rfl ?_
  refine X_put hI hX _ _ _ (fun τ1 hX1 hU => ?_)
  have hM1 := mM_un hM hU
  repeat refine Ev_go rfl ?_
  refine Ev_ialS (i + 1) rfl (nI_add i 1) (by omega) (by omega) ?_
  repeat refine Ev_go rfl ?_
  refine Ev_ialS (i + 2) rfl (nI_add i 2) (by omega) (by omega) ?_
  repeat refine Ev_go rfl ?_
  refine Ev_ialS (i + 3) rfl (nI_add i 3) (by omega) (by omega) ?_
  repeat refine Ev_go rfl ?_
  rw [← hM1]
  refine Ev_ca rfl ?_
  refine M_put hI _ _ _ ?_
  repeat refine Ev_go rfl ?_
  refine Ev_if (fun _ => ?_) (fun g => absurd rfl g)
  exact hq _ _ _ (St.mk hX1 (I_put hI _ _ _) Jk.rf)
theorem L_25 (hn : n ≤ 3584) (hi : i + 7 ≤ n) (hS : St f a τ) (hq : ∀ f2 a2 τ2, St f2 a2 τ2 → Ev (kL_law xs n) (1506, lwL i, [], τ2) Q) : Ev (kL_law xs n) (1271, lwL i, [], τ) Q := by
  obtain ⟨hX, hI, hM⟩ := hS
  have c0 := hX.c0
  repeat refine Ev_go rfl ?_
  refine Ev_ialS (i + 1) rfl (nI_add i 1) (by omega) (by omega) ?_
  repeat refine Ev_go rfl ?_
  refine Ev_ialS (i + 2) rfl (nI_add i 2) (by omega) (by omega) ?_
  repeat refine Ev_go rfl ?_
  refine Ev_ialS (i + 3) rfl (nI_add i 3) (by omega) (by omega) ?_
  repeat refine Ev_go rfl ?_
  refine Ev_cv rfl rfl c0 rfl rfl ?_
  refine X_cell hI hX _ _ _ (fun τ1 hX1 hU => ?_)
  have hM1 := mM_un hM hU
  repeat refine Ev_go rfl ?_
  refine Ev_ialS (i + 1) rfl (nI_add i 1) (by omega) (by omega) ?_
  repeat refine Ev_go rfl ?_
  refine Ev_ialS (i + 2) rfl (nI_add i 2) (by omega) (by omega) ?_
  repeat refine Ev_go rfl ?_
  refine Ev_ialS (i + 3) rfl (nI_add i 3) (by omega) (by omega) ?_
  repeat refine Ev_go rfl ?_
  rw [← hM1]
  refine Ev_ca rfl ?_
  refine M_cell hI _ _ _ ?_
  repeat refine Ev_go rfl ?_
  refine Ev_if (fun _ => ?_) (fun g => absurd ((cmp_eq _ _).mpr rfl) g)
  exact hq _ _ _ (St.mk hX1 (I_cell hI _ _ _) Jk.rf)
theorem L_26 (hn : n ≤ 3584) (hi : i + 7 ≤ n) (hS : St f a τ) (hq : ∀ f2 a2 τ2, St f2 a2 τ2 → Ev (kL_law xs n) (1506, lwL i, [], τ2) Q) : Ev (kL_law xs n) (1315, lwL i, [], τ) Q := by
  obtain ⟨hX, hI, hM⟩ := hS
  have c0 := hX.c0
  repeat refine Ev_go rfl ?_
  refine Ev_ialS (i + 1) rfl (nI_add i 1) (by omega) (by omega) ?_
  repeat refine Ev_go rfl ?_
  refine Ev_ialS (i + 2) rfl (nI_add i 2) (by omega) (by omega) ?_
  repeat refine Ev_go rfl ?_
  refine Ev_ialS (i + 3) rfl (nI_add i 3) (by omega) (by omega) ?_
  repeat refine Ev_go rfl ?_
  refine Ev_ialS (i + 4) rfl (nI_add i 4) (by omega) (by omega) ?_
  repeat refine Ev_go rfl ?_
  refine Ev_ialS (i + 5) rfl (nI_add i 5) (by omega) (by omega) ?_
  repeat refine Ev_go rfl ?_
  refine Ev_cv rfl rfl c0 rfl rfl ?_
  refine X_copy hI hX _ _ _ _ _ (fun τ1 hX1 hU => ?_)
  have hM1 := mM_un hM hU
  repeat refine Ev_go rfl ?_
  refine Ev_ialS (i + 1) rfl (nI_add i 1) (by omega) (by omega) ?_
  repeat refine Ev_go rfl ?_
  refine Ev_ialS (i + 2) rfl (nI_add i 2) (by omega) (by omega) ?_
  repeat refine Ev_go rfl ?_
  refine Ev_ialS (i + 3) rfl (nI_add i 3) (by omega) (by omega) ?_
  repeat refine Ev_go rfl ?_
  refine Ev_ialS (i + 4) rfl (nI_add i 4) (by omega) (by omega) ?_
  repeat refine Ev_go rfl ?_
  refine Ev_ialS (i + 5) rfl (nI_add i 5) (by omega) (by omega) ?_
  repeat refine Ev_go rfl ?_
  rw [← hM1]
  refine Ev_ca rfl ?_
  refine M_copy hI _ _ _ _ _ (fun f2 a2 hJ => ?_)
  repeat refine Ev_go rfl ?_
  refine Ev_if (fun _ => ?_) (fun g => absurd rfl g)
  exact hq _ _ _ (St.mk hX1 (I_copy hI _ _ _ _ _) hJ)
theorem L_27 (hn : n ≤ 3584) (hi : i + 7 ≤ n) (hS : St f a τ) (hq : ∀ f2 a2 τ2, St f2 a2 τ2 → Ev (kL_law xs n) (1506, lwL i, [], τ2) Q) : Ev (kL_law xs n) (1378, lwL i, [], τ) Q := by
  obtain ⟨hX, hI, hM⟩ := hS
  have c0 := hX.c0
  repeat refine Ev_go rfl ?_
  refine Ev_ialS (i + 1) rfl (nI_add i 1) (by omega) (by omega) ?_
  repeat refine Ev_go rfl ?_
  refine Ev_cv rfl rfl c0 rfl rfl ?_
  refine X_tell hI hX _ (fun τ1 hX1 hU => ?_)
  have hM1 := mM_un hM hU
  repeat refine Ev_go rfl ?_
  refine Ev_ialS (i + 1) rfl (nI_add i 1) (by omega) (by omega) ?_
  repeat refine Ev_go rfl ?_
  rw [← hM1]
  refine Ev_ca rfl ?_
  refine M_tell hI _ ?_
  repeat refine Ev_go rfl ?_
  refine Ev_if (fun _ => ?_) (fun g => absurd rfl g)
  exact hq _ _ _ (St.mk hX1 (I_tell hI _) Jk.rf)
theorem L_28 (hn : n ≤ 3584) (hi : i + 7 ≤ n) (hS : St f a τ) (hq : ∀ f2 a2 τ2, St f2 a2 τ2 → Ev (kL_law xs n) (1506, lwL i, [], τ2) Q) : Ev (kL_law xs n) (1401, lwL i, [], τ) Q := by
  obtain ⟨hX, hI, hM⟩ := hS
  have c0 := hX.c0
  repeat refine Ev_go rfl ?_
  refine Ev_ialS (i + 1) rfl (nI_add i 1) (by omega) (by omega) ?_
  repeat refine Ev_go rfl ?_
  refine Ev_cv rfl rfl c0 rfl rfl ?_
  refine X_launch hI hX _ (fun τ1 hX1 hU => ?_)
  have hM1 := mM_un hM hU
  repeat refine Ev_go rfl ?_
  refine Ev_ialS (i + 1) rfl (nI_add i 1) (by omega) (by omega) ?_
  repeat refine Ev_go rfl ?_
  rw [← hM1]
  refine Ev_ca rfl ?_
  refine M_launch hI _ ?_
  repeat refine Ev_go rfl ?_
  refine Ev_if (fun _ => ?_) (fun g => absurd rfl g)
  exact hq _ _ _ (St.mk hX1 (I_launch hI _) Jk.rf)
theorem L_29 (hn : n ≤ 3584) (hi : i + 7 ≤ n) (hS : St f a τ) (hq : ∀ f2 a2 τ2, St f2 a2 τ2 → Ev (kL_law xs n) (1506, lwL i, [], τ2) Q) : Ev (kL_law xs n) (1424, lwL i, [], τ) Q := by
  obtain ⟨hX, hI, hM⟩ := hS
  have c0 := hX.c0
  repeat refine Ev_go rfl ?_
  refine Ev_ialS (i + 1) rfl (nI_add i 1) (by omega) (by omega) ?_
  repeat refine Ev_go rfl ?_
  refine Ev_ialS (i + 2) rfl (nI_add i 2) (by omega) (by omega) ?_
  repeat refine Ev_go rfl ?_
  refine Ev_cv rfl rfl c0 rfl rfl ?_
  refine X_as hI hX _ _ (fun τ1 hX1 hU => ?_)
  have hM1 := mM_un hM hU
  repeat refine Ev_go rfl ?_
  refine Ev_ialS (i + 1) rfl (nI_add i 1) (by omega) (by omega) ?_
  repeat refine Ev_go rfl ?_
  refine Ev_ialS (i + 2) rfl (nI_add i 2) (by omega) (by omega) ?_
  repeat refine Ev_go rfl ?_
  rw [← hM1]
  refine Ev_ca rfl ?_
  refine M_as hI _ _ ?_
  repeat refine Ev_go rfl ?_
  refine Ev_if (fun _ => ?_) (fun g => absurd rfl g)
  exact hq _ _ _ (St.mk hX1 (I_as hI _ _) Jk.rf)
theorem L_30 (hn : n ≤ 3584) (hi : i + 7 ≤ n) (hS : St f a τ) (hq : ∀ f2 a2 τ2, St f2 a2 τ2 → Ev (kL_law xs n) (1506, lwL i, [], τ2) Q) : Ev (kL_law xs n) (1457, lwL i, [], τ) Q := by
  obtain ⟨hX, hI, hM⟩ := hS
  have c0 := hX.c0
  repeat refine Ev_go rfl ?_
  refine Ev_cv rfl rfl c0 rfl rfl ?_
  refine X_trace hX (fun τ1 h1 => ?_)
  have hX1 := hX.s h1
  have hM1 := mM_un hM h1.un
  repeat refine Ev_go rfl ?_
  rw [← hM1]
  refine Ev_ca rfl ?_
  refine M_trace  ?_
  repeat refine Ev_go rfl ?_
  refine Ev_if (fun _ => ?_) (fun g => absurd rfl g)
  exact hq _ _ _ (St.mk hX1 hI Jk.rf)
theorem L_31 (hn : n ≤ 3584) (hi : i + 7 ≤ n) (hS : St f a τ) (hq : ∀ f2 a2 τ2, St f2 a2 τ2 → Ev (kL_law xs n) (1506, lwL i, [], τ2) Q) : Ev (kL_law xs n) (1470, lwL i, [], τ) Q := by
  obtain ⟨hX, hI, hM⟩ := hS
  have c0 := hX.c0
  repeat refine Ev_go rfl ?_
  refine Ev_cv rfl rfl c0 rfl rfl ?_
  refine X_fault hX (fun τ1 h1 => ?_)
  have hX1 := hX.s h1
  have hM1 := mM_un hM h1.un
  repeat refine Ev_go rfl ?_
  rw [← hM1]
  refine Ev_ca rfl ?_
  refine M_fault  ?_
  repeat refine Ev_go rfl ?_
  refine Ev_if (fun _ => ?_) (fun g => absurd rfl g)
  exact hq _ _ _ (St.mk hX1 hI Jk.rf)
theorem L_32 (hn : n ≤ 3584) (hi : i + 7 ≤ n) (hS : St f a τ) (hq : ∀ f2 a2 τ2, St f2 a2 τ2 → Ev (kL_law xs n) (1506, lwL i, [], τ2) Q) : Ev (kL_law xs n) (1483, lwL i, [], τ) Q := by
  obtain ⟨hX, hI, hM⟩ := hS
  have c0 := hX.c0
  repeat refine Ev_go rfl ?_
  refine Ev_ialS (i + 1) rfl (nI_add i 1) (by omega) (by omega) ?_
  repeat refine Ev_go rfl ?_
  refine Ev_cv rfl rfl c0 rfl rfl ?_
  refine X_many hI hX _ (fun τ1 h1 => ?_)
  have hX1 := hX.s h1
  have hM1 := mM_un hM h1.un
  repeat refine Ev_go rfl ?_
  refine Ev_ialS (i + 1) rfl (nI_add i 1) (by omega) (by omega) ?_
  repeat refine Ev_go rfl ?_
  rw [← hM1]
  refine Ev_ca rfl ?_
  refine M_many hI _ ?_
  repeat refine Ev_go rfl ?_
  refine Ev_if (fun _ => ?_) (fun g => absurd rfl g)
  exact hq _ _ _ (St.mk hX1 hI Jk.rf)
end LW
