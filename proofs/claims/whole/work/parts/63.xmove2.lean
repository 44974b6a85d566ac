/-! the component: sheets -/
theorem Cv_128 {f : FF} {a : AA} {k : Nat} (hk : k < 4) {b ln len : Int32} (h1 : b = bI (0 ≤ (a 10 k).toInt)) (h2 : ln = a 11 k) (h3 : 0 ≤ (a 10 k).toInt → len = a 10 k) : Cv f a (128 + 2 * k) (kt_ob 8 [.ref (129 + 2 * k), .int b, .int ln, .int len]) := by
  refine ⟨by omega, by omega, by omega, by omega, fun k' hk' => ⟨fun e => ?_, by omega⟩, fun h hh => ⟨by omega, by omega, by omega⟩⟩
  have : k = k' := by omega
  subst this
  exact ⟨len, by rw [h1, h2], h3⟩
theorem Cv_129 {f : FF} {a : AA} {k : Nat} (hk : k < 4) {g : Nat → Int32} (h : ∀ i, i < 60 → g i = a 12 (60 * k + i)) : Cv f a (129 + 2 * k) (kt_ia 60 g) := by
  refine ⟨by omega, by omega, by omega, by omega, fun k' hk' => ⟨by omega, fun e => ?_⟩, fun h hh => ⟨by omega, by omega, by omega⟩⟩
  have : k = k' := by omega
  subst this
  exact ⟨g, rfl, h⟩
section XZ2
variable {f f' : FF} {a a' : AA} {σ τ : kt_H} {Q : Option Value → kt_H → Prop}
/-- a sheet's own cell moves; its numbers move -/
theorem Xr.s10 (hX : Xr f a σ) {k : Nat} (hk : k < 4) (sz ln len b : Int32) (h1 : b = bI (0 ≤ sz.toInt)) (h3 : 0 ≤ sz.toInt → len = sz) : Xr f (va_up (va_up a 10 (upd (a 10) k sz)) 11 (upd (a 11) k ln)) (kt_put σ (128 + 2 * k) (kt_ob 8 [.ref (129 + 2 * k), .int b, .int ln, .int len])) := by
  have e10 : va_up (va_up a 10 (upd (a 10) k sz)) 11 (upd (a 11) k ln) 10 k = sz := pk_us
  have e11 : va_up (va_up a 10 (upd (a 10) k sz)) 11 (upd (a 11) k ln) 11 k = ln := pk_us
  refine hX.mv (by omega) rfl rfl rfl rfl (Cv_128 hk (by rw [e10]; exact h1) e11.symm (by rw [e10]; exact h3)) (fun j hj hc => hc.c rfl (fun _ => rfl) (fun _ => rfl) (fun _ q _ => rfl) (fun k2 hk2 => ⟨fun e => ⟨?_, ?_⟩, fun _ i hi => rfl⟩) (fun h2 hh2 => ⟨fun _ => ⟨rfl, rfl⟩, fun e => ⟨rfl, fun x hx => ⟨rfl, rfl⟩⟩⟩))
  · show upd (a 10) k sz k2 = a 10 k2
    rw [pk_un (by omega)]
  · show upd (a 11) k ln k2 = a 11 k2
    rw [pk_un (by omega)]
theorem Xr.s12 (hX : Xr f a σ) {k : Nat} (hk : k < 4) (A g : Nat → Int32) (hg : ∀ i, i < 60 → g i = A (60 * k + i)) (ho : ∀ k2 i, k2 < 4 → k2 ≠ k → i < 60 → A (60 * k2 + i) = a 12 (60 * k2 + i)) : Xr f (va_up a 12 A) (kt_put σ (129 + 2 * k) (kt_ia 60 g)) :=
  hX.mv (by omega) rfl rfl rfl rfl (Cv_129 hk hg) (fun j hj hc => hc.c rfl (fun _ => rfl) (fun _ => rfl) (fun _ q _ => rfl) (fun k2 hk2 => ⟨fun e => ⟨rfl, rfl⟩, fun e i hi => ho k2 i hk2 (by omega) hi⟩) (fun h2 hh2 => ⟨fun _ => ⟨rfl, rfl⟩, fun e => ⟨rfl, fun x hx => ⟨rfl, rfl⟩⟩⟩))
theorem X_sheet (hX : Xr f a σ) (k lane n : Int32) (hq : ∀ τ, Xr (sp_sheet f a k lane n).2.1 (sp_sheet f a k lane n).2.2 τ → Un σ τ → Q (some (.int (sp_sheet f a k lane n).1)) τ) : Cs nX11_sheet [.ref 0, .int k, .int lane, .int n] σ Q := by
  have c0 := hX.c0
  have t0 : (0 : Int32).toInt = 0 := rfl
  have t60 : (60 : Int32).toInt = 60 := rfl
  unfold sp_sheet at hq
  refine Cs_in (k := kX11_sheet) [some (.ref 0), some (.int k), some (.int lane), some (.int n), none] rfl rfl ?_
  repeat refine Ev_go rfl ?_
  refine Ev_pf rfl c0 rfl rfl rfl ?_
  have hU : Un σ (kt_put σ 0 (k0 (va_up f 0 0))) := Un.rf.put _ (by omega)
  have hX0 := hX.f0 0
  refine Ev_h (τ := kt_put σ 0 (k0 (va_up f 0 0))) rfl ?_
  generalize kt_put σ 0 (k0 (va_up f 0 0)) = σ0 at hU hX0 ⊢
  have d0 := hX0.c0
  repeat refine Ev_go rfl ?_
  refine Ev_cv rfl rfl d0 rfl rfl ?_
  refine x_sheetAt hX0 k (fun hk k' k1 k2 k3 => ?_) (fun hk => ?_)
  rotate_left
  · rw [if_pos hk] at hq
    repeat refine Ev_go rfl ?_
    refine Ev_rt rfl ?_
    exact hq σ0 hX0 hU
  rw [if_neg (fun z => z hk)] at hq
  have out : ¬ is2 lane ∨ 60 < n.toInt → Ev kX11_sheet (32, [some (.ref 0), some (.int k), some (.int lane), some (.int n), some (.ref (128 + 2 * k'))], [], σ0) Q := by
    intro z
    rw [if_pos z] at hq
    repeat refine Ev_go rfl ?_
    refine Ev_rt rfl ?_
    exact hq σ0 hX0 hU
  repeat refine Ev_go rfl ?_
  refine Ev_ca rfl ?_
  refine x_isLane lane ?_
  repeat refine Ev_go rfl ?_
  refine Ev_ifb (fun z => out (Or.inl z)) (fun hl => ?_)
  repeat refine Ev_go rfl ?_
  refine Ev_if (fun z2 => ?_) (fun z => out (Or.inr (by rw [fa_le] at z; omega)))
  rw [fa_le] at z2
  rw [if_neg (fun z => z.elim (fun y => y hl) (fun y => by omega))] at hq
  repeat refine Ev_go rfl ?_
  refine Ev_if (fun z => ?_) (fun z => ?_)
  rotate_left
  · rw [if_pos (by rw [fa_le] at z; omega)] at hq
    repeat refine Ev_go rfl ?_
    refine Ev_cv rfl rfl d0 rfl rfl ?_
    refine x_faulted d0 4 ?_
    refine Ev_rt rfl ?_
    have hX2 := hX0.f0 4
    rw [va_up_uu] at hX2 ⊢
    exact hq _ hX2 (hU.put _ (by omega))
  rw [fa_le] at z
  rw [if_neg (by omega), k3] at hq
  obtain ⟨n', n1, n2, n3⟩ := nI_ex (x := n) (A := 0) (B := 60) 60 ⟨by omega, by omega⟩
  subst n3
  rw [show nC (nI n') = n' from nI_clamp (by omega)] at hq
  obtain ⟨len, g, s1, s2, s3, s4⟩ := hX0.sh k1
  repeat refine Ev_go rfl ?_
  refine Ev_cv rfl rfl s1 rfl rfl ?_
  refine x_begin s1 s3 (by omega) lane n' n1 (fun g' hg' => ?_)
  repeat refine Ev_go rfl ?_
  refine Ev_rt rfl ?_
  refine hq _ ?_ ((hU.put _ (by omega)).put _ (by omega))
  refine (hX0.s10 k1 (nI n') lane (nI n') 1 (by rw [bI_t (by omega)]) (fun _ => rfl)).s12 k1 _ g' (fun i hi => ?_) (fun k2 i h2 hne hi => ?_)
  · rw [hg' i]
    show _ = if 60 * k' ≤ 60 * k' + i ∧ 60 * k' + i < 60 * k' + n' then 0 else a 12 (60 * k' + i)
    by_cases e : i < n'
    · rw [if_pos e, if_pos (by omega)]
    · rw [if_neg e, if_neg (by omega)]; exact s4 i hi
  · show (if 60 * k' ≤ 60 * k2 + i ∧ 60 * k2 + i < 60 * k' + n' then 0 else a 12 (60 * k2 + i)) = a 12 (60 * k2 + i)
    rw [if_neg (by omega)]
theorem X_lose (hX : Xr f a σ) (k : Int32) (hq : ∀ τ, Xr f (sp_lose a k).2 τ → Un σ τ → Q (some (.int (sp_lose a k).1)) τ) : Cs nX11_lose [.ref 0, .int k] σ Q := by
  have c0 := hX.c0
  unfold sp_lose at hq
  refine Cs_in (k := kX11_lose) [some (.ref 0), some (.int k), none, none] rfl rfl ?_
  repeat refine Ev_go rfl ?_
  refine Ev_cv rfl rfl c0 rfl rfl ?_
  refine x_sheetAt hX k (fun hk k' k1 k2 k3 => ?_) (fun hk => ?_)
  rotate_left
  · rw [if_pos hk] at hq
    repeat refine Ev_go rfl ?_
    refine Ev_rt rfl ?_
    exact hq σ hX Un.rf
  rw [if_neg (fun z => z hk), k3] at hq
  obtain ⟨len, g, s1, s2, s3, s4⟩ := hX.sh k1
  have fin : Xr f (va_up a 10 (upd (a 10) k' (-1))) (kt_put σ (128 + 2 * k') (kt_ob 8 [.ref (129 + 2 * k'), .int 0, .int (a 11 k'), .int len])) := by
    have h := hX.s10 k1 (-1) (a 11 k') len 0 (by rw [bI_f (by decide)]) (fun h => absurd h (by decide))
    have e : va_up (va_up a 10 (upd (a 10) k' (-1))) 11 (upd (a 11) k' (a 11 k')) = va_up a 10 (upd (a 10) k' (-1)) := by
      have e2 : upd (a 11) k' (a 11 k') = a 11 := by
        funext i
        by_cases ei : i = k'
        · subst ei; rw [pk_us]
        · rw [pk_un ei]
      rw [e2]
      exact va_up_id (va_up a 10 (upd (a 10) k' (-1))) 11
    rw [e] at h
    exact h
  (repeat first | refine Ev_go rfl ?_ | refine Ev_gf rfl (s1) rfl rfl ?_ )
  refine Ev_ifb (fun z => ?_) (fun z => ?_)
  · rw [if_pos (by omega)] at hq
    repeat refine Ev_go rfl ?_
    refine Ev_pf rfl s1 rfl rfl rfl ?_
    repeat refine Ev_go rfl ?_
    refine Ev_rt rfl ?_
    exact hq _ fin (Un.rf.put _ (by omega))
  · rw [if_neg (by omega)] at hq
    repeat refine Ev_go rfl ?_
    refine Ev_pf rfl s1 rfl rfl rfl ?_
    repeat refine Ev_go rfl ?_
    refine Ev_rt rfl ?_
    exact hq _ fin (Un.rf.put _ (by omega))
theorem X_put (hI : Inv f a) (hX : Xr f a σ) (k i v : Int32) (hq : ∀ τ, Xr (sp_put f a k i v).2.1 (sp_put f a k i v).2.2 τ → Un σ τ → Q (some (.int (sp_put f a k i v).1)) τ) : Cs nX11_put [.ref 0, .int k, .int i, .int v] σ Q := by
  have c0 := hX.c0
  unfold sp_put at hq
  refine Cs_in (k := kX11_put) [some (.ref 0), some (.int k), some (.int i), some (.int v), none] rfl rfl ?_
  repeat refine Ev_go rfl ?_
  refine Ev_pf rfl c0 rfl rfl rfl ?_
  have hU : Un σ (kt_put σ 0 (k0 (va_up f 0 0))) := Un.rf.put _ (by omega)
  have hX0 := hX.f0 0
  refine Ev_h (τ := kt_put σ 0 (k0 (va_up f 0 0))) rfl ?_
  generalize kt_put σ 0 (k0 (va_up f 0 0)) = σ0 at hU hX0 ⊢
  have d0 := hX0.c0
  have flt : ∀ x : Int32, Xr (va_up f 0 x) a (kt_put σ0 0 (k0 (va_up f 0 x))) := fun x => by
    have h := hX0.f0 x
    rw [va_up_uu] at h
    exact h
  repeat refine Ev_go rfl ?_
  refine Ev_cv rfl rfl d0 rfl rfl ?_
  refine x_sheetAt hX0 k (fun hk k' k1 k2 k3 => ?_) (fun hk => ?_)
  rotate_left
  · rw [if_pos hk] at hq
    repeat refine Ev_go rfl ?_
    refine Ev_rt rfl ?_
    exact hq σ0 hX0 hU
  rw [if_neg (fun z => z hk), k3] at hq
  obtain ⟨len, g, s1, s2, s3, s4⟩ := hX0.sh k1
  have hsz := (hI.2.2.2 k' k1).1
  (repeat first | refine Ev_go rfl ?_ | refine Ev_gf rfl (s1) rfl rfl ?_ )
  refine Ev_ifb (fun z => ?_) (fun z => ?_)
  · have en : noC a k' i = 1 := by unfold noC; rw [if_pos (by omega)]
    rw [en, if_pos (by decide)] at hq
    repeat refine Ev_go rfl ?_
    refine Ev_cv rfl rfl d0 rfl rfl ?_
    refine x_faulted d0 1 ?_
    refine Ev_rt rfl ?_
    rw [va_up_uu]
    exact hq _ (flt 1) (hU.put _ (by omega))
  have el := s2 z
  subst el
  repeat refine Ev_go rfl ?_
  refine Ev_cv rfl rfl s1 rfl rfl ?_
  refine x_hasCells s1 ⟨z, hsz.2⟩ i 1 rfl ?_
  repeat refine Ev_go rfl ?_
  refine Ev_ifb (fun y => ?_) (fun y => ?_)
  · have en : noC a k' i = 3 := by unfold noC; rw [if_neg (by omega), if_neg (by omega)]
    rw [en, if_pos (by decide)] at hq
    repeat refine Ev_go rfl ?_
    refine Ev_cv rfl rfl d0 rfl rfl ?_
    refine x_faulted d0 3 ?_
    refine Ev_rt rfl ?_
    rw [va_up_uu]
    exact hq _ (flt 3) (hU.put _ (by omega))
  · have en : noC a k' i = 0 := by unfold noC; rw [if_neg (by omega), if_pos (by omega)]
    rw [en, if_neg (fun u => u rfl)] at hq
    obtain ⟨i', i1, i2, i3⟩ := nI_ex (x := i) (A := 0) (B := 59) 59 ⟨by omega, by omega⟩
    subst i3
    rw [show nC (nI i') = i' from nI_clamp (by omega)] at hq
    repeat refine Ev_go rfl ?_
    refine Ev_cv rfl rfl s1 rfl rfl ?_
    refine x_store s1 s3 i' (by omega) v ?_
    repeat refine Ev_go rfl ?_
    refine Ev_rt rfl ?_
    refine hq _ ?_ (hU.put _ (by omega))
    refine hX0.s12 k1 _ _ (fun x hx => ?_) (fun k2 x h2 hne hx => ?_)
    · by_cases e : x = i'
      · subst e; rw [pk_us, pk_us]
      · rw [pk_un e, pk_un (by omega)]; exact s4 x hx
    · rw [pk_un (by omega)]
theorem X_cell (hI : Inv f a) (hX : Xr f a σ) (k i lane : Int32) (hq : ∀ τ, Xr (sp_cell f a k i lane).2 a τ → Un σ τ → Q (some (.long (sp_cell f a k i lane).1)) τ) : Cs nX11_cell [.ref 0, .int k, .int i, .int lane] σ Q := by
  have c0 := hX.c0
  unfold sp_cell at hq
  refine Cs_in (k := kX11_cell) [some (.ref 0), some (.int k), some (.int i), some (.int lane), none] rfl rfl ?_
  repeat refine Ev_go rfl ?_
  refine Ev_pf rfl c0 rfl rfl rfl ?_
  have hU : Un σ (kt_put σ 0 (k0 (va_up f 0 0))) := Un.rf.put _ (by omega)
  have hX0 := hX.f0 0
  refine Ev_h (τ := kt_put σ 0 (k0 (va_up f 0 0))) rfl ?_
  generalize kt_put σ 0 (k0 (va_up f 0 0)) = σ0 at hU hX0 ⊢
  have d0 := hX0.c0
  repeat refine Ev_go rfl ?_
  refine Ev_cv rfl rfl d0 rfl rfl ?_
  refine x_sheetAt hX0 k (fun hk k' k1 k2 k3 => ?_) (fun hk => ?_)
  rotate_left
  · rw [if_pos (Or.inl hk)] at hq
    repeat refine Ev_go rfl ?_
    refine Ev_rt rfl ?_
    exact hq σ0 hX0 hU
  repeat refine Ev_go rfl ?_
  refine Ev_ca rfl ?_
  refine x_isLane lane ?_
  repeat refine Ev_go rfl ?_
  refine Ev_ifb (fun z => ?_) (fun hl => ?_)
  · rw [if_pos (Or.inr z)] at hq
    repeat refine Ev_go rfl ?_
    refine Ev_rt rfl ?_
    exact hq σ0 hX0 hU
  rw [if_neg (fun z => z.elim (fun y => y hk) (fun y => y hl)), k3] at hq
  have hS := hX0.sh k1
  have hsz := (hI.2.2.2 k' k1).1
  obtain ⟨len, g, s1, s2, s3, s4⟩ := id hS
  repeat refine Ev_go rfl ?_
  refine Ev_cv rfl rfl s1 rfl rfl ?_
  refine x_faultOfCells hS hsz.2 lane i 1 1 (Or.inl rfl) ?_
  rw [show ((1 : Nat) : Int) * (1 : Int32).toInt = 1 from rfl]
  refine Ev_pf rfl d0 rfl rfl rfl ?_
  have key : ∀ x, Xr (va_up f 0 x) a (kt_put σ0 0 (k0 (va_up f 0 x))) := fun x => by
    have h := hX0.f0 x
    rw [va_up_uu] at h
    exact h
  have e0 : ∀ x : Int32, (kt_put σ0 0 (kt_ob 11 [.ref 1, .int (va_up f 0 0 1), .ref 2, .int (va_up f 0 0 10), .ref 3, .ref 4, .ref 6, .ref 16, .ref 36, .ref 37, .int x])) = kt_put σ0 0 (k0 (va_up f 0 x)) := fun x => rfl
  have bad : ∀ x : Int32, x ≠ 0 → Q (some (.long LOSTL)) (kt_put σ0 0 (k0 (va_up f 0 x))) → Ev kX11_cell (41, [some (.ref 0), some (.int k), some (.int i), some (.int lane), some (.ref (128 + 2 * k'))], [], kt_put σ0 0 (k0 (va_up f 0 x))) Q := by
    intro x hx h
    repeat refine Ev_go rfl ?_
    refine Ev_if (fun z => absurd z hx) (fun _ => ?_)
    repeat refine Ev_go rfl ?_
    refine Ev_rt rfl ?_
    exact h
  rw [e0]
  by_cases h2 : 0 ≤ (a 10 k').toInt ∧ ¬ a 11 k' = lane
  · rw [if_pos h2] at hq
    rw [show bar (a 10 k') (a 11 k') lane i 1 = 2 from by unfold bar; rw [if_pos h2]]
    exact bad 2 (by decide) (hq _ (key 2) (hU.put _ (by omega)))
  rw [if_neg h2] at hq
  by_cases h1 : (a 10 k').toInt < 0
  · rw [show bar (a 10 k') (a 11 k') lane i 1 = 1 from by unfold bar; rw [if_neg h2, if_pos h1]]
    rw [show noC a k' i = 1 from by unfold noC; rw [if_pos h1], if_pos (by decide)] at hq
    exact bad 1 (by decide) (hq _ (key 1) (hU.put _ (by omega)))
  by_cases h3 : 0 ≤ i.toInt ∧ i.toInt ≤ (a 10 k').toInt - 1
  · rw [show bar (a 10 k') (a 11 k') lane i 1 = 0 from by unfold bar; rw [if_neg h2, if_neg h1, if_neg (by omega), if_neg (by omega)]]
    rw [show noC a k' i = 0 from by unfold noC; rw [if_neg h1, if_pos h3], if_neg (fun u => u rfl)] at hq
    obtain ⟨i', i1, i2, i3⟩ := nI_ex (x := i) (A := 0) (B := 59) 59 ⟨by omega, by omega⟩
    subst i3
    rw [show nC (nI i') = i' from nI_clamp (by omega), ← show g i' = a 12 (60 * k' + i') from s4 i' (by omega)] at hq
    have s1' : ∀ c, (kt_put σ0 0 c).1 (128 + 2 * k') = kt_ob 8 [.ref (129 + 2 * k'), .int (bI (0 ≤ (a 10 k').toInt)), .int (a 11 k'), .int len] := fun c => by rw [kt_put_n _ _ (by omega)]; exact s1
    (repeat first | refine Ev_go rfl ?_ | refine Ev_gf rfl (s1' _) rfl rfl ?_ )
    refine Ev_ial i' rfl (by rw [kt_put_n _ _ (by omega)]; exact s3) rfl (by omega) (by decide) ?_
    repeat refine Ev_go rfl ?_
    refine Ev_rt rfl ?_
    exact hq _ (key 0) (hU.put _ (by omega))
  · rw [show bar (a 10 k') (a 11 k') lane i 1 = 3 from by unfold bar; rw [if_neg h2, if_neg h1, if_neg (by omega), if_pos (by omega)]]
    rw [show noC a k' i = 3 from by unfold noC; rw [if_neg h1, if_neg h3], if_pos (by decide)] at hq
    exact bad 3 (by decide) (hq _ (key 3) (hU.put _ (by omega)))
theorem X_copy (hI : Inv f a) (hX : Xr f a σ) (k i o j n : Int32) (hq : ∀ τ, Xr (sp_copy f a k i o j n).2.1 (sp_copy f a k i o j n).2.2 τ → Un σ τ → Q (some (.int (sp_copy f a k i o j n).1)) τ) : Cs nX11_copy [.ref 0, .int k, .int i, .int o, .int j, .int n] σ Q := by
  have c0 := hX.c0
  unfold sp_copy at hq
  refine Cs_in (k := kX11_copy) [some (.ref 0), some (.int k), some (.int i), some (.int o), some (.int j), some (.int n), none, none] rfl rfl ?_
  repeat refine Ev_go rfl ?_
  refine Ev_pf rfl c0 rfl rfl rfl ?_
  have hU : Un σ (kt_put σ 0 (k0 (va_up f 0 0))) := Un.rf.put _ (by omega)
  have hX0 := hX.f0 0
  refine Ev_h (τ := kt_put σ 0 (k0 (va_up f 0 0))) rfl ?_
  generalize kt_put σ 0 (k0 (va_up f 0 0)) = σ0 at hU hX0 ⊢
  have d0 := hX0.c0
  have flt : ∀ x : Int32, Xr (va_up f 0 x) a (kt_put σ0 0 (k0 (va_up f 0 x))) := fun x => by
    have h := hX0.f0 x
    rw [va_up_uu] at h
    exact h
  repeat refine Ev_go rfl ?_
  refine Ev_cv rfl rfl d0 rfl rfl ?_
  refine x_sheetAt hX0 k (fun hk k' k1 k2 k3 => ?_) (fun hk => ?_)
  rotate_left
  · rw [if_pos (Or.inl hk)] at hq
    repeat refine Ev_go rfl ?_
    refine Ev_cv rfl rfl d0 rfl rfl ?_
    refine x_sheetAt hX0 o (fun ho o' o1 o2 o3 => ?_) (fun ho => ?_)
    · repeat refine Ev_go rfl ?_
      refine Ev_rt rfl ?_
      exact hq σ0 hX0 hU
    · repeat refine Ev_go rfl ?_
      refine Ev_rt rfl ?_
      exact hq σ0 hX0 hU
  repeat refine Ev_go rfl ?_
  refine Ev_cv rfl rfl d0 rfl rfl ?_
  refine x_sheetAt hX0 o (fun ho o' o1 o2 o3 => ?_) (fun ho => ?_)
  rotate_left
  · rw [if_pos (Or.inr ho)] at hq
    repeat refine Ev_go rfl ?_
    refine Ev_rt rfl ?_
    exact hq σ0 hX0 hU
  rw [if_neg (fun z => z.elim (fun y => y hk) (fun y => y ho)), k3, o3] at hq
  obtain ⟨len, g, s1, s2, s3, s4⟩ := hX0.sh k1
  obtain ⟨len2, g2, u1, u2, u3, u4⟩ := hX0.sh o1
  have hsz := (hI.2.2.2 k' k1).1
  have hsz2 := (hI.2.2.2 o' o1).1
  have nul : (a 10 k').toInt < 0 ∨ (a 10 o').toInt < 0 → Ev kX11_copy (47, [some (.ref 0), some (.int k), some (.int i), some (.int o), some (.int j), some (.int n), some (.ref (128 + 2 * k')), some (.ref (128 + 2 * o'))], [], σ0) Q := by
    intro z
    rw [if_pos z] at hq
    repeat refine Ev_go rfl ?_
    refine Ev_cv rfl rfl d0 rfl rfl ?_
    refine x_faulted d0 1 ?_
    refine Ev_rt rfl ?_
    rw [va_up_uu]
    exact hq _ (flt 1) (hU.put _ (by omega))
  (repeat first | refine Ev_go rfl ?_ | refine Ev_gf rfl (s1) rfl rfl ?_ )
  refine Ev_ifb (fun z => nul (Or.inl (by omega))) (fun p1 => ?_)
  (repeat first | refine Ev_go rfl ?_ | refine Ev_gf rfl (u1) rfl rfl ?_ )
  refine Ev_ifb (fun z => nul (Or.inr (by omega))) (fun p2 => ?_)
  have el := s2 p1
  have el2 := u2 p2
  subst el
  subst el2
  rw [if_neg (by omega)] at hq
  (repeat first | refine Ev_go rfl ?_ | refine Ev_gf rfl (s1) rfl rfl ?_ | refine Ev_gf rfl (u1) rfl rfl ?_ )
  refine Ev_if (fun hln => ?_) (fun hln => ?_)
  rotate_left
  · rw [if_pos hln] at hq
    repeat refine Ev_go rfl ?_
    refine Ev_cv rfl rfl d0 rfl rfl ?_
    refine x_faulted d0 2 ?_
    refine Ev_rt rfl ?_
    rw [va_up_uu]
    exact hq _ (flt 2) (hU.put _ (by omega))
  rw [if_neg (fun y => y hln)] at hq
  have bey3 : bey i n (a 10 k') ∨ bey j n (a 10 o') → Ev kX11_copy (97, [some (.ref 0), some (.int k), some (.int i), some (.int o), some (.int j), some (.int n), some (.ref (128 + 2 * k')), some (.ref (128 + 2 * o'))], [], σ0) Q := by
    intro z
    rw [if_pos z] at hq
    repeat refine Ev_go rfl ?_
    refine Ev_cv rfl rfl d0 rfl rfl ?_
    refine x_faulted d0 3 ?_
    refine Ev_rt rfl ?_
    rw [va_up_uu]
    exact hq _ (flt 3) (hU.put _ (by omega))
  repeat refine Ev_go rfl ?_
  refine Ev_cv rfl rfl s1 rfl rfl ?_
  refine x_hasCells s1 ⟨p1, hsz.2⟩ i n.toInt (fa_wide n) ?_
  repeat refine Ev_go rfl ?_
  refine Ev_ifb (fun z => bey3 (Or.inl (by unfold bey; omega))) (fun q1 => ?_)
  repeat refine Ev_go rfl ?_
  refine Ev_cv rfl rfl u1 rfl rfl ?_
  refine x_hasCells u1 ⟨p2, hsz2.2⟩ j n.toInt (fa_wide n) ?_
  repeat refine Ev_go rfl ?_
  refine Ev_ifb (fun z => bey3 (Or.inr (by unfold bey; omega))) (fun q2 => ?_)
  rw [if_neg (fun z => by unfold bey at z; omega)] at hq
  obtain ⟨i', i1, i2, i3⟩ := nI_ex (x := i) (A := 0) (B := 60) 60 ⟨by omega, by omega⟩
  obtain ⟨j', j1, j2, j3⟩ := nI_ex (x := j) (A := 0) (B := 60) 60 ⟨by omega, by omega⟩
  obtain ⟨n', n1, n2, n3⟩ := nI_ex (x := n) (A := 0) (B := 60) 60 ⟨by omega, by omega⟩
  subst i3
  subst j3
  subst n3
  rw [show nC (nI i') = i' from nI_clamp (by omega), show nC (nI j') = j' from nI_clamp (by omega), show nC (nI n') = n' from nI_clamp (by omega)] at hq
  (repeat first | refine Ev_go rfl ?_ | refine Ev_gf rfl (s1) rfl rfl ?_ | refine Ev_gf rfl (u1) rfl rfl ?_ )
  refine Ev_cp (f := g) (g := g2) i' j' n' rfl s3 u3 rfl rfl rfl (by omega) (by omega) (by decide) (by decide) rfl ?_
  repeat refine Ev_go rfl ?_
  refine Ev_rt rfl ?_
  refine hq _ ?_ (hU.put _ (by omega))
  refine hX0.s12 o1 _ _ (fun x hx => ?_) (fun k2 x h2 hne hx => ?_)
  · by_cases e : j' ≤ x ∧ x < j' + n'
    · rw [pk_cpy_in e.1 e.2, pk_cpy_in (by omega) (by omega), s4 _ (by omega)]
      show a 12 (60 * k' + (i' + (x - j'))) = a 12 (60 * k' + i' + (60 * o' + x - (60 * o' + j')))
      congr 1
      omega
    · rw [pk_cpy_out (by omega), pk_cpy_out (by omega)]
      exact u4 x hx
  · rw [pk_cpy_out (by omega)]
end XZ2
