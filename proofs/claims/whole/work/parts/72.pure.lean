/-! the law answers 1 on every script -/
theorem Inv_0 : Inv fF aA := by
  refine ⟨⟨0, by decide, rfl, fun h hh => absurd hh (Nat.not_lt_zero h)⟩, ⟨0, by decide, rfl, fun l hl => absurd hl (Nat.not_lt_zero l)⟩, ?_, fun k hk => ?_⟩
  · exact ⟨⟨by decide, by decide⟩, ⟨by decide, by decide⟩, ⟨by decide, by decide⟩, ⟨by decide, by decide⟩, ⟨by decide, by decide⟩, ⟨by decide, by decide⟩⟩
  · have : k = 0 ∨ k = 1 ∨ k = 2 ∨ k = 3 := by omega
    rcases this with rfl | rfl | rfl | rfl <;> exact ⟨⟨by decide, by decide⟩, ⟨by decide, by decide⟩⟩
theorem aA_10 {k : Nat} (hk : k < 4) : aA 10 k = -1 := by
  have : k = 0 ∨ k = 1 ∨ k = 2 ∨ k = 3 := by omega
  rcases this with rfl | rfl | rfl | rfl <;> rfl
theorem Zz.xr {σ τ : kt_H} (h : Zz σ) (hc : ∀ j, j < 136 → τ.1 j = σ.1 j) (h1 : τ.2.1 = 151) (h2 : τ.2.2 ≤ 1726) : Xr fF aA τ := by
  obtain ⟨⟨z1, z4, z5, z6, z37⟩, c0, c2, c3, cL, cS⟩ := h
  have n0 : nC (fF 1) = 0 := by decide
  have n10 : nC (fF 10) = 0 := by decide
  refine ⟨fun j => ?_, fun j => ?_, fun l hl => ⟨fun z => ?_, fun _ => ?_⟩, by rw [n0]; exact h1, by rw [n0]; exact h2⟩
  · by_cases e : 37 ≤ j
    · exact Ck_hi _ e
    rw [hc j (by omega)]
    by_cases e6 : 6 ≤ j
    · exact z6 j e6 (by omega)
    by_cases e2 : j = 2
    · subst e2
      exact ⟨fun _ => c2, by omega, by omega, by omega, fun k' hk' => ⟨by omega, by omega, by omega⟩, by omega, by omega, by omega, by omega, fun b hb => ⟨by omega, by omega⟩, by omega⟩
    by_cases e3 : j = 3
    · subst e3
      exact ⟨by omega, fun _ => c3, by omega, by omega, fun k' hk' => ⟨by omega, by omega, by omega⟩, by omega, by omega, by omega, by omega, fun b hb => ⟨by omega, by omega⟩, by omega⟩
    by_cases e4 : j = 4
    · subst e4
      exact ⟨by omega, by omega, fun _ => z4, by omega, fun k' hk' => ⟨by omega, by omega, by omega⟩, by omega, by omega, by omega, by omega, fun b hb => ⟨by omega, by omega⟩, by omega⟩
    exact Ck_lo _ (by omega)
  · refine ⟨fun e => ?_, fun e => ?_, fun e => ?_, fun e => ?_, fun k hk => ⟨fun e => ?_, fun e => ?_⟩, fun h hh => ?_⟩
    · subst e; rw [hc _ (by omega)]; exact c0
    · subst e; rw [hc _ (by omega)]; exact ⟨_, z1, fun h hh => by rw [n0] at hh; exact absurd hh (Nat.not_lt_zero h)⟩
    · subst e
      rw [hc _ (by omega)]
      refine ⟨_, z5, fun q hq => ?_⟩
      have : q = 0 ∨ q = 1 ∨ q = 2 ∨ q = 3 ∨ q = 4 ∨ q = 5 := by omega
      rcases this with rfl | rfl | rfl | rfl | rfl | rfl <;> rfl
    · subst e; rw [hc _ (by omega)]; exact z37
    · subst e
      rw [hc _ (by omega), (cS k hk).1, aA_10 hk, bI_f (by decide)]
      exact ⟨0, rfl, fun z => absurd z (by decide)⟩
    · subst e
      rw [hc _ (by omega), (cS k hk).2]
      exact ⟨_, rfl, fun i hi => rfl⟩
    · rw [n0] at hh; exact absurd hh (Nat.not_lt_zero h)
  · rw [n10] at z; exact absurd z (Nat.not_lt_zero l)
  · exact (cL l hl).c (fun j a b => hc j (by omega))
theorem kt_pure0 (xs : Nat → Int32) (n : Nat) (hn : n ≤ 3584) : Ev (kL_law xs n) (0, [some (.ref 1000000), none, none, none], [], kt_0) (fun v σ => v = some (.int 1) ∧ σ.2.1 ≤ 600000 ∧ σ.2.2 ≤ 7302250) := by
  refine Ev_new (z := 0) rfl rfl (fun s1 a1 b1 c1 d1 => ?_)
  iterate 1 refine Ev_go rfl ?_
  refine Ev_ca rfl ?_
  refine x_i11 a1 c1 (fun t1 hZ hz hc => ?_)
  iterate 1 refine Ev_go rfl ?_
  refine Ev_new (z := 136) rfl hz (fun s2 a2 b2 c2 d2 => ?_)
  iterate 1 refine Ev_go rfl ?_
  refine Ev_ca rfl ?_
  refine x_i12 a2 c2 (fun t2 hM hf hz2 hc2 => ?_)
  iterate 3 refine Ev_go rfl ?_
  have hct : t2.2.2 = 1726 := by
    rw [hc2, d2, hc, d1]
    rfl
  refine L_loop hn (fun σ h1 h2 => ⟨rfl, h1, h2⟩) 512 0 fF aA t2 (by omega) (by omega) ⟨hZ.xr (fun j hj => by rw [hf j hj, b2 _ (by omega)]) hz2 (by omega), Inv_0, hM⟩
