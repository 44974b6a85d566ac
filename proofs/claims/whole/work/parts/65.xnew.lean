/-! the component: a hull is told -/
theorem kt_new_s (σ : kt_H) (c : kt_C) (k : Nat) : (kt_new σ c k).1 σ.2.1 = c := by simp [kt_new, va_up]
theorem kt_new_n (σ : kt_H) {j : Nat} (c : kt_C) (k : Nat) (h : j ≠ σ.2.1) : (kt_new σ c k).1 j = σ.1 j := by simp [kt_new, va_up, h]
theorem Ev_aas {k : Nat → kt_S} {pc nx : Nat} {L : kt_L} {S : List Value} {σ : kt_H} {Q : Option Value → kt_H → Prop} {a v t n ci : Nat} {fs : List Value} {g : Nat → Option Nat} {i : Int32} (j : Nat) (hk : k pc = s_aas nx) (hc : σ.1 a = .inl (t, n, .inr (.inr (.inr (.inr g))))) (hv : σ.1 v = .inr (ci, fs)) (ht : kt_mem ci (kt_ac t) = true) (hi : i = nI j) (hj : j < n) (hn : n < 2 ^ 31) (h : Ev k (nx, L, S, kt_put σ a (.inl (t, n, .inr (.inr (.inr (.inr (va_up g j (some v)))))))) Q) : Ev k (pc, L, .ref v :: .int i :: .ref a :: S, σ) Q := by
  refine Ev_go (fr := (nx, L, S, kt_put σ a (.inl (t, n, .inr (.inr (.inr (.inr (va_up g j (some v))))))))) ?_ h
  rw [hk]
  unfold s_aas
  simp only [hc, hv, ht]
  rw [if_neg (kt_inN hi hj hn), hi, nI_clamp (by omega)]
section XNH
variable {f : FF} {a : AA} {σ τ : kt_H} {Q : Option Value → kt_H → Prop}
/-- a new hull's cells -/
def Nw (σ τ : kt_H) (z ci : Nat) (num : Int32) : Prop := τ.1 z = kt_ob ci [.int num, .ref (z + 1), .int 0, .ref (z + 2)] ∧ τ.1 (z + 1) = kt_ia 16 (fun _ => 0) ∧ τ.1 (z + 2) = kt_ia 9 (fun _ => 0) ∧ (∀ j, j < z ∨ z + 2 < j → τ.1 j = σ.1 j) ∧ τ.2.1 = z + 3 ∧ τ.2.2 = σ.2.2 + 25
theorem x_init2 {z ci : Nat} (hm : kt_mem ci [2, 1, 6] = true) (hz : σ.1 z = kt_ob ci [.int 0, .null, .int 0, .null]) (h1 : σ.2.1 = z + 1) (num : Int32) (hq : ∀ τ, Nw σ τ z ci num → Q none τ) : Cs nX2_init [.ref z, .int num] σ Q := by
  refine Cs_in (k := kX2_init) [some (.ref z), some (.int num)] rfl rfl ?_
  repeat refine Ev_go rfl ?_
  refine Ev_pf (ci := ci) (gs := [.int 0, .ref σ.2.1, .int 0, .null]) rfl (by rw [kt_new_n _ _ _ (by omega)]; exact hz) hm rfl rfl ?_
  generalize hσ1 : kt_put (kt_new σ (kt_ia 16 (fun _ => 0)) 16) z (kt_ob ci [.int 0, .ref σ.2.1, .int 0, .null]) = σ1
  have a1 : σ1.1 z = kt_ob ci [.int 0, .ref (z + 1), .int 0, .null] := by rw [← hσ1, kt_put_s, h1]
  have a2 : σ1.1 (z + 1) = kt_ia 16 (fun _ => 0) := by rw [← hσ1, kt_put_n _ _ (by omega), ← h1, kt_new_s]
  have a3 : ∀ j, j < z ∨ z + 1 < j → σ1.1 j = σ.1 j := fun j hj => by rw [← hσ1, kt_put_n _ _ (by omega), kt_new_n _ _ _ (by omega)]
  have a4 : σ1.2.1 = z + 2 := by rw [← hσ1]; show σ.2.1 + 1 = z + 2; omega
  have a5 : σ1.2.2 = σ.2.2 + 16 := by rw [← hσ1]; rfl
  refine Ev_h hσ1 ?_
  repeat refine Ev_go rfl ?_
  refine Ev_pf (ci := ci) rfl a1 hm rfl rfl ?_
  repeat refine Ev_go rfl ?_
  generalize hσ2 : kt_put σ1 z (kt_ob ci [.int 0, .ref (z + 1), .int 0, .null]) = σ2
  have b1 : σ2.1 z = kt_ob ci [.int 0, .ref (z + 1), .int 0, .null] := by rw [← hσ2, kt_put_s]
  have b2 : ∀ j, j ≠ z → σ2.1 j = σ1.1 j := fun j hj => by rw [← hσ2, kt_put_n _ _ hj]
  have b4 : σ2.2.1 = z + 2 := by rw [← hσ2]; exact a4
  have b5 : σ2.2.2 = σ.2.2 + 16 := by rw [← hσ2]; exact a5
  refine Ev_pf (ci := ci) (gs := [.int 0, .ref (z + 1), .int 0, .ref σ2.2.1]) rfl (by rw [kt_new_n _ _ _ (by omega)]; exact b1) hm rfl rfl ?_
  repeat refine Ev_go rfl ?_
  refine Ev_pf (ci := ci) (gs := [.int num, .ref (z + 1), .int 0, .ref σ2.2.1]) rfl (kt_put_s _ _ _) hm rfl rfl ?_
  refine Ev_rt rfl ?_
  refine hq _ ⟨?_, ?_, ?_, fun j hj => ?_, ?_, ?_⟩
  · rw [kt_put_s, b4]
  · rw [kt_put_n _ _ (by omega), kt_put_n _ _ (by omega), kt_new_n _ _ _ (by omega), b2 _ (by omega)]; exact a2
  · rw [kt_put_n _ _ (by omega), kt_put_n _ _ (by omega), ← b4, kt_new_s]
    rfl
  · rw [kt_put_n _ _ (by omega), kt_put_n _ _ (by omega), kt_new_n _ _ _ (by omega), b2 _ (by omega)]; exact a3 j (by omega)
  · show σ2.2.1 + 1 = z + 3; omega
  · show σ2.2.2 + 9 = σ.2.2 + 25; omega
def Nz (σ τ : kt_H) (z ci : Nat) (num : Int32) : Prop := τ.1 z = kt_ob ci [.int num, .ref (z + 1), .int 0, .ref (z + 2)] ∧ τ.1 (z + 1) = kt_ia 16 (fun _ => 0) ∧ τ.1 (z + 2) = kt_ia 9 (fun _ => 0) ∧ (∀ j, j < z ∨ z + 2 < j → τ.1 j = σ.1 j) ∧ τ.2.1 = z + 3 ∧ τ.2.2 = σ.2.2 + 29
theorem Nw.z {ci : Nat} {num : Int32} (h : Nw (kt_new σ (kt_ob ci [.int 0, .null, .int 0, .null]) 4) τ σ.2.1 ci num) : Nz σ τ σ.2.1 ci num := by
  obtain ⟨h1, h2, h3, h4, h5, h6⟩ := h
  exact ⟨h1, h2, h3, fun j hj => by rw [h4 j hj, kt_new_n _ _ _ (by omega)], h5, by rw [h6]; show σ.2.2 + 4 + 25 = σ.2.2 + 29; omega⟩
theorem x_newHull (kind num : Int32) (hk : isKd kind) (hq : ∀ τ, Nz σ τ σ.2.1 (cK kind) num → Q (some (.ref σ.2.1)) τ) : Cs nX11_newHull [.int kind, .int num] σ Q := by
  refine Cs_in (k := kX11_newHull) [some (.int kind), some (.int num)] rfl rfl ?_
  rcases hk with rfl | rfl | rfl
  · repeat refine Ev_go rfl ?_
    refine Ev_ca rfl ?_
    refine x_init2 (ci := 2) rfl (kt_new_s _ _ _) rfl num (fun τ hN => ?_)
    refine Ev_rt rfl ?_
    exact hq τ hN.z
  · repeat refine Ev_go rfl ?_
    refine Ev_ca rfl ?_
    refine Cs_in (k := kX1_init) [some (.ref σ.2.1), some (.int num)] rfl rfl ?_
    repeat refine Ev_go rfl ?_
    refine Ev_ca rfl ?_
    refine x_init2 (ci := 1) rfl (kt_new_s _ _ _) rfl num (fun τ hN => ?_)
    refine Ev_rt rfl ?_
    repeat refine Ev_go rfl ?_
    refine Ev_rt rfl ?_
    exact hq τ hN.z
  · repeat refine Ev_go rfl ?_
    refine Ev_ca rfl ?_
    refine Cs_in (k := kX6_init) [some (.ref σ.2.1), some (.int num)] rfl rfl ?_
    repeat refine Ev_go rfl ?_
    refine Ev_ca rfl ?_
    refine Cs_in (k := kX1_init) [some (.ref σ.2.1), some (.int num)] rfl rfl ?_
    repeat refine Ev_go rfl ?_
    refine Ev_ca rfl ?_
    refine x_init2 (ci := 6) rfl (kt_new_s _ _ _) rfl num (fun τ hN => ?_)
    refine Ev_rt rfl ?_
    refine Ev_rt rfl ?_
    refine Ev_rt rfl ?_
    exact hq τ hN.z
theorem X_hull (hI : Inv f a) (hX : Xr f a σ) (kind k lane i n : Int32) (hq : ∀ τ, Xr (sp_hull f a kind k lane i n).2.1 (sp_hull f a kind k lane i n).2.2 τ → Un σ τ → Q (some (.int (sp_hull f a kind k lane i n).1)) τ) : Cs nX11_hull [.ref 0, .int kind, .int k, .int lane, .int i, .int n] σ Q := by
  have c0 := hX.c0
  unfold sp_hull at hq
  refine Cs_in (k := kX11_hull) [some (.ref 0), some (.int kind), some (.int k), some (.int lane), some (.int i), some (.int n), none, none, none] rfl rfl ?_
  repeat refine Ev_go rfl ?_
  refine Ev_pf rfl c0 rfl rfl rfl ?_
  have hU : Un σ (kt_put σ 0 (k0 (va_up f 0 0))) := Un.rf.put _ (by omega)
  have hX0 := hX.f0 0
  refine Ev_h (τ := kt_put σ 0 (k0 (va_up f 0 0))) rfl ?_
  generalize kt_put σ 0 (k0 (va_up f 0 0)) = σ0 at hU hX0 ⊢
  have d0 := hX0.c0
  have flt : ∀ x : Int32, Xr (va_up f 0 x) a (kt_put σ0 0 (k0 (va_up f 0 x))) := fun x => by
    have h := hX0.f0 x
    rw [va_up_uu] at h
    exact h
  repeat refine Ev_go rfl ?_
  refine Ev_cv rfl rfl d0 rfl rfl ?_
  refine x_sheetAt hX0 k (fun hk k' k1 k2 k3 => ?_) (fun hk => ?_)
  rotate_left
  · rw [if_pos hk] at hq
    repeat refine Ev_go rfl ?_
    refine Ev_rt rfl ?_
    exact hq σ0 hX0 hU
  rw [if_neg (fun z => z hk), k3] at hq
  have out : ¬ is2 kind ∨ ¬ is2 lane → Ev kX11_hull (33, [some (.ref 0), some (.int kind), some (.int k), some (.int lane), some (.int i), some (.int n), some (.ref (128 + 2 * k')), none, none], [], σ0) Q := by
    intro z
    rw [if_pos z] at hq
    repeat refine Ev_go rfl ?_
    refine Ev_rt rfl ?_
    exact hq σ0 hX0 hU
  repeat refine Ev_go rfl ?_
  refine Ev_ca rfl ?_
  refine x_isKind kind ?_
  repeat refine Ev_go rfl ?_
  refine Ev_ifb (fun z => out (Or.inl z)) (fun hkd => ?_)
  repeat refine Ev_go rfl ?_
  refine Ev_ca rfl ?_
  refine x_isLane lane ?_
  repeat refine Ev_go rfl ?_
  refine Ev_ifb (fun z => out (Or.inr z)) (fun hl => ?_)
  rw [if_neg (fun z => z.elim (fun y => y hkd) (fun y => y hl))] at hq
  have hS := hX0.sh k1
  have hsz := (hI.2.2.2 k' k1).1
  obtain ⟨len, g, s1, s2, s3, s4⟩ := id hS
  repeat refine Ev_go rfl ?_
  refine Ev_cv rfl rfl s1 rfl rfl ?_
  refine x_faultOfCells hS hsz.2 lane i n 2 (Or.inr rfl) ?_
  rw [show ((2 : Nat) : Int) * n.toInt = 2 * n.toInt from rfl]
  generalize hbar : bar (a 10 k') (a 11 k') lane i (2 * n.toInt) = B at hq ⊢
  repeat refine Ev_go rfl ?_
  refine Ev_if (fun z => ?_) (fun z => ?_)
  rotate_left
  · rw [if_pos z] at hq
    repeat refine Ev_go rfl ?_
    refine Ev_cv rfl rfl d0 rfl rfl ?_
    refine x_faulted d0 B ?_
    refine Ev_rt rfl ?_
    rw [va_up_uu]
    exact hq _ (flt B) (hU.put _ (by omega))
  rw [if_neg (fun y => y z)] at hq
  subst z
  have hin : 0 ≤ (a 10 k').toInt ∧ 0 ≤ i.toInt ∧ 0 ≤ n.toInt ∧ i.toInt + 2 * n.toInt ≤ (a 10 k').toInt := by
    unfold bar at hbar
    by_cases h2 : 0 ≤ (a 10 k').toInt ∧ ¬ a 11 k' = lane
    · rw [if_pos h2] at hbar; exact absurd hbar (by decide)
    · rw [if_neg h2] at hbar
      by_cases h1 : (a 10 k').toInt < 0
      · rw [if_pos h1] at hbar; exact absurd hbar (by decide)
      · rw [if_neg h1] at hbar
        by_cases h3 : 2 * n.toInt < 0
        · rw [if_pos h3] at hbar; exact absurd hbar (by decide)
        · rw [if_neg h3] at hbar
          by_cases h4 : i.toInt < 0 ∨ 2 * n.toInt < 0 ∨ (a 10 k').toInt < i.toInt + 2 * n.toInt
          · rw [if_pos h4] at hbar; exact absurd hbar (by decide)
          · omega
  obtain ⟨i', i1, i2, i3⟩ := nI_ex (x := i) (A := 0) (B := 60) 60 ⟨by omega, by omega⟩
  obtain ⟨n', n1, n2, n3⟩ := nI_ex (x := n) (A := 0) (B := 60) 60 ⟨by omega, by omega⟩
  subst i3
  subst n3
  rw [show nC (nI i') = i' from nI_clamp (by omega), show nC (nI n') = n' from nI_clamp (by omega)] at hq
  obtain ⟨t0, t1, t2, t3, t8, -⟩ := t01
  have bad : ¬ ((1 ≤ (nI n').toInt ∧ (nI n').toInt ≤ 8) ∧ ∀ y, y < 2 * n' → pt (a 12 (60 * k' + i' + y))) → Ev kX11_hull (88, [some (.ref 0), some (.int kind), some (.int k), some (.int lane), some (.int (nI i')), some (.int (nI n')), some (.ref (128 + 2 * k')), some (.int 0), none], [], σ0) Q := by
    intro z
    rw [if_pos z] at hq
    repeat refine Ev_go rfl ?_
    refine Ev_rt rfl ?_
    exact hq σ0 hX0 hU
  repeat refine Ev_go rfl ?_
  refine Ev_if (fun z => bad (fun y => by rw [fa_lt] at z; omega)) (fun z1 => ?_)
  repeat refine Ev_go rfl ?_
  refine Ev_if (fun z => bad (fun y => by rw [fa_lt] at z; omega)) (fun z2 => ?_)
  rw [fa_lt] at z1 z2
  repeat refine Ev_go rfl ?_
  rw [show 2 * nI n' = nI (2 * n') from by rw [fa_lit 2, pk_mul]]
  refine Ev_cv rfl rfl s1 rfl rfl ?_
  refine x_hasOnlyParts s1 s3 i' (2 * n') (by omega) ?_
  have eg : ∀ y, y < 2 * n' → g (i' + y) = a 12 (60 * k' + i' + y) := fun y hy => by
    rw [s4 _ (by omega)]
    show a 12 (60 * k' + (i' + y)) = _
    rw [Nat.add_assoc]
  repeat refine Ev_go rfl ?_
  refine Ev_ifb (fun z => bad (fun y => z (fun x hx => by rw [eg x hx]; exact y.2 x hx))) (fun z3 => ?_)
  rw [if_neg (fun z => z ⟨⟨by omega, by omega⟩, fun x hx => by rw [← eg x hx]; exact z3 x hx⟩)] at hq
  have hhc : nC (f 1) ≤ 16 ∧ f 1 = nI (nC (f 1)) := by
    obtain ⟨⟨hc, h16, hf, -⟩, -⟩ := hI
    rw [hf, nC, nI_clamp (by omega)]
    exact ⟨h16, rfl⟩
  generalize hhcc : nC (f 1) = hc at hhc
  have f1 := hhc.2
  have g1 : va_up f 0 0 1 = nI hc := f1
  (repeat first | refine Ev_go rfl ?_ | refine Ev_gf rfl (d0) rfl rfl ?_ )
  refine Ev_if (fun z => ?_) (fun z => ?_)
  rotate_left
  · have e16 : f 1 = 16 := by
      have z : ¬ f 1 < 16 := z
      rw [f1, fa_lt, nI_toInt (by omega)] at z
      have t8 : (16 : Int32).toInt = 16 := rfl
      rw [f1, show hc = 16 by omega]
      rfl
    rw [if_pos e16] at hq
    repeat refine Ev_go rfl ?_
    refine Ev_rt rfl ?_
    exact hq σ0 hX0 hU
  have l16 : hc < 16 := by
    have z : f 1 < 16 := z
    rw [f1, fa_lt, nI_toInt (by omega)] at z
    have t8 : (16 : Int32).toInt = 16 := rfl
    omega
  have ne16 : ¬ f 1 = 16 := fun e => by
    rw [f1] at e
    have := (nI_eq (b := 16) (by omega) (by decide)).mp e
    omega
  rw [if_neg ne16, hhcc] at hq
  have hkd' : isKd kind := by
    obtain ⟨q, q1, q2, q3⟩ := nI_ex 2 hkd
    rw [q3]
    exact kd_k (by omega)
  have hz : σ0.2.1 = 151 + 3 * hc := by rw [← hhcc]; exact hX0.2.2.2.1
  have hz2 : σ0.2.2 ≤ 1726 + 29 * hc := by rw [← hhcc]; exact hX0.2.2.2.2
  (repeat first | refine Ev_go rfl ?_ | refine Ev_gf rfl (d0) rfl rfl ?_ )
  refine Ev_ca rfl ?_
  refine x_newHull kind _ hkd' (fun τ hN => ?_)
  rw [g1, hz] at hN
  rw [hz]
  obtain ⟨m1, m2, m3, m4, m5, m6⟩ := hN
  have s1' := s1
  have s3' := s3
  rw [← m4 _ (by omega)] at s1' s3'
  (repeat first | refine Ev_go rfl ?_ | refine Ev_gf rfl (s1') rfl rfl ?_ )
  refine Ev_cv rfl rfl m1 (cK_1 hkd' 10) rfl ?_
  refine x_takeParts m1 m2 (by omega) hkd' s3' (by omega) (by omega) i' (by omega) (by decide) ?_
  generalize hτ2 : hlP τ (151 + 3 * hc) (151 + 3 * hc + 1) (151 + 3 * hc + 2) kind (nI hc) n' (va_cpy g (fun _ => 0) i' 0 (2 * n')) = τ2
  have q1 : τ2.1 (151 + 3 * hc) = kt_ob (cK kind) [.int (nI hc), .ref (151 + 3 * hc + 1), .int (nI n'), .ref (151 + 3 * hc + 2)] := by rw [← hτ2, kt_put_n _ _ (by omega), kt_put_s]
  have q2 : τ2.1 (151 + 3 * hc + 1) = kt_ia 16 (va_cpy g (fun _ => 0) i' 0 (2 * n')) := by rw [← hτ2, kt_put_s]
  have q3 : τ2.1 (151 + 3 * hc + 2) = kt_ia 9 (fun _ => 0) := by rw [← hτ2, kt_put_n _ _ (by omega), kt_put_n _ _ (by omega)]; exact m3
  have q4 : ∀ j, j < 151 + 3 * hc ∨ 151 + 3 * hc + 2 < j → τ2.1 j = σ0.1 j := fun j hj => by rw [← hτ2, kt_put_n _ _ (by omega), kt_put_n _ _ (by omega)]; exact m4 j hj
  have q5 : τ2.2.1 = 151 + 3 * (hc + 1) := by rw [← hτ2]; show τ.2.1 = _; omega
  have q6 : τ2.2.2 ≤ 1726 + 29 * (hc + 1) := by rw [← hτ2]; show τ.2.2 ≤ _; omega
  have e0 : τ2.1 0 = k0 (va_up f 0 0) := by rw [q4 _ (by omega)]; exact d0
  obtain ⟨gh, c1, c1g⟩ := hX0.c1
  have e1 : τ2.1 1 = kt_ra 1 16 gh := by rw [q4 _ (by omega)]; exact c1
  (repeat first | refine Ev_go rfl ?_ | refine Ev_gf rfl (e0) rfl rfl ?_ )
  refine Ev_aas hc rfl e1 q1 (show kt_mem (cK kind) [2, 1, 6] = true from cK_m hkd') g1 l16 (by decide) ?_
  have e0' : ∀ c, (kt_put τ2 1 c).1 0 = k0 (va_up f 0 0) := fun c => by rw [kt_put_n _ _ (by decide)]; exact e0
  (repeat first | refine Ev_go rfl ?_ | refine Ev_gf rfl (e0' _) rfl rfl ?_ )
  refine Ev_pf rfl (e0' _) rfl rfl rfl ?_
  repeat refine Ev_go rfl ?_
  refine Ev_rt rfl ?_
  rw [show va_up f 0 0 1 + 1 - 1 = f 1 from Int32.add_sub_cancel (f 1) 1]
  refine hq _ ?_ (((hU.tr (fun j a b => q4 j (by omega))).put _ (by omega)).put _ (by omega))
  have fc : nC (f 1 + 1) = hc + 1 := by rw [f1, nI_1, nC, nI_clamp (by omega)]
  obtain ⟨y1, y2, y3, y4, y5⟩ := hX0
  show Xr (va_up (va_up f 1 (f 1 + 1)) 0 0) (hlA a hc kind (nI n') (60 * k' + i') n') _
  refine ⟨fun j => ?_, fun j => ?_, fun l2 hl2 => ?_, ?_, ?_⟩
  · by_cases ej : j = 0 ∨ j = 1
    · exact Ck_lo _ (by omega)
    · rw [kt_put_n _ _ (by omega), kt_put_n _ _ (by omega)]
      by_cases ez : j < 151 + 3 * hc ∨ 151 + 3 * hc + 2 < j
      · rw [q4 j ez]; exact y1 j
      · exact Ck_hi _ (by omega)
  · by_cases ej : j = 0
    · subst ej
      rw [kt_put_s]
      refine ⟨fun _ => rfl, by omega, by omega, by omega, fun k hk => ⟨by omega, by omega⟩, fun h hh => ⟨by omega, by omega, by omega⟩⟩
    rw [kt_put_n _ _ ej]
    by_cases ej1 : j = 1
    · subst ej1
      rw [kt_put_s]
      refine ⟨by omega, fun _ => ⟨_, rfl, fun h hh => ?_⟩, by omega, by omega, fun k hk => ⟨by omega, by omega⟩, fun h hh => ⟨by omega, by omega, by omega⟩⟩
      have hh : h < nC (f 1 + 1) := hh
      rw [fc] at hh
      by_cases e : h = hc
      · subst e; rw [va_up_s]
      · rw [va_up_n _ _ e]
        exact c1g h (show h < nC (f 1) by omega)
    rw [kt_put_n _ _ ej1]
    have old : (j < 151 + 3 * hc ∨ 151 + 3 * hc + 2 < j) → Cv (va_up (va_up f 1 (f 1 + 1)) 0 0) (hlA a hc kind (nI n') (60 * k' + i') n') j (τ2.1 j) := by
      intro ez
      rw [q4 j ez]
      obtain ⟨w0, w1, w5, w37, ws, wh⟩ := y2 j
      refine ⟨fun e => absurd e ej, fun e => absurd e ej1, w5, w37, ws, fun h hh => ?_⟩
      have hh : h < nC (f 1 + 1) := hh
      rw [fc] at hh
      by_cases e : h = hc
      · subst e
        exact ⟨by omega, by omega, by omega⟩
      · have hlt : h < nC (f 1) := by omega
        obtain ⟨u1, u2, u3⟩ := wh h hlt
        have ea0 : hlA a hc kind (nI n') (60 * k' + i') n' 0 h = a 0 h := by
          show upd (a 0) hc kind h = a 0 h
          rw [pk_un e]
        have ea1 : hlA a hc kind (nI n') (60 * k' + i') n' 1 h = a 1 h := by
          show upd (a 1) hc (nI n') h = a 1 h
          rw [pk_un e]
        rw [ea0, ea1]
        refine ⟨u1, fun ee => ?_, u3⟩
        obtain ⟨gg, v1, v2⟩ := u2 ee
        refine ⟨gg, v1, fun x hx => ?_⟩
        have hx8 : x < 8 := by
          obtain ⟨⟨hc2, h16', hf', hall⟩, -⟩ := hI
          have ec : hc2 = hc := by
            rw [f1] at hf'
            exact ((nI_eq (by omega) (by omega)).mp hf').symm
          obtain ⟨-, nn, nn1, nn8, nna, -⟩ := hall h (by omega)
          rw [nna, nC, nI_clamp (by omega)] at hx
          omega
        rw [(v2 x hx).1, (v2 x hx).2]
        refine ⟨?_, ?_⟩
        · show a 2 (8 * h + x) = spr (a 2) (a 12) (8 * hc) (60 * k' + i') n' (8 * h + x)
          unfold spr
          rw [if_neg (by omega)]
        · show a 3 (8 * h + x) = spr (a 3) (a 12) (8 * hc) (60 * k' + i' + 1) n' (8 * h + x)
          unfold spr
          rw [if_neg (by omega)]
    by_cases ez : j < 151 + 3 * hc ∨ 151 + 3 * hc + 2 < j
    · exact old ez
    have nw : ∀ h, h < hc + 1 → (j = 151 + 3 * h ∨ j = 152 + 3 * h ∨ j = 153 + 3 * h) → h = hc := fun h hh he => by omega
    refine ⟨by omega, by omega, by omega, by omega, fun k hk => ⟨by omega, by omega⟩, fun h hh => ?_⟩
    have hh : h < nC (f 1 + 1) := hh
    rw [fc] at hh
    have ea0 : hlA a hc kind (nI n') (60 * k' + i') n' 0 hc = kind := pk_us
    have ea1 : hlA a hc kind (nI n') (60 * k' + i') n' 1 hc = nI n' := pk_us
    refine ⟨fun e => ?_, fun e => ?_, fun e => ?_⟩
    · have := nw h hh (Or.inl e)
      subst this
      rw [ea0, ea1, e, show 152 + 3 * h = 151 + 3 * h + 1 by omega, show 153 + 3 * h = 151 + 3 * h + 2 by omega]
      exact q1
    · have := nw h hh (Or.inr (Or.inl e))
      subst this
      rw [ea1, e, show nC (nI n') = n' from nI_clamp (by omega)]
      refine ⟨_, by rw [show 152 + 3 * h = 151 + 3 * h + 1 by omega]; exact q2, fun x hx => ?_⟩
      rw [pk_cpy_in (by omega) (by omega), pk_cpy_in (by omega) (by omega), Nat.sub_zero, Nat.sub_zero, eg _ (by omega), eg _ (by omega)]
      refine ⟨?_, ?_⟩
      · show a 12 (60 * k' + i' + 2 * x) = spr (a 2) (a 12) (8 * h) (60 * k' + i') n' (8 * h + x)
        unfold spr
        rw [if_pos (by omega), show 8 * h + x - 8 * h = x by omega]
      · show a 12 (60 * k' + i' + (2 * x + 1)) = spr (a 3) (a 12) (8 * h) (60 * k' + i' + 1) n' (8 * h + x)
        unfold spr
        rw [if_pos (by omega), show 8 * h + x - 8 * h = x by omega]
        congr 1
        omega
    · have := nw h hh (Or.inr (Or.inr e))
      subst this
      rw [e]
      exact ⟨_, by rw [show 153 + 3 * h = 151 + 3 * h + 2 by omega]; exact q3⟩
  · have h3 : Cl (va_up (va_up f 1 (f 1 + 1)) 0 0) (hlA a hc kind (nI n') (60 * k' + i') n') σ0 l2 := y3 l2 hl2
    exact h3.c (fun j a b => by rw [kt_put_n _ _ (by omega), kt_put_n _ _ (by omega)]; exact q4 j (by omega))
  · show τ2.2.1 = 151 + 3 * nC (f 1 + 1)
    rw [fc]; exact q5
  · show τ2.2.2 ≤ 1726 + 29 * nC (f 1 + 1)
    rw [fc]; exact q6
end XNH
