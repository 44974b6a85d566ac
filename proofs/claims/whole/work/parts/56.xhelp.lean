/-! the component: what the calls share -/
theorem Inv.f0 {f : FF} {a : AA} (h : Inv f a) (x : Int32) : Inv (va_up f 0 x) a := h
theorem Ev_alv {k : Nat → kt_S} {pc nx i : Nat} {L : kt_L} {S : List Value} {σ : kt_H} {Q : Option Value → kt_H → Prop} {lv : Value} (hk : k pc = s_al i nx) (hi : kt_at L i = some lv) (hl : kt_fit 1 lv = true) (h : Ev k (nx, L, lv :: S, σ) Q) : Ev k (pc, L, S, σ) Q := by
  cases lv with
  | null =>
    refine Ev_go (fr := (nx, L, .null :: S, σ)) ?_ h
    rw [hk]
    unfold s_al
    simp only [hi]
  | ref z =>
    refine Ev_go (fr := (nx, L, .ref z :: S, σ)) ?_ h
    rw [hk]
    unfold s_al
    simp only [hi]
  | _ => cases hl
theorem Ev_asv {k : Nat → kt_S} {pc nx i : Nat} {L M : kt_L} {S : List Value} {σ : kt_H} {Q : Option Value → kt_H → Prop} {lv : Value} (hk : k pc = s_as i nx) (hl : kt_fit 1 lv = true) (hM : kt_set L i (some lv) = some M) (ho : kt_ok L i = true) (h : Ev k (nx, M, S, σ) Q) : Ev k (pc, L, lv :: S, σ) Q := by
  cases lv with
  | null =>
    refine Ev_go (fr := (nx, M, S, σ)) ?_ h
    rw [hk]
    unfold s_as
    simp only [hM, ho]
  | ref z =>
    refine Ev_go (fr := (nx, M, S, σ)) ?_ h
    rw [hk]
    unfold s_as
    simp only [hM, ho]
  | _ => cases hl
theorem Ev_isv {k : Nat → kt_S} {pc nx i : Nat} {L M : kt_L} {S : List Value} {σ : kt_H} {Q : Option Value → kt_H → Prop} {x : Int32} (hk : k pc = s_is i nx) (hM : kt_set L i (some (.int x)) = some M) (ho : kt_ok L i = true) (h : Ev k (nx, M, S, σ) Q) : Ev k (pc, L, .int x :: S, σ) Q := by
  refine Ev_go (fr := (nx, M, S, σ)) ?_ h
  rw [hk]
  unfold s_is
  simp only [hM, ho]
theorem fit_cat {lv : Value} (h : kt_fit 1 lv = true) : Nat.ble lv.category 1 = true := by
  cases lv with
  | null => rfl
  | ref z => rfl
  | _ => cases h
theorem Lk.fit {σ : kt_H} {a : AA} {lv : Value} {lo l but : Int32} (h : Lk σ a lv lo l but) : kt_fit 1 lv = true := by
  rcases h with ⟨rfl, -⟩ | ⟨L, k, -, -, rfl, -⟩ <;> rfl
section XF
variable {f : FF} {a : AA} {σ τ : kt_H} {Q : Option Value → kt_H → Prop}
/-- the fault is set -/
theorem Xr.f0 (hX : Xr f a σ) (x : Int32) : Xr (va_up f 0 x) a (kt_put σ 0 (k0 (va_up f 0 x))) := by
  obtain ⟨x1, x2, x3, x4, x5⟩ := hX
  refine ⟨fun j => ?_, fun j => ?_, fun l hl => ?_, x4, x5⟩
  · by_cases e : j = 0
    · subst e; exact Ck_lo _ (by omega)
    · rw [kt_put_n _ _ e]; exact x1 j
  · by_cases e : j = 0
    · subst e
      rw [kt_put_s]
      refine ⟨fun _ => rfl, by omega, by omega, by omega, fun k hk => ⟨by omega, by omega⟩, fun h hh => ⟨by omega, by omega, by omega⟩⟩
    · rw [kt_put_n _ _ e]
      have h := x2 j
      exact ⟨fun z => absurd z e, h.2.1, h.2.2.1, h.2.2.2.1, h.2.2.2.2.1, h.2.2.2.2.2⟩
  · have h := x3 l hl
    have h2 : Cl (va_up f 0 x) a σ l := h
    exact h2.c (fun j a b => kt_put_n _ _ (by omega))
theorem x_faulted (h0 : σ.1 0 = k0 f) (x : Int32) (hq : Q (some (.int (-10 - x))) (kt_put σ 0 (k0 (va_up f 0 x)))) : Cs nX11_faulted [.ref 0, .int x] σ Q := by
  refine Cs_in (k := kX11_faulted) [some (.ref 0), some (.int x)] rfl rfl ?_
  repeat refine Ev_go rfl ?_
  refine Ev_pf rfl h0 rfl rfl rfl ?_
  repeat refine Ev_go rfl ?_
  refine Ev_rt rfl ?_
  exact hq
theorem x_hullAt (hI : Inv f a) (hX : Xr f a σ) (h : Int32) (h1 : isH f h → ∀ h' : Nat, h' < nC (f 1) → h' < 16 → h = nI h' → nC h = h' → Q (some (.ref (151 + 3 * h'))) σ) (h0 : ¬ isH f h → Q (some .null) σ) : Cs nX11_hullAt [.ref 0, .int h] σ Q := by
  have c0 := hX.c0
  have t0 : (0 : Int32).toInt = 0 := rfl
  obtain ⟨g, c1, cg⟩ := hX.c1
  refine Cs_in (k := kX11_hullAt) [some (.ref 0), some (.int h)] rfl rfl ?_
  repeat refine Ev_go rfl ?_
  refine Ev_if (fun z => ?_) (fun z => ?_)
  · repeat refine Ev_go rfl ?_
    refine Ev_rt rfl ?_
    exact h0 (fun y => by rw [fa_lt] at z; omega)
  · (repeat first | refine Ev_go rfl ?_ | refine Ev_gf rfl (c0) rfl rfl ?_ )
    refine Ev_if (fun z2 => ?_) (fun z2 => ?_)
    · repeat refine Ev_go rfl ?_
      refine Ev_rt rfl ?_
      exact h0 (fun y => by rw [fa_le] at z2; omega)
    · have hh : isH f h := by rw [fa_lt] at z; rw [fa_le] at z2; exact ⟨by omega, by omega⟩
      obtain ⟨h', a1, a2, a3, a4⟩ := isH_n hI hh
      (repeat first | refine Ev_go rfl ?_ | refine Ev_gf rfl (c0) rfl rfl ?_ )
      refine Ev_aal h' rfl c1 rfl a3 a2 (by decide) ?_
      rw [cg h' a1]
      repeat refine Ev_go rfl ?_
      refine Ev_rt rfl ?_
      exact h1 hh h' a1 a2 a3 a4
theorem x_lawAt (hI : Inv f a) (hX : Xr f a σ) (l : Int32) (h1 : isW f l → ∀ l' : Nat, l' < nC (f 10) → l' < 8 → l = nI l' → nC l = l' → Q (some (.ref (38 + 10 * l'))) σ) (h0 : ¬ isW f l → Q (some .null) σ) : Cs nX11_lawAt [.ref 0, .int l] σ Q := by
  have c0 := hX.c0
  have t0 : (0 : Int32).toInt = 0 := rfl
  obtain ⟨g, c1, cg⟩ := hX.c2
  refine Cs_in (k := kX11_lawAt) [some (.ref 0), some (.int l)] rfl rfl ?_
  repeat refine Ev_go rfl ?_
  refine Ev_if (fun z => ?_) (fun z => ?_)
  · repeat refine Ev_go rfl ?_
    refine Ev_rt rfl ?_
    exact h0 (fun y => by rw [fa_lt] at z; omega)
  · (repeat first | refine Ev_go rfl ?_ | refine Ev_gf rfl (c0) rfl rfl ?_ )
    refine Ev_if (fun z2 => ?_) (fun z2 => ?_)
    · repeat refine Ev_go rfl ?_
      refine Ev_rt rfl ?_
      exact h0 (fun y => by rw [fa_le] at z2; omega)
    · have hh : isW f l := by rw [fa_lt] at z; rw [fa_le] at z2; exact ⟨by omega, by omega⟩
      obtain ⟨l', a1, a2, a3, a4⟩ := isW_n hI hh
      (repeat first | refine Ev_go rfl ?_ | refine Ev_gf rfl (c0) rfl rfl ?_ )
      refine Ev_aal l' rfl c1 rfl a3 (by omega) (by decide) ?_
      rw [cg l' (by omega)]
      repeat refine Ev_go rfl ?_
      refine Ev_rt rfl ?_
      exact h1 hh l' a1 a2 a3 a4
/-- the law, or none -/
theorem x_lawK (hI : Inv f a) (hX : Xr f a σ) (l : Int32) (hl : isW f l ∨ l = -9) (hq : ∀ lv, Lk σ a lv (-1) l (-9) → Q (some lv) σ) : Cs nX11_lawAt [.ref 0, .int l] σ Q := by
  refine x_lawAt hI hX l (fun _ l' a1 a2 a3 _ => ?_) (fun z => ?_)
  · obtain ⟨-, k, k1, k2, k3, k4, k5⟩ := hX.l hI a1
    exact hq _ (Or.inr ⟨l', k, a2, a3, rfl, k1, k5, lo19⟩)
  · exact hq _ (Or.inl ⟨rfl, hl.resolve_left z⟩)
theorem x_isLawOrNone (hI : Inv f a) (hX : Xr f a σ) (l : Int32) (h1 : (isW f l ∨ l = -9) → Q (some (.int 1)) σ) (h0 : nL f l → Q (some (.int 0)) σ) : Cs nX11_isLawOrNone [.ref 0, .int l] σ Q := by
  have c0 := hX.c0
  refine Cs_in (k := kX11_isLawOrNone) [some (.ref 0), some (.int l)] rfl rfl ?_
  repeat refine Ev_go rfl ?_
  refine Ev_if (fun z => ?_) (fun z => ?_)
  · repeat refine Ev_go rfl ?_
    refine Ev_rt rfl ?_
    exact h1 (Or.inr z)
  · repeat refine Ev_go rfl ?_
    refine Ev_cv rfl rfl c0 rfl rfl ?_
    refine x_lawAt hI hX l (fun hh l' _ _ _ _ => ?_) (fun hh => ?_)
    · repeat refine Ev_go rfl ?_
      refine Ev_rt rfl ?_
      exact h1 (Or.inl hh)
    · repeat refine Ev_go rfl ?_
      refine Ev_rt rfl ?_
      exact h0 ⟨hh, z⟩
theorem x_sheetAt (hX : Xr f a σ) (k : Int32) (h1 : isK k → ∀ k' : Nat, k' < 4 → k = nI k' → nC k = k' → Q (some (.ref (128 + 2 * k'))) σ) (h0 : ¬ isK k → Q (some .null) σ) : Cs nX11_sheetAt [.ref 0, .int k] σ Q := by
  have c0 := hX.c0
  have t0 : (0 : Int32).toInt = 0 := rfl
  have t4 : (Int32.ofNat 4).toInt = 4 := rfl
  obtain ⟨g, c1, cg⟩ := hX.c3
  refine Cs_in (k := kX11_sheetAt) [some (.ref 0), some (.int k)] rfl rfl ?_
  repeat refine Ev_go rfl ?_
  refine Ev_if (fun z => ?_) (fun z => ?_)
  · repeat refine Ev_go rfl ?_
    refine Ev_rt rfl ?_
    exact h0 (fun y => by rw [fa_lt] at z; omega)
  · (repeat first | refine Ev_go rfl ?_ | refine Ev_gf rfl (c0) rfl rfl ?_ )
    refine Ev_lenr rfl c1 rfl ?_
    repeat refine Ev_go rfl ?_
    refine Ev_if (fun z2 => ?_) (fun z2 => ?_)
    · repeat refine Ev_go rfl ?_
      refine Ev_rt rfl ?_
      exact h0 (fun y => by rw [fa_le] at z2; omega)
    · have hh : isK k := by rw [fa_lt] at z; rw [fa_le] at z2; exact ⟨by omega, by omega⟩
      obtain ⟨j, j1, j2, j3⟩ := nI_ex 3 hh
      (repeat first | refine Ev_go rfl ?_ | refine Ev_gf rfl (c0) rfl rfl ?_ )
      refine Ev_aal j rfl c1 rfl j3 (by omega) (by decide) ?_
      rw [cg j (by omega)]
      repeat refine Ev_go rfl ?_
      refine Ev_rt rfl ?_
      exact h1 hh j (by omega) j3 (by rw [j3, nC, nI_clamp (by omega)])
theorem x_isKind (x : Int32) (hq : Q (some (.int (bI (is2 x)))) σ) : Cs nX11_isKind [.int x] σ Q := by
  have t0 : (0 : Int32).toInt = 0 := rfl
  have t3 : (3 : Int32).toInt = 3 := rfl
  refine Cs_in (k := kX11_isKind) [some (.int x)] rfl rfl ?_
  repeat refine Ev_go rfl ?_
  refine Ev_if (fun g => ?_) (fun g => ?_)
  · rw [bI_f (by rw [fa_lt] at g; omega)] at hq
    repeat refine Ev_go rfl ?_
    refine Ev_rt rfl ?_
    exact hq
  · repeat refine Ev_go rfl ?_
    refine Ev_if (fun g2 => ?_) (fun g2 => ?_)
    · rw [bI_f (by rw [fa_le] at g2; omega)] at hq
      repeat refine Ev_go rfl ?_
      refine Ev_rt rfl ?_
      exact hq
    · rw [bI_t (by rw [fa_lt] at g; rw [fa_le] at g2; omega)] at hq
      repeat refine Ev_go rfl ?_
      refine Ev_rt rfl ?_
      exact hq
theorem x_isLane (x : Int32) (hq : Q (some (.int (bI (is2 x)))) σ) : Cs nX11_isLane [.int x] σ Q := by
  have t0 : (0 : Int32).toInt = 0 := rfl
  have t3 : (3 : Int32).toInt = 3 := rfl
  refine Cs_in (k := kX11_isLane) [some (.int x)] rfl rfl ?_
  repeat refine Ev_go rfl ?_
  refine Ev_if (fun g => ?_) (fun g => ?_)
  · rw [bI_f (by rw [fa_lt] at g; omega)] at hq
    repeat refine Ev_go rfl ?_
    refine Ev_rt rfl ?_
    exact hq
  · repeat refine Ev_go rfl ?_
    refine Ev_if (fun g2 => ?_) (fun g2 => ?_)
    · rw [bI_f (by rw [fa_le] at g2; omega)] at hq
      repeat refine Ev_go rfl ?_
      refine Ev_rt rfl ?_
      exact hq
    · rw [bI_t (by rw [fa_lt] at g; rw [fa_le] at g2; omega)] at hq
      repeat refine Ev_go rfl ?_
      refine Ev_rt rfl ?_
      exact hq
theorem x_areShapes (n m sort : Int32) (hq : Q (some (.int (bI (isSo n m sort)))) σ) : Cs nX11_areShapes [.int n, .int m, .int sort] σ Q := by
  have t1 : (1 : Int32).toInt = 1 := rfl
  have t3 : (3 : Int32).toInt = 3 := rfl
  have t4 : (4 : Int32).toInt = 4 := rfl
  refine Cs_in (k := kX11_areShapes) [some (.int n), some (.int m), some (.int sort)] rfl rfl ?_
  have no : ¬ isSo n m sort → Ev kX11_areShapes (31, [some (.int n), some (.int m), some (.int sort)], [], σ) Q := by
    intro h
    rw [bI_f h] at hq
    repeat refine Ev_go rfl ?_
    refine Ev_rt rfl ?_
    exact hq
  repeat refine Ev_go rfl ?_
  refine Ev_if (fun g => no (fun z => by rw [fa_lt] at g; omega)) (fun g1 => ?_)
  repeat refine Ev_go rfl ?_
  refine Ev_if (fun g => no (fun z => by rw [fa_lt] at g; omega)) (fun g2 => ?_)
  repeat refine Ev_go rfl ?_
  refine Ev_if (fun g => no (fun z => by rw [fa_lt] at g; omega)) (fun g3 => ?_)
  repeat refine Ev_go rfl ?_
  refine Ev_if (fun g => no (fun z => by rw [fa_lt] at g; omega)) (fun g4 => ?_)
  repeat refine Ev_go rfl ?_
  refine Ev_ca rfl ?_
  refine x_isKind sort ?_
  repeat refine Ev_go rfl ?_
  refine Ev_ifb (fun g => no (fun z => g z.2.2)) (fun g5 => ?_)
  rw [fa_lt] at g1 g2 g3 g4
  rw [bI_t (show isSo n m sort from ⟨⟨by omega, by omega⟩, ⟨by omega, by omega⟩, g5⟩)] at hq
  repeat refine Ev_go rfl ?_
  refine Ev_rt rfl ?_
  exact hq
theorem so_k {n m sort : Int32} (h : isSo n m sort) : ∃ n' m' k : Nat, 1 ≤ n' ∧ n' ≤ 4 ∧ 1 ≤ m' ∧ m' ≤ 3 ∧ k < 3 ∧ n = nI n' ∧ m = nI m' ∧ sort = nI k ∧ nC n = n' ∧ nC m = m' := by
  obtain ⟨n', m', h1, h2, h3, h4, h5, h6⟩ := so_ex h
  obtain ⟨k, k1, k2, k3⟩ := nI_ex 2 h.2.2
  exact ⟨n', m', k, h1, h2, h3, h4, by omega, h5, h6, k3, by rw [h5, nC, nI_clamp (by omega)], by rw [h6, nC, nI_clamp (by omega)]⟩
/-- the hull that goes -/
theorem x_hullThatGoes (hI : Inv f a) (hX : Xr f a σ) (fr l : Int32) {lv : Value} (hK : Lk σ a lv (-1) l (-9)) (hq : ∀ τ, Sr σ τ → Q (some (.int (gfI a fr l (nC (f 1))).1)) τ) : Cs nX11_hullThatGoes [.ref 0, .int fr, lv] σ Q := by
  have hfit := hK.fit
  have hcat := fit_cat hfit
  have hc16 : nC (f 1) ≤ 16 ∧ f 1 = nI (nC (f 1)) := by
    obtain ⟨⟨hc, h16, hf, -⟩, -⟩ := hI
    rw [hf, nC, nI_clamp (by omega)]
    exact ⟨h16, rfl⟩
  have lp : ∀ (e h : Nat) (τ : kt_H) (o6 o7 : Option Value), h + e = nC (f 1) → Sr σ τ → Ev kX11_hullThatGoes (9, [some (.ref 0), some (.int fr), some lv, some (.int (gfI a fr l h).2), some (.int (gfI a fr l h).1), some (.int (nI h)), o6, o7], [], τ) Q := by
    intro e
    induction e with
    | zero =>
      intro h τ o6 o7 hh hS
      have c0 := (hX.s hS).c0
      have e : h = nC (f 1) := by omega
      (repeat first | refine Ev_go rfl ?_ | refine Ev_gf rfl (c0) rfl rfl ?_ )
      refine Ev_if (fun _ => ?_) (fun g1 => absurd (by rw [hc16.2]; exact nI_le (by omega) (by omega)) g1)
      repeat refine Ev_go rfl ?_
      refine Ev_rt rfl ?_
      rw [e]
      exact hq τ hS
    | succ e ih =>
      intro h τ o6 o7 hh hS
      have hXt := hX.s hS
      have c0 := hXt.c0
      obtain ⟨g, c1, cg⟩ := hXt.c1
      obtain ⟨h16, n, n1, n8, ha, hc, hH, hB⟩ := hXt.h hI (h := h) (by omega)
      (repeat first | refine Ev_go rfl ?_ | refine Ev_gf rfl (c0) rfl rfl ?_ )
      refine Ev_if (fun g1 => absurd g1 (by rw [hc16.2]; exact nI_ge (by omega) (by omega))) (fun _ => ?_)
      (repeat first | refine Ev_go rfl ?_ | refine Ev_gf rfl (c0) rfl rfl ?_ )
      refine Ev_aal h rfl c1 rfl rfl (by omega) (by decide) ?_
      rw [cg h (by omega)]
      refine Ev_meas rfl rfl hH (fun v hv => ?_)
      have hS1 : Sr σ (kt_put τ (153 + 3 * h) (kt_ia 9 v)) := hS.meas (by omega) hH.2.2.1
      have hH1 := hH.put v
      have hv1 : (kt_put τ (153 + 3 * h) (kt_ia 9 v)).1 (153 + 3 * h) = kt_ia 9 v := kt_put_s _ _ _
      generalize kt_put τ (153 + 3 * h) (kt_ia 9 v) = τ1 at hS1 hH1 hv1 ⊢
      have hX1 := hX.s hS1
      have d0 := hX1.c0
      obtain ⟨g1, d1, dg⟩ := hX1.c1
      have hN1 := hX1.nd hI
      have hK1 : Lk τ1 a lv (-1) l (-9) := hK.c (fun j a b => hS1.hi (by omega))
      have fin : ∀ (most goes : Int32) (o6 o7 : Option Value), gfI a fr l (h + 1) = (goes, most) → Ev kX11_hullThatGoes (74, [some (.ref 0), some (.int fr), some lv, some (.int most), some (.int goes), some (.int (nI h)), o6, o7], [], τ1) Q := by
        intro most goes o6 o7 hE
        have hh2 := ih (h + 1) τ1 o6 o7 (by omega) hS1
        rw [hE] at hh2
        iterate 2 refine Ev_go rfl ?_
        rw [nI_1]
        exact hh2
      iterate 3 refine Ev_go rfl ?_
      refine Ev_alv rfl rfl hfit ?_
      iterate 1 refine Ev_go rfl ?_
      refine Ev_cv rfl rfl d0 rfl rfl ?_
      refine x_worthBy d0 hN1 hv1 hv hB n1 n8 hK1 fr ?_
      repeat refine Ev_go rfl ?_
      have eg : gfI a fr l (h + 1) = if (gfI a fr l h).2 < vlI fr a (a 0 h) n (hW a h) (hD a h) l (-9) ∧ fbI (a 9) (a 0 h) n (hW a h) (hD a h) < 0 then (nI h, vlI fr a (a 0 h) n (hW a h) (hD a h) l (-9)) else gfI a fr l h := by rw [gfI, hc]
      refine Ev_if (fun z => ?_) (fun z => ?_)
      · refine fin _ _ _ _ ?_
        rw [eg, if_neg (fun y => by have y := y.1; rw [fa_lt] at y; rw [fa_le] at z; omega)]
      · (repeat first | refine Ev_go rfl ?_ | refine Ev_gf rfl (d0) rfl rfl ?_ )
        refine Ev_aal h rfl d1 rfl rfl (by omega) (by decide) ?_
        rw [dg h (by omega)]
        repeat refine Ev_go rfl ?_
        refine Ev_cv rfl rfl hN1.1 rfl rfl ?_
        refine x_firstBroken hH1 hB hN1 hv1 (Mv.r hv) ?_
        have fx := fx_9 (nv := a 9) (kd := a 0 h) (w := hW a h) (d := hD a h) n1 n8
        repeat refine Ev_go rfl ?_
        refine Ev_if (fun z2 => ?_) (fun z2 => ?_)
        · iterate 1 refine Ev_go rfl ?_
          refine Ev_isv rfl rfl hcat ?_
          iterate 2 refine Ev_go rfl ?_
          refine fin _ _ _ _ ?_
          rw [eg, if_pos ⟨by rw [fa_lt]; rw [fa_le] at z; omega, fx.mp z2⟩]
        · refine fin _ _ _ _ ?_
          rw [eg, if_neg (fun y => z2 (fx.mpr y.2))]
  have key : Ev kX11_hullThatGoes (0, [some (.ref 0), some (.int fr), some lv, none, none, none, none, none], [], σ) Q := by
    iterate 1 refine Ev_go rfl ?_
    refine Ev_isv rfl rfl hcat ?_
    iterate 4 refine Ev_go rfl ?_
    exact lp (nC (f 1)) 0 σ _ _ (by omega) Sr.rf
  cases lv with
  | null => exact Cs_in (k := kX11_hullThatGoes) _ rfl rfl key
  | ref z => exact Cs_in (k := kX11_hullThatGoes) _ rfl rfl key
  | _ => cases hfit
end XF
