/-! the component's state -/
def BsC (o : Nat) (c : kt_C) : Prop := ∃ (v0 : Value) (x1 x2 x3 x4 x5 x6 : Int32), c = kt_ob 0 [v0, .int x1, .int x2, .int x3, .int x4, .int x5, .int x6, .ref o]
/-- what stays, and what serves -/
def Ck (j : Nat) (c : kt_C) : Prop :=
  (j = 2 → ∃ g, c = kt_ra 2 9 g ∧ ∀ l, l < 9 → g l = some (38 + 10 * l)) ∧
  (j = 3 → ∃ g, c = kt_ra 3 4 g ∧ ∀ k, k < 4 → g k = some (128 + 2 * k)) ∧
  (j = 4 → c = kt_ob 5 [.ref 5]) ∧
  (j = 6 → ∃ g, c = kt_ra 1 3 g ∧ ∀ k, k < 3 → g k = some (7 + 3 * k)) ∧
  (∀ k, k < 3 → (j = 7 + 3 * k → ∃ st : Int32, c = kt_ob (cK (nI k)) [.int (-9), .ref (8 + 3 * k), .int st, .ref (9 + 3 * k)]) ∧ (j = 8 + 3 * k → ∃ g, c = kt_ia 16 g) ∧ (j = 9 + 3 * k → ∃ u, c = kt_ia 9 u)) ∧
  (j = 16 → ∃ x : Int32, c = kt_ob 7 [.ref 17, .ref 19, .int x]) ∧
  (j = 17 → BsC 18 c) ∧ (j = 18 → ∃ g, c = kt_ia 8 g) ∧
  (j = 19 → ∃ g, c = kt_ra 4 8 g ∧ ∀ b, b < 8 → g b = some (20 + 2 * b)) ∧
  (∀ b, b < 8 → (j = 20 + 2 * b → BsC (20 + 2 * b + 1) c) ∧ (j = 20 + 2 * b + 1 → ∃ g, c = kt_ia 8 g)) ∧
  (j = 36 → ∃ v0 v1 v2 v3 v4 : Value, c = kt_ob 4 [v0, v1, v2, v3, v4])
/-- what is told -/
def Cv (f : FF) (a : AA) (j : Nat) (c : kt_C) : Prop :=
  (j = 0 → c = k0 f) ∧
  (j = 1 → ∃ g, c = kt_ra 1 16 g ∧ ∀ h, h < nC (f 1) → g h = some (151 + 3 * h)) ∧
  (j = 5 → ∃ g, c = kt_ia 6 g ∧ ∀ q, q < 6 → g q = a 9 q) ∧
  (j = 37 → c = kt_ob 9 [.int (f 23)]) ∧
  (∀ k, k < 4 → (j = 128 + 2 * k → ∃ len : Int32, c = kt_ob 8 [.ref (129 + 2 * k), .int (bI (0 ≤ (a 10 k).toInt)), .int (a 11 k), .int len] ∧ (0 ≤ (a 10 k).toInt → len = a 10 k)) ∧ (j = 129 + 2 * k → ∃ g, c = kt_ia 60 g ∧ ∀ i, i < 60 → g i = a 12 (60 * k + i))) ∧
  (∀ h, h < nC (f 1) → (j = 151 + 3 * h → c = kt_ob (cK (a 0 h)) [.int (nI h), .ref (152 + 3 * h), .int (a 1 h), .ref (153 + 3 * h)]) ∧ (j = 152 + 3 * h → ∃ g, c = kt_ia 16 g ∧ ∀ x, x < nC (a 1 h) → g (2 * x) = a 2 (8 * h + x) ∧ g (2 * x + 1) = a 3 (8 * h + x)) ∧ (j = 153 + 3 * h → ∃ u, c = kt_ia 9 u))
def Cl (f : FF) (a : AA) (σ : kt_H) (l : Nat) : Prop := (l < nC (f 10) → ∃ n, a 6 l = nI n ∧ LR σ l (a 7) n) ∧ (nC (f 10) ≤ l → Lf σ l)
def Xr (f : FF) (a : AA) (σ : kt_H) : Prop := (∀ j, Ck j (σ.1 j)) ∧ (∀ j, Cv f a j (σ.1 j)) ∧ (∀ l, l < 9 → Cl f a σ l) ∧ σ.2.1 = 151 + 3 * nC (f 1) ∧ σ.2.2 ≤ 1726 + 29 * nC (f 1)
theorem Ck_hi {j : Nat} (c : kt_C) (h : 37 ≤ j) : Ck j c := by
  refine ⟨by omega, by omega, by omega, by omega, fun k hk => ⟨by omega, by omega, by omega⟩, by omega, by omega, by omega, by omega, fun b hb => ⟨by omega, by omega⟩, by omega⟩
theorem Ck_lo {j : Nat} (c : kt_C) (h : j < 2 ∨ j = 5) : Ck j c := by
  refine ⟨by omega, by omega, by omega, by omega, fun k hk => ⟨by omega, by omega, by omega⟩, by omega, by omega, by omega, by omega, fun b hb => ⟨by omega, by omega⟩, by omega⟩
theorem Cv_s {f : FF} {a : AA} {j : Nat} (c : kt_C) (h : 7 ≤ j ∧ j ≤ 36) : Cv f a j c := by
  refine ⟨by omega, by omega, by omega, by omega, fun k hk => ⟨by omega, by omega⟩, fun h hh => ⟨by omega, by omega, by omega⟩⟩
theorem Ck_7 {k : Nat} (hk : k < 3) (st : Int32) : Ck (7 + 3 * k) (kt_ob (cK (nI k)) [.int (-9), .ref (8 + 3 * k), .int st, .ref (9 + 3 * k)]) := by
  refine ⟨by omega, by omega, by omega, by omega, fun k' hk' => ⟨fun e => ?_, by omega, by omega⟩, by omega, by omega, by omega, by omega, fun b hb => ⟨by omega, by omega⟩, by omega⟩
  have : k = k' := by omega
  subst this
  exact ⟨st, rfl⟩
theorem Ck_8 {k : Nat} (hk : k < 3) (g : Nat → Int32) : Ck (8 + 3 * k) (kt_ia 16 g) := by
  refine ⟨by omega, by omega, by omega, by omega, fun k' hk' => ⟨by omega, fun _ => ⟨g, rfl⟩, by omega⟩, by omega, by omega, by omega, by omega, fun b hb => ⟨by omega, by omega⟩, by omega⟩
theorem Ck_9 {k : Nat} (hk : k < 3) (g : Nat → Int32) : Ck (9 + 3 * k) (kt_ia 9 g) := by
  refine ⟨by omega, by omega, by omega, by omega, fun k' hk' => ⟨by omega, by omega, fun _ => ⟨g, rfl⟩⟩, by omega, by omega, by omega, by omega, fun b hb => ⟨by omega, by omega⟩, by omega⟩
theorem Ck_16 (x : Int32) : Ck 16 (kt_ob 7 [.ref 17, .ref 19, .int x]) := by
  refine ⟨by omega, by omega, by omega, by omega, fun k' hk' => ⟨by omega, by omega, by omega⟩, fun _ => ⟨x, rfl⟩, by omega, by omega, by omega, fun b hb => ⟨by omega, by omega⟩, by omega⟩
theorem Ck_17 {c : kt_C} (h : BsC 18 c) : Ck 17 c := by
  refine ⟨by omega, by omega, by omega, by omega, fun k' hk' => ⟨by omega, by omega, by omega⟩, by omega, fun _ => h, by omega, by omega, fun b hb => ⟨by omega, by omega⟩, by omega⟩
theorem Ck_18 (g : Nat → Int32) : Ck 18 (kt_ia 8 g) := by
  refine ⟨by omega, by omega, by omega, by omega, fun k' hk' => ⟨by omega, by omega, by omega⟩, by omega, by omega, fun _ => ⟨g, rfl⟩, by omega, fun b hb => ⟨by omega, by omega⟩, by omega⟩
theorem Ck_20 {b : Nat} (hb : b < 8) {c : kt_C} (h : BsC (20 + 2 * b + 1) c) : Ck (20 + 2 * b) c := by
  refine ⟨by omega, by omega, by omega, by omega, fun k' hk' => ⟨by omega, by omega, by omega⟩, by omega, by omega, by omega, by omega, fun b' hb' => ⟨fun e => ?_, by omega⟩, by omega⟩
  have : b = b' := by omega
  subst this
  exact h
theorem Ck_21 {b : Nat} (hb : b < 8) (g : Nat → Int32) : Ck (20 + 2 * b + 1) (kt_ia 8 g) := by
  refine ⟨by omega, by omega, by omega, by omega, fun k' hk' => ⟨by omega, by omega, by omega⟩, by omega, by omega, by omega, by omega, fun b' hb' => ⟨by omega, fun _ => ⟨g, rfl⟩⟩, by omega⟩
theorem Ck_36 (v0 v1 v2 v3 v4 : Value) : Ck 36 (kt_ob 4 [v0, v1, v2, v3, v4]) := by
  refine ⟨by omega, by omega, by omega, by omega, fun k' hk' => ⟨by omega, by omega, by omega⟩, by omega, by omega, by omega, by omega, fun b' hb' => ⟨by omega, by omega⟩, fun _ => ⟨v0, v1, v2, v3, v4, rfl⟩⟩
section XX
variable {f : FF} {a : AA} {σ τ ρ : kt_H}
/-- nothing has changed but what serves -/
def Sr (σ τ : kt_H) : Prop := τ.2 = σ.2 ∧ ∀ j, τ.1 j = σ.1 j ∨ ((7 ≤ j ∧ j ≤ 36) ∧ Ck j (τ.1 j)) ∨ ((151 ≤ j ∧ j % 3 = 0) ∧ (∃ u, σ.1 j = kt_ia 9 u) ∧ ∃ u, τ.1 j = kt_ia 9 u)
theorem Sr.rf : Sr σ σ := ⟨rfl, fun _ => Or.inl rfl⟩
theorem Sr.tr (h : Sr σ τ) (h2 : Sr τ ρ) : Sr σ ρ := by
  refine ⟨h2.1.trans h.1, fun j => ?_⟩
  rcases h2.2 j with e | e | e
  · rw [e]
    exact h.2 j
  · exact Or.inr (Or.inl e)
  · rcases h.2 j with g | g | g
    · rw [g] at e; exact Or.inr (Or.inr e)
    · exact absurd g.1 (by omega)
    · exact Or.inr (Or.inr ⟨e.1, g.2.1, e.2.2⟩)
abbrev Un (σ τ : kt_H) : Prop := ∀ j, 136 ≤ j → j < 151 → τ.1 j = σ.1 j
theorem Sr.un (h : Sr σ τ) : Un σ τ := fun j h1 h2 => by
  rcases h.2 j with e | e | e
  · exact e
  · exact absurd e.1 (by omega)
  · exact absurd e.1 (by omega)
theorem Sr.hi (h : Sr σ τ) {j : Nat} (hj : j < 7 ∨ (36 < j ∧ j < 153) ∨ j % 3 ≠ 0 ∧ 36 < j) : τ.1 j = σ.1 j := by
  rcases h.2 j with e | e | e
  · exact e
  · exact absurd e.1 (by omega)
  · exact absurd e.1 (by omega)
theorem Lf.c {l : Nat} (h : Lf σ l) (hc : ∀ j, 38 + 10 * l ≤ j → j < 48 + 10 * l → τ.1 j = σ.1 j) : Lf τ l := by
  obtain ⟨h1, h2, h3⟩ := h
  refine ⟨by rw [hc _ (by omega) (by omega)]; exact h1, by rw [hc _ (by omega) (by omega)]; exact h2, fun w hw => ?_⟩
  rw [hc _ (by omega) (by omega), hc (40 + 10 * l + 2 * w + 1) (by omega) (by omega)]
  exact h3 w hw
theorem Cl.c {l : Nat} (h : Cl f a σ l) (hc : ∀ j, 38 + 10 * l ≤ j → j < 48 + 10 * l → τ.1 j = σ.1 j) : Cl f a τ l := by
  refine ⟨fun hl => ?_, fun hl => (h.2 hl).c hc⟩
  obtain ⟨n, h1, h2⟩ := h.1 hl
  exact ⟨n, h1, h2.c hc⟩
theorem Xr.s (hX : Xr f a σ) (h : Sr σ τ) : Xr f a τ := by
  obtain ⟨x1, x2, x3, x4, x5⟩ := hX
  refine ⟨fun j => ?_, fun j => ?_, fun l hl => (x3 l hl).c (fun j a b => h.hi (by omega)), by rw [h.1]; exact x4, by rw [h.1]; exact x5⟩
  · rcases h.2 j with e | e | e
    · rw [e]; exact x1 j
    · exact e.2
    · exact Ck_hi _ (by omega)
  · rcases h.2 j with e | e | e
    · rw [e]; exact x2 j
    · exact Cv_s _ e.1
    · refine ⟨by omega, by omega, by omega, by omega, fun k hk => ⟨by omega, by omega⟩, fun h' hh => ⟨by omega, by omega, fun _ => e.2.2⟩⟩
theorem Sr.put {j : Nat} {c : kt_C} (h : Sr σ τ) (hj : 7 ≤ j ∧ j ≤ 36) (hc : Ck j c) : Sr σ (kt_put τ j c) := by
  refine ⟨h.1, fun i => ?_⟩
  by_cases e : i = j
  · subst e; rw [kt_put_s]; exact Or.inr (Or.inl ⟨hj, hc⟩)
  · rw [kt_put_n _ _ e]; exact h.2 i
theorem Sr.meas {j : Nat} {u : Nat → Int32} (h : Sr σ τ) (hj : 151 ≤ j ∧ j % 3 = 0) (hu : ∃ u, τ.1 j = kt_ia 9 u) : Sr σ (kt_put τ j (kt_ia 9 u)) := by
  refine Sr.tr h ⟨rfl, fun i => ?_⟩
  by_cases e : i = j
  · subst e; rw [kt_put_s]; exact Or.inr (Or.inr ⟨hj, hu, u, rfl⟩)
  · rw [kt_put_n _ _ e]; exact Or.inl rfl
theorem Fp.sr {k : Nat} {n M r : Nat} (h : Fp σ τ k) (hk : k < 3) (hH : HlS τ k n M r) : Sr σ τ := by
  obtain ⟨h1, ⟨g, h2, -⟩, ⟨u, h3⟩, -⟩ := hH
  refine ⟨h.1, fun j => ?_⟩
  by_cases e : j < 7 + 3 * k ∨ 9 + 3 * k < j
  · exact Or.inl (h.2 j e)
  · refine Or.inr (Or.inl ⟨by omega, ?_⟩)
    have : j = 7 + 3 * k ∨ j = 8 + 3 * k ∨ j = 9 + 3 * k := by omega
    rcases this with rfl | rfl | rfl
    · rw [h1]; exact Ck_7 hk _
    · rw [h2]; exact Ck_8 hk _
    · rw [h3]; exact Ck_9 hk _
theorem Bt.bs {n m : Nat} {kd : Int32} {o : Nat} {lv : Value} {lo l but : Int32} {r : Nat} (h : Bt σ a n m kd o lv lo l but r) : BsC (o + 1) (σ.1 o) ∧ ∃ g, σ.1 (o + 1) = kt_ia 8 g := by
  obtain ⟨wo, fw, pd, hd, g, h1, h2, -⟩ := h
  exact ⟨by rw [h1]; exact ⟨_, _, _, _, _, _, _, rfl⟩, g, h2⟩
theorem Fq.sr {k s : Nat} {n M r : Nat} (h : Fq σ τ k s) (hk : k < 3) (hs : s ≤ 8) (hH : HlS τ k n M r) (h0 : BsC 18 (τ.1 17) ∧ ∃ g, τ.1 18 = kt_ia 8 g) (hb : ∀ b, b < s → BsC (20 + 2 * b + 1) (τ.1 (20 + 2 * b)) ∧ ∃ g, τ.1 (20 + 2 * b + 1) = kt_ia 8 g) : Sr σ τ := by
  obtain ⟨h1, ⟨g, h2, -⟩, ⟨u, h3⟩, -⟩ := hH
  refine ⟨h.1, fun j => ?_⟩
  by_cases e : j < 7 + 3 * k ∨ 9 + 3 * k < j
  · by_cases e2 : j < 17 ∨ 19 + 2 * s < j ∨ j = 19
    · exact Or.inl (h.2 j e e2)
    · refine Or.inr (Or.inl ⟨by omega, ?_⟩)
      by_cases e3 : j < 19
      · have : j = 17 ∨ j = 18 := by omega
        rcases this with rfl | rfl
        · exact Ck_17 h0.1
        · obtain ⟨g, hg⟩ := h0.2
          rw [hg]; exact Ck_18 g
      · have hb' : (j - 20) / 2 < s := by omega
        obtain ⟨b1, g, b2⟩ := hb _ hb'
        rcases Nat.mod_two_eq_zero_or_one j with z | z
        · have ej : j = 20 + 2 * ((j - 20) / 2) := by omega
          rw [← ej] at b1
          have := Ck_20 (b := (j - 20) / 2) (by omega) (c := τ.1 j) (by rw [← ej]; exact b1)
          rw [← ej] at this
          exact this
        · have ej : j = 20 + 2 * ((j - 20) / 2) + 1 := by omega
          have := Ck_21 (b := (j - 20) / 2) (by omega) g
          rw [← ej] at this b2
          rw [b2]
          exact this
  · refine Or.inr (Or.inl ⟨by omega, ?_⟩)
    have : j = 7 + 3 * k ∨ j = 8 + 3 * k ∨ j = 9 + 3 * k := by omega
    rcases this with rfl | rfl | rfl
    · rw [h1]; exact Ck_7 hk _
    · rw [h2]; exact Ck_8 hk _
    · rw [h3]; exact Ck_9 hk _
/-! what the state says -/
theorem Xr.c0 (hX : Xr f a σ) : σ.1 0 = k0 f := (hX.2.1 0).1 rfl
theorem Xr.c1 (hX : Xr f a σ) : ∃ g, σ.1 1 = kt_ra 1 16 g ∧ ∀ h, h < nC (f 1) → g h = some (151 + 3 * h) := (hX.2.1 1).2.1 rfl
theorem Xr.c2 (hX : Xr f a σ) : ∃ g, σ.1 2 = kt_ra 2 9 g ∧ ∀ l, l < 9 → g l = some (38 + 10 * l) := (hX.1 2).1 rfl
theorem Xr.c3 (hX : Xr f a σ) : ∃ g, σ.1 3 = kt_ra 3 4 g ∧ ∀ k, k < 4 → g k = some (128 + 2 * k) := (hX.1 3).2.1 rfl
theorem Xr.nd (hX : Xr f a σ) (hI : Inv f a) : Nd σ (a 9) := ⟨(hX.1 4).2.2.1 rfl, (hX.2.1 5).2.2.1 rfl, hI.2.2.1⟩
theorem Xr.c6 (hX : Xr f a σ) : ∃ g, σ.1 6 = kt_ra 1 3 g ∧ ∀ k, k < 3 → g k = some (7 + 3 * k) := (hX.1 6).2.2.2.1 rfl
theorem Xr.sp (hX : Xr f a σ) {k : Nat} (hk : k < 3) : Sp σ k := by
  obtain ⟨st, h1⟩ := ((hX.1 (7 + 3 * k)).2.2.2.2.1 k hk).1 rfl
  obtain ⟨g, h2⟩ := ((hX.1 (8 + 3 * k)).2.2.2.2.1 k hk).2.1 rfl
  obtain ⟨u, h3⟩ := ((hX.1 (9 + 3 * k)).2.2.2.2.1 k hk).2.2 rfl
  exact ⟨st, g, u, h1, h2, h3⟩
theorem Xr.c16 (hX : Xr f a σ) : ∃ x : Int32, σ.1 16 = kt_ob 7 [.ref 17, .ref 19, .int x] := (hX.1 16).2.2.2.2.2.1 rfl
theorem Xr.c17 (hX : Xr f a σ) : BsC 18 (σ.1 17) := (hX.1 17).2.2.2.2.2.2.1 rfl
theorem Xr.c18 (hX : Xr f a σ) : ∃ g, σ.1 18 = kt_ia 8 g := (hX.1 18).2.2.2.2.2.2.2.1 rfl
theorem Xr.c19 (hX : Xr f a σ) : ∃ g, σ.1 19 = kt_ra 4 8 g ∧ ∀ b, b < 8 → g b = some (20 + 2 * b) := (hX.1 19).2.2.2.2.2.2.2.2.1 rfl
theorem Xr.c20 (hX : Xr f a σ) {b : Nat} (hb : b < 8) : BsC (20 + 2 * b + 1) (σ.1 (20 + 2 * b)) := ((hX.1 (20 + 2 * b)).2.2.2.2.2.2.2.2.2.1 b hb).1 rfl
theorem Xr.c21 (hX : Xr f a σ) {b : Nat} (hb : b < 8) : ∃ g, σ.1 (20 + 2 * b + 1) = kt_ia 8 g := ((hX.1 (20 + 2 * b + 1)).2.2.2.2.2.2.2.2.2.1 b hb).2 rfl
theorem Xr.c36 (hX : Xr f a σ) : ∃ v0 v1 v2 v3 v4 : Value, σ.1 36 = kt_ob 4 [v0, v1, v2, v3, v4] := (hX.1 36).2.2.2.2.2.2.2.2.2.2 rfl
theorem Xr.c37 (hX : Xr f a σ) : σ.1 37 = kt_ob 9 [.int (f 23)] := (hX.2.1 37).2.2.2.1 rfl
theorem Xr.sh (hX : Xr f a σ) {k : Nat} (hk : k < 4) : Sh σ k (a 10 k) (a 11 k) (fun i => a 12 (60 * k + i)) := by
  obtain ⟨len, h1, h2⟩ := ((hX.2.1 (128 + 2 * k)).2.2.2.2.1 k hk).1 rfl
  obtain ⟨g, h3, h4⟩ := ((hX.2.1 (129 + 2 * k)).2.2.2.2.1 k hk).2 rfl
  exact ⟨len, g, h1, h2, h3, h4⟩
/-- a hull of those told -/
theorem Xr.h (hX : Xr f a σ) (hI : Inv f a) {h : Nat} (hh : h < nC (f 1)) : h < 16 ∧ ∃ n : Nat, 1 ≤ n ∧ n ≤ 8 ∧ a 1 h = nI n ∧ nC (a 1 h) = n ∧ Hl σ (151 + 3 * h) (152 + 3 * h) (153 + 3 * h) (a 0 h) (nI h) n (hW a h) (hD a h) ∧ Bd n (hW a h) (hD a h) := by
  obtain ⟨⟨hc, hc16, hf, hall⟩, -⟩ := hI
  have e1 : nC (f 1) = hc := by rw [hf, nC, nI_clamp (by omega)]
  obtain ⟨hk, n, n1, n8, ha, hb⟩ := hall h (by omega)
  have en : nC (a 1 h) = n := by rw [ha, nC, nI_clamp (by omega)]
  obtain ⟨v1, v2, v3⟩ := (hX.2.1 (151 + 3 * h)).2.2.2.2.2 h hh
  obtain ⟨-, w2, -⟩ := (hX.2.1 (152 + 3 * h)).2.2.2.2.2 h hh
  obtain ⟨-, -, u3⟩ := (hX.2.1 (153 + 3 * h)).2.2.2.2.2 h hh
  obtain ⟨g, g1, g2⟩ := w2 rfl
  rw [en] at g2
  exact ⟨by omega, n, n1, n8, ha, en, ⟨by rw [v1 rfl, ha], ⟨g, g1, g2⟩, u3 rfl, by omega, by omega, by omega, hk, n1, n8⟩, hb⟩
theorem Xr.l (hX : Xr f a σ) (hI : Inv f a) {l : Nat} (hl : l < nC (f 10)) : l < 8 ∧ ∃ k : Nat, a 6 l = nI k ∧ nC (a 6 l) = k ∧ 1 ≤ k ∧ k ≤ 4 ∧ LR σ l (a 7) k := by
  obtain ⟨-, ⟨lc, h8, hf, -⟩, -⟩ := hI
  have e1 : nC (f 10) = lc := by rw [hf, nC, nI_clamp (by omega)]
  obtain ⟨n, h1, h2⟩ := (hX.2.2.1 l (by omega)).1 hl
  have h4 := h2.2.2.1
  exact ⟨by omega, n, h1, by rw [h1, nC, nI_clamp (by omega)], h4.1, h4.2, h2⟩
theorem isH_n (hI : Inv f a) {h : Int32} (hh : isH f h) : ∃ h' : Nat, h' < nC (f 1) ∧ h' < 16 ∧ h = nI h' ∧ nC h = h' := by
  obtain ⟨⟨hc, hc16, hf, -⟩, -⟩ := hI
  have e1 : nC (f 1) = hc := by rw [hf, nC, nI_clamp (by omega)]
  have e2 := nI_toInt (n := hc) (by omega)
  unfold isH at hh
  rw [hf, e2] at hh
  obtain ⟨j, j1, j2, j3⟩ := nI_ex 15 hh
  exact ⟨j, by omega, by omega, j3, by rw [j3, nC, nI_clamp (by omega)]⟩
theorem isW_n (hI : Inv f a) {l : Int32} (hl : isW f l) : ∃ l' : Nat, l' < nC (f 10) ∧ l' < 8 ∧ l = nI l' ∧ nC l = l' := by
  obtain ⟨-, ⟨lc, h8, hf, -⟩, -⟩ := hI
  have e1 : nC (f 10) = lc := by rw [hf, nC, nI_clamp (by omega)]
  have e2 := nI_toInt (n := lc) (by omega)
  unfold isW at hl
  rw [hf, e2] at hl
  obtain ⟨j, j1, j2, j3⟩ := nI_ex 7 hl
  exact ⟨j, by omega, by omega, j3, by rw [j3, nC, nI_clamp (by omega)]⟩
end XX
