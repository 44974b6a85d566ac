/-! the pure part: steps with cells told -/
section EV
variable {k : Nat → kt_S} {pc nx : Nat} {L : kt_L} {S : List Value} {σ : kt_H} {Q : Option Value → kt_H → Prop}
theorem kt_inN {i : Int32} {n j : Nat} (hi : i = nI j) (hj : j < n) (hn : n < 2 ^ 31) : ¬ (i < 0 ∨ n ≤ i.toNatClampNeg) := by
  rw [hi]; exact nI_in hj hn
theorem Ev_ial {a t n : Nat} {f : Nat → Int32} {i : Int32} (j : Nat) (hk : k pc = s_ial nx) (hc : σ.1 a = .inl (t, n, .inl f)) (hi : i = nI j) (hj : j < n) (hn : n < 2 ^ 31) (h : Ev k (nx, L, .int (f j) :: S, σ) Q) : Ev k (pc, L, .int i :: .ref a :: S, σ) Q := by
  refine Ev_go (fr := (nx, L, .int (f j) :: S, σ)) ?_ h
  rw [hk]
  unfold s_ial
  simp only [hc]
  rw [if_neg (kt_inN hi hj hn), hi, nI_clamp (by omega)]
theorem Ev_ias {a t n : Nat} {f : Nat → Int32} {i x : Int32} (j : Nat) (hk : k pc = s_ias nx) (hc : σ.1 a = .inl (t, n, .inl f)) (hi : i = nI j) (hj : j < n) (hn : n < 2 ^ 31) (h : Ev k (nx, L, S, kt_put σ a (.inl (t, n, .inl (upd f j x)))) Q) : Ev k (pc, L, .int x :: .int i :: .ref a :: S, σ) Q := by
  refine Ev_go (fr := (nx, L, S, kt_put σ a (.inl (t, n, .inl (upd f j x))))) ?_ h
  rw [hk]
  unfold s_ias
  simp only [hc]
  rw [if_neg (kt_inN hi hj hn), hi, nI_clamp (by omega)]
theorem Ev_aal {a t n : Nat} {g : Nat → Option Nat} {i : Int32} (j : Nat) (hk : k pc = s_aal nx) (hc : σ.1 a = .inl (t, n, .inr (.inr (.inr (.inr g))))) (ht : kt_mem t [1, 2, 3, 4, 5] = true) (hi : i = nI j) (hj : j < n) (hn : n < 2 ^ 31) (h : Ev k (nx, L, va_rf (g j) :: S, σ) Q) : Ev k (pc, L, .int i :: .ref a :: S, σ) Q := by
  refine Ev_go (fr := (nx, L, va_rf (g j) :: S, σ)) ?_ h
  rw [hk]
  unfold s_aal
  simp only [hc, ht]
  rw [if_neg (kt_inN hi hj hn), hi, nI_clamp (by omega)]
theorem Ev_gf {a ci q : Nat} {cs : List Nat} {fs : List Value} {v : Value} (hk : k pc = s_gf cs q nx) (hc : σ.1 a = .inr (ci, fs)) (hm : kt_mem ci cs = true) (hv : kt_nth fs q = some v) (h : Ev k (nx, L, v :: S, σ) Q) : Ev k (pc, L, .ref a :: S, σ) Q := by
  refine Ev_go (fr := (nx, L, v :: S, σ)) ?_ h
  rw [hk]
  unfold s_gf
  simp only [hc, hm, hv]
theorem Ev_pf {a ci q b : Nat} {cs : List Nat} {fs gs : List Value} {v : Value} (hk : k pc = s_pf cs q b nx) (hc : σ.1 a = .inr (ci, fs)) (hm : kt_mem ci cs = true) (hf : kt_fit b v = true) (hv : kt_fset fs q v = some gs) (h : Ev k (nx, L, S, kt_put σ a (.inr (ci, gs))) Q) : Ev k (pc, L, v :: .ref a :: S, σ) Q := by
  refine Ev_go (fr := (nx, L, S, kt_put σ a (.inr (ci, gs)))) ?_ h
  rw [hk]
  unfold s_pf
  simp only [hc, hm, hf, hv]
theorem Ev_div {x y : Int32} (hk : k pc = s_div nx) (hy : y ≠ 0) (h : Ev k (nx, L, .int (x / y) :: S, σ) Q) : Ev k (pc, L, .int y :: .int x :: S, σ) Q := by
  refine Ev_go (fr := (nx, L, .int (x / y) :: S, σ)) ?_ h
  rw [hk]
  unfold s_div
  simp only [hy, if_false]
theorem Ev_rem {x y : Int32} (hk : k pc = s_rem nx) (hy : y ≠ 0) (h : Ev k (nx, L, .int (x - x / y * y) :: S, σ) Q) : Ev k (pc, L, .int y :: .int x :: S, σ) Q := by
  refine Ev_go (fr := (nx, L, .int (x - x / y * y) :: S, σ)) ?_ h
  rw [hk]
  unfold s_rem
  simp only [hy, if_false]
theorem Ev_ldiv {x y : Int64} (hk : k pc = s_ldiv nx) (hy : y ≠ 0) (h : Ev k (nx, L, .long (x / y) :: S, σ) Q) : Ev k (pc, L, .long y :: .long x :: S, σ) Q := by
  refine Ev_go (fr := (nx, L, .long (x / y) :: S, σ)) ?_ h
  rw [hk]
  unfold s_ldiv
  simp only [hy, if_false]
theorem Ev_lrem {x y : Int64} (hk : k pc = s_lrem nx) (hy : y ≠ 0) (h : Ev k (nx, L, .long (x - x / y * y) :: S, σ) Q) : Ev k (pc, L, .long y :: .long x :: S, σ) Q := by
  refine Ev_go (fr := (nx, L, .long (x - x / y * y) :: S, σ)) ?_ h
  rw [hk]
  unfold s_lrem
  simp only [hy, if_false]
theorem Ev_rz {v : Int32} (hk : k pc = s_rz) (hv : v = 0 ∨ v = 1) (h : Q (some (.int v)) σ) : Ev k (pc, L, [.int v], σ) Q := by
  refine Ev_rt (v := some (.int v)) (σ' := σ) ?_ h
  rw [hk]
  unfold s_rz
  simp only [hv, if_true]
theorem Ev_cv {a ci na y : Nat} {cs : List (Nat × Nat)} {as fs : List Value} {S' : List Value} (hk : k pc = s_cv cs na nx) (hp : kt_pop na [] S = some (as, .ref a :: S')) (hc : σ.1 a = .inr (ci, fs)) (hl : kt_look ci cs = some y) (hw : Nat.ble (kt_w S') 8 = true) (h : Cs y (.ref a :: as) σ (fun v τ => Ev k (nx, L, kt_push v S', τ) Q)) : Ev k (pc, L, S, σ) Q := by
  refine Ev_ca (y := y) (as := .ref a :: as) (pc' := nx) (L' := L) (S' := S') (σ' := σ) ?_ h
  rw [hk]
  unfold s_cv
  simp only [hp, hc, hl, hw, cond_true]
/-- a number on top of the stack gets a name -/
theorem Ev_v {x y : Int32} (e : x = y) (h : Ev k (pc, L, .int y :: S, σ) Q) : Ev k (pc, L, .int x :: S, σ) Q := e ▸ h
theorem Ev_h {τ : kt_H} (e : σ = τ) (h : Ev k (pc, L, S, τ) Q) : Ev k (pc, L, S, σ) Q := e ▸ h
end EV
theorem kt_put_put (σ : kt_H) (a : Nat) (c d : kt_C) : kt_put (kt_put σ a c) a d = kt_put σ a d := by
  unfold kt_put
  congr 1
  funext j
  by_cases h : j = a <;> simp [va_up, h]
theorem kt_put_s (σ : kt_H) (a : Nat) (c : kt_C) : (kt_put σ a c).1 a = c := by simp [kt_put, va_up]
theorem kt_put_n (σ : kt_H) {a b : Nat} (c : kt_C) (h : b ≠ a) : (kt_put σ a c).1 b = σ.1 b := by simp [kt_put, va_up, h]
theorem kt_put_id (σ : kt_H) (a : Nat) (c : kt_C) (h : σ.1 a = c) : kt_put σ a c = σ := by
  unfold kt_put
  have : va_up σ.1 a c = σ.1 := by
    funext j
    by_cases hj : j = a
    · simp [va_up, hj, ← h]
    · simp [va_up, hj]
  rw [this]
theorem kt_put_c (σ : kt_H) {a b : Nat} (c d : kt_C) (h : a ≠ b) : kt_put (kt_put σ a c) b d = kt_put (kt_put σ b d) a c := by
  unfold kt_put
  congr 1
  funext j
  by_cases h1 : j = a
  · subst h1
    simp [va_up, h]
  · by_cases h2 : j = b
    · subst h2
      simp [va_up, h1]
    · simp [va_up, h1, h2]
/-! numbers -/
theorem fa_wide (a : Int32) : a.toInt64.toInt = a.toInt := by simp
/-- 1 where it holds, else 0 -/
def bI (p : Prop) [Decidable p] : Int32 := if p then 1 else 0
theorem bI_t {p : Prop} [Decidable p] (h : p) : bI p = 1 := if_pos h
theorem bI_f {p : Prop} [Decidable p] (h : ¬ p) : bI p = 0 := if_neg h
theorem bI_0 {p : Prop} [Decidable p] : bI p = 0 ↔ ¬ p := by
  by_cases h : p
  · rw [bI_t h]; exact ⟨fun e => absurd e (by decide), fun e => absurd h e⟩
  · rw [bI_f h]; exact ⟨fun _ => h, fun _ => rfl⟩
theorem bI_01 {p : Prop} [Decidable p] : bI p = 0 ∨ bI p = 1 := by
  by_cases h : p
  · exact Or.inr (bI_t h)
  · exact Or.inl (bI_f h)
theorem bI_c {p q : Prop} [Decidable p] [Decidable q] (h : p ↔ q) : bI p = bI q := by
  by_cases hp : p
  · rw [bI_t hp, bI_t (h.mp hp)]
  · rw [bI_f hp, bI_f (fun e => hp (h.mpr e))]
theorem Ev_ifb {k : Nat → kt_S} {p : Prop} [Decidable p] {a b : Nat} {L : kt_L} {S : List Value} {σ : kt_H} {Q : Option Value → kt_H → Prop} (hf : ¬ p → Ev k (a, L, S, σ) Q) (ht : p → Ev k (b, L, S, σ) Q) : Ev k (if bI p = 0 then a else b, L, S, σ) Q := Ev_if (fun h => hf (bI_0.mp h)) (fun h => ht (Decidable.not_not.mp (fun e => h (bI_0.mpr e))))
theorem cmp_lt (x y : Int64) : lg_cmp x y < 0 ↔ x.toInt < y.toInt := by
  have h := lg_cmp_ge x y
  rw [fa_le64] at h
  rw [fa_lt]
  rw [fa_le] at h
  have e : (0 : Int32).toInt = 0 := rfl
  omega
theorem cmp_gt (x y : Int64) : 0 < lg_cmp x y ↔ y.toInt < x.toInt := by
  unfold lg_cmp
  by_cases h1 : x > y
  · rw [if_pos h1]
    have h2 : y < x := h1
    rw [fa_lt64] at h2
    exact ⟨fun _ => h2, fun _ => by decide⟩
  · rw [if_neg h1]
    have h2 : ¬ y < x := h1
    rw [fa_lt64] at h2
    by_cases h3 : x = y
    · rw [if_pos h3]
      exact ⟨fun e => absurd e (by decide), fun e => absurd e h2⟩
    · rw [if_neg h3]
      exact ⟨fun e => absurd e (by decide), fun e => absurd e h2⟩
theorem cmp_eq (x y : Int64) : lg_cmp x y = 0 ↔ x = y := by
  unfold lg_cmp
  by_cases h1 : x > y
  · rw [if_pos h1]
    exact ⟨fun e => absurd e (by decide), fun e => by subst e; exact absurd h1 (by show ¬ x < x; rw [fa_lt64]; omega)⟩
  · rw [if_neg h1]
    by_cases h3 : x = y
    · rw [if_pos h3]
      exact ⟨fun _ => h3, fun _ => rfl⟩
    · rw [if_neg h3]
      exact ⟨fun e => absurd e (by decide), fun e => absurd e h3⟩
