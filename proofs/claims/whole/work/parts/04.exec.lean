/-! the run, and what it says -/
def kt_ex : Nat → (Nat → kt_S) → kt_F → Option (Option Value × kt_H)
  | 0, _, _ => none
  | n + 1, k, fr => match k fr.1 fr.2.1 fr.2.2.1 fr.2.2.2 with
    | none => none
    | some (.inl fr') => kt_ex n k fr'
    | some (.inr (.inl q)) => (match kt_lay (kt_mx q.1.1) q.1.2 with
      | none => none
      | some L => (match kt_ex n (kt_k q.1.1) (0, L, [], q.2.2.2.2) with
        | none => none
        | some r => kt_ex n k (q.2.1, q.2.2.1, kt_push r.1 q.2.2.2.1, r.2)))
    | some (.inr (.inr r)) => some r
theorem kt_ex_s {k : Nat → kt_S} {fr : kt_F} {n : Nat} : kt_ex (n + 1) k fr = (match k fr.1 fr.2.1 fr.2.2.1 fr.2.2.2 with
    | none => none
    | some (.inl fr') => kt_ex n k fr'
    | some (.inr (.inl q)) => (match kt_lay (kt_mx q.1.1) q.1.2 with
      | none => none
      | some L => (match kt_ex n (kt_k q.1.1) (0, L, [], q.2.2.2.2) with
        | none => none
        | some r => kt_ex n k (q.2.1, q.2.2.1, kt_push r.1 q.2.2.2.1, r.2)))
    | some (.inr (.inr r)) => some r) := rfl
theorem kt_ex_m : ∀ (n : Nat) (k : Nat → kt_S) (fr : kt_F) (r : Option Value × kt_H), kt_ex n k fr = some r → kt_ex (n + 1) k fr = some r := by
  intro n
  induction n with
  | zero => intro k fr r h; cases h
  | succ n ih =>
    intro k fr r h
    rw [kt_ex_s] at h
    rw [kt_ex_s]
    cases hk : k fr.1 fr.2.1 fr.2.2.1 fr.2.2.2 with
    | none => rw [hk] at h; cases h
    | some z =>
      rw [hk] at h
      rcases z with fr' | q | r'
      · exact ih _ _ _ h
      · dsimp only at h ⊢
        cases hl : kt_lay (kt_mx q.1.1) q.1.2 with
        | none => rw [hl] at h; cases h
        | some L =>
          rw [hl] at h
          dsimp only at h ⊢
          cases hc : kt_ex n (kt_k q.1.1) (0, L, [], q.2.2.2.2) with
          | none => rw [hc] at h; cases h
          | some r1 =>
            rw [hc] at h
            dsimp only at h ⊢
            rw [ih _ _ _ hc]
            exact ih _ _ _ h
      · exact h
theorem kt_ex_le {n m : Nat} (hnm : n ≤ m) {k : Nat → kt_S} {fr : kt_F} {r : Option Value × kt_H} (h : kt_ex n k fr = some r) : kt_ex m k fr = some r := by
  induction hnm with
  | refl => exact h
  | step _ ih => exact kt_ex_m _ _ _ _ ih
/-- from the frame fr of the code k the run ends with Q -/
def Ev (k : Nat → kt_S) (fr : kt_F) (Q : Option Value → kt_H → Prop) : Prop := ∃ (n : Nat) (r : Option Value × kt_H), kt_ex n k fr = some r ∧ Q r.1 r.2
/-- a call of the method y -/
def Cs (y : Nat) (as : List Value) (σ : kt_H) (Q : Option Value → kt_H → Prop) : Prop := ∃ L, kt_lay (kt_mx y) as = some L ∧ Ev (kt_k y) (0, L, [], σ) Q
theorem Ev_go {k : Nat → kt_S} {pc : Nat} {L : kt_L} {S : List Value} {σ : kt_H} {fr : kt_F} {Q : Option Value → kt_H → Prop} (h : k pc L S σ = some (.inl fr)) (hE : Ev k fr Q) : Ev k (pc, L, S, σ) Q := by
  obtain ⟨n, r, h1, h2⟩ := hE
  refine ⟨n + 1, r, ?_, h2⟩
  rw [kt_ex_s]
  dsimp only
  rw [h]
  exact h1
theorem Ev_ca {k : Nat → kt_S} {pc : Nat} {L : kt_L} {S : List Value} {σ : kt_H} {y : Nat} {as : List Value} {pc' : Nat} {L' : kt_L} {S' : List Value} {σ' : kt_H} {Q : Option Value → kt_H → Prop} (h : k pc L S σ = some (.inr (.inl ((y, as), (pc', L', S', σ'))))) (hE : Cs y as σ' (fun v τ => Ev k (pc', L', kt_push v S', τ) Q)) : Ev k (pc, L, S, σ) Q := by
  obtain ⟨L0, hl, n, r, h1, n2, r2, h3, h4⟩ := hE
  refine ⟨max n n2 + 1, r2, ?_, h4⟩
  rw [kt_ex_s]
  dsimp only
  rw [h]
  dsimp only
  rw [hl]
  dsimp only
  rw [kt_ex_le (Nat.le_max_left n n2) h1]
  exact kt_ex_le (Nat.le_max_right n n2) h3
theorem Ev_rt {k : Nat → kt_S} {pc : Nat} {L : kt_L} {S : List Value} {σ : kt_H} {v : Option Value} {σ' : kt_H} {Q : Option Value → kt_H → Prop} (h : k pc L S σ = some (.inr (.inr (v, σ')))) (hq : Q v σ') : Ev k (pc, L, S, σ) Q := by
  refine ⟨1, (v, σ'), ?_, hq⟩
  rw [kt_ex_s]
  dsimp only
  rw [h]
theorem Ev_if {k : Nat → kt_S} {c : Prop} {d : Decidable c} {a b : Nat} {L : kt_L} {S : List Value} {σ : kt_H} {Q : Option Value → kt_H → Prop} (ht : c → Ev k (a, L, S, σ) Q) (hf : ¬ c → Ev k (b, L, S, σ) Q) : Ev k (@ite Nat c d a b, L, S, σ) Q := by
  by_cases h : c
  · rw [if_pos h]; exact ht h
  · rw [if_neg h]; exact hf h
theorem Ev_mono {k : Nat → kt_S} {fr : kt_F} {Q Q' : Option Value → kt_H → Prop} (h : Ev k fr Q) (hq : ∀ v σ, Q v σ → Q' v σ) : Ev k fr Q' := by
  obtain ⟨n, r, h1, h2⟩ := h
  exact ⟨n, r, h1, hq _ _ h2⟩
theorem Cs_mono {y : Nat} {as : List Value} {σ : kt_H} {Q Q' : Option Value → kt_H → Prop} (h : Cs y as σ Q) (hq : ∀ v σ, Q v σ → Q' v σ) : Cs y as σ Q' := by
  obtain ⟨L, h1, h2⟩ := h
  exact ⟨L, h1, Ev_mono h2 hq⟩
theorem Cs_in {y : Nat} {as : List Value} {σ : kt_H} {Q : Option Value → kt_H → Prop} {k : Nat → kt_S} (L : kt_L) (hl : kt_lay (kt_mx y) as = some L) (hk : kt_k y = k) (h : Ev k (0, L, [], σ) Q) : Cs y as σ Q := ⟨L, hl, hk ▸ h⟩
def kt_0 : kt_H := (fun _ => kt_no, 0, 0)
