/-! soundness: what a state of the run is on the machine -/
def kt_gw : List Cond := lw_tbl.filter goodWord
def kt_al (B : Nat) (tS : Nat → Nat) (k : Nat) : Nat := if k < 1000000 then B + k else tS (k - 1000000)
def kt_cv (α : Nat → Nat) : Value → Value
  | .ref k => .ref (α k)
  | v => v
def kt_cc (α : Nat → Nat) (dA : Nat → ClassId) : kt_C → va_E
  | .inl (_, n, .inl f) => .inl (dA 0, n, .inl f)
  | .inl (t, n, .inr (.inr (.inr (.inr g)))) => .inl (dA t, n, .inr (.inr (.inr (.inr (fun j => (g j).map α)))))
  | .inl (t, a) => .inl (dA t, a)
  | .inr (ci, fs) => .inr (ci, fs.map (kt_cv α))
def kt_ws (α : Nat → Nat) (dA : Nat → ClassId) (σ : kt_H) : va_W := (List.range σ.2.1).map (fun k => (α k, kt_cc α dA (σ.1 k)))
def kt_tys (dA : Nat → ClassId) : List (ClassId × FieldType) := [(dA 0, .int), (dA 1, .object RX2), (dA 2, .object RX3), (dA 3, .object RX8), (dA 4, .object RX0), (dA 5, .object RX10)]
def kt_wf (σ : kt_H) : Prop := ∀ k, σ.2.1 ≤ k → σ.1 k = kt_no
def kt_lo (α : Nat → Nat) (ls : Array Slot) (n : Nat) (L : kt_L) : Prop := ls.size = n ∧ L.length = n ∧ lv_wf ls ∧ ∀ (i : Nat) (v : Value), kt_at L i = some v → ls[i]? = some (.val (kt_cv α v))
theorem kt_cv_cat (α : Nat → Nat) (v : Value) : (kt_cv α v).category = v.category := by cases v <;> rfl
theorem kt_ws_at (α : Nat → Nat) (dA : Nat → ClassId) (σ : kt_H) (k : Nat) (h : k < σ.2.1) : (kt_ws α dA σ)[k]? = some (α k, kt_cc α dA (σ.1 k)) := by
  simp [kt_ws, h]
theorem kt_ws_of (α : Nat → Nat) (dA : Nat → ClassId) (σ : kt_H) (k : Nat) (q : Nat × va_E) (h : (kt_ws α dA σ)[k]? = some q) : k < σ.2.1 ∧ q = (α k, kt_cc α dA (σ.1 k)) := by
  have h1 : k < (kt_ws α dA σ).length := (List.getElem?_eq_some_iff.mp h).1
  have h2 : k < σ.2.1 := by simpa [kt_ws] using h1
  rw [kt_ws_at α dA σ k h2] at h
  exact ⟨h2, (Option.some.inj h).symm⟩
theorem kt_wf_lt {σ : kt_H} (h : kt_wf σ) {k : Nat} (hk : σ.1 k ≠ kt_no) : k < σ.2.1 := by
  rcases Nat.lt_or_ge k σ.2.1 with h1 | h1
  · exact h1
  · exact absurd (h k h1) hk
theorem kt_ws_set (α : Nat → Nat) (dA : Nat → ClassId) (σ : kt_H) (k : Nat) (c : kt_C) (h : k < σ.2.1) : kt_ws α dA (kt_put σ k c) = (kt_ws α dA σ).set k (α k, kt_cc α dA c) := by
  apply List.ext_getElem?
  intro j
  rcases Nat.lt_or_ge j σ.2.1 with hj | hj
  · rw [kt_ws_at α dA (kt_put σ k c) j hj]
    by_cases hk : j = k
    · subst hk
      rw [List.getElem?_set_self (by simpa [kt_ws] using h)]
      simp [kt_put, va_up]
    · rw [List.getElem?_set_ne (Ne.symm hk), kt_ws_at α dA σ j hj]
      simp [kt_put, va_up, hk]
  · rw [List.getElem?_eq_none (by simpa [kt_ws, kt_put] using hj), List.getElem?_eq_none (by simpa [kt_ws] using hj)]
theorem kt_ws_push (α : Nat → Nat) (dA : Nat → ClassId) (σ : kt_H) (c : kt_C) (k : Nat) : kt_ws α dA (kt_new σ c k) = kt_ws α dA σ ++ [(α σ.2.1, kt_cc α dA c)] := by
  have h1 : ∀ j, j ∈ List.range σ.2.1 → (α j, kt_cc α dA (va_up σ.1 σ.2.1 c j)) = (α j, kt_cc α dA (σ.1 j)) := by
    intro j hj
    have : j ≠ σ.2.1 := Nat.ne_of_lt (List.mem_range.mp hj)
    simp [va_up, this]
  show (List.range (σ.2.1 + 1)).map _ = _
  rw [List.range_succ, List.map_append]
  show (List.range σ.2.1).map (fun j => (α j, kt_cc α dA (va_up σ.1 σ.2.1 c j))) ++ _ = _
  rw [List.map_congr_left h1]
  simp [kt_ws, kt_new, va_up]
theorem kt_wf_put {σ : kt_H} (h : kt_wf σ) {k : Nat} {c : kt_C} (hk : k < σ.2.1) : kt_wf (kt_put σ k c) := by
  intro j hj
  have hj' : σ.2.1 ≤ j := hj
  have : j ≠ k := by omega
  show va_up σ.1 k c j = kt_no
  simp only [va_up, this, if_false]
  exact h j hj'
theorem kt_wf_new {σ : kt_H} (h : kt_wf σ) {c : kt_C} {n : Nat} : kt_wf (kt_new σ c n) := by
  intro j hj
  have hj' : σ.2.1 + 1 ≤ j := hj
  have : j ≠ σ.2.1 := by omega
  show va_up σ.1 σ.2.1 c j = kt_no
  simp only [va_up, this, if_false]
  exact h j (by omega)
theorem kt_ws_D {B : Nat} {tS : Nat → Nat} {dA : Nat → ClassId} {σ : kt_H} (hn : σ.2.1 ≤ 1000000) : va_D (fun q => B ≤ q) (kt_ws (kt_al B tS) dA σ) := by
  have key : ∀ k, k < σ.2.1 → kt_al B tS k = B + k := fun k hk => if_pos (by omega)
  refine ⟨fun i j p q hi hj hpq => ?_, fun k q hk => ?_⟩
  · obtain ⟨a1, a2⟩ := kt_ws_of _ _ _ _ _ hi
    obtain ⟨b1, b2⟩ := kt_ws_of _ _ _ _ _ hj
    rw [a2, b2] at hpq
    dsimp only at hpq
    rw [key i a1, key j b1] at hpq
    omega
  · obtain ⟨a1, a2⟩ := kt_ws_of _ _ _ _ _ hk
    rw [a2]
    dsimp only
    rw [key k a1]
    omega
/-! locals -/
theorem kt_set_ok : ∀ (L : kt_L) (i : Nat) (v : Option Value) (M : kt_L), kt_set L i v = some M → M.length = L.length ∧ i < L.length ∧ ∀ j, kt_at M j = if j = i then v else kt_at L j
  | [], i, v, M, h => by cases h
  | x :: L, 0, v, M, h => by
    cases h
    refine ⟨rfl, Nat.succ_pos _, fun j => ?_⟩
    cases j with
    | zero => rfl
    | succ j => rfl
  | x :: L, i + 1, v, M, h => by
    rw [kt_set] at h
    cases h1 : kt_set L i v with
    | none => rw [h1] at h; cases h
    | some M1 =>
      rw [h1] at h
      cases h
      obtain ⟨a, b, c⟩ := kt_set_ok L i v M1 h1
      refine ⟨by simp [a], by simp; omega, fun j => ?_⟩
      cases j with
      | zero => rfl
      | succ j =>
        show kt_at M1 j = _
        rw [c j]
        simp [kt_at]
theorem kt_at_lt : ∀ (L : kt_L) (i : Nat) (v : Value), kt_at L i = some v → i < L.length
  | [], i, v, h => by cases h
  | x :: L, 0, v, h => Nat.succ_pos _
  | x :: L, i + 1, v, h => by
    have := kt_at_lt L i v h
    simp
    exact this
def kt_lv (α : Nat → Nat) (L : kt_L) : List (Nat × Value) := (List.range L.length).filterMap (fun i => (kt_at L i).map (fun v => (i, kt_cv α v)))
theorem kt_lv_mem {α : Nat → Nat} {L : kt_L} {i : Nat} {v : Value} (h : kt_at L i = some v) : (i, kt_cv α v) ∈ kt_lv α L := by
  refine List.mem_filterMap.mpr ⟨i, List.mem_range.mpr (kt_at_lt L i v h), ?_⟩
  rw [h]; rfl
theorem kt_lo_has {α : Nat → Nat} {ls : Array Slot} {n : Nat} {L : kt_L} (h : kt_lo α ls n L) : lv_has ls n (kt_lv α L) := by
  refine ⟨h.1, h.2.2.1, fun q hq => ?_⟩
  obtain ⟨i, -, hi⟩ := List.mem_filterMap.mp hq
  cases hv : kt_at L i with
  | none => rw [hv] at hi; cases hi
  | some v =>
    rw [hv] at hi
    cases hi
    exact h.2.2.2 i v hv
theorem kt_lo_st {α : Nat → Nat} {ls' : Array Slot} {n i : Nat} {L M : kt_L} {v : Value} (hL : L.length = n) (hs : kt_set L i (some v) = some M) (hk : kt_ok L i = true) (h : lv_has ls' n ((i, kt_cv α v) :: (kt_lv α L).filter (fun q => !(q.1 == i) && !(q.1 + 1 == i && q.2.category == 2)))) : kt_lo α ls' n M := by
  obtain ⟨a, b, c⟩ := kt_set_ok L i _ M hs
  refine ⟨h.1, a.trans hL, h.2.1, fun j w hj => ?_⟩
  rw [c j] at hj
  by_cases hji : j = i
  · rw [if_pos hji] at hj
    cases hj
    subst hji
    exact h.2.2 _ List.mem_cons_self
  · rw [if_neg hji] at hj
    refine h.2.2 (j, kt_cv α w) (List.mem_cons_of_mem _ (List.mem_filter.mpr ⟨kt_lv_mem hj, ?_⟩))
    have h2 : ¬ (j + 1 = i ∧ (kt_cv α w).category = 2) := by
      rintro ⟨rfl, hc⟩
      rw [kt_cv_cat] at hc
      simp only [kt_ok, hj] at hk
      rw [hc] at hk
      cases hk
    simp only [Bool.and_eq_true, Bool.not_eq_true', beq_eq_false_iff_ne, ne_eq, Bool.and_eq_false_iff]
    refine ⟨hji, ?_⟩
    by_cases h3 : j + 1 = i
    · right
      intro hc
      exact h2 ⟨h3, hc⟩
    · left
      exact h3
theorem kt_lo_stl {α : Nat → Nat} {ls' : Array Slot} {n i : Nat} {L M M' : kt_L} {v : Value} (hL : L.length = n) (hs : kt_set L i (some v) = some M) (hs' : kt_set M (i + 1) none = some M') (hk : kt_ok L i = true) (h : lv_has ls' n ((i, kt_cv α v) :: (kt_lv α L).filter (fun q => !(q.1 == i) && (!(q.1 == i + 1) && !(q.1 + 1 == i && q.2.category == 2))))) : kt_lo α ls' n M' := by
  obtain ⟨a, b, c⟩ := kt_set_ok L i _ M hs
  obtain ⟨a', b', c'⟩ := kt_set_ok M (i + 1) _ M' hs'
  refine ⟨h.1, a'.trans (a.trans hL), h.2.1, fun j w hj => ?_⟩
  rw [c' j] at hj
  by_cases hj1 : j = i + 1
  · rw [if_pos hj1] at hj; cases hj
  rw [if_neg hj1, c j] at hj
  by_cases hji : j = i
  · rw [if_pos hji] at hj
    cases hj
    subst hji
    exact h.2.2 _ List.mem_cons_self
  · rw [if_neg hji] at hj
    refine h.2.2 (j, kt_cv α w) (List.mem_cons_of_mem _ (List.mem_filter.mpr ⟨kt_lv_mem hj, ?_⟩))
    have h2 : ¬ (j + 1 = i ∧ (kt_cv α w).category = 2) := by
      rintro ⟨rfl, hc⟩
      rw [kt_cv_cat] at hc
      simp only [kt_ok, hj] at hk
      rw [hc] at hk
      cases hk
    simp only [Bool.and_eq_true, Bool.not_eq_true', beq_eq_false_iff_ne, ne_eq, Bool.and_eq_false_iff]
    refine ⟨hji, hj1, ?_⟩
    by_cases h3 : j + 1 = i
    · right
      intro hc
      exact h2 ⟨h3, hc⟩
    · left
      exact h3
theorem kt_rep_at (n i : Nat) (v : Value) : kt_at (List.replicate n none) i ≠ some v := by
  induction n generalizing i with
  | zero => intro h; cases h
  | succ n ih =>
    cases i with
    | zero => intro h; cases h
    | succ i => exact ih i
theorem kt_lay_ok (α : Nat → Nat) : ∀ (as : List Value) (n : Nat) (L : kt_L), kt_lay n as = some L → L.length = n ∧ (lg_sl (as.map (kt_cv α))).length ≤ n ∧ ∀ (i : Nat) (v : Value), kt_at L i = some v → ∀ o, (o + i, kt_cv α v) ∈ lv_args o (as.map (kt_cv α))
  | [], n, L, h => by
    rw [kt_lay] at h
    cases h
    refine ⟨by simp, by simp [lg_sl], fun i v hi => absurd hi (kt_rep_at n i v)⟩
  | v :: vs, n, L, h => by
    have one : ∀ w : Value, w.category = 1 → kt_lay 0 (w :: vs) = none → (∀ k, kt_lay (k + 1) (w :: vs) = (match kt_lay k vs with
        | some L => some (some w :: L)
        | none => none)) → kt_lay n (w :: vs) = some L → L.length = n ∧ (lg_sl ((w :: vs).map (kt_cv α))).length ≤ n ∧ ∀ (i : Nat) (v : Value), kt_at L i = some v → ∀ o, (o + i, kt_cv α v) ∈ lv_args o ((w :: vs).map (kt_cv α)) := by
      intro w hw e0 e1 h
      cases n with
      | zero => rw [e0] at h; cases h
      | succ k =>
        rw [e1] at h
        cases h1 : kt_lay k vs with
        | none => rw [h1] at h; cases h
        | some L1 =>
          rw [h1] at h
          cases h
          obtain ⟨a, b, c⟩ := kt_lay_ok α vs k L1 h1
          have hc : ¬ (kt_cv α w).category = 2 := by rw [kt_cv_cat, hw]; decide
          refine ⟨by simp [a], ?_, fun i v hi o => ?_⟩
          · have : lg_sl ((w :: vs).map (kt_cv α)) = [.val (kt_cv α w)] ++ lg_sl (vs.map (kt_cv α)) := by simp [lg_sl, hc]
            rw [this]
            simp
            omega
          · show (o + i, kt_cv α v) ∈ (o, kt_cv α w) :: lv_args (if (kt_cv α w).category = 2 then o + 2 else o + 1) (vs.map (kt_cv α))
            rw [if_neg hc]
            cases i with
            | zero => cases hi; exact List.mem_cons_self
            | succ i =>
              refine List.mem_cons_of_mem _ ?_
              have := c i v hi (o + 1)
              rw [show o + (i + 1) = o + 1 + i by omega]
              exact this
    cases v with
    | long x =>
      rcases n with _ | _ | k
      · cases h
      · cases h
      · rw [show kt_lay (k + 1 + 1) (Value.long x :: vs) = (match kt_lay k vs with
          | some L => some (some (.long x) :: none :: L)
          | none => none) from rfl] at h
        cases h1 : kt_lay k vs with
        | none => rw [h1] at h; cases h
        | some L1 =>
          rw [h1] at h
          cases h
          obtain ⟨a, b, c⟩ := kt_lay_ok α vs k L1 h1
          refine ⟨by simp [a], ?_, fun i v hi o => ?_⟩
          · have : lg_sl ((Value.long x :: vs).map (kt_cv α)) = [.val (.long x), .second] ++ lg_sl (vs.map (kt_cv α)) := by simp [lg_sl, kt_cv, Value.category]
            rw [this]
            simp
            omega
          · show (o + i, kt_cv α v) ∈ (o, Value.long x) :: lv_args (if (Value.long x).category = 2 then o + 2 else o + 1) (vs.map (kt_cv α))
            rw [if_pos (show (Value.long x).category = 2 from rfl)]
            rcases i with _ | _ | i
            · cases hi; exact List.mem_cons_self
            · cases hi
            · refine List.mem_cons_of_mem _ ?_
              have := c i v hi (o + 2)
              rw [show o + (i + 1 + 1) = o + 2 + i by omega]
              exact this
    | double x => cases n <;> cases h
    | int x => exact one _ rfl rfl (fun _ => rfl) h
    | float x => exact one _ rfl rfl (fun _ => rfl) h
    | null => exact one _ rfl rfl (fun _ => rfl) h
    | ref x => exact one _ rfl rfl (fun _ => rfl) h
    | retAddr x => exact one _ rfl rfl (fun _ => rfl) h
