/-! the model: a word is read -/
section RW
variable {σ : kt_H} {f : FF} {a : AA} {Q : Option Value → kt_H → Prop}
def ftI (c : Nat → Int32) (n : Nat) : Nat → Nat → Sum Nat (Nat × List Int32)
  | 0, p => .inr (p, [])
  | j + 1, p => match fcI c n p with
    | .inl e => .inl e
    | .inr (p', x) => if j ≠ 0 ∧ cd c n p' = 42 then (match ftI c n j (p' + 1) with
        | .inl e => .inl e
        | .inr (q, xs) => .inr (q, x :: xs)) else .inr (p', [x])
def dvI (c : Nat → Int32) (n p : Nat) : Sum Nat (Nat × Int32) := if cd c n p = 47 then (if 2 ≤ (cd c n (p + 1) - 48).toInt ∧ (cd c n (p + 1) - 48).toInt ≤ 9 then .inr (p + 2, cd c n (p + 1) - 48) else .inl (p + 1)) else .inr (p, 1)
def liI (c : Nat → Int32) (n p : Nat) : Sum Nat (Nat × Int32) := if cd c n p = 60 then (if nuI c n 3 (p + 1) < 0 then .inl (nmI c n 3 (p + 1) 0).1 else .inr ((nmI c n 3 (p + 1) 0).1, nuI c n 3 (p + 1))) else .inr (p, -9)
def pWd (c : Nat → Int32) (n p : Nat) : Sum Nat (Nat × List Int32 × Int32 × Int32) := match ftI c n 3 p with
  | .inl e => .inl e
  | .inr (p1, xs) => match dvI c n p1 with
    | .inl e => .inl e
    | .inr (p2, d) => match liI c n p2 with
      | .inl e => .inl e
      | .inr (p3, l) => .inr (p3, xs, d, l)
def wdC (xs : List Int32) (d l : Int32) (q : Nat) : Int32 := if q < 3 then xs.getD q (-9) else if q = 3 then d else l
/-- a number of few digits is small -/
theorem nmI_v (c : Nat → Int32) (n : Nat) : ∀ (m p : Nat) (v : Int32) (B : Nat), (B + 1) * 10 ^ m ≤ 1000 → 0 ≤ v.toInt ∧ v.toInt ≤ B → 0 ≤ (nmI c n m p v).2.toInt ∧ (nmI c n m p v).2.toInt + 1 ≤ (((B + 1) * 10 ^ m : Nat) : Int) := by
  intro m
  induction m with
  | zero =>
    intro p v B h1 h2
    unfold nmI
    rw [Nat.pow_zero, Nat.mul_one] at *
    exact ⟨h2.1, by show v.toInt + 1 ≤ _; omega⟩
  | succ m ih =>
    intro p v B h1 h2
    have e : (B + 1) * 10 ^ (m + 1) = (10 * B + 9 + 1) * 10 ^ m := by
      rw [Nat.pow_succ, Nat.mul_comm (10 ^ m) 10, ← Nat.mul_assoc]
      congr 1
      omega
    have p10 : 1 ≤ 10 ^ m := Nat.one_le_pow _ _ (by decide)
    have hB : 10 * B + 9 + 1 ≤ 1000 := Nat.le_trans (Nat.le_mul_of_pos_right _ p10) (by rw [← e]; exact h1)
    unfold nmI
    split
    · rename_i g
      rw [e]
      refine ih (p + 1) _ (10 * B + 9) (by rw [← e]; exact h1) ?_
      have t10 : (10 : Int32).toInt = 10 := rfl
      have t48 : (48 : Int32).toInt = 48 := rfl
      have e1 : (10 * v).toInt = 10 * v.toInt := by rw [fb_mulI (by rw [t10]; omega) (by rw [t10]; omega), t10]
      have e2 : (10 * v + cd c n p).toInt = 10 * v.toInt + (cd c n p).toInt := by rw [fb_addI (by omega) (by omega), e1]
      rw [fb_subI (by omega) (by omega), e2, t48]
      omega
    · rw [e]
      have : 10 * B + 9 + 1 ≤ (10 * B + 9 + 1) * 10 ^ m := Nat.le_mul_of_pos_right _ p10
      exact ⟨h2.1, by show v.toInt + 1 ≤ _; omega⟩
theorem nuI_v2 (c : Nat → Int32) (n p : Nat) : nuI c n 2 p = -9 ∨ 0 ≤ (nuI c n 2 p).toInt ∧ (nuI c n 2 p).toInt ≤ 99 := by
  unfold nuI
  split
  · have := nmI_v c n 2 p 0 0 (by decide) ⟨by decide, by decide⟩
    exact Or.inr ⟨this.1, by omega⟩
  · exact Or.inl rfl
theorem nuI_v3 (c : Nat → Int32) (n p : Nat) : nuI c n 3 p = -9 ∨ 0 ≤ (nuI c n 3 p).toInt ∧ (nuI c n 3 p).toInt ≤ 999 := by
  unfold nuI
  split
  · have := nmI_v c n 3 p 0 0 (by decide) ⟨by decide, by decide⟩
    exact Or.inr ⟨this.1, by omega⟩
  · exact Or.inl rfl
theorem fcI_le {c : Nat → Int32} {n p p' : Nat} {x : Int32} (h : fcI c n p = .inr (p', x)) : p' ≤ p + 2 ∧ ((0 ≤ x.toInt ∧ x.toInt ≤ 7) ∨ (101 ≤ x.toInt ∧ x.toInt ≤ 199)) := by
  unfold fcI at h
  split at h
  · rename_i g
    injection h with h; injection h with h1 h2
    subst h2
    rcases ltI_c (cd c n p) with e | e
    · rw [e] at g; exact absurd g (by decide)
    · exact ⟨by omega, Or.inl e⟩
  · split at h
    · cases h
    · rename_i g1 g2
      injection h with h; injection h with h1 h2
      subst h2
      have := nmI_le c n 2 p 0
      refine ⟨by omega, Or.inr ?_⟩
      have t1 : (1 : Int32).toInt = 1 := rfl
      have t100 : (100 : Int32).toInt = 100 := rfl
      rw [fa_lt] at g2
      rcases nuI_v2 c n p with e | e
      · rw [e] at g2; exact absurd g2 (by decide)
      · rw [fb_addI (by omega) (by omega), t100]; omega
/-- what the reading leaves as it was -/
def K8 (a a2 : AA) (m : Nat) : Prop := (∀ q, q ≠ 8 → a2 q = a q) ∧ ∀ z, z < 5 * m → a2 8 z = a 8 z
theorem K8.st {a a2 : AA} {m : Nat} (h : K8 a a2 m) {z : Nat} (hz : 5 * m ≤ z) (x : Int32) : K8 a (va_up a2 8 (upd (a2 8) z x)) m := ⟨fun q hq => by rw [va_up_n _ _ hq, h.1 q hq], fun y hy => by rw [va_up_s, pk_un (by omega), h.2 y hy]⟩
theorem ix5 (m k : Nat) : 5 * nI m + nI k = nI (5 * m + k) := by rw [fa_lit 5, pk_mul, nI_add]
theorem lay8 {a2 : AA} {m : Nat} {pre : List Int32} {x : Int32} (h : ∀ q, q < pre.length → a2 8 (5 * m + q) = pre.getD q (-9)) (q : Nat) (hq : q ≤ pre.length) : va_up a2 8 (upd (a2 8) (5 * m + pre.length) x) 8 (5 * m + q) = (pre ++ [x]).getD q (-9) := by
  rw [va_up_s]
  by_cases e : q = pre.length
  · subst e
    rw [pk_us]
    simp
  · rw [pk_un (by omega), h q (by omega)]
    simp [List.getD, List.getElem?_append_left (show q < pre.length by omega)]
theorem m_rw_1 {c : Nat → Int32} (s n m : Nat) (hs : s + n ≤ 240) (hm : m < 4) (hc : (fun x => a 12 (s + x)) = c) (p0 : Nat) (hp0 : p0 < 700) (R : Sum Nat (Nat × List Int32))
    (h0 : ∀ e a2, R = .inl e → K8 a a2 m → Q (some (.int 0)) (mM σ (va_up f 13 (nI e)) a2))
    (h1 : ∀ p' xs a2, R = .inr (p', xs) → p' ≤ p0 + 9 → xs.length ≤ 3 → K8 a a2 m → (∀ q, q < xs.length → a2 8 (5 * m + q) = xs.getD q (-9)) → Ev kX12_readsWord (if 3 ≤ nI xs.length then 101 else 84, [some (.ref 136), some (.int (nI s)), some (.int (nI n)), some (.int (5 * nI m)), some (.int (nI xs.length)), some (.int 0), some (.int (nI xs.length))], [], mM σ (va_up f 13 (nI p')) a2) Q) :
    ∀ (j p : Nat) (a2 : AA) (pre : List Int32) (o6 : Option Value), j + 1 + pre.length = 3 → p + 3 * (j + 1) ≤ p0 + 9 → K8 a a2 m → (∀ q, q < pre.length → a2 8 (5 * m + q) = pre.getD q (-9)) → (R = match ftI c n (j + 1) p with
      | .inl e => .inl e
      | .inr (q, xs) => .inr (q, pre ++ xs)) → Ev kX12_readsWord (18, [some (.ref 136), some (.int (nI s)), some (.int (nI n)), some (.int (5 * nI m)), some (.int (nI pre.length)), some (.int 1), o6], [], mM σ (va_up f 13 (nI p)) a2) Q := by
  intro j
  induction j with
  | zero =>
    intro p a2 pre o6 hj hp hK hpre hR
    have hc2 : (fun x => a2 12 (s + x)) = c := by rw [hK.1 12 (by decide)]; exact hc
    unfold ftI at hR
    repeat refine Ev_go rfl ?_
    refine Ev_ca rfl ?_
    refine m_factor s n p hc2 hs (by omega) (fun e he => ?_) (fun p' x he => ?_)
    · rw [he] at hR
      repeat refine Ev_go rfl ?_
      refine Ev_rt rfl ?_
      exact h0 e a2 hR hK
    · rw [he] at hR
      have hx := fcI_le he
      simp only [ne_eq, not_true_eq_false, false_and, if_false] at hR
      repeat refine Ev_go rfl ?_
      refine Ev_if (fun g => ?_) (fun g => absurd g (by rw [fa_le]; show ¬ (0 : Int) ≤ _ → False; omega))
      repeat refine Ev_go rfl ?_
      refine Ev_mst 8 (5 * m + pre.length) rfl (fun _ => rfl) (ix5 m pre.length) (by omega) (by decide) ?_
      repeat refine Ev_go rfl ?_
      rw [nI_1]
      refine Ev_if (fun _ => ?_) (fun g2 => absurd (nI_le (a := 3) (by omega) (by omega)) g2)
      repeat refine Ev_go rfl ?_
      have e : pre.length + 1 = (pre ++ [x]).length := by rw [List.length_append]; rfl
      rw [e]
      refine h1 p' (pre ++ [x]) _ hR (by omega) (by omega) (hK.st (by omega) x) (fun q hq => ?_)
      exact lay8 hpre q (by omega)
  | succ j ih =>
    intro p a2 pre o6 hj hp hK hpre hR
    have hc2 : (fun x => a2 12 (s + x)) = c := by rw [hK.1 12 (by decide)]; exact hc
    unfold ftI at hR
    repeat refine Ev_go rfl ?_
    refine Ev_ca rfl ?_
    refine m_factor s n p hc2 hs (by omega) (fun e he => ?_) (fun p' x he => ?_)
    · rw [he] at hR
      repeat refine Ev_go rfl ?_
      refine Ev_rt rfl ?_
      exact h0 e a2 hR hK
    · rw [he] at hR
      have hx := fcI_le he
      simp only [ne_eq, Nat.succ_ne_zero, not_false_eq_true, true_and] at hR
      repeat refine Ev_go rfl ?_
      refine Ev_if (fun g => ?_) (fun g => absurd g (by rw [fa_le]; show ¬ (0 : Int) ≤ _ → False; omega))
      repeat refine Ev_go rfl ?_
      refine Ev_mst 8 (5 * m + pre.length) rfl (fun _ => rfl) (ix5 m pre.length) (by omega) (by decide) ?_
      repeat refine Ev_go rfl ?_
      rw [nI_1]
      refine Ev_if (fun g2 => absurd g2 (nI_ge (b := 3) (by omega) (by omega))) (fun _ => ?_)
      have e : pre.length + 1 = (pre ++ [x]).length := by rw [List.length_append]; rfl
      repeat refine Ev_go rfl ?_
      refine Ev_ca rfl ?_
      refine m_takes (a := va_up a2 8 (upd (a2 8) (5 * m + pre.length) x)) s n p' hc2 hs (by omega) 42 (fun g3 => ?_) (fun g3 => ?_)
      · rw [if_pos g3] at hR
        iterate 7 refine Ev_go rfl ?_
        rw [e]
        refine ih (p' + 1) _ (pre ++ [x]) _ (by omega) (by omega) (hK.st (by omega) x) (fun q hq => lay8 hpre q (by omega)) ?_
        rw [hR]
        cases ftI c n (j + 1) (p' + 1) with
        | inl e => rfl
        | inr r => obtain ⟨q, xs⟩ := r; simp
      · rw [if_neg g3] at hR
        repeat refine Ev_go rfl ?_
        rw [e]
        exact h1 p' (pre ++ [x]) _ hR (by omega) (by omega) (hK.st (by omega) x) (fun q hq => lay8 hpre q (by omega))
end RW
