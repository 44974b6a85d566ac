/-! the model: a law is kept -/
section KL
variable {σ : kt_H} {f : FF} {a : AA} {Q : Option Value → kt_H → Prop}
def lwA (g : Nat → Int32) (l x : Nat) (W : WW) : Nat → Int32 := fun z => if 20 * l ≤ z ∧ z < 20 * l + x then wdW W ((z - 20 * l) / 5) ((z - 20 * l) % 5) else g z
theorem lwA_0 (g : Nat → Int32) (l : Nat) (W : WW) : lwA g l 0 W = g := by
  funext z; unfold lwA; rw [if_neg (by omega)]
theorem lwA_s (g : Nat → Int32) (l x : Nat) (W : WW) : upd (lwA g l x W) (20 * l + x) (wdW W (x / 5) (x % 5)) = lwA g l (x + 1) W := by
  funext z
  by_cases e : z = 20 * l + x
  · subst e
    rw [pk_us]; unfold lwA
    rw [if_pos (by omega), show 20 * l + x - 20 * l = x by omega]
  · rw [pk_un e]; unfold lwA
    by_cases h : 20 * l ≤ z ∧ z < 20 * l + x
    · rw [if_pos h, if_pos (by omega)]
    · rw [if_neg h, if_neg (by omega)]
abbrev W0 : WW := fun _ => ([], 0, 0)
def lwS (f : FF) (a : AA) (R : Sum Nat (Nat × WW)) : Int32 × FF × AA := match R with
  | .inl e => (-100 - nI e, va_up f 0 0, a)
  | .inr (k, W) => if f 10 = 8 then (-4, va_up f 0 0, a) else (f 10, va_up (va_up f 10 (f 10 + 1)) 0 0, va_up (va_up a 6 (upd (a 6) (nC (f 10)) (nI k))) 7 (lwA (a 7) (nC (f 10)) (5 * k) W))
def sp_law (f : FF) (a : AA) (k lane i n : Int32) : Int32 × FF × AA :=
  if ¬ isK k then (-1, va_up f 0 0, a) else if ¬ is2 lane then (-2, va_up f 0 0, a)
  else if bar (a 10 (nC k)) (a 11 (nC k)) lane i n.toInt ≠ 0 then (-10 - bar (a 10 (nC k)) (a 11 (nC k)) lane i n.toInt, va_up f 0 (bar (a 10 (nC k)) (a 11 (nC k)) lane i n.toInt), a)
  else lwS f a (rL (fun x => a 12 (60 * nC k + nC i + x)) (nC n) 4 0 0 W0)
abbrev fOk (x : Int32) : Prop := (0 ≤ x.toInt ∧ x.toInt ≤ 7) ∨ (101 ≤ x.toInt ∧ x.toInt ≤ 199)
theorem fcI_in {c : Nat → Int32} {n p e : Nat} (h : fcI c n p = .inl e) : e = p := by
  unfold fcI at h
  split at h
  · cases h
  split at h
  · injection h with h; exact h.symm
  · cases h
theorem ftI_le (c : Nat → Int32) (n : Nat) : ∀ (j p : Nat), (∀ e, ftI c n j p = .inl e → e ≤ p + 3 * j) ∧ ∀ q xs, ftI c n j p = .inr (q, xs) → q ≤ p + 3 * j ∧ xs.length ≤ j ∧ ∀ x, x ∈ xs → fOk x := by
  intro j
  induction j with
  | zero =>
    intro p
    unfold ftI
    refine ⟨fun e h => (by cases h), fun q xs h => ?_⟩
    injection h with h; injection h with h1 h2
    subst h2
    exact ⟨by omega, Nat.le_refl _, fun x hx => absurd hx List.not_mem_nil⟩
  | succ j ih =>
    intro p
    unfold ftI
    cases hf : fcI c n p with
    | inl e =>
      dsimp only
      have := fcI_in hf
      exact ⟨fun e h => by injection h with h; omega, fun q xs h => by cases h⟩
    | inr r =>
      obtain ⟨p', x⟩ := r
      dsimp only
      have hx := fcI_le hf
      have := ih (p' + 1)
      split
      · cases ht : ftI c n j (p' + 1) with
        | inl e =>
          have := this.1 e ht
          exact ⟨fun e h => by injection h with h; omega, fun q xs h => by cases h⟩
        | inr r =>
          obtain ⟨q, xs⟩ := r
          have := this.2 q xs ht
          refine ⟨fun e h => (by cases h), fun q xs h => ?_⟩
          injection h with h; injection h with h1 h2
          subst h2
          refine ⟨by omega, by rw [List.length_cons]; omega, fun y hy => ?_⟩
          rcases List.mem_cons.mp hy with e | e
          · rw [e]; exact hx.2
          · exact this.2.2 y e
      · refine ⟨fun e h => (by cases h), fun q xs h => ?_⟩
        injection h with h; injection h with h1 h2
        subst h2
        refine ⟨by omega, by simp, fun y hy => ?_⟩
        rw [List.mem_singleton] at hy
        rw [hy]; exact hx.2
theorem dvI_le {c : Nat → Int32} {n p : Nat} : (∀ e, dvI c n p = .inl e → e ≤ p + 2) ∧ ∀ q d, dvI c n p = .inr (q, d) → q ≤ p + 2 ∧ 1 ≤ d.toInt ∧ d.toInt ≤ 9 := by
  unfold dvI
  split
  · split
    · rename_i g
      refine ⟨fun e h => (by cases h), fun q d h => ?_⟩
      injection h with h; injection h with h1 h2
      subst h2
      exact ⟨by omega, by omega, by omega⟩
    · exact ⟨fun e h => by injection h with h; omega, fun q xs h => by cases h⟩
  · refine ⟨fun e h => (by cases h), fun q d h => ?_⟩
    injection h with h; injection h with h1 h2
    subst h2
    exact ⟨by omega, by decide, by decide⟩
theorem liI_le {c : Nat → Int32} {n p : Nat} : (∀ e, liI c n p = .inl e → e ≤ p + 4) ∧ ∀ q l, liI c n p = .inr (q, l) → q ≤ p + 4 ∧ (l = -9 ∨ 0 ≤ l.toInt ∧ l.toInt ≤ 999) := by
  have := nmI_le c n 3 (p + 1) 0
  unfold liI
  split
  · split
    · exact ⟨fun e h => by injection h with h; omega, fun q xs h => by cases h⟩
    · rename_i g
      refine ⟨fun e h => (by cases h), fun q d h => ?_⟩
      injection h with h; injection h with h1 h2
      subst h2
      exact ⟨by omega, nuI_v3 c n (p + 1)⟩
  · refine ⟨fun e h => (by cases h), fun q d h => ?_⟩
    injection h with h; injection h with h1 h2
    exact ⟨by omega, Or.inl h2.symm⟩
def tOk (t : List Int32 × Int32 × Int32) : Prop := (t.1.length ≤ 3 ∧ ∀ x, x ∈ t.1 → fOk x) ∧ (1 ≤ t.2.1.toInt ∧ t.2.1.toInt ≤ 9) ∧ (t.2.2 = -9 ∨ 0 ≤ t.2.2.toInt ∧ t.2.2.toInt ≤ 999)
theorem pWd_le {c : Nat → Int32} {n p : Nat} : (∀ e, pWd c n p = .inl e → e ≤ p + 16) ∧ ∀ q t, pWd c n p = .inr (q, t) → q ≤ p + 16 ∧ tOk t := by
  have h1 := ftI_le c n 3 p
  unfold pWd
  cases hf : ftI c n 3 p with
  | inl e =>
    have := h1.1 e hf
    exact ⟨fun e h => by injection h with h; omega, fun q xs h => by cases h⟩
  | inr r =>
    obtain ⟨p1, xs⟩ := r
    have h1 := h1.2 p1 xs hf
    dsimp only
    have h2 := @dvI_le c n p1
    cases hd : dvI c n p1 with
    | inl e =>
      have := h2.1 e hd
      exact ⟨fun e h => by injection h with h; omega, fun q xs h => by cases h⟩
    | inr r =>
      obtain ⟨p2, d⟩ := r
      have h2 := h2.2 p2 d hd
      dsimp only
      have h3 := @liI_le c n p2
      cases hl : liI c n p2 with
      | inl e =>
        have := h3.1 e hl
        exact ⟨fun e h => by injection h with h; omega, fun q xs h => by cases h⟩
      | inr r =>
        obtain ⟨p3, l⟩ := r
        have h3 := h3.2 p3 l hl
        refine ⟨fun e h => (by cases h), fun q t h => ?_⟩
        injection h with h; injection h with h4 h5
        subst h5
        exact ⟨by omega, ⟨h1.2.1, h1.2.2⟩, h2.2, h3.2⟩
theorem rL_le (c : Nat → Int32) (n : Nat) : ∀ (j k p : Nat) (W : WW), (∀ w, w < k → tOk (W w)) → (∀ e, rL c n j k p W = .inl e → e ≤ p + 17 * j) ∧ ∀ q V, rL c n j k p W = .inr (q, V) → k < q ∧ q ≤ k + j ∧ ∀ w, w < q → tOk (V w) := by
  intro j
  induction j with
  | zero =>
    intro k p W _
    unfold rL
    exact ⟨fun e h => by injection h with h; omega, fun q xs h => by cases h⟩
  | succ j ih =>
    intro k p W hW
    unfold rL
    have h1 := @pWd_le c n p
    cases hp : pWd c n p with
    | inl e =>
      have := h1.1 e hp
      exact ⟨fun e h => by injection h with h; omega, fun q xs h => by cases h⟩
    | inr r =>
      obtain ⟨p', t⟩ := r
      have h1 := h1.2 p' t hp
      have hV : ∀ w, w < k + 1 → tOk (va_up W k t w) := by
        intro w hw
        by_cases e : w = k
        · subst e; rw [va_up_s]; exact h1.2
        · rw [va_up_n _ _ e]; exact hW w (by omega)
      dsimp only
      split
      · refine ⟨fun e h => (by cases h), fun q t h => ?_⟩
        injection h with h; injection h with h4 h5
        subst h5
        subst h4
        exact ⟨by omega, by omega, hV⟩
      · split
        · have := ih (k + 1) (p' + 1) _ hV
          refine ⟨fun e h => by have := this.1 e h; omega, fun q V h => ?_⟩
          have := this.2 q V h
          exact ⟨by omega, by omega, this.2.2⟩
        · exact ⟨fun e h => by injection h with h; omega, fun q xs h => by cases h⟩
theorem jkL {f2 : FF} {a2 : AA} (x : Int32) (hf : ∀ q, q ≠ 13 → q ≠ 14 → f2 q = f q) (ha : ∀ q, q ≠ 8 → a2 q = a q) : Jk (va_up f 0 x) a (va_up f2 0 x) a2 := by
  refine ⟨fun q q1 q2 q3 q4 _ _ => ?_, fun q _ _ q3 _ => ha q q3⟩
  by_cases e : q = 0
  · subst e; rfl
  · rw [va_up_n _ _ e, va_up_n _ _ e, hf q q3 q4]
theorem ix20 (l x : Nat) : 20 * nI l + nI x = nI (20 * l + x) := by rw [fa_lit 20, pk_mul, nI_add]
theorem m_law_loop (lc k : Nat) (W : WW) (hl : lc < 8) (hk : k ≤ 4) (h10 : f 10 = nI lc) (h14 : f 14 = nI k) (h8 : ∀ w q, w < k → q < 5 → a 8 (5 * w + q) = wdW W w q) (g7 : Nat → Int32) (o1 o2 o3 o4 o5 o6 : Int32) (hq : Ev kX12_law (147, [some (.ref 136), some (.int o1), some (.int o2), some (.int o3), some (.int o4), some (.int o5), some (.int o6), some (.int (nI (5 * k)))], [], mM σ f (va_up a 7 (lwA g7 lc (5 * k) W))) Q) : ∀ (e x : Nat), x + e = 5 * k → Ev kX12_law (if 5 * f 14 ≤ nI x then 147 else 119, [some (.ref 136), some (.int o1), some (.int o2), some (.int o3), some (.int o4), some (.int o5), some (.int o6), some (.int (nI x))], [], mM σ f (va_up a 7 (lwA g7 lc x W))) Q := by
  intro e
  induction e with
  | zero =>
    intro x hx
    have e : x = 5 * k := by omega
    subst e
    rw [h14, fa_lit 5, pk_mul]
    exact Ev_if (fun _ => hq) (fun g1 => absurd (nI_le (Nat.le_refl _) (by omega)) g1)
  | succ e ih =>
    intro x hx
    rw [h14, fa_lit 5, pk_mul]
    refine Ev_if (fun g1 => absurd g1 (nI_ge (by omega) (by omega))) (fun _ => ?_)
    repeat refine Ev_go rfl ?_
    refine Ev_ial x rfl rfl rfl (by omega) (by decide) ?_
    rw [va_up_n _ _ (show 8 ≠ 7 by decide), show a 8 x = wdW W (x / 5) (x % 5) by rw [← h8 (x / 5) (x % 5) (by omega) (by omega)]; congr 1; omega]
    refine Ev_mstu 7 (20 * lc + x) rfl (fun _ => rfl) (by rw [← ix20, ← h10]) (by omega) (by decide) ?_
    rw [lwA_s]
    repeat refine Ev_go rfl ?_
    rw [nI_1]
    exact ih (x + 1) (by omega)
theorem M_law (hI : Inv f a) (k lane i n : Int32) (hq : ∀ f2 a2, Jk (sp_law f a k lane i n).2.1 (sp_law f a k lane i n).2.2 f2 a2 → Q (some (.int (sp_law f a k lane i n).1)) (mM σ f2 a2)) : Cs nX12_law [.ref 136, .int k, .int lane, .int i, .int n] (mM σ f a) Q := by
  unfold sp_law at hq
  refine Cs_in (k := kX12_law) [some (.ref 136), some (.int k), some (.int lane), some (.int i), some (.int n), none, none, none] rfl rfl ?_
  repeat refine Ev_go rfl ?_
  refine Ev_ca rfl ?_
  refine m_noSheet k ?_
  repeat refine Ev_go rfl ?_
  refine Ev_ifb (fun g1 => ?_) (fun g1 => ?_)
  rotate_left
  · rw [if_pos g1] at hq
    repeat refine Ev_go rfl ?_
    refine Ev_ca rfl ?_
    refine m_refused _ ?_
    refine Ev_rt rfl ?_
    exact hq _ _ Jk.rf
  have g1 := Decidable.not_not.mp g1
  rw [if_neg (fun e => e g1)] at hq
  obtain ⟨k', a1, -, rfl⟩ := nI_ex 3 g1
  simp only [nC, nI_clamp (show k' < 2 ^ 31 by omega)] at hq
  repeat refine Ev_go rfl ?_
  refine Ev_ca rfl ?_
  refine m_isLane lane ?_
  repeat refine Ev_go rfl ?_
  refine Ev_ifb (fun g3 => ?_) (fun g3 => ?_)
  · rw [if_pos g3] at hq
    repeat refine Ev_go rfl ?_
    refine Ev_ca rfl ?_
    refine m_refused _ ?_
    refine Ev_rt rfl ?_
    exact hq _ _ Jk.rf
  rw [if_neg (fun e => e g3)] at hq
  have n1 := Int32.toInt_lt n
  have n2 := Int32.le_toInt n
  repeat refine Ev_go rfl ?_
  refine Ev_ca rfl ?_
  refine m_barred k' (by omega) lane i n.toInt (fa_wide n) (by omega) (fun g4 => ?_) (fun g4 => ?_)
  rotate_left
  · rw [if_pos g4] at hq
    have hc := bar_c (a 10 k') (a 11 k') lane i n.toInt
    generalize bar (a 10 k') (a 11 k') lane i n.toInt = b at hc hq g4 ⊢
    have hn : ¬ 0 ≤ -10 - b := by rcases hc with e | e | e | e | e <;> first | exact absurd e g4 | (rw [e]; decide)
    generalize -10 - b = x at hn hq ⊢
    repeat refine Ev_go rfl ?_
    refine Ev_if (fun g => absurd g hn) (fun g => ?_)
    repeat refine Ev_go rfl ?_
    refine Ev_rt rfl ?_
    exact hq _ _ Jk.rf
  rw [if_neg (fun e => e g4)] at hq
  obtain ⟨b1, b2⟩ : (0 ≤ i.toInt ∧ i.toInt ≤ 60) ∧ (0 ≤ n.toInt ∧ i.toInt + n.toInt ≤ 60) := by
    have := (hI.2.2.2 k' (by omega)).1
    unfold bar at g4
    split at g4
    · exact absurd g4 (by decide)
    split at g4
    · exact absurd g4 (by decide)
    split at g4
    · exact absurd g4 (by decide)
    split at g4
    · exact absurd g4 (by decide)
    omega
  obtain ⟨i', c1, c2, rfl⟩ := nI_ex (x := i) 60 b1
  obtain ⟨n', c3, c4, rfl⟩ := nI_ex (x := n) (A := 0) (B := 60) 60 ⟨by omega, by omega⟩
  simp only [nI_clamp (show i' < 2 ^ 31 by omega), nI_clamp (show n' < 2 ^ 31 by omega)] at hq
  obtain ⟨lc, d1, d2, -⟩ := hI.2.1
  repeat refine Ev_go rfl ?_
  rw [ix60]
  refine Ev_ca rfl ?_
  refine m_readLaw (60 * k' + i') n' (by omega) rfl (fun e f2 a2 he hf ha => ?_) (fun kk W f2 a2 he k1 k4 hf hf14 ha hw => ?_)
  · have hl := (rL_le (fun x => a 12 (60 * k' + i' + x)) n' 4 0 0 W0 (fun w hw => absurd hw (Nat.not_lt_zero w))).1 e he
    rw [he] at hq
    repeat refine Ev_go rfl ?_
    refine Ev_if (fun g => absurd g (by rw [fa_lt, nI_toInt (by omega)]; show ¬ _ < (0 : Int); omega)) (fun _ => ?_)
    repeat refine Ev_go rfl ?_
    refine Ev_ca rfl ?_
    refine m_refused _ ?_
    refine Ev_rt rfl ?_
    exact hq _ _ (jkL 0 hf ha)
  · rw [he] at hq
    unfold lwS at hq
    dsimp only at hq
    have h10 : f2 10 = nI lc := by rw [hf 10 (by decide) (by decide), d2]
    repeat refine Ev_go rfl ?_
    refine Ev_if (fun g => ?_) (fun g => ?_)
    · rw [if_pos (by rw [← hf 10 (by decide) (by decide)]; exact g)] at hq
      repeat refine Ev_go rfl ?_
      refine Ev_ca rfl ?_
      refine m_refused _ ?_
      refine Ev_rt rfl ?_
      exact hq _ _ (jkL 0 hf ha)
    rw [if_neg (by rw [← hf 10 (by decide) (by decide)]; exact g)] at hq
    have hl8 : lc < 8 := by
      rcases Nat.lt_or_ge lc 8 with e | e
      · exact e
      · have : lc = 8 := by omega
        subst this
        exact absurd h10 g
    rw [d2] at hq
    simp only [nI_clamp (show lc < 2 ^ 31 by omega)] at hq
    repeat refine Ev_go rfl ?_
    refine Ev_mst 6 lc rfl (fun _ => rfl) h10 (by omega) (by decide) ?_
    repeat refine Ev_go rfl ?_
    rw [hf14]
    have l := m_law_loop (σ := σ) (f := f2) (a := va_up a2 6 (upd (a2 6) lc (nI kk))) (Q := Q) lc kk W hl8 k4 h10 hf14 hw (a2 7) (nI k') lane (nI i') (nI n') 0 (-9) ?_ (5 * kk) 0 (by omega)
    · rw [lwA_0, show va_up (va_up a2 6 (upd (a2 6) lc (nI kk))) 7 (a2 7) = va_up a2 6 (upd (a2 6) lc (nI kk)) from va_up_id (va_up a2 6 (upd (a2 6) lc (nI kk))) 7] at l
      rw [hf14] at l
      exact l
    repeat refine Ev_go rfl ?_
    refine Ev_mo (va_up f2 10 (f2 10 + 1)) ?_ rfl
    repeat refine Ev_go rfl ?_
    refine Ev_ca rfl ?_
    refine m_refused _ ?_
    refine Ev_rt rfl ?_
    rw [h10, Int32.add_sub_cancel]
    refine hq _ _ ⟨fun q q1 q2 q3 q4 _ _ => ?_, fun q _ _ q3 _ => ?_⟩
    · show va_up (va_up f2 10 (nI lc + 1)) 0 0 q = va_up (va_up f 10 (nI lc + 1)) 0 0 q
      by_cases e : q = 0
      · subst e; rfl
      rw [va_up_n _ _ e, va_up_n _ _ e]
      by_cases e : q = 10
      · subst e; rfl
      rw [va_up_n _ _ e, va_up_n _ _ e, hf q q3 q4]
    · show va_up (va_up a2 6 (upd (a2 6) lc (nI kk))) 7 (lwA (a2 7) lc (5 * kk) W) q = va_up (va_up a 6 (upd (a 6) lc (nI kk))) 7 (lwA (a 7) lc (5 * kk) W) q
      by_cases e : q = 7
      · subst e; rw [va_up_s, va_up_s, ha 7 (by decide)]
      rw [va_up_n _ _ e, va_up_n _ _ e]
      by_cases e : q = 6
      · subst e; rw [va_up_s, va_up_s, ha 6 (by decide)]
      rw [va_up_n _ _ e, va_up_n _ _ e, ha q q3]
end KL
