/-! the model: a law is read, and kept -/
section RL
variable {σ : kt_H} {f : FF} {a : AA} {Q : Option Value → kt_H → Prop}
abbrev WW : Type := Nat → List Int32 × Int32 × Int32
abbrev wdW (W : WW) (w q : Nat) : Int32 := wdC (W w).1 (W w).2.1 (W w).2.2 q
def rL (c : Nat → Int32) (n : Nat) : Nat → Nat → Nat → WW → Sum Nat (Nat × WW)
  | 0, _, p, _ => .inl p
  | j + 1, k, p, W => match pWd c n p with
    | .inl e => .inl e
    | .inr (p', t) => if n ≤ p' then .inr (k + 1, va_up W k t) else if j ≠ 0 ∧ cd c n p' = 43 then rL c n j (k + 1) (p' + 1) (va_up W k t) else .inl p'
theorem va_up_sw {α : Type} (f : Nat → α) {i j : Nat} (h : i ≠ j) (x y : α) : va_up (va_up f i x) j y = va_up (va_up f j y) i x := by
  funext q
  by_cases e : q = j
  · subst e
    rw [va_up_s, va_up_n _ _ (fun e => h e.symm), va_up_s]
  · rw [va_up_n _ _ e]
    by_cases e2 : q = i
    · subst e2; rw [va_up_s, va_up_s]
    · rw [va_up_n _ _ e2, va_up_n _ _ e2, va_up_n _ _ e]
theorem m_rl {c : Nat → Int32} (s n : Nat) (hs : s + n ≤ 240) (hc : (fun x => a 12 (s + x)) = c) (R : Sum Nat (Nat × WW))
    (h0 : ∀ e f2 a2, R = .inl e → (∀ q, q ≠ 13 → q ≠ 14 → f2 q = f q) → (∀ q, q ≠ 8 → a2 q = a q) → Q (some (.int (nI e))) (mM σ f2 a2))
    (h1 : ∀ k W f2 a2, R = .inr (k, W) → 1 ≤ k → k ≤ 4 → (∀ q, q ≠ 13 → q ≠ 14 → f2 q = f q) → f2 14 = nI k → (∀ q, q ≠ 8 → a2 q = a q) → (∀ w q, w < k → q < 5 → a2 8 (5 * w + q) = wdW W w q) → Q (some (.int (-9))) (mM σ f2 a2)) :
    ∀ (j k p : Nat) (F : FF) (a2 : AA) (W : WW), k + j + 1 = 4 → p ≤ 20 * k → (∀ q, q ≠ 13 → q ≠ 14 → F q = f q) → F 14 = nI k → (∀ q, q ≠ 8 → a2 q = a q) → (∀ w q, w < k → q < 5 → a2 8 (5 * w + q) = wdW W w q) → R = rL c n (j + 1) k p W → Ev kX12_readLaw (16, [some (.ref 136), some (.int (nI s)), some (.int (nI n)), some (.int 1)], [], mM σ (va_up F 13 (nI p)) a2) Q := by
  intro j
  induction j with
  | zero =>
    intro k p F a2 W hj hp hF hFk ha hw hR
    have hc2 : (fun x => a2 12 (s + x)) = c := by rw [ha 12 (by decide)]; exact hc
    unfold rL at hR
    repeat refine Ev_go rfl ?_
    refine Ev_ca rfl ?_
    refine m_readsWord s n k p hs (by omega) (by omega) hc2 hFk (fun e a3 he hK => ?_) (fun p' xs d l a3 he hp' hK h5 => ?_)
    · rw [he] at hR
      repeat refine Ev_go rfl ?_
      refine Ev_rt rfl ?_
      exact h0 e _ _ hR (fun q q1 q2 => by rw [va_up_n _ _ q1]; exact hF q q1 q2) (fun q hq => by rw [hK.1 q hq, ha q hq])
    rw [he] at hR
    dsimp only at hR
    rw [va_up_sw _ (by decide)]
    have hG : ∀ q, q ≠ 13 → q ≠ 14 → va_up (va_up F 14 (nI (k + 1))) 13 (nI p') q = f q := fun q q1 q2 => by rw [va_up_n _ _ q1, va_up_n _ _ q2]; exact hF q q1 q2
    have h3 : ∀ q, q ≠ 8 → a3 q = a q := fun q hq => by rw [hK.1 q hq, ha q hq]
    have hw3 : ∀ w q, w < k + 1 → q < 5 → a3 8 (5 * w + q) = wdW (va_up W k (xs, d, l)) w q := by
      intro w q hw1 hq
      by_cases e : w = k
      · subst e
        rw [h5 q hq, wdW, va_up_s]
      · rw [hK.2 _ (by omega), hw w q (by omega) hq, wdW, wdW, va_up_n _ _ e]
    repeat refine Ev_go rfl ?_
    refine Ev_if (fun g => ?_) (fun g => ?_)
    · have g : nI n ≤ nI p' := g
      rw [if_pos (Nat.not_lt.mp fun e => absurd g (nI_ge e (by omega)))] at hR
      repeat refine Ev_go rfl ?_
      refine Ev_rt rfl ?_
      exact h1 (k + 1) _ _ _ hR (by omega) (by omega) hG rfl h3 hw3
    have g : ¬ nI n ≤ nI p' := g
    rw [if_neg (fun e => g (nI_le e (by omega)))] at hR
    repeat refine Ev_go rfl ?_
    refine Ev_if (fun _ => ?_) (fun g2 => absurd (show nI (k + 1) = 4 by rw [show k + 1 = 4 by omega]; rfl) g2)
    rw [if_neg (fun e => e.1 rfl)] at hR
    repeat refine Ev_go rfl ?_
    refine Ev_rt rfl ?_
    exact h0 p' _ _ hR hG h3
  | succ j ih =>
    intro k p F a2 W hj hp hF hFk ha hw hR
    have hc2 : (fun x => a2 12 (s + x)) = c := by rw [ha 12 (by decide)]; exact hc
    unfold rL at hR
    repeat refine Ev_go rfl ?_
    refine Ev_ca rfl ?_
    refine m_readsWord s n k p hs (by omega) (by omega) hc2 hFk (fun e a3 he hK => ?_) (fun p' xs d l a3 he hp' hK h5 => ?_)
    · rw [he] at hR
      repeat refine Ev_go rfl ?_
      refine Ev_rt rfl ?_
      exact h0 e _ _ hR (fun q q1 q2 => by rw [va_up_n _ _ q1]; exact hF q q1 q2) (fun q hq => by rw [hK.1 q hq, ha q hq])
    rw [he] at hR
    dsimp only at hR
    rw [va_up_sw _ (by decide)]
    have hG : ∀ q, q ≠ 13 → q ≠ 14 → va_up (va_up F 14 (nI (k + 1))) 13 (nI p') q = f q := fun q q1 q2 => by rw [va_up_n _ _ q1, va_up_n _ _ q2]; exact hF q q1 q2
    have h3 : ∀ q, q ≠ 8 → a3 q = a q := fun q hq => by rw [hK.1 q hq, ha q hq]
    have hw3 : ∀ w q, w < k + 1 → q < 5 → a3 8 (5 * w + q) = wdW (va_up W k (xs, d, l)) w q := by
      intro w q hw1 hq
      by_cases e : w = k
      · subst e
        rw [h5 q hq, wdW, va_up_s]
      · rw [hK.2 _ (by omega), hw w q (by omega) hq, wdW, wdW, va_up_n _ _ e]
    repeat refine Ev_go rfl ?_
    refine Ev_if (fun g => ?_) (fun g => ?_)
    · have g : nI n ≤ nI p' := g
      rw [if_pos (Nat.not_lt.mp fun e => absurd g (nI_ge e (by omega)))] at hR
      repeat refine Ev_go rfl ?_
      refine Ev_rt rfl ?_
      exact h1 (k + 1) _ _ _ hR (by omega) (by omega) hG rfl h3 hw3
    have g : ¬ nI n ≤ nI p' := g
    rw [if_neg (fun e => g (nI_le e (by omega)))] at hR
    repeat refine Ev_go rfl ?_
    refine Ev_if (fun g2 => absurd g2 (fun e => by have e : nI (k + 1) = nI 4 := e; rw [nI_eq (by omega) (by omega)] at e; omega)) (fun _ => ?_)
    have hc3 : (fun x => a3 12 (s + x)) = c := by rw [h3 12 (by decide)]; exact hc
    repeat refine Ev_go rfl ?_
    refine Ev_ca rfl ?_
    refine m_takes s n p' hc3 hs (by omega) 43 (fun g3 => ?_) (fun g3 => ?_)
    · rw [if_pos ⟨by omega, g3⟩] at hR
      iterate 3 refine Ev_go rfl ?_
      refine ih (k + 1) (p' + 1) (va_up F 14 (nI (k + 1))) a3 _ (by omega) (by omega) (fun q q1 q2 => ?_) rfl h3 hw3 hR
      rw [va_up_n _ _ q2]
      exact hF q q1 q2
    · rw [if_neg (fun e => g3 e.2)] at hR
      repeat refine Ev_go rfl ?_
      refine Ev_rt rfl ?_
      exact h0 p' _ _ hR hG h3
theorem m_readLaw {c : Nat → Int32} (s n : Nat) (hs : s + n ≤ 240) (hc : (fun x => a 12 (s + x)) = c) 
    (h0 : ∀ e f2 a2, rL c n 4 0 0 (fun _ => ([], 0, 0)) = .inl e → (∀ q, q ≠ 13 → q ≠ 14 → f2 q = f q) → (∀ q, q ≠ 8 → a2 q = a q) → Q (some (.int (nI e))) (mM σ f2 a2))
    (h1 : ∀ k W f2 a2, rL c n 4 0 0 (fun _ => ([], 0, 0)) = .inr (k, W) → 1 ≤ k → k ≤ 4 → (∀ q, q ≠ 13 → q ≠ 14 → f2 q = f q) → f2 14 = nI k → (∀ q, q ≠ 8 → a2 q = a q) → (∀ w q, w < k → q < 5 → a2 8 (5 * w + q) = wdW W w q) → Q (some (.int (-9))) (mM σ f2 a2)) : Cs nX12_readLaw [.ref 136, .int (nI s), .int (nI n)] (mM σ f a) Q := by
  refine Cs_in (k := kX12_readLaw) [some (.ref 136), some (.int (nI s)), some (.int (nI n)), none] rfl rfl ?_
  iterate 2 refine Ev_go rfl ?_
  refine Ev_go rfl ?_
  refine Ev_mo (va_up f 13 0) ?_ rfl
  iterate 3 refine Ev_go rfl ?_
  refine Ev_mo (va_up (va_up f 14 0) 13 0) ?_ rfl
  iterate 4 refine Ev_go rfl ?_
  exact m_rl (f := f) (a := a) s n hs hc _ h0 h1 3 0 0 (va_up f 14 0) a _ rfl (by omega) (fun q q1 q2 => va_up_n _ _ q2) rfl (fun _ _ => rfl) (fun w q hw => absurd hw (Nat.not_lt_zero w)) rfl
end RL
