/-! the model: sheets -/
theorem va_up_s {α : Type} (f : Nat → α) (k : Nat) (v : α) : va_up f k v k = v := by simp [va_up]
theorem va_up_n {α : Type} (f : Nat → α) {k j : Nat} (v : α) (h : j ≠ k) : va_up f k v j = f j := by simp [va_up, h]
theorem va_up_id {α : Type} (f : Nat → α) (k : Nat) : va_up f k (f k) = f := by
  funext j
  by_cases h : j = k
  · subst h; simp [va_up]
  · simp [va_up, h]
section EVM
variable {k : Nat → kt_S} {pc nx : Nat} {L : kt_L} {S : List Value} {σ : kt_H} {Q : Option Value → kt_H → Prop} {f : Nat → Int32} {a : Nat → Nat → Int32} {n : Nat}
theorem Ev_mst (q : Nat) {i x : Int32} (j : Nat) (hk : k pc = s_ias nx) (hn : ∀ y : Nat → Nat → Int32, (mM σ f y).1 (137 + q) = .inl (0, n, .inl (y q))) (hi : i = nI j) (hj : j < n) (h31 : n < 2 ^ 31) (h : Ev k (nx, L, S, mM σ f (va_up a q (upd (a q) j x))) Q) : Ev k (pc, L, .int x :: .int i :: .ref (137 + q) :: S, mM σ f a) Q :=
  Ev_ias j hk (hn a) hi hj h31 (Ev_ma h hn)
theorem Ev_mstu (q : Nat) {g : Nat → Int32} {i x : Int32} (j : Nat) (hk : k pc = s_ias nx) (hn : ∀ y : Nat → Nat → Int32, (mM σ f y).1 (137 + q) = .inl (0, n, .inl (y q))) (hi : i = nI j) (hj : j < n) (h31 : n < 2 ^ 31) (h : Ev k (nx, L, S, mM σ f (va_up a q (upd g j x))) Q) : Ev k (pc, L, .int x :: .int i :: .ref (137 + q) :: S, mM σ f (va_up a q g)) Q := by
  refine Ev_mst q j hk hn hi hj h31 ?_
  rw [va_up_s, bx_uu]
  exact h
end EVM
/-- what bars cells from being taken: the fault, or 0 -/
def bar (sz ln lane i : Int32) (N : Int) : Int32 := if 0 ≤ sz.toInt ∧ ¬ ln = lane then 2 else if sz.toInt < 0 then 1 else if N < 0 then 4 else if i.toInt < 0 ∨ N < 0 ∨ sz.toInt < i.toInt + N then 3 else 0
theorem m_barred {σ : kt_H} {f : Nat → Int32} {a : Nat → Nat → Int32} {Q : Option Value → kt_H → Prop} (k : Nat) (hk : k < 4) (lane i : Int32) {n : Int64} (N : Int) (hn : n.toInt = N) (hN : -1099511627776 ≤ N ∧ N ≤ 1099511627776)
    (h0 : bar (a 10 k) (a 11 k) lane i N = 0 → Q (some (.int 0)) (mM σ f a)) (h1 : bar (a 10 k) (a 11 k) lane i N ≠ 0 → Q (some (.int (-10 - bar (a 10 k) (a 11 k) lane i N))) (mM σ (va_up f 0 (bar (a 10 k) (a 11 k) lane i N)) a)) : Cs nX12_barred [.ref 136, .int (nI k), .int lane, .int i, .long n] (mM σ f a) Q := by
  refine Cs_in (k := kX12_barred) [some (.ref 136), some (.int (nI k)), some (.int lane), some (.int i), some (.long n), none] rfl rfl ?_
  have e0 : (0 : Int32).toInt = 0 := rfl
  have e1 : (0 : Int64).toInt = 0 := rfl
  -- the second test and what follows
  have rest : ¬ (0 ≤ (a 10 k).toInt ∧ ¬ a 11 k = lane) → Ev kX12_barred (25, [some (.ref 136), some (.int (nI k)), some (.int lane), some (.int i), some (.long n), none], [], mM σ f a) Q := by
    intro hc
    repeat refine Ev_go rfl ?_
    refine Ev_ial k rfl rfl rfl hk (by decide) ?_
    repeat refine Ev_go rfl ?_
    refine Ev_if (fun g1 => ?_) (fun g1 => ?_)
    · rw [fa_le] at g1
      repeat refine Ev_go rfl ?_
      refine Ev_if (fun g2 => ?_) (fun g2 => ?_)
      · have g2 : ¬ lg_cmp n 0 < 0 := by rw [fa_lt]; rw [fa_le] at g2; omega
        rw [cmp_lt] at g2
        repeat refine Ev_go rfl ?_
        refine Ev_ial k rfl rfl rfl hk (by decide) ?_
        refine Ev_ca rfl ?_
        refine m_isBeyond i (a 10 k) N hn hN ?_
        repeat refine Ev_go rfl ?_
        refine Ev_ifb (fun g3 => ?_) (fun g3 => ?_)
        · repeat refine Ev_go rfl ?_
          refine Ev_rt rfl ?_
          refine h0 ?_
          unfold bar
          rw [if_neg hc, if_neg (by omega), if_neg (by omega), if_neg g3]
        · repeat refine Ev_go rfl ?_
          refine Ev_ca rfl ?_
          refine m_failed 3 ?_
          repeat refine Ev_go rfl ?_
          refine Ev_rt rfl ?_
          have hb : bar (a 10 k) (a 11 k) lane i N = 3 := by
            unfold bar
            rw [if_neg hc, if_neg (by omega), if_neg (by omega), if_pos g3]
          rw [hb] at h1
          exact h1 (by decide)
      · have g2 : lg_cmp n 0 < 0 := by rw [fa_lt]; rw [fa_le] at g2; omega
        rw [cmp_lt] at g2
        repeat refine Ev_go rfl ?_
        refine Ev_ca rfl ?_
        refine m_failed 4 ?_
        refine Ev_rt rfl ?_
        have hb : bar (a 10 k) (a 11 k) lane i N = 4 := by
          unfold bar
          rw [if_neg hc, if_neg (by omega), if_pos (by omega)]
        rw [hb] at h1
        exact h1 (by decide)
    · rw [fa_le] at g1
      repeat refine Ev_go rfl ?_
      refine Ev_ca rfl ?_
      refine m_failed 1 ?_
      refine Ev_rt rfl ?_
      have hb : bar (a 10 k) (a 11 k) lane i N = 1 := by
        unfold bar
        rw [if_neg hc, if_pos (by omega)]
      rw [hb] at h1
      exact h1 (by decide)
  repeat refine Ev_go rfl ?_
  refine Ev_ial k rfl rfl rfl hk (by decide) ?_
  repeat refine Ev_go rfl ?_
  refine Ev_if (fun g1 => ?_) (fun g1 => ?_)
  · rw [fa_lt] at g1
    exact rest (by omega)
  · rw [fa_lt] at g1
    repeat refine Ev_go rfl ?_
    refine Ev_ial k rfl rfl rfl hk (by decide) ?_
    repeat refine Ev_go rfl ?_
    refine Ev_if (fun g2 => ?_) (fun g2 => ?_)
    · exact rest (fun e => e.2 g2)
    · repeat refine Ev_go rfl ?_
      refine Ev_ca rfl ?_
      refine m_failed 2 ?_
      refine Ev_rt rfl ?_
      have hb : bar (a 10 k) (a 11 k) lane i N = 2 := by
        unfold bar
        rw [if_pos ⟨by omega, g2⟩]
      rw [hb] at h1
      exact h1 (by decide)
/-- d places from b on become 0 -/
def zf (g : Nat → Int32) (b d : Nat) : Nat → Int32 := fun z => if b ≤ z ∧ z < b + d then 0 else g z
theorem zf_0 (g : Nat → Int32) (b : Nat) : zf g b 0 = g := by
  funext z
  unfold zf
  rw [if_neg (by omega)]
theorem zf_s (g : Nat → Int32) (b d : Nat) : zf (upd g b 0) (b + 1) d = zf g b (d + 1) := by
  funext z
  unfold zf upd
  by_cases h : z = b
  · rw [if_neg (by omega), if_pos h, if_pos (by omega)]
  · by_cases h2 : b ≤ z ∧ z < b + (d + 1)
    · rw [if_pos (by omega), if_pos h2]
    · rw [if_neg (by omega), if_neg h, if_neg h2]
theorem ix60 (k i : Nat) : 60 * nI k + nI i = nI (60 * k + i) := by rw [fa_lit 60, pk_mul, nI_add]
theorem m_sheet_loop {σ : kt_H} {f : Nat → Int32} {a : Nat → Nat → Int32} {Q : Option Value → kt_H → Prop} (k n : Nat) (hk : k < 4) (hn : n ≤ 60) (lane : Int32) : ∀ (d i : Nat) (g : Nat → Int32), i + d = n → Ev kX12_sheet (85, [some (.ref 136), some (.int (nI k)), some (.int lane), some (.int (nI n)), some (.int (nI n))], [], mM σ f (va_up a 12 (zf g (60 * k + i) d))) Q → Ev kX12_sheet (if nI n ≤ nI i then 85 else 66, [some (.ref 136), some (.int (nI k)), some (.int lane), some (.int (nI n)), some (.int (nI i))], [], mM σ f (va_up a 12 g)) Q := by
  intro d
  induction d with
  | zero =>
    intro i g hi h
    rw [zf_0] at h
    have hin : i = n := by omega
    subst hin
    refine Ev_if (fun g1 => h) (fun g1 => absurd (nI_le (Nat.le_refl i) (by omega)) g1)
  | succ d ih =>
    intro i g hi h
    refine Ev_if (fun g1 => absurd g1 (nI_ge (by omega) (by omega))) (fun g1 => ?_)
    repeat refine Ev_go rfl ?_
    refine Ev_mstu 12 (60 * k + i) rfl (fun _ => rfl) (ix60 k i) (by omega) (by decide) ?_
    repeat refine Ev_go rfl ?_
    rw [nI_1]
    refine ih (i + 1) _ (by omega) ?_
    rw [← Nat.add_assoc, zf_s]
    exact h
theorem m_sheet {σ : kt_H} {f : Nat → Int32} {a : Nat → Nat → Int32} {Q : Option Value → kt_H → Prop} (k lane n : Int32)
    (h1 : ¬ (0 ≤ k.toInt ∧ k.toInt ≤ 3) → Q (some (.int (-1))) (mM σ (va_up f 0 0) a))
    (h2 : (0 ≤ k.toInt ∧ k.toInt ≤ 3) → (¬ (0 ≤ lane.toInt ∧ lane.toInt ≤ 2) ∨ 60 < n.toInt) → Q (some (.int (-2))) (mM σ (va_up f 0 0) a))
    (h3 : (0 ≤ k.toInt ∧ k.toInt ≤ 3) → ¬ (¬ (0 ≤ lane.toInt ∧ lane.toInt ≤ 2) ∨ 60 < n.toInt) → n.toInt < 0 → Q (some (.int (-14))) (mM σ (va_up f 0 4) a))
    (h4 : ∀ k' n' : Nat, k' < 4 → n' ≤ 60 → k = nI k' → n = nI n' → (0 ≤ lane.toInt ∧ lane.toInt ≤ 2) → Q (some (.int 1)) (mM σ (va_up f 0 0) (va_up (va_up (va_up a 10 (upd (a 10) k' n)) 11 (upd (a 11) k' lane)) 12 (zf (a 12) (60 * k') n')))) : Cs nX12_sheet [.ref 136, .int k, .int lane, .int n] (mM σ f a) Q := by
  refine Cs_in (k := kX12_sheet) [some (.ref 136), some (.int k), some (.int lane), some (.int n), none] rfl rfl ?_
  have e0 : (0 : Int32).toInt = 0 := rfl
  have e60 : (60 : Int32).toInt = 60 := rfl
  repeat refine Ev_go rfl ?_
  refine Ev_ca rfl ?_
  refine m_noSheet k ?_
  repeat refine Ev_go rfl ?_
  refine Ev_ifb (fun g1 => ?_) (fun g1 => ?_)
  · have g1 := Decidable.not_not.mp g1
    repeat refine Ev_go rfl ?_
    refine Ev_ca rfl ?_
    refine m_isLane lane ?_
    repeat refine Ev_go rfl ?_
    refine Ev_ifb (fun g2 => ?_) (fun g2 => ?_)
    · repeat refine Ev_go rfl ?_
      refine Ev_ca rfl ?_
      refine m_refused _ ?_
      refine Ev_rt rfl ?_
      exact h2 g1 (Or.inl g2)
    · repeat refine Ev_go rfl ?_
      refine Ev_if (fun g3 => ?_) (fun g3 => ?_)
      · rw [fa_le] at g3
        repeat refine Ev_go rfl ?_
        refine Ev_if (fun g4 => ?_) (fun g4 => ?_)
        · rw [fa_le] at g4
          obtain ⟨k', a1, -, rfl⟩ := nI_ex 3 g1
          obtain ⟨n', b1, -, rfl⟩ := nI_ex (x := n) (A := 0) (B := 60) 60 ⟨by omega, by omega⟩
          repeat refine Ev_go rfl ?_
          refine Ev_mst 10 k' rfl (fun _ => rfl) rfl (by omega) (by decide) ?_
          repeat refine Ev_go rfl ?_
          refine Ev_mst 11 k' rfl (fun _ => rfl) rfl (by omega) (by decide) ?_
          repeat refine Ev_go rfl ?_
          have hloop := m_sheet_loop (σ := σ) (f := f) (a := va_up (va_up a 10 (upd (a 10) k' (nI n'))) 11 (upd (a 11) k' lane)) (Q := Q) k' n' (by omega) b1 lane n' 0 (a 12) (by omega)
          rw [show va_up (va_up (va_up a 10 (upd (a 10) k' (nI n'))) 11 (upd (a 11) k' lane)) 12 (a 12) = va_up (va_up a 10 (upd (a 10) k' (nI n'))) 11 (upd (a 11) k' lane) from va_up_id (va_up (va_up a 10 (upd (a 10) k' (nI n'))) 11 (upd (a 11) k' lane)) 12] at hloop
          refine hloop ?_
          repeat refine Ev_go rfl ?_
          refine Ev_ca rfl ?_
          refine m_refused _ ?_
          refine Ev_rt rfl ?_
          exact h4 k' n' (by omega) b1 rfl rfl g2
        · rw [fa_le] at g4
          repeat refine Ev_go rfl ?_
          refine Ev_ca rfl ?_
          refine m_failed _ ?_
          refine Ev_rt rfl ?_
          exact h3 g1 (by omega) (by omega)
      · rw [fa_le] at g3
        repeat refine Ev_go rfl ?_
        refine Ev_ca rfl ?_
        refine m_refused _ ?_
        refine Ev_rt rfl ?_
        exact h2 g1 (Or.inr (by omega))
  · repeat refine Ev_go rfl ?_
    refine Ev_ca rfl ?_
    refine m_refused _ ?_
    refine Ev_rt rfl ?_
    exact h1 g1
