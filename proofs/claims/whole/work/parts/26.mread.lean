/-! the model: a law's text is read -/
abbrev lttab : List Nat := [98, 94, 110, 100, 110, 110, 110, 102, 110, 110, 107, 92, 96, 110, 110, 110, 110, 110, 104]
def ltI (x : Int32) : Int32 := if x = 76 then 0 else if x = 66 then 1 else if x = 77 then 2 else if x = 65 then 3 else if x = 68 then 4 else if x = 72 then 5 else if x = 83 then 6 else if x = 75 then 7 else -9
theorem sw_lt (x : Int32) : kt_sw 65 83 lttab 110 x = if x = 76 then 92 else if x = 66 then 94 else if x = 77 then 96 else if x = 65 then 98 else if x = 68 then 100 else if x = 72 then 102 else if x = 83 then 104 else if x = 75 then 107 else 110 := by
  by_cases h : 65 ≤ x.toInt ∧ x.toInt ≤ 83
  · obtain ⟨j, a1, a2, rfl⟩ := nI_ex 83 h
    have : j = 65 ∨ j = 66 ∨ j = 67 ∨ j = 68 ∨ j = 69 ∨ j = 70 ∨ j = 71 ∨ j = 72 ∨ j = 73 ∨ j = 74 ∨ j = 75 ∨ j = 76 ∨ j = 77 ∨ j = 78 ∨ j = 79 ∨ j = 80 ∨ j = 81 ∨ j = 82 ∨ j = 83 := by omega
    rcases this with rfl | rfl | rfl | rfl | rfl | rfl | rfl | rfl | rfl | rfl | rfl | rfl | rfl | rfl | rfl | rfl | rfl | rfl | rfl <;> decide
  · unfold kt_sw
    rw [if_pos (by omega)]
    have ne : ∀ y : Int32, 65 ≤ y.toInt → y.toInt ≤ 83 → ¬ x = y := fun y h1 h2 e => h (by rw [e]; exact ⟨h1, h2⟩)
    rw [if_neg (ne 76 (by decide) (by decide)), if_neg (ne 66 (by decide) (by decide)), if_neg (ne 77 (by decide) (by decide)), if_neg (ne 65 (by decide) (by decide)), if_neg (ne 68 (by decide) (by decide)), if_neg (ne 72 (by decide) (by decide)), if_neg (ne 83 (by decide) (by decide)), if_neg (ne 75 (by decide) (by decide))]
theorem ltI_c (x : Int32) : ltI x = -9 ∨ 0 ≤ (ltI x).toInt ∧ (ltI x).toInt ≤ 7 := by
  unfold ltI
  repeat' split
  all_goals first | exact Or.inl rfl | exact Or.inr (by decide)
theorem m_letterBy {σ : kt_H} {Q : Option Value → kt_H → Prop} (x : Int32) (hq : Q (some (.int (ltI x))) σ) : Cs nX12_letterBy [.int x] σ Q := by
  unfold ltI at hq
  refine Cs_in (k := kX12_letterBy) [some (.int x)] rfl rfl ?_
  iterate 2 refine Ev_go rfl ?_
  rw [show kt_sw 65 83 [98, 94, 110, 100, 110, 110, 110, 102, 110, 110, 107, 92, 96, 110, 110, 110, 110, 110, 104] 110 x = _ from sw_lt x]
  refine Ev_if (fun g => ?_) (fun g => ?_)
  · rw [if_pos g] at hq; repeat refine Ev_go rfl ?_; refine Ev_rt rfl ?_; exact hq
  rw [if_neg g] at hq
  refine Ev_if (fun g => ?_) (fun g => ?_)
  · rw [if_pos g] at hq; repeat refine Ev_go rfl ?_; refine Ev_rt rfl ?_; exact hq
  rw [if_neg g] at hq
  refine Ev_if (fun g => ?_) (fun g => ?_)
  · rw [if_pos g] at hq; repeat refine Ev_go rfl ?_; refine Ev_rt rfl ?_; exact hq
  rw [if_neg g] at hq
  refine Ev_if (fun g => ?_) (fun g => ?_)
  · rw [if_pos g] at hq; repeat refine Ev_go rfl ?_; refine Ev_rt rfl ?_; exact hq
  rw [if_neg g] at hq
  refine Ev_if (fun g => ?_) (fun g => ?_)
  · rw [if_pos g] at hq; repeat refine Ev_go rfl ?_; refine Ev_rt rfl ?_; exact hq
  rw [if_neg g] at hq
  refine Ev_if (fun g => ?_) (fun g => ?_)
  · rw [if_pos g] at hq; repeat refine Ev_go rfl ?_; refine Ev_rt rfl ?_; exact hq
  rw [if_neg g] at hq
  refine Ev_if (fun g => ?_) (fun g => ?_)
  · rw [if_pos g] at hq; repeat refine Ev_go rfl ?_; refine Ev_rt rfl ?_; exact hq
  rw [if_neg g] at hq
  refine Ev_if (fun g => ?_) (fun g => ?_)
  · rw [if_pos g] at hq; repeat refine Ev_go rfl ?_; refine Ev_rt rfl ?_; exact hq
  rw [if_neg g] at hq
  repeat refine Ev_go rfl ?_
  refine Ev_rt rfl ?_
  exact hq
section RD
variable {σ : kt_H} {f : FF} {a : AA} {Q : Option Value → kt_H → Prop}
/-- the code at a place of a text of n cells; the digits of a number; a factor; .. or the place of the fault -/
def cd (c : Nat → Int32) (n p : Nat) : Int32 := if p < n then c p else -9
abbrev dgP (x : Int32) : Prop := 48 ≤ x.toInt ∧ x.toInt ≤ 57
def nmI (c : Nat → Int32) (n : Nat) : Nat → Nat → Int32 → Nat × Int32
  | 0, p, v => (p, v)
  | m + 1, p, v => if dgP (cd c n p) then nmI c n m (p + 1) (10 * v + cd c n p - 48) else (p, v)
def nuI (c : Nat → Int32) (n m p : Nat) : Int32 := if p < (nmI c n m p 0).1 then (nmI c n m p 0).2 else -9
def fcI (c : Nat → Int32) (n p : Nat) : Sum Nat (Nat × Int32) := if 0 ≤ ltI (cd c n p) then .inr (p + 1, ltI (cd c n p)) else if nuI c n 2 p < 1 then .inl p else .inr ((nmI c n 2 p 0).1, 100 + nuI c n 2 p)
theorem va_up_uu {α : Type} (f : Nat → α) (k : Nat) (x y : α) : va_up (va_up f k x) k y = va_up f k y := by
  funext j; by_cases e : j = k
  · subst e; rw [va_up_s, va_up_s]
  · rw [va_up_n _ _ e, va_up_n _ _ e, va_up_n _ _ e]
theorem nmI_le (c : Nat → Int32) (n : Nat) : ∀ (m p : Nat) (v : Int32), p ≤ (nmI c n m p v).1 ∧ (nmI c n m p v).1 ≤ p + m := by
  intro m
  induction m with
  | zero => intro p v; exact ⟨Nat.le_refl _, Nat.le_refl _⟩
  | succ m ih =>
    intro p v
    unfold nmI
    split
    · have := ih (p + 1) (10 * v + cd c n p - 48); omega
    · exact ⟨Nat.le_refl _, by omega⟩
theorem m_codeAt {c : Nat → Int32} (s n p : Nat) (hc : (fun x => a 12 (s + x)) = c) (hs : s + n ≤ 240) (hp : p < 1000) (hq : Q (some (.int (cd c n p))) (mM σ (va_up f 13 (nI p)) a)) : Cs nX12_codeAt [.ref 136, .int (nI s), .int (nI n)] (mM σ (va_up f 13 (nI p)) a) Q := by
  subst hc
  unfold cd at hq
  refine Cs_in (k := kX12_codeAt) [some (.ref 136), some (.int (nI s)), some (.int (nI n))] rfl rfl ?_
  repeat refine Ev_go rfl ?_
  refine Ev_if (fun g => ?_) (fun g => ?_)
  · have g : nI n ≤ nI p := g
    rw [if_neg (fun e => absurd g (nI_ge e (by omega)))] at hq
    repeat refine Ev_go rfl ?_
    refine Ev_rt rfl ?_
    exact hq
  · have g : ¬ nI n ≤ nI p := g
    have e : p < n := by
      rcases Nat.lt_or_ge p n with e | e
      · exact e
      · exact absurd (nI_le e (by omega)) g
    rw [if_pos e] at hq
    repeat refine Ev_go rfl ?_
    refine Ev_ial (s + p) rfl rfl (nI_add s p) (by omega) (by decide) ?_
    repeat refine Ev_go rfl ?_
    refine Ev_rt rfl ?_
    exact hq
theorem m_takes {c : Nat → Int32} (s n p : Nat) (hc : (fun x => a 12 (s + x)) = c) (hs : s + n ≤ 240) (hp : p < 1000) (x : Int32) (h1 : cd c n p = x → Q (some (.int 1)) (mM σ (va_up f 13 (nI (p + 1))) a)) (h0 : ¬ cd c n p = x → Q (some (.int 0)) (mM σ (va_up f 13 (nI p)) a)) : Cs nX12_takes [.ref 136, .int x, .int (nI s), .int (nI n)] (mM σ (va_up f 13 (nI p)) a) Q := by
  refine Cs_in (k := kX12_takes) [some (.ref 136), some (.int x), some (.int (nI s)), some (.int (nI n)), none] rfl rfl ?_
  repeat refine Ev_go rfl ?_
  refine Ev_ca rfl ?_
  refine m_codeAt s n p hc hs hp ?_
  repeat refine Ev_go rfl ?_
  refine Ev_if (fun g => ?_) (fun g => ?_)
  · repeat refine Ev_go rfl ?_
    refine Ev_mo (va_up f 13 (nI (p + 1))) ?_ (by rw [← nI_1]; rfl)
    repeat refine Ev_go rfl ?_
    refine Ev_rt rfl ?_
    exact h1 g
  · repeat refine Ev_go rfl ?_
    refine Ev_mo (va_up f 13 (nI p)) ?_ (by rw [Int32.add_zero])
    repeat refine Ev_go rfl ?_
    refine Ev_rt rfl ?_
    exact h0 g
theorem m_number_loop {c : Nat → Int32} (s n : Nat) (hc : (fun x => a 12 (s + x)) = c) (hs : s + n ≤ 240) (p0 m : Nat) (hp : p0 < 900) (hm : m ≤ 3) : ∀ (e p : Nat) (v : Int32), p + e = p0 + m → Ev kX12_number (69, [some (.ref 136), some (.int (nI m)), some (.int (nI s)), some (.int (nI n)), some (.int (nI p0)), some (.int (nmI c n e p v).2)], [], mM σ (va_up f 13 (nI (nmI c n e p v).1)) a) Q → Ev kX12_number (if nI p0 + nI m ≤ nI p then 69 else 20, [some (.ref 136), some (.int (nI m)), some (.int (nI s)), some (.int (nI n)), some (.int (nI p0)), some (.int v)], [], mM σ (va_up f 13 (nI p)) a) Q := by
  intro e
  induction e with
  | zero =>
    intro p v hx h
    rw [nI_add]
    exact Ev_if (fun _ => h) (fun g1 => absurd (nI_le (by omega) (by omega)) g1)
  | succ e ih =>
    intro p v hx h
    rw [nI_add]
    refine Ev_if (fun g1 => absurd g1 (nI_ge (by omega) (by omega))) (fun _ => ?_)
    unfold nmI at h
    repeat refine Ev_go rfl ?_
    refine Ev_ca rfl ?_
    refine m_codeAt s n p hc hs (by omega) ?_
    repeat refine Ev_go rfl ?_
    refine Ev_ca rfl ?_
    refine m_in (cd c n p).toInt 48 57 (fa_wide _) rfl rfl ?_
    repeat refine Ev_go rfl ?_
    refine Ev_ifb (fun g => ?_) (fun g => ?_)
    · rw [if_neg g] at h
      exact h
    · rw [if_pos g] at h
      repeat refine Ev_go rfl ?_
      refine Ev_ca rfl ?_
      refine m_codeAt s n p hc hs (by omega) ?_
      repeat refine Ev_go rfl ?_
      refine Ev_mo (va_up f 13 (nI (p + 1))) ?_ (by rw [← nI_1]; rfl)
      repeat refine Ev_go rfl ?_
      rw [show va_up f 13 (nI p) 13 + 1 = nI (p + 1) from nI_1 p]
      exact ih (p + 1) _ (by omega) h
theorem m_number {c : Nat → Int32} (s n p m : Nat) (hc : (fun x => a 12 (s + x)) = c) (hs : s + n ≤ 240) (hp : p < 900) (hm : m ≤ 3) (hq : Q (some (.int (nuI c n m p))) (mM σ (va_up f 13 (nI (nmI c n m p 0).1)) a)) : Cs nX12_number [.ref 136, .int (nI m), .int (nI s), .int (nI n)] (mM σ (va_up f 13 (nI p)) a) Q := by
  unfold nuI at hq
  have hl := nmI_le c n m p 0
  refine Cs_in (k := kX12_number) [some (.ref 136), some (.int (nI m)), some (.int (nI s)), some (.int (nI n)), none, none] rfl rfl ?_
  repeat refine Ev_go rfl ?_
  refine m_number_loop s n hc hs p m hp hm m p 0 rfl ?_
  generalize nmI c n m p 0 = r at hq hl ⊢
  obtain ⟨P, V⟩ := r
  repeat refine Ev_go rfl ?_
  refine Ev_if (fun g => ?_) (fun g => ?_)
  · have g : nI P ≤ nI p := g
    rw [if_neg (fun e => absurd g (nI_ge e (by omega)))] at hq
    repeat refine Ev_go rfl ?_
    refine Ev_rt rfl ?_
    exact hq
  · have g : ¬ nI P ≤ nI p := g
    have e : p < P := by
      rcases Nat.lt_or_ge p P with e | e
      · exact e
      · exact absurd (nI_le e (by omega)) g
    rw [if_pos e] at hq
    repeat refine Ev_go rfl ?_
    refine Ev_rt rfl ?_
    exact hq
theorem m_factor {c : Nat → Int32} (s n p : Nat) (hc : (fun x => a 12 (s + x)) = c) (hs : s + n ≤ 240) (hp : p < 900) (h0 : ∀ e, fcI c n p = .inl e → Q (some (.int (-9))) (mM σ (va_up f 13 (nI e)) a)) (h1 : ∀ p' x, fcI c n p = .inr (p', x) → Q (some (.int x)) (mM σ (va_up f 13 (nI p')) a)) : Cs nX12_factor [.ref 136, .int (nI s), .int (nI n)] (mM σ (va_up f 13 (nI p)) a) Q := by
  unfold fcI at h0 h1
  refine Cs_in (k := kX12_factor) [some (.ref 136), some (.int (nI s)), some (.int (nI n)), none, none, none] rfl rfl ?_
  repeat refine Ev_go rfl ?_
  refine Ev_ca rfl ?_
  refine m_codeAt s n p hc hs (by omega) ?_
  repeat refine Ev_go rfl ?_
  refine Ev_ca rfl ?_
  refine m_letterBy _ ?_
  repeat refine Ev_go rfl ?_
  refine Ev_if (fun g => ?_) (fun g => ?_)
  · rw [if_neg (fun e => by rw [fa_lt] at g; rw [fa_le] at e; omega)] at h0 h1
    repeat refine Ev_go rfl ?_
    refine Ev_ca rfl ?_
    refine m_number s n p 2 hc hs hp (by decide) ?_
    repeat refine Ev_go rfl ?_
    refine Ev_if (fun g2 => ?_) (fun g2 => ?_)
    · have g3 : ¬ nuI c n 2 p < 1 := fun e => by rw [fa_lt] at e; rw [fa_le] at g2; omega
      rw [if_neg g3] at h0 h1
      repeat refine Ev_go rfl ?_
      refine Ev_if (fun _ => ?_) (fun g4 => absurd g2 g4)
      repeat refine Ev_go rfl ?_
      refine Ev_rt rfl ?_
      exact h1 _ _ rfl
    · have g3 : nuI c n 2 p < 1 := by rw [fa_lt]; rw [fa_le] at g2; omega
      rw [if_pos g3] at h0 h1
      repeat refine Ev_go rfl ?_
      refine Ev_mo (va_up f 13 (nI p)) ?_ rfl
      repeat refine Ev_go rfl ?_
      refine Ev_if (fun g4 => absurd g4 g2) (fun _ => ?_)
      repeat refine Ev_go rfl ?_
      refine Ev_rt rfl ?_
      exact h0 _ rfl
  · rw [if_pos (by rw [fa_lt] at g; rw [fa_le]; omega)] at h0 h1
    repeat refine Ev_go rfl ?_
    refine Ev_mo (va_up f 13 (nI (p + 1))) ?_ (by rw [← nI_1]; rfl)
    repeat refine Ev_go rfl ?_
    refine Ev_rt rfl ?_
    exact h1 _ _ rfl
end RD
