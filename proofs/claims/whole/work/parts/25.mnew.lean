/-! the model: a new hull -/
section HU
variable {σ : kt_H} {f : FF} {a : AA} {Q : Option Value → kt_H → Prop}
/-- every second of c from s on, laid into g from b on -/
def spr (g c : Nat → Int32) (b s n : Nat) : Nat → Int32 := fun z => if b ≤ z ∧ z < b + n then c (s + 2 * (z - b)) else g z
theorem spr_0 (g c : Nat → Int32) (b s : Nat) : spr g c b s 0 = g := by
  funext z; unfold spr; rw [if_neg (by omega)]
theorem spr_s (g c : Nat → Int32) (b s n : Nat) : upd (spr g c b s n) (b + n) (c (s + 2 * n)) = spr g c b s (n + 1) := by
  funext z
  by_cases e : z = b + n
  · subst e
    rw [pk_us]; unfold spr
    rw [if_pos (by omega)]
    congr 1; omega
  · rw [pk_un e]; unfold spr
    by_cases h : b ≤ z ∧ z < b + n
    · rw [if_pos h, if_pos (by omega)]
    · rw [if_neg h, if_neg (by omega)]
abbrev pt (x : Int32) : Prop := 1 ≤ x.toInt ∧ x.toInt ≤ 9
/-- the hull that is told: its cells -/
def hlA (a : AA) (h : Nat) (kind n : Int32) (s m : Nat) : AA := va_up (va_up (va_up (va_up a 0 (upd (a 0) h kind)) 1 (upd (a 1) h n)) 2 (spr (a 2) (a 12) (8 * h) s m)) 3 (spr (a 3) (a 12) (8 * h) (s + 1) m)
def sp_hull (f : FF) (a : AA) (kind k lane i n : Int32) : Int32 × FF × AA :=
  if ¬ isK k then (-1, va_up f 0 0, a) else if ¬ is2 kind ∨ ¬ is2 lane then (-2, va_up f 0 0, a)
  else if bar (a 10 (nC k)) (a 11 (nC k)) lane i (2 * n.toInt) ≠ 0 then (-10 - bar (a 10 (nC k)) (a 11 (nC k)) lane i (2 * n.toInt), va_up f 0 (bar (a 10 (nC k)) (a 11 (nC k)) lane i (2 * n.toInt)), a)
  else if ¬ ((1 ≤ n.toInt ∧ n.toInt ≤ 8) ∧ ∀ y, y < 2 * nC n → pt (a 12 (60 * nC k + nC i + y))) then (-2, va_up f 0 0, a)
  else if f 1 = 16 then (-4, va_up f 0 0, a)
  else (f 1, va_up (va_up f 1 (f 1 + 1)) 0 0, hlA a (nC (f 1)) kind n (60 * nC k + nC i) (nC n))
theorem m_hull_1 (P : Prop) [Decidable P] (kind lane o6 : Int32) (k i n : Nat) (hk : k < 4) (hn : n ≤ 30) (hi : i + 2 * n ≤ 60) (hq : ∀ (z : Int32) (o9 : Option Value), z = bI (P ∧ ∀ y, y < 2 * n → pt (a 12 (60 * k + i + y))) → Ev kX12_hull (123, [some (.ref 136), some (.int kind), some (.int (nI k)), some (.int lane), some (.int (nI i)), some (.int (nI n)), some (.int o6), some (.int (60 * nI k + nI i)), some (.int z), o9], [], mM σ f a) Q) : ∀ (e x : Nat) (z : Int32), x + e = 2 * n → z = bI (P ∧ ∀ y, y < x → pt (a 12 (60 * k + i + y))) → Ev kX12_hull (if 2 * nI n ≤ nI x then 123 else 92, [some (.ref 136), some (.int kind), some (.int (nI k)), some (.int lane), some (.int (nI i)), some (.int (nI n)), some (.int o6), some (.int (60 * nI k + nI i)), some (.int z), some (.int (nI x))], [], mM σ f a) Q := by
  intro e
  induction e with
  | zero =>
    intro x z hx hz
    have e : x = 2 * n := by omega
    subst e
    rw [fa_lit 2, pk_mul]
    exact Ev_if (fun _ => hq _ _ hz) (fun g1 => absurd (nI_le (Nat.le_refl _) (by omega)) g1)
  | succ e ih =>
    intro x z hx hz
    rw [fa_lit 2, pk_mul]
    refine Ev_if (fun g1 => absurd g1 (nI_ge (by omega) (by omega))) (fun _ => ?_)
    subst hz
    repeat refine Ev_go rfl ?_
    refine Ev_ifb (fun g => ?_) (fun g => ?_)
    · exact hq _ _ (by rw [bI_f g, bI_f (fun w => g ⟨w.1, fun y hy => w.2 y (by omega)⟩)])
    repeat refine Ev_go rfl ?_
    refine Ev_ial (60 * k + i + x) rfl rfl (ix60' k i x) (by omega) (by decide) ?_
    repeat refine Ev_go rfl ?_
    refine Ev_ca rfl ?_
    refine m_in (a 12 (60 * k + i + x)).toInt 1 9 (fa_wide _) rfl rfl ?_
    repeat refine Ev_go rfl ?_
    rw [nI_1]
    have := ih (x + 1) (bI (1 ≤ (a 12 (60 * k + i + x)).toInt ∧ (a 12 (60 * k + i + x)).toInt ≤ 9)) (by omega) ?_
    · rw [fa_lit 2, pk_mul] at this ⊢
      exact this
    · by_cases w : pt (a 12 (60 * k + i + x))
      · rw [bI_t w, bI_t ⟨g.1, fun y hy => by
          by_cases e : y = x
          · rw [e]; exact w
          · exact g.2 y (by omega)⟩]
      · rw [bI_f w, bI_f (fun z => w (z.2 x (by omega)))]
theorem hlA_s (a : AA) (h : Nat) (kind n : Int32) (s m : Nat) : va_up (va_up (hlA a h kind n s m) 2 (spr (a 2) (a 12) (8 * h) s (m + 1))) 3 (spr (a 3) (a 12) (8 * h) (s + 1) (m + 1)) = hlA a h kind n s (m + 1) := by
  unfold hlA
  funext q
  by_cases e3 : q = 3
  · subst e3; rw [va_up_s, va_up_s]
  rw [va_up_n _ _ e3, va_up_n _ _ e3]
  by_cases e2 : q = 2
  · subst e2; rw [va_up_s, va_up_s]
  rw [va_up_n _ _ e2, va_up_n _ _ e3, va_up_n _ _ e2, va_up_n _ _ e2]
theorem m_hull_2 (h : Nat) (hh : h < 16) (hf : f 1 = nI h) (kind lane o6 o8 : Int32) (k i n : Nat) (hk : k < 4) (hn : n ≤ 8) (hi : i + 2 * n ≤ 60) (hq : Ev kX12_hull (244, [some (.ref 136), some (.int kind), some (.int (nI k)), some (.int lane), some (.int (nI i)), some (.int (nI n)), some (.int o6), some (.int (60 * nI k + nI i)), some (.int o8), some (.int (nI n))], [], mM σ f (hlA a h kind (nI n) (60 * k + i) n)) Q) : ∀ (e x : Nat), x + e = n → Ev kX12_hull (if nI n ≤ nI x then 244 else 182, [some (.ref 136), some (.int kind), some (.int (nI k)), some (.int lane), some (.int (nI i)), some (.int (nI n)), some (.int o6), some (.int (60 * nI k + nI i)), some (.int o8), some (.int (nI x))], [], mM σ f (hlA a h kind (nI n) (60 * k + i) x)) Q := by
  intro e
  induction e with
  | zero =>
    intro x hx
    have e : x = n := by omega
    subst e
    exact Ev_if (fun _ => hq) (fun g1 => absurd (nI_le (Nat.le_refl _) (by omega)) g1)
  | succ e ih =>
    intro x hx
    refine Ev_if (fun g1 => absurd g1 (nI_ge (by omega) (by omega))) (fun _ => ?_)
    repeat refine Ev_go rfl ?_
    refine Ev_ial (60 * k + i + 2 * x) rfl rfl (by rw [fa_lit 2, pk_mul, ix60']) (by omega) (by decide) ?_
    refine Ev_mst 2 (8 * h + x) rfl (fun _ => rfl) (by rw [← ix8, ← hf]) (by omega) (by decide) ?_
    repeat refine Ev_go rfl ?_
    refine Ev_ial (60 * k + i + 2 * x + 1) rfl rfl (by rw [fa_lit 2, pk_mul, ix60', nI_1]) (by omega) (by decide) ?_
    refine Ev_mst 3 (8 * h + x) rfl (fun _ => rfl) (by rw [← ix8, ← hf]) (by omega) (by decide) ?_
    have e1 : upd (hlA a h kind (nI n) (60 * k + i) x 2) (8 * h + x) (hlA a h kind (nI n) (60 * k + i) x 12 (60 * k + i + 2 * x)) = spr (a 2) (a 12) (8 * h) (60 * k + i) (x + 1) := spr_s (a 2) (a 12) (8 * h) (60 * k + i) x
    have e2 : upd (hlA a h kind (nI n) (60 * k + i) x 3) (8 * h + x) (hlA a h kind (nI n) (60 * k + i) x 12 (60 * k + i + 2 * x + 1)) = spr (a 3) (a 12) (8 * h) (60 * k + i + 1) (x + 1) := by
      rw [show 60 * k + i + 2 * x + 1 = 60 * k + i + 1 + 2 * x by omega]
      exact spr_s (a 3) (a 12) (8 * h) (60 * k + i + 1) x
    rw [va_up_n (k := 2) _ _ (show (12 : Nat) ≠ 2 by decide), va_up_n (k := 2) _ _ (show (3 : Nat) ≠ 2 by decide), e1, e2, hlA_s]
    repeat refine Ev_go rfl ?_
    rw [nI_1]
    exact ih (x + 1) (by omega)
theorem bar_c (sz ln lane i : Int32) (N : Int) : bar sz ln lane i N = 0 ∨ bar sz ln lane i N = 1 ∨ bar sz ln lane i N = 2 ∨ bar sz ln lane i N = 3 ∨ bar sz ln lane i N = 4 := by
  unfold bar
  split
  · exact Or.inr (Or.inr (Or.inl rfl))
  split
  · exact Or.inr (Or.inl rfl)
  split
  · exact Or.inr (Or.inr (Or.inr (Or.inr rfl)))
  split
  · exact Or.inr (Or.inr (Or.inr (Or.inl rfl)))
  exact Or.inl rfl
theorem dbl_wide (n : Int32) : (2 * n.toInt64).toInt = 2 * n.toInt := by
  have e2 : (2 : Int64).toInt = 2 := rfl
  have h1 := Int32.toInt_lt n
  have h2 := Int32.le_toInt n
  rw [fb_mulL (by rw [e2, fa_wide]; omega) (by rw [e2, fa_wide]; omega), e2, fa_wide]
theorem M_hull (hI : Inv f a) (kind k lane i n : Int32) (hq : Q (some (.int (sp_hull f a kind k lane i n).1)) (mM σ (sp_hull f a kind k lane i n).2.1 (sp_hull f a kind k lane i n).2.2)) : Cs nX12_hull [.ref 136, .int kind, .int k, .int lane, .int i, .int n] (mM σ f a) Q := by
  unfold sp_hull at hq
  refine Cs_in (k := kX12_hull) [some (.ref 136), some (.int kind), some (.int k), some (.int lane), some (.int i), some (.int n), none, none, none, none] rfl rfl ?_
  repeat refine Ev_go rfl ?_
  refine Ev_ca rfl ?_
  refine m_noSheet k ?_
  repeat refine Ev_go rfl ?_
  refine Ev_ifb (fun g1 => ?_) (fun g1 => ?_)
  rotate_left
  · rw [if_pos g1] at hq
    repeat refine Ev_go rfl ?_
    refine Ev_ca rfl ?_
    refine m_refused _ ?_
    refine Ev_rt rfl ?_
    exact hq
  have g1 := Decidable.not_not.mp g1
  rw [if_neg (fun e => e g1)] at hq
  obtain ⟨k', a1, -, rfl⟩ := nI_ex 3 g1
  simp only [nC, nI_clamp (show k' < 2 ^ 31 by omega)] at hq
  have bad : (¬ is2 kind ∨ ¬ is2 lane) → Ev kX12_hull (27, [some (.ref 136), some (.int kind), some (.int (nI k')), some (.int lane), some (.int i), some (.int n), none, none, none, none], [], mM σ f a) Q := by
    intro hb
    rw [if_pos hb] at hq
    repeat refine Ev_go rfl ?_
    refine Ev_ca rfl ?_
    refine m_refused _ ?_
    refine Ev_rt rfl ?_
    exact hq
  repeat refine Ev_go rfl ?_
  refine Ev_ca rfl ?_
  refine m_isKind kind ?_
  repeat refine Ev_go rfl ?_
  refine Ev_ifb (fun g2 => bad (Or.inl g2)) (fun g2 => ?_)
  repeat refine Ev_go rfl ?_
  refine Ev_ca rfl ?_
  refine m_isLane lane ?_
  repeat refine Ev_go rfl ?_
  refine Ev_ifb (fun g3 => bad (Or.inr g3)) (fun g3 => ?_)
  rw [if_neg (fun e => e.elim (fun z => z g2) (fun z => z g3))] at hq
  have n1 := Int32.toInt_lt n
  have n2 := Int32.le_toInt n
  repeat refine Ev_go rfl ?_
  refine Ev_ca rfl ?_
  refine m_barred k' (by omega) lane i (2 * n.toInt) (dbl_wide n) (by omega) (fun g4 => ?_) (fun g4 => ?_)
  rotate_left
  · rw [if_pos g4] at hq
    have hc := bar_c (a 10 k') (a 11 k') lane i (2 * n.toInt)
    generalize bar (a 10 k') (a 11 k') lane i (2 * n.toInt) = b at hc hq g4 ⊢
    have hn : ¬ 0 ≤ -10 - b := by rcases hc with e | e | e | e | e <;> first | exact absurd e g4 | (rw [e]; decide)
    generalize -10 - b = x at hn hq ⊢
    repeat refine Ev_go rfl ?_
    refine Ev_if (fun g => absurd g hn) (fun g => ?_)
    repeat refine Ev_go rfl ?_
    refine Ev_rt rfl ?_
    exact hq
  rw [if_neg (fun e => e g4)] at hq
  obtain ⟨b1, b2⟩ : (0 ≤ i.toInt ∧ i.toInt ≤ 60) ∧ (0 ≤ n.toInt ∧ i.toInt + 2 * n.toInt ≤ 60) := by
    have := (hI.2.2.2 k' (by omega)).1
    unfold bar at g4
    split at g4
    · exact absurd g4 (by decide)
    split at g4
    · exact absurd g4 (by decide)
    split at g4
    · exact absurd g4 (by decide)
    split at g4
    · exact absurd g4 (by decide)
    omega
  obtain ⟨i', c1, c2, rfl⟩ := nI_ex (x := i) 60 b1
  obtain ⟨n', c3, c4, rfl⟩ := nI_ex (x := n) (A := 0) (B := 30) 30 ⟨by omega, by omega⟩
  simp only [nI_clamp (show i' < 2 ^ 31 by omega), nI_clamp (show n' < 2 ^ 31 by omega)] at hq
  repeat refine Ev_go rfl ?_
  refine Ev_ca rfl ?_
  refine m_in (nI n').toInt 1 8 (fa_wide _) rfl rfl ?_
  repeat refine Ev_go rfl ?_
  refine m_hull_1 (1 ≤ (nI n').toInt ∧ (nI n').toInt ≤ 8) _ _ _ k' i' n' (by omega) (by omega) (by omega) (fun z o9 hz => ?_) (2 * n') 0 _ (by omega) ?_
  rotate_left
  · by_cases e : 1 ≤ (nI n').toInt ∧ (nI n').toInt ≤ 8
    · rw [bI_t e, bI_t ⟨e, fun y hy => by omega⟩]
    · rw [bI_f e, bI_f (fun z => e z.1)]
  subst hz
  repeat refine Ev_go rfl ?_
  refine Ev_ifb (fun g5 => ?_) (fun g5 => ?_)
  · rw [if_pos g5] at hq
    repeat refine Ev_go rfl ?_
    refine Ev_ca rfl ?_
    refine m_refused _ ?_
    refine Ev_rt rfl ?_
    exact hq
  rw [if_neg (fun e => e g5)] at hq
  repeat refine Ev_go rfl ?_
  refine Ev_if (fun g6 => ?_) (fun g6 => ?_)
  · rw [if_pos g6] at hq
    repeat refine Ev_go rfl ?_
    refine Ev_ca rfl ?_
    refine m_refused _ ?_
    refine Ev_rt rfl ?_
    exact hq
  rw [if_neg g6] at hq
  obtain ⟨hc, d1, d2, -⟩ := hI.1
  have d3 : hc < 16 := by
    rcases Nat.lt_or_ge hc 16 with e | e
    · exact e
    · have : hc = 16 := by omega
      subst this
      exact absurd d2 g6
  rw [d2] at hq
  simp only [nI_clamp (show hc < 2 ^ 31 by omega)] at hq
  repeat refine Ev_go rfl ?_
  refine Ev_mst 0 hc rfl (fun _ => rfl) d2 (by omega) (by decide) ?_
  repeat refine Ev_go rfl ?_
  refine Ev_mst 1 hc rfl (fun _ => rfl) d2 (by omega) (by decide) ?_
  repeat refine Ev_go rfl ?_
  have e1 : hlA a hc kind (nI n') (60 * k' + i') 0 = va_up (va_up a 0 (upd (a 0) hc kind)) 1 (upd (va_up a 0 (upd (a 0) hc kind) 1) hc (nI n')) := by
    unfold hlA
    rw [spr_0, spr_0]
    rw [show va_up a 0 (upd (a 0) hc kind) 1 = a 1 from rfl]
    funext q
    by_cases e3 : q = 3
    · subst e3; rw [va_up_s, va_up_n _ _ (by decide), va_up_n _ _ (by decide)]
    rw [va_up_n _ _ e3]
    by_cases e2 : q = 2
    · subst e2; rw [va_up_s, va_up_n _ _ (by decide), va_up_n _ _ (by decide)]
    rw [va_up_n _ _ e2]
  rw [← e1]
  refine m_hull_2 hc d3 d2 kind lane _ _ k' i' n' (by omega) (by have := nI_toInt (n := n') (by omega); omega) (by omega) ?_ n' 0 (by omega)
  repeat refine Ev_go rfl ?_
  refine Ev_mo (va_up f 1 (f 1 + 1)) ?_ rfl
  repeat refine Ev_go rfl ?_
  refine Ev_ca rfl ?_
  refine m_refused _ ?_
  refine Ev_rt rfl ?_
  rw [d2, Int32.add_sub_cancel]
  exact hq
end HU
