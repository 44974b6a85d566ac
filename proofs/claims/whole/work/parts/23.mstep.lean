/-! the model: trim, step, a new hull -/
section ST
variable {σ : kt_H} {f : FF} {a : AA} {Q : Option Value → kt_H → Prop}
theorem m_trim_loop {kd : Int32} (h n : Nat) (hh : h < 16) (hn1 : 1 ≤ n) (hn : n ≤ 8) (hf : f 6 = kd) (hf7 : f 7 = nI n) (l what now : Int32) (hq : ∀ a2 : AA, (∀ q, q ≠ 4 → q ≠ 5 → a2 q = a q) → Cur f a2 kd n (fun x => hW a h (n - 1 - x)) (fun x => hD a h (n - 1 - x)) → ∀ x5 : Int32, Ev kX12_trim (115, [some (.ref 136), some (.int (nI h)), some (.int l), some (.int what), some (.int now), some (.int x5)], [], mM σ f a2) Q) : ∀ (e x : Nat) (a2 : AA), x + e = n → (∀ q, q ≠ 4 → q ≠ 5 → a2 q = a q) → (∀ y, y < x → a2 4 y = hW a h (n - 1 - y)) → (∀ y, y < x → a2 5 y = hD a h (n - 1 - y)) → Ev kX12_trim (if f 7 ≤ nI x then 115 else 57, [some (.ref 136), some (.int (nI h)), some (.int l), some (.int what), some (.int now), some (.int (nI x))], [], mM σ f a2) Q := by
  intro e
  induction e with
  | zero =>
    intro x a2 hx h1 h2 h3
    have e : x = n := by omega
    subst e
    rw [hf7]
    exact Ev_if (fun _ => hq a2 h1 ⟨hf, hf7, hn1, hn, h2, h3⟩ _) (fun g1 => absurd (nI_le (Nat.le_refl _) (by omega)) g1)
  | succ e ih =>
    intro x a2 hx h1 h2 h3
    rw [hf7]
    refine Ev_if (fun g1 => absurd g1 (nI_ge (by omega) (by omega))) (fun _ => ?_)
    have ix : 8 * nI h + f 7 - 1 - nI x = nI (8 * h + (n - 1 - x)) := by
      rw [hf7, fa_lit 8, pk_mul, nI_add, show nI (8 * h + n) - 1 = nI (8 * h + n - 1) from pk_sub (b := 1) (by omega), pk_sub (by omega)]
      congr 1
      omega
    have e2 : a2 2 = a 2 := h1 2 (by decide) (by decide)
    have e3 : a2 3 = a 3 := h1 3 (by decide) (by decide)
    repeat refine Ev_go rfl ?_
    refine Ev_ial (8 * h + (n - 1 - x)) rfl rfl ix (by omega) (by decide) ?_
    refine Ev_mst 4 x rfl (fun _ => rfl) rfl (by omega) (by decide) ?_
    repeat refine Ev_go rfl ?_
    refine Ev_ial (8 * h + (n - 1 - x)) rfl rfl ix (by omega) (by decide) ?_
    refine Ev_mst 5 x rfl (fun _ => rfl) rfl (by omega) (by decide) ?_
    repeat refine Ev_go rfl ?_
    rw [nI_1]
    refine ih (x + 1) _ (by omega) (fun q q4 q5 => ?_) (fun y hy => ?_) (fun y hy => ?_)
    · rw [va_up_n _ _ q5, va_up_n _ _ q4]
      exact h1 q q4 q5
    · rw [va_up_n _ _ (by decide), va_up_s]
      by_cases hyx : y = x
      · subst hyx
        rw [pk_us, e2]
      · rw [pk_un hyx]
        exact h2 y (by omega)
    · rw [va_up_s]
      by_cases hyx : y = x
      · subst hyx
        rw [pk_us, va_up_n _ _ (by decide), e3]
      · rw [pk_un hyx, va_up_n _ _ (by decide)]
        exact h3 y (by omega)
/-- what is owed in the other order -/
abbrev hR (a : AA) (h : Nat) : Nat → Int32 := msr (a 0 h) (nC (a 1 h)) (fun x => hW a h (nC (a 1 h) - 1 - x)) (fun x => hD a h (nC (a 1 h) - 1 - x))
def sp_trim (f : FF) (a : AA) (h l what : Int32) : Int32 := if ¬ isH f h ∨ ¬ isW f l then -1 else if ¬ (0 ≤ what.toInt ∧ what.toInt ≤ 1) then -2
  else if what = 1 then (if toI (hR a (nC h)) a l (-9) < toI (hM a (nC h)) a l (-9) then 1 else 0) else (if toI (hR a (nC h)) a l (-9) < toI (hM a (nC h)) a l (-9) then toI (hR a (nC h)) a l (-9) else toI (hM a (nC h)) a l (-9))
theorem M_trim (hI : Inv f a) (h l what : Int32) (hq : ∀ f2 a2, Jk f a f2 a2 → Q (some (.int (sp_trim f a h l what))) (mM σ f2 a2)) : Cs nX12_trim [.ref 136, .int h, .int l, .int what] (mM σ f a) Q := by
  unfold sp_trim at hq
  refine Cs_in (k := kX12_trim) [some (.ref 136), some (.int h), some (.int l), some (.int what), none, none] rfl rfl ?_
  have bad : (¬ isH f h ∨ ¬ isW f l) → Ev kX12_trim (16, [some (.ref 136), some (.int h), some (.int l), some (.int what), none, none], [], mM σ f a) Q := by
    intro hb
    rw [if_pos hb] at hq
    repeat refine Ev_go rfl ?_
    refine Ev_rt rfl ?_
    exact hq _ _ Jk.rf
  repeat refine Ev_go rfl ?_
  refine Ev_ca rfl ?_
  refine m_noHull h ?_
  repeat refine Ev_go rfl ?_
  refine Ev_ifb (fun g1 => ?_) (fun g1 => bad (Or.inl g1))
  have g1 := Decidable.not_not.mp g1
  repeat refine Ev_go rfl ?_
  refine Ev_ca rfl ?_
  refine m_noLaw l ?_
  repeat refine Ev_go rfl ?_
  refine Ev_ifb (fun g2 => ?_) (fun g2 => bad (Or.inr g2))
  have g2 := Decidable.not_not.mp g2
  rw [if_neg (fun e => e.elim (fun z => z g1) (fun z => z g2))] at hq
  repeat refine Ev_go rfl ?_
  refine Ev_ca rfl ?_
  refine m_in what.toInt 0 1 (fa_wide _) rfl rfl ?_
  repeat refine Ev_go rfl ?_
  refine Ev_ifb (fun g3 => ?_) (fun g3 => ?_)
  · rw [if_pos g3] at hq
    repeat refine Ev_go rfl ?_
    refine Ev_rt rfl ?_
    exact hq _ _ Jk.rf
  rw [if_neg (fun e => e g3)] at hq
  obtain ⟨h', c1, rfl, hk, n, n1, n2, n3, -⟩ := Inv_h hI g1
  simp only [nC, hM, hR, nI_clamp (show h' < 2 ^ 31 by omega), n3, nI_clamp (show n < 2 ^ 31 by omega)] at hq
  repeat refine Ev_go rfl ?_
  refine Ev_ca rfl ?_
  refine m_takeUp h' n c1 n1 n2 n3 (fun f2 a2 hJ hC => ?_)
  repeat refine Ev_go rfl ?_
  refine Ev_ca rfl ?_
  refine m_toll hC (hI.jk hJ) l _ (Or.inl (isW.jk hJ g2)) ?_
  rw [toI.jk hJ]
  repeat refine Ev_go rfl ?_
  refine m_trim_loop h' n c1 n1 n2 hC.1 hC.2.1 l what _ (fun a3 h3 hC3 x5 => ?_) n 0 a2 (by omega) (fun _ _ _ => rfl) (fun y hy => by omega) (fun y hy => by omega)
  have hJ3 : Jk f a f2 a3 := hJ.tr ⟨fun _ _ _ _ _ _ _ => rfl, fun q q4 q5 _ _ => h3 q q4 q5⟩
  rw [show hW a2 h' = hW a h' by unfold hW; rw [hJ.a 2], show hD a2 h' = hD a h' by unfold hD; rw [hJ.a 3]] at hC3
  repeat refine Ev_go rfl ?_
  refine Ev_ca rfl ?_
  refine m_toll hC3 (hI.jk hJ3) l _ (Or.inl (isW.jk hJ3 g2)) ?_
  rw [toI.jk hJ3]
  have hq := hq _ _ hJ3
  repeat refine Ev_go rfl ?_
  refine Ev_if (fun g4 => ?_) (fun g4 => ?_)
  · rw [if_pos g4] at hq
    repeat refine Ev_go rfl ?_
    refine Ev_if (fun g5 => ?_) (fun g5 => ?_)
    · rw [if_neg (fun z => by rw [fa_lt] at z; rw [fa_le] at g5; omega)] at hq
      repeat refine Ev_go rfl ?_
      refine Ev_rt rfl ?_
      exact hq
    · rw [if_pos (by rw [fa_lt]; rw [fa_le] at g5; omega)] at hq
      repeat refine Ev_go rfl ?_
      refine Ev_rt rfl ?_
      exact hq
  · rw [if_neg g4] at hq
    repeat refine Ev_go rfl ?_
    refine Ev_if (fun g5 => ?_) (fun g5 => ?_)
    · rw [if_neg (fun z => by rw [fa_lt] at z; rw [fa_le] at g5; omega)] at hq
      repeat refine Ev_go rfl ?_
      refine Ev_rt rfl ?_
      exact hq
    · rw [if_pos (by rw [fa_lt]; rw [fa_le] at g5; omega)] at hq
      repeat refine Ev_go rfl ?_
      refine Ev_rt rfl ?_
      exact hq
/-- one part of the taken-up hull moves -/
theorem m_change (x : Nat) (hx : x < 8) (what by' : Int32) (hq : Q none (mM σ f (va_up (va_up a 4 (upd (a 4) x (a 4 x + if what = 0 then by' else 0))) 5 (upd (a 5) x (a 5 x + if what = 1 then by' else 0))))) : Cs nX12_change [.ref 136, .int (nI x), .int what, .int by'] (mM σ f a) Q := by
  refine Cs_in (k := kX12_change) [some (.ref 136), some (.int (nI x)), some (.int what), some (.int by')] rfl rfl ?_
  have s35 : ∀ (a2 : AA) (y : Int32), a2 = va_up a 4 (upd (a 4) x (a 4 x + if what = 0 then by' else 0)) → y = (if what = 1 then by' else 0) → Ev kX12_change (35, [some (.ref 136), some (.int (nI x)), some (.int what), some (.int by')], [.int y, .int (a2 5 x), .int (nI x), .ref 142], mM σ f a2) Q := by
    intro a2 y h1 h2
    subst h1
    subst h2
    repeat refine Ev_go rfl ?_
    refine Ev_mst 5 x rfl (fun _ => rfl) rfl (by omega) (by decide) ?_
    refine Ev_rt rfl ?_
    exact hq
  have s16 : ∀ y : Int32, y = (if what = 0 then by' else 0) → Ev kX12_change (16, [some (.ref 136), some (.int (nI x)), some (.int what), some (.int by')], [.int y, .int (a 4 x), .int (nI x), .ref 141], mM σ f a) Q := by
    intro y hy
    subst hy
    repeat refine Ev_go rfl ?_
    refine Ev_mst 4 x rfl (fun _ => rfl) rfl (by omega) (by decide) ?_
    repeat refine Ev_go rfl ?_
    refine Ev_ial x rfl rfl rfl (by omega) (by decide) ?_
    repeat refine Ev_go rfl ?_
    refine Ev_if (fun g => ?_) (fun g => ?_)
    · iterate 2 refine Ev_go rfl ?_
      exact s35 _ _ rfl (by rw [if_pos g])
    · iterate 1 refine Ev_go rfl ?_
      exact s35 _ _ rfl (by rw [if_neg g])
  repeat refine Ev_go rfl ?_
  refine Ev_ial x rfl rfl rfl (by omega) (by decide) ?_
  repeat refine Ev_go rfl ?_
  refine Ev_if (fun g => ?_) (fun g => ?_)
  · iterate 2 refine Ev_go rfl ?_
    exact s16 _ (by rw [if_pos g])
  · iterate 1 refine Ev_go rfl ?_
    exact s16 _ (by rw [if_neg g])
def byS (k : Nat) : Int32 := if k % 2 = 0 then -1 else 1
def chW (w : Nat → Int32) (k : Nat) : Nat → Int32 := upd w (k / 4) (w (k / 4) + if k / 2 % 2 = 0 then byS k else 0)
def chD (d : Nat → Int32) (k : Nat) : Nat → Int32 := upd d (k / 4) (d (k / 4) + if k / 2 % 2 = 1 then byS k else 0)
/-- the part that moved -/
def chP (w d : Nat → Int32) (k : Nat) : Int32 := if k / 2 % 2 = 0 then chW w k (k / 4) else chD d k (k / 4)
def stP (a : AA) (kd : Int32) (n : Nat) (w d : Nat → Int32) (k : Nat) : Prop := (1 ≤ (chP w d k).toInt ∧ (chP w d k).toInt ≤ 9) ∧ fbI (a 9) kd n (chW w k) (chD d k) < 0
/-- the best step among the first k: its worth, its name -/
def stI (a : AA) (kd : Int32) (n : Nat) (w d : Nat → Int32) (l : Int32) : Nat → Int32 × Int32
  | 0 => (vlI (a 9 5) a kd n w d l (-9), -9)
  | k + 1 => if ((1 ≤ (chP w d k).toInt ∧ (chP w d k).toInt ≤ 9) ∧ fbI (a 9) kd n (chW w k) (chD d k) < 0) ∧ (stI a kd n w d l k).1 < vlI (a 9 5) a kd n (chW w k) (chD d k) l (-9) then (vlI (a 9 5) a kd n (chW w k) (chD d k) l (-9), 100 * nI (k / 4) + 10 * nI (k / 2 % 2) + nI (k % 2)) else stI a kd n w d l k
theorem add_neg_back (x y : Int32) : x + y + -y = x := by rw [Int32.add_assoc, Int32.add_right_neg, Int32.add_zero]
end ST
