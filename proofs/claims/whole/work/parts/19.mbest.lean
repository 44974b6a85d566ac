/-! the model: risk; all shapes, the best -/
theorem m_share_loop {σ : kt_H} {Q : Option Value → kt_H → Prop} (u v : Nat) (hu : u < 2 ^ 31) (hv : v < 2 ^ 31) (which : Int32) : ∀ (k x y : Nat) (o9 : Option Value), y < k → x < 2 ^ 31 → y < 2 ^ 31 → (∀ o9 : Option Value, Ev kX12_share (31, [some (.long (lN u)), none, some (.long (lN v)), none, some (.int which), some (.long (lN (Nat.gcd x y))), none, some (.long (lN 0)), none, o9, none], [], σ) Q) → Ev kX12_share (6, [some (.long (lN u)), none, some (.long (lN v)), none, some (.int which), some (.long (lN x)), none, some (.long (lN y)), none, o9, none], [], σ) Q := by
  intro k
  induction k with
  | zero => intro x y o9 h; omega
  | succ k ih =>
    intro x y o9 hk hx hy h
    repeat refine Ev_go rfl ?_
    refine Ev_if (fun g => ?_) (fun g => ?_)
    · have g := (cmp_eq _ _).mp g
      have g : y = 0 := (lN_eq (b := 0) hy (by decide)).mp g
      subst g
      rw [Nat.gcd_zero_right] at h
      exact h _
    · have g : y ≠ 0 := fun e => g ((cmp_eq _ _).mpr (by rw [e]; rfl))
      repeat refine Ev_go rfl ?_
      refine Ev_lrem rfl (fun e => g ((lN_eq (b := 0) hy (by decide)).mp e)) ?_
      rw [pk_lRem (a := x) (b := y) (by omega) (by omega) (by omega)]
      iterate 6 refine Ev_go rfl ?_
      have hm : x % y < y := Nat.mod_lt _ (by omega)
      refine ih y (x % y) _ (by omega) hy (by omega) ?_
      rw [Nat.gcd_comm y (x % y), ← Nat.gcd_rec, Nat.gcd_comm]
      exact h
theorem m_share {σ : kt_H} {Q : Option Value → kt_H → Prop} (u v : Nat) (hu : u < 2 ^ 31) (hv : v < 2 ^ 31) (h0 : 0 < v) (which : Int32) (hq : Q (some (.long (lN ((if which = 0 then u else v) / Nat.gcd u v)))) σ) : Cs nX12_share [.long (lN u), .long (lN v), .int which] σ Q := by
  refine Cs_in (k := kX12_share) [some (.long (lN u)), none, some (.long (lN v)), none, some (.int which), none, none, none, none, none, none] rfl rfl ?_
  have hg : 0 < Nat.gcd u v := Nat.gcd_pos_of_pos_right u h0
  have hg2 : Nat.gcd u v ≤ v := Nat.gcd_le_right u h0
  iterate 4 refine Ev_go rfl ?_
  refine m_share_loop u v hu hv which (v + 1) u v none (by omega) hu hv (fun o9 => ?_)
  have ne : lN (Nat.gcd u v) ≠ 0 := fun e => by have := (lN_eq (b := 0) (show Nat.gcd u v < 2 ^ 31 by omega) (by decide)).mp e; omega
  repeat refine Ev_go rfl ?_
  refine Ev_if (fun g => ?_) (fun g => ?_)
  · rw [if_pos g] at hq
    repeat refine Ev_go rfl ?_
    refine Ev_ldiv rfl ne ?_
    rw [pk_lDiv (by omega) hg (by omega)]
    refine Ev_rt rfl ?_
    exact hq
  · rw [if_neg g] at hq
    repeat refine Ev_go rfl ?_
    refine Ev_ldiv rfl ne ?_
    rw [pk_lDiv (by omega) hg (by omega)]
    refine Ev_rt rfl ?_
    exact hq
/-- how much it drowns -/
def drN (w d : Nat → Int32) : Nat → Nat
  | 0 => 0
  | n + 1 => drN w d n + ((d n).toInt.toNat - (w n).toInt.toNat)
theorem drN_le {w d : Nat → Int32} : ∀ {n : Nat}, (∀ x, x < n → (d x).toInt ≤ 9) → drN w d n ≤ 9 * n
  | 0, _ => Nat.le_refl 0
  | n + 1, h => by
    have h1 := drN_le (w := w) (d := d) (n := n) (fun x hx => h x (by omega))
    have h2 := h n (by omega)
    rw [drN]
    omega
theorem dr_one {w d : Int32} (h1 : 1 ≤ w.toInt ∧ w.toInt ≤ 9) (h2 : 1 ≤ d.toInt ∧ d.toInt ≤ 9) : gtI 0 (d - w) = nI (d.toInt.toNat - w.toInt.toNat) := by
  have e0 : (0 : Int32).toInt = 0 := rfl
  have e1 : (d - w).toInt = d.toInt - w.toInt := fb_subI (by omega) (by omega)
  unfold gtI
  split
  · rename_i h
    rw [fa_lt, e1] at h
    rw [show d.toInt.toNat - w.toInt.toNat = 0 by omega]
    rfl
  · rename_i h
    rw [fa_lt, e1] at h
    rw [fa_eq, e1, nI_toInt (by omega)]
    omega
theorem m_risk_loop {σ : kt_H} {f : FF} {a : AA} {Q : Option Value → kt_H → Prop} {kd : Int32} {n : Nat} {w d : Nat → Int32} (hC : Cur f a kd n w d) (hb : ∀ x, x < n → (1 ≤ (w x).toInt ∧ (w x).toInt ≤ 9) ∧ (1 ≤ (d x).toInt ∧ (d x).toInt ≤ 9)) (h wh : Int32) (hq : Ev kX12_risk (69, [some (.ref 136), some (.int h), some (.int wh), some (.int (nI (drN w d n))), some (.int (nI n))], [], mM σ f a) Q) : ∀ (e x : Nat), x + e = n → Ev kX12_risk (if f 7 ≤ nI x then 69 else 41, [some (.ref 136), some (.int h), some (.int wh), some (.int (nI (drN w d x))), some (.int (nI x))], [], mM σ f a) Q := by
  obtain ⟨c1, c2, c3, c4, c5, c6⟩ := hC
  intro e
  induction e with
  | zero =>
    intro x hx
    have e : x = n := by omega
    subst e
    rw [c2]
    exact Ev_if (fun _ => hq) (fun g1 => absurd (nI_le (Nat.le_refl x) (by omega)) g1)
  | succ e ih =>
    intro x hx
    rw [c2]
    refine Ev_if (fun g1 => absurd g1 (nI_ge (by omega) (by omega))) (fun _ => ?_)
    repeat refine Ev_go rfl ?_
    refine Ev_ial x rfl rfl rfl (by omega) (by decide) ?_
    repeat refine Ev_go rfl ?_
    refine Ev_ial x rfl rfl rfl (by omega) (by decide) ?_
    rw [c5 x (by omega), c6 x (by omega)]
    repeat refine Ev_go rfl ?_
    refine Ev_ca rfl ?_
    refine m_greater _ _ ?_
    have hd := dr_one (hb x (by omega)).1 (hb x (by omega)).2
    unfold gtI at hd
    rw [hd]
    repeat refine Ev_go rfl ?_
    rw [nI_1, nI_add]
    exact ih (x + 1) (by omega)
def sp_risk (f : FF) (a : AA) (h which : Int32) : Int64 := if ¬ isH f h ∨ ¬ (0 ≤ which.toInt ∧ which.toInt ≤ 1) then LOSTL else lN ((if which = 0 then drN (hW a (nC h)) (hD a (nC h)) (nC (a 1 (nC h))) else 9 * nC (a 1 (nC h))) / Nat.gcd (drN (hW a (nC h)) (hD a (nC h)) (nC (a 1 (nC h)))) (9 * nC (a 1 (nC h))))
theorem M_risk {σ : kt_H} {f : FF} {a : AA} {Q : Option Value → kt_H → Prop} (hI : Inv f a) (h which : Int32) (hq : ∀ f2 a2, Jk f a f2 a2 → Q (some (.long (sp_risk f a h which))) (mM σ f2 a2)) : Cs nX12_risk [.ref 136, .int h, .int which] (mM σ f a) Q := by
  unfold sp_risk at hq
  refine Cs_in (k := kX12_risk) [some (.ref 136), some (.int h), some (.int which), none, none] rfl rfl ?_
  have bad : (¬ isH f h ∨ ¬ (0 ≤ which.toInt ∧ which.toInt ≤ 1)) → Ev kX12_risk (18, [some (.ref 136), some (.int h), some (.int which), none, none], [], mM σ f a) Q := by
    intro hb
    rw [if_pos hb] at hq
    refine Ev_ca rfl ?_
    refine m_lost ?_
    refine Ev_rt rfl ?_
    exact hq _ _ Jk.rf
  repeat refine Ev_go rfl ?_
  refine Ev_ca rfl ?_
  refine m_noHull h ?_
  repeat refine Ev_go rfl ?_
  refine Ev_ifb (fun g1 => ?_) (fun g1 => bad (Or.inl g1))
  have g1 := Decidable.not_not.mp g1
  repeat refine Ev_go rfl ?_
  refine Ev_ca rfl ?_
  refine m_in which.toInt 0 1 (fa_wide _) rfl rfl ?_
  repeat refine Ev_go rfl ?_
  refine Ev_ifb (fun g2 => bad (Or.inr g2)) (fun g2 => ?_)
  rw [if_neg (fun e => e.elim (fun z => z g1) (fun z => z g2))] at hq
  obtain ⟨h', c1, rfl, hk, n, n1, n2, n3, n4⟩ := Inv_h hI g1
  simp only [nC, nI_clamp (show h' < 2 ^ 31 by omega), n3, nI_clamp (show n < 2 ^ 31 by omega)] at hq
  repeat refine Ev_go rfl ?_
  refine Ev_ca rfl ?_
  refine m_takeUp h' n c1 n1 n2 n3 (fun f2 a2 hJ hC => ?_)
  repeat refine Ev_go rfl ?_
  have hle := drN_le (w := hW a h') (d := hD a h') (n := n) (fun x hx => (n4 x hx).2.2)
  refine m_risk_loop hC n4 (nI h') which ?_ n 0 (by omega)
  repeat refine Ev_go rfl ?_
  rw [hC.2.1, fa_lit 9, pk_mul, nI_l (by omega), nI_l (by omega)]
  refine Ev_ca rfl ?_
  refine m_share _ _ (by omega) (by omega) (by omega) which ?_
  refine Ev_rt rfl ?_
  exact hq _ _ hJ
abbrev isSo (n m sort : Int32) : Prop := (1 ≤ n.toInt ∧ n.toInt ≤ 4) ∧ (1 ≤ m.toInt ∧ m.toInt ≤ 3) ∧ is2 sort
theorem m_isSort {σ : kt_H} {Q : Option Value → kt_H → Prop} (n m sort : Int32) (hq : Q (some (.int (bI (isSo n m sort)))) σ) : Cs nX12_isSort [.int n, .int m, .int sort] σ Q := by
  refine Cs_in (k := kX12_isSort) [some (.int n), some (.int m), some (.int sort)] rfl rfl ?_
  have bad : ¬ isSo n m sort → Ev kX12_isSort (35, [some (.int n), some (.int m), some (.int sort)], [], σ) Q := by
    intro hb
    rw [bI_f hb] at hq
    repeat refine Ev_go rfl ?_
    exact Ev_rz rfl (Or.inl rfl) hq
  repeat refine Ev_go rfl ?_
  refine Ev_ca rfl ?_
  refine m_in n.toInt 1 4 (fa_wide _) rfl rfl ?_
  repeat refine Ev_go rfl ?_
  refine Ev_ifb (fun g => bad (fun e => g e.1)) (fun g1 => ?_)
  repeat refine Ev_go rfl ?_
  refine Ev_ca rfl ?_
  refine m_in m.toInt 1 3 (fa_wide _) rfl rfl ?_
  repeat refine Ev_go rfl ?_
  refine Ev_ifb (fun g => bad (fun e => g e.2.1)) (fun g2 => ?_)
  repeat refine Ev_go rfl ?_
  refine Ev_ca rfl ?_
  refine m_isKind sort ?_
  repeat refine Ev_go rfl ?_
  refine Ev_ifb (fun g => bad (fun e => g e.2.2)) (fun g3 => ?_)
  rw [bI_t ⟨g1, g2, g3⟩] at hq
  repeat refine Ev_go rfl ?_
  exact Ev_rz rfl (Or.inr rfl) hq
theorem m_many_rows_loop {σ : kt_H} {Q : Option Value → kt_H → Prop} (n m : Nat) (hn : n ≤ 4) (hq : Q (some (.int (nI (m ^ (2 * n))))) σ) : ∀ (e x : Nat), x + e = 2 * n → Ev kX12_manyRows (if 2 * nI n ≤ nI x then 21 else 11, [some (.int (nI n)), some (.int (nI m)), some (.int (nI (m ^ x))), some (.int (nI x))], [], σ) Q := by
  have e2 : 2 * nI n = nI (2 * n) := by rw [fa_lit 2, pk_mul]
  rw [e2]
  intro e
  induction e with
  | zero =>
    intro x hx
    have e : x = 2 * n := by omega
    subst e
    refine Ev_if (fun _ => ?_) (fun g1 => absurd (nI_le (Nat.le_refl _) (by omega)) g1)
    repeat refine Ev_go rfl ?_
    refine Ev_rt rfl ?_
    exact hq
  | succ e ih =>
    intro x hx
    refine Ev_if (fun g1 => absurd g1 (nI_ge (by omega) (by omega))) (fun _ => ?_)
    repeat refine Ev_go rfl ?_
    rw [nI_1, pk_mul, ← Nat.pow_succ, e2]
    exact ih (x + 1) (by omega)
theorem m_manyRows {σ : kt_H} {Q : Option Value → kt_H → Prop} (n m : Nat) (hn : n ≤ 4) (hq : Q (some (.int (nI (m ^ (2 * n))))) σ) : Cs nX12_manyRows [.int (nI n), .int (nI m)] σ Q := by
  refine Cs_in (k := kX12_manyRows) [some (.int (nI n)), some (.int (nI m)), none, none] rfl rfl ?_
  repeat refine Ev_go rfl ?_
  exact m_many_rows_loop n m hn hq (2 * n) 0 (by omega)
/-- the row as a shape: breadths and depths -/
def rD (n m row : Nat) : Nat → Int32 := fun x => nI (row / m ^ (2 * (n - 1 - x)) % m + 1)
def rW (n m row : Nat) : Nat → Int32 := fun x => nI (row / m ^ (2 * (n - 1 - x) + 1) % m + 1)
theorem m_takeRow_loop {σ : kt_H} {f : FF} {a : AA} {Q : Option Value → kt_H → Prop} (n m row : Nat) (hn : n ≤ 4) (hm : 1 ≤ m) (hm3 : m ≤ 3) (hr : row < 2 ^ 31) (sort : Int32) (hq : ∀ a2 : AA, (∀ q, q ≠ 4 → q ≠ 5 → a2 q = a q) → (∀ y, y < n → a2 4 y = rW n m row y) → (∀ y, y < n → a2 5 y = rD n m row y) → Q none (mM σ f a2)) : ∀ (k : Nat) (a2 : AA), k ≤ n → (∀ q, q ≠ 4 → q ≠ 5 → a2 q = a q) → (∀ y, k ≤ y → y < n → a2 4 y = rW n m row y) → (∀ y, k ≤ y → y < n → a2 5 y = rD n m row y) → Ev kX12_takeRow (if nI k - 1 < 0 then 68 else 24, [some (.ref 136), some (.int (nI n)), some (.int (nI m)), some (.int sort), some (.int (nI row)), some (.int (nI (row / m ^ (2 * (n - k))))), some (.int (nI k - 1))], [], mM σ f a2) Q := by
  intro k
  induction k with
  | zero =>
    intro a2 _ h1 h2 h3
    refine Ev_if (fun _ => ?_) (fun g => absurd (by decide) g)
    refine Ev_rt rfl ?_
    exact hq a2 h1 (fun y hy => h2 y (by omega) hy) (fun y hy => h3 y (by omega) hy)
  | succ k ih =>
    intro a2 hk h1 h2 h3
    rw [nI_pred]
    refine Ev_if (fun g => absurd g (nI_pos (by omega))) (fun _ => ?_)
    have e1 : n - (k + 1) = n - 1 - k := by omega
    have e2 : 2 * (n - k) = 2 * (n - 1 - k) + 1 + 1 := by omega
    have hd : row / m ^ (2 * (n - (k + 1))) < 2 ^ 31 := Nat.lt_of_le_of_lt (Nat.div_le_self _ _) hr
    have hd2 : row / m ^ (2 * (n - (k + 1))) / m < 2 ^ 31 := Nat.lt_of_le_of_lt (Nat.div_le_self _ _) hd
    have hne : nI m ≠ 0 := fun e => by have := (nI_eq (b := 0) (by omega) (by decide)).mp e; omega
    repeat refine Ev_go rfl ?_
    refine Ev_rem rfl hne ?_
    rw [pk_rem hd (by omega) (by omega)]
    repeat refine Ev_go rfl ?_
    rw [nI_1]
    refine Ev_mst 5 k rfl (fun _ => rfl) rfl (by omega) (by decide) ?_
    repeat refine Ev_go rfl ?_
    refine Ev_div rfl hne ?_
    rw [pk_div hd (by omega) (by omega)]
    repeat refine Ev_go rfl ?_
    refine Ev_rem rfl hne ?_
    rw [pk_rem hd2 (by omega) (by omega)]
    repeat refine Ev_go rfl ?_
    rw [nI_1]
    refine Ev_mst 4 k rfl (fun _ => rfl) rfl (by omega) (by decide) ?_
    repeat refine Ev_go rfl ?_
    refine Ev_div rfl hne ?_
    rw [pk_div hd2 (by omega) (by omega)]
    iterate 5 refine Ev_go rfl ?_
    rw [show nI k + -1 = nI k - 1 from (Int32.sub_eq_add_neg (a := nI k) (b := 1)).symm]
    have e3 : row / m ^ (2 * (n - (k + 1))) / m / m = row / m ^ (2 * (n - k)) := by
      rw [Nat.div_div_eq_div_mul, Nat.div_div_eq_div_mul, ← Nat.mul_assoc, ← Nat.pow_succ, ← Nat.pow_succ, e1, e2]
    have e4 : row / m ^ (2 * (n - (k + 1))) / m = row / m ^ (2 * (n - 1 - k) + 1) := by
      rw [Nat.div_div_eq_div_mul, ← Nat.pow_succ, e1]
    rw [e3]
    refine ih _ (by omega) (fun q q4 q5 => ?_) (fun y y1 y2 => ?_) (fun y y1 y2 => ?_)
    · rw [va_up_n _ _ q4, va_up_n _ _ q5]
      exact h1 q q4 q5
    · rw [va_up_s]
      by_cases hy : y = k
      · subst hy
        rw [pk_us, e4]
        rfl
      · rw [pk_un hy, va_up_n _ _ (by decide)]
        exact h2 y (by omega) y2
    · rw [va_up_n _ _ (by decide), va_up_s]
      by_cases hy : y = k
      · subst hy
        rw [pk_us, e1]
        rfl
      · rw [pk_un hy]
        exact h3 y (by omega) y2
theorem m_takeRow {σ : kt_H} {f : FF} {a : AA} {Q : Option Value → kt_H → Prop} (n m row : Nat) (hn1 : 1 ≤ n) (hn : n ≤ 4) (hm : 1 ≤ m) (hm3 : m ≤ 3) (hr : row < 2 ^ 31) (sort : Int32) (hq : ∀ a2 : AA, (∀ q, q ≠ 4 → q ≠ 5 → a2 q = a q) → Cur (va_up (va_up f 6 sort) 7 (nI n)) a2 sort n (rW n m row) (rD n m row) → Q none (mM σ (va_up (va_up f 6 sort) 7 (nI n)) a2)) : Cs nX12_takeRow [.ref 136, .int (nI n), .int (nI m), .int sort, .int (nI row)] (mM σ f a) Q := by
  refine Cs_in (k := kX12_takeRow) [some (.ref 136), some (.int (nI n)), some (.int (nI m)), some (.int sort), some (.int (nI row)), none, none] rfl rfl ?_
  iterate 3 refine Ev_go rfl ?_
  refine Ev_mo (va_up f 6 sort) ?_ rfl
  iterate 3 refine Ev_go rfl ?_
  refine Ev_mo (va_up (va_up f 6 sort) 7 (nI n)) ?_ rfl
  repeat refine Ev_go rfl ?_
  have l := m_takeRow_loop (σ := σ) (f := va_up (va_up f 6 sort) 7 (nI n)) (a := a) (Q := Q) n m row hn hm hm3 hr sort (fun a2 h1 h2 h3 => hq a2 h1 ⟨rfl, rfl, hn1, by omega, h2, h3⟩) n a (Nat.le_refl _) (fun _ _ _ => rfl) (fun y y1 y2 => by omega) (fun y y1 y2 => by omega)
  rw [Nat.sub_self, Nat.mul_zero, Nat.pow_zero, Nat.div_one] at l
  exact l
