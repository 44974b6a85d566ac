/-! the model: mending, routes, what is paid in, trim -/
section RT
variable {σ : kt_H} {f : FF} {a : AA} {Q : Option Value → kt_H → Prop}
/-- the law of those told with the least loss that pays v or more -/
def mdI (a : AA) (n m : Nat) (sort v : Int32) : Nat → Int32 × Int32
  | 0 => (-9, 0)
  | l + 1 => if v ≤ toI (msr sort n (rW n m (nC (bsI a n m sort (nI l) (-9) (m ^ (2 * n))).1)) (rD n m (nC (bsI a n m sort (nI l) (-9) (m ^ (2 * n))).1))) a (nI l) (-9) ∧ ((mdI a n m sort v l).1 < 0 ∨ lsI a n m sort (nI l) (-9) < (mdI a n m sort v l).2) then (nI l, lsI a n m sort (nI l) (-9)) else mdI a n m sort v l
def sp_mend (f : FF) (a : AA) (n m sort v : Int32) : Int32 := if ¬ isSo n m sort ∨ v.toInt < 0 then -2 else if ctI (okR a (nC n) (nC m) sort) (R2 n m) = 0 then -3 else (mdI a (nC n) (nC m) sort v (nC (f 10))).1
theorem ctI_c {p : Nat → Prop} [DecidablePred p] : ∀ r, ∃ q : Nat, q ≤ r ∧ ctI p r = nI q ∧ (q = 0 → ∀ x, x < r → ¬ p x)
  | 0 => ⟨0, Nat.le_refl 0, rfl, fun _ x h => absurd h (Nat.not_lt_zero x)⟩
  | r + 1 => by
    obtain ⟨q, h1, h2, h3⟩ := ctI_c (p := p) r
    rw [ctI, h2]
    by_cases hp : p r
    · rw [if_pos hp]
      exact ⟨q + 1, by omega, nI_1 q, fun e => by omega⟩
    · rw [if_neg hp]
      refine ⟨q, by omega, by rw [show (0 : Int32) = nI 0 from rfl, nI_add]; rfl, fun e x hx => ?_⟩
      by_cases hxr : x = r
      · subst hxr; exact hp
      · exact h3 e x (by omega)
theorem bsI_some {a : AA} {n m : Nat} {sort l but : Int32} (x : Nat) (hp : okR a n m sort x) (r : Nat) : r ≤ 6561 → x < r → ¬ (bsI a n m sort l but r).1 < 0 := by
  induction r with
  | zero => intro _ h; exact absurd h (Nat.not_lt_zero x)
  | succ r ih =>
    intro hr h
    rw [bsI]
    by_cases hxr : x = r
    · subst hxr
      by_cases hc : (bsI a n m sort l but x).1 < 0
      · rw [if_pos ⟨Or.inl hc, hp⟩]
        exact nI_pos (by omega)
      · split
        · exact nI_pos (by omega)
        · exact hc
    · split
      · exact nI_pos (by omega)
      · exact ih (by omega) (by omega)
theorem m_mend_loop (hI : Inv f a) (n m : Nat) (hn1 : 1 ≤ n) (hn : n ≤ 4) (hm : 1 ≤ m) (hm3 : m ≤ 3) (sort v : Int32) (hsome : ∀ l, ¬ (bsI a n m sort l (-9) (m ^ (2 * n))).1 < 0) (lc : Nat) (hlc : lc ≤ 8) (hf : f 10 = nI lc) (hq : ∀ f2 a2, Jk f a f2 a2 → Q (some (.int (mdI a n m sort v lc).1)) (mM σ f2 a2)) : ∀ (e l : Nat) (f2 : FF) (a2 : AA) (o8 : Option Value), l + e = lc → Jk f a f2 a2 → Ev kX12_mend (if f2 10 ≤ nI l then 101 else 49, [some (.ref 136), some (.int (nI n)), some (.int (nI m)), some (.int sort), some (.int v), some (.int (mdI a n m sort v l).1), some (.int (mdI a n m sort v l).2), some (.int (nI l)), o8], [], mM σ f2 a2) Q := by
  have hR := pw_le hn hm3
  intro e
  induction e with
  | zero =>
    intro l f2 a2 o8 hr hJ
    have e10 : f2 10 = f 10 := hJ.1 10 (by decide) (by decide) (by decide) (by decide) (by decide) (by decide)
    have e : l = lc := by omega
    subst e
    rw [e10, hf]
    refine Ev_if (fun _ => ?_) (fun g1 => absurd (nI_le (Nat.le_refl _) (by omega)) g1)
    repeat refine Ev_go rfl ?_
    refine Ev_rt rfl ?_
    exact hq _ _ hJ
  | succ e ih =>
    intro l f2 a2 o8 hr hJ
    have e10 : f2 10 = f 10 := hJ.1 10 (by decide) (by decide) (by decide) (by decide) (by decide) (by decide)
    rw [e10, hf]
    refine Ev_if (fun g1 => absurd g1 (nI_ge (by omega) (by omega))) (fun _ => ?_)
    have hl : isW f (nI l) := by rw [isW, hf, nI_toInt (by omega), nI_toInt (by omega)]; omega
    repeat refine Ev_go rfl ?_
    refine Ev_ca rfl ?_
    refine m_loss (hI.jk hJ) n m hn1 hn hm hm3 sort (nI l) _ (Or.inl (isW.jk hJ hl)) (fun f3 a3 v3 h3 hv => ?_)
    obtain ⟨hJ3, h17, h18, row, hC, hrow⟩ := h3
    rw [bsI.jk hJ] at hv hrow
    have hJ4 := hJ.tr hJ3
    have e3 : lsI a2 n m sort (nI l) (-9) = lsI a n m sort (nI l) (-9) := by
      unfold lsI
      rw [bsI.jk hJ, bsI.jk hJ, vlR.jk hJ]
    have hv := (hv (hsome _)).trans e3
    obtain ⟨k1, k2⟩ := hrow (hsome _)
    have next : ∀ (x5 x6 : Int32) (o8 : Option Value), x5 = (mdI a n m sort v (l + 1)).1 → x6 = (mdI a n m sort v (l + 1)).2 → Ev kX12_mend (95, [some (.ref 136), some (.int (nI n)), some (.int (nI m)), some (.int sort), some (.int v), some (.int x5), some (.int x6), some (.int (nI l)), o8], [], mM σ f3 a3) Q := by
      intro x5 x6 o8 q5 q6
      subst q5
      subst q6
      repeat refine Ev_go rfl ?_
      rw [nI_1]
      exact ih (l + 1) f3 a3 _ (by omega) hJ4
    have e5 : nC (bsI a n m sort (nI l) (-9) (m ^ (2 * n))).1 = row := by rw [k1]; exact nI_clamp (by omega)
    repeat refine Ev_go rfl ?_
    refine Ev_ca rfl ?_
    refine m_toll hC (hI.jk hJ4) (nI l) _ (Or.inl (isW.jk hJ4 hl)) ?_
    rw [toI.jk hJ4]
    repeat refine Ev_go rfl ?_
    refine Ev_if (fun g => ?_) (fun g => ?_)
    · refine next _ _ _ ?_ ?_ <;> (rw [mdI, if_neg (fun z => by have z := z.1; rw [e5, fa_le] at z; rw [fa_lt] at g; omega)])
    · have g : v ≤ toI (msr sort n (rW n m row) (rD n m row)) a (nI l) (-9) := by rw [fa_le]; rw [fa_lt] at g; omega
      rw [← e5] at g
      have s87 : ((mdI a n m sort v l).1 < 0 ∨ lsI a n m sort (nI l) (-9) < (mdI a n m sort v l).2) → Ev kX12_mend (87, [some (.ref 136), some (.int (nI n)), some (.int (nI m)), some (.int sort), some (.int v), some (.int (mdI a n m sort v l).1), some (.int (mdI a n m sort v l).2), some (.int (nI l)), some (.int v3)], [], mM σ f3 a3) Q := by
        intro hc
        iterate 4 refine Ev_go rfl ?_
        refine next _ _ _ ?_ ?_ <;> (rw [mdI, if_pos ⟨g, hc⟩])
        exact hv
      repeat refine Ev_go rfl ?_
      refine Ev_if (fun g2 => s87 (Or.inl g2)) (fun g2 => ?_)
      repeat refine Ev_go rfl ?_
      refine Ev_if (fun g3 => ?_) (fun g3 => ?_)
      · rw [hv] at g3
        refine next _ _ _ ?_ ?_ <;> (rw [mdI, if_neg (fun z => z.2.elim g2 (fun z => by rw [fa_lt] at z; rw [fa_le] at g3; omega))])
      · rw [hv] at g3
        exact s87 (Or.inr (by rw [fa_lt]; rw [fa_le] at g3; omega))
theorem M_mend (hI : Inv f a) (n m sort v : Int32) (hq : ∀ f2 a2, Jk f a f2 a2 → Q (some (.int (sp_mend f a n m sort v))) (mM σ f2 a2)) : Cs nX12_mend [.ref 136, .int n, .int m, .int sort, .int v] (mM σ f a) Q := by
  have e0 : (0 : Int32).toInt = 0 := rfl
  unfold sp_mend at hq
  refine Cs_in (k := kX12_mend) [some (.ref 136), some (.int n), some (.int m), some (.int sort), some (.int v), none, none, none, none] rfl rfl ?_
  have bad : (¬ isSo n m sort ∨ v.toInt < 0) → Ev kX12_mend (14, [some (.ref 136), some (.int n), some (.int m), some (.int sort), some (.int v), none, none, none, none], [], mM σ f a) Q := by
    intro hb
    rw [if_pos hb] at hq
    repeat refine Ev_go rfl ?_
    refine Ev_rt rfl ?_
    exact hq _ _ Jk.rf
  repeat refine Ev_go rfl ?_
  refine Ev_ca rfl ?_
  refine m_isSort n m sort ?_
  repeat refine Ev_go rfl ?_
  refine Ev_ifb (fun g1 => bad (Or.inl g1)) (fun g1 => ?_)
  repeat refine Ev_go rfl ?_
  refine Ev_if (fun g2 => ?_) (fun g2 => bad (Or.inr (by rw [fa_le] at g2; omega)))
  rw [fa_le] at g2
  rw [if_neg (fun e => e.elim (fun z => z g1) (fun z => by omega))] at hq
  repeat refine Ev_go rfl ?_
  refine Ev_ca rfl ?_
  refine M_shapes hI n m sort (fun f2 a2 hJ => ?_)
  unfold sp_shapes
  rw [if_neg (fun e => e g1)]
  repeat refine Ev_go rfl ?_
  refine Ev_if (fun g3 => ?_) (fun g3 => ?_)
  · rw [if_pos g3] at hq
    repeat refine Ev_go rfl ?_
    refine Ev_rt rfl ?_
    exact hq _ _ hJ
  · rw [if_neg g3] at hq
    obtain ⟨n', m', n1, n2, m1, m2, rfl, rfl⟩ := so_ex g1
    simp only [R2, nC, nI_clamp (show n' < 2 ^ 31 by omega), nI_clamp (show m' < 2 ^ 31 by omega)] at hq g3
    obtain ⟨lc, b1, b2, -⟩ := hI.2.1
    rw [show (f 10).toNatClampNeg = lc by rw [b2]; exact nI_clamp (by omega)] at hq
    have hR := pw_le n2 m2
    have hsome : ∀ l, ¬ (bsI a n' m' sort l (-9) (m' ^ (2 * n'))).1 < 0 := by
      intro l
      obtain ⟨q, q1, q2, q3⟩ := ctI_c (p := okR a n' m' sort) (m' ^ (2 * n'))
      by_cases hx : ∃ x, x < m' ^ (2 * n') ∧ okR a n' m' sort x
      · obtain ⟨x, x1, x2⟩ := hx
        exact bsI_some x x2 _ hR x1
      · refine absurd ?_ g3
        have : ∀ r, r ≤ m' ^ (2 * n') → ctI (okR a n' m' sort) r = 0 := by
          intro r
          induction r with
          | zero => intro _; rfl
          | succ r ih =>
            intro hr
            rw [ctI, ih (by omega), if_neg (fun z => hx ⟨r, by omega, z⟩)]
            rfl
        exact this _ (Nat.le_refl _)
    repeat refine Ev_go rfl ?_
    exact m_mend_loop hI n' m' n1 n2 m1 m2 sort v hsome lc b1 b2 hq lc 0 f2 a2 none (by omega) hJ
/-- the hull that goes for a freight, of the first h -/
def gfI (a : AA) (fr l : Int32) : Nat → Int32 × Int32
  | 0 => (-9, 0)
  | h + 1 => if (gfI a fr l h).2 < vlI fr a (a 0 h) (nC (a 1 h)) (hW a h) (hD a h) l (-9) ∧ fbI (a 9) (a 0 h) (nC (a 1 h)) (hW a h) (hD a h) < 0 then (nI h, vlI fr a (a 0 h) (nC (a 1 h)) (hW a h) (hD a h) l (-9)) else gfI a fr l h
theorem gfI_c (a : AA) (fr l : Int32) : ∀ h, (gfI a fr l h).1 = -9 ∨ ∃ q : Nat, q < h ∧ (gfI a fr l h).1 = nI q
  | 0 => Or.inl rfl
  | h + 1 => by
    rw [gfI]
    split
    · exact Or.inr ⟨h, Nat.lt_succ_self h, rfl⟩
    · rcases gfI_c a fr l h with e | ⟨q, h1, h2⟩
      · exact Or.inl e
      · exact Or.inr ⟨q, by omega, h2⟩
theorem m_goes_loop (hI : Inv f a) (fr l : Int32) (hl : isW f l ∨ l = -9) (hc : Nat) (h16 : hc ≤ 16) (hf : f 1 = nI hc) (hst : ∀ h, h < hc → ∃ n : Nat, 1 ≤ n ∧ n ≤ 8 ∧ a 1 h = nI n) (hq : ∀ f2 a2, Jk f a f2 a2 → Q (some (.int (gfI a fr l hc).1)) (mM σ f2 a2)) : ∀ (e h : Nat) (f2 : FF) (a2 : AA) (o6 : Option Value), h + e = hc → Jk f a f2 a2 → Ev kX12_goesFor (if f2 1 ≤ nI h then 61 else 18, [some (.ref 136), some (.int fr), some (.int l), some (.int (gfI a fr l h).1), some (.int (gfI a fr l h).2), some (.int (nI h)), o6], [], mM σ f2 a2) Q := by
  intro e
  induction e with
  | zero =>
    intro h f2 a2 o6 hr hJ
    have e1 : f2 1 = f 1 := hJ.1 1 (by decide) (by decide) (by decide) (by decide) (by decide) (by decide)
    have e : h = hc := by omega
    subst e
    rw [e1, hf]
    refine Ev_if (fun _ => ?_) (fun g1 => absurd (nI_le (Nat.le_refl _) (by omega)) g1)
    repeat refine Ev_go rfl ?_
    refine Ev_rt rfl ?_
    exact hq _ _ hJ
  | succ e ih =>
    intro h f2 a2 o6 hr hJ
    have e1 : f2 1 = f 1 := hJ.1 1 (by decide) (by decide) (by decide) (by decide) (by decide) (by decide)
    rw [e1, hf]
    refine Ev_if (fun g1 => absurd g1 (nI_ge (by omega) (by omega))) (fun _ => ?_)
    obtain ⟨n, n1, n2, n3⟩ := hst h (by omega)
    have en : nC (a 1 h) = n := by rw [n3]; exact nI_clamp (by omega)
    repeat refine Ev_go rfl ?_
    refine Ev_ca rfl ?_
    refine m_takeUp h n (by omega) n1 n2 (by rw [hJ.a 1]; exact n3) (fun f3 a3 hJ3 hC => ?_)
    rw [hJ.a 0, show hW a2 h = hW a h by unfold hW; rw [hJ.a 2], show hD a2 h = hD a h by unfold hD; rw [hJ.a 3]] at hC
    have hJ4 := hJ.tr hJ3
    have next : ∀ (x3 x4 : Int32) (o6 : Option Value), x3 = (gfI a fr l (h + 1)).1 → x4 = (gfI a fr l (h + 1)).2 → Ev kX12_goesFor (55, [some (.ref 136), some (.int fr), some (.int l), some (.int x3), some (.int x4), some (.int (nI h)), o6], [], mM σ f3 a3) Q := by
      intro x3 x4 o6 q3 q4
      subst q3
      subst q4
      repeat refine Ev_go rfl ?_
      rw [nI_1]
      exact ih (h + 1) f3 a3 _ (by omega) hJ4
    repeat refine Ev_go rfl ?_
    refine Ev_ca rfl ?_
    refine m_value hC (hI.jk hJ4) fr l _ (hl.imp (isW.jk hJ4) id) ?_
    rw [vlI.jk hJ4]
    repeat refine Ev_go rfl ?_
    refine Ev_if (fun g => ?_) (fun g => ?_)
    · refine next _ _ _ ?_ ?_ <;> (rw [gfI, en, if_neg (fun z => by have z := z.1; rw [fa_lt] at z; rw [fa_le] at g; omega)])
    · repeat refine Ev_go rfl ?_
      refine Ev_ca rfl ?_
      refine m_firstBroken hC ?_
      rw [hJ4.a 9]
      repeat refine Ev_go rfl ?_
      refine Ev_if (fun g2 => ?_) (fun g2 => ?_)
      · refine next _ _ _ ?_ ?_ <;> (rw [gfI, en, if_neg (fun z => by have z := z.2; rw [fa_lt] at z; rw [fa_le] at g2; omega)])
      · iterate 4 refine Ev_go rfl ?_
        refine next _ _ _ ?_ ?_ <;> (rw [gfI, en, if_pos ⟨by rw [fa_lt]; rw [fa_le] at g; omega, by rw [fa_lt]; rw [fa_le] at g2; omega⟩])
theorem m_goesFor (hI : Inv f a) (fr l : Int32) (hl : isW f l ∨ l = -9) (hq : ∀ f2 a2, Jk f a f2 a2 → Q (some (.int (gfI a fr l (nC (f 1))).1)) (mM σ f2 a2)) : Cs nX12_goesFor [.ref 136, .int fr, .int l] (mM σ f a) Q := by
  obtain ⟨hc, b1, b2, b3⟩ := hI.1
  rw [show nC (f 1) = hc by rw [b2]; exact nI_clamp (by omega)] at hq
  refine Cs_in (k := kX12_goesFor) [some (.ref 136), some (.int fr), some (.int l), none, none, none, none] rfl rfl ?_
  repeat refine Ev_go rfl ?_
  refine m_goes_loop hI fr l hl hc b1 b2 (fun h hh => ?_) hq hc 0 f a none (by omega) Jk.rf
  obtain ⟨-, n, n1, n2, n3, -⟩ := b3 h hh
  exact ⟨n, n1, n2, n3⟩
abbrev isF (x : Int32) : Prop := 1 ≤ x.toInt ∧ x.toInt ≤ 99
def sp_route (f : FF) (a : AA) (fr l : Int32) : Int32 := if nL f l then -1 else if isF fr then (gfI a fr l (nC (f 1))).1 else -2
theorem M_route (hI : Inv f a) (fr l : Int32) (hq : ∀ f2 a2, Jk f a f2 a2 → Q (some (.int (sp_route f a fr l))) (mM σ f2 a2)) : Cs nX12_route [.ref 136, .int fr, .int l] (mM σ f a) Q := by
  unfold sp_route at hq
  refine Cs_in (k := kX12_route) [some (.ref 136), some (.int fr), some (.int l)] rfl rfl ?_
  repeat refine Ev_go rfl ?_
  refine Ev_ca rfl ?_
  refine m_noneLaw l ?_
  repeat refine Ev_go rfl ?_
  refine Ev_ifb (fun g1 => ?_) (fun g1 => ?_)
  · rw [if_neg g1] at hq
    repeat refine Ev_go rfl ?_
    refine Ev_ca rfl ?_
    refine m_in fr.toInt 1 99 (fa_wide _) rfl rfl ?_
    repeat refine Ev_go rfl ?_
    refine Ev_ifb (fun g2 => ?_) (fun g2 => ?_)
    · rw [if_neg g2] at hq
      repeat refine Ev_go rfl ?_
      refine Ev_rt rfl ?_
      exact hq _ _ Jk.rf
    · rw [if_pos g2] at hq
      repeat refine Ev_go rfl ?_
      refine Ev_ca rfl ?_
      refine m_goesFor hI fr l (noneLaw_ok g1) (fun f2 a2 hJ => ?_)
      repeat refine Ev_go rfl ?_
      refine Ev_rt rfl ?_
      exact hq _ _ hJ
  · rw [if_pos g1] at hq
    repeat refine Ev_go rfl ?_
    refine Ev_rt rfl ?_
    exact hq _ _ Jk.rf
def pdI (a : AA) (l : Int32) (hc : Nat) : Nat → Int32
  | 0 => 0
  | k + 1 => pdI a l hc k + (if (gfI a (nI (k + 1)) l hc).1 < 0 then 0 else toI (hM a (nC (gfI a (nI (k + 1)) l hc).1)) a l (-9))
def sp_paid (f : FF) (a : AA) (fr l : Int32) : Int32 := if ¬ isW f l then -1 else if ¬ isF fr then -2 else pdI a l (nC (f 1)) (nC fr)
theorem gfI.jk {f f2 : FF} {a a2 : AA} (hJ : Jk f a f2 a2) (fr l : Int32) : ∀ h, gfI a2 fr l h = gfI a fr l h
  | 0 => rfl
  | h + 1 => by
    rw [gfI, gfI, gfI.jk hJ fr l h, vlI.jk hJ]
    unfold hW hD
    rw [hJ.a 0, hJ.a 1, hJ.a 2, hJ.a 3, hJ.a 9]
theorem m_paid_loop (hI : Inv f a) (fr : Nat) (l : Int32) (hl : isW f l) (hfr : fr ≤ 99) (hc : Nat) (h16 : hc ≤ 16) (hf : f 1 = nI hc) (hst : ∀ h, h < hc → ∃ n : Nat, 1 ≤ n ∧ n ≤ 8 ∧ a 1 h = nI n) (hq : ∀ f2 a2, Jk f a f2 a2 → Q (some (.int (pdI a l hc fr))) (mM σ f2 a2)) : ∀ (e k : Nat) (f2 : FF) (a2 : AA) (o5 : Option Value), k + e = fr → Jk f a f2 a2 → Ev kX12_paid (if nI fr < nI (k + 1) then 72 else 36, [some (.ref 136), some (.int (nI fr)), some (.int l), some (.int (pdI a l hc k)), some (.int (nI (k + 1))), o5], [], mM σ f2 a2) Q := by
  intro e
  induction e with
  | zero =>
    intro k f2 a2 o5 hr hJ
    have e : k = fr := by omega
    subst e
    refine Ev_if (fun _ => ?_) (fun g1 => absurd (nI_lt (Nat.lt_succ_self k) (by omega)) g1)
    repeat refine Ev_go rfl ?_
    refine Ev_rt rfl ?_
    exact hq _ _ hJ
  | succ e ih =>
    intro k f2 a2 o5 hr hJ
    have e1 : f2 1 = f 1 := hJ.1 1 (by decide) (by decide) (by decide) (by decide) (by decide) (by decide)
    refine Ev_if (fun g1 => absurd g1 (nI_nlt (by omega) (by omega))) (fun _ => ?_)
    repeat refine Ev_go rfl ?_
    refine Ev_ca rfl ?_
    refine m_goesFor (hI.jk hJ) (nI (k + 1)) l (Or.inl (isW.jk hJ hl)) (fun f3 a3 hJ3 => ?_)
    rw [gfI.jk hJ, e1, show nC (f 1) = hc by rw [hf]; exact nI_clamp (by omega)]
    have hJ4 := hJ.tr hJ3
    repeat refine Ev_go rfl ?_
    refine Ev_if (fun g => ?_) (fun g => ?_)
    · repeat refine Ev_go rfl ?_
      rw [nI_1]
      have := ih (k + 1) f3 a3 (some (.int (gfI a (nI (k + 1)) l hc).1)) (by omega) hJ4
      rw [pdI, if_pos g, show pdI a l hc k + 0 = pdI a l hc k from Int32.add_zero _] at this
      exact this
    · rcases gfI_c a (nI (k + 1)) l hc with e | ⟨q, q1, q2⟩
      · rw [e] at g; exact absurd (by decide) g
      · obtain ⟨n, n1, n2, n3⟩ := hst q (by omega)
        have en : nC (a 1 q) = n := by rw [n3]; exact nI_clamp (by omega)
        rw [q2]
        repeat refine Ev_go rfl ?_
        refine Ev_ca rfl ?_
        refine m_takeUp q n (by omega) n1 n2 (by rw [hJ4.a 1]; exact n3) (fun f5 a5 hJ5 hC => ?_)
        rw [hJ4.a 0, show hW a3 q = hW a q by unfold hW; rw [hJ4.a 2], show hD a3 q = hD a q by unfold hD; rw [hJ4.a 3]] at hC
        have hJ6 := hJ4.tr hJ5
        repeat refine Ev_go rfl ?_
        refine Ev_ca rfl ?_
        refine m_toll hC (hI.jk hJ6) l _ (Or.inl (isW.jk hJ6 hl)) ?_
        rw [toI.jk hJ6]
        repeat refine Ev_go rfl ?_
        rw [nI_1]
        have := ih (k + 1) f5 a5 (some (.int (gfI a (nI (k + 1)) l hc).1)) (by omega) hJ6
        rw [pdI, if_neg g, q2, show nC (nI q) = q from nI_clamp (by omega), hM, en] at this
        exact this
theorem M_paid (hI : Inv f a) (fr l : Int32) (hq : ∀ f2 a2, Jk f a f2 a2 → Q (some (.int (sp_paid f a fr l))) (mM σ f2 a2)) : Cs nX12_paid [.ref 136, .int fr, .int l] (mM σ f a) Q := by
  unfold sp_paid at hq
  refine Cs_in (k := kX12_paid) [some (.ref 136), some (.int fr), some (.int l), none, none, none] rfl rfl ?_
  repeat refine Ev_go rfl ?_
  refine Ev_ca rfl ?_
  refine m_noLaw l ?_
  repeat refine Ev_go rfl ?_
  refine Ev_ifb (fun g1 => ?_) (fun g1 => ?_)
  · rw [if_neg g1] at hq
    have g1 := Decidable.not_not.mp g1
    repeat refine Ev_go rfl ?_
    refine Ev_ca rfl ?_
    refine m_in fr.toInt 1 99 (fa_wide _) rfl rfl ?_
    repeat refine Ev_go rfl ?_
    refine Ev_ifb (fun g2 => ?_) (fun g2 => ?_)
    · rw [if_pos g2] at hq
      repeat refine Ev_go rfl ?_
      refine Ev_rt rfl ?_
      exact hq _ _ Jk.rf
    · rw [if_neg (fun e => e g2)] at hq
      obtain ⟨fr', p1, p2, rfl⟩ := nI_ex (x := fr) 99 g2
      obtain ⟨hc, b1, b2, b3⟩ := hI.1
      rw [show nC (f 1) = hc by rw [b2]; exact nI_clamp (by omega), show nC (nI fr') = fr' from nI_clamp (by omega)] at hq
      repeat refine Ev_go rfl ?_
      refine m_paid_loop hI fr' l g1 p1 hc b1 b2 (fun h hh => ?_) hq fr' 0 f a none (by omega) Jk.rf
      obtain ⟨-, n, n1, n2, n3, -⟩ := b3 h hh
      exact ⟨n, n1, n2, n3⟩
  · rw [if_pos g1] at hq
    repeat refine Ev_go rfl ?_
    refine Ev_rt rfl ?_
    exact hq _ _ Jk.rf
end RT
