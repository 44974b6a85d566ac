/-! the model: needs -/
/-- the first from x on, of d -/
def fsI (p : Nat → Prop) [DecidablePred p] : Nat → Nat → Int32
  | 0, _ => -9
  | d + 1, x => if p x then nI x else fsI p d (x + 1)
def byI (n : Nat) (w : Nat → Int32) (x : Nat) : Int32 := if x + 1 < n then w x - w (x + 1) else 0
abbrev b0P (nv : Nat → Int32) (n : Nat) (w : Nat → Int32) (x : Nat) : Prop := nv 0 < gtI (byI n w x) (-byI n w x)
abbrev b1P (nv : Nat → Int32) (w d : Nat → Int32) (x : Nat) : Prop := w x + nv 1 < d x
abbrev b2P (nv : Nat → Int32) (n : Nat) (w : Nat → Int32) (x : Nat) : Prop := (x = 0 ∨ x = n - 1) ∧ nv 2 < w x
/-- where a need is broken first, or -9 -/
def brI (nv : Nat → Int32) (kd : Int32) (n : Nat) (w d : Nat → Int32) (need : Nat) : Int32 := match need with
  | 0 => fsI (b0P nv n w) n 0
  | 1 => fsI (b1P nv w d) n 0
  | 2 => fsI (b2P nv n w) n 0
  | _ => if nv 3 ≤ rmI kd n w d then -9 else 0
/-- the first need that is broken, or -9 -/
def fbI (nv : Nat → Int32) (kd : Int32) (n : Nat) (w d : Nat → Int32) : Int32 := if brI nv kd n w d 0 < 0 then (if brI nv kd n w d 1 < 0 then (if brI nv kd n w d 2 < 0 then (if brI nv kd n w d 3 < 0 then -9 else 3) else 2) else 1) else 0
theorem m_breaks_body {σ : kt_H} {f : FF} {a : AA} {Q : Option Value → kt_H → Prop} {kd : Int32} {n : Nat} {w d : Nat → Int32} (hC : Cur f a kd n w d) (need : Int32) (x : Nat) (hx : x < n) (o3 o4 o5 o6 : Option Value)
    (h : ∀ p3 : Int32, Ev kX12_breaksAt (152, [some (.ref 136), some (.int need), some (.int (nI x)), some (.int p3), some (.int (bI (b0P (a 9) n w x))), some (.int (bI (b1P (a 9) w d x))), some (.int (bI (b2P (a 9) n w x)))], [], mM σ f a) Q) : Ev kX12_breaksAt (35, [some (.ref 136), some (.int need), some (.int (nI x)), o3, o4, o5, o6], [], mM σ f a) Q := by
  obtain ⟨c1, c2, c3, c4, c5, c6⟩ := hC
  have s150 : ∀ (p3 : Int32) (y : Int32), y = bI (b2P (a 9) n w x) → Ev kX12_breaksAt (150, [some (.ref 136), some (.int need), some (.int (nI x)), some (.int p3), some (.int (bI (b0P (a 9) n w x))), some (.int (bI (b1P (a 9) w d x))), o6], [.int y], mM σ f a) Q := by
    intro p3 y hy
    subst hy
    iterate 1 refine Ev_go rfl ?_
    exact h _
  have s130 : ∀ (p3 : Int32), (x = 0 ∨ x = n - 1) → Ev kX12_breaksAt (130, [some (.ref 136), some (.int need), some (.int (nI x)), some (.int p3), some (.int (bI (b0P (a 9) n w x))), some (.int (bI (b1P (a 9) w d x))), o6], [], mM σ f a) Q := by
    intro p3 he
    repeat refine Ev_go rfl ?_
    refine Ev_ial x rfl rfl rfl (by omega) (by decide) ?_
    rw [c5 x hx]
    repeat refine Ev_go rfl ?_
    refine Ev_if (fun g => ?_) (fun g => ?_)
    · iterate 1 refine Ev_go rfl ?_
      exact s150 _ _ (bI_f (fun e => by have e := e.2; rw [fa_lt] at e; rw [fa_le] at g; have g : (w x).toInt ≤ (a 9 2).toInt := g; omega)).symm
    · iterate 2 refine Ev_go rfl ?_
      exact s150 _ _ (bI_t ⟨he, by rw [fa_lt]; rw [fa_le] at g; have g : ¬ (w x).toInt ≤ (a 9 2).toInt := g; omega⟩).symm
  have s114 : ∀ (p3 : Int32) (y : Int32), y = bI (b1P (a 9) w d x) → Ev kX12_breaksAt (114, [some (.ref 136), some (.int need), some (.int (nI x)), some (.int p3), some (.int (bI (b0P (a 9) n w x))), o5, o6], [.int y], mM σ f a) Q := by
    intro p3 y hy
    subst hy
    repeat refine Ev_go rfl ?_
    refine Ev_if (fun g => ?_) (fun g => ?_)
    · have g : x = 0 := (nI_eq (b := 0) (by omega) (by decide)).mp g
      exact s130 _ (Or.inl g)
    · have g : x ≠ 0 := fun e => g (by rw [e]; rfl)
      repeat refine Ev_go rfl ?_
      rw [c2]
      refine Ev_if (fun g2 => ?_) (fun g2 => ?_)
      · rw [show nI n - 1 = nI (n - 1) from pk_sub (b := 1) (by omega), nI_eq (by omega) (by omega)] at g2
        exact s130 _ (Or.inr g2)
      · rw [show nI n - 1 = nI (n - 1) from pk_sub (b := 1) (by omega), nI_eq (by omega) (by omega)] at g2
        iterate 1 refine Ev_go rfl ?_
        exact s150 _ _ (bI_f (fun e => e.1.elim g g2)).symm
  have s85 : ∀ (p3 : Int32) (y : Int32), y = bI (b0P (a 9) n w x) → Ev kX12_breaksAt (85, [some (.ref 136), some (.int need), some (.int (nI x)), some (.int p3), o4, o5, o6], [.int y], mM σ f a) Q := by
    intro p3 y hy
    subst hy
    repeat refine Ev_go rfl ?_
    refine Ev_ial x rfl rfl rfl (by omega) (by decide) ?_
    repeat refine Ev_go rfl ?_
    refine Ev_ial x rfl rfl rfl (by omega) (by decide) ?_
    rw [c5 x hx, c6 x hx]
    repeat refine Ev_go rfl ?_
    refine Ev_if (fun g => ?_) (fun g => ?_)
    · iterate 1 refine Ev_go rfl ?_
      exact s114 _ _ (bI_f (fun e => by rw [b1P, fa_lt] at e; rw [fa_le] at g; have g : (d x).toInt ≤ (w x + a 9 1).toInt := g; omega)).symm
    · iterate 2 refine Ev_go rfl ?_
      exact s114 _ _ (bI_t (by rw [b1P, fa_lt]; rw [fa_le] at g; have g : ¬ (d x).toInt ≤ (w x + a 9 1).toInt := g; omega)).symm
  have s64 : ∀ y : Int32, y = byI n w x → Ev kX12_breaksAt (64, [some (.ref 136), some (.int need), some (.int (nI x)), o3, o4, o5, o6], [.int y], mM σ f a) Q := by
    intro y hy
    subst hy
    repeat refine Ev_go rfl ?_
    refine Ev_ca rfl ?_
    refine m_greater _ _ ?_
    repeat refine Ev_go rfl ?_
    refine Ev_if (fun g => ?_) (fun g => ?_)
    · iterate 1 refine Ev_go rfl ?_
      exact s85 _ _ (bI_f (fun e => by rw [b0P, fa_lt] at e; rw [fa_le] at g; have g : (gtI (byI n w x) (-byI n w x)).toInt ≤ (a 9 0).toInt := g; omega)).symm
    · iterate 2 refine Ev_go rfl ?_
      exact s85 _ _ (bI_t (by rw [b0P, fa_lt]; rw [fa_le] at g; have g : ¬ (gtI (byI n w x) (-byI n w x)).toInt ≤ (a 9 0).toInt := g; omega)).symm
  repeat refine Ev_go rfl ?_
  rw [c2, nI_1]
  refine Ev_if (fun g => ?_) (fun g => ?_)
  · have g : ¬ x + 1 < n := fun e => absurd g (nI_ge e (by omega))
    iterate 1 refine Ev_go rfl ?_
    exact s64 _ (by unfold byI; rw [if_neg g])
  · have g : x + 1 < n := by
      rcases Nat.lt_or_ge (x + 1) n with e | e
      · exact e
      · exact absurd (nI_le e (by omega)) g
    repeat refine Ev_go rfl ?_
    refine Ev_ial x rfl rfl rfl (by omega) (by decide) ?_
    repeat refine Ev_go rfl ?_
    refine Ev_ial (x + 1) rfl rfl (nI_1 x) (by omega) (by decide) ?_
    rw [c5 x hx, c5 (x + 1) g]
    iterate 2 refine Ev_go rfl ?_
    exact s64 _ (by unfold byI; rw [if_pos g])
theorem m_br_loop {σ : kt_H} {f : FF} {a : AA} {Q : Option Value → kt_H → Prop} {kd : Int32} {n : Nat} {w d : Nat → Int32} (hC : Cur f a kd n w d) (need : Int32) (p : Nat → Prop) [DecidablePred p]
    (hsel : ∀ (x : Nat) (p3 : Int32), x < n → (p x → ∀ o4 o5 o6 o3, Ev kX12_breaksAt (182, [some (.ref 136), some (.int need), some (.int (nI x)), o3, o4, o5, o6], [], mM σ f a) Q) → (¬ p x → ∀ o4 o5 o6 o3, Ev kX12_breaksAt (184, [some (.ref 136), some (.int need), some (.int (nI x)), o3, o4, o5, o6], [], mM σ f a) Q) → Ev kX12_breaksAt (152, [some (.ref 136), some (.int need), some (.int (nI x)), some (.int p3), some (.int (bI (b0P (a 9) n w x))), some (.int (bI (b1P (a 9) w d x))), some (.int (bI (b2P (a 9) n w x)))], [], mM σ f a) Q) : ∀ (e x : Nat) (o3 o4 o5 o6 : Option Value), x + e = n → Q (some (.int (fsI p e x))) (mM σ f a) → Ev kX12_breaksAt (if f 7 ≤ nI x then 190 else 35, [some (.ref 136), some (.int need), some (.int (nI x)), o3, o4, o5, o6], [], mM σ f a) Q := by
  have c2 := hC.2.1
  have c4 := hC.2.2.2.1
  intro e
  induction e with
  | zero =>
    intro x o3 o4 o5 o6 hx hq
    have e : x = n := by omega
    subst e
    rw [c2]
    refine Ev_if (fun _ => ?_) (fun g1 => absurd (nI_le (Nat.le_refl x) (by omega)) g1)
    repeat refine Ev_go rfl ?_
    refine Ev_rt rfl ?_
    exact hq
  | succ e ih =>
    intro x o3 o4 o5 o6 hx hq
    rw [c2]
    refine Ev_if (fun g1 => absurd g1 (nI_ge (by omega) (by omega))) (fun _ => ?_)
    rw [fsI] at hq
    refine m_breaks_body hC need x (by omega) o3 o4 o5 o6 (fun p3 => ?_)
    refine hsel x p3 (by omega) (fun g o4 o5 o6 o3 => ?_) (fun g o4 o5 o6 o3 => ?_)
    · rw [if_pos g] at hq
      repeat refine Ev_go rfl ?_
      refine Ev_rt rfl ?_
      exact hq
    · rw [if_neg g] at hq
      repeat refine Ev_go rfl ?_
      rw [nI_1]
      exact ih (x + 1) _ _ _ _ (by omega) hq
theorem m_breaksAt {σ : kt_H} {f : FF} {a : AA} {Q : Option Value → kt_H → Prop} {kd : Int32} {n : Nat} {w d : Nat → Int32} (hC : Cur f a kd n w d) (need : Nat) (hn : need ≤ 3) (hq : Q (some (.int (brI (a 9) kd n w d need))) (mM σ f a)) : Cs nX12_breaksAt [.ref 136, .int (nI need)] (mM σ f a) Q := by
  refine Cs_in (k := kX12_breaksAt) [some (.ref 136), some (.int (nI need)), none, none, none, none, none] rfl rfl ?_
  rcases (show need = 0 ∨ need = 1 ∨ need = 2 ∨ need = 3 by omega) with rfl | rfl | rfl | rfl
  · repeat refine Ev_go rfl ?_
    refine m_br_loop hC (nI 0) (b0P (a 9) n w) (fun x p3 hx h1 h2 => ?_) n 0 none none none none (by omega) hq
    repeat refine Ev_go rfl ?_
    refine Ev_ifb (fun g => h2 g _ _ _ _) (fun g => ?_)
    iterate 1 refine Ev_go rfl ?_
    exact h1 g _ _ _ _
  · repeat refine Ev_go rfl ?_
    refine m_br_loop hC (nI 1) (b1P (a 9) w d) (fun x p3 hx h1 h2 => ?_) n 0 none none none none (by omega) hq
    repeat refine Ev_go rfl ?_
    refine Ev_ifb (fun g => h2 g _ _ _ _) (fun g => ?_)
    iterate 1 refine Ev_go rfl ?_
    exact h1 g _ _ _ _
  · repeat refine Ev_go rfl ?_
    refine m_br_loop hC (nI 2) (b2P (a 9) n w) (fun x p3 hx h1 h2 => ?_) n 0 none none none none (by omega) hq
    repeat refine Ev_go rfl ?_
    refine Ev_ifb (fun g => h2 g _ _ _ _) (fun g => ?_)
    exact h1 g _ _ _ _
  · repeat refine Ev_go rfl ?_
    refine Ev_ca rfl ?_
    refine m_room hC ?_
    repeat refine Ev_go rfl ?_
    have hq : Q (some (.int (if a 9 3 ≤ rmI kd n w d then -9 else 0))) (mM σ f a) := hq
    refine Ev_if (fun g => ?_) (fun g => ?_)
    · have g : a 9 3 ≤ rmI kd n w d := g
      rw [if_pos g] at hq
      repeat refine Ev_go rfl ?_
      refine Ev_rt rfl ?_
      exact hq
    · have g : ¬ a 9 3 ≤ rmI kd n w d := g
      rw [if_neg g] at hq
      repeat refine Ev_go rfl ?_
      refine Ev_rt rfl ?_
      exact hq
theorem m_firstBroken {σ : kt_H} {f : FF} {a : AA} {Q : Option Value → kt_H → Prop} {kd : Int32} {n : Nat} {w d : Nat → Int32} (hC : Cur f a kd n w d) (hq : Q (some (.int (fbI (a 9) kd n w d))) (mM σ f a)) : Cs nX12_firstBroken [.ref 136] (mM σ f a) Q := by
  unfold fbI at hq
  refine Cs_in (k := kX12_firstBroken) [some (.ref 136), none] rfl rfl ?_
  repeat refine Ev_go rfl ?_
  refine Ev_ca rfl ?_
  refine m_breaksAt hC 0 (by decide) ?_
  repeat refine Ev_go rfl ?_
  refine Ev_if (fun g0 => ?_) (fun g0 => ?_)
  · rw [if_pos g0] at hq
    repeat refine Ev_go rfl ?_
    refine Ev_ca rfl ?_
    refine m_breaksAt hC 1 (by decide) ?_
    repeat refine Ev_go rfl ?_
    refine Ev_if (fun g1 => ?_) (fun g1 => ?_)
    · rw [if_pos g1] at hq
      repeat refine Ev_go rfl ?_
      refine Ev_ca rfl ?_
      refine m_breaksAt hC 2 (by decide) ?_
      repeat refine Ev_go rfl ?_
      refine Ev_if (fun g2 => ?_) (fun g2 => ?_)
      · rw [if_pos g2] at hq
        repeat refine Ev_go rfl ?_
        refine Ev_ca rfl ?_
        refine m_breaksAt hC 3 (by decide) ?_
        repeat refine Ev_go rfl ?_
        refine Ev_if (fun g3 => ?_) (fun g3 => ?_)
        · rw [if_pos g3] at hq
          repeat refine Ev_go rfl ?_
          refine Ev_rt rfl ?_
          exact hq
        · rw [if_neg g3] at hq
          repeat refine Ev_go rfl ?_
          refine Ev_rt rfl ?_
          exact hq
      · rw [if_neg g2] at hq
        repeat refine Ev_go rfl ?_
        refine Ev_rt rfl ?_
        exact hq
    · rw [if_neg g1] at hq
      repeat refine Ev_go rfl ?_
      refine Ev_rt rfl ?_
      exact hq
  · rw [if_neg g0] at hq
    repeat refine Ev_go rfl ?_
    refine Ev_rt rfl ?_
    exact hq
def sp_broken (f : FF) (a : AA) (h what : Int32) : Int32 := if ¬ isH f h then -1 else if ¬ (0 ≤ what.toInt ∧ what.toInt ≤ 1) then -2
  else if what = 0 ∨ fbI (a 9) (a 0 (nC h)) (nC (a 1 (nC h))) (hW a (nC h)) (hD a (nC h)) < 0 then fbI (a 9) (a 0 (nC h)) (nC (a 1 (nC h))) (hW a (nC h)) (hD a (nC h)) else brI (a 9) (a 0 (nC h)) (nC (a 1 (nC h))) (hW a (nC h)) (hD a (nC h)) (nC (fbI (a 9) (a 0 (nC h)) (nC (a 1 (nC h))) (hW a (nC h)) (hD a (nC h))))
theorem fbI_c (nv : Nat → Int32) (kd : Int32) (n : Nat) (w d : Nat → Int32) : fbI nv kd n w d = -9 ∨ ∃ q : Nat, q ≤ 3 ∧ fbI nv kd n w d = nI q := by
  unfold fbI
  split
  · split
    · split
      · split
        · exact Or.inl rfl
        · exact Or.inr ⟨3, by decide, rfl⟩
      · exact Or.inr ⟨2, by decide, rfl⟩
    · exact Or.inr ⟨1, by decide, rfl⟩
  · exact Or.inr ⟨0, by decide, rfl⟩
theorem M_broken {σ : kt_H} {f : FF} {a : AA} {Q : Option Value → kt_H → Prop} (hI : Inv f a) (h what : Int32) (hq : ∀ f2 a2, Jk f a f2 a2 → Q (some (.int (sp_broken f a h what))) (mM σ f2 a2)) : Cs nX12_broken [.ref 136, .int h, .int what] (mM σ f a) Q := by
  unfold sp_broken at hq
  refine Cs_in (k := kX12_broken) [some (.ref 136), some (.int h), some (.int what), none] rfl rfl ?_
  repeat refine Ev_go rfl ?_
  refine Ev_ca rfl ?_
  refine m_noHull h ?_
  repeat refine Ev_go rfl ?_
  refine Ev_ifb (fun g1 => ?_) (fun g1 => ?_)
  · rw [if_neg g1] at hq
    have g1 := Decidable.not_not.mp g1
    repeat refine Ev_go rfl ?_
    refine Ev_ca rfl ?_
    refine m_in what.toInt 0 1 (fa_wide _) rfl rfl ?_
    repeat refine Ev_go rfl ?_
    refine Ev_ifb (fun g2 => ?_) (fun g2 => ?_)
    · rw [if_pos g2] at hq
      repeat refine Ev_go rfl ?_
      refine Ev_rt rfl ?_
      exact hq _ _ Jk.rf
    · rw [if_neg (fun e => e g2)] at hq
      obtain ⟨h', c1, rfl, hk, n, n1, n2, n3, -⟩ := Inv_h hI g1
      simp only [nC, nI_clamp (show h' < 2 ^ 31 by omega), n3, nI_clamp (show n < 2 ^ 31 by omega)] at hq
      repeat refine Ev_go rfl ?_
      refine Ev_ca rfl ?_
      refine m_takeUp h' n c1 n1 n2 n3 (fun f2 a2 hJ hC => ?_)
      have hq := hq _ _ hJ
      repeat refine Ev_go rfl ?_
      refine Ev_ca rfl ?_
      refine m_firstBroken hC ?_
      rw [hJ.a 9]
      repeat refine Ev_go rfl ?_
      refine Ev_if (fun g3 => ?_) (fun g3 => ?_)
      · rw [if_pos (Or.inl g3)] at hq
        repeat refine Ev_go rfl ?_
        refine Ev_rt rfl ?_
        exact hq
      · repeat refine Ev_go rfl ?_
        refine Ev_if (fun g4 => ?_) (fun g4 => ?_)
        · rw [if_neg (fun e => e.elim g3 (fun z => by rw [fa_lt] at z; rw [fa_le] at g4; omega))] at hq
          rcases fbI_c (a 9) (a 0 h') n (hW a h') (hD a h') with e | ⟨q, q1, q2⟩
          · rw [e] at g4; exact absurd g4 (by decide)
          · rw [q2]
            rw [q2, show (nI q).toNatClampNeg = q from nI_clamp (by omega)] at hq
            repeat refine Ev_go rfl ?_
            refine Ev_ca rfl ?_
            refine m_breaksAt hC q q1 ?_
            rw [hJ.a 9]
            refine Ev_rt rfl ?_
            exact hq
        · rw [if_pos (Or.inr (by rw [fa_lt]; rw [fa_le] at g4; omega))] at hq
          repeat refine Ev_go rfl ?_
          refine Ev_rt rfl ?_
          exact hq
  · rw [if_pos g1] at hq
    repeat refine Ev_go rfl ?_
    refine Ev_rt rfl ?_
    exact hq _ _ Jk.rf
