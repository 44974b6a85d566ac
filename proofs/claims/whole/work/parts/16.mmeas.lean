/-! the model: the hull that is taken up, and its measures -/
/-- greater(a, b) -/
def gtI (a b : Int32) : Int32 := if b < a then a else b
def mxI (v : Nat → Int32) : Nat → Int32
  | 0 => 0
  | n + 1 => gtI (mxI v n) (v n)
def dtI (s : Int32) (w d : Nat → Int32) : Nat → Int32
  | 0 => s
  | n + 1 => dtI s w d n + w n * d n
/-- the measure 'what' of a hull of the kind kd with n stations -/
def msr (kd : Int32) (n : Nat) (w d : Nat → Int32) (what : Nat) : Int32 := match what with
  | 0 => if kd = 2 then gtI 0 (nI n - 2) else nI n
  | 1 => mxI w n
  | 2 => w (n / 2)
  | 3 => smI w n
  | 4 => mxI d n
  | 5 => d (n / 2)
  | 6 => smI d n
  | 7 => if kd ≤ 0 then 0 else 1
  | _ => smI d n
def rmI (kd : Int32) (n : Nat) (w d : Nat → Int32) : Int32 := dtI (if kd ≤ 0 then 0 else smI w n) w d n
def prI (pl : Int32) (kd : Int32) (n : Nat) (w d : Nat → Int32) : Int32 := pl * (smI w n + 2 * smI d n)
/-- the model's scratch holds the hull -/
def Cur (f : FF) (a : AA) (kd : Int32) (n : Nat) (w d : Nat → Int32) : Prop := f 6 = kd ∧ f 7 = nI n ∧ 1 ≤ n ∧ n ≤ 8 ∧ (∀ x, x < n → a 4 x = w x) ∧ ∀ x, x < n → a 5 x = d x
theorem smI_c {v w : Nat → Int32} : ∀ {n : Nat}, (∀ x, x < n → v x = w x) → smI v n = smI w n
  | 0, _ => rfl
  | n + 1, h => by
    rw [smI, smI, smI_c (fun x hx => h x (by omega)), h n (by omega)]
theorem mxI_c {v w : Nat → Int32} : ∀ {n : Nat}, (∀ x, x < n → v x = w x) → mxI v n = mxI w n
  | 0, _ => rfl
  | n + 1, h => by
    rw [mxI, mxI, mxI_c (fun x hx => h x (by omega)), h n (by omega)]
theorem m_meas_loop {σ : kt_H} {f : FF} {a : AA} {Q : Option Value → kt_H → Prop} (n : Nat) (hn : n ≤ 8) (hf : f 7 = nI n) (what : Int32) (v : Nat → Int32) (hv : ∀ x, x < n → v x = if 4 ≤ what then a 5 x else a 4 x) (h : ∀ o, Ev kX12_measure (58, [some (.ref 136), some (.int what), some (.int (mxI v n)), some (.int (smI v n)), some (.int (nI n)), o], [], mM σ f a) Q) : ∀ (d x : Nat) (o : Option Value), x + d = n → Ev kX12_measure (if f 7 ≤ nI x then 58 else 16, [some (.ref 136), some (.int what), some (.int (mxI v x)), some (.int (smI v x)), some (.int (nI x)), o], [], mM σ f a) Q := by
  intro d
  induction d with
  | zero =>
    intro x o hx
    have e : x = n := by omega
    subst e
    rw [hf]
    exact Ev_if (fun _ => h o) (fun g1 => absurd (nI_le (Nat.le_refl x) (by omega)) g1)
  | succ d ih =>
    intro x o hx
    rw [hf]
    refine Ev_if (fun g1 => absurd g1 (nI_ge (by omega) (by omega))) (fun _ => ?_)
    have fin : ∀ y : Int32, y = v x → Ev kX12_measure (38, [some (.ref 136), some (.int what), some (.int (mxI v x)), some (.int (smI v x)), some (.int (nI x)), o], [.int y], mM σ f a) Q := by
      intro y hy
      subst hy
      repeat refine Ev_go rfl ?_
      refine Ev_ca rfl ?_
      refine m_greater _ _ ?_
      repeat refine Ev_go rfl ?_
      rw [nI_1]
      exact ih (x + 1) _ (by omega)
    repeat refine Ev_go rfl ?_
    refine Ev_if (fun g2 => ?_) (fun g2 => ?_)
    · repeat refine Ev_go rfl ?_
      refine Ev_ial x rfl rfl rfl (by omega) (by decide) ?_
      exact fin _ (by rw [hv x (by omega), if_pos g2])
    · repeat refine Ev_go rfl ?_
      refine Ev_ial x rfl rfl rfl (by omega) (by decide) ?_
      iterate 1 refine Ev_go rfl ?_
      exact fin _ (by rw [hv x (by omega), if_neg g2])
theorem nI_half (n : Nat) (h : n < 2 ^ 31) : nI n / 2 = nI (n / 2) := pk_div h (by decide) (by decide)
theorem m_measure {σ : kt_H} {f : FF} {a : AA} {Q : Option Value → kt_H → Prop} {kd : Int32} {n : Nat} {w d : Nat → Int32} (hC : Cur f a kd n w d) (what : Nat) (hw : what ≤ 7) (hq : Q (some (.int (msr kd n w d what))) (mM σ f a)) : Cs nX12_measure [.ref 136, .int (nI what)] (mM σ f a) Q := by
  obtain ⟨c1, c2, c3, c4, c5, c6⟩ := hC
  refine Cs_in (k := kX12_measure) [some (.ref 136), some (.int (nI what)), none, none, none, none] rfl rfl ?_
  rcases (show what = 0 ∨ what = 1 ∨ what = 2 ∨ what = 3 ∨ what = 4 ∨ what = 5 ∨ what = 6 ∨ what = 7 by omega) with rfl | rfl | rfl | rfl | rfl | rfl | rfl | rfl
  · repeat refine Ev_go rfl ?_
    refine m_meas_loop n c4 c2 (nI 0) w (fun x hx => by rw [if_neg (by decide), c5 x hx]) (fun o => ?_) n 0 none (by omega)
    repeat refine Ev_go rfl ?_
    refine Ev_if (fun g1 => ?_) (fun g1 => ?_)
    · rw [c1] at g1
      simp only [msr, if_pos g1] at hq
      repeat refine Ev_go rfl ?_
      refine Ev_ca rfl ?_
      refine m_greater _ _ ?_
      repeat refine Ev_go rfl ?_
      refine Ev_rt rfl ?_
      rw [c2]
      exact hq
    · rw [c1] at g1
      simp only [msr, if_neg g1] at hq
      repeat refine Ev_go rfl ?_
      refine Ev_rt rfl ?_
      rw [c2]
      exact hq
  · repeat refine Ev_go rfl ?_
    refine m_meas_loop n c4 c2 (nI 1) w (fun x hx => by rw [if_neg (by decide), c5 x hx]) (fun o => ?_) n 0 none (by omega)
    repeat refine Ev_go rfl ?_
    refine Ev_rt rfl ?_
    exact hq
  · repeat refine Ev_go rfl ?_
    refine m_meas_loop n c4 c2 (nI 2) w (fun x hx => by rw [if_neg (by decide), c5 x hx]) (fun o => ?_) n 0 none (by omega)
    repeat refine Ev_go rfl ?_
    refine Ev_ial (n / 2) rfl rfl (by rw [c2]; exact nI_half n (by omega)) (by omega) (by decide) ?_
    refine Ev_rt rfl ?_
    rw [c5 _ (by omega)]
    exact hq
  · repeat refine Ev_go rfl ?_
    refine m_meas_loop n c4 c2 (nI 3) w (fun x hx => by rw [if_neg (by decide), c5 x hx]) (fun o => ?_) n 0 none (by omega)
    repeat refine Ev_go rfl ?_
    refine Ev_rt rfl ?_
    exact hq
  · repeat refine Ev_go rfl ?_
    refine m_meas_loop n c4 c2 (nI 4) d (fun x hx => by rw [if_pos (by decide), c6 x hx]) (fun o => ?_) n 0 none (by omega)
    repeat refine Ev_go rfl ?_
    refine Ev_rt rfl ?_
    exact hq
  · repeat refine Ev_go rfl ?_
    refine m_meas_loop n c4 c2 (nI 5) d (fun x hx => by rw [if_pos (by decide), c6 x hx]) (fun o => ?_) n 0 none (by omega)
    repeat refine Ev_go rfl ?_
    refine Ev_ial (n / 2) rfl rfl (by rw [c2]; exact nI_half n (by omega)) (by omega) (by decide) ?_
    refine Ev_rt rfl ?_
    rw [c6 _ (by omega)]
    exact hq
  · repeat refine Ev_go rfl ?_
    refine m_meas_loop n c4 c2 (nI 6) d (fun x hx => by rw [if_pos (by decide), c6 x hx]) (fun o => ?_) n 0 none (by omega)
    repeat refine Ev_go rfl ?_
    refine Ev_rt rfl ?_
    exact hq
  · repeat refine Ev_go rfl ?_
    refine m_meas_loop n c4 c2 (nI 7) d (fun x hx => by rw [if_pos (by decide), c6 x hx]) (fun o => ?_) n 0 none (by omega)
    repeat refine Ev_go rfl ?_
    refine Ev_if (fun g1 => ?_) (fun g1 => ?_)
    · rw [c1] at g1
      simp only [msr, if_pos g1] at hq
      repeat refine Ev_go rfl ?_
      refine Ev_rt rfl ?_
      exact hq
    · rw [c1] at g1
      simp only [msr, if_neg g1] at hq
      repeat refine Ev_go rfl ?_
      refine Ev_rt rfl ?_
      exact hq
theorem m_room_loop {σ : kt_H} {f : FF} {a : AA} {Q : Option Value → kt_H → Prop} {kd : Int32} {n : Nat} {w d : Nat → Int32} (hC : Cur f a kd n w d) (s : Int32) (h : Q (some (.int (dtI s w d n))) (mM σ f a)) : ∀ (e x : Nat), x + e = n → Ev kX12_room (if f 7 ≤ nI x then 49 else 27, [some (.ref 136), some (.int (dtI s w d x)), some (.int (nI x))], [], mM σ f a) Q := by
  obtain ⟨c1, c2, c3, c4, c5, c6⟩ := hC
  intro e
  induction e with
  | zero =>
    intro x hx
    have e : x = n := by omega
    subst e
    rw [c2]
    refine Ev_if (fun _ => ?_) (fun g1 => absurd (nI_le (Nat.le_refl x) (by omega)) g1)
    repeat refine Ev_go rfl ?_
    refine Ev_rt rfl ?_
    exact h
  | succ e ih =>
    intro x hx
    rw [c2]
    refine Ev_if (fun g1 => absurd g1 (nI_ge (by omega) (by omega))) (fun _ => ?_)
    repeat refine Ev_go rfl ?_
    refine Ev_ial x rfl rfl rfl (by omega) (by decide) ?_
    repeat refine Ev_go rfl ?_
    refine Ev_ial x rfl rfl rfl (by omega) (by decide) ?_
    rw [c5 x (by omega), c6 x (by omega)]
    repeat refine Ev_go rfl ?_
    rw [nI_1]
    exact ih (x + 1) (by omega)
theorem m_room {σ : kt_H} {f : FF} {a : AA} {Q : Option Value → kt_H → Prop} {kd : Int32} {n : Nat} {w d : Nat → Int32} (hC : Cur f a kd n w d) (hq : Q (some (.int (rmI kd n w d))) (mM σ f a)) : Cs nX12_room [.ref 136] (mM σ f a) Q := by
  unfold rmI at hq
  refine Cs_in (k := kX12_room) [some (.ref 136), none, none] rfl rfl ?_
  repeat refine Ev_go rfl ?_
  refine Ev_if (fun g1 => ?_) (fun g1 => ?_)
  · rw [hC.1] at g1
    rw [if_pos g1] at hq
    repeat refine Ev_go rfl ?_
    exact m_room_loop hC 0 hq n 0 (by omega)
  · rw [hC.1] at g1
    rw [if_neg g1] at hq
    repeat refine Ev_go rfl ?_
    refine Ev_ca rfl ?_
    refine m_measure hC 3 (by decide) ?_
    repeat refine Ev_go rfl ?_
    exact m_room_loop hC _ hq n 0 (by omega)
theorem m_price {σ : kt_H} {f : FF} {a : AA} {Q : Option Value → kt_H → Prop} {kd : Int32} {n : Nat} {w d : Nat → Int32} (hC : Cur f a kd n w d) (hq : Q (some (.int (prI (a 9 4) kd n w d))) (mM σ f a)) : Cs nX12_price [.ref 136] (mM σ f a) Q := by
  refine Cs_in (k := kX12_price) [some (.ref 136)] rfl rfl ?_
  repeat refine Ev_go rfl ?_
  refine Ev_ca rfl ?_
  refine m_measure hC 3 (by decide) ?_
  repeat refine Ev_go rfl ?_
  refine Ev_ca rfl ?_
  refine m_measure hC 6 (by decide) ?_
  repeat refine Ev_go rfl ?_
  refine Ev_rt rfl ?_
  exact hq
theorem m_takeUp_loop {σ : kt_H} {f : FF} {a : AA} {Q : Option Value → kt_H → Prop} {p4 p5 : Nat → Int32} (h n : Nat) (hh : h < 16) (hn : n ≤ 8) (hf : f 7 = nI n) (hq : Q none (mM σ f (va_up (va_up a 4 (cpf (a 2) p4 (8 * h) 0 n)) 5 (cpf (a 3) p5 (8 * h) 0 n)))) : ∀ (e x : Nat), x + e = n → Ev kX12_takeUp (if f 7 ≤ nI x then 70 else 30, [some (.ref 136), some (.int (nI h)), some (.int (nI x))], [], mM σ f (va_up (va_up a 4 (cpf (a 2) p4 (8 * h) 0 x)) 5 (cpf (a 3) p5 (8 * h) 0 x))) Q := by
  intro e
  induction e with
  | zero =>
    intro x hx
    have e : x = n := by omega
    subst e
    rw [hf]
    refine Ev_if (fun _ => ?_) (fun g1 => absurd (nI_le (Nat.le_refl x) (by omega)) g1)
    refine Ev_rt rfl ?_
    exact hq
  | succ e ih =>
    intro x hx
    rw [hf]
    refine Ev_if (fun g1 => absurd g1 (nI_ge (by omega) (by omega))) (fun _ => ?_)
    have s4 := cpf_s (a 2) p4 (8 * h) 0 x
    have s5 := cpf_s (a 3) p5 (8 * h) 0 x
    rw [Nat.zero_add] at s4 s5
    repeat refine Ev_go rfl ?_
    refine Ev_ial (8 * h + x) rfl rfl (ix8 h x) (by omega) (by decide) ?_
    refine Ev_mst 4 x rfl (fun _ => rfl) rfl (by omega) (by decide) ?_
    repeat refine Ev_go rfl ?_
    refine Ev_ial (8 * h + x) rfl rfl (ix8 h x) (by omega) (by decide) ?_
    refine Ev_mst 5 x rfl (fun _ => rfl) rfl (by omega) (by decide) ?_
    repeat refine Ev_go rfl ?_
    rw [nI_1]
    refine Eq.mp (congrArg (fun z => Ev kX12_takeUp (if f 7 ≤ nI (x + 1) then 70 else 30, [some (.ref 136), some (.int (nI h)), some (.int (nI (x + 1)))], [], mM σ f z) Q) ?_) (ih (x + 1) (by omega))
    rw [← s4, ← s5]
    funext q
    by_cases h5 : q = 5
    · subst h5; simp [va_up]
    · by_cases h4 : q = 4
      · subst h4; simp [va_up]
      · simp [va_up, h4, h5]
abbrev hW (a : AA) (h : Nat) : Nat → Int32 := fun x => a 2 (8 * h + x)
abbrev hD (a : AA) (h : Nat) : Nat → Int32 := fun x => a 3 (8 * h + x)
/-- the hull h is taken up -/
theorem m_takeUp {σ : kt_H} {f : FF} {a : AA} {Q : Option Value → kt_H → Prop} (h n : Nat) (hh : h < 16) (hn1 : 1 ≤ n) (hn : n ≤ 8) (hm : a 1 h = nI n) (hq : ∀ f2 a2, Jk f a f2 a2 → Cur f2 a2 (a 0 h) n (hW a h) (hD a h) → Q none (mM σ f2 a2)) : Cs nX12_takeUp [.ref 136, .int (nI h)] (mM σ f a) Q := by
  refine Cs_in (k := kX12_takeUp) [some (.ref 136), some (.int (nI h)), none] rfl rfl ?_
  repeat refine Ev_go rfl ?_
  refine Ev_ial h rfl rfl rfl hh (by decide) ?_
  iterate 1 refine Ev_go rfl ?_
  refine Ev_mo (va_up f 6 (a 0 h)) ?_ rfl
  repeat refine Ev_go rfl ?_
  refine Ev_ial h rfl rfl rfl hh (by decide) ?_
  iterate 1 refine Ev_go rfl ?_
  refine Ev_mo (va_up (va_up f 6 (a 0 h)) 7 (a 1 h)) ?_ rfl
  repeat refine Ev_go rfl ?_
  have l := m_takeUp_loop (σ := σ) (f := va_up (va_up f 6 (a 0 h)) 7 (a 1 h)) (a := a) (Q := Q) (p4 := a 4) (p5 := a 5) h n hh hn hm (hq _ _ ⟨fun q q1 q2 _ _ _ _ => by simp [va_up, q1, q2], fun q q1 q2 _ _ => by simp [va_up, q1, q2]⟩ ⟨rfl, hm, hn1, hn, fun x hx => ?_, fun x hx => ?_⟩) n 0 (by omega)
  · rw [cpf_0, cpf_0, va_up_id, va_up_id] at l
    exact l
  · show cpf (a 2) (a 4) (8 * h) 0 n x = _
    unfold cpf
    rw [if_pos ⟨Nat.zero_le _, by omega⟩]
    rfl
  · show cpf (a 3) (a 5) (8 * h) 0 n x = _
    unfold cpf
    rw [if_pos ⟨Nat.zero_le _, by omega⟩]
    rfl
def sp_ofHull (f : FF) (a : AA) (h what : Int32) : Int32 := if ¬ isH f h then -1 else if ¬ (0 ≤ what.toInt ∧ what.toInt ≤ 10) then -2
  else if what.toInt < 8 then msr (a 0 (nC h)) (nC (a 1 (nC h))) (hW a (nC h)) (hD a (nC h)) (nC what) else if what = 8 then rmI (a 0 (nC h)) (nC (a 1 (nC h))) (hW a (nC h)) (hD a (nC h)) else if what = 9 then prI (a 9 4) (a 0 (nC h)) (nC (a 1 (nC h))) (hW a (nC h)) (hD a (nC h)) else a 0 (nC h)
theorem M_ofHull {σ : kt_H} {f : FF} {a : AA} {Q : Option Value → kt_H → Prop} (hI : Inv f a) (h what : Int32) (hq : ∀ f2 a2, Jk f a f2 a2 → Q (some (.int (sp_ofHull f a h what))) (mM σ f2 a2)) : Cs nX12_ofHull [.ref 136, .int h, .int what] (mM σ f a) Q := by
  unfold sp_ofHull at hq
  refine Cs_in (k := kX12_ofHull) [some (.ref 136), some (.int h), some (.int what)] rfl rfl ?_
  repeat refine Ev_go rfl ?_
  refine Ev_ca rfl ?_
  refine m_noHull h ?_
  repeat refine Ev_go rfl ?_
  refine Ev_ifb (fun g1 => ?_) (fun g1 => ?_)
  · rw [if_neg g1] at hq
    have g1 := Decidable.not_not.mp g1
    repeat refine Ev_go rfl ?_
    refine Ev_ca rfl ?_
    refine m_in what.toInt 0 10 (fa_wide _) rfl rfl ?_
    repeat refine Ev_go rfl ?_
    refine Ev_ifb (fun g2 => ?_) (fun g2 => ?_)
    · rw [if_pos g2] at hq
      repeat refine Ev_go rfl ?_
      refine Ev_rt rfl ?_
      exact hq _ _ Jk.rf
    · rw [if_neg (fun e => e g2)] at hq
      obtain ⟨h', c1, rfl, hk, n, n1, n2, n3, -⟩ := Inv_h hI g1
      obtain ⟨w', d1, d2, rfl⟩ := nI_ex (x := what) 10 g2
      simp only [nC, nI_clamp (show h' < 2 ^ 31 by omega), n3, nI_clamp (show n < 2 ^ 31 by omega), nI_clamp (show w' < 2 ^ 31 by omega), nI_toInt (show w' < 2 ^ 31 by omega)] at hq
      repeat refine Ev_go rfl ?_
      refine Ev_ca rfl ?_
      refine m_takeUp h' n c1 n1 n2 n3 (fun f2 a2 hJ hC => ?_)
      have hq := hq _ _ hJ
      repeat refine Ev_go rfl ?_
      refine Ev_if (fun g3 => ?_) (fun g3 => ?_)
      · have g3 : ¬ (w' : Int) < 8 := fun e => absurd g3 (nI_ge (b := 8) (by omega) (by decide))
        rw [if_neg g3] at hq
        repeat refine Ev_go rfl ?_
        refine Ev_if (fun g4 => ?_) (fun g4 => ?_)
        · rw [if_pos g4] at hq
          repeat refine Ev_go rfl ?_
          refine Ev_ca rfl ?_
          refine m_room hC ?_
          repeat refine Ev_go rfl ?_
          refine Ev_rt rfl ?_
          exact hq
        · rw [if_neg g4] at hq
          repeat refine Ev_go rfl ?_
          refine Ev_if (fun g5 => ?_) (fun g5 => ?_)
          · rw [if_pos g5] at hq
            repeat refine Ev_go rfl ?_
            refine Ev_ca rfl ?_
            refine m_price hC ?_
            repeat refine Ev_go rfl ?_
            refine Ev_rt rfl ?_
            rw [show a2 9 = a 9 from hJ.2 9 (by decide) (by decide) (by decide) (by decide)]
            exact hq
          · rw [if_neg g5] at hq
            repeat refine Ev_go rfl ?_
            refine Ev_rt rfl ?_
            rw [hC.1]
            exact hq
      · have g3 : w' < 8 := by
          rcases Nat.lt_or_ge w' 8 with e | e
          · exact e
          · exact absurd (nI_le (a := 8) e (by omega)) g3
        rw [if_pos (by omega)] at hq
        repeat refine Ev_go rfl ?_
        refine Ev_ca rfl ?_
        refine m_measure hC w' (by omega) ?_
        repeat refine Ev_go rfl ?_
        refine Ev_rt rfl ?_
        exact hq
  · rw [if_pos g1] at hq
    repeat refine Ev_go rfl ?_
    refine Ev_rt rfl ?_
    exact hq _ _ Jk.rf
