/-! the component: words and laws -/
def mkP (num : Int32) (g u : Nat → Int32) : Nat → Int32
  | 0 => num
  | k + 1 => mkP num g u k * u (nC (g k))
/-- a word's two cells, and what the model keeps of it -/
def WR (σ : kt_H) (o : Nat) (t : Nat → Int32) (b : Nat) : Prop := ∃ (num : Int32) (cnt : Nat) (g : Nat → Int32), σ.1 o = kt_ob 10 [.int num, .ref (o + 1), .int (nI cnt), .int (t (b + 3)), .int (if t (b + 4) = -9 then 970299 else t (b + 4))] ∧ σ.1 (o + 1) = kt_ia 3 g ∧ cnt ≤ 3 ∧ (∀ i, i < cnt → 0 ≤ (g i).toInt ∧ (g i).toInt ≤ 7) ∧ (∀ u, mkP num g u cnt = 1 * fac u (t b) * fac u (t (b + 1)) * fac u (t (b + 2))) ∧ wOk t b
abbrev uOk (u : Nat → Int32) : Prop := ∀ q, q < 8 → 0 ≤ (u q).toInt ∧ (u q).toInt ≤ 99
theorem WR.c {σ τ : kt_H} {o : Nat} {t : Nat → Int32} {b : Nat} (h : WR σ o t b) (h1 : τ.1 o = σ.1 o) (h2 : τ.1 (o + 1) = σ.1 (o + 1)) : WR τ o t b := by
  unfold WR at *
  rw [h1, h2]
  exact h
theorem Ev_len {k : Nat → kt_S} {pc nx : Nat} {L : kt_L} {S : List Value} {σ : kt_H} {Q : Option Value → kt_H → Prop} {a t n : Nat} {f : Nat → Int32} (hk : k pc = s_len nx) (hc : σ.1 a = .inl (t, n, .inl f)) (h : Ev k (nx, L, .int (Int32.ofNat n) :: S, σ) Q) : Ev k (pc, L, .ref a :: S, σ) Q := by
  refine Ev_go (fr := (nx, L, .int (Int32.ofNat n) :: S, σ)) ?_ h
  rw [hk]
  unfold s_len
  simp only [hc]
theorem Ev_lenr {k : Nat → kt_S} {pc nx : Nat} {L : kt_L} {S : List Value} {σ : kt_H} {Q : Option Value → kt_H → Prop} {a t n : Nat} {g : Nat → Option Nat} (hk : k pc = s_len nx) (hc : σ.1 a = .inl (t, n, .inr (.inr (.inr (.inr g))))) (ht : kt_mem t [1, 2, 3, 4, 5] = true) (h : Ev k (nx, L, .int (Int32.ofNat n) :: S, σ) Q) : Ev k (pc, L, .ref a :: S, σ) Q := by
  refine Ev_go (fr := (nx, L, .int (Int32.ofNat n) :: S, σ)) ?_ h
  rw [hk]
  unfold s_len
  simp only [hc, ht]
section XW
variable {σ : kt_H} {Q : Option Value → kt_H → Prop}
theorem fac_b {u : Nat → Int32} (hu : uOk u) {x : Int32} (h : x = -9 ∨ (0 ≤ x.toInt ∧ x.toInt ≤ 7) ∨ (101 ≤ x.toInt ∧ x.toInt ≤ 199)) : ∃ j : Nat, j ≤ 99 ∧ fac u x = nI j := by
  rcases h with e | e | e
  · subst e; exact ⟨1, by decide, fac_n (by decide)⟩
  · obtain ⟨j, a1, a2, rfl⟩ := nI_ex 7 e
    rw [fac_m a1]
    obtain ⟨i, b1, b2, b3⟩ := nI_ex 99 (hu j (by omega))
    exact ⟨i, b1, b3⟩
  · obtain ⟨j, a1, a2, rfl⟩ := nI_ex 199 e
    refine ⟨j - 100, by omega, ?_⟩
    unfold fac
    rw [if_neg (by rw [fa_lt, ← a2]; show ¬ _ < (0 : Int); omega), if_neg (by rw [fa_lt, ← a2]; show ¬ _ < (100 : Int); omega)]
    exact pk_sub (b := 100) (by omega)
theorem x_makes_loop {o m : Nat} {num dv mo : Int32} {cnt : Nat} {g u : Nat → Int32} (h1 : σ.1 o = kt_ob 10 [.int num, .ref (o + 1), .int (nI cnt), .int dv, .int mo]) (h2 : σ.1 (o + 1) = kt_ia 3 g) (hc : cnt ≤ 3) (hg : ∀ i, i < cnt → 0 ≤ (g i).toInt ∧ (g i).toInt ≤ 7) (hm : σ.1 m = kt_ia 9 u) (hq : Ev kX10_makes (32, [some (.ref o), some (.ref m), some (.int (mkP num g u cnt)), some (.int (nI cnt))], [], σ) Q) : ∀ (e x : Nat), x + e = cnt → Ev kX10_makes (if nI cnt ≤ nI x then 32 else 15, [some (.ref o), some (.ref m), some (.int (mkP num g u x)), some (.int (nI x))], [], σ) Q := by
  intro e
  induction e with
  | zero =>
    intro x hx
    have e : x = cnt := by omega
    subst e
    exact Ev_if (fun _ => hq) (fun g1 => absurd (nI_le (Nat.le_refl _) (by omega)) g1)
  | succ e ih =>
    intro x hx
    refine Ev_if (fun g1 => absurd g1 (nI_ge (by omega) (by omega))) (fun _ => ?_)
    (repeat first | refine Ev_go rfl ?_ | refine Ev_gf rfl (h1) rfl rfl ?_ )
    refine Ev_ial x rfl h2 rfl (by omega) (by decide) ?_
    obtain ⟨j, a1, a2, a3⟩ := nI_ex 7 (hg x (by omega))
    have e1 : mkP num g u (x + 1) = mkP num g u x * u j := by rw [mkP, a3, nC, nI_clamp (by omega)]
    refine Ev_ial j rfl hm a3 (by omega) (by decide) ?_
    (repeat first | refine Ev_go rfl ?_ | refine Ev_gf rfl (h1) rfl rfl ?_ )
    rw [nI_1, ← e1]
    exact ih (x + 1) (by omega)
theorem x_makes {o m : Nat} {t : Nat → Int32} {b : Nat} {u : Nat → Int32} (hW : WR σ o t b) (hm : σ.1 m = kt_ia 9 u) (hu : uOk u) (hq : Q (some (.int (wvI u t b))) σ) : Cs nX10_makes [.ref o, .ref m] σ Q := by
  obtain ⟨num, cnt, g, h1, h2, h3, h4, h5, h6, h7, h8⟩ := hW
  refine Cs_in (k := kX10_makes) [some (.ref o), some (.ref m), none, none] rfl rfl ?_
  (repeat first | refine Ev_go rfl ?_ | refine Ev_gf rfl (h1) rfl rfl ?_ )
  refine x_makes_loop h1 h2 h3 h4 hm ?_ cnt 0 (by omega)
  rw [h5 u]
  unfold wvI at hq
  obtain ⟨j0, b0, e0⟩ := fac_b hu (h6 0 (by decide))
  obtain ⟨j1, b1, e1⟩ := fac_b hu (h6 1 (by decide))
  obtain ⟨j2, b2, e2⟩ := fac_b hu (h6 2 (by decide))
  rw [show fac u (t b) = nI j0 from e0, e1, e2, show (1 : Int32) * nI j0 * nI j1 * nI j2 = nI (1 * j0 * j1 * j2) by rw [fa_lit 1, pk_mul, pk_mul, pk_mul]] at hq ⊢
  have hb : 1 * j0 * j1 * j2 ≤ 970299 := by
    have : j0 * j1 ≤ 99 * 99 := Nat.mul_le_mul b0 b1
    have := Nat.mul_le_mul this b2
    rw [Nat.one_mul]
    omega
  generalize 1 * j0 * j1 * j2 = P at hb hq ⊢
  obtain ⟨dv, c1, c2, c3⟩ := nI_ex 9 h7
  rw [c3] at h1 hq
  have hd : nI P / nI dv = nI (P / dv) := pk_div (by omega) (by omega) (by omega)
  have hle : P / dv ≤ P := Nat.div_le_self P dv
  rw [hd] at hq
  have tail : ∀ z : Int32, z = nI (P / dv) → Ev kX10_makes (47, [some (.ref o), some (.ref m), some (.int z), some (.int (nI cnt))], [], σ) Q := by
    intro z hz
    subst hz
    generalize P / dv = R at hle hq ⊢
    have tR := nI_toInt (n := R) (by omega)
    (repeat first | refine Ev_go rfl ?_ | refine Ev_gf rfl (h1) rfl rfl ?_ )
    rcases h8 with e | e
    · rw [if_pos e] at h1 ⊢
      rw [if_neg (fun z => by rw [e] at z; exact absurd z.1 (by decide))] at hq
      refine Ev_if (fun g1 => ?_) (fun g1 => ?_)
      · have : nI R = 970299 := by
          rw [fa_le] at g1
          rw [fa_eq]
          have t9 : (970299 : Int32).toInt = 970299 := rfl
          omega
        rw [this] at hq
        (repeat first | refine Ev_go rfl ?_ | refine Ev_gf rfl (h1) rfl rfl ?_ )
        refine Ev_rt rfl ?_
        exact hq
      · (repeat first | refine Ev_go rfl ?_ | refine Ev_gf rfl (h1) rfl rfl ?_ )
        refine Ev_rt rfl ?_
        exact hq
    · have ne : ¬ t (b + 4) = -9 := fun z => by rw [z] at e; exact absurd e.1 (by decide)
      rw [if_neg ne] at h1 ⊢
      refine Ev_if (fun g1 => ?_) (fun g1 => ?_)
      · (repeat first | refine Ev_go rfl ?_ | refine Ev_gf rfl (h1) rfl rfl ?_ )
        refine Ev_rt rfl ?_
        by_cases g2 : t (b + 4) < nI R
        · rw [if_pos ⟨by rw [fa_le]; exact e.1, g2⟩] at hq
          exact hq
        · rw [if_neg (fun z => g2 z.2)] at hq
          have : t (b + 4) = nI R := by rw [fa_eq]; rw [fa_lt] at g2; rw [fa_le] at g1; omega
          rw [this]
          exact hq
      · rw [if_neg (fun z => by have z := z.2; rw [fa_lt] at z; rw [fa_le] at g1; omega)] at hq
        (repeat first | refine Ev_go rfl ?_ | refine Ev_gf rfl (h1) rfl rfl ?_ )
        refine Ev_rt rfl ?_
        exact hq
  (repeat first | refine Ev_go rfl ?_ | refine Ev_gf rfl (h1) rfl rfl ?_ )
  have tdv := nI_toInt (n := dv) (by omega)
  refine Ev_if (fun g1 => ?_) (fun g1 => ?_)
  · refine tail _ ?_
    have : dv = 1 := by
      rw [fa_le] at g1
      have t1 : (1 : Int32).toInt = 1 := rfl
      omega
    rw [this, Nat.div_one]
  · (repeat first | refine Ev_go rfl ?_ | refine Ev_gf rfl (h1) rfl rfl ?_ )
    refine Ev_div rfl (fun z => ?_) ?_
    · rw [fa_eq] at z
      have t0 : (0 : Int32).toInt = 0 := rfl
      omega
    rw [hd]
    iterate 1 refine Ev_go rfl ?_
    exact tail _ rfl
/-- a law: its own cell, the list's, the words' -/
def LR (σ : kt_H) (l : Nat) (t : Nat → Int32) (n : Nat) : Prop := σ.1 (38 + 10 * l) = kt_ob 3 [.ref (39 + 10 * l), .int (nI n)] ∧ (∃ g, σ.1 (39 + 10 * l) = kt_ra 5 4 g ∧ ∀ w, w < 4 → g w = some (40 + 10 * l + 2 * w)) ∧ (1 ≤ n ∧ n ≤ 4) ∧ ∀ w, w < n → WR σ (40 + 10 * l + 2 * w) t (20 * l + 5 * w)
theorem LR.c {σ τ : kt_H} {l : Nat} {t : Nat → Int32} {n : Nat} (h : LR σ l t n) (hc : ∀ j, 38 + 10 * l ≤ j → j < 48 + 10 * l → τ.1 j = σ.1 j) : LR τ l t n := by
  obtain ⟨h1, h2, h3, h4⟩ := h
  refine ⟨by rw [hc _ (by omega) (by omega)]; exact h1, by rw [hc _ (by omega) (by omega)]; exact h2, h3, fun w hw => ?_⟩
  exact (h4 w hw).c (hc _ (by omega) (by omega)) (hc _ (by omega) (by omega))
theorem x_owedBy {l : Nat} {t : Nat → Int32} {n m : Nat} {u : Nat → Int32} (hl : l < 9) (hL : LR σ l t n) (hm : σ.1 m = kt_ia 9 u) (hu : uOk u) (lo but : Int32) (hlo : ∀ w : Nat, w < 4 → (nI w = lo ↔ nI w = but)) (hq : Q (some (.int (tlI u t l but n))) σ) : Cs nX3_owedBy [.ref (38 + 10 * l), .ref m, .int lo] σ Q := by
  obtain ⟨h1, ⟨g, h2, h3⟩, h4, h5⟩ := hL
  refine Cs_in (k := kX3_owedBy) [some (.ref (38 + 10 * l)), some (.ref m), some (.int lo), none, none] rfl rfl ?_
  (repeat first | refine Ev_go rfl ?_ | refine Ev_gf rfl (h1) rfl rfl ?_ )
  have lp : ∀ (e x : Nat), x + e = n → Ev kX3_owedBy (if nI n ≤ nI x then 40 else 14, [some (.ref (38 + 10 * l)), some (.ref m), some (.int lo), some (.int (tlI u t l but x)), some (.int (nI x))], [], σ) Q := by
    intro e
    induction e with
    | zero =>
      intro x hx
      have e : x = n := by omega
      subst e
      refine Ev_if (fun _ => ?_) (fun g1 => absurd (nI_le (Nat.le_refl _) (by omega)) g1)
      repeat refine Ev_go rfl ?_
      refine Ev_rt rfl ?_
      exact hq
    | succ e ih =>
      intro x hx
      refine Ev_if (fun g1 => absurd g1 (nI_ge (by omega) (by omega))) (fun _ => ?_)
      repeat refine Ev_go rfl ?_
      refine Ev_if (fun g1 => ?_) (fun g1 => ?_)
      · (repeat first | refine Ev_go rfl ?_ | refine Ev_gf rfl (h1) rfl rfl ?_ )
        rw [nI_1]
        have e1 : tlI u t l but x = tlI u t l but (x + 1) := by rw [tlI, if_pos ((hlo x (by omega)).mp g1), Int32.add_zero]
        rw [e1]
        exact ih (x + 1) (by omega)
      · (repeat first | refine Ev_go rfl ?_ | refine Ev_gf rfl (h1) rfl rfl ?_ )
        refine Ev_aal x rfl h2 rfl rfl (by omega) (by decide) ?_
        rw [h3 x (by omega)]
        repeat refine Ev_go rfl ?_
        obtain ⟨num, cnt, gg, c1, -⟩ := h5 x (by omega)
        refine Ev_cv rfl rfl c1 rfl rfl ?_
        refine x_makes (h5 x (by omega)) hm hu ?_
        (repeat first | refine Ev_go rfl ?_ | refine Ev_gf rfl (h1) rfl rfl ?_ )
        rw [nI_1]
        have e1 : tlI u t l but x + wvI u t (20 * l + 5 * x) = tlI u t l but (x + 1) := by rw [tlI, if_neg (fun z => g1 ((hlo x (by omega)).mpr z))]
        rw [e1]
        exact ih (x + 1) (by omega)
  exact lp n 0 (by omega)
theorem x_hasWord {l : Nat} {r : Nat} {n : Nat} (h1 : σ.1 l = kt_ob 3 [.ref r, .int (nI n)]) (hn : n ≤ 4) (w : Int32) (hq : Q (some (.int (bI (0 ≤ w.toInt ∧ w.toInt ≤ (n : Int) - 1)))) σ) : Cs nX3_hasWord [.ref l, .int w] σ Q := by
  have tn := nI_toInt (n := n) (by omega)
  have t0 : (0 : Int32).toInt = 0 := rfl
  refine Cs_in (k := kX3_hasWord) [some (.ref l), some (.int w)] rfl rfl ?_
  repeat refine Ev_go rfl ?_
  refine Ev_if (fun g => ?_) (fun g => ?_)
  · rw [bI_f (by rw [fa_lt] at g; omega)] at hq
    repeat refine Ev_go rfl ?_
    refine Ev_rt rfl ?_
    exact hq
  · (repeat first | refine Ev_go rfl ?_ | refine Ev_gf rfl (h1) rfl rfl ?_ )
    refine Ev_if (fun g2 => ?_) (fun g2 => ?_)
    · rw [bI_f (by rw [fa_le] at g2; omega)] at hq
      repeat refine Ev_go rfl ?_
      refine Ev_rt rfl ?_
      exact hq
    · rw [bI_t (by rw [fa_lt] at g; rw [fa_le] at g2; omega)] at hq
      repeat refine Ev_go rfl ?_
      refine Ev_rt rfl ?_
      exact hq
theorem x_has {nv : Nat → Int32} (hN : Nd σ nv) (w : Int32) (hq : Q (some (.int (bI (0 ≤ w.toInt ∧ w.toInt ≤ 5)))) σ) : Cs nX5_has [.ref 4, .int w] σ Q := by
  obtain ⟨q4, ⟨gn, q5, qg⟩, qo⟩ := hN
  have t0 : (0 : Int32).toInt = 0 := rfl
  have t6 : (Int32.ofNat 6).toInt = 6 := rfl
  refine Cs_in (k := kX5_has) [some (.ref 4), some (.int w)] rfl rfl ?_
  repeat refine Ev_go rfl ?_
  refine Ev_if (fun g => ?_) (fun g => ?_)
  · rw [bI_f (by rw [fa_lt] at g; omega)] at hq
    repeat refine Ev_go rfl ?_
    refine Ev_rt rfl ?_
    exact hq
  · (repeat first | refine Ev_go rfl ?_ | refine Ev_gf rfl (q4) rfl rfl ?_ )
    refine Ev_len rfl q5 ?_
    repeat refine Ev_go rfl ?_
    refine Ev_if (fun g2 => ?_) (fun g2 => ?_)
    · rw [bI_f (by rw [fa_le] at g2; omega)] at hq
      repeat refine Ev_go rfl ?_
      refine Ev_rt rfl ?_
      exact hq
    · rw [bI_t (by rw [fa_lt] at g; rw [fa_le] at g2; omega)] at hq
      repeat refine Ev_go rfl ?_
      refine Ev_rt rfl ?_
      exact hq
end XW
