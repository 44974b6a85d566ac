/-! the component: more of hulls -/
section XH
variable {σ : kt_H} {Q : Option Value → kt_H → Prop} {o p m : Nat} {num : Int32} {n : Nat} {w d : Nat → Int32} {kd : Int32}
theorem Ev_ialT {k : Nat → kt_S} {pc nx : Nat} {L : kt_L} {S : List Value} (w : Nat) (hw : w < 6) (hk : k pc = s_ialT nx) (h : Ev k (nx, L, .int (kt_T1 w) :: S, σ) Q) : Ev k (pc, L, .int (nI w) :: .ref 1000001 :: S, σ) Q := by
  refine Ev_go (fr := (nx, L, .int (kt_T1 w) :: S, σ)) ?_ h
  rw [hk]
  show (if nI w < 0 ∨ 6 ≤ (nI w).toNatClampNeg then none else kt_go nx L (.int (kt_T1 (nI w).toNatClampNeg) :: S) σ) = _
  rw [if_neg (nI_in hw (by decide)), nI_clamp (by omega)]
theorem Ev_ialU {k : Nat → kt_S} {pc nx : Nat} {L : kt_L} {S : List Value} (w : Nat) (hw : w < 6) (hk : k pc = s_ialT nx) (h : Ev k (nx, L, .int (kt_T2 w) :: S, σ) Q) : Ev k (pc, L, .int (nI w) :: .ref 1000002 :: S, σ) Q := by
  refine Ev_go (fr := (nx, L, .int (kt_T2 w) :: S, σ)) ?_ h
  rw [hk]
  show (if nI w < 0 ∨ 6 ≤ (nI w).toNatClampNeg then none else kt_go nx L (.int (kt_T2 (nI w).toNatClampNeg) :: S) σ) = _
  rw [if_neg (nI_in hw (by decide)), nI_clamp (by omega)]
theorem x_allows (w : Nat) (hw : w < 6) (v : Int32) (hq : Q (some (.int (bI (loO (nI w) ≤ v.toInt ∧ v.toInt ≤ (grO (nI w)).toInt)))) σ) : Cs nX5_allows [.ref 4, .int (nI w), .int v] σ Q := by
  have e1 : loO (nI w) = (kt_T1 w).toInt := by
    have : w = 0 ∨ w = 1 ∨ w = 2 ∨ w = 3 ∨ w = 4 ∨ w = 5 := by omega
    rcases this with rfl | rfl | rfl | rfl | rfl | rfl <;> rfl
  have e2 : grO (nI w) = kt_T2 w := by
    have : w = 0 ∨ w = 1 ∨ w = 2 ∨ w = 3 ∨ w = 4 ∨ w = 5 := by omega
    rcases this with rfl | rfl | rfl | rfl | rfl | rfl <;> rfl
  rw [e1, e2] at hq
  refine Cs_in (k := kX5_allows) [some (.ref 4), some (.int (nI w)), some (.int v)] rfl rfl ?_
  repeat refine Ev_go rfl ?_
  refine Ev_ialT w hw rfl ?_
  repeat refine Ev_go rfl ?_
  refine Ev_if (fun g => ?_) (fun g => ?_)
  · rw [bI_f (by rw [fa_lt] at g; omega)] at hq
    repeat refine Ev_go rfl ?_
    refine Ev_rt rfl ?_
    exact hq
  · repeat refine Ev_go rfl ?_
    refine Ev_ialU w hw rfl ?_
    repeat refine Ev_go rfl ?_
    refine Ev_if (fun g2 => ?_) (fun g2 => ?_)
    · rw [bI_f (by rw [fa_lt] at g2; omega)] at hq
      repeat refine Ev_go rfl ?_
      refine Ev_rt rfl ?_
      exact hq
    · rw [bI_t (by rw [fa_lt] at g g2; omega)] at hq
      repeat refine Ev_go rfl ?_
      refine Ev_rt rfl ?_
      exact hq
theorem x_drowned (hH : Hl σ o p m kd num n w d) (hB : Bd n w d) (hq : Q (some (.int (nI (drN w d n)))) σ) : Cs nX2_drowned [.ref o] σ Q := by
  obtain ⟨h1, ⟨g, h2, h3⟩, -, -, -, -, h8, h9, h10⟩ := hH
  have hm := cK_m h8
  refine Cs_in (k := kX2_drowned) [some (.ref o), none, none] rfl rfl ?_
  repeat refine Ev_go rfl ?_
  refine Ev_gf rfl h1 hm rfl ?_
  repeat refine Ev_go rfl ?_
  have lp : ∀ (e x : Nat), x + e = n → Ev kX2_drowned (if 2 * nI n ≤ nI (2 * x) then 42 else 14, [some (.ref o), some (.int (nI (drN w d x))), some (.int (nI (2 * x)))], [], σ) Q := by
    intro e
    induction e with
    | zero =>
      intro x hx
      have e : x = n := by omega
      subst e
      rw [fa_lit 2, pk_mul]
      refine Ev_if (fun _ => ?_) (fun g1 => absurd (nI_le (Nat.le_refl _) (by omega)) g1)
      repeat refine Ev_go rfl ?_
      refine Ev_rt rfl ?_
      exact hq
    | succ e ih =>
      intro x hx
      rw [fa_lit 2, pk_mul]
      refine Ev_if (fun g1 => absurd g1 (nI_ge (by omega) (by omega))) (fun _ => ?_)
      repeat refine Ev_go rfl ?_
      refine Ev_gf rfl h1 hm rfl ?_
      repeat refine Ev_go rfl ?_
      rw [nI_1]
      refine Ev_ial (2 * x + 1) rfl h2 rfl (by omega) (by decide) ?_
      repeat refine Ev_go rfl ?_
      refine Ev_gf rfl h1 hm rfl ?_
      repeat refine Ev_go rfl ?_
      refine Ev_ial (2 * x) rfl h2 rfl (by omega) (by decide) ?_
      rw [(h3 x (by omega)).1, (h3 x (by omega)).2]
      obtain ⟨bw, bd⟩ := hB x (by omega)
      obtain ⟨i, b1, b2, b3⟩ := nI_ex (x := w x) 9 bw
      obtain ⟨j, c1, c2, c3⟩ := nI_ex (x := d x) 9 bd
      repeat refine Ev_go rfl ?_
      refine Ev_gf rfl h1 hm rfl ?_
      repeat refine Ev_go rfl ?_
      have e1 : (nI (drN w d x) + if 0 < d x - w x then d x - w x else 0) = nI (drN w d (x + 1)) := by
        rw [drN, ← nI_add]
        congr 1
        rw [← b2, ← c2, b3, c3]
        show _ = nI (j - i)
        by_cases h : i < j
        · rw [pk_sub (by omega), if_pos (by rw [fa_lt, nI_toInt (by omega)]; show (0 : Int) < _; omega)]
        · rw [if_neg, show j - i = 0 by omega]
          · rfl
          · rw [fa_lt, fb_subI (by rw [nI_toInt (by omega), nI_toInt (by omega)]; omega) (by rw [nI_toInt (by omega), nI_toInt (by omega)]; omega), nI_toInt (by omega), nI_toInt (by omega)]
            show ¬ (0 : Int) < _
            omega
      rw [e1, show nI (2 * x) + 2 = nI (2 * (x + 1)) from by rw [fa_lit 2, nI_add]; rfl]
      exact ih (x + 1) (by omega)
  exact lp n 0 (by omega)
end XH
