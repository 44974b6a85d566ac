/-! the component: all shapes, one by one -/
/-- part q of the r-th row -/
def dgq (n m r q : Nat) : Int32 := nI (r / m ^ (2 * n - 1 - q) % m + 1)
theorem dgq_w {n m r x : Nat} (h : x < n) : dgq n m r (2 * x) = rW n m r x := by
  unfold dgq rW
  rw [show 2 * n - 1 - 2 * x = 2 * (n - 1 - x) + 1 by omega]
theorem dgq_d {n m r x : Nat} (h : x < n) : dgq n m r (2 * x + 1) = rD n m r x := by
  unfold dgq rD
  rw [show 2 * n - 1 - (2 * x + 1) = 2 * (n - 1 - x) by omega]
theorem dgq_0 (n m q : Nat) : dgq n m 0 q = 1 := by
  unfold dgq
  rw [Nat.zero_div, Nat.zero_mod]
  rfl
theorem lo_0 {M k Z j : Nat} (hM : 0 < M) (hj : j < k) : M ^ k * Z / M ^ j % M = 0 := by
  have e : M ^ k * Z = M ^ j * (M * (M ^ (k - j - 1) * Z)) := by
    rw [show k = j + ((k - j - 1) + 1) by omega, Nat.pow_add, Nat.pow_succ, show j + (k - j - 1 + 1) - j - 1 = k - j - 1 by omega, Nat.mul_comm (M ^ (k - j - 1)) M, Nat.mul_assoc, Nat.mul_assoc]
  rw [e, Nat.mul_div_cancel_left _ (Nat.pow_pos hM), Nat.mul_mod_right]
theorem hi_k {M r k : Nat} (hM : 0 < M) (h : r % M ^ k = M ^ k - 1) : r + 1 = M ^ k * (r / M ^ k + 1) := by
  have h1 := Nat.div_add_mod r (M ^ k)
  have h2 : 0 < M ^ k := Nat.pow_pos hM
  rw [Nat.mul_add, Nat.mul_one]
  omega
theorem hi_up {M r k j : Nat} (hM : 0 < M) (h : r % M ^ k = M ^ k - 1) (hd : r / M ^ k % M + 1 < M) (hj : k < j) : (r + 1) / M ^ j = r / M ^ j := by
  have e : M ^ j = M ^ k * (M * M ^ (j - k - 1)) := by
    rw [show j = k + ((j - k - 1) + 1) by omega, Nat.pow_add, Nat.pow_succ, show k + (j - k - 1 + 1) - k - 1 = j - k - 1 by omega, Nat.mul_comm (M ^ (j - k - 1)) M]
  have h2 : 0 < M ^ k := Nat.pow_pos hM
  rw [e, ← Nat.div_div_eq_div_mul, ← Nat.div_div_eq_div_mul, ← Nat.div_div_eq_div_mul, ← Nat.div_div_eq_div_mul]
  congr 1
  rw [hi_k hM h, Nat.mul_div_cancel_left _ h2]
  generalize r / M ^ k = Z at hd ⊢
  have a1 := Nat.div_add_mod Z M
  have a2 : Z + 1 = M * (Z / M) + (Z % M + 1) := by omega
  rw [a2, Nat.mul_add_div hM, Nat.div_eq_of_lt hd, Nat.add_zero]
theorem hi_mod {M r k : Nat} (hM : 0 < M) (h : r % M ^ k = M ^ k - 1) (hd : M ≤ r / M ^ k % M + 1) : r % M ^ (k + 1) = M ^ (k + 1) - 1 := by
  have h2 : 0 < M ^ k := Nat.pow_pos hM
  have h3 := Nat.mod_lt (r / M ^ k) hM
  have e : r / M ^ k % M = M - 1 := by omega
  rw [Nat.pow_succ, Nat.mod_mul, h, e, Nat.mul_sub, Nat.mul_one]
  have : M ^ k ≤ M ^ k * M := Nat.le_mul_of_pos_right _ hM
  omega
section XQ
variable {σ : kt_H} {Q : Option Value → kt_H → Prop} {o p m : Nat} {num : Int32} {kd : Int32}
theorem x_firstShape {st : Int32} {g : Nat → Int32} (ho : σ.1 o = kt_ob (cK kd) [.int num, .ref p, .int st, .ref m]) (hp : σ.1 p = kt_ia 16 g) (op : o ≠ p) (hk : isKd kd) (n M : Nat) (hn : n ≤ 8) (hq : ∀ g', (∀ q, q < 2 * n → g' q = 1) → Q (some (.int (nI (M ^ (2 * n))))) (hlP σ o p m kd num n g')) : Cs nX7_firstShape [.ref o, .int (nI n), .int (nI M)] σ Q := by
  have hm := cK_m hk
  refine Cs_in (k := kX7_firstShape) [some (.ref o), some (.int (nI n)), some (.int (nI M)), none, none] rfl rfl ?_
  repeat refine Ev_go rfl ?_
  refine Ev_pf rfl ho hm rfl rfl ?_
  generalize hσ : kt_put σ o (kt_ob (cK kd) [.int num, .ref p, .int (nI n), .ref m]) = τ
  have to : ∀ c, (kt_put τ p c).1 o = kt_ob (cK kd) [.int num, .ref p, .int (nI n), .ref m] := fun c => by rw [← hσ, kt_put_n _ _ op, kt_put_s]
  have tp : τ.1 p = kt_ia 16 g := by rw [← hσ, kt_put_n _ _ (fun e => op e.symm)]; exact hp
  rw [← kt_put_id τ p _ tp]
  repeat refine Ev_go rfl ?_
  have lp : ∀ (e x : Nat) (g' : Nat → Int32), x + e = 2 * n → (∀ q, q < x → g' q = 1) → Ev kX7_firstShape (if 2 * nI n ≤ nI x then 36 else 18, [some (.ref o), some (.int (nI n)), some (.int (nI M)), some (.int (nI (M ^ x))), some (.int (nI x))], [], kt_put τ p (kt_ia 16 g')) Q := by
    intro e
    induction e with
    | zero =>
      intro x g' hx hg
      have e : x = 2 * n := by omega
      subst e
      rw [fa_lit 2, pk_mul]
      refine Ev_if (fun _ => ?_) (fun g1 => absurd (nI_le (Nat.le_refl _) (by omega)) g1)
      repeat refine Ev_go rfl ?_
      refine Ev_rt rfl ?_
      rw [← hσ]
      exact hq g' hg
    | succ e ih =>
      intro x g' hx hg
      refine Ev_if (fun g1 => absurd g1 (by rw [fa_lit 2, pk_mul]; exact nI_ge (by omega) (by omega))) (fun _ => ?_)
      repeat refine Ev_go rfl ?_
      refine Ev_gf rfl (to _) hm rfl ?_
      repeat refine Ev_go rfl ?_
      refine Ev_iap x rfl rfl (by omega) (by decide) ?_
      repeat refine Ev_go rfl ?_
      rw [nI_1, pk_mul, ← Nat.pow_succ]
      refine ih (x + 1) _ (by omega) (fun q hq => ?_)
      by_cases e : q = x
      · subst e; rw [pk_us]
      · rw [pk_un e]; exact hg q (by omega)
  exact lp (2 * n) 0 g (by omega) (fun q hq => absurd hq (Nat.not_lt_zero q))
theorem x_nextShape {g : Nat → Int32} (n M r : Nat) (ho : σ.1 o = kt_ob (cK kd) [.int num, .ref p, .int (nI n), .ref m]) (hp : σ.1 p = kt_ia 16 g) (op : o ≠ p) (hk : isKd kd) (hn : n ≤ 8) (hM : 1 ≤ M) (hM3 : M ≤ 3) (hg : ∀ q, q < 2 * n → g q = dgq n M r q) (hq : ∀ g', (∀ q, q < 2 * n → g' q = dgq n M (r + 1) q) → Q none (kt_put σ p (kt_ia 16 g'))) : Cs nX7_nextShape [.ref o, .int (nI M)] σ Q := by
  have hm := cK_m hk
  have to : ∀ c, (kt_put σ p c).1 o = kt_ob (cK kd) [.int num, .ref p, .int (nI n), .ref m] := fun c => by rw [kt_put_n _ _ op]; exact ho
  refine Cs_in (k := kX7_nextShape) [some (.ref o), some (.int (nI M)), none] rfl rfl ?_
  repeat refine Ev_go rfl ?_
  refine Ev_gf rfl ho hm rfl ?_
  iterate 4 refine Ev_go rfl ?_
  rw [fa_lit 2, pk_mul, ← kt_put_id σ p _ hp]
  have lp : ∀ (t : Nat) (g' : Nat → Int32), t ≤ 2 * n → (∀ q, q < t → g' q = dgq n M r q) → (∀ q, t ≤ q → q < 2 * n → g' q = 1) → r % M ^ (2 * n - t) = M ^ (2 * n - t) - 1 → Ev kX7_nextShape (9, [some (.ref o), some (.int (nI M)), some (.int (nI t - 1))], [], kt_put σ p (kt_ia 16 g')) Q := by
    intro t
    induction t with
    | zero =>
      intro g' ht h1 h2 h3
      repeat refine Ev_go rfl ?_
      refine Ev_rt rfl ?_
      refine hq g' (fun q hq => ?_)
      rw [h2 q (by omega) hq]
      unfold dgq
      rw [hi_k (by omega) h3, lo_0 (by omega) (by omega)]
      rfl
    | succ t ih =>
      intro g' ht h1 h2 h3
      have ek : 2 * n - (t + 1) = 2 * n - 1 - t := by omega
      rw [ek] at h3
      rw [nI_pred]
      repeat refine Ev_go rfl ?_
      refine Ev_if (fun g => absurd g (nI_pos (by omega))) (fun _ => ?_)
      repeat refine Ev_go rfl ?_
      refine Ev_gf rfl (to _) hm rfl ?_
      repeat refine Ev_go rfl ?_
      refine Ev_lap t rfl rfl (by omega) (by decide) ?_
      rw [h1 t (by omega)]
      repeat refine Ev_go rfl ?_
      have hd : r / M ^ (2 * n - 1 - t) % M < M := Nat.mod_lt _ (by omega)
      unfold dgq at h1 hq ⊢
      refine Ev_if (fun g1 => ?_) (fun g1 => ?_)
      · have g2 : M ≤ r / M ^ (2 * n - 1 - t) % M + 1 := by
          rcases Nat.lt_or_ge (r / M ^ (2 * n - 1 - t) % M + 1) M with z | z
          · exact absurd g1 (nI_ge z (by omega))
          · exact z
        repeat refine Ev_go rfl ?_
        refine Ev_gf rfl (to _) hm rfl ?_
        repeat refine Ev_go rfl ?_
        refine Ev_iap t rfl rfl (by omega) (by decide) ?_
        iterate 2 refine Ev_go rfl ?_
        rw [show nI t + -1 = nI t - 1 from (Int32.sub_eq_add_neg (a := nI t) (b := 1)).symm]
        refine ih _ (by omega) (fun q hq => ?_) (fun q a b => ?_) ?_
        · rw [pk_un (by omega)]; exact h1 q (by omega)
        · by_cases e : q = t
          · subst e; rw [pk_us]
          · rw [pk_un e]; exact h2 q (by omega) b
        · have := hi_mod (by omega) h3 g2
          rw [show 2 * n - t = 2 * n - 1 - t + 1 by omega]
          exact this
      · have g2 : r / M ^ (2 * n - 1 - t) % M + 1 < M := by
          rcases Nat.lt_or_ge (r / M ^ (2 * n - 1 - t) % M + 1) M with z | z
          · exact z
          · exact absurd (nI_le z (by omega)) g1
        repeat refine Ev_go rfl ?_
        refine Ev_gf rfl (to _) hm rfl ?_
        repeat refine Ev_go rfl ?_
        refine Ev_lap t rfl rfl (by omega) (by decide) ?_
        rw [h1 t (by omega)]
        repeat refine Ev_go rfl ?_
        refine Ev_iap t rfl rfl (by omega) (by decide) ?_
        refine Ev_rt rfl ?_
        rw [nI_1]
        refine hq _ (fun q hq => ?_)
        by_cases e : q = t
        · subst e
          rw [pk_us, hi_k (by omega) h3, Nat.mul_div_cancel_left _ (Nat.pow_pos (by omega))]
          congr 1
          generalize r / M ^ (2 * n - 1 - q) = Z at g2 ⊢
          rw [Nat.add_mod, Nat.mod_eq_of_lt (a := 1) (by omega), Nat.mod_eq_of_lt g2]
        · rw [pk_un e]
          rcases Nat.lt_or_ge q t with z | z
          · rw [h1 q (by omega), hi_up (by omega) h3 g2 (show 2 * n - 1 - t < 2 * n - 1 - q by omega)]
          · rw [h2 q (by omega) hq, hi_k (by omega) h3, lo_0 (by omega) (by omega)]
            rfl
  exact lp (2 * n) g (Nat.le_refl _) hg (fun q a b => by omega) (by rw [Nat.sub_self, Nat.pow_zero, Nat.mod_one])
end XQ
