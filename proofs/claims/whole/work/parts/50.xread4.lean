/-! the component: a law's text is read, to its end -/
section XL
variable {σ τ : kt_H} {Q : Option Value → kt_H → Prop}
/-- a word's cells as read -/
def WX (σ : kt_H) (o : Nat) (t : List Int32 × Int32 × Int32) : Prop := ∃ (num : Int32) (cnt : Nat) (g : Nat → Int32), σ.1 o = woC o num cnt t.2.1 (if t.2.2 = -9 then 970299 else t.2.2) ∧ σ.1 (o + 1) = kt_ia 3 g ∧ cnt ≤ t.1.length ∧ (∀ i, i < cnt → 0 ≤ (g i).toInt ∧ (g i).toInt ≤ 7) ∧ ∀ u, mkP num g u cnt = prL u t.1
theorem WX.c {o : Nat} {t : List Int32 × Int32 × Int32} (h : WX σ o t) (h1 : τ.1 o = σ.1 o) (h2 : τ.1 (o + 1) = σ.1 (o + 1)) : WX τ o t := by
  unfold WX at *
  rw [h1, h2]
  exact h
theorem Rw.wx {w s i n : Nat} {p ff : Int32} {xs : List Int32} {d l : Int32} (h : Rw σ τ w s i n p ff xs d (if l = -9 then 970299 else l)) : WX τ w (xs, d, l) := h.2.2.2
theorem prL_3 (u : Nat → Int32) (xs : List Int32) (h : xs.length ≤ 3) : prL u xs = 1 * fac u (xs.getD 0 (-9)) * fac u (xs.getD 1 (-9)) * fac u (xs.getD 2 (-9)) := by
  have e9 : fac u (-9) = 1 := fac_n (by decide)
  match xs, h with
  | [], _ => show (1 : Int32) = 1 * fac u (-9) * fac u (-9) * fac u (-9); rw [e9]; rfl
  | [x], _ => show 1 * fac u x = 1 * fac u x * fac u (-9) * fac u (-9); rw [e9, Int32.mul_one, Int32.mul_one]
  | [x, y], _ => show 1 * fac u x * fac u y = 1 * fac u x * fac u y * fac u (-9); rw [e9, Int32.mul_one]
  | [x, y, z], _ => rfl
theorem WX.wr {o : Nat} {T : List Int32 × Int32 × Int32} (h : WX σ o T) (hT : tOk T) {t : Nat → Int32} {b : Nat} (ht : ∀ q, q < 5 → t (b + q) = wdC T.1 T.2.1 T.2.2 q) : WR σ o t b := by
  obtain ⟨num, cnt, g, h1, h2, h3, h4, h5⟩ := h
  have e3 : t (b + 3) = T.2.1 := ht 3 (by decide)
  have e4 : t (b + 4) = T.2.2 := ht 4 (by decide)
  have hl := hT.1.1
  refine ⟨num, cnt, g, by rw [e3, e4]; exact h1, h2, by omega, h4, fun u => ?_, ?_, ?_, ?_⟩
  · rw [h5 u, prL_3 _ _ hl, show t b = T.1.getD 0 (-9) from ht 0 (by decide), show t (b + 1) = T.1.getD 1 (-9) from ht 1 (by decide), show t (b + 2) = T.1.getD 2 (-9) from ht 2 (by decide)]
  · intro q hq
    rw [ht q (by omega), wdC, if_pos hq]
    by_cases hx : q < T.1.length
    · refine Or.inr (hT.1.2 _ ?_)
      rw [List.getD_eq_getElem?_getD, List.getElem?_eq_getElem hx]
      exact List.getElem_mem hx
    · refine Or.inl ?_
      rw [List.getD_eq_getElem?_getD, List.getElem?_eq_none (by omega)]
      rfl
  · rw [e3]; exact hT.2.1
  · rw [e4]; exact hT.2.2
/-- while a law is read -/
def Lr (σ τ : kt_H) (l s i n : Nat) (p ff cn : Int32) (k : Nat) (W : WW) : Prop := τ.2 = σ.2 ∧ (∀ j, j ≠ 36 → (j < 38 + 10 * l ∨ 48 + 10 * l ≤ j) → τ.1 j = σ.1 j) ∧ τ.1 36 = rdC s i n p ff ∧ τ.1 (38 + 10 * l) = kt_ob 3 [.ref (39 + 10 * l), .int cn] ∧ (∃ g, τ.1 (39 + 10 * l) = kt_ra 5 4 g ∧ ∀ w, w < 4 → g w = some (40 + 10 * l + 2 * w)) ∧ (∀ w, w < 4 → ∃ (v0 v2 v3 v4 : Value) (g : Nat → Int32), τ.1 (40 + 10 * l + 2 * w) = kt_ob 10 [v0, .ref (40 + 10 * l + 2 * w + 1), v2, v3, v4] ∧ τ.1 (40 + 10 * l + 2 * w + 1) = kt_ia 3 g) ∧ ∀ w, w < k → WX τ (40 + 10 * l + 2 * w) (W w)
theorem Lr.tt {l s i n : Nat} {p ff cn : Int32} {k : Nat} {W : WW} {c : Nat → Int32} (h : Lr σ τ l s i n p ff cn k W) (hl : l < 9) (hT : TT σ s i n c) : TT τ s i n c := fun τ2 h2 => hT τ2 (fun j hj => (h2 j hj).trans (h.2.1 j (by omega) (by omega)))
theorem Lr.cnt {l s i n : Nat} {p ff cn : Int32} {k : Nat} {W : WW} (h : Lr σ τ l s i n p ff cn k W) (hk : k ≤ 4) (cn' : Int32) : Lr σ (kt_put τ (38 + 10 * l) (kt_ob 3 [.ref (39 + 10 * l), .int cn'])) l s i n p ff cn' k W := by
  obtain ⟨h1, h2, h3, h4, h5, h6, h7⟩ := h
  refine ⟨h1, fun j a b => by rw [kt_put_n _ _ (by omega)]; exact h2 j a b, by rw [kt_put_n _ _ (by omega)]; exact h3, kt_put_s _ _ _, by rw [kt_put_n _ _ (by omega)]; exact h5, fun w hw => ?_, fun w hw => ?_⟩
  · rw [kt_put_n _ _ (by omega), kt_put_n _ _ (by omega)]; exact h6 w hw
  · exact (h7 w hw).c (kt_put_n _ _ (by omega)) (kt_put_n _ _ (by omega))
theorem Lr.rd {l s i n : Nat} {p ff cn : Int32} {k : Nat} {W : WW} (h : Lr σ τ l s i n p ff cn k W) (p' ff' : Int32) : Lr σ (rdP τ s i n p' ff') l s i n p' ff' cn k W := by
  obtain ⟨h1, h2, h3, h4, h5, h6, h7⟩ := h
  refine ⟨h1, fun j a b => by rw [kt_put_n _ _ a]; exact h2 j a b, kt_put_s _ _ _, by rw [kt_put_n _ _ (by omega)]; exact h4, by rw [kt_put_n _ _ (by omega)]; exact h5, fun w hw => ?_, fun w hw => ?_⟩
  · rw [kt_put_n _ _ (by omega), kt_put_n _ _ (by omega)]; exact h6 w hw
  · exact (h7 w hw).c (kt_put_n _ _ (by omega)) (kt_put_n _ _ (by omega))
theorem Lr.word {τ' : kt_H} {l s i n : Nat} {p ff cn p' ff' : Int32} {k : Nat} {W : WW} {xs : List Int32} {d mo : Int32} (h : Lr σ τ l s i n p ff cn k W) (hk : k < 4) (hR : Rw τ τ' (40 + 10 * l + 2 * k) s i n p' ff' xs d mo) : Lr σ τ' l s i n p' ff' cn k W := by
  obtain ⟨h1, h2, h3, h4, h5, h6, h7⟩ := h
  obtain ⟨r1, r2, r3, num, cnt, g, r4, r5, -⟩ := hR
  refine ⟨r1.trans h1, fun j a b => by rw [r2 j a (by omega) (by omega)]; exact h2 j a b, r3, by rw [r2 _ (by omega) (by omega) (by omega)]; exact h4, by rw [r2 _ (by omega) (by omega) (by omega)]; exact h5, fun w hw => ?_, fun w hw => ?_⟩
  · by_cases e : w = k
    · subst e
      exact ⟨_, _, _, _, g, r4, r5⟩
    · rw [r2 _ (by omega) (by omega) (by omega), r2 (40 + 10 * l + 2 * w + 1) (by omega) (by omega) (by omega)]; exact h6 w hw
  · exact (h7 w hw).c (r2 _ (by omega) (by omega) (by omega)) (r2 _ (by omega) (by omega) (by omega))
theorem Lr.more {l s i n : Nat} {p ff cn : Int32} {k : Nat} {W : WW} {t : List Int32 × Int32 × Int32} (h : Lr σ τ l s i n p ff cn k W) (hx : WX τ (40 + 10 * l + 2 * k) t) : Lr σ τ l s i n p ff cn (k + 1) (va_up W k t) := by
  obtain ⟨h1, h2, h3, h4, h5, h6, h7⟩ := h
  refine ⟨h1, h2, h3, h4, h5, h6, fun w hw => ?_⟩
  by_cases e : w = k
  · subst e; rw [va_up_s]; exact hx
  · rw [va_up_n _ _ e]; exact h7 w (by omega)
theorem x_rd_end_f {s i n : Nat} {p ff : Int32} (o1 o2 o3 o4 o5 o6 : Option Value) (h36 : τ.1 36 = rdC s i n p ff) (hf : ff ≠ -9) (hq : Q (some (.int ff)) τ) : Ev kX4_read (100, [some (.ref 36), o1, o2, o3, o4, o5, o6], [], τ) Q := by
  have e : rdP τ s i n p ff = τ := kt_put_id τ 36 _ h36
  (repeat first | refine Ev_go rfl ?_ | refine Ev_gf rfl (h36) rfl rfl ?_ )
  refine Ev_if (fun _ => ?_) (fun _ => ?_)
  · (repeat first | refine Ev_go rfl ?_ | refine Ev_gf rfl (h36) rfl rfl ?_ )
    refine Ev_rt rfl ?_
    exact hq
  · (repeat first | refine Ev_go rfl ?_ | refine Ev_gf rfl (h36) rfl rfl ?_ )
    refine Ev_cv rfl rfl h36 rfl rfl ?_
    rw [← e]
    refine x_failAt_f p ff hf p ?_
    rw [e]
    (repeat first | refine Ev_go rfl ?_ | refine Ev_gf rfl (h36) rfl rfl ?_ )
    refine Ev_rt rfl ?_
    exact hq
theorem x_rd_end {s i n : Nat} {P : Nat} (hP : P < 1000) (hn : n ≤ 60) (o1 o2 o3 o4 o5 o6 : Option Value) (h36 : τ.1 36 = rdC s i n (nI P) (-9)) (h1 : n ≤ P → Q (some (.int (-9))) τ) (h0 : ¬ n ≤ P → Q (some (.int (nI P))) (rdP τ s i n (nI P) (nI P))) : Ev kX4_read (100, [some (.ref 36), o1, o2, o3, o4, o5, o6], [], τ) Q := by
  have e : rdP τ s i n (nI P) (-9) = τ := kt_put_id τ 36 _ h36
  (repeat first | refine Ev_go rfl ?_ | refine Ev_gf rfl (h36) rfl rfl ?_ )
  refine Ev_if (fun g => ?_) (fun g => ?_)
  · (repeat first | refine Ev_go rfl ?_ | refine Ev_gf rfl (h36) rfl rfl ?_ )
    refine Ev_rt rfl ?_
    refine h1 ?_
    rcases Nat.lt_or_ge P n with z | z
    · exact absurd g (nI_ge z (by omega))
    · exact z
  · (repeat first | refine Ev_go rfl ?_ | refine Ev_gf rfl (h36) rfl rfl ?_ )
    refine Ev_cv rfl rfl h36 rfl rfl ?_
    rw [← e]
    refine x_failAt _ _ ?_
    repeat refine Ev_go rfl ?_
    refine Ev_rt rfl ?_
    exact h0 (fun z => g (nI_le z (by omega)))
/-- a word of the law -/
theorem x_rd_b {l s i n k p : Nat} {cn : Int32} {W : WW} {c : Nat → Int32} (hl : l < 9) (hk : k < 4) (hp : p < 600) (hT : TT σ s i n c) (hL : Lr σ τ l s i n (nI p) (-9) cn k W)
    (hf : ∀ e p' τ', pWd c n p = .inl e → Lr σ τ' l s i n p' (nI e) (nI (k + 1)) k W → Ev kX4_read (70, [some (.ref 36), some (.ref s), some (.int (nI i)), some (.int (nI n)), some (.ref (38 + 10 * l)), some (.int 1), some (.int (nI k))], [], τ') Q)
    (ho : ∀ p' t τ', pWd c n p = .inr (p', t) → Lr σ τ' l s i n (nI p') (-9) (nI (k + 1)) (k + 1) (va_up W k t) → Ev kX4_read (70, [some (.ref 36), some (.ref s), some (.int (nI i)), some (.int (nI n)), some (.ref (38 + 10 * l)), some (.int 1), some (.int (nI k))], [], τ') Q) : Ev kX4_read (38, [some (.ref 36), some (.ref s), some (.int (nI i)), some (.int (nI n)), some (.ref (38 + 10 * l)), some (.int 1), some (.int (nI k))], [], τ) Q := by
  have hL0 := hL
  obtain ⟨h1, h2, h3, h4, ⟨g, h5, h5g⟩, h6, h7⟩ := hL
  obtain ⟨v0, v2, v3, v4, gg, hwo, hg⟩ := h6 k hk
  repeat refine Ev_go rfl ?_
  refine Ev_if (fun z => absurd z (nI_ge (b := 4) hk (by omega))) (fun _ => ?_)
  (repeat first | refine Ev_go rfl ?_ | refine Ev_gf rfl (h4) rfl rfl ?_ )
  refine Ev_aal k rfl h5 rfl rfl hk (by decide) ?_
  rw [h5g k hk]
  refine Ev_cv rfl rfl h3 rfl rfl ?_
  refine x_readWord (by omega) (by omega) (hL0.tt hl hT) h3 hwo hg hp (fun e p' τ' hE hF => ?_) (fun p' xs d lm τ' hE hR => ?_)
  · obtain ⟨ys, dv, mo, hF⟩ := hF
    have hN := hL0.word hk hF
    have c4 := hN.2.2.2.1
    repeat refine Ev_go rfl ?_
    refine Ev_pf rfl c4 rfl rfl rfl ?_
    rw [nI_1]
    exact hf e p' _ hE (hN.cnt (by omega) _)
  · have hN := (hL0.word hk hR).more hR.wx
    have c4 := hN.2.2.2.1
    repeat refine Ev_go rfl ?_
    refine Ev_pf rfl c4 rfl rfl rfl ?_
    rw [nI_1]
    exact ho p' (xs, d, lm) _ hE (hN.cnt (by omega) _)
theorem x_rd_z {l s : Nat} (i n : Int32) (k : Nat) (hq : ∀ o6, Ev kX4_read (100, [some (.ref 36), some (.ref s), some (.int i), some (.int n), some (.ref (38 + 10 * l)), some (.int 0), o6], [], τ) Q) : Ev kX4_read (91, [some (.ref 36), some (.ref s), some (.int i), some (.int n), some (.ref (38 + 10 * l)), some (.int 1), some (.int (nI k))], [], τ) Q := by
  repeat refine Ev_go rfl ?_
  refine Ev_if (fun _ => hq _) (fun _ => ?_)
  iterate 2 refine Ev_go rfl ?_
  exact hq _
theorem x_rd {l s i n : Nat} {c : Nat → Int32} (hl : l < 9) (hn : n ≤ 60) (hT : TT σ s i n c) (R : Sum Nat (Nat × WW))
    (h0 : ∀ e p cn k W τ', R = .inl e → Lr σ τ' l s i n p (nI e) cn k W → Q (some (.int (nI e))) τ')
    (h1 : ∀ k W p τ', R = .inr (k, W) → Lr σ τ' l s i n p (-9) (nI k) k W → Q (some (.int (-9))) τ') :
    ∀ (j k p : Nat) (W : WW) (τ : kt_H) (cn : Int32), k + j + 1 = 4 → p ≤ 20 * k → Lr σ τ l s i n (nI p) (-9) cn k W → R = rL c n (j + 1) k p W → Ev kX4_read (38, [some (.ref 36), some (.ref s), some (.int (nI i)), some (.int (nI n)), some (.ref (38 + 10 * l)), some (.int 1), some (.int (nI k))], [], τ) Q := by
  intro j
  induction j with
  | zero =>
    intro k p W τ cn hk hp hL hE
    rw [rL] at hE
    refine x_rd_b hl (by omega) (by omega) hT hL (fun e p' τ' hw hN => ?_) (fun p' t τ' hw hN => ?_)
    · rw [hw] at hE
      have he := (pWd_le (c := c) (n := n) (p := p)).1 e hw
      repeat refine Ev_go rfl ?_
      rw [nI_1]
      refine Ev_if (fun _ => ?_) (fun g => absurd (by rw [show k + 1 = 4 by omega]; decide) g)
      exact x_rd_z _ _ _ (fun o6 => x_rd_end_f _ _ _ _ _ _ hN.2.2.1 (nI_ne9 (by omega)) (h0 e _ _ _ _ _ hE hN))
    · rw [hw] at hE
      have he := ((pWd_le (c := c) (n := n) (p := p)).2 p' t hw).1
      repeat refine Ev_go rfl ?_
      rw [nI_1]
      refine Ev_if (fun _ => ?_) (fun g => absurd (by rw [show k + 1 = 4 by omega]; decide) g)
      refine x_rd_z _ _ _ (fun o6 => x_rd_end (by omega) hn _ _ _ _ _ _ hN.2.2.1 (fun z => ?_) (fun z => ?_))
      · dsimp only at hE
        rw [if_pos z] at hE
        exact h1 _ _ _ _ hE hN
      · dsimp only at hE
        rw [if_neg z, if_neg (fun y => y.1 rfl)] at hE
        exact h0 _ _ _ _ _ _ hE (hN.rd _ _)
  | succ j ih =>
    intro k p W τ cn hk hp hL hE
    rw [rL] at hE
    refine x_rd_b hl (by omega) (by omega) hT hL (fun e p' τ' hw hN => ?_) (fun p' t τ' hw hN => ?_)
    · rw [hw] at hE
      have he := (pWd_le (c := c) (n := n) (p := p)).1 e hw
      have h36 := hN.2.2.1
      have e36 : rdP τ' s i n p' (nI e) = τ' := kt_put_id τ' 36 _ h36
      have ne := nI_ne9 (e := e) (by omega)
      repeat refine Ev_go rfl ?_
      rw [nI_1]
      refine Ev_if (fun _ => ?_) (fun _ => ?_)
      · exact x_rd_z _ _ _ (fun o6 => x_rd_end_f _ _ _ _ _ _ h36 ne (h0 e _ _ _ _ _ hE hN))
      · repeat refine Ev_go rfl ?_
        refine Ev_cv rfl rfl h36 rfl rfl ?_
        rw [← e36]
        refine x_takes_f p' _ ne 43 (by decide) ?_
        rw [e36]
        iterate 1 refine Ev_go rfl ?_
        exact x_rd_z _ _ _ (fun o6 => x_rd_end_f _ _ _ _ _ _ h36 ne (h0 e _ _ _ _ _ hE hN))
    · rw [hw] at hE
      have he := ((pWd_le (c := c) (n := n) (p := p)).2 p' t hw).1
      have h36 := hN.2.2.1
      have e36 : rdP τ' s i n (nI p') (-9) = τ' := kt_put_id τ' 36 _ h36
      dsimp only at hE
      repeat refine Ev_go rfl ?_
      rw [nI_1]
      refine Ev_if (fun g => absurd g (nI_ge (b := 4) (by omega) (by omega))) (fun _ => ?_)
      repeat refine Ev_go rfl ?_
      refine Ev_cv rfl rfl h36 rfl rfl ?_
      rw [← e36]
      refine x_takes (hN.tt hl hT τ' (fun _ _ => rfl)) p' (by omega) 43 (by decide) (by decide) (fun g => ?_) (fun g => ?_)
      · have hlt : ¬ n ≤ p' := fun z => by
          unfold cd at g
          rw [if_neg (by omega)] at g
          exact absurd g (by decide)
        rw [if_neg hlt, if_pos ⟨Nat.succ_ne_zero j, g⟩] at hE
        have hh := ih (k + 1) (p' + 1) _ _ _ (by omega) (by omega) (hN.rd (nI (p' + 1)) (-9)) hE
        iterate 6 refine Ev_go rfl ?_
        rw [nI_1]
        exact hh
      · iterate 1 refine Ev_go rfl ?_
        rw [e36]
        refine x_rd_z _ _ _ (fun o6 => x_rd_end (by omega) hn _ _ _ _ _ _ h36 (fun z => ?_) (fun z => ?_))
        · rw [if_pos z] at hE
          exact h1 _ _ _ _ hE hN
        · rw [if_neg z, if_neg (fun y => g y.2)] at hE
          exact h0 _ _ _ _ _ _ hE (hN.rd _ _)
/-- a law's cells, whatever they tell -/
def Lf (σ : kt_H) (l : Nat) : Prop := (∃ cn : Int32, σ.1 (38 + 10 * l) = kt_ob 3 [.ref (39 + 10 * l), .int cn]) ∧ (∃ g, σ.1 (39 + 10 * l) = kt_ra 5 4 g ∧ ∀ w, w < 4 → g w = some (40 + 10 * l + 2 * w)) ∧ ∀ w, w < 4 → ∃ (v0 v2 v3 v4 : Value) (g : Nat → Int32), σ.1 (40 + 10 * l + 2 * w) = kt_ob 10 [v0, .ref (40 + 10 * l + 2 * w + 1), v2, v3, v4] ∧ σ.1 (40 + 10 * l + 2 * w + 1) = kt_ia 3 g
theorem x_read {l s i n : Nat} {c : Nat → Int32} {v0 v1 v2 v3 v4 : Value} (hl : l < 9) (hn : n ≤ 60) (hT : TT σ s i n c) (h36 : σ.1 36 = kt_ob 4 [v0, v1, v2, v3, v4]) (hL : Lf σ l)
    (h0 : ∀ e p cn k W τ', rL c n 4 0 0 W0 = .inl e → Lr σ τ' l s i n p (nI e) cn k W → Q (some (.int (nI e))) τ')
    (h1 : ∀ k W p τ', rL c n 4 0 0 W0 = .inr (k, W) → Lr σ τ' l s i n p (-9) (nI k) k W → Q (some (.int (-9))) τ') : Cs nX4_read [.ref 36, .ref s, .int (nI i), .int (nI n), .ref (38 + 10 * l)] σ Q := by
  obtain ⟨⟨cn, l1⟩, l2, l3⟩ := hL
  refine Cs_in (k := kX4_read) [some (.ref 36), some (.ref s), some (.int (nI i)), some (.int (nI n)), some (.ref (38 + 10 * l)), none, none] rfl rfl ?_
  repeat refine Ev_go rfl ?_
  refine Ev_pf rfl h36 rfl rfl rfl ?_
  repeat refine Ev_go rfl ?_
  rw [kt_put_put, kt_put_put, kt_put_put, kt_put_put]
  refine Ev_pf rfl (by rw [kt_put_n _ _ (by omega)]; exact l1) rfl rfl rfl ?_
  iterate 4 refine Ev_go rfl ?_
  have hN : Lr σ (rdP σ s i n (nI 0) (-9)) l s i n (nI 0) (-9) cn 0 W0 := ⟨rfl, fun j a b => kt_put_n _ _ a, kt_put_s _ _ _, by rw [kt_put_n _ _ (by omega)]; exact l1, by rw [kt_put_n _ _ (by omega)]; exact l2, fun w hw => by rw [kt_put_n _ _ (by omega), kt_put_n _ _ (by omega)]; exact l3 w hw, fun w hw => absurd hw (Nat.not_lt_zero w)⟩
  exact x_rd hl hn hT _ h0 h1 3 0 0 W0 _ 0 rfl (by omega) (hN.cnt (by omega) 0) rfl
end XL
