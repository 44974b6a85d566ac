/-! the component: a word is read -/
def prL (u : Nat → Int32) (xs : List Int32) : Int32 := xs.foldl (fun a x => a * fac u x) 1
theorem prL_a (u : Nat → Int32) (xs : List Int32) (x : Int32) : prL u (xs ++ [x]) = prL u xs * fac u x := by
  unfold prL; rw [List.foldl_append]; rfl
theorem fac_100 (u : Nat → Int32) {v : Int32} (h : 0 ≤ v.toInt ∧ v.toInt ≤ 99) : fac u (100 + v) = v := by
  obtain ⟨j, a1, a2, rfl⟩ := nI_ex 99 h
  unfold fac
  rw [fa_lit 100, nI_add, if_neg (by rw [fa_lt, nI_toInt (by omega)]; show ¬ _ < (0 : Int); omega), if_neg (by rw [fa_lt, nI_toInt (by omega), nI_toInt (by omega)]; omega), pk_sub (by omega)]
  congr 1
  omega
theorem mkP_n (num v : Int32) (g u : Nat → Int32) : ∀ k, mkP (num * v) g u k = mkP num g u k * v := by
  intro k
  induction k with
  | zero => rfl
  | succ k ih => rw [mkP, mkP, ih, Int32.mul_assoc, Int32.mul_comm v, ← Int32.mul_assoc]
theorem mkP_c (num : Int32) {g h : Nat → Int32} (u : Nat → Int32) : ∀ k, (∀ i, i < k → g i = h i) → mkP num g u k = mkP num h u k := by
  intro k
  induction k with
  | zero => intro _; rfl
  | succ k ih => intro hh; rw [mkP, mkP, ih (fun i hi => hh i (by omega)), hh k (by omega)]
section XV
variable {σ τ : kt_H} {Q : Option Value → kt_H → Prop}
/-- while a word is read: the reader, the word, the rest as it was -/
def Rw (σ τ : kt_H) (w s i n : Nat) (p ff : Int32) (xs : List Int32) (dv mo : Int32) : Prop := τ.2 = σ.2 ∧ (∀ j, j ≠ 36 → j ≠ w → j ≠ w + 1 → τ.1 j = σ.1 j) ∧ τ.1 36 = rdC s i n p ff ∧ ∃ (num : Int32) (cnt : Nat) (g : Nat → Int32), τ.1 w = woC w num cnt dv mo ∧ τ.1 (w + 1) = kt_ia 3 g ∧ cnt ≤ xs.length ∧ (∀ i, i < cnt → 0 ≤ (g i).toInt ∧ (g i).toInt ≤ 7) ∧ ∀ u, mkP num g u cnt = prL u xs
theorem Rw.rd {w s i n : Nat} {p ff : Int32} {xs : List Int32} {dv mo : Int32} (h : Rw σ τ w s i n p ff xs dv mo) (hw : 38 ≤ w) (p' ff' : Int32) : Rw σ (rdP τ s i n p' ff') w s i n p' ff' xs dv mo := by
  obtain ⟨h1, h2, h3, num, cnt, g, h4, h5, h6⟩ := h
  refine ⟨h1, fun j a b c => by rw [kt_put_n _ _ a]; exact h2 j a b c, kt_put_s _ _ _, num, cnt, g, by rw [kt_put_n _ _ (by omega)]; exact h4, by rw [kt_put_n _ _ (by omega)]; exact h5, h6⟩
theorem x_clear {w : Nat} {fs : List Value} {v0 v2 v3 v4 : Value} (hw : σ.1 w = kt_ob 10 [v0, .ref (w + 1), v2, v3, v4]) (hq : Q none (kt_put σ w (woC w 1 0 1 970299))) : Cs nX10_clear [.ref w] σ Q := by
  refine Cs_in (k := kX10_clear) [some (.ref w)] rfl rfl ?_
  repeat refine Ev_go rfl ?_
  refine Ev_pf rfl hw rfl rfl rfl ?_
  repeat refine Ev_go rfl ?_
  refine Ev_pf rfl (kt_put_s _ _ _) rfl rfl rfl ?_
  rw [kt_put_put]
  repeat refine Ev_go rfl ?_
  refine Ev_pf rfl (kt_put_s _ _ _) rfl rfl rfl ?_
  rw [kt_put_put]
  repeat refine Ev_go rfl ?_
  refine Ev_pf rfl (kt_put_s _ _ _) rfl rfl rfl ?_
  rw [kt_put_put]
  refine Ev_rt rfl ?_
  exact hq
theorem x_addNumber {w : Nat} {num : Int32} {v1 v2 v3 v4 : Value} (hw : σ.1 w = kt_ob 10 [.int num, v1, v2, v3, v4]) (x : Int32) (hq : Q none (kt_put σ w (kt_ob 10 [.int (num * x), v1, v2, v3, v4]))) : Cs nX10_addNumber [.ref w, .int x] σ Q := by
  refine Cs_in (k := kX10_addNumber) [some (.ref w), some (.int x)] rfl rfl ?_
  (repeat first | refine Ev_go rfl ?_ | refine Ev_gf rfl (hw) rfl rfl ?_ )
  refine Ev_pf rfl hw rfl rfl rfl ?_
  refine Ev_rt rfl ?_
  exact hq
theorem x_addLetter {w : Nat} {cnt : Nat} {v0 v3 v4 : Value} {g : Nat → Int32} (hw : σ.1 w = kt_ob 10 [v0, .ref (w + 1), .int (nI cnt), v3, v4]) (hg : σ.1 (w + 1) = kt_ia 3 g) (hc : cnt < 3) (x : Int32) (hq : Q none (kt_put (kt_put σ (w + 1) (kt_ia 3 (upd g cnt x))) w (kt_ob 10 [v0, .ref (w + 1), .int (nI (cnt + 1)), v3, v4]))) : Cs nX10_addLetter [.ref w, .int x] σ Q := by
  have hw' : ∀ c, (kt_put σ (w + 1) c).1 w = kt_ob 10 [v0, .ref (w + 1), .int (nI cnt), v3, v4] := fun c => by rw [kt_put_n _ _ (by omega)]; exact hw
  refine Cs_in (k := kX10_addLetter) [some (.ref w), some (.int x)] rfl rfl ?_
  (repeat first | refine Ev_go rfl ?_ | refine Ev_gf rfl (hw) rfl rfl ?_ )
  refine Ev_len rfl hg ?_
  repeat refine Ev_go rfl ?_
  refine Ev_if (fun g1 => absurd g1 (nI_ge (b := 3) hc (by omega))) (fun _ => ?_)
  (repeat first | refine Ev_go rfl ?_ | refine Ev_gf rfl (hw) rfl rfl ?_ )
  refine Ev_ias cnt rfl hg rfl hc (by decide) ?_
  (repeat first | refine Ev_go rfl ?_ | refine Ev_gf rfl (hw' _) rfl rfl ?_ )
  refine Ev_pf rfl (hw' _) rfl rfl rfl ?_
  rw [nI_1]
  refine Ev_rt rfl ?_
  exact hq
theorem Rw.tx {w s i n : Nat} {p ff : Int32} {xs : List Int32} {dv mo : Int32} {c : Nat → Int32} (h : Rw σ τ w s i n p ff xs dv mo) (hT : Tx σ s i n c) (h1 : s ≠ w ∧ s ≠ w + 1) (h2 : ∀ q v1 v2 v3, σ.1 s = kt_ob 8 [.ref q, v1, v2, v3] → q ≠ w ∧ q ≠ w + 1) : Tx τ s i n c := by
  obtain ⟨q, v1, v2, v3, g, t1, t2, t3, t4, t5, t6⟩ := hT
  have hq := h2 q v1 v2 v3 t1
  exact ⟨q, v1, v2, v3, g, by rw [h.2.1 s t5 h1.1 h1.2]; exact t1, by rw [h.2.1 q t6 hq.1 hq.2]; exact t2, t3, t4, t5, t6⟩
theorem x_readFactor {w s i n : Nat} {c : Nat → Int32} {p : Nat} {xs : List Int32} {dv mo : Int32} (hw : 38 ≤ w) (hT : Tx τ s i n c) (hR : Rw σ τ w s i n (nI p) (-9) xs dv mo) (hx : xs.length < 3) (hp : p < 800)
    (h0 : ∀ e p' τ', fcI c n p = .inl e → (∃ ys, ys.length ≤ 3 ∧ Rw σ τ' w s i n p' (nI e) ys dv mo) → Q none τ')
    (h1 : ∀ p' x τ', fcI c n p = .inr (p', x) → Rw σ τ' w s i n (nI p') (-9) (xs ++ [x]) dv mo → Q none τ') : Cs nX4_readFactor [.ref 36, .ref w] τ Q := by
  have hl := nmI_le c n 2 p 0
  have hv2 := nmI_v c n 2 p 0 0 (by decide) ⟨by decide, by decide⟩
  have hR0 := hR
  obtain ⟨r1, r2, r3, num, cnt, g, r4, r5, r6, r7, r8⟩ := hR
  have hp36 := kt_put_id τ 36 _ r3
  refine Cs_in (k := kX4_readFactor) [some (.ref 36), some (.ref w), none] rfl rfl ?_
  rw [← hp36]
  repeat refine Ev_go rfl ?_
  refine Ev_ca rfl ?_
  refine x_code hT p (by omega) ?_
  repeat refine Ev_go rfl ?_
  refine Ev_ca rfl ?_
  refine x_isDigit _ ?_
  repeat refine Ev_go rfl ?_
  unfold fcI at h0 h1
  refine Ev_ifb (fun g1 => ?_) (fun g1 => ?_)
  · repeat refine Ev_go rfl ?_
    refine Ev_ca rfl ?_
    refine x_code hT p (by omega) ?_
    repeat refine Ev_go rfl ?_
    refine Ev_ca rfl ?_
    refine x_measureOf _ ?_
    rw [cx_lt]
    have g2 : ¬ dgP (cd c n p) := fun z => g1 (cx_dg.mpr z)
    have en : nuI c n 2 p = -9 := by
      unfold nuI nmI
      rw [if_neg g2, if_neg (Nat.lt_irrefl p)]
    rw [en, if_pos (show (-9 : Int32) < 1 by decide)] at h0 h1
    have hlc := ltI_c (cd c n p)
    generalize ltI (cd c n p) = lt at hlc h0 h1 ⊢
    repeat refine Ev_go rfl ?_
    refine Ev_if (fun g3 => ?_) (fun g3 => ?_)
    · have g3 : lt = -9 := g3
      subst g3
      rw [if_neg (by decide)] at h0 h1
      repeat refine Ev_go rfl ?_
      refine Ev_ca rfl ?_
      refine x_failAt _ _ ?_
      refine Ev_rt rfl ?_
      exact h0 p _ _ rfl ⟨xs, by omega, hR0.rd hw _ _⟩
    · have g3 : ¬ lt = -9 := g3
      have hlt : 0 ≤ lt.toInt ∧ lt.toInt ≤ 7 := hlc.resolve_left g3
      rw [if_pos (by rw [fa_le]; exact hlt.1)] at h0 h1
      repeat refine Ev_go rfl ?_
      have q4 : (rdP τ s i n (nI p) (-9)).1 w = woC w num cnt dv mo := by rw [kt_put_n _ _ (by omega)]; exact r4
      have q5 : (rdP τ s i n (nI p) (-9)).1 (w + 1) = kt_ia 3 g := by rw [kt_put_n _ _ (by omega)]; exact r5
      refine Ev_cv rfl rfl q4 rfl rfl ?_
      refine x_addLetter q4 q5 (by omega) lt ?_
      have q36 : (kt_put (kt_put (rdP τ s i n (nI p) (-9)) (w + 1) (kt_ia 3 (upd g cnt lt))) w (woC w num (cnt + 1) dv mo)).1 36 = rdC s i n (nI p) (-9) := by
        rw [kt_put_n _ _ (by omega), kt_put_n _ _ (by omega), kt_put_s]
      (repeat first | refine Ev_go rfl ?_ | refine Ev_gf rfl (q36) rfl rfl ?_ )
      refine Ev_pf rfl q36 rfl rfl rfl ?_
      rw [nI_1]
      refine Ev_rt rfl ?_
      refine h1 (p + 1) lt _ rfl ?_
      have hN : Rw σ (kt_put (kt_put (rdP τ s i n (nI p) (-9)) (w + 1) (kt_ia 3 (upd g cnt lt))) w (woC w num (cnt + 1) dv mo)) w s i n (nI p) (-9) (xs ++ [lt]) dv mo := ?_
      · exact hN.rd hw _ _
      refine ⟨r1, fun j a b c => ?_, q36, num, cnt + 1, upd g cnt lt, kt_put_s _ _ _, by rw [kt_put_n _ _ (show w + 1 ≠ w by omega), kt_put_s], by rw [List.length_append]; show _ ≤ _ + 1; omega, fun y hy => ?_, fun u => ?_⟩
      · rw [kt_put_n _ _ b, kt_put_n _ _ c, kt_put_n _ _ a]; exact r2 j a b c
      · by_cases e : y = cnt
        · subst e; rw [pk_us]; exact hlt
        · rw [pk_un e]; exact r7 y (by omega)
      · rw [mkP, pk_us, prL_a, ← r8 u, mkP_c num u cnt (h := g) (fun y hy => pk_un (by omega))]
        congr 1
        obtain ⟨j, a1, a2, a3⟩ := nI_ex 7 hlt
        rw [a3, fac_m a1, nC, nI_clamp (by omega)]
  · have g2 := cx_dg.mp g1
    have e9 : ltI (cd c n p) = -9 := by
      unfold ltI
      have ne : ∀ y : Int32, ¬ dgP y → ¬ cd c n p = y := fun y h e => h (by rw [← e]; exact g2)
      rw [if_neg (ne 76 (by decide)), if_neg (ne 66 (by decide)), if_neg (ne 77 (by decide)), if_neg (ne 65 (by decide)), if_neg (ne 68 (by decide)), if_neg (ne 72 (by decide)), if_neg (ne 83 (by decide)), if_neg (ne 75 (by decide))]
    rw [e9, if_neg (by decide)] at h0 h1
    have hgt : p < (nmI c n 2 p 0).1 := by
      unfold nmI
      rw [if_pos g2]
      exact (nmI_le c n 1 (p + 1) (10 * 0 + cd c n p - 48)).1
    have en : nuI c n 2 p = (nmI c n 2 p 0).2 := by
      unfold nuI; rw [if_pos hgt]
    rw [en] at h0 h1
    have q4 : ∀ x y, (rdP τ s i n x y).1 w = woC w num cnt dv mo := fun x y => by rw [kt_put_n _ _ (by omega)]; exact r4
    have q5 : ∀ x y, (rdP τ s i n x y).1 (w + 1) = kt_ia 3 g := fun x y => by rw [kt_put_n _ _ (by omega)]; exact r5
    have added : ∀ (P ff v : Int32) (zs : List Int32), cnt ≤ zs.length → (∀ u, mkP num g u cnt * v = prL u zs) → Rw σ (kt_put (rdP τ s i n P ff) w (woC w (num * v) cnt dv mo)) w s i n P ff zs dv mo := by
      intro P ff v zs hz hu
      refine ⟨r1, fun j a b c => ?_, by rw [kt_put_n _ _ (by omega), kt_put_s], num * v, cnt, g, kt_put_s _ _ _, by rw [kt_put_n _ _ (by omega)]; exact q5 _ _, hz, r7, fun u => by rw [mkP_n]; exact hu u⟩
      rw [kt_put_n _ _ b, kt_put_n _ _ a]; exact r2 j a b c
    have ff : ∀ u, fac u (100 + (nmI c n 2 p 0).2) = (nmI c n 2 p 0).2 := fun u => fac_100 u ⟨hv2.1, by omega⟩
    have hz : cnt ≤ (xs ++ [100 + (nmI c n 2 p 0).2]).length := by rw [List.length_append]; show _ ≤ _ + 1; omega
    have hz3 : (xs ++ [100 + (nmI c n 2 p 0).2]).length ≤ 3 := by rw [List.length_append]; show _ + 1 ≤ 3; omega
    have hu : ∀ u, mkP num g u cnt * (nmI c n 2 p 0).2 = prL u (xs ++ [100 + (nmI c n 2 p 0).2]) := fun u => by rw [prL_a, ff u, r8 u]
    repeat refine Ev_go rfl ?_
    refine Ev_ca rfl ?_
    refine x_readNumber hT 2 (by decide) 1 p hp (fun b => ?_) (fun b => ?_)
    · have b : (nmI c n 2 p 0).2 < 1 := b.resolve_left (by omega)
      rw [if_pos b] at h0
      refine Ev_cv rfl rfl (q4 _ _) rfl rfl ?_
      refine x_addNumber (q4 _ _) _ ?_
      refine Ev_rt rfl ?_
      exact h0 p _ _ rfl ⟨_, hz3, added _ _ _ _ hz hu⟩
    · rw [if_neg (fun z => b (Or.inr z))] at h1
      refine Ev_cv rfl rfl (q4 _ _) rfl rfl ?_
      refine x_addNumber (q4 _ _) _ ?_
      refine Ev_rt rfl ?_
      exact h1 _ _ _ rfl (added _ _ _ _ hz hu)
end XV
