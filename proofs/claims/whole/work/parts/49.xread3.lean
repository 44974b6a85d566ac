/-! the component: a word is read, to its end -/
theorem nI_ne9 {e : Nat} (h : e < 100000) : nI e ≠ -9 := by
  intro z
  rw [fa_eq, nI_toInt (by omega)] at z
  have t : (-9 : Int32).toInt = -9 := rfl
  omega
theorem nm_dg {c : Nat → Int32} {n p : Nat} (h : dgP (cd c n p)) : nmI c n 1 p 0 = (p + 1, cd c n p - 48) := by
  show nmI c n (0 + 1) p 0 = _
  rw [nmI, if_pos h, nmI, Int32.mul_zero, Int32.zero_add]
theorem nm_nd {c : Nat → Int32} {n p : Nat} (h : ¬ dgP (cd c n p)) : nmI c n 1 p 0 = (p, 0) := by
  show nmI c n (0 + 1) p 0 = _
  rw [nmI, if_neg h]
theorem dg_s {x : Int32} (h : dgP x) : (x - 48).toInt = x.toInt - 48 := by
  have t : (48 : Int32).toInt = 48 := rfl
  rw [fb_subI (by omega) (by omega), t]
theorem s_dg {x : Int32} (h : 2 ≤ (x - 48).toInt ∧ (x - 48).toInt ≤ 9) : dgP x := by
  have t : (48 : Int32).toInt = 48 := rfl
  have e : x = x - 48 + 48 := (Int32.sub_add_cancel x 48).symm
  have e2 : (x - 48 + 48).toInt = (x - 48).toInt + 48 := by rw [fb_addI (by omega) (by omega), t]
  rw [← e] at e2
  omega
section XY
variable {σ τ : kt_H} {Q : Option Value → kt_H → Prop}
/-- nothing more is read after a fault -/
theorem x_rw_f55 {w s i n : Nat} {p ff : Int32} (o2 : Option Value) (h36 : τ.1 36 = rdC s i n p ff) (hf : ff ≠ -9) (hq : Q none τ) : Ev kX4_readWord (55, [some (.ref 36), some (.ref w), o2], [], τ) Q := by
  have e : rdP τ s i n p ff = τ := kt_put_id τ 36 _ h36
  repeat refine Ev_go rfl ?_
  refine Ev_cv rfl rfl h36 rfl rfl ?_
  rw [← e]
  refine x_takes_f p ff hf 60 (by decide) ?_
  rw [e]
  repeat refine Ev_go rfl ?_
  refine Ev_rt rfl ?_
  exact hq
theorem x_rw_f36 {w s i n : Nat} {p ff : Int32} (o2 : Option Value) (h36 : τ.1 36 = rdC s i n p ff) (hf : ff ≠ -9) (hq : Q none τ) : Ev kX4_readWord (36, [some (.ref 36), some (.ref w), o2], [], τ) Q := by
  have e : rdP τ s i n p ff = τ := kt_put_id τ 36 _ h36
  repeat refine Ev_go rfl ?_
  refine Ev_cv rfl rfl h36 rfl rfl ?_
  rw [← e]
  refine x_takes_f p ff hf 47 (by decide) ?_
  rw [e]
  iterate 1 refine Ev_go rfl ?_
  exact x_rw_f55 o2 h36 hf hq
theorem x_rw_f {w s i n : Nat} {p ff : Int32} (k : Nat) (h36 : τ.1 36 = rdC s i n p ff) (hf : ff ≠ -9) (hq : Q none τ) : Ev kX4_readWord (11, [some (.ref 36), some (.ref w), some (.int (nI k))], [], τ) Q := by
  have e : rdP τ s i n p ff = τ := kt_put_id τ 36 _ h36
  repeat refine Ev_go rfl ?_
  refine Ev_if (fun _ => x_rw_f36 _ h36 hf hq) (fun _ => ?_)
  repeat refine Ev_go rfl ?_
  refine Ev_cv rfl rfl h36 rfl rfl ?_
  rw [← e]
  refine x_takes_f p ff hf 42 (by decide) ?_
  rw [e]
  iterate 1 refine Ev_go rfl ?_
  exact x_rw_f36 _ h36 hf hq
def Fw (σ τ : kt_H) (w s i n : Nat) (p ff : Int32) : Prop := ∃ ys dv mo, Rw σ τ w s i n p ff ys dv mo
/-- the text stays where it is -/
abbrev TT (σ : kt_H) (s i n : Nat) (c : Nat → Int32) : Prop := ∀ τ : kt_H, (∀ j, 128 ≤ j → τ.1 j = σ.1 j) → Tx τ s i n c
theorem Rw.tt {w s i n : Nat} {p ff : Int32} {xs : List Int32} {dv mo : Int32} {c : Nat → Int32} (h : Rw σ τ w s i n p ff xs dv mo) (hT : TT σ s i n c) (hw2 : w + 1 < 128) : Tx τ s i n c := hT τ (fun j hj => h.2.1 j (by omega) (by omega) (by omega))
theorem Rw.wo {w s i n : Nat} {p ff : Int32} {xs : List Int32} {dv mo : Int32} (h : Rw σ τ w s i n p ff xs dv mo) (hw : 38 ≤ w) : ∃ (num : Int32) (cnt : Nat), τ.1 w = woC w num cnt dv mo ∧ ∀ V M, Rw σ (kt_put τ w (woC w num cnt V M)) w s i n p ff xs V M := by
  obtain ⟨h1, h2, h3, num, cnt, g, h4, h5, h6⟩ := h
  exact ⟨num, cnt, h4, fun V M => ⟨h1, fun j a b c => by rw [kt_put_n _ _ b]; exact h2 j a b c, by rw [kt_put_n _ _ (by omega)]; exact h3, num, cnt, g, kt_put_s _ _ _, by rw [kt_put_n _ _ (by omega)]; exact h5, h6⟩⟩
theorem x_rw_1 {w s i n : Nat} {c : Nat → Int32} (hw : 38 ≤ w) (hw2 : w + 1 < 128) (hT : TT σ s i n c) (R : Sum Nat (Nat × List Int32)) (p0 : Nat) (hp0 : p0 < 700)
    (h0 : ∀ e p' τ', R = .inl e → Fw σ τ' w s i n p' (nI e) → Q none τ')
    (h1 : ∀ p' ys τ' o2, R = .inr (p', ys) → p' ≤ p0 + 9 → Rw σ τ' w s i n (nI p') (-9) ys 1 970299 → Ev kX4_readWord (36, [some (.ref 36), some (.ref w), o2], [], τ') Q) :
    ∀ (j p : Nat) (xs : List Int32) (τ : kt_H), xs.length + j = 3 → p + 3 * j ≤ p0 + 9 → Rw σ τ w s i n (nI p) (-9) xs 1 970299 → (R = if j ≠ 0 ∧ cd c n p = 42 then (match ftI c n j (p + 1) with
      | .inl e => .inl e
      | .inr (q, ys) => .inr (q, xs ++ ys)) else .inr (p, xs)) → Ev kX4_readWord (11, [some (.ref 36), some (.ref w), some (.int (nI xs.length))], [], τ) Q := by
  intro j
  induction j with
  | zero =>
    intro p xs τ hx hp hR hE
    rw [if_neg (fun z => z.1 rfl)] at hE
    have e : xs.length = 3 := by omega
    repeat refine Ev_go rfl ?_
    exact Ev_if (fun _ => h1 p xs τ _ hE (by omega) hR) (fun g => absurd (by rw [e]; decide) g)
  | succ j ih =>
    intro p xs τ hx hp hR hE
    have hT' := hR.tt hT hw2
    have h36 := hR.2.2.1
    have e36 : rdP τ s i n (nI p) (-9) = τ := kt_put_id τ 36 _ h36
    repeat refine Ev_go rfl ?_
    refine Ev_if (fun g => absurd g (nI_ge (b := 3) (by omega) (by omega))) (fun _ => ?_)
    repeat refine Ev_go rfl ?_
    refine Ev_cv rfl rfl h36 rfl rfl ?_
    rw [← e36]
    refine x_takes hT' p (by omega) 42 (by decide) (by decide) (fun g => ?_) (fun g => ?_)
    · rw [if_pos ⟨Nat.succ_ne_zero j, g⟩, ftI] at hE
      have hN := hR.rd hw (nI (p + 1)) (-9)
      repeat refine Ev_go rfl ?_
      refine Ev_ca rfl ?_
      refine x_readFactor hw (hN.tt hT hw2) hN (by omega) (by omega) (fun e p' τ' hfc hF => ?_) (fun p' x τ' hfc hN2 => ?_)
      · obtain ⟨ys, hy, hF⟩ := hF
        rw [hfc] at hE
        have ee := fcI_in hfc
        iterate 2 refine Ev_go rfl ?_
        rw [nI_1]
        exact x_rw_f (xs.length + 1) hF.2.2.1 (nI_ne9 (by omega)) (h0 e p' τ' hE ⟨ys, _, _, hF⟩)
      · rw [hfc] at hE
        have hle := (fcI_le hfc).1
        iterate 2 refine Ev_go rfl ?_
        rw [nI_1]
        have hh := ih p' (xs ++ [x]) τ' (by rw [List.length_append]; show xs.length + 1 + j = 3; omega) (by omega) hN2 ?_
        · rw [List.length_append] at hh
          exact hh
        rw [hE]
        dsimp only
        by_cases hj : j ≠ 0 ∧ cd c n p' = 42
        · rw [if_pos hj, if_pos hj]
          cases ftI c n j (p' + 1) with
          | inl e => rfl
          | inr q =>
            obtain ⟨q, ys⟩ := q
            dsimp only
            rw [List.append_assoc]
            rfl
        · rw [if_neg hj, if_neg hj]
    · rw [if_neg (fun z => g z.2)] at hE
      iterate 1 refine Ev_go rfl ?_
      rw [e36]
      exact h1 p xs τ _ hE (by omega) hR
theorem x_rw_2 {w s i n p : Nat} {c : Nat → Int32} {xs : List Int32} (hw : 38 ≤ w) (hw2 : w + 1 < 128) (hT : TT σ s i n c) (hp : p < 750) (o2 : Option Value) (hR : Rw σ τ w s i n (nI p) (-9) xs 1 970299)
    (h0 : ∀ e p' τ', dvI c n p = .inl e → Fw σ τ' w s i n p' (nI e) → Q none τ')
    (h1 : ∀ p' d τ', dvI c n p = .inr (p', d) → Rw σ τ' w s i n (nI p') (-9) xs d 970299 → Ev kX4_readWord (55, [some (.ref 36), some (.ref w), o2], [], τ') Q) : Ev kX4_readWord (36, [some (.ref 36), some (.ref w), o2], [], τ) Q := by
  have hT' := hR.tt hT hw2
  have h36 := hR.2.2.1
  have e36 : rdP τ s i n (nI p) (-9) = τ := kt_put_id τ 36 _ h36
  unfold dvI at h0 h1
  repeat refine Ev_go rfl ?_
  refine Ev_cv rfl rfl h36 rfl rfl ?_
  rw [← e36]
  refine x_takes hT' p (by omega) 47 (by decide) (by decide) (fun g => ?_) (fun g => ?_)
  · rw [if_pos g] at h0 h1
    repeat refine Ev_go rfl ?_
    refine Ev_ca rfl ?_
    refine x_readNumber hT' 1 (by decide) 2 (p + 1) (by omega) (fun b => ?_) (fun b => ?_)
    · obtain ⟨num, cnt, q4, q⟩ := (hR.rd hw (nI (nmI c n 1 (p + 1) 0).1) (nI (p + 1))).wo hw
      refine Ev_pf rfl q4 rfl rfl rfl ?_
      refine x_rw_f55 _ (q _ _).2.2.1 (nI_ne9 (by omega)) (h0 (p + 1) _ _ ?_ ⟨_, _, _, q _ _⟩)
      rw [if_neg (fun z => ?_)]
      have hd := s_dg z
      rw [nm_dg hd] at b
      rcases b with b | b
      · exact absurd b (by omega)
      · have b : cd c n (p + 1) - 48 < 2 := b
        rw [fa_lt] at b
        have t : (2 : Int32).toInt = 2 := rfl
        omega
    · obtain ⟨num, cnt, q4, q⟩ := (hR.rd hw (nI (nmI c n 1 (p + 1) 0).1) (-9)).wo hw
      refine Ev_pf rfl q4 rfl rfl rfl ?_
      have hd : dgP (cd c n (p + 1)) := by
        by_cases h : dgP (cd c n (p + 1))
        · exact h
        · rw [nm_nd h] at b
          exact absurd (Or.inl rfl) b
      have ds := dg_s hd
      rw [nm_dg hd] at b q ⊢
      have b2 : ¬ cd c n (p + 1) - 48 < 2 := fun z => b (Or.inr z)
      rw [fa_lt] at b2
      have t : (2 : Int32).toInt = 2 := rfl
      exact h1 (p + 2) _ _ (by rw [if_pos (by omega)]) (q _ _)
  · rw [if_neg g] at h1
    iterate 1 refine Ev_go rfl ?_
    rw [e36]
    exact h1 p 1 τ rfl hR
theorem x_rw_3 {w s i n p : Nat} {c : Nat → Int32} {xs : List Int32} {d : Int32} (hw : 38 ≤ w) (hw2 : w + 1 < 128) (hT : TT σ s i n c) (hp : p < 750) (o2 : Option Value) (hR : Rw σ τ w s i n (nI p) (-9) xs d 970299)
    (h0 : ∀ e p' τ', liI c n p = .inl e → Fw σ τ' w s i n p' (nI e) → Q none τ')
    (h1 : ∀ p' l τ', liI c n p = .inr (p', l) → Rw σ τ' w s i n (nI p') (-9) xs d (if l = -9 then 970299 else l) → Q none τ') : Ev kX4_readWord (55, [some (.ref 36), some (.ref w), o2], [], τ) Q := by
  have hT' := hR.tt hT hw2
  have h36 := hR.2.2.1
  have e36 : rdP τ s i n (nI p) (-9) = τ := kt_put_id τ 36 _ h36
  have hv := nmI_v c n 3 (p + 1) 0 0 (by decide) ⟨by decide, by decide⟩
  have hl := nmI_le c n 3 (p + 1) 0
  have t0 : (0 : Int32).toInt = 0 := rfl
  unfold liI at h0 h1
  repeat refine Ev_go rfl ?_
  refine Ev_cv rfl rfl h36 rfl rfl ?_
  rw [← e36]
  refine x_takes hT' p (by omega) 60 (by decide) (by decide) (fun g => ?_) (fun g => ?_)
  · rw [if_pos g] at h0 h1
    repeat refine Ev_go rfl ?_
    refine Ev_ca rfl ?_
    refine x_readNumber hT' 3 (by decide) 0 (p + 1) (by omega) (fun b => ?_) (fun b => ?_)
    · obtain ⟨num, cnt, q4, q⟩ := (hR.rd hw (nI (nmI c n 3 (p + 1) 0).1) (nI (p + 1))).wo hw
      refine Ev_pf rfl q4 rfl rfl rfl ?_
      refine Ev_rt rfl ?_
      have b1 : (nmI c n 3 (p + 1) 0).1 = p + 1 := b.resolve_right (fun z => by rw [fa_lt] at z; omega)
      have en : nuI c n 3 (p + 1) = -9 := by
        unfold nuI; rw [if_neg (by omega)]
      exact h0 (p + 1) _ _ (by rw [en, if_pos (by decide), b1]) ⟨_, _, _, q _ _⟩
    · obtain ⟨num, cnt, q4, q⟩ := (hR.rd hw (nI (nmI c n 3 (p + 1) 0).1) (-9)).wo hw
      refine Ev_pf rfl q4 rfl rfl rfl ?_
      refine Ev_rt rfl ?_
      have b1 : (nmI c n 3 (p + 1) 0).1 ≠ p + 1 := fun z => b (Or.inl z)
      have en : nuI c n 3 (p + 1) = (nmI c n 3 (p + 1) 0).2 := by
        unfold nuI; rw [if_pos (by omega)]
      have nn : ¬ (nmI c n 3 (p + 1) 0).2 = -9 := fun z => by
        rw [z] at hv
        exact absurd hv.1 (by decide)
      refine h1 _ _ _ (by rw [en, if_neg (by rw [fa_lt]; omega)]) ?_
      rw [if_neg nn]
      exact q _ _
  · rw [if_neg g] at h1
    repeat refine Ev_go rfl ?_
    rw [e36]
    refine Ev_rt rfl ?_
    exact h1 p (-9) τ rfl (by rw [if_pos rfl]; exact hR)
theorem x_readWord {w s i n p : Nat} {c : Nat → Int32} (hw : 38 ≤ w) (hw2 : w + 1 < 128) (hT : TT σ s i n c) (h36 : σ.1 36 = rdC s i n (nI p) (-9)) {v0 v2 v3 v4 : Value} {g : Nat → Int32} (hwo : σ.1 w = kt_ob 10 [v0, .ref (w + 1), v2, v3, v4]) (hg : σ.1 (w + 1) = kt_ia 3 g) (hp : p < 600)
    (h0 : ∀ e p' τ', pWd c n p = .inl e → Fw σ τ' w s i n p' (nI e) → Q none τ')
    (h1 : ∀ p' xs d l τ', pWd c n p = .inr (p', xs, d, l) → Rw σ τ' w s i n (nI p') (-9) xs d (if l = -9 then 970299 else l) → Q none τ') : Cs nX4_readWord [.ref 36, .ref w] σ Q := by
  refine Cs_in (k := kX4_readWord) [some (.ref 36), some (.ref w), none] rfl rfl ?_
  repeat refine Ev_go rfl ?_
  refine Ev_cv rfl rfl hwo rfl rfl ?_
  refine x_clear (fs := []) hwo ?_
  have hR0 : Rw σ (kt_put σ w (woC w 1 0 1 970299)) w s i n (nI p) (-9) [] 1 970299 := ⟨rfl, fun j a b c => kt_put_n _ _ b, by rw [kt_put_n _ _ (by omega)]; exact h36, 1, 0, g, kt_put_s _ _ _, by rw [kt_put_n _ _ (by omega)]; exact hg, Nat.zero_le _, fun i hi => absurd hi (Nat.not_lt_zero i), fun u => rfl⟩
  have c36 := hR0.2.2.1
  repeat refine Ev_go rfl ?_
  refine Ev_cv rfl rfl c36 rfl rfl ?_
  refine x_readFactor hw (hR0.tt hT hw2) hR0 (by decide) (by omega) (fun e p' τ' hfc hF => ?_) (fun p' x τ' hfc hN => ?_)
  · obtain ⟨ys, -, hF⟩ := hF
    have ee := fcI_in hfc
    iterate 2 refine Ev_go rfl ?_
    exact x_rw_f 1 hF.2.2.1 (nI_ne9 (by omega)) (h0 e p' τ' (by unfold pWd; rw [ftI, hfc]) ⟨ys, _, _, hF⟩)
  · have hle := (fcI_le hfc).1
    iterate 2 refine Ev_go rfl ?_
    refine x_rw_1 hw hw2 hT (ftI c n 3 p) p (by omega) (fun e p2 τ2 hE hF => h0 e p2 τ2 (by unfold pWd; rw [hE]) hF) (fun p2 ys τ2 o2 hE hp2 hR2 => ?_) 2 p' [x] τ' rfl (by omega) hN (by rw [ftI, hfc] <;> rfl)
    refine x_rw_2 hw hw2 hT (by omega) o2 hR2 (fun e p3 τ3 hD hF => h0 e p3 τ3 (by unfold pWd; rw [hE]; dsimp only; rw [hD]) hF) (fun p3 d τ3 hD hR3 => ?_)
    have hp3 := ((dvI_le (c := c) (n := n) (p := p2)).2 p3 d hD).1
    exact x_rw_3 hw hw2 hT (by omega) o2 hR3 (fun e p4 τ4 hL hF => h0 e p4 τ4 (by unfold pWd; rw [hE]; dsimp only; rw [hD]; dsimp only; rw [hL]) hF) (fun p4 l τ4 hL hR4 => h1 p4 ys d l τ4 (by unfold pWd; rw [hE]; dsimp only; rw [hD]; dsimp only; rw [hL]) hR4)
end XY
