/-! the component: a step -/
def gof (w d : Nat → Int32) (q : Nat) : Int32 := if q % 2 = 0 then w (q / 2) else d (q / 2)
theorem gof_g {w d g : Nat → Int32} {n : Nat} (h : ∀ x, x < n → g (2 * x) = w x ∧ g (2 * x + 1) = d x) {q : Nat} (hq : q < 2 * n) : g q = gof w d q := by
  unfold gof
  rcases Nat.mod_two_eq_zero_or_one q with e | e
  · rw [if_pos e, ← (h (q / 2) (by omega)).1, show 2 * (q / 2) = q by omega]
  · rw [if_neg (by omega), ← (h (q / 2) (by omega)).2, show 2 * (q / 2) + 1 = q by omega]
theorem ch_x {w d : Nat → Int32} {p more : Nat} (hm : more < 2) : gof w d p + 2 * nI more - 1 = chP w d (2 * p + more) := by
  have e2 : (2 * p + more) / 2 = p := by omega
  have e4 : (2 * p + more) / 4 = p / 2 := by omega
  have em : (2 * p + more) % 2 = more := by omega
  have eb : ∀ x : Int32, x + 2 * nI more - 1 = x + byS (2 * p + more) := by
    intro x
    unfold byS
    rw [em]
    have : more = 0 ∨ more = 1 := by omega
    rcases this with rfl | rfl
    · rw [if_pos rfl, show (2 : Int32) * nI 0 = 0 from rfl, Int32.add_zero, Int32.sub_eq_add_neg]
    · rw [if_neg (by decide), show (2 : Int32) * nI 1 = 2 from rfl, Int32.sub_eq_add_neg, Int32.add_assoc]
      rfl
  unfold gof chP chW chD
  rw [e2, e4, pk_us, pk_us]
  rcases Nat.mod_two_eq_zero_or_one p with e | e
  · rw [if_pos e, if_pos e, if_pos e, eb]
  · rw [if_neg (by omega), if_neg (by omega), if_pos e, eb]
theorem ch_w {w d : Nat → Int32} {p more x : Nat} (hm : more < 2) : (2 * x = p → chW w (2 * p + more) x = chP w d (2 * p + more)) ∧ (2 * x ≠ p → chW w (2 * p + more) x = w x) := by
  have e2 : (2 * p + more) / 2 = p := by omega
  have e4 : (2 * p + more) / 4 = p / 2 := by omega
  refine ⟨fun e => ?_, fun e => ?_⟩
  · unfold chP
    rw [e2, e4, if_pos (by omega), show p / 2 = x by omega]
  · unfold chW
    rw [e2, e4]
    by_cases ex : x = p / 2
    · rw [← ex, pk_us, if_neg (by omega), Int32.add_zero]
    · rw [pk_un ex]
theorem ch_d {w d : Nat → Int32} {p more x : Nat} (hm : more < 2) : (2 * x + 1 = p → chD d (2 * p + more) x = chP w d (2 * p + more)) ∧ (2 * x + 1 ≠ p → chD d (2 * p + more) x = d x) := by
  have e2 : (2 * p + more) / 2 = p := by omega
  have e4 : (2 * p + more) / 4 = p / 2 := by omega
  refine ⟨fun e => ?_, fun e => ?_⟩
  · unfold chP
    rw [e2, e4, if_neg (by omega), show p / 2 = x by omega]
  · unfold chD
    rw [e2, e4]
    by_cases ex : x = p / 2
    · rw [← ex, pk_us, if_neg (by omega), Int32.add_zero]
    · rw [pk_un ex]
theorem stI_s (a : AA) (kd : Int32) (n : Nat) (w d : Nat → Int32) (l : Int32) (k : Nat) : stI a kd n w d l (k + 1) = if ((1 ≤ (chP w d k).toInt ∧ (chP w d k).toInt ≤ 9) ∧ fbI (a 9) kd n (chW w k) (chD d k) < 0) ∧ (stI a kd n w d l k).1 < vlI (a 9 5) a kd n (chW w k) (chD d k) l (-9) then (vlI (a 9 5) a kd n (chW w k) (chD d k) l (-9), 100 * nI (k / 4) + 10 * nI (k / 2 % 2) + nI (k % 2)) else stI a kd n w d l k := rfl
section XJ
variable {f : FF} {a : AA} {σ τ : kt_H} {Q : Option Value → kt_H → Prop}
abbrev stL (h l : Int32) (h' : Nat) (lv : Value) (k : Nat) (x : Int32 × Int32) (p more : Nat) (o10 o11 o12 : Option Value) : kt_L := [some (.ref 0), some (.int h), some (.int l), some (.ref (151 + 3 * h')), some lv, some (.ref (7 + 3 * k)), some (.int x.1), some (.int x.2), some (.int (nI p)), some (.int (nI more)), o10, o11, o12]
def SpS (τ : kt_H) (k n : Nat) (kd : Int32) (P : Nat → Prop) (w d : Nat → Int32) : Prop := ∃ g u : Nat → Int32, τ.1 (7 + 3 * k) = kt_ob (cK kd) [.int (-9), .ref (8 + 3 * k), .int (nI n), .ref (9 + 3 * k)] ∧ τ.1 (8 + 3 * k) = kt_ia 16 g ∧ τ.1 (9 + 3 * k) = kt_ia 9 u ∧ ∀ q, q < 2 * n → P q → g q = gof w d q
theorem x_step_in (hI : Inv f a) (hX : Xr f a σ) {h' n k p more : Nat} {h l : Int32} {lv : Value} (a1 : h' < nC (f 1)) (hc : nC (a 1 h') = n) (ek : a 0 h' = nI k) (kk : k < 3) (hK : Lk σ a lv (-1) l (-9)) (hp : p < 2 * n) (hm : more < 2) (hS : Sr σ τ) (hs : SpS τ k n (a 0 h') (fun q => q ≠ p) (hW a h') (hD a h')) (o10 o11 o12 : Option Value)
    (hq : ∀ τ2 o10 o11 o12, Sr σ τ2 → SpS τ2 k n (a 0 h') (fun q => q ≠ p) (hW a h') (hD a h') → Ev kX11_step (94, stL h l h' lv k (stI a (a 0 h') n (hW a h') (hD a h') l (2 * p + more + 1)) p (more + 1) o10 o11 o12, [], τ2) Q) : Ev kX11_step (94, stL h l h' lv k (stI a (a 0 h') n (hW a h') (hD a h') l (2 * p + more)) p more o10 o11 o12, [], τ) Q := by
  have hfit := hK.fit
  have hcat := fit_cat hfit
  obtain ⟨h16, n', n1, n8, ha, hc', hH, hB⟩ := (hX.s hS).h hI a1
  have en : n' = n := by rw [← hc', hc]
  subst en
  have hkd := hH.2.2.2.2.2.2.1
  have hmm := cK_m hkd
  obtain ⟨ho, ⟨gh, hgp, hgh⟩, -⟩ := hH
  have hs0 := hs
  obtain ⟨g, u, s1, s2, s3, s4⟩ := hs
  repeat refine Ev_go rfl ?_
  refine Ev_if (fun z => absurd z (by rw [fa_lt, nI_toInt (by omega)]; show ¬ (1 : Int) < _; omega)) (fun _ => ?_)
  repeat refine Ev_go rfl ?_
  refine Ev_gf rfl ho hmm rfl ?_
  repeat refine Ev_go rfl ?_
  refine Ev_ial p rfl hgp rfl (by omega) (by decide) ?_
  repeat refine Ev_go rfl ?_
  rw [gof_g hgh hp, ch_x hm]
  refine Ev_ca rfl ?_
  refine x_isPart _ ?_
  have st := stI_s a (a 0 h') n' (hW a h') (hD a h') l (2 * p + more)
  have fin : ∀ (x : Int32 × Int32) (τ2 : kt_H) (o10 o11 o12 : Option Value), stI a (a 0 h') n' (hW a h') (hD a h') l (2 * p + more + 1) = x → Sr σ τ2 → SpS τ2 k n' (a 0 h') (fun q => q ≠ p) (hW a h') (hD a h') → Ev kX11_step (207, stL h l h' lv k x p more o10 o11 o12, [], τ2) Q := by
    intro x τ2 o10 o11 o12 hx q1 q2
    subst hx
    iterate 2 refine Ev_go rfl ?_
    rw [nI_1]
    exact hq τ2 _ _ _ q1 q2
  repeat refine Ev_go rfl ?_
  refine Ev_ifb (fun z => ?_) (fun z => ?_)
  · exact fin _ τ _ _ _ (by rw [st, if_neg (fun y => z y.1.1)]) hS hs0
  repeat refine Ev_go rfl ?_
  refine Ev_gf rfl s1 hmm rfl ?_
  repeat refine Ev_go rfl ?_
  refine Ev_ias p rfl s2 rfl (by omega) (by decide) ?_
  generalize hX0 : chP (hW a h') (hD a h') (2 * p + more) = X at z st ⊢
  have hgw : ∀ x, x < n' → upd g p X (2 * x) = chW (hW a h') (2 * p + more) x ∧ upd g p X (2 * x + 1) = chD (hD a h') (2 * p + more) x := by
    intro x hx
    have cw := ch_w (w := hW a h') (d := hD a h') (p := p) (x := x) hm
    have cd' := ch_d (w := hW a h') (d := hD a h') (p := p) (x := x) hm
    refine ⟨?_, ?_⟩
    · by_cases e : 2 * x = p
      · rw [cw.1 e, hX0, e, pk_us]
      · rw [cw.2 e, pk_un e, s4 _ (by omega) e, gof, if_pos (by omega), show 2 * x / 2 = x by omega]
    · by_cases e : 2 * x + 1 = p
      · rw [cd'.1 e, hX0, e, pk_us]
      · rw [cd'.2 e, pk_un e, s4 _ (by omega) e, gof, if_neg (by omega), show (2 * x + 1) / 2 = x by omega]
  have hBc : Bd n' (chW (hW a h') (2 * p + more)) (chD (hD a h') (2 * p + more)) := by
    intro x hx
    have cw := ch_w (w := hW a h') (d := hD a h') (p := p) (x := x) hm
    have cd' := ch_d (w := hW a h') (d := hD a h') (p := p) (x := x) hm
    refine ⟨?_, ?_⟩
    · by_cases e : 2 * x = p
      · rw [cw.1 e, hX0]; exact z
      · rw [cw.2 e]; exact (hB x hx).1
    · by_cases e : 2 * x + 1 = p
      · rw [cd'.1 e, hX0]; exact z
      · rw [cd'.2 e]; exact (hB x hx).2
  have hS1 : Sr σ (kt_put τ (8 + 3 * k) (kt_ia 16 (upd g p X))) := hS.put (by omega) (Ck_8 kk _)
  have r1 : (kt_put τ (8 + 3 * k) (kt_ia 16 (upd g p X))).1 (7 + 3 * k) = kt_ob (cK (a 0 h')) [.int (-9), .ref (8 + 3 * k), .int (nI n'), .ref (9 + 3 * k)] := by rw [kt_put_n _ _ (by omega)]; exact s1
  have hH1 : Hl (kt_put τ (8 + 3 * k) (kt_ia 16 (upd g p X))) (7 + 3 * k) (8 + 3 * k) (9 + 3 * k) (a 0 h') (-9) n' (chW (hW a h') (2 * p + more)) (chD (hD a h') (2 * p + more)) := ⟨r1, ⟨_, kt_put_s _ _ _, hgw⟩, ⟨u, by rw [kt_put_n _ _ (by omega)]; exact s3⟩, by omega, by omega, by omega, hkd, n1, n8⟩
  have r2 : (kt_put τ (8 + 3 * k) (kt_ia 16 (upd g p X))).1 (8 + 3 * k) = kt_ia 16 (upd g p X) := kt_put_s _ _ _
  generalize kt_put τ (8 + 3 * k) (kt_ia 16 (upd g p X)) = τ1 at hS1 r1 r2 hH1 ⊢
  repeat refine Ev_go rfl ?_
  refine Ev_meas rfl rfl hH1 (fun v hv => ?_)
  have hS2 : Sr σ (kt_put τ1 (9 + 3 * k) (kt_ia 9 v)) := hS1.put (by omega) (Ck_9 kk _)
  have hH2 := hH1.put v
  have hmv : (kt_put τ1 (9 + 3 * k) (kt_ia 9 v)).1 (9 + 3 * k) = kt_ia 9 v := kt_put_s _ _ _
  have hs2 : SpS (kt_put τ1 (9 + 3 * k) (kt_ia 9 v)) k n' (a 0 h') (fun q => q ≠ p) (hW a h') (hD a h') := ⟨upd g p X, v, by rw [kt_put_n _ _ (by omega)]; exact r1, by rw [kt_put_n _ _ (by omega)]; exact r2, kt_put_s _ _ _, fun q q1 q2 => by rw [pk_un q2]; exact s4 q q1 q2⟩
  generalize kt_put τ1 (9 + 3 * k) (kt_ia 9 v) = τ2 at hS2 hH2 hmv hs2 ⊢
  have hX2 := hX.s hS2
  have d0 := hX2.c0
  have hN := hX2.nd hI
  obtain ⟨n4, ⟨gn, n5, n5g⟩, -⟩ := id hN
  have hK2 : Lk τ2 a lv (-1) l (-9) := hK.c (fun j a b => hS2.hi (by omega))
  iterate 3 refine Ev_go rfl ?_
  refine Ev_alv rfl rfl hfit ?_
  (repeat first | refine Ev_go rfl ?_ | refine Ev_gf rfl (d0) rfl rfl ?_ | refine Ev_gf rfl (n4) rfl rfl ?_ )
  refine Ev_ial 5 rfl n5 rfl (by decide) (by decide) ?_
  rw [n5g 5 (by decide)]
  refine Ev_cv rfl rfl d0 rfl rfl ?_
  refine x_worthBy d0 hN hmv hv hBc n1 n8 hK2 _ ?_
  repeat refine Ev_go rfl ?_
  refine Ev_if (fun y => ?_) (fun y => ?_)
  · exact fin _ τ2 _ _ _ (by rw [st, if_neg (fun y2 => by have y2 := y2.2; rw [fa_lt] at y2; rw [fa_le] at y; omega)]) hS2 hs2
  (repeat first | refine Ev_go rfl ?_ | refine Ev_gf rfl (d0) rfl rfl ?_ )
  refine Ev_cv rfl rfl hN.1 rfl rfl ?_
  refine x_firstBroken hH2 hBc hN hmv (Mv.r hv) ?_
  have fx := fx_9 (nv := a 9) (kd := a 0 h') (w := chW (hW a h') (2 * p + more)) (d := chD (hD a h') (2 * p + more)) n1 n8
  repeat refine Ev_go rfl ?_
  refine Ev_if (fun y2 => ?_) (fun y2 => ?_)
  · iterate 16 refine Ev_go rfl ?_
    have e1 : nI p / 2 = nI (p / 2) := pk_div (d := 2) (by omega) (by decide) (by decide)
    have e2 : nI p - nI p / 2 * 2 = nI (p % 2) := pk_rem (d := 2) (by omega) (by decide) (by decide)
    have f2 : (2 * p + more) / 2 % 2 = p % 2 := by omega
    have f4 : (2 * p + more) / 4 = p / 2 := by omega
    have f1 : (2 * p + more) % 2 = more := by omega
    rw [if_pos ⟨⟨z, fx.mp y2⟩, by rw [fa_lt]; rw [fa_le] at y; omega⟩, f1, f2, f4, ← e2, ← e1] at st
    exact fin (vlI (a 9 5) a (a 0 h') n' (chW (hW a h') (2 * p + more)) (chD (hD a h') (2 * p + more)) l (-9), 100 * (nI p / 2) + 10 * (nI p - nI p / 2 * 2) + nI more) τ2 _ _ _ st hS2 hs2
  · exact fin _ τ2 _ _ _ (by rw [st, if_neg (fun y3 => y2 (fx.mpr y3.1.2))]) hS2 hs2
theorem X_step (hI : Inv f a) (hX : Xr f a σ) (h l : Int32) (hq : ∀ τ, Sr σ τ → Q (some (.int (sp_step f a h l))) τ) : Cs nX11_step [.ref 0, .int h, .int l] σ Q := by
  have c0 := hX.c0
  unfold sp_step at hq
  refine Cs_in (k := kX11_step) [some (.ref 0), some (.int h), some (.int l), none, none, none, none, none, none, none, none, none, none] rfl rfl ?_
  repeat refine Ev_go rfl ?_
  refine Ev_cv rfl rfl c0 rfl rfl ?_
  refine x_hullAt hI hX h (fun hh h' a1 a2 a3 a4 => ?_) (fun hh => ?_)
  rotate_left
  · rw [if_pos (Or.inl hh)] at hq
    repeat refine Ev_go rfl ?_
    refine Ev_rt rfl ?_
    exact hq σ Sr.rf
  repeat refine Ev_go rfl ?_
  refine Ev_cv rfl rfl c0 rfl rfl ?_
  refine x_isLawOrNone hI hX l (fun hl => ?_) (fun hl => ?_)
  rotate_left
  · rw [if_pos (Or.inr hl)] at hq
    repeat refine Ev_go rfl ?_
    refine Ev_rt rfl ?_
    exact hq σ Sr.rf
  obtain ⟨-, n, n1, n8, ha, hc, hH, hB⟩ := hX.h hI a1
  rw [if_neg (fun z => z.elim (fun y => y hh) (nL_or hl)), a4, hc] at hq
  obtain ⟨ho, ⟨gh, hgp, hgh⟩, hgm, -, -, -, hkd, -⟩ := id hH
  have hmm := cK_m hkd
  obtain ⟨k, kk, ek⟩ := kd_n hkd
  obtain ⟨g6, c6, g6g⟩ := hX.c6
  obtain ⟨st, gp, um, s1, s2, s3⟩ := hX.sp kk
  rw [← ek] at s1
  repeat refine Ev_go rfl ?_
  refine Ev_cv rfl rfl c0 rfl rfl ?_
  refine x_lawK hI hX l hl (fun lv hK => ?_)
  have hfit := hK.fit
  have hcat := fit_cat hfit
  refine Ev_asv rfl hfit rfl rfl ?_
  (repeat first | refine Ev_go rfl ?_ | refine Ev_gf rfl (c0) rfl rfl ?_ )
  refine Ev_kind rfl rfl ho hkd ?_
  refine Ev_aal k rfl c6 rfl ek kk (by decide) ?_
  rw [g6g k kk]
  refine Ev_asv (lv := .ref (7 + 3 * k)) rfl rfl rfl hcat ?_
  repeat refine Ev_go rfl ?_
  refine Ev_gf rfl ho hmm rfl ?_
  repeat refine Ev_go rfl ?_
  refine Ev_gf rfl ho hmm rfl ?_
  refine Ev_cv rfl rfl s1 (cK_1 hkd 10) rfl ?_
  refine x_takeParts s1 s2 (by omega) hkd hgp (by omega) n8 0 (by omega) (by decide) ?_
  have hS0 : Sr σ (hlP σ (7 + 3 * k) (8 + 3 * k) (9 + 3 * k) (a 0 h') (-9) n (va_cpy gh gp 0 0 (2 * n))) := (Sr.rf.put (by omega) (by rw [ek]; exact Ck_7 kk _)).put (by omega) (Ck_8 kk _)
  have hsp0 : SpS (hlP σ (7 + 3 * k) (8 + 3 * k) (9 + 3 * k) (a 0 h') (-9) n (va_cpy gh gp 0 0 (2 * n))) k n (a 0 h') (fun _ => True) (hW a h') (hD a h') := ⟨_, um, by rw [kt_put_n _ _ (by omega), kt_put_s], kt_put_s _ _ _, by rw [kt_put_n _ _ (by omega), kt_put_n _ _ (by omega)]; exact s3, fun q q1 _ => by rw [sb_cpy0 q1]; exact gof_g hgh q1⟩
  generalize hlP σ (7 + 3 * k) (8 + 3 * k) (9 + 3 * k) (a 0 h') (-9) n (va_cpy gh gp 0 0 (2 * n)) = τ0 at hS0 hsp0 ⊢
  obtain ⟨-, n', -, -, -, hc', hH0, -⟩ := (hX.s hS0).h hI a1
  have en : n' = n := by rw [← hc', hc]
  subst en
  repeat refine Ev_go rfl ?_
  refine Ev_meas rfl rfl hH0 (fun v hv => ?_)
  have hS1 : Sr σ (kt_put τ0 (153 + 3 * h') (kt_ia 9 v)) := hS0.meas (by omega) hH0.2.2.1
  have hmv : (kt_put τ0 (153 + 3 * h') (kt_ia 9 v)).1 (153 + 3 * h') = kt_ia 9 v := kt_put_s _ _ _
  have hsp1 : SpS (kt_put τ0 (153 + 3 * h') (kt_ia 9 v)) k n' (a 0 h') (fun _ => True) (hW a h') (hD a h') := by
    obtain ⟨g, u, q1, q2, q3, q4⟩ := hsp0
    exact ⟨g, u, by rw [kt_put_n _ _ (by omega)]; exact q1, by rw [kt_put_n _ _ (by omega)]; exact q2, by rw [kt_put_n _ _ (by omega)]; exact q3, q4⟩
  generalize kt_put τ0 (153 + 3 * h') (kt_ia 9 v) = τ1 at hS1 hmv hsp1 ⊢
  have hX1 := hX.s hS1
  have d0 := hX1.c0
  have hN := hX1.nd hI
  obtain ⟨n4, ⟨gn, n5, n5g⟩, -⟩ := id hN
  have hK1 : Lk τ1 a lv (-1) l (-9) := hK.c (fun j a b => hS1.hi (by omega))
  refine Ev_alv rfl rfl hfit ?_
  (repeat first | refine Ev_go rfl ?_ | refine Ev_gf rfl (d0) rfl rfl ?_ | refine Ev_gf rfl (n4) rfl rfl ?_ )
  refine Ev_ial 5 rfl n5 rfl (by decide) (by decide) ?_
  rw [n5g 5 (by decide)]
  refine Ev_cv rfl rfl d0 rfl rfl ?_
  refine x_worthBy d0 hN hmv hv hB n1 n8 hK1 _ ?_
  iterate 5 refine Ev_go rfl ?_
  have lp : ∀ (e p : Nat) (τ : kt_H) (o9 o10 o11 o12 : Option Value), p + e = 2 * n' → Sr σ τ → SpS τ k n' (a 0 h') (fun _ => True) (hW a h') (hD a h') → Ev kX11_step (80, [some (.ref 0), some (.int h), some (.int l), some (.ref (151 + 3 * h')), some lv, some (.ref (7 + 3 * k)), some (.int (stI a (a 0 h') n' (hW a h') (hD a h') l (2 * p)).1), some (.int (stI a (a 0 h') n' (hW a h') (hD a h') l (2 * p)).2), some (.int (nI p)), o9, o10, o11, o12], [], τ) Q := by
    intro e
    induction e with
    | zero =>
      intro p τ o9 o10 o11 o12 hp hS hs
      have e : p = 2 * n' := by omega
      subst e
      obtain ⟨-, n2, -, -, -, hc2, hH2, -⟩ := (hX.s hS).h hI a1
      have en : n2 = n' := by rw [← hc2, hc]
      subst en
      repeat refine Ev_go rfl ?_
      refine Ev_gf rfl hH2.1 hmm rfl ?_
      repeat refine Ev_go rfl ?_
      rw [fa_lit 2, pk_mul]
      refine Ev_if (fun _ => ?_) (fun g1 => absurd (nI_le (Nat.le_refl _) (by omega)) g1)
      repeat refine Ev_go rfl ?_
      refine Ev_rt rfl ?_
      rw [show 2 * (2 * n2) = 4 * n2 by omega]
      exact hq τ hS
    | succ e ih =>
      intro p τ o9 o10 o11 o12 hp hS hs
      obtain ⟨-, n2, -, -, -, hc2, hH2, -⟩ := (hX.s hS).h hI a1
      have en : n2 = n' := by rw [← hc2, hc]
      subst en
      repeat refine Ev_go rfl ?_
      refine Ev_gf rfl hH2.1 hmm rfl ?_
      repeat refine Ev_go rfl ?_
      refine Ev_if (fun g1 => absurd g1 (by rw [fa_lit 2, pk_mul]; exact nI_ge (by omega) (by omega))) (fun _ => ?_)
      iterate 2 refine Ev_go rfl ?_
      have hs' : SpS τ k n2 (a 0 h') (fun q => q ≠ p) (hW a h') (hD a h') := by
        obtain ⟨g, u, q1, q2, q3, q4⟩ := hs
        exact ⟨g, u, q1, q2, q3, fun q z _ => q4 q z trivial⟩
      refine x_step_in hI hX (more := 0) a1 hc ek kk hK (by omega) (by decide) hS hs' _ _ _ (fun τ2 o10 o11 o12 hS2 hs2 => ?_)
      refine x_step_in hI hX (more := 1) a1 hc ek kk hK (by omega) (by decide) hS2 hs2 _ _ _ (fun τ3 o10 o11 o12 hS3 hs3 => ?_)
      obtain ⟨-, n3, -, -, -, hc3, hH3, -⟩ := (hX.s hS3).h hI a1
      have en : n3 = n2 := by rw [← hc3, hc]
      subst en
      obtain ⟨ho3, ⟨gh3, hgp3, hgh3⟩, -⟩ := hH3
      obtain ⟨g, u, q1, q2, q3, q4⟩ := hs3
      repeat refine Ev_go rfl ?_
      refine Ev_gf rfl q1 hmm rfl ?_
      repeat refine Ev_go rfl ?_
      refine Ev_gf rfl ho3 hmm rfl ?_
      repeat refine Ev_go rfl ?_
      refine Ev_ial p rfl hgp3 rfl (by omega) (by decide) ?_
      refine Ev_ias p rfl q2 rfl (by omega) (by decide) ?_
      iterate 2 refine Ev_go rfl ?_
      rw [nI_1]
      refine ih (p + 1) _ _ _ _ _ (by omega) (hS3.put (by omega) (Ck_8 kk _)) ⟨_, u, by rw [kt_put_n _ _ (by omega)]; exact q1, kt_put_s _ _ _, by rw [kt_put_n _ _ (by omega)]; exact q3, fun q z _ => ?_⟩
      by_cases e : q = p
      · subst e; rw [pk_us]; exact gof_g hgh3 z
      · rw [pk_un e]; exact q4 q z e
  exact lp (2 * n') 0 τ1 _ _ _ _ (by omega) hS1 hsp1
end XJ
