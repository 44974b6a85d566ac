/-! soundness of new cells, tests of kind, statics, calls -/
def kt_ty : Nat → String
  | 1 => RX2
  | 2 => RX3
  | 3 => RX8
  | 4 => RX0
  | _ => RX10
theorem kt_ra_eq {dC : Nat → ClassId} {dI : Nat → Nat → Nat} {dA : Nat → ClassId} {s : State} {cA : ClassId} {t : Nat} {ty : FieldType} (hK : va_K (dC, dI) vwCl (kt_tys dA ++ [(cA, ty)]) s) (ht : (kt_tys dA)[t]? = some (dA t, ty)) : cA = dA t := by
  have h1 := (hK.2 6 (cA, ty) rfl).2
  have h2 := (hK.2 t (dA t, ty) (by rw [List.getElem?_append_left (List.getElem?_eq_some_iff.mp ht).1]; exact ht)).2
  cases ty with
  | object C =>
    obtain ⟨-, -, -, -, -, h1⟩ := h1
    obtain ⟨-, -, -, -, -, h2⟩ := h2
    exact Option.some.inj (h1.symm.trans h2)
  | _ =>
    have h1 : s.vm.findClass _ = some cA := h1
    have h2 : s.vm.findClass _ = some (dA t) := h2
    exact Option.some.inj (h1.symm.trans h2)
theorem d_new {own nm : String} {cc : ByteArray} {maxL : Nat} {ret : Option FieldType} {fn ln pc : Nat} {idx ci : Nat} {fs : List Value} {C : String} {T : u_T} {N : Nat} {ty : Nat → FieldType} (hcl : kt_cls ci C T N ty) (hw : Cond.classLink own idx C ∈ kt_gw) (hN : fs.length = N) (hfs : ∀ j, j < N → defaultValue (ty j) = vp_V fs j) (hcv : ∀ α, fs.map (kt_cv α) = fs) (hd : decode cc pc = .ok (.new idx, 3)) : kt_sa own nm cc maxL ret fn ln pc (s_new ci fs (pc + 3)) := by
  intro p l e R s m args below meth c dC dI dA tS B n0 ns0 Q hc hr hlk hnm hfr hln L S σ r h
  obtain ⟨hx, hb, hml, hown, hts, hot, hcap, hB⟩ := hc
  obtain ⟨g1, g2, g3, g4, g5, g6⟩ := hcl
  unfold s_new at h
  cases h
  rw [hN]
  refine kt_pn hB hcap (fun H locs cells slots ls hP hD hS hc1 hc2 kk => ?_)
  refine va_new (D := (dC, dI)) (tys := kt_tys dA) (ci := ci) (C := C) (T := T) (N := N) (fs := fs) hx hb hts g2 ty g3 hown (hts _ hw) (hts _ g5) (hts _ g6) hot.2.2.2.1 hP hD hS (fun q hq => by show B ≤ q; omega) g1 hfs hc1 hc2 hd (fun q H1 hP1 hD1 hS1 => ?_)
  have e1 : kt_cc (kt_al B tS) dA (.inr (ci, fs)) = .inr (ci, fs) := by
    show Sum.inr (ci, fs.map (kt_cv (kt_al B tS))) = _
    rw [hcv]
  rw [e1] at kk
  exact kk q H1 hP1 hD1 hS1
theorem d_nai {own nm : String} {cc : ByteArray} {maxL : Nat} {ret : Option FieldType} {fn ln pc : Nat} (hw : Cond.arrayClass .int ∈ kt_gw) (hd : decode cc pc = .ok (.newarray .int, 2)) : kt_sa own nm cc maxL ret fn ln pc (s_nai (pc + 2)) := by
  intro p l e R s m args below meth c dC dI dA tS B n0 ns0 Q hc hr hlk hnm hfr hln L S σ r h
  obtain ⟨hx, hb, hml, hown, hts, hot, hcap, hB⟩ := hc
  unfold s_nai at h
  split at h
  · split at h
    · cases h
    · rename_i n SS hin
      cases h
      refine kt_pn hB hcap (fun H locs cells slots ls hP hD hS hc1 hc2 kk => ?_)
      refine va_newa (D := (dC, dI)) (tys := kt_tys dA) (atype := .int) (ty := .int) (a0 := (n.toNatClampNeg, .inl (fun _ => 0))) hx hb (hts _ hw) rfl hot.2.2.2.1 hP hD hS (fun q hq => by show B ≤ q; omega) (fun cA => rfl) (fun q => hin (Or.inl q)) rfl (by have : ¬ 1000 ≤ n.toNatClampNeg := fun q => hin (Or.inr q); show n.toNatClampNeg * 4 ≤ 536870912; omega) hc1 hc2 hd (fun q cA H1 hK1 hP1 hD1 hS1 => ?_)
      have e1 : cA = dA 0 := kt_ra_eq hK1 rfl
      subst e1
      exact kk q H1 hP1 hD1 hS1
  · cases h
theorem d_naq {own nm : String} {cc : ByteArray} {maxL : Nat} {ret : Option FieldType} {fn ln pc : Nat} {idx t : Nat} {C : String} (hw : Cond.classLink own idx C ∈ kt_gw) (hC : kt_ty t = C) (ht5 : 1 ≤ t ∧ t ≤ 5) (hd : decode cc pc = .ok (.anewarray idx, 3)) : kt_sa own nm cc maxL ret fn ln pc (s_naq t (pc + 3)) := by
  intro p l e R s m args below meth c dC dI dA tS B n0 ns0 Q hc hr hlk hnm hfr hln L S σ r h
  obtain ⟨hx, hb, hml, hown, hts, hot, hcap, hB⟩ := hc
  have key : va_AO C s ∧ (kt_tys dA)[t]? = some (dA t, .object C) := by
    obtain ⟨-, -, ⟨a1, a2, a3, a4, a5⟩, -⟩ := hot
    subst hC
    rcases (show t = 1 ∨ t = 2 ∨ t = 3 ∨ t = 4 ∨ t = 5 by omega) with rfl | rfl | rfl | rfl | rfl
    · exact ⟨a1, rfl⟩
    · exact ⟨a2, rfl⟩
    · exact ⟨a3, rfl⟩
    · exact ⟨a4, rfl⟩
    · exact ⟨a5, rfl⟩
  obtain ⟨hao, ht⟩ := key
  unfold s_naq at h
  split at h
  · split at h
    · cases h
    · rename_i n SS hin
      cases h
      refine kt_pn hB hcap (fun H locs cells slots ls hP hD hS hc1 hc2 kk => ?_)
      refine va_newq (D := (dC, dI)) (tys := kt_tys dA) (C := C) hx hb hown (hts _ hw) hao hot.2.2.2.1 hP hD hS (fun q hq => by show B ≤ q; omega) (fun q => hin (Or.inl q)) rfl (by have : ¬ 1000 ≤ n.toNatClampNeg := fun q => hin (Or.inr q); omega) hc1 hc2 hd (fun q cA H1 hK1 hP1 hD1 hS1 => ?_)
      have e1 : cA = dA t := kt_ra_eq hK1 ht
      subst e1
      exact kk q H1 hP1 hD1 hS1
  · cases h
/-- a test of kind: what the tables say of each class -/
def kt_io (C : String) (b : Bool) (ci : Nat) : Prop := ∃ q : vw_C, vwCl[ci]? = some q ∧ ∀ (dC : Nat → ClassId) (dI : Nat → Nat → Nat) (dA : Nat → ClassId) (tS : Nat → Nat) (B : Nat) (s : State), kt_ot dC dI dA tS B s → match b with
  | true => va_Nw (.castable q.1 C) s ∨ (q.1 = C ∧ ∃ cC, ClassAt s C cC)
  | false => va_Nc q.1 C s
theorem d_ins {own nm : String} {cc : ByteArray} {maxL : Nat} {ret : Option FieldType} {fn ln pc : Nat} {idx : Nat} {C : String} {ys ns : List Nat} (hw : Cond.classLink own idx C ∈ kt_gw) (hy : ∀ ci ∈ ys, kt_io C true ci) (hn : ∀ ci ∈ ns, kt_io C false ci) (hd : decode cc pc = .ok (.instanceof idx, 3)) : kt_sa own nm cc maxL ret fn ln pc (s_ins ys ns (pc + 3)) := by
  intro p l e R s m args below meth c dC dI dA tS B n0 ns0 Q hc hr hlk hnm hfr hln L S σ r h
  obtain ⟨hx, hb, hml, hown, hts, hot, hcap, hB⟩ := hc
  unfold s_ins at h
  split at h
  · split at h
    · rename_i a SS _ ci fs hσ
      split at h
      · rename_i hm
        cases h
        obtain ⟨q, g1, g2⟩ := hy ci (kt_mem_ok hm)
        refine kt_pr (fun H locs cells slots ls hP hwf hS kk => ?_)
        have hlt : a < σ.2.1 := kt_wf_lt hwf (by rw [hσ]; exact kt_ne g1)
        have hrc := va_recv (D := (dC, dI)) (tys := kt_tys dA) (q0 := a) (ci := ci) (a := kt_al B tS a) (fs := fs.map (kt_cv (kt_al B tS))) hot.2.2.2.1 hP g1 (by rw [kt_ws_at _ _ _ _ hlt, hσ]; rfl)
        rcases g2 dC dI dA tS B s hot with g3 | ⟨g3, cC, g4⟩
        · exact va_instY hx hb hown (hts _ hw) g3 hrc hd kk
        · rw [g3] at hrc
          exact va_instS hx hb hown (hts _ hw) g4 hrc hd kk
      · rename_i hm hm2
        cases h
        obtain ⟨q, g1, g2⟩ := hn ci (kt_mem_ok hm2)
        refine kt_pr (fun H locs cells slots ls hP hwf hS kk => ?_)
        have hlt : a < σ.2.1 := kt_wf_lt hwf (by rw [hσ]; exact kt_ne g1)
        have hrc := va_recv (D := (dC, dI)) (tys := kt_tys dA) (q0 := a) (ci := ci) (a := kt_al B tS a) (fs := fs.map (kt_cv (kt_al B tS))) hot.2.2.2.1 hP g1 (by rw [kt_ws_at _ _ _ _ hlt, hσ]; rfl)
        exact va_instNo hx hb hown (hts _ hw) (g2 dC dI dA tS B s hot) hrc hd kk
      · cases h
    · cases h
  · cases h
theorem d_gs1 {own nm : String} {cc : ByteArray} {maxL : Nat} {ret : Option FieldType} {fn ln pc : Nat} {idx : Nat} (hw : Cond.fieldLink own idx RX5 "LEASTS" "[I" ∈ kt_gw) (hd : decode cc pc = .ok (.getstatic idx, 3)) : kt_sa own nm cc maxL ret fn ln pc (s_gs 1000001 (pc + 3)) := by
  intro p l e R s m args below meth c dC dI dA tS B n0 ns0 Q hc hr hlk hnm hfr hln L S σ r h
  obtain ⟨hx, hb, hml, hown, hts, hot, hcap, hB⟩ := hc
  unfold s_gs at h
  cases h
  exact kt_pr (fun H locs cells slots ls hP hwf hS kk => va_gets hx hb hot.2.2.2.2.2.1 hS hown (hts _ hw) (fun _ h9 => h9) hd kk)
theorem d_gs2 {own nm : String} {cc : ByteArray} {maxL : Nat} {ret : Option FieldType} {fn ln pc : Nat} {idx : Nat} (hw : Cond.fieldLink own idx RX5 "MOSTS" "[I" ∈ kt_gw) (hd : decode cc pc = .ok (.getstatic idx, 3)) : kt_sa own nm cc maxL ret fn ln pc (s_gs 1000002 (pc + 3)) := by
  intro p l e R s m args below meth c dC dI dA tS B n0 ns0 Q hc hr hlk hnm hfr hln L S σ r h
  obtain ⟨hx, hb, hml, hown, hts, hot, hcap, hB⟩ := hc
  unfold s_gs at h
  cases h
  exact kt_pr (fun H locs cells slots ls hP hwf hS kk => va_gets hx hb hot.2.2.2.2.2.2.1 hS hown (hts _ hw) (fun _ h9 => h9) hd kk)
theorem d_ialT {own nm : String} {cc : ByteArray} {maxL : Nat} {ret : Option FieldType} {fn ln pc : Nat} (hd : decode cc pc = .ok (.iaload, 1)) : kt_sa own nm cc maxL ret fn ln pc (s_ialT (pc + 1)) := by
  intro p l e R s m args below meth c dC dI dA tS B n0 ns0 Q hc hr hlk hnm hfr hln L S σ r h
  obtain ⟨hx, hb, hml, hown, hts, hot, hcap, hB⟩ := hc
  unfold s_ialT at h
  split at h
  · rename_i i a SS
    split at h
    · cases h
    · rename_i hin
      cases h1 : Nat.beq a 1000001 with
      | true =>
        rw [h1] at h
        cases h
        have e1 := Nat.eq_of_beq_eq_true h1
        subst e1
        exact kt_pr (fun H locs cells slots ls hP hwf hS kk => va_ti (t := tS 1) hx hb hot.2.2.2.2.2.2.2.1 hS hin rfl hd kk)
      | false =>
        rw [h1] at h
        cases h2 : Nat.beq a 1000002 with
        | true =>
          rw [h2] at h
          cases h
          have e1 := Nat.eq_of_beq_eq_true h2
          subst e1
          exact kt_pr (fun H locs cells slots ls hP hwf hS kk => va_ti (t := tS 2) hx hb hot.2.2.2.2.2.2.2.2 hS hin rfl hd kk)
        | false => rw [h2] at h; cases h
  · cases h
theorem kt_w_ok (α : Nat → Nat) : ∀ S : List Value, ((S.map (kt_cv α)).map fun v => v.category).sum = kt_w S
  | [] => rfl
  | v :: S => by
    simp only [List.map_cons, List.sum_cons, kt_w, kt_cv_cat]
    rw [kt_w_ok α S]
theorem kt_ble {a b : Nat} (h : Nat.ble a b = true) : a ≤ b := Nat.le_of_ble_eq_true h
theorem d_obj {own nm : String} {cc : ByteArray} {maxL : Nat} {ret : Option FieldType} {fn ln pc : Nat} {idx : Nat} (hw : Cond.methodLink own idx objectInit ∈ kt_gw) (hw2 : Cond.instanceMethod objectInit ∈ kt_gw) (hw3 : Cond.code objectInit ⟨#[0xb1]⟩ 1 none ∈ kt_gw) (hf1 : 1 ≤ fn) (hl1 : 20 ≤ ln) (hd : decode cc pc = .ok (.invokespecial idx, 3)) : kt_sa own nm cc maxL ret fn ln pc (s_obj (pc + 3)) := by
  intro p l e R s m args below meth c dC dI dA tS B n0 ns0 Q hc hr hlk hnm hfr hln L S σ r h
  obtain ⟨hx, hb, hml, hown, hts, hot, hcap, hB⟩ := hc
  unfold s_obj at h
  split at h
  · rename_i a SS
    cases h1 : Nat.ble (kt_w SS) 8 with
    | false => rw [h1] at h; cases h
    | true =>
      rw [h1] at h
      cases h
      have h2 := kt_ble h1
      exact kt_pl (fun H locs cells slots ls hl kk => W.objInit hx hb hown (hts _ hw) (hts _ hw2) (hts _ hw3) rfl (by rw [hml]; exact hl.1) rfl hd (by omega) (by rw [kt_w_ok]; show 2 * 0 + kt_w SS + 12 ≤ R.locals; omega) kk)
  · cases h
theorem d_cp {own nm : String} {cc : ByteArray} {maxL : Nat} {ret : Option FieldType} {fn ln pc : Nat} {idx : Nat} (hw : Cond.methodLink own idx arraycopyName ∈ kt_gw) (hw2 : Cond.native arraycopyName ∈ kt_gw) (hw3 : Cond.static arraycopyName ∈ kt_gw) (hw4 : Cond.initialized "java/lang/System" ∈ kt_gw) (hf1 : 1 ≤ fn) (hl1 : 60 ≤ ln) (hd : decode cc pc = .ok (.invokestatic idx, 3)) : kt_sa own nm cc maxL ret fn ln pc (s_cp (pc + 3)) := by
  intro p l e R s m args below meth c dC dI dA tS B n0 ns0 Q hc hr hlk hnm hfr hln L S σ r h
  obtain ⟨hx, hb, hml, hown, hts, hot, hcap, hB⟩ := hc
  unfold s_cp at h
  split at h
  · rename_i n dp a sp a0 SS
    split at h
    · rename_i t0 n0' f t n1 g hσ0 hσ
      split at h
      · cases h
      · rename_i hin
        cases h1 : Nat.ble (kt_w SS) 8 with
        | false => rw [h1] at h; cases h
        | true =>
          rw [h1] at h
          cases h
          have h2 := kt_ble h1
          refine kt_pw (by rw [hσ]; intro e; cases e) hB hcap (fun H locs cells slots ls hlt hP hD hwf hS hl kk => ?_)
          have hlt0 : a0 < σ.2.1 := kt_wf_lt hwf (by rw [hσ0]; intro e; cases e)
          exact va_copyi (D := (dC, dI)) (tys := kt_tys dA) (c0 := dA 0) (c1 := dA 0) (n0 := n0') (n1 := n1) (f := f) (g := g) (ty := .int) hx hb (by rw [hml]; exact hl.1.symm) hown (hts _ hw) (hts _ hw2) (hts _ hw3) (hts _ hw4) hot.2.2.2.1 hP hD hS a0 a 0 0 (by rw [kt_ws_at _ _ _ _ hlt0, hσ0]; rfl) (by rw [kt_ws_at _ _ _ _ hlt, hσ]; rfl) rfl rfl rfl (fun q => hin (Or.inl q)) (fun q => hin (Or.inr (Or.inl q))) (fun q => hin (Or.inr (Or.inr (Or.inl q)))) (Nat.not_lt.mp fun q => hin (Or.inr (Or.inr (Or.inr (Or.inl q))))) (Nat.not_lt.mp fun q => hin (Or.inr (Or.inr (Or.inr (Or.inr q))))) (fun i _ => rfl) (by omega) (by rw [kt_w_ok]; exact Nat.le_trans (Nat.add_le_add h2 (show nativeFrameWords "java/lang/System" "arraycopy" 5 + 11 ≤ 52 by decide +kernel)) (by omega)) hd (fun H1 locs1 hP1 hD1 hS1 => kk H1 locs1 hP1 hS1)
    · cases h
  · cases h
theorem d_max {own nm : String} {cc : ByteArray} {maxL : Nat} {ret : Option FieldType} {fn ln pc : Nat} {idx : Nat} (hw : Cond.methodLink own idx Lib.Math.max.name ∈ kt_gw) (hw2 : Cond.static Lib.Math.max.name ∈ kt_gw) (hw3 : Cond.initialized "java/lang/Math" ∈ kt_gw) (hw4 : Cond.code Lib.Math.max.name Lib.Math.max.code 2 (some .int) ∈ kt_gw) (hf1 : 1 ≤ fn) (hl1 : 21 ≤ ln) (hd : decode cc pc = .ok (.invokestatic idx, 3)) : kt_sa own nm cc maxL ret fn ln pc (s_max (pc + 3)) := by
  intro p l e R s m args below meth c dC dI dA tS B n0 ns0 Q hc hr hlk hnm hfr hln L S σ r h
  obtain ⟨hx, hb, hml, hown, hts, hot, hcap, hB⟩ := hc
  unfold s_max at h
  split at h
  · rename_i SS
    cases h1 : Nat.ble (kt_w SS) 8 with
    | false => rw [h1] at h; cases h
    | true =>
      rw [h1] at h
      cases h
      have h2 := kt_ble h1
      refine ⟨Nat.le_refl _, Nat.le_refl _, fun q1 q2 g H locs cells slots ls g1 g2 g3 g4 g5 g6 g7 g8 => ?_⟩
      dsimp only at q1 q2 g5 g6
      exact va_mmax hx hb (by rw [hml]; exact g8.1.symm) hown (hts _ hw) (hts _ hw2) (hts _ hw3) (hts _ hw4) (by omega) (by rw [kt_w_ok]; omega) (by omega) (by omega) hd (g H locs cells slots ls g1 g2 g3 g4 g5 g6 g7 g8)
  · cases h
theorem d_min {own nm : String} {cc : ByteArray} {maxL : Nat} {ret : Option FieldType} {fn ln pc : Nat} {idx : Nat} (hw : Cond.methodLink own idx Lib.Math.min.name ∈ kt_gw) (hw2 : Cond.static Lib.Math.min.name ∈ kt_gw) (hw3 : Cond.initialized "java/lang/Math" ∈ kt_gw) (hw4 : Cond.code Lib.Math.min.name Lib.Math.min.code 2 (some .int) ∈ kt_gw) (hf1 : 1 ≤ fn) (hl1 : 21 ≤ ln) (hd : decode cc pc = .ok (.invokestatic idx, 3)) : kt_sa own nm cc maxL ret fn ln pc (s_min (pc + 3)) := by
  intro p l e R s m args below meth c dC dI dA tS B n0 ns0 Q hc hr hlk hnm hfr hln L S σ r h
  obtain ⟨hx, hb, hml, hown, hts, hot, hcap, hB⟩ := hc
  unfold s_min at h
  split at h
  · rename_i SS
    cases h1 : Nat.ble (kt_w SS) 8 with
    | false => rw [h1] at h; cases h
    | true =>
      rw [h1] at h
      cases h
      have h2 := kt_ble h1
      refine ⟨Nat.le_refl _, Nat.le_refl _, fun q1 q2 g H locs cells slots ls g1 g2 g3 g4 g5 g6 g7 g8 => ?_⟩
      dsimp only at q1 q2 g5 g6
      exact va_mmin hx hb (by rw [hml]; exact g8.1.symm) hown (hts _ hw) (hts _ hw2) (hts _ hw3) (hts _ hw4) (by omega) (by rw [kt_w_ok]; omega) (by omega) (by omega) hd (g H locs cells slots ls g1 g2 g3 g4 g5 g6 g7 g8)
  · cases h
theorem d_abs {own nm : String} {cc : ByteArray} {maxL : Nat} {ret : Option FieldType} {fn ln pc : Nat} {idx : Nat} (hw : Cond.methodLink own idx Lib.Math.abs.name ∈ kt_gw) (hw2 : Cond.static Lib.Math.abs.name ∈ kt_gw) (hw3 : Cond.initialized "java/lang/Math" ∈ kt_gw) (hw4 : Cond.code Lib.Math.abs.name Lib.Math.abs.code 1 (some .int) ∈ kt_gw) (hf1 : 1 ≤ fn) (hl1 : 21 ≤ ln) (hd : decode cc pc = .ok (.invokestatic idx, 3)) : kt_sa own nm cc maxL ret fn ln pc (s_abs (pc + 3)) := by
  intro p l e R s m args below meth c dC dI dA tS B n0 ns0 Q hc hr hlk hnm hfr hln L S σ r h
  obtain ⟨hx, hb, hml, hown, hts, hot, hcap, hB⟩ := hc
  unfold s_abs at h
  split at h
  · rename_i SS
    cases h1 : Nat.ble (kt_w SS) 8 with
    | false => rw [h1] at h; cases h
    | true =>
      rw [h1] at h
      cases h
      have h2 := kt_ble h1
      refine ⟨Nat.le_refl _, Nat.le_refl _, fun q1 q2 g H locs cells slots ls g1 g2 g3 g4 g5 g6 g7 g8 => ?_⟩
      dsimp only at q1 q2 g5 g6
      exact va_mabs hx hb (by rw [hml]; exact g8.1.symm) hown (hts _ hw) (hts _ hw2) (hts _ hw3) (hts _ hw4) (by omega) (by rw [kt_w_ok]; omega) (by omega) (by omega) hd (g H locs cells slots ls g1 g2 g3 g4 g5 g6 g7 g8)
  · cases h
