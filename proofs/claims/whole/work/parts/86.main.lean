/-! soundness of a whole run -/
abbrev kt_A : Prop := ∀ y pc : Nat, kt_sa (kt_nm y).cls (kt_nm y).name (kt_by y) (kt_mx y) (kt_rt y) (kt_fn y) (kt_ln y) pc (kt_k y pc)
abbrev kt_N : Prop := ∀ y : Nat, plainName (kt_nm y).cls = true
/-- the heap only grows -/
def kt_gr (k : Nat → kt_S) : Prop := ∀ (pc : Nat) (L : kt_L) (S : List Value) (σ : kt_H) (r : kt_F ⊕ (((Nat × List Value) × kt_F) ⊕ (Option Value × kt_H))), k pc L S σ = some r → match r with
  | .inl fr => σ.2.1 ≤ fr.2.2.2.2.1 ∧ σ.2.2 ≤ fr.2.2.2.2.2
  | .inr (.inl q) => q.2.2.2.2 = σ
  | .inr (.inr q) => q.2 = σ
theorem kt_ex_gr (hk : ∀ y, kt_gr (kt_k y)) : ∀ (n : Nat) (k : Nat → kt_S) (fr : kt_F) (r : Option Value × kt_H), kt_gr k → kt_ex n k fr = some r → fr.2.2.2.2.1 ≤ r.2.2.1 ∧ fr.2.2.2.2.2 ≤ r.2.2.2 := by
  intro n
  induction n with
  | zero => intro k fr r _ h; cases h
  | succ n ih =>
    intro k fr r hg h
    rw [kt_ex_s] at h
    cases hs : k fr.1 fr.2.1 fr.2.2.1 fr.2.2.2 with
    | none => rw [hs] at h; cases h
    | some z =>
      rw [hs] at h
      have hz := hg _ _ _ _ _ hs
      rcases z with fr' | q | q
      · have h2 := ih _ _ _ hg h
        exact ⟨Nat.le_trans hz.1 h2.1, Nat.le_trans hz.2 h2.2⟩
      · dsimp only at h hz
        cases hl : kt_lay (kt_mx q.1.1) q.1.2 with
        | none => rw [hl] at h; cases h
        | some L0 =>
          rw [hl] at h
          dsimp only at h
          cases hc : kt_ex n (kt_k q.1.1) (0, L0, [], q.2.2.2.2) with
          | none => rw [hc] at h; cases h
          | some r1 =>
            rw [hc] at h
            dsimp only at h
            have h1 := ih _ _ _ (hk _) hc
            have h2 := ih _ _ _ hg h
            dsimp only at h1 h2
            rw [hz] at h1
            exact ⟨Nat.le_trans h1.1 h2.1, Nat.le_trans h1.2 h2.2⟩
      · cases h
        dsimp only at hz
        rw [hz]
        exact ⟨Nat.le_refl _, Nat.le_refl _⟩
theorem kt_main (hA : kt_A) (hN : kt_N) (hG : ∀ y, kt_gr (kt_k y)) {l : Launch} {dC : Nat → ClassId} {dI : Nat → Nat → Nat} {dA : Nat → ClassId} {tS : Nat → Nat} {B : Nat} : ∀ (n : Nat), (∀ (y : Nat) (fr : kt_F) (r : Option Value × kt_H), kt_ex n (kt_k y) fr = some r → ∀ (p : Program) (e : Env) (R : Room) (s : State) (m : MethodId) (args : Array Value) (below : List Frame) (meth : Method) (c : Code) (n0 ns0 : Nat),
    kt_cx (kt_nm y).cls (kt_by y) (kt_mx y) p R s m args c dC dI dA tS B n0 → meth.sig.returnType = kt_rt y → meth.locks = false → meth.name = (kt_nm y).name → kt_fn y ≤ R.frames → kt_ln y ≤ R.locals → r.2.2.1 ≤ n0 + R.cells → r.2.2.2 ≤ ns0 + R.slots →
    kt_gd (kt_mx y) p l e R s m args below meth c dC dI dA tS B n0 ns0 (MQ below (kt_post dC dI dA tS B r.1 r.2) args s (r.2.2.1 - n0) (r.2.2.2 - ns0) (fun z => B ≤ z)) fr) ∧
    (∀ (y : Nat) (as : List Value) (L : kt_L) (σ : kt_H) (r : Option Value × kt_H), kt_lay (kt_mx y) as = some L → kt_ex n (kt_k y) (0, L, [], σ) = some r → r.2.2.1 ≤ 600000 → kt_met l dC dI dA tS B y as σ r.1 r.2) := by
  intro n
  induction n with
  | zero => exact ⟨(fun y fr r h => by cases h), (fun y as L σ r _ h => by cases h)⟩
  | succ n ih =>
    have first : ∀ (y : Nat) (fr : kt_F) (r : Option Value × kt_H), kt_ex (n + 1) (kt_k y) fr = some r → ∀ (p : Program) (e : Env) (R : Room) (s : State) (m : MethodId) (args : Array Value) (below : List Frame) (meth : Method) (c : Code) (n0 ns0 : Nat),
        kt_cx (kt_nm y).cls (kt_by y) (kt_mx y) p R s m args c dC dI dA tS B n0 → meth.sig.returnType = kt_rt y → meth.locks = false → meth.name = (kt_nm y).name → kt_fn y ≤ R.frames → kt_ln y ≤ R.locals → r.2.2.1 ≤ n0 + R.cells → r.2.2.2 ≤ ns0 + R.slots →
        kt_gd (kt_mx y) p l e R s m args below meth c dC dI dA tS B n0 ns0 (MQ below (kt_post dC dI dA tS B r.1 r.2) args s (r.2.2.1 - n0) (r.2.2.2 - ns0) (fun z => B ≤ z)) fr := by
      intro y fr r h p e R s m args below meth c n0 ns0 hc hr hlk hnm hf hl hb1 hb2
      rw [kt_ex_s] at h
      cases hs : kt_k y fr.1 fr.2.1 fr.2.2.1 fr.2.2.2 with
      | none => rw [hs] at h; cases h
      | some z =>
        rw [hs] at h
        have hz := hA y fr.1 p l e R s m args below meth c dC dI dA tS B n0 ns0 (MQ below (kt_post dC dI dA tS B r.1 r.2) args s (r.2.2.1 - n0) (r.2.2.2 - ns0) (fun z => B ≤ z)) hc hr hlk hnm hf hl _ _ _ _ hs
        rcases z with fr' | q | q
        · dsimp only at h
          have hg := kt_ex_gr hG _ _ _ _ (hG y) h
          exact hz.2.2 (Nat.le_trans hg.1 hb1) (Nat.le_trans hg.2 hb2) (ih.1 y fr' r h p e R s m args below meth c n0 ns0 hc hr hlk hnm hf hl hb1 hb2)
        · dsimp only at h
          cases hlay : kt_lay (kt_mx q.1.1) q.1.2 with
          | none => rw [hlay] at h; cases h
          | some L0 =>
            rw [hlay] at h
            dsimp only at h
            cases hcall : kt_ex n (kt_k q.1.1) (0, L0, [], q.2.2.2.2) with
            | none => rw [hcall] at h; cases h
            | some r1 =>
              rw [hcall] at h
              dsimp only at h
              obtain ⟨e1, hz⟩ := hz
              have h1 := kt_ex_gr hG _ _ _ _ (hG _) hcall
              have h2 := kt_ex_gr hG _ _ _ _ (hG y) h
              dsimp only at h1 h2
              rw [e1] at h1
              have hcap := hc.2.2.2.2.2.2.1
              have hmet := ih.2 _ _ _ _ _ hlay hcall (Nat.le_trans (Nat.le_trans h2.1 hb1) hcap)
              rw [e1] at hmet
              exact hz r1.1 r1.2 h1.1 h1.2 (Nat.le_trans h2.1 hb1) (Nat.le_trans h2.2 hb2) hmet (ih.1 y _ r h p e R s m args below meth c n0 ns0 hc hr hlk hnm hf hl hb1 hb2)
        · cases h
          exact hz.2 rfl
    refine ⟨first, ?_⟩
    intro y as L σ r hlay h hcap
    have hg := kt_ex_gr hG _ _ _ _ (hG y) h
    dsimp only at hg
    refine Met.ofW (cc := kt_by y) (maxL := kt_mx y) (ret := kt_rt y) (hN y) rfl ?_
    intro p e s m args below meth c s₁ B' hml hv
    obtain ⟨rfl, hsz, hP, hwf, hot⟩ := hv
    have hts0 := atoms_spec (ws := kt_wy y) B'.pre
    have hts : ∀ w ∈ kt_gw, w.before (as.map (kt_cv (kt_al B tS))).toArray s = true := fun w hw => hts0 w (List.mem_cons_of_mem _ hw)
    have hown : s.vm.findClass (kt_nm y).cls = some m.cls := findClass_of_methodNamed B'.named
    have hname : meth.name = (kt_nm y).name := (name_of_methodNamed B'.named B'.method).1
    obtain ⟨a1, a2, a3⟩ := kt_lay_ok (kt_al B tS) as (kt_mx y) L hlay
    have hl := lv_entry (as.map (kt_cv (kt_al B tS))) (n := kt_mx y) a2
    rw [lg_entry_eq]
    generalize (lg_sl (as.map (kt_cv (kt_al B tS))) ++ List.replicate (kt_mx y - (lg_sl (as.map (kt_cv (kt_al B tS)))).length) Slot.unset).toArray = ls at hl ⊢
    have hlo : kt_lo (kt_al B tS) ls (kt_mx y) L := ⟨hl.1, a1, hl.2.1, fun i v hi => by
      have := hl.2.2 _ (a3 i v hi 0)
      dsimp only at this
      rw [Nat.zero_add] at this
      exact this⟩
    have fin := first y (0, L, [], σ) r h p e ({ frames := kt_fn y, cells := r.2.2.1 - σ.2.1, slots := r.2.2.2 - σ.2.2, locals := kt_ln y } : Room) s m (as.map (kt_cv (kt_al B tS))).toArray below meth c σ.2.1 σ.2.2 ⟨B'.exec, B'.bytes, hml, hown, hts, hot, by show σ.2.1 + (r.2.2.1 - σ.2.1) ≤ 600000; omega, hsz⟩ B'.returns B'.notSynchronized hname (Nat.le_refl _) (Nat.le_refl _) (by show r.2.2.1 ≤ σ.2.1 + (r.2.2.1 - σ.2.1); omega) (by show r.2.2.2 ≤ σ.2.2 + (r.2.2.2 - σ.2.2); omega) s.heap [] 0 0 ls hsz hP hwf va_S.rf rfl rfl (by show σ.2.1 ≤ σ.2.1 + (r.2.2.1 - σ.2.1); omega) hlo
    exact fin
