/-! THE CLAIM OUT OF ONE WALK OF THE LAW'S BODY. Your part is whole_start (and what it stands on); all else here is the same for every law, but numbers. -/
def R_law : String := "KeelTollsLaw"
def lw_P (b : Addr) (xs : List Int32) (args : Array Value) (s : State) : Prop := args = #[.ref b] ∧ s.IntsAt b xs ∧ xs.length ≤ 3584 ∧ (Jvm.Cond.and given_1 narrow_1).before args s = true
def lw_Q (_ : Array Value) (s : State) (o : Outcome) (t : State) : Prop := o = .returned (some (.int 1)) ∧ Framed s o t [] 600000 7302250
def lw_Z (below : List Frame) (a : Array Value) (s : State) : State → Prop := fun t => ∃ o, t.status = .running ∧ Ended t below o ∧ lw_Q a s o t
/-- the law's own end, with 1 on the stack, nothing written that was there before, its room as the claim has it -/
theorem lw_ret {p : Program} {l : Launch} {e : Env} {s : State} {m : MethodId} {below : List Frame} {meth : Method} {c : Code} {b : Nat} (hx : p.tables.exec = Jvm.exec) (hb : c.code = code) (hr : meth.sig.returnType = ret) (hlocks : meth.locks = false) {pc : Nat} {H : Heap} {ls : Array Slot} (hdg : decode code pc = .ok (.ireturn, 1)) : W p l e room_1 s m #[Value.ref b] below meth c H [] 600000 7302250 (lw_Z below #[Value.ref b] s) (F0 m pc ls [.int 1]) := by
  intro T hT X
  obtain ⟨fs, hret, hrun, hended, hW, hframe⟩ := X.leave (v := some (.int 1)) (hlocks := hlocks) (fun h => by rw [hr] at h; cases h)
  have hmeth' : T.vm.method? m = some meth := X.method'
  refine ⟨T.setFrames fs, ?_, .returned (some (.int 1)), hrun, hended, rfl, ⟨_, rfl⟩, hW, hframe⟩
  jvm_step X.here [X.here.top, hx, hb, hdg, hmeth', hr, ret, narrow_b1]
  (try refine ⟨rfl, ?_⟩); (try refine ⟨rfl, ?_⟩)
  first | (intro acts; rw [hret _ acts rfl rfl rfl]) | rw [hret _ _ rfl rfl rfl]
  exact Steps.refl _
/-- what holds at the law's entry: the machine, the code, the tables' words (any of lw_tbl by 'hts w (by decide +kernel)'), the script of L ints xs at the cell b, what the Statement gives of the start (any of its parts by flat_of_before) -/
def lw_At (p : Program) (s : State) (m : MethodId) (meth : Method) (c : Code) (b L : Nat) (xs : Nat → Int32) : Prop :=
  p.tables.exec = Jvm.exec ∧ c.code = code ∧ meth.sig.returnType = ret ∧ c.maxLocals = 4 ∧ s.vm.findClass R_law = some m.cls ∧ (∀ w ∈ lw_tbl, w.before #[Value.ref b] s = true) ∧ va_X b L xs s s.heap ∧ b < s.heap.size ∧ meth.locks = false ∧ (Jvm.Cond.and given_1 narrow_1).before #[Value.ref b] s = true

/-! the law's own instructions -/
def kt_okL (p : Program) (l : Launch) (e : Env) (s : State) (m : MethodId) (b : Nat) (below : List Frame) (meth : Method) (c : Code) (dC : Nat → ClassId) (dI : Nat → Nat → Nat) (dA : Nat → ClassId) (tS : Nat → Nat) (pc : Nat) (L : kt_L) (S : List Value) (σ : kt_H) (r : kt_F ⊕ (((Nat × List Value) × kt_F) ⊕ (Option Value × kt_H))) : Prop := match r with
  | .inr (.inr q) => q.1 = some (.int 1) → σ.2.2 ≤ 7302250 → kt_gd 4 p l e room_1 s m #[Value.ref b] below meth c dC dI dA tS s.heap.size 0 0 (lw_Z below #[Value.ref b] s) (pc, L, S, σ)
  | r => kt_okr 4 p l e room_1 s m #[Value.ref b] below meth c dC dI dA tS s.heap.size 0 0 (lw_Z below #[Value.ref b] s) pc L S σ r
def kt_cL (xs : Nat → Int32) (n : Nat) (p : Program) (s : State) (m : MethodId) (b : Nat) (meth : Method) (c : Code) (dC : Nat → ClassId) (dI : Nat → Nat → Nat) (dA : Nat → ClassId) (tS : Nat → Nat) : Prop :=
  kt_cx RL code 4 p room_1 s m #[Value.ref b] c dC dI dA tS s.heap.size 0 ∧ meth.sig.returnType = ret ∧ meth.locks = false ∧ tS 0 = b ∧ va_X b n xs s s.heap ∧ b < s.heap.size
def kt_sL (xs : Nat → Int32) (n pc : Nat) (f : kt_S) : Prop :=
  ∀ (p : Program) (l : Launch) (e : Env) (s : State) (m : MethodId) (b : Nat) (below : List Frame) (meth : Method) (c : Code) (dC : Nat → ClassId) (dI : Nat → Nat → Nat) (dA : Nat → ClassId) (tS : Nat → Nat), kt_cL xs n p s m b meth c dC dI dA tS → ∀ (L : kt_L) (S : List Value) (σ : kt_H) (r : kt_F ⊕ (((Nat × List Value) × kt_F) ⊕ (Option Value × kt_H))), f L S σ = some r → kt_okL p l e s m b below meth c dC dI dA tS pc L S σ r
theorem kL_st {xs : Nat → Int32} {n pc : Nat} {f : kt_S} (h : ∀ nm : String, kt_sa RL nm code 4 ret 10 408 pc f) (hn : ∀ L S σ q, f L S σ ≠ some (.inr (.inr q))) : kt_sL xs n pc f := by
  intro p l e s m b below meth c dC dI dA tS hc L S σ r hr
  have h1 := h meth.name p l e room_1 s m #[Value.ref b] below meth c dC dI dA tS s.heap.size 0 0 (lw_Z below #[Value.ref b] s) hc.1 hc.2.1 hc.2.2.1 rfl (by decide) (by decide) L S σ r hr
  rcases r with fr | q | q
  · exact h1
  · exact h1
  · exact absurd hr (hn _ _ _ _)
theorem d_ialS {xs : Nat → Int32} {n pc : Nat} (hd : decode code pc = .ok (.iaload, 1)) : kt_sL xs n pc (s_ialS xs n (pc + 1)) := by
  intro p l e s m b below meth c dC dI dA tS hc L S σ r h
  obtain ⟨⟨hx, hb, hml, hown, hts, hot, hcap, hB⟩, hr, hlk, ht0, hX, hbl⟩ := hc
  unfold s_ialS at h
  split at h
  · rename_i i a SS
    split at h
    · cases h
    · rename_i hin
      cases h1 : Nat.beq a 1000000 with
      | true =>
        rw [h1] at h
        cases h
        have e1 := Nat.eq_of_beq_eq_true h1
        subst e1
        refine kt_pr (fun H locs cells slots ls hP hwf hS kk => ?_)
        have hk : kt_cv (kt_al s.heap.size tS) (.ref 1000000) = .ref b := by
          show Value.ref (kt_al s.heap.size tS 1000000) = _
          rw [show kt_al s.heap.size tS 1000000 = tS 0 from if_neg (by decide), ht0]
        rw [List.map_cons, List.map_cons, hk]
        exact va_sld hx hb hX hbl (Nat.not_le.mpr hbl) hS hin hd kk
      | false => rw [h1] at h; cases h
  · cases h
theorem d_lenS {xs : Nat → Int32} {n pc : Nat} (hd : decode code pc = .ok (.arraylength, 1)) : kt_sL xs n pc (s_lenS n (pc + 1)) := by
  intro p l e s m b below meth c dC dI dA tS hc L S σ r h
  obtain ⟨⟨hx, hb, hml, hown, hts, hot, hcap, hB⟩, hr, hlk, ht0, hX, hbl⟩ := hc
  unfold s_lenS at h
  split at h
  · rename_i a SS
    cases h1 : Nat.beq a 1000000 with
    | true =>
      rw [h1] at h
      cases h
      have e1 := Nat.eq_of_beq_eq_true h1
      subst e1
      refine kt_pr (fun H locs cells slots ls hP hwf hS kk => ?_)
      have hk : kt_cv (kt_al s.heap.size tS) (.ref 1000000) = .ref b := by
        show Value.ref (kt_al s.heap.size tS 1000000) = _
        rw [show kt_al s.heap.size tS 1000000 = tS 0 from if_neg (by decide), ht0]
      rw [List.map_cons, hk]
      exact va_slen hx hb hX hbl (Nat.not_le.mpr hbl) hS hd kk
    | false => rw [h1] at h; cases h
  · cases h
theorem d_riL {xs : Nat → Int32} {n pc : Nat} (hd : decode code pc = .ok (.ireturn, 1)) : kt_sL xs n pc s_ri := by
  intro p l e s m b below meth c dC dI dA tS hc L S σ r h
  obtain ⟨⟨hx, hb, hml, hown, hts, hot, hcap, hB⟩, hr, hlk, ht0, hX, hbl⟩ := hc
  unfold s_ri at h
  split at h
  · rename_i v
    cases h
    intro hv hns H locs cells slots ls h1 h2 h3 h4 h5 h6 h7 h8
    cases hv
    dsimp only at h1 h2 h3 h5 h6 h7 h8 hns
    refine va_forget (fun q hq => h4.2.2 q hq) ?_
    refine W.widen (k := 600000) (n := 7302250) (by have : σ.2.1 ≤ 0 + 600000 := h7; omega) (by omega) ?_
    exact lw_ret hx hb hr hlk hd
  · cases h
theorem kL_bf {xs : Nat → Int32} {n pc : Nat} {b : Bool} {f g : kt_S} (hf : kt_sL xs n pc f) (hg : kt_sL xs n pc g) : kt_sL xs n pc (bif b then f else g) := by cases b <;> assumption
theorem kL_lf {xs : Nat → Int32} {n pc q : Nat} {f : kt_S} (hf : kt_sL xs n q f) : kt_sL xs n pc (bif Nat.beq pc q then f else s_no) := by
  cases h : Nat.beq pc q with
  | true => have e := Nat.eq_of_beq_eq_true h; subst e; exact hf
  | false => intro p l e s m b below meth c dC dI dA tS _ L S σ r h; cases h
theorem r_add (nx : Nat) : ∀ (L : kt_L) (S : List Value) (σ : kt_H) (q : Option Value × kt_H), s_add nx L S σ ≠ some (.inr (.inr q)) := by
  intro L S σ q h
  unfold s_add at h
  repeat' (first | split at h | (rw [cond_eq_ite] at h; split at h))
  all_goals cases h
theorem r_al (i nx : Nat) : ∀ (L : kt_L) (S : List Value) (σ : kt_H) (q : Option Value × kt_H), s_al i nx L S σ ≠ some (.inr (.inr q)) := by
  intro L S σ q h
  unfold s_al at h
  repeat' (first | split at h | (rw [cond_eq_ite] at h; split at h))
  all_goals cases h
theorem r_and (nx : Nat) : ∀ (L : kt_L) (S : List Value) (σ : kt_H) (q : Option Value × kt_H), s_and nx L S σ ≠ some (.inr (.inr q)) := by
  intro L S σ q h
  unfold s_and at h
  repeat' (first | split at h | (rw [cond_eq_ite] at h; split at h))
  all_goals cases h
theorem r_as (i nx : Nat) : ∀ (L : kt_L) (S : List Value) (σ : kt_H) (q : Option Value × kt_H), s_as i nx L S σ ≠ some (.inr (.inr q)) := by
  intro L S σ q h
  unfold s_as at h
  repeat' (first | split at h | (rw [cond_eq_ite] at h; split at h))
  all_goals cases h
theorem r_ceq (t nx : Nat) : ∀ (L : kt_L) (S : List Value) (σ : kt_H) (q : Option Value × kt_H), s_ceq t nx L S σ ≠ some (.inr (.inr q)) := by
  intro L S σ q h
  unfold s_ceq at h
  repeat' (first | split at h | (rw [cond_eq_ite] at h; split at h))
  all_goals cases h
theorem r_cgt (t nx : Nat) : ∀ (L : kt_L) (S : List Value) (σ : kt_H) (q : Option Value × kt_H), s_cgt t nx L S σ ≠ some (.inr (.inr q)) := by
  intro L S σ q h
  unfold s_cgt at h
  repeat' (first | split at h | (rw [cond_eq_ite] at h; split at h))
  all_goals cases h
theorem r_ci (y na nx : Nat) : ∀ (L : kt_L) (S : List Value) (σ : kt_H) (q : Option Value × kt_H), s_ci y na nx L S σ ≠ some (.inr (.inr q)) := by
  intro L S σ q h
  unfold s_ci at h
  repeat' (first | split at h | (rw [cond_eq_ite] at h; split at h))
  all_goals cases h
theorem r_cv (cs : List (Nat × Nat)) (na nx : Nat) : ∀ (L : kt_L) (S : List Value) (σ : kt_H) (q : Option Value × kt_H), s_cv cs na nx L S σ ≠ some (.inr (.inr q)) := by
  intro L S σ q h
  unfold s_cv at h
  repeat' (first | split at h | (rw [cond_eq_ite] at h; split at h))
  all_goals cases h
theorem r_dup (nx : Nat) : ∀ (L : kt_L) (S : List Value) (σ : kt_H) (q : Option Value × kt_H), s_dup nx L S σ ≠ some (.inr (.inr q)) := by
  intro L S σ q h
  unfold s_dup at h
  repeat' (first | split at h | (rw [cond_eq_ite] at h; split at h))
  all_goals cases h
theorem r_feq (t nx : Nat) : ∀ (L : kt_L) (S : List Value) (σ : kt_H) (q : Option Value × kt_H), s_feq t nx L S σ ≠ some (.inr (.inr q)) := by
  intro L S σ q h
  unfold s_feq at h
  repeat' (first | split at h | (rw [cond_eq_ite] at h; split at h))
  all_goals cases h
theorem r_goto (t : Nat) : ∀ (L : kt_L) (S : List Value) (σ : kt_H) (q : Option Value × kt_H), s_goto t L S σ ≠ some (.inr (.inr q)) := by
  intro L S σ q h
  unfold s_goto at h
  repeat' (first | split at h | (rw [cond_eq_ite] at h; split at h))
  all_goals cases h
theorem r_ic (v : Int32) (nx : Nat) : ∀ (L : kt_L) (S : List Value) (σ : kt_H) (q : Option Value × kt_H), s_ic v nx L S σ ≠ some (.inr (.inr q)) := by
  intro L S σ q h
  unfold s_ic at h
  repeat' (first | split at h | (rw [cond_eq_ite] at h; split at h))
  all_goals cases h
theorem r_il (i nx : Nat) : ∀ (L : kt_L) (S : List Value) (σ : kt_H) (q : Option Value × kt_H), s_il i nx L S σ ≠ some (.inr (.inr q)) := by
  intro L S σ q h
  unfold s_il at h
  repeat' (first | split at h | (rw [cond_eq_ite] at h; split at h))
  all_goals cases h
theorem r_inc (i : Nat) (v : Int32) (nx : Nat) : ∀ (L : kt_L) (S : List Value) (σ : kt_H) (q : Option Value × kt_H), s_inc i v nx L S σ ≠ some (.inr (.inr q)) := by
  intro L S σ q h
  unfold s_inc at h
  repeat' (first | split at h | (rw [cond_eq_ite] at h; split at h))
  all_goals cases h
theorem r_is (i nx : Nat) : ∀ (L : kt_L) (S : List Value) (σ : kt_H) (q : Option Value × kt_H), s_is i nx L S σ ≠ some (.inr (.inr q)) := by
  intro L S σ q h
  unfold s_is at h
  repeat' (first | split at h | (rw [cond_eq_ite] at h; split at h))
  all_goals cases h
theorem r_lcmp (nx : Nat) : ∀ (L : kt_L) (S : List Value) (σ : kt_H) (q : Option Value × kt_H), s_lcmp nx L S σ ≠ some (.inr (.inr q)) := by
  intro L S σ q h
  unfold s_lcmp at h
  repeat' (first | split at h | (rw [cond_eq_ite] at h; split at h))
  all_goals cases h
theorem r_new (ci : Nat) (fs : List Value) (nx : Nat) : ∀ (L : kt_L) (S : List Value) (σ : kt_H) (q : Option Value × kt_H), s_new ci fs nx L S σ ≠ some (.inr (.inr q)) := by
  intro L S σ q h
  unfold s_new at h
  repeat' (first | split at h | (rw [cond_eq_ite] at h; split at h))
  all_goals cases h
theorem r_sub (nx : Nat) : ∀ (L : kt_L) (S : List Value) (σ : kt_H) (q : Option Value × kt_H), s_sub nx L S σ ≠ some (.inr (.inr q)) := by
  intro L S σ q h
  unfold s_sub at h
  repeat' (first | split at h | (rw [cond_eq_ite] at h; split at h))
  all_goals cases h
theorem r_tsw (lo hi : Int) (ts : List Nat) (d : Nat) : ∀ (L : kt_L) (S : List Value) (σ : kt_H) (q : Option Value × kt_H), s_tsw lo hi ts d L S σ ≠ some (.inr (.inr q)) := by
  intro L S σ q h
  unfold s_tsw at h
  repeat' (first | split at h | (rw [cond_eq_ite] at h; split at h))
  all_goals cases h
