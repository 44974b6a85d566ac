/-! the heap only grows; all methods together -/
def kt_g1 (f : kt_S) : Prop := ∀ (L : kt_L) (S : List Value) (σ : kt_H) (r : kt_F ⊕ (((Nat × List Value) × kt_F) ⊕ (Option Value × kt_H))), f L S σ = some r → match r with
  | .inl fr => σ.2.1 ≤ fr.2.2.2.2.1 ∧ σ.2.2 ≤ fr.2.2.2.2.2
  | .inr (.inl q) => q.2.2.2.2 = σ
  | .inr (.inr q) => q.2 = σ
theorem kt_g1b {b : Bool} {f g : kt_S} (hf : kt_g1 f) (hg : kt_g1 g) : kt_g1 (bif b then f else g) := by cases b <;> assumption
theorem kt_g1l {b : Bool} {f : kt_S} (hf : kt_g1 f) : kt_g1 (bif b then f else s_no) := kt_g1b hf (fun L S σ r h => by cases h)
theorem g_aal (nx : Nat) : kt_g1 (s_aal nx) := by
  intro L S σ r h
  unfold s_aal at h
  repeat' (first | split at h | (rw [cond_eq_ite] at h; split at h))
  all_goals first | (cases h; done) | (cases h; first | exact ⟨Nat.le_refl _, Nat.le_refl _⟩ | rfl | exact ⟨Nat.le_succ _, Nat.le_add_right _ _⟩)
theorem g_aas (nx : Nat) : kt_g1 (s_aas nx) := by
  intro L S σ r h
  unfold s_aas at h
  repeat' (first | split at h | (rw [cond_eq_ite] at h; split at h))
  all_goals first | (cases h; done) | (cases h; first | exact ⟨Nat.le_refl _, Nat.le_refl _⟩ | rfl | exact ⟨Nat.le_succ _, Nat.le_add_right _ _⟩)
theorem g_abs (nx : Nat) : kt_g1 (s_abs nx) := by
  intro L S σ r h
  unfold s_abs at h
  repeat' (first | split at h | (rw [cond_eq_ite] at h; split at h))
  all_goals first | (cases h; done) | (cases h; first | exact ⟨Nat.le_refl _, Nat.le_refl _⟩ | rfl | exact ⟨Nat.le_succ _, Nat.le_add_right _ _⟩)
theorem g_add (nx : Nat) : kt_g1 (s_add nx) := by
  intro L S σ r h
  unfold s_add at h
  repeat' (first | split at h | (rw [cond_eq_ite] at h; split at h))
  all_goals first | (cases h; done) | (cases h; first | exact ⟨Nat.le_refl _, Nat.le_refl _⟩ | rfl | exact ⟨Nat.le_succ _, Nat.le_add_right _ _⟩)
theorem g_al (i nx : Nat) : kt_g1 (s_al i nx) := by
  intro L S σ r h
  unfold s_al at h
  repeat' (first | split at h | (rw [cond_eq_ite] at h; split at h))
  all_goals first | (cases h; done) | (cases h; first | exact ⟨Nat.le_refl _, Nat.le_refl _⟩ | rfl | exact ⟨Nat.le_succ _, Nat.le_add_right _ _⟩)
theorem g_and (nx : Nat) : kt_g1 (s_and nx) := by
  intro L S σ r h
  unfold s_and at h
  repeat' (first | split at h | (rw [cond_eq_ite] at h; split at h))
  all_goals first | (cases h; done) | (cases h; first | exact ⟨Nat.le_refl _, Nat.le_refl _⟩ | rfl | exact ⟨Nat.le_succ _, Nat.le_add_right _ _⟩)
theorem g_as (i nx : Nat) : kt_g1 (s_as i nx) := by
  intro L S σ r h
  unfold s_as at h
  repeat' (first | split at h | (rw [cond_eq_ite] at h; split at h))
  all_goals first | (cases h; done) | (cases h; first | exact ⟨Nat.le_refl _, Nat.le_refl _⟩ | rfl | exact ⟨Nat.le_succ _, Nat.le_add_right _ _⟩)
theorem g_ceq (t nx : Nat) : kt_g1 (s_ceq t nx) := by
  intro L S σ r h
  unfold s_ceq at h
  repeat' (first | split at h | (rw [cond_eq_ite] at h; split at h))
  all_goals first | (cases h; done) | (cases h; first | exact ⟨Nat.le_refl _, Nat.le_refl _⟩ | rfl | exact ⟨Nat.le_succ _, Nat.le_add_right _ _⟩)
theorem g_cge (t nx : Nat) : kt_g1 (s_cge t nx) := by
  intro L S σ r h
  unfold s_cge at h
  repeat' (first | split at h | (rw [cond_eq_ite] at h; split at h))
  all_goals first | (cases h; done) | (cases h; first | exact ⟨Nat.le_refl _, Nat.le_refl _⟩ | rfl | exact ⟨Nat.le_succ _, Nat.le_add_right _ _⟩)
theorem g_cgt (t nx : Nat) : kt_g1 (s_cgt t nx) := by
  intro L S σ r h
  unfold s_cgt at h
  repeat' (first | split at h | (rw [cond_eq_ite] at h; split at h))
  all_goals first | (cases h; done) | (cases h; first | exact ⟨Nat.le_refl _, Nat.le_refl _⟩ | rfl | exact ⟨Nat.le_succ _, Nat.le_add_right _ _⟩)
theorem g_ci (y na nx : Nat) : kt_g1 (s_ci y na nx) := by
  intro L S σ r h
  unfold s_ci at h
  repeat' (first | split at h | (rw [cond_eq_ite] at h; split at h))
  all_goals first | (cases h; done) | (cases h; first | exact ⟨Nat.le_refl _, Nat.le_refl _⟩ | rfl | exact ⟨Nat.le_succ _, Nat.le_add_right _ _⟩)
theorem g_cle (t nx : Nat) : kt_g1 (s_cle t nx) := by
  intro L S σ r h
  unfold s_cle at h
  repeat' (first | split at h | (rw [cond_eq_ite] at h; split at h))
  all_goals first | (cases h; done) | (cases h; first | exact ⟨Nat.le_refl _, Nat.le_refl _⟩ | rfl | exact ⟨Nat.le_succ _, Nat.le_add_right _ _⟩)
theorem g_clt (t nx : Nat) : kt_g1 (s_clt t nx) := by
  intro L S σ r h
  unfold s_clt at h
  repeat' (first | split at h | (rw [cond_eq_ite] at h; split at h))
  all_goals first | (cases h; done) | (cases h; first | exact ⟨Nat.le_refl _, Nat.le_refl _⟩ | rfl | exact ⟨Nat.le_succ _, Nat.le_add_right _ _⟩)
theorem g_cne (t nx : Nat) : kt_g1 (s_cne t nx) := by
  intro L S σ r h
  unfold s_cne at h
  repeat' (first | split at h | (rw [cond_eq_ite] at h; split at h))
  all_goals first | (cases h; done) | (cases h; first | exact ⟨Nat.le_refl _, Nat.le_refl _⟩ | rfl | exact ⟨Nat.le_succ _, Nat.le_add_right _ _⟩)
theorem g_cp (nx : Nat) : kt_g1 (s_cp nx) := by
  intro L S σ r h
  unfold s_cp at h
  repeat' (first | split at h | (rw [cond_eq_ite] at h; split at h))
  all_goals first | (cases h; done) | (cases h; first | exact ⟨Nat.le_refl _, Nat.le_refl _⟩ | rfl | exact ⟨Nat.le_succ _, Nat.le_add_right _ _⟩)
theorem g_cs (y na nx : Nat) : kt_g1 (s_cs y na nx) := by
  intro L S σ r h
  unfold s_cs at h
  repeat' (first | split at h | (rw [cond_eq_ite] at h; split at h))
  all_goals first | (cases h; done) | (cases h; first | exact ⟨Nat.le_refl _, Nat.le_refl _⟩ | rfl | exact ⟨Nat.le_succ _, Nat.le_add_right _ _⟩)
theorem g_cv (cs : List (Nat × Nat)) (na nx : Nat) : kt_g1 (s_cv cs na nx) := by
  intro L S σ r h
  unfold s_cv at h
  repeat' (first | split at h | (rw [cond_eq_ite] at h; split at h))
  all_goals first | (cases h; done) | (cases h; first | exact ⟨Nat.le_refl _, Nat.le_refl _⟩ | rfl | exact ⟨Nat.le_succ _, Nat.le_add_right _ _⟩)
theorem g_div (nx : Nat) : kt_g1 (s_div nx) := by
  intro L S σ r h
  unfold s_div at h
  repeat' (first | split at h | (rw [cond_eq_ite] at h; split at h))
  all_goals first | (cases h; done) | (cases h; first | exact ⟨Nat.le_refl _, Nat.le_refl _⟩ | rfl | exact ⟨Nat.le_succ _, Nat.le_add_right _ _⟩)
theorem g_dup (nx : Nat) : kt_g1 (s_dup nx) := by
  intro L S σ r h
  unfold s_dup at h
  repeat' (first | split at h | (rw [cond_eq_ite] at h; split at h))
  all_goals first | (cases h; done) | (cases h; first | exact ⟨Nat.le_refl _, Nat.le_refl _⟩ | rfl | exact ⟨Nat.le_succ _, Nat.le_add_right _ _⟩)
theorem g_dup2 (nx : Nat) : kt_g1 (s_dup2 nx) := by
  intro L S σ r h
  unfold s_dup2 at h
  repeat' (first | split at h | (rw [cond_eq_ite] at h; split at h))
  all_goals first | (cases h; done) | (cases h; first | exact ⟨Nat.le_refl _, Nat.le_refl _⟩ | rfl | exact ⟨Nat.le_succ _, Nat.le_add_right _ _⟩)
theorem g_feq (t nx : Nat) : kt_g1 (s_feq t nx) := by
  intro L S σ r h
  unfold s_feq at h
  repeat' (first | split at h | (rw [cond_eq_ite] at h; split at h))
  all_goals first | (cases h; done) | (cases h; first | exact ⟨Nat.le_refl _, Nat.le_refl _⟩ | rfl | exact ⟨Nat.le_succ _, Nat.le_add_right _ _⟩)
theorem g_fge (t nx : Nat) : kt_g1 (s_fge t nx) := by
  intro L S σ r h
  unfold s_fge at h
  repeat' (first | split at h | (rw [cond_eq_ite] at h; split at h))
  all_goals first | (cases h; done) | (cases h; first | exact ⟨Nat.le_refl _, Nat.le_refl _⟩ | rfl | exact ⟨Nat.le_succ _, Nat.le_add_right _ _⟩)
theorem g_fgt (t nx : Nat) : kt_g1 (s_fgt t nx) := by
  intro L S σ r h
  unfold s_fgt at h
  repeat' (first | split at h | (rw [cond_eq_ite] at h; split at h))
  all_goals first | (cases h; done) | (cases h; first | exact ⟨Nat.le_refl _, Nat.le_refl _⟩ | rfl | exact ⟨Nat.le_succ _, Nat.le_add_right _ _⟩)
theorem g_fle (t nx : Nat) : kt_g1 (s_fle t nx) := by
  intro L S σ r h
  unfold s_fle at h
  repeat' (first | split at h | (rw [cond_eq_ite] at h; split at h))
  all_goals first | (cases h; done) | (cases h; first | exact ⟨Nat.le_refl _, Nat.le_refl _⟩ | rfl | exact ⟨Nat.le_succ _, Nat.le_add_right _ _⟩)
theorem g_flt (t nx : Nat) : kt_g1 (s_flt t nx) := by
  intro L S σ r h
  unfold s_flt at h
  repeat' (first | split at h | (rw [cond_eq_ite] at h; split at h))
  all_goals first | (cases h; done) | (cases h; first | exact ⟨Nat.le_refl _, Nat.le_refl _⟩ | rfl | exact ⟨Nat.le_succ _, Nat.le_add_right _ _⟩)
theorem g_fne (t nx : Nat) : kt_g1 (s_fne t nx) := by
  intro L S σ r h
  unfold s_fne at h
  repeat' (first | split at h | (rw [cond_eq_ite] at h; split at h))
  all_goals first | (cases h; done) | (cases h; first | exact ⟨Nat.le_refl _, Nat.le_refl _⟩ | rfl | exact ⟨Nat.le_succ _, Nat.le_add_right _ _⟩)
theorem g_fnn (t nx : Nat) : kt_g1 (s_fnn t nx) := by
  intro L S σ r h
  unfold s_fnn at h
  repeat' (first | split at h | (rw [cond_eq_ite] at h; split at h))
  all_goals first | (cases h; done) | (cases h; first | exact ⟨Nat.le_refl _, Nat.le_refl _⟩ | rfl | exact ⟨Nat.le_succ _, Nat.le_add_right _ _⟩)
theorem g_fnul (t nx : Nat) : kt_g1 (s_fnul t nx) := by
  intro L S σ r h
  unfold s_fnul at h
  repeat' (first | split at h | (rw [cond_eq_ite] at h; split at h))
  all_goals first | (cases h; done) | (cases h; first | exact ⟨Nat.le_refl _, Nat.le_refl _⟩ | rfl | exact ⟨Nat.le_succ _, Nat.le_add_right _ _⟩)
theorem g_gf (cs : List Nat) (k nx : Nat) : kt_g1 (s_gf cs k nx) := by
  intro L S σ r h
  unfold s_gf at h
  repeat' (first | split at h | (rw [cond_eq_ite] at h; split at h))
  all_goals first | (cases h; done) | (cases h; first | exact ⟨Nat.le_refl _, Nat.le_refl _⟩ | rfl | exact ⟨Nat.le_succ _, Nat.le_add_right _ _⟩)
theorem g_goto (t : Nat) : kt_g1 (s_goto t) := by
  intro L S σ r h
  unfold s_goto at h
  repeat' (first | split at h | (rw [cond_eq_ite] at h; split at h))
  all_goals first | (cases h; done) | (cases h; first | exact ⟨Nat.le_refl _, Nat.le_refl _⟩ | rfl | exact ⟨Nat.le_succ _, Nat.le_add_right _ _⟩)
theorem g_gs (id nx : Nat) : kt_g1 (s_gs id nx) := by
  intro L S σ r h
  unfold s_gs at h
  repeat' (first | split at h | (rw [cond_eq_ite] at h; split at h))
  all_goals first | (cases h; done) | (cases h; first | exact ⟨Nat.le_refl _, Nat.le_refl _⟩ | rfl | exact ⟨Nat.le_succ _, Nat.le_add_right _ _⟩)
theorem g_i2b (nx : Nat) : kt_g1 (s_i2b nx) := by
  intro L S σ r h
  unfold s_i2b at h
  repeat' (first | split at h | (rw [cond_eq_ite] at h; split at h))
  all_goals first | (cases h; done) | (cases h; first | exact ⟨Nat.le_refl _, Nat.le_refl _⟩ | rfl | exact ⟨Nat.le_succ _, Nat.le_add_right _ _⟩)
theorem g_i2l (nx : Nat) : kt_g1 (s_i2l nx) := by
  intro L S σ r h
  unfold s_i2l at h
  repeat' (first | split at h | (rw [cond_eq_ite] at h; split at h))
  all_goals first | (cases h; done) | (cases h; first | exact ⟨Nat.le_refl _, Nat.le_refl _⟩ | rfl | exact ⟨Nat.le_succ _, Nat.le_add_right _ _⟩)
theorem g_i2s (nx : Nat) : kt_g1 (s_i2s nx) := by
  intro L S σ r h
  unfold s_i2s at h
  repeat' (first | split at h | (rw [cond_eq_ite] at h; split at h))
  all_goals first | (cases h; done) | (cases h; first | exact ⟨Nat.le_refl _, Nat.le_refl _⟩ | rfl | exact ⟨Nat.le_succ _, Nat.le_add_right _ _⟩)
theorem g_ial (nx : Nat) : kt_g1 (s_ial nx) := by
  intro L S σ r h
  unfold s_ial at h
  repeat' (first | split at h | (rw [cond_eq_ite] at h; split at h))
  all_goals first | (cases h; done) | (cases h; first | exact ⟨Nat.le_refl _, Nat.le_refl _⟩ | rfl | exact ⟨Nat.le_succ _, Nat.le_add_right _ _⟩)
theorem g_ialS (xs : Nat → Int32) (n nx : Nat) : kt_g1 (s_ialS xs n nx) := by
  intro L S σ r h
  unfold s_ialS at h
  repeat' (first | split at h | (rw [cond_eq_ite] at h; split at h))
  all_goals first | (cases h; done) | (cases h; first | exact ⟨Nat.le_refl _, Nat.le_refl _⟩ | rfl | exact ⟨Nat.le_succ _, Nat.le_add_right _ _⟩)
theorem g_ialT (nx : Nat) : kt_g1 (s_ialT nx) := by
  intro L S σ r h
  unfold s_ialT at h
  repeat' (first | split at h | (rw [cond_eq_ite] at h; split at h))
  all_goals first | (cases h; done) | (cases h; first | exact ⟨Nat.le_refl _, Nat.le_refl _⟩ | rfl | exact ⟨Nat.le_succ _, Nat.le_add_right _ _⟩)
theorem g_ias (nx : Nat) : kt_g1 (s_ias nx) := by
  intro L S σ r h
  unfold s_ias at h
  repeat' (first | split at h | (rw [cond_eq_ite] at h; split at h))
  all_goals first | (cases h; done) | (cases h; first | exact ⟨Nat.le_refl _, Nat.le_refl _⟩ | rfl | exact ⟨Nat.le_succ _, Nat.le_add_right _ _⟩)
theorem g_ic (v : Int32) (nx : Nat) : kt_g1 (s_ic v nx) := by
  intro L S σ r h
  unfold s_ic at h
  repeat' (first | split at h | (rw [cond_eq_ite] at h; split at h))
  all_goals first | (cases h; done) | (cases h; first | exact ⟨Nat.le_refl _, Nat.le_refl _⟩ | rfl | exact ⟨Nat.le_succ _, Nat.le_add_right _ _⟩)
theorem g_il (i nx : Nat) : kt_g1 (s_il i nx) := by
  intro L S σ r h
  unfold s_il at h
  repeat' (first | split at h | (rw [cond_eq_ite] at h; split at h))
  all_goals first | (cases h; done) | (cases h; first | exact ⟨Nat.le_refl _, Nat.le_refl _⟩ | rfl | exact ⟨Nat.le_succ _, Nat.le_add_right _ _⟩)
theorem g_inc (i : Nat) (v : Int32) (nx : Nat) : kt_g1 (s_inc i v nx) := by
  intro L S σ r h
  unfold s_inc at h
  repeat' (first | split at h | (rw [cond_eq_ite] at h; split at h))
  all_goals first | (cases h; done) | (cases h; first | exact ⟨Nat.le_refl _, Nat.le_refl _⟩ | rfl | exact ⟨Nat.le_succ _, Nat.le_add_right _ _⟩)
theorem g_ins (ys ns : List Nat) (nx : Nat) : kt_g1 (s_ins ys ns nx) := by
  intro L S σ r h
  unfold s_ins at h
  repeat' (first | split at h | (rw [cond_eq_ite] at h; split at h))
  all_goals first | (cases h; done) | (cases h; first | exact ⟨Nat.le_refl _, Nat.le_refl _⟩ | rfl | exact ⟨Nat.le_succ _, Nat.le_add_right _ _⟩)
theorem g_is (i nx : Nat) : kt_g1 (s_is i nx) := by
  intro L S σ r h
  unfold s_is at h
  repeat' (first | split at h | (rw [cond_eq_ite] at h; split at h))
  all_goals first | (cases h; done) | (cases h; first | exact ⟨Nat.le_refl _, Nat.le_refl _⟩ | rfl | exact ⟨Nat.le_succ _, Nat.le_add_right _ _⟩)
theorem g_ladd (nx : Nat) : kt_g1 (s_ladd nx) := by
  intro L S σ r h
  unfold s_ladd at h
  repeat' (first | split at h | (rw [cond_eq_ite] at h; split at h))
  all_goals first | (cases h; done) | (cases h; first | exact ⟨Nat.le_refl _, Nat.le_refl _⟩ | rfl | exact ⟨Nat.le_succ _, Nat.le_add_right _ _⟩)
theorem g_lc (v : Int64) (nx : Nat) : kt_g1 (s_lc v nx) := by
  intro L S σ r h
  unfold s_lc at h
  repeat' (first | split at h | (rw [cond_eq_ite] at h; split at h))
  all_goals first | (cases h; done) | (cases h; first | exact ⟨Nat.le_refl _, Nat.le_refl _⟩ | rfl | exact ⟨Nat.le_succ _, Nat.le_add_right _ _⟩)
theorem g_lcmp (nx : Nat) : kt_g1 (s_lcmp nx) := by
  intro L S σ r h
  unfold s_lcmp at h
  repeat' (first | split at h | (rw [cond_eq_ite] at h; split at h))
  all_goals first | (cases h; done) | (cases h; first | exact ⟨Nat.le_refl _, Nat.le_refl _⟩ | rfl | exact ⟨Nat.le_succ _, Nat.le_add_right _ _⟩)
theorem g_ldiv (nx : Nat) : kt_g1 (s_ldiv nx) := by
  intro L S σ r h
  unfold s_ldiv at h
  repeat' (first | split at h | (rw [cond_eq_ite] at h; split at h))
  all_goals first | (cases h; done) | (cases h; first | exact ⟨Nat.le_refl _, Nat.le_refl _⟩ | rfl | exact ⟨Nat.le_succ _, Nat.le_add_right _ _⟩)
theorem g_len (nx : Nat) : kt_g1 (s_len nx) := by
  intro L S σ r h
  unfold s_len at h
  repeat' (first | split at h | (rw [cond_eq_ite] at h; split at h))
  all_goals first | (cases h; done) | (cases h; first | exact ⟨Nat.le_refl _, Nat.le_refl _⟩ | rfl | exact ⟨Nat.le_succ _, Nat.le_add_right _ _⟩)
theorem g_lenS (n nx : Nat) : kt_g1 (s_lenS n nx) := by
  intro L S σ r h
  unfold s_lenS at h
  repeat' (first | split at h | (rw [cond_eq_ite] at h; split at h))
  all_goals first | (cases h; done) | (cases h; first | exact ⟨Nat.le_refl _, Nat.le_refl _⟩ | rfl | exact ⟨Nat.le_succ _, Nat.le_add_right _ _⟩)
theorem g_ll (i nx : Nat) : kt_g1 (s_ll i nx) := by
  intro L S σ r h
  unfold s_ll at h
  repeat' (first | split at h | (rw [cond_eq_ite] at h; split at h))
  all_goals first | (cases h; done) | (cases h; first | exact ⟨Nat.le_refl _, Nat.le_refl _⟩ | rfl | exact ⟨Nat.le_succ _, Nat.le_add_right _ _⟩)
theorem g_lmul (nx : Nat) : kt_g1 (s_lmul nx) := by
  intro L S σ r h
  unfold s_lmul at h
  repeat' (first | split at h | (rw [cond_eq_ite] at h; split at h))
  all_goals first | (cases h; done) | (cases h; first | exact ⟨Nat.le_refl _, Nat.le_refl _⟩ | rfl | exact ⟨Nat.le_succ _, Nat.le_add_right _ _⟩)
theorem g_lrem (nx : Nat) : kt_g1 (s_lrem nx) := by
  intro L S σ r h
  unfold s_lrem at h
  repeat' (first | split at h | (rw [cond_eq_ite] at h; split at h))
  all_goals first | (cases h; done) | (cases h; first | exact ⟨Nat.le_refl _, Nat.le_refl _⟩ | rfl | exact ⟨Nat.le_succ _, Nat.le_add_right _ _⟩)
theorem g_ls (i nx : Nat) : kt_g1 (s_ls i nx) := by
  intro L S σ r h
  unfold s_ls at h
  repeat' (first | split at h | (rw [cond_eq_ite] at h; split at h))
  all_goals first | (cases h; done) | (cases h; first | exact ⟨Nat.le_refl _, Nat.le_refl _⟩ | rfl | exact ⟨Nat.le_succ _, Nat.le_add_right _ _⟩)
theorem g_lsub (nx : Nat) : kt_g1 (s_lsub nx) := by
  intro L S σ r h
  unfold s_lsub at h
  repeat' (first | split at h | (rw [cond_eq_ite] at h; split at h))
  all_goals first | (cases h; done) | (cases h; first | exact ⟨Nat.le_refl _, Nat.le_refl _⟩ | rfl | exact ⟨Nat.le_succ _, Nat.le_add_right _ _⟩)
theorem g_max (nx : Nat) : kt_g1 (s_max nx) := by
  intro L S σ r h
  unfold s_max at h
  repeat' (first | split at h | (rw [cond_eq_ite] at h; split at h))
  all_goals first | (cases h; done) | (cases h; first | exact ⟨Nat.le_refl _, Nat.le_refl _⟩ | rfl | exact ⟨Nat.le_succ _, Nat.le_add_right _ _⟩)
theorem g_min (nx : Nat) : kt_g1 (s_min nx) := by
  intro L S σ r h
  unfold s_min at h
  repeat' (first | split at h | (rw [cond_eq_ite] at h; split at h))
  all_goals first | (cases h; done) | (cases h; first | exact ⟨Nat.le_refl _, Nat.le_refl _⟩ | rfl | exact ⟨Nat.le_succ _, Nat.le_add_right _ _⟩)
theorem g_mul (nx : Nat) : kt_g1 (s_mul nx) := by
  intro L S σ r h
  unfold s_mul at h
  repeat' (first | split at h | (rw [cond_eq_ite] at h; split at h))
  all_goals first | (cases h; done) | (cases h; first | exact ⟨Nat.le_refl _, Nat.le_refl _⟩ | rfl | exact ⟨Nat.le_succ _, Nat.le_add_right _ _⟩)
theorem g_nai (nx : Nat) : kt_g1 (s_nai nx) := by
  intro L S σ r h
  unfold s_nai at h
  repeat' (first | split at h | (rw [cond_eq_ite] at h; split at h))
  all_goals first | (cases h; done) | (cases h; first | exact ⟨Nat.le_refl _, Nat.le_refl _⟩ | rfl | exact ⟨Nat.le_succ _, Nat.le_add_right _ _⟩)
theorem g_naq (t nx : Nat) : kt_g1 (s_naq t nx) := by
  intro L S σ r h
  unfold s_naq at h
  repeat' (first | split at h | (rw [cond_eq_ite] at h; split at h))
  all_goals first | (cases h; done) | (cases h; first | exact ⟨Nat.le_refl _, Nat.le_refl _⟩ | rfl | exact ⟨Nat.le_succ _, Nat.le_add_right _ _⟩)
theorem g_neg (nx : Nat) : kt_g1 (s_neg nx) := by
  intro L S σ r h
  unfold s_neg at h
  repeat' (first | split at h | (rw [cond_eq_ite] at h; split at h))
  all_goals first | (cases h; done) | (cases h; first | exact ⟨Nat.le_refl _, Nat.le_refl _⟩ | rfl | exact ⟨Nat.le_succ _, Nat.le_add_right _ _⟩)
theorem g_new (ci : Nat) (fs : List Value) (nx : Nat) : kt_g1 (s_new ci fs nx) := by
  intro L S σ r h
  unfold s_new at h
  repeat' (first | split at h | (rw [cond_eq_ite] at h; split at h))
  all_goals first | (cases h; done) | (cases h; first | exact ⟨Nat.le_refl _, Nat.le_refl _⟩ | rfl | exact ⟨Nat.le_succ _, Nat.le_add_right _ _⟩)
theorem g_nul (nx : Nat) : kt_g1 (s_nul nx) := by
  intro L S σ r h
  unfold s_nul at h
  repeat' (first | split at h | (rw [cond_eq_ite] at h; split at h))
  all_goals first | (cases h; done) | (cases h; first | exact ⟨Nat.le_refl _, Nat.le_refl _⟩ | rfl | exact ⟨Nat.le_succ _, Nat.le_add_right _ _⟩)
theorem g_obj (nx : Nat) : kt_g1 (s_obj nx) := by
  intro L S σ r h
  unfold s_obj at h
  repeat' (first | split at h | (rw [cond_eq_ite] at h; split at h))
  all_goals first | (cases h; done) | (cases h; first | exact ⟨Nat.le_refl _, Nat.le_refl _⟩ | rfl | exact ⟨Nat.le_succ _, Nat.le_add_right _ _⟩)
theorem g_pf (cs : List Nat) (k b nx : Nat) : kt_g1 (s_pf cs k b nx) := by
  intro L S σ r h
  unfold s_pf at h
  repeat' (first | split at h | (rw [cond_eq_ite] at h; split at h))
  all_goals first | (cases h; done) | (cases h; first | exact ⟨Nat.le_refl _, Nat.le_refl _⟩ | rfl | exact ⟨Nat.le_succ _, Nat.le_add_right _ _⟩)
theorem g_pop (nx : Nat) : kt_g1 (s_pop nx) := by
  intro L S σ r h
  unfold s_pop at h
  repeat' (first | split at h | (rw [cond_eq_ite] at h; split at h))
  all_goals first | (cases h; done) | (cases h; first | exact ⟨Nat.le_refl _, Nat.le_refl _⟩ | rfl | exact ⟨Nat.le_succ _, Nat.le_add_right _ _⟩)
theorem g_ra  : kt_g1 (s_ra ) := by
  intro L S σ r h
  unfold s_ra at h
  repeat' (first | split at h | (rw [cond_eq_ite] at h; split at h))
  all_goals first | (cases h; done) | (cases h; first | exact ⟨Nat.le_refl _, Nat.le_refl _⟩ | rfl | exact ⟨Nat.le_succ _, Nat.le_add_right _ _⟩)
theorem g_rem (nx : Nat) : kt_g1 (s_rem nx) := by
  intro L S σ r h
  unfold s_rem at h
  repeat' (first | split at h | (rw [cond_eq_ite] at h; split at h))
  all_goals first | (cases h; done) | (cases h; first | exact ⟨Nat.le_refl _, Nat.le_refl _⟩ | rfl | exact ⟨Nat.le_succ _, Nat.le_add_right _ _⟩)
theorem g_ri  : kt_g1 (s_ri ) := by
  intro L S σ r h
  unfold s_ri at h
  repeat' (first | split at h | (rw [cond_eq_ite] at h; split at h))
  all_goals first | (cases h; done) | (cases h; first | exact ⟨Nat.le_refl _, Nat.le_refl _⟩ | rfl | exact ⟨Nat.le_succ _, Nat.le_add_right _ _⟩)
theorem g_rl  : kt_g1 (s_rl ) := by
  intro L S σ r h
  unfold s_rl at h
  repeat' (first | split at h | (rw [cond_eq_ite] at h; split at h))
  all_goals first | (cases h; done) | (cases h; first | exact ⟨Nat.le_refl _, Nat.le_refl _⟩ | rfl | exact ⟨Nat.le_succ _, Nat.le_add_right _ _⟩)
theorem g_rv  : kt_g1 (s_rv ) := by
  intro L S σ r h
  unfold s_rv at h
  repeat' (first | split at h | (rw [cond_eq_ite] at h; split at h))
  all_goals first | (cases h; done) | (cases h; first | exact ⟨Nat.le_refl _, Nat.le_refl _⟩ | rfl | exact ⟨Nat.le_succ _, Nat.le_add_right _ _⟩)
theorem g_rz  : kt_g1 (s_rz ) := by
  intro L S σ r h
  unfold s_rz at h
  repeat' (first | split at h | (rw [cond_eq_ite] at h; split at h))
  all_goals first | (cases h; done) | (cases h; first | exact ⟨Nat.le_refl _, Nat.le_refl _⟩ | rfl | exact ⟨Nat.le_succ _, Nat.le_add_right _ _⟩)
theorem g_sub (nx : Nat) : kt_g1 (s_sub nx) := by
  intro L S σ r h
  unfold s_sub at h
  repeat' (first | split at h | (rw [cond_eq_ite] at h; split at h))
  all_goals first | (cases h; done) | (cases h; first | exact ⟨Nat.le_refl _, Nat.le_refl _⟩ | rfl | exact ⟨Nat.le_succ _, Nat.le_add_right _ _⟩)
theorem g_tsw (lo hi : Int) (ts : List Nat) (d : Nat) : kt_g1 (s_tsw lo hi ts d) := by
  intro L S σ r h
  unfold s_tsw at h
  repeat' (first | split at h | (rw [cond_eq_ite] at h; split at h))
  all_goals first | (cases h; done) | (cases h; first | exact ⟨Nat.le_refl _, Nat.le_refl _⟩ | rfl | exact ⟨Nat.le_succ _, Nat.le_add_right _ _⟩)
