/-! soundness: the context of a method's run, and what a step must keep -/
/-- what holds of the tables and statics in every state -/
def kt_ot (dC : Nat → ClassId) (dI : Nat → Nat → Nat) (dA : Nat → ClassId) (tS : Nat → Nat) (B : Nat) (U : State) : Prop :=
  (va_Nw (.methodLinkNest RX11 38 yX5_init RX11) U ∧ va_Nw (.methodLinkNest RX7 11 yX0_init RX11) U ∧ va_Nw (.methodLinkNest RX11 64 yX4_init RX11) U ∧ va_Nw (.methodLinkNest RX11 71 yX9_init RX11) U ∧ va_Nw (.methodLinkNest RX11 79 yX3_init RX11) U ∧ va_Nw (.methodLinkNest RX3 9 yX10_init RX11) U ∧ va_Nw (.methodLinkNest RX11 80 yX8_init RX11) U ∧ va_Nw (.methodLinkNest RX8 30 yX11_isPart RX11) U) ∧
  (va_Nw (.castable RX6 RX1) U ∧ va_Nw (.castable RX1 RX2) U ∧ va_Nw (.castable RX6 RX2) U ∧ va_Nc RX2 RX1 U ∧ va_Nc RX2 RX6 U ∧ va_Nc RX1 RX6 U) ∧
  (va_AO RX2 U ∧ va_AO RX3 U ∧ va_AO RX8 U ∧ va_AO RX0 U ∧ va_AO RX10 U) ∧
  va_K (dC, dI) vwCl (kt_tys dA) U ∧ B ≤ U.heap.size ∧
  va_Z RX5 "LEASTS" "[I" (.ref (tS 1)) (fun q => B ≤ q) U U.heap ∧ va_Z RX5 "MOSTS" "[I" (.ref (tS 2)) (fun q => B ≤ q) U U.heap ∧
  va_T .int (tS 1) 6 (fun j => .int (kt_T1 j)) (fun q => B ≤ q) U U.heap ∧ va_T .int (tS 2) 6 (fun j => .int (kt_T2 j)) (fun q => B ≤ q) U U.heap
theorem kt_ot_moved {dC : Nat → ClassId} {dI : Nat → Nat → Nat} {dA : Nat → ClassId} {tS : Nat → Nat} {B : Nat} {s U : State} (hW : s.WarmedH U.vm) (hB : B ≤ U.heap.size) (hq : ∀ a : Nat, a < s.heap.size → ¬ B ≤ a → U.heap[a]? = s.heap[a]?) (h : kt_ot dC dI dA tS B s) : kt_ot dC dI dA tS B U := by
  obtain ⟨⟨m1, m2, m3, m4, m5, m6, m7, m8⟩, ⟨c1, c2, c3, c4, c5, c6⟩, ⟨a1, a2, a3, a4, a5⟩, hK, h1, h2, h3, h4, h5⟩ := h
  exact ⟨⟨va_Nw.warmM hW m1, va_Nw.warmM hW m2, va_Nw.warmM hW m3, va_Nw.warmM hW m4, va_Nw.warmM hW m5, va_Nw.warmM hW m6, va_Nw.warmM hW m7, va_Nw.warmM hW m8⟩, ⟨va_Nw.warmC hW c1, va_Nw.warmC hW c2, va_Nw.warmC hW c3, va_Nc.moved hW.alike c4, va_Nc.moved hW.alike c5, va_Nc.moved hW.alike c6⟩, ⟨a1.moved hW.alike, a2.moved hW.alike, a3.moved hW.alike, a4.moved hW.alike, a5.moved hW.alike⟩, hK.moved hW.alike, hB, (h2.moved hW.alike).kept hq, (h3.moved hW.alike).kept hq, (h4.moved hW.alike).kept hq, (h5.moved hW.alike).kept hq⟩
theorem kt_ot_same {dC : Nat → ClassId} {dI : Nat → Nat → Nat} {dA : Nat → ClassId} {tS : Nat → Nat} {B : Nat} {s U : State} (hv : s.vm = U.vm) (hh : s.heap = U.heap) (h : kt_ot dC dI dA tS B s) : kt_ot dC dI dA tS B U := by
  obtain ⟨⟨m1, m2, m3, m4, m5, m6, m7, m8⟩, ⟨c1, c2, c3, c4, c5, c6⟩, ⟨a1, a2, a3, a4, a5⟩, hK, h1, h2, h3, h4, h5⟩ := h
  have ha : s.vm.Alike U.vm := hv ▸ Vm.Alike.refl s.vm
  exact ⟨⟨m1.same rfl hv, m2.same rfl hv, m3.same rfl hv, m4.same rfl hv, m5.same rfl hv, m6.same rfl hv, m7.same rfl hv, m8.same rfl hv⟩, ⟨c1.same rfl hv, c2.same rfl hv, c3.same rfl hv, va_Nc.moved ha c4, va_Nc.moved ha c5, va_Nc.moved ha c6⟩, ⟨a1.moved ha, a2.moved ha, a3.moved ha, a4.moved ha, a5.moved ha⟩, hK.moved ha, hh ▸ h1, hh ▸ h2.moved ha, hh ▸ h3.moved ha, hh ▸ h4.moved ha, hh ▸ h5.moved ha⟩
/-- the context: the machine's data, and the room as it began -/
def kt_cx (own : String) (cc : ByteArray) (maxL : Nat) (p : Program) (R : Room) (s : State) (m : MethodId) (args : Array Value) (c : Code) (dC : Nat → ClassId) (dI : Nat → Nat → Nat) (dA : Nat → ClassId) (tS : Nat → Nat) (B n0 : Nat) : Prop :=
  p.tables.exec = Jvm.exec ∧ c.code = cc ∧ c.maxLocals = maxL ∧ s.vm.findClass own = some m.cls ∧ (∀ w ∈ kt_gw, w.before args s = true) ∧ kt_ot dC dI dA tS B s ∧ n0 + R.cells ≤ 600000 ∧ s.heap.size = B + n0
def kt_gd (maxL : Nat) (p : Program) (l : Launch) (e : Env) (R : Room) (s : State) (m : MethodId) (args : Array Value) (below : List Frame) (meth : Method) (c : Code) (dC : Nat → ClassId) (dI : Nat → Nat → Nat) (dA : Nat → ClassId) (tS : Nat → Nat) (B n0 ns0 : Nat) (Q : State → Prop) (fr : kt_F) : Prop :=
  ∀ (H : Heap) (locs : List Loc) (cells slots : Nat) (ls : Array Slot), H.size = B + fr.2.2.2.2.1 → va_P (dC, dI) vwCl (kt_ws (kt_al B tS) dA fr.2.2.2) H → kt_wf fr.2.2.2 → va_S (fun q => B ≤ q) s.heap H locs → n0 + cells = fr.2.2.2.2.1 → ns0 + slots = fr.2.2.2.2.2 → fr.2.2.2.2.1 ≤ n0 + R.cells → kt_lo (kt_al B tS) ls maxL fr.2.1 →
    W p l e R s m args below meth c H locs cells slots Q (F0 m fr.1 ls (fr.2.2.1.map (kt_cv (kt_al B tS))))
def kt_pre (dC : Nat → ClassId) (dI : Nat → Nat → Nat) (dA : Nat → ClassId) (tS : Nat → Nat) (B : Nat) (σ : kt_H) (U : State) : Prop := U.heap.size = B + σ.2.1 ∧ va_P (dC, dI) vwCl (kt_ws (kt_al B tS) dA σ) U.heap ∧ kt_wf σ ∧ kt_ot dC dI dA tS B U
def kt_post (dC : Nat → ClassId) (dI : Nat → Nat → Nat) (dA : Nat → ClassId) (tS : Nat → Nat) (B : Nat) (v : Option Value) (σ : kt_H) : Array Value → State → Outcome → State → Prop := fun _ st oc t =>
  oc = .returned (v.map (kt_cv (kt_al B tS))) ∧ t.heap.size = B + σ.2.1 ∧ va_P (dC, dI) vwCl (kt_ws (kt_al B tS) dA σ) t.heap ∧ kt_wf σ ∧ va_F (fun q => B ≤ q) st t
