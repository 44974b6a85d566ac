/-! soundness of calls -/
theorem kt_pop_ok : ∀ (n : Nat) (acc S as S' : List Value), kt_pop n acc S = some (as, S') → ∃ pre : List Value, pre.length = n ∧ S = pre ++ S' ∧ as = pre.reverse ++ acc
  | 0, acc, S, as, S', h => by
    cases h
    exact ⟨[], rfl, rfl, rfl⟩
  | n + 1, acc, [], as, S', h => by cases h
  | n + 1, acc, v :: S, as, S', h => by
    obtain ⟨pre, a, b, c⟩ := kt_pop_ok n (v :: acc) S as S' h
    exact ⟨v :: pre, by simp [a], by rw [b]; rfl, by rw [c]; simp⟩
theorem kt_pop_st {α : Nat → Nat} {n : Nat} {S as S' : List Value} (h : kt_pop n [] S = some (as, S')) : as.length = n ∧ S.map (kt_cv α) = (as.map (kt_cv α)).reverse ++ S'.map (kt_cv α) := by
  obtain ⟨pre, a, b, c⟩ := kt_pop_ok n [] S as S' h
  subst c
  rw [List.append_nil]
  refine ⟨by simp [a], ?_⟩
  rw [b, List.map_append, List.map_reverse, List.reverse_reverse]
/-- what is known of a method by its number: its words, its parameters -/
def kt_yo (y n : Nat) : Prop := Cond.code (kt_nm y) (kt_by y) (kt_mx y) (kt_rt y) ∈ kt_gw ∧ Cond.initialized (kt_nm y).cls ∈ kt_gw ∧ ((kt_nm y).cls ≠ "java/lang/invoke/MethodHandle" ∧ (kt_nm y).cls ≠ "java/lang/invoke/VarHandle") ∧ (parseMethodDescriptor (kt_nm y).desc).map (fun d => d.parameters.length) = some n
theorem kt_good {y : Nat} (h : Cond.code (kt_nm y) (kt_by y) (kt_mx y) (kt_rt y) ∈ kt_gw) : GoodIn kt_gw (kt_wy y) := by
  intro w hw
  have h1 : w ∈ kt_gw := by
    rcases List.mem_cons.mp hw with rfl | h2
    · exact h
    · exact h2
  exact ⟨h1, good_of_word (List.mem_filter.mp h1).2⟩
theorem kt_blind {dC : Nat → ClassId} {dI : Nat → Nat → Nat} {dA : Nat → ClassId} {tS : Nat → Nat} {B : Nat} {σ : kt_H} {av : List Value} : FrameBlind (va_Pc av (kt_pre dC dI dA tS B σ)) := by
  intro a U g mk h
  obtain ⟨h0, h1, h2, h3, h4⟩ := h
  exact ⟨h0, h1, h2, h3, kt_ot_same (s := U) (U := U.calling g mk a) rfl rfl h4⟩
theorem kt_back {R : Room} {s : State} {args : Array Value} {y n mc ms : Nat} (hts : ∀ w ∈ kt_gw, w.before args s = true) (hy : kt_yo y n) (hf : kt_fn y + 1 ≤ R.frames) (hl : 8 + (kt_mx y + 11) + kt_ln y ≤ R.locals) : (({ frames := kt_fn y, cells := mc, slots := ms, locals := kt_ln y } : Room).cells = mc ∧ ({ frames := kt_fn y, cells := mc, slots := ms, locals := kt_ln y } : Room).slots = ms ∧ ({ frames := kt_fn y, cells := mc, slots := ms, locals := kt_ln y } : Room).frames + 1 ≤ R.frames ∧ 8 + (kt_mx y + 11) + ({ frames := kt_fn y, cells := mc, slots := ms, locals := kt_ln y } : Room).locals ≤ R.locals ∧ (∀ w ∈ kt_wy y, ∀ (a' : Array Value) (U : State), s.WarmedH U.vm → w.before a' U = true) ∧ Cond.code (kt_nm y) (kt_by y) (kt_mx y) (kt_rt y) ∈ kt_wy y) ∧ ∀ sig, parseMethodDescriptor (kt_nm y).desc = some sig → n = sig.parameters.length := by
  refine ⟨⟨rfl, rfl, hf, hl, pay_in hts (kt_good hy.1), List.mem_cons_self⟩, fun sig h => ?_⟩
  have h2 := hy.2.2.2
  rw [h] at h2
  exact (Option.some.inj h2).symm
section KT2
variable {maxL : Nat} {p : Program} {l : Launch} {e : Env} {R : Room} {s : State} {m : MethodId} {args : Array Value} {below : List Frame} {meth : Method} {c : Code} {dC : Nat → ClassId} {dI : Nat → Nat → Nat} {dA : Nat → ClassId} {tS : Nat → Nat} {B n0 ns0 : Nat} {Q : State → Prop} {pc nx : Nat} {L : kt_L} {S S' : List Value} {σ : kt_H}
theorem kt_cont {H : Heap} {locs : List Loc} {cells slots mc ms : Nat} {ls : Array Slot} {st0 rest : List Value} {a : Array Value} {v : Option Value} {τ : kt_H} (hr : va_Run p l e R s m args below meth c H locs cells slots mc ms (F0 m pc ls st0) rest (kt_post dC dI dA tS B v τ a) (fun q => B ≤ q)) (hS : va_S (fun q => B ≤ q) s.heap H locs)
    (kk : ∀ (H1 : Heap) (locs1 : List Loc), H1.size = B + τ.2.1 → va_P (dC, dI) vwCl (kt_ws (kt_al B tS) dA τ) H1 → kt_wf τ → va_S (fun q => B ≤ q) s.heap H1 locs1 → W p l e R s m args below meth c H1 locs1 (cells + mc) (slots + ms) Q (F0 m (pc + 3) ls ((v.map (kt_cv (kt_al B tS))).toList ++ rest))) : W p l e R s m args below meth c H locs cells slots Q (F0 m pc ls st0) := by
  intro T hT X
  obtain ⟨v', st₀, t, T', L', h0, X', hL, e1, e2, ⟨hv, hz, hP, hwf, hF1, hF2⟩, st⟩ := hr T hT X
  cases hv
  rw [h0] at hF1 hF2
  obtain ⟨t2, a1, b1⟩ := kk T'.heap (locs ++ L') (by rw [e1]; exact hz) (by rw [e1]; exact hP) hwf ⟨Nat.le_trans hS.1 (by rw [e1]; exact hF1), fun q h1 h2 => by rw [e1, hF2 q (Nat.lt_of_lt_of_le h1 hS.1) h2]; exact hS.2.1 q h1 h2, fun q hq => by
      rcases List.mem_append.mp hq with h | h
      · exact hS.2.2 q h
      · exact hL q h⟩ T' rfl X'
  exact ⟨t2, st t2 a1, b1⟩
theorem kt_push_map (v : Option Value) (S : List Value) (α : Nat → Nat) : (kt_push v S).map (kt_cv α) = (v.map (kt_cv α)).toList ++ S.map (kt_cv α) := by cases v <;> rfl
/-- the rest of every call -/
theorem kt_pc {y : Nat} {as : List Value} (hB : s.heap.size = B + n0)
    (hk : ∀ (v : Option Value) (τ : kt_H) (H : Heap) (locs : List Loc) (cells slots : Nat) (ls : Array Slot), kt_met l dC dI dA tS B y as σ v τ → va_P (dC, dI) vwCl (kt_ws (kt_al B tS) dA σ) H → kt_wf σ → ls.size = maxL → (∀ U : State, U.heap = H → s.WarmedH U.vm → kt_pre dC dI dA tS B σ U) → cells + (τ.2.1 - σ.2.1) ≤ R.cells → slots + (τ.2.2 - σ.2.2) ≤ R.slots → va_Run p l e R s m args below meth c H locs cells slots (τ.2.1 - σ.2.1) (τ.2.2 - σ.2.2) (F0 m pc ls (S.map (kt_cv (kt_al B tS)))) (S'.map (kt_cv (kt_al B tS))) (kt_post dC dI dA tS B v τ (as.map (kt_cv (kt_al B tS))).toArray) (fun q => B ≤ q)) (hot : kt_ot dC dI dA tS B s) (hn : nx = pc + 3) :
    kt_okr maxL p l e R s m args below meth c dC dI dA tS B n0 ns0 Q pc L S σ (.inr (.inl ((y, as), (nx, L, S', σ)))) := by
  refine ⟨rfl, fun v τ hm1 hm2 hm3 hm4 hM g H locs cells slots ls h1 h2 h3 h4 h5 h6 h7 h8 => ?_⟩
  subst hn
  dsimp only at g h1 h2 h3 h5 h6 h7 h8 ⊢
  refine kt_cont (hk v τ H locs cells slots ls hM h2 h3 h8.1 (fun U hU hW => ⟨by rw [hU]; exact h1, by rw [hU]; exact h2, h3, kt_ot_moved hW (by rw [hU, h1]; omega) (fun a ha hna => by rw [hU]; exact h4.2.1 a ha hna) hot⟩) (by omega) (by omega)) h4 (fun H1 locs1 z1 hP1 hwf1 hS1 => ?_)
  have := g H1 locs1 (cells + (τ.2.1 - σ.2.1)) (slots + (τ.2.2 - σ.2.2)) ls z1 hP1 hwf1 hS1 (by show n0 + (cells + (τ.2.1 - σ.2.1)) = τ.2.1; omega) (by show ns0 + (slots + (τ.2.2 - σ.2.2)) = τ.2.2; omega) hm3 h8
  dsimp only at this
  rw [kt_push_map] at this
  exact this
end KT2
theorem d_cs {own nm : String} {cc : ByteArray} {maxL : Nat} {ret : Option FieldType} {fn ln pc : Nat} {idx y n : Nat} (hw : Cond.methodLink own idx (kt_nm y) ∈ kt_gw) (hw2 : Cond.static (kt_nm y) ∈ kt_gw) (hy : kt_yo y n) (hfn : kt_fn y + 1 ≤ fn) (hl1 : 8 + (kt_mx y + 11) + kt_ln y ≤ ln) (hd : decode cc pc = .ok (.invokestatic idx, 3)) : kt_sa own nm cc maxL ret fn ln pc (s_cs y n (pc + 3)) := by
  intro p l e R s m args below meth c dC dI dA tS B n0 ns0 Q hc hr hlk hnm hfr hln L S σ r h
  obtain ⟨hx, hb, hml, hown, hts, hot, hcap, hB⟩ := hc
  unfold s_cs at h
  split at h
  · rename_i as SS hpop
    cases h1 : Nat.ble (kt_w SS) 8 with
    | false => rw [h1] at h; cases h
    | true =>
      rw [h1] at h
      cases h
      refine kt_pc hB (fun v τ H locs cells slots ls hM hP hwf hls hpre hc1 hc2 => ?_) hot rfl
      obtain ⟨e1, e2⟩ := kt_pop_st (α := kt_al B tS) hpop
      obtain ⟨⟨b1, b2, b3, b4, b5, b6⟩, b7⟩ := kt_back (R := R) (mc := τ.2.1 - σ.2.1) (ms := τ.2.2 - σ.2.2) hts hy (Nat.le_trans hfn hfr) (Nat.le_trans hl1 hln)
      exact va_runS (As := as.map (kt_cv (kt_al B tS))) (rest := SS.map (kt_cv (kt_al B tS))) (Ts := kt_gw) (nL := maxL) (maxL := kt_mx y) (bytes := kt_by y) (ret := kt_rt y) (n := n) ⟨hx, hb, hml, hown, hts⟩ hM ⟨⟨b1, b2, b3, b4, b5, b6, hts _ hy.1, hts _ hy.2.1, hy.2.2.1, b7, hts _ hw⟩, hts _ hw2⟩ ⟨kt_blind, fun U hU hW => ⟨rfl, hpre U hU hW⟩⟩ rfl (by rw [List.length_map]; exact e1) hls e2 (by rw [kt_w_ok]; show 2 * 0 + kt_w SS ≤ 8; have := kt_ble h1; omega) hd ⟨hc1, hc2⟩
  · cases h
theorem d_csN {own nm host : String} {cc : ByteArray} {maxL : Nat} {ret : Option FieldType} {fn ln pc : Nat} {idx y n : Nat} (hw : ∀ (dC : Nat → ClassId) (dI : Nat → Nat → Nat) (dA : Nat → ClassId) (tS : Nat → Nat) (B : Nat) (s : State), kt_ot dC dI dA tS B s → va_Nw (.methodLinkNest own idx (kt_nm y) host) s) (hw2 : Cond.static (kt_nm y) ∈ kt_gw) (hy : kt_yo y n) (hfn : kt_fn y + 1 ≤ fn) (hl1 : 8 + (kt_mx y + 11) + kt_ln y ≤ ln) (hd : decode cc pc = .ok (.invokestatic idx, 3)) : kt_sa own nm cc maxL ret fn ln pc (s_cs y n (pc + 3)) := by
  intro p l e R s m args below meth c dC dI dA tS B n0 ns0 Q hc hr hlk hnm hfr hln L S σ r h
  obtain ⟨hx, hb, hml, hown, hts, hot, hcap, hB⟩ := hc
  unfold s_cs at h
  split at h
  · rename_i as SS hpop
    cases h1 : Nat.ble (kt_w SS) 8 with
    | false => rw [h1] at h; cases h
    | true =>
      rw [h1] at h
      cases h
      refine kt_pc hB (fun v τ H locs cells slots ls hM hP hwf hls hpre hc1 hc2 => ?_) hot rfl
      obtain ⟨e1, e2⟩ := kt_pop_st (α := kt_al B tS) hpop
      obtain ⟨b1, b7⟩ := kt_back (R := R) (mc := τ.2.1 - σ.2.1) (ms := τ.2.2 - σ.2.2) hts hy (Nat.le_trans hfn hfr) (Nat.le_trans hl1 hln)
      exact va_runSN (As := as.map (kt_cv (kt_al B tS))) (rest := SS.map (kt_cv (kt_al B tS))) (Ts := kt_gw) (nL := maxL) (maxL := kt_mx y) (bytes := kt_by y) (ret := kt_rt y) (n := n) ⟨hx, hb, hml, hown, hts⟩ hM ⟨⟨b1, hts _ hy.1, hts _ hy.2.1, hy.2.2.1, b7, va_Nw.use rfl (hw dC dI dA tS B s hot)⟩, hts _ hw2, trivial⟩ ⟨kt_blind, fun U hU hW => ⟨rfl, hpre U hU hW⟩⟩ rfl (by rw [List.length_map]; exact e1) hls e2 (by rw [kt_w_ok]; show 2 * 0 + kt_w SS ≤ 8; have := kt_ble h1; omega) hd ⟨hc1, hc2⟩
  · cases h
theorem d_ci {own nm : String} {cc : ByteArray} {maxL : Nat} {ret : Option FieldType} {fn ln pc : Nat} {idx y n : Nat} (hw : Cond.methodLink own idx (kt_nm y) ∈ kt_gw) (hw2 : Cond.instanceMethod (kt_nm y) ∈ kt_gw) (hin : (kt_nm y).name = "<init>") (hrt : kt_rt y = none) (hy : kt_yo y n) (hfn : kt_fn y + 1 ≤ fn) (hl1 : 8 + (kt_mx y + 11) + kt_ln y ≤ ln) (hd : decode cc pc = .ok (.invokespecial idx, 3)) : kt_sa own nm cc maxL ret fn ln pc (s_ci y n (pc + 3)) := by
  intro p l e R s m args below meth c dC dI dA tS B n0 ns0 Q hc hr hlk hnm hfr hln L S σ r h
  obtain ⟨hx, hb, hml, hown, hts, hot, hcap, hB⟩ := hc
  unfold s_ci at h
  split at h
  · rename_i as a SS hpop
    cases h1 : Nat.ble (kt_w SS) 8 with
    | false => rw [h1] at h; cases h
    | true =>
      rw [h1] at h
      cases h
      refine kt_pc hB (fun v τ H locs cells slots ls hM hP hwf hls hpre hc1 hc2 => ?_) hot rfl
      obtain ⟨e1, e2⟩ := kt_pop_st (α := kt_al B tS) hpop
      obtain ⟨⟨b1, b2, b3, b4, b5, b6⟩, b7⟩ := kt_back (R := R) (mc := τ.2.1 - σ.2.1) (ms := τ.2.2 - σ.2.2) hts hy (Nat.le_trans hfn hfr) (Nat.le_trans hl1 hln)
      have hcd := hts _ hy.1
      rw [hrt] at b6 hcd
      exact va_runI (b := kt_al B tS a) (As := as.map (kt_cv (kt_al B tS))) (rest := SS.map (kt_cv (kt_al B tS))) (Ts := kt_gw) (nL := maxL) (maxL := kt_mx y) (bytes := kt_by y) (n := n) ⟨hx, hb, hml, hown, hts⟩ hM ⟨⟨b1, b2, b3, b4, b5, b6, hcd, hts _ hy.2.1, hy.2.2.1, b7, hts _ hw⟩, hin, hts _ hw2⟩ ⟨kt_blind, fun U hU hW => ⟨rfl, hpre U hU hW⟩⟩ rfl (by rw [List.length_map]; exact e1) hls e2 (by rw [kt_w_ok]; show 2 * 0 + kt_w SS ≤ 8; have := kt_ble h1; omega) hd ⟨hc1, hc2⟩
  · cases h
theorem d_ciN {own nm host : String} {cc : ByteArray} {maxL : Nat} {ret : Option FieldType} {fn ln pc : Nat} {idx y n : Nat} (hw : ∀ (dC : Nat → ClassId) (dI : Nat → Nat → Nat) (dA : Nat → ClassId) (tS : Nat → Nat) (B : Nat) (s : State), kt_ot dC dI dA tS B s → va_Nw (.methodLinkNest own idx (kt_nm y) host) s) (hw2 : Cond.instanceMethod (kt_nm y) ∈ kt_gw) (hin : (kt_nm y).name = "<init>") (hrt : kt_rt y = none) (hy : kt_yo y n) (hfn : kt_fn y + 1 ≤ fn) (hl1 : 8 + (kt_mx y + 11) + kt_ln y ≤ ln) (hd : decode cc pc = .ok (.invokespecial idx, 3)) : kt_sa own nm cc maxL ret fn ln pc (s_ci y n (pc + 3)) := by
  intro p l e R s m args below meth c dC dI dA tS B n0 ns0 Q hc hr hlk hnm hfr hln L S σ r h
  obtain ⟨hx, hb, hml, hown, hts, hot, hcap, hB⟩ := hc
  unfold s_ci at h
  split at h
  · rename_i as a SS hpop
    cases h1 : Nat.ble (kt_w SS) 8 with
    | false => rw [h1] at h; cases h
    | true =>
      rw [h1] at h
      cases h
      refine kt_pc hB (fun v τ H locs cells slots ls hM hP hwf hls hpre hc1 hc2 => ?_) hot rfl
      obtain ⟨e1, e2⟩ := kt_pop_st (α := kt_al B tS) hpop
      obtain ⟨⟨b1, b2, b3, b4, b5, b6⟩, b7⟩ := kt_back (R := R) (mc := τ.2.1 - σ.2.1) (ms := τ.2.2 - σ.2.2) hts hy (Nat.le_trans hfn hfr) (Nat.le_trans hl1 hln)
      have hcd := hts _ hy.1
      rw [hrt] at b6 hcd
      exact va_runIN (b := kt_al B tS a) (As := as.map (kt_cv (kt_al B tS))) (rest := SS.map (kt_cv (kt_al B tS))) (Ts := kt_gw) (nL := maxL) (maxL := kt_mx y) (bytes := kt_by y) (n := n) ⟨hx, hb, hml, hown, hts⟩ hM ⟨⟨⟨b1, b2, b3, b4, b5, b6⟩, hcd, hts _ hy.2.1, hy.2.2.1, b7, va_Nw.use rfl (hw dC dI dA tS B s hot)⟩, hin, hts _ hw2⟩ ⟨kt_blind, fun U hU hW => ⟨rfl, hpre U hU hW⟩⟩ rfl (by rw [List.length_map]; exact e1) hls e2 (by rw [kt_w_ok]; show 2 * 0 + kt_w SS ≤ 8; have := kt_ble h1; omega) hd ⟨hc1, hc2⟩
  · cases h
/-- a virtual call, on a receiver of the class ci, that comes to y: what the words say -/
def kt_vo (own : String) (idx n fn ln ci y : Nat) : Prop := ∃ (q : vw_C) (x : MethodName) (owner : String), vwCl[ci]? = some q ∧ kt_yo y n ∧ kt_fn y + 1 ≤ fn ∧ 8 + (kt_mx y + 11) + kt_ln y ≤ ln ∧ Cond.instanceMethod (kt_nm y) ∈ kt_gw ∧ Cond.methodLink own idx x ∈ kt_gw ∧ Cond.selects q.1 x (kt_nm y) ∈ kt_gw ∧ (parseMethodDescriptor x.desc).map (fun d => d.parameters.length) = some n ∧
  (x = kt_nm y ∨ (Cond.sameMethod x.cls owner x.name x.desc ∈ kt_gw ∧ (owner ≠ "java/lang/invoke/MethodHandle" ∧ owner ≠ "java/lang/invoke/VarHandle") ∧ Cond.instanceMethod ⟨owner, x.name, x.desc⟩ ∈ kt_gw ∧ ∃ b0 m0 r0, Cond.code ⟨owner, x.name, x.desc⟩ b0 m0 r0 ∈ kt_gw))
theorem d_cv {own nm : String} {cc : ByteArray} {maxL : Nat} {ret : Option FieldType} {fn ln pc : Nat} {idx n : Nat} {cs : List (Nat × Nat)} (hv : ∀ z ∈ cs, kt_vo own idx n fn ln z.1 z.2) (hd : decode cc pc = .ok (.invokevirtual idx, 3)) : kt_sa own nm cc maxL ret fn ln pc (s_cv cs n (pc + 3)) := by
  intro p l e R s m args below meth c dC dI dA tS B n0 ns0 Q hc hr hlk hnm hfr hln L S σ r h
  obtain ⟨hx, hb, hml, hown, hts, hot, hcap, hB⟩ := hc
  unfold s_cv at h
  split at h
  · rename_i as a SS hpop
    split at h
    · rename_i ci fs hσ
      split at h
      · rename_i y hlook
        cases h1 : Nat.ble (kt_w SS) 8 with
        | false => rw [h1] at h; cases h
        | true =>
          rw [h1] at h
          cases h
          obtain ⟨q, x, owner, hq, hy, hfn, hl1, hw2, hw, hsel, hlen, hx2⟩ := hv _ (kt_look_ok hlook)
          refine kt_pc hB (fun v τ H locs cells slots ls hM hP hwf hls hpre hc1 hc2 => ?_) hot rfl
          obtain ⟨e1, e2⟩ := kt_pop_st (α := kt_al B tS) hpop
          obtain ⟨⟨b1, b2, b3, b4, b5, b6⟩, b7⟩ := kt_back (R := R) (mc := τ.2.1 - σ.2.1) (ms := τ.2.2 - σ.2.2) hts hy (Nat.le_trans hfn hfr) (Nat.le_trans hl1 hln)
          have hlt : a < σ.2.1 := kt_wf_lt hwf (by rw [hσ]; exact kt_ne hq)
          have hrc := va_recv (D := (dC, dI)) (tys := kt_tys dA) (q0 := a) (ci := ci) (a := kt_al B tS a) (fs := fs.map (kt_cv (kt_al B tS))) hot.2.2.2.1 hP hq (by rw [kt_ws_at _ _ _ _ hlt, hσ]; rfl)
          rcases hx2 with hx2 | ⟨s1, s2, s3, c0, m0, r0, s4⟩
          · subst hx2
            exact va_runV (C := q.1) (b := kt_al B tS a) (As := as.map (kt_cv (kt_al B tS))) (rest := SS.map (kt_cv (kt_al B tS))) (Ts := kt_gw) (nL := maxL) (maxL := kt_mx y) (bytes := kt_by y) (ret := kt_rt y) (n := n) ⟨hx, hb, hml, hown, hts⟩ hM ⟨⟨b1, b2, b3, b4, b5, b6, hts _ hy.1, hts _ hy.2.1, hy.2.2.1, b7, hts _ hw⟩, hts _ hw2, hts _ hsel⟩ ⟨kt_blind, hrc, fun U hU hW => ⟨rfl, hpre U hU hW⟩⟩ rfl (by rw [List.length_map]; exact e1) hls e2 (by rw [kt_w_ok]; show 2 * 0 + kt_w SS ≤ 8; have := kt_ble h1; omega) hd ⟨hc1, hc2⟩
          · exact va_runU (x := x) (C := q.1) (owner := owner) (b := kt_al B tS a) (As := as.map (kt_cv (kt_al B tS))) (rest := SS.map (kt_cv (kt_al B tS))) (Ts := kt_gw) (nL := maxL) (maxL := kt_mx y) (bytes := kt_by y) (ret := kt_rt y) (n := n) ⟨hx, hb, hml, hown, hts⟩ hM ⟨⟨b1, b2, b3, b4, b5, b6⟩, hts _ hy.1, hts _ hy.2.1, s2, (fun sig h => by rw [h] at hlen; exact (Option.some.inj hlen).symm), hts _ hw, hts _ s1, va_Decl.of (hts _ s3) (hts _ s4), hts _ hsel, hts _ hw2⟩ ⟨kt_blind, hrc, fun U hU hW => ⟨rfl, hpre U hU hW⟩⟩ rfl (by rw [List.length_map]; exact e1) hls e2 (by rw [kt_w_ok]; show 2 * 0 + kt_w SS ≤ 8; have := kt_ble h1; omega) hd ⟨hc1, hc2⟩
      · cases h
    · cases h
  · cases h
/-- a call of the superclass's method -/
def kt_uo (own : String) (idx n fn ln ci y : Nat) : Prop := ∃ (q : vw_C), vwCl[ci]? = some q ∧ kt_yo y n ∧ kt_fn y + 1 ≤ fn ∧ 8 + (kt_mx y + 11) + kt_ln y ≤ ln ∧ Cond.instanceMethod (kt_nm y) ∈ kt_gw ∧ Cond.methodLink own idx (kt_nm y) ∈ kt_gw ∧ Cond.sameMethod (kt_nm y).cls (kt_nm y).cls (kt_nm y).name (kt_nm y).desc ∈ kt_gw ∧ Cond.superclass own (kt_nm y).cls ∈ kt_gw ∧ (kt_nm y).name ≠ "<init>"
theorem d_cu {own nm : String} {cc : ByteArray} {maxL : Nat} {ret : Option FieldType} {fn ln pc : Nat} {idx n : Nat} {cs : List (Nat × Nat)} (hv : ∀ z ∈ cs, kt_uo own idx n fn ln z.1 z.2) (hd : decode cc pc = .ok (.invokespecial idx, 3)) : kt_sa own nm cc maxL ret fn ln pc (s_cv cs n (pc + 3)) := by
  intro p l e R s m args below meth c dC dI dA tS B n0 ns0 Q hc hr hlk hnm hfr hln L S σ r h
  obtain ⟨hx, hb, hml, hown, hts, hot, hcap, hB⟩ := hc
  unfold s_cv at h
  split at h
  · rename_i as a SS hpop
    split at h
    · rename_i ci fs hσ
      split at h
      · rename_i y hlook
        cases h1 : Nat.ble (kt_w SS) 8 with
        | false => rw [h1] at h; cases h
        | true =>
          rw [h1] at h
          cases h
          obtain ⟨q, hq, hy, hfn, hl1, hw2, hw, s1, s2, s3⟩ := hv _ (kt_look_ok hlook)
          refine kt_pc hB (fun v τ H locs cells slots ls hM hP hwf hls hpre hc1 hc2 => ?_) hot rfl
          obtain ⟨e1, e2⟩ := kt_pop_st (α := kt_al B tS) hpop
          obtain ⟨b1, b7⟩ := kt_back (R := R) (mc := τ.2.1 - σ.2.1) (ms := τ.2.2 - σ.2.2) hts hy (Nat.le_trans hfn hfr) (Nat.le_trans hl1 hln)
          have hlt : a < σ.2.1 := kt_wf_lt hwf (by rw [hσ]; exact kt_ne hq)
          have hrc := va_recv (D := (dC, dI)) (tys := kt_tys dA) (q0 := a) (ci := ci) (a := kt_al B tS a) (fs := fs.map (kt_cv (kt_al B tS))) hot.2.2.2.1 hP hq (by rw [kt_ws_at _ _ _ _ hlt, hσ]; rfl)
          exact va_runSU (C := q.1) (hot.2.2.2.1.1 ci q hq).2 (b := kt_al B tS a) (As := as.map (kt_cv (kt_al B tS))) (rest := SS.map (kt_cv (kt_al B tS))) (Ts := kt_gw) (nL := maxL) (maxL := kt_mx y) (bytes := kt_by y) (ret := kt_rt y) (n := n) ⟨hx, hb, hml, hown, hts⟩ hM ⟨b1, hts _ hw, hts _ s1, hts _ s2, hts _ hw2, hts _ hy.2.1, hts _ hy.1, s3, b7⟩ ⟨kt_blind, hrc, fun U hU hW => ⟨rfl, hpre U hU hW⟩⟩ rfl (by rw [List.length_map]; exact e1) hls e2 (by rw [kt_w_ok]; show 2 * 0 + kt_w SS ≤ 8; have := kt_ble h1; omega) hd ⟨hc1, hc2⟩
      · cases h
    · cases h
  · cases h
