/-! the component: what a hull tells -/
section XT
variable {σ : kt_H} {Q : Option Value → kt_H → Prop} {o : Nat} {kd : Int32}
abbrev trO (σ : kt_H) (t : Int32) : kt_H := kt_put σ 37 (kt_ob 9 [.int t])
theorem x_leave (t x : Int32) (hq : Q none (trO σ (trc t x))) : Cs nX9_leave [.ref 37, .int x] (trO σ t) Q := by
  refine Cs_in (k := kX9_leave) [some (.ref 37), some (.int x)] rfl rfl ?_
  repeat refine Ev_go rfl ?_
  rw [kt_put_put]
  refine Ev_rt rfl ?_
  exact hq
theorem x_toldAsHull {fs : List Value} {n : Int32} (t : Int32) (ho : σ.1 o = kt_ob (cK kd) fs) (hf : kt_nth fs 2 = some (.int n)) (hk : isKd kd) (h37 : o ≠ 37) (hq : Q (some (.int n)) (trO σ (trc t 1))) : Cs nX2_toldAsHull [.ref o, .ref 37] (trO σ t) Q := by
  have hm := cK_m hk
  have h : ∀ c, (kt_put σ 37 c).1 o = kt_ob (cK kd) fs := fun c => by rw [kt_put_n _ _ h37]; exact ho
  have h9 : ∀ t, (trO σ t).1 37 = kt_ob 9 [.int t] := fun t => kt_put_s _ _ _
  refine Cs_in (k := kX2_toldAsHull) [some (.ref o), some (.ref 37)] rfl rfl ?_
  repeat refine Ev_go rfl ?_
  refine Ev_cv rfl rfl (h9 t) rfl rfl ?_
  refine x_leave _ _ ?_
  repeat refine Ev_go rfl ?_
  refine Ev_gf rfl (h _) hm hf ?_
  refine Ev_rt rfl ?_
  exact hq
theorem x_told2 {fs : List Value} {n : Int32} (t : Int32) (ho : σ.1 o = kt_ob (cK kd) fs) (hf : kt_nth fs 2 = some (.int n)) (hk : isKd kd) (h37 : o ≠ 37) (hq : Q (some (.int n)) (trO σ (trc t 1))) : Cs nX2_told [.ref o, .ref 37] (trO σ t) Q := by
  have h : ∀ c, (kt_put σ 37 c).1 o = kt_ob (cK kd) fs := fun c => by rw [kt_put_n _ _ h37]; exact ho
  refine Cs_in (k := kX2_told) [some (.ref o), some (.ref 37)] rfl rfl ?_
  repeat refine Ev_go rfl ?_
  refine Ev_cv rfl rfl (h _) (y := nX2_toldAsHull) (by rcases hk with e | e | e <;> subst e <;> rfl) rfl ?_
  refine x_toldAsHull t ho hf hk h37 ?_
  refine Ev_rt rfl ?_
  exact hq
theorem x_told1 {fs : List Value} {n : Int32} (t : Int32) (ho : σ.1 o = kt_ob (cK kd) fs) (hf : kt_nth fs 2 = some (.int n)) (hk : kd = 1 ∨ kd = 2) (h37 : o ≠ 37) (hq : Q (some (.int (n + 100))) (trO σ (trc (trc t 2) 1))) : Cs nX1_told [.ref o, .ref 37] (trO σ t) Q := by
  have h : ∀ c, (kt_put σ 37 c).1 o = kt_ob (cK kd) fs := fun c => by rw [kt_put_n _ _ h37]; exact ho
  have h9 : ∀ t, (trO σ t).1 37 = kt_ob 9 [.int t] := fun t => kt_put_s _ _ _
  refine Cs_in (k := kX1_told) [some (.ref o), some (.ref 37)] rfl rfl ?_
  repeat refine Ev_go rfl ?_
  refine Ev_cv rfl rfl (h9 t) rfl rfl ?_
  refine x_leave _ _ ?_
  repeat refine Ev_go rfl ?_
  refine Ev_cv rfl rfl (h _) (y := nX2_told) (by rcases hk with e | e <;> subst e <;> rfl) rfl ?_
  refine x_told2 _ ho hf (Or.inr hk) h37 ?_
  repeat refine Ev_go rfl ?_
  refine Ev_rt rfl ?_
  exact hq
theorem x_told6 {fs : List Value} {n : Int32} (t : Int32) (ho : σ.1 o = kt_ob (cK kd) fs) (hf : kt_nth fs 2 = some (.int n)) (hk : kd = 2) (h37 : o ≠ 37) (hq : Q (some (.int (n + 100 + n))) (trO σ (trc (trc (trc (trc t 3) 2) 1) 1))) : Cs nX6_told [.ref o, .ref 37] (trO σ t) Q := by
  have h : ∀ c, (kt_put σ 37 c).1 o = kt_ob (cK kd) fs := fun c => by rw [kt_put_n _ _ h37]; exact ho
  have h9 : ∀ t, (trO σ t).1 37 = kt_ob 9 [.int t] := fun t => kt_put_s _ _ _
  refine Cs_in (k := kX6_told) [some (.ref o), some (.ref 37), none] rfl rfl ?_
  repeat refine Ev_go rfl ?_
  refine Ev_cv rfl rfl (h9 t) rfl rfl ?_
  refine x_leave _ _ ?_
  repeat refine Ev_go rfl ?_
  refine Ev_cv rfl rfl (h _) (y := nX1_told) (by subst hk; rfl) rfl ?_
  refine x_told1 _ ho hf (Or.inr hk) h37 ?_
  repeat refine Ev_go rfl ?_
  refine Ev_cv rfl rfl (h _) (y := nX2_toldAsHull) (by subst hk; rfl) rfl ?_
  refine x_toldAsHull _ ho hf (Or.inr (Or.inr hk)) h37 ?_
  repeat refine Ev_go rfl ?_
  refine Ev_rt rfl ?_
  exact hq
def tdI (kd n : Int32) : Int32 := if kd = 2 then 2 * n + 100 else if kd = 1 then n + 100 else n
def tdT (kd t : Int32) : Int32 := if kd = 2 then trc (trc (trc (trc t 3) 2) 1) 1 else if kd = 1 then trc (trc t 2) 1 else trc t 1
theorem Ev_told {k : Nat → kt_S} {pc nx : Nat} {L : kt_L} {S : List Value} {fs : List Value} {n t : Int32} (hk : k pc = s_cv [(2, 14), (1, 6), (6, 39)] 1 nx) (hw : Nat.ble (kt_w S) 8 = true) (h9 : σ.1 37 = kt_ob 9 [.int t]) (ho : σ.1 o = kt_ob (cK kd) fs) (hf : kt_nth fs 2 = some (.int n)) (hkd : isKd kd) (h37 : o ≠ 37) (hq : Ev k (nx, L, .int (tdI kd n) :: S, trO σ (tdT kd t)) Q) : Ev k (pc, L, .ref 37 :: .ref o :: S, σ) Q := by
  rcases hkd with e | e | e
  · subst e
    refine Ev_cv (as := [.ref 37]) (S' := S) hk rfl ho (y := nX2_told) rfl hw ?_
    rw [← kt_put_id σ 37 _ h9]
    exact x_told2 t ho hf (Or.inl rfl) h37 hq
  · subst e
    refine Ev_cv (as := [.ref 37]) (S' := S) hk rfl ho (y := nX1_told) rfl hw ?_
    rw [← kt_put_id σ 37 _ h9]
    exact x_told1 t ho hf (Or.inl rfl) h37 hq
  · subst e
    refine Ev_cv (as := [.ref 37]) (S' := S) hk rfl ho (y := nX6_told) rfl hw ?_
    rw [← kt_put_id σ 37 _ h9]
    refine x_told6 t ho hf rfl h37 ?_
    rw [show n + 100 + n = tdI 2 n by
      show n + 100 + n = 2 * n + 100
      rw [show (2 : Int32) = 1 + 1 from rfl, Int32.add_mul, Int32.one_mul, Int32.add_assoc, Int32.add_comm 100 n, Int32.add_assoc]]
    exact hq
theorem x_launched2 {fs : List Value} {num : Int32} (t : Int32) (ho : σ.1 o = kt_ob (cK kd) fs) (hf : kt_nth fs 0 = some (.int num)) (hk : isKd kd) (h37 : o ≠ 37) (hq : Q (some (.int num)) (trO σ (trc t 4))) : Cs nX2_launched [.ref o, .ref 37] (trO σ t) Q := by
  have hm := cK_m hk
  have h : ∀ c, (kt_put σ 37 c).1 o = kt_ob (cK kd) fs := fun c => by rw [kt_put_n _ _ h37]; exact ho
  have h9 : ∀ t, (trO σ t).1 37 = kt_ob 9 [.int t] := fun t => kt_put_s _ _ _
  refine Cs_in (k := kX2_launched) [some (.ref o), some (.ref 37)] rfl rfl ?_
  repeat refine Ev_go rfl ?_
  refine Ev_cv rfl rfl (h9 t) rfl rfl ?_
  refine x_leave _ _ ?_
  repeat refine Ev_go rfl ?_
  refine Ev_gf rfl (h _) hm hf ?_
  refine Ev_rt rfl ?_
  exact hq
theorem x_launched6 (t : Int32) (hq : Q (some (.int 90)) (trO σ (trc t 5))) : Cs nX6_launched [.ref o, .ref 37] (trO σ t) Q := by
  have h9 : ∀ t, (trO σ t).1 37 = kt_ob 9 [.int t] := fun t => kt_put_s _ _ _
  refine Cs_in (k := kX6_launched) [some (.ref o), some (.ref 37)] rfl rfl ?_
  repeat refine Ev_go rfl ?_
  refine Ev_cv rfl rfl (h9 t) rfl rfl ?_
  refine x_leave _ _ ?_
  repeat refine Ev_go rfl ?_
  refine Ev_rt rfl ?_
  exact hq
theorem Ev_launched {k : Nat → kt_S} {pc nx : Nat} {L : kt_L} {S : List Value} {fs : List Value} {num t : Int32} (hk : k pc = s_cv [(2, 16), (1, 16), (6, 40)] 1 nx) (hw : Nat.ble (kt_w S) 8 = true) (h9 : σ.1 37 = kt_ob 9 [.int t]) (ho : σ.1 o = kt_ob (cK kd) fs) (hf : kt_nth fs 0 = some (.int num)) (hkd : isKd kd) (h37 : o ≠ 37) (hq : Ev k (nx, L, .int (if kd = 2 then 90 else num) :: S, trO σ (trc t (if kd = 2 then 5 else 4))) Q) : Ev k (pc, L, .ref 37 :: .ref o :: S, σ) Q := by
  rcases hkd with e | e | e
  · subst e
    refine Ev_cv (as := [.ref 37]) (S' := S) hk rfl ho (y := nX2_launched) rfl hw ?_
    rw [← kt_put_id σ 37 _ h9]
    exact x_launched2 t ho hf (Or.inl rfl) h37 hq
  · subst e
    refine Ev_cv (as := [.ref 37]) (S' := S) hk rfl ho (y := nX2_launched) rfl hw ?_
    rw [← kt_put_id σ 37 _ h9]
    exact x_launched2 t ho hf (Or.inr (Or.inl rfl)) h37 hq
  · subst e
    refine Ev_cv (as := [.ref 37]) (S' := S) hk rfl ho (y := nX6_launched) rfl hw ?_
    rw [← kt_put_id σ 37 _ h9]
    exact x_launched6 t hq
theorem Ev_kind {k : Nat → kt_S} {pc nx : Nat} {L : kt_L} {S : List Value} {fs : List Value} (hk : k pc = s_cv [(2, 8), (1, 4), (6, 37)] 0 nx) (hw : Nat.ble (kt_w S) 8 = true) (ho : σ.1 o = kt_ob (cK kd) fs) (hkd : isKd kd) (hq : Ev k (nx, L, .int kd :: S, σ) Q) : Ev k (pc, L, .ref o :: S, σ) Q := by
  rcases hkd with e | e | e
  · subst e
    refine Ev_cv (as := []) (S' := S) hk rfl ho (y := nX2_kindNumber) rfl hw ?_
    refine Cs_in (k := kX2_kindNumber) [some (.ref o)] rfl rfl ?_
    repeat refine Ev_go rfl ?_
    refine Ev_rt rfl ?_
    exact hq
  · subst e
    refine Ev_cv (as := []) (S' := S) hk rfl ho (y := nX1_kindNumber) rfl hw ?_
    refine Cs_in (k := kX1_kindNumber) [some (.ref o)] rfl rfl ?_
    repeat refine Ev_go rfl ?_
    refine Ev_rt rfl ?_
    exact hq
  · subst e
    refine Ev_cv (as := []) (S' := S) hk rfl ho (y := nX6_kindNumber) rfl hw ?_
    refine Cs_in (k := kX6_kindNumber) [some (.ref o)] rfl rfl ?_
    repeat refine Ev_go rfl ?_
    refine Ev_rt rfl ?_
    exact hq
theorem x_hasStation {num : Int32} {p m n : Nat} (ho : σ.1 o = kt_ob (cK kd) [.int num, .ref p, .int (nI n), .ref m]) (hkd : isKd kd) (hn : n ≤ 8) (x : Int32) (hq : Q (some (.int (bI (0 ≤ x.toInt ∧ x.toInt ≤ (n : Int) - 1)))) σ) : Cs nX2_hasStation [.ref o, .int x] σ Q := by
  have hm := cK_m hkd
  have tn := nI_toInt (n := n) (by omega)
  have t0 : (0 : Int32).toInt = 0 := rfl
  refine Cs_in (k := kX2_hasStation) [some (.ref o), some (.int x)] rfl rfl ?_
  repeat refine Ev_go rfl ?_
  refine Ev_if (fun g => ?_) (fun g => ?_)
  · rw [bI_f (by rw [fa_lt] at g; omega)] at hq
    repeat refine Ev_go rfl ?_
    refine Ev_rt rfl ?_
    exact hq
  · repeat refine Ev_go rfl ?_
    refine Ev_gf rfl ho hm rfl ?_
    repeat refine Ev_go rfl ?_
    refine Ev_if (fun g2 => ?_) (fun g2 => ?_)
    · rw [bI_f (by rw [fa_le] at g2; omega)] at hq
      repeat refine Ev_go rfl ?_
      refine Ev_rt rfl ?_
      exact hq
    · rw [bI_t (by rw [fa_lt] at g; rw [fa_le] at g2; omega)] at hq
      repeat refine Ev_go rfl ?_
      refine Ev_rt rfl ?_
      exact hq
end XT
