/-! the model: a word is read, to its end -/
section RX
variable {σ : kt_H} {f : FF} {a : AA} {Q : Option Value → kt_H → Prop}
theorem m_rw_2 (s n m : Nat) (hm : m < 4) (o4 : Int32) (xs : List Int32) (hx : xs.length ≤ 3) {F : FF}
    (h1 : ∀ a2, K8 a a2 m → (∀ q, q < 3 → a2 8 (5 * m + q) = xs.getD q (-9)) → Ev kX12_readsWord (101, [some (.ref 136), some (.int (nI s)), some (.int (nI n)), some (.int (5 * nI m)), some (.int o4), some (.int 0), some (.int (nI 3))], [], mM σ F a2) Q) :
    ∀ (e x : Nat) (a2 : AA), x + e = 3 → xs.length ≤ x → K8 a a2 m → (∀ q, q < x → a2 8 (5 * m + q) = xs.getD q (-9)) → Ev kX12_readsWord (if 3 ≤ nI x then 101 else 84, [some (.ref 136), some (.int (nI s)), some (.int (nI n)), some (.int (5 * nI m)), some (.int o4), some (.int 0), some (.int (nI x))], [], mM σ F a2) Q := by
  intro e
  induction e with
  | zero =>
    intro x a2 he hl hK hc
    have e : x = 3 := by omega
    subst e
    exact Ev_if (fun _ => h1 a2 hK hc) (fun g => absurd (nI_le (a := 3) (by omega) (by omega)) g)
  | succ e ih =>
    intro x a2 he hl hK hc
    refine Ev_if (fun g2 => absurd g2 (nI_ge (b := 3) (by omega) (by omega))) (fun _ => ?_)
    repeat refine Ev_go rfl ?_
    refine Ev_mst 8 (5 * m + x) rfl (fun _ => rfl) (ix5 m x) (by omega) (by decide) ?_
    repeat refine Ev_go rfl ?_
    rw [nI_1]
    refine ih (x + 1) _ (by omega) (by omega) (hK.st (by omega) _) (fun q hq => ?_)
    rw [va_up_s]
    by_cases e : q = x
    · subst e
      rw [pk_us, List.getD, List.getElem?_eq_none (by omega)]
      rfl
    · rw [pk_un (by omega)]
      exact hc q (by omega)
theorem wd3 {a2 : AA} {m : Nat} {xs : List Int32} {d l : Int32} (d' : Int32) (h : ∀ q, q < 5 → a2 8 (5 * m + q) = wdC xs d l q) (q : Nat) (hq : q < 5) : va_up a2 8 (upd (a2 8) (5 * m + 3) d') 8 (5 * m + q) = wdC xs d' l q := by
  rw [va_up_s]
  by_cases e : q = 3
  · subst e; rw [pk_us]; rfl
  · rw [pk_un (by omega), h q hq]
    unfold wdC
    rw [if_neg e, if_neg e]
theorem wd4 {a2 : AA} {m : Nat} {xs : List Int32} {d l : Int32} (l' : Int32) (h : ∀ q, q < 5 → a2 8 (5 * m + q) = wdC xs d l q) (q : Nat) (hq : q < 5) : va_up a2 8 (upd (a2 8) (5 * m + 4) l') 8 (5 * m + q) = wdC xs d l' q := by
  rw [va_up_s]
  by_cases e : q = 4
  · subst e; rw [pk_us]; rfl
  · rw [pk_un (by omega), h q hq]
    unfold wdC
    by_cases e3 : q < 3
    · rw [if_pos e3, if_pos e3]
    · have : q = 3 := by omega
      subst this
      rfl
theorem wd0 {a2 : AA} {m : Nat} {xs : List Int32} (h : ∀ q, q < 3 → a2 8 (5 * m + q) = xs.getD q (-9)) (q : Nat) (hq : q < 5) : va_up (va_up a2 8 (upd (a2 8) (5 * m + 3) 1)) 8 (upd (va_up a2 8 (upd (a2 8) (5 * m + 3) 1) 8) (5 * m + 4) (-9)) 8 (5 * m + q) = wdC xs 1 (-9) q := by
  rw [va_up_s, va_up_s]
  unfold wdC
  by_cases e : q < 3
  · rw [if_pos e, pk_un (by omega), pk_un (by omega), h q e]
  · rw [if_neg e]
    by_cases e3 : q = 3
    · subst e3
      rw [pk_un (by omega), pk_us]; rfl
    · have : q = 4 := by omega
      subst this
      rw [pk_us]; rfl
theorem nuI_neg {c : Nat → Int32} {n p : Nat} (h : nuI c n 3 p < 0) : (nmI c n 3 p 0).1 = p := by
  have hl := nmI_le c n 3 p 0
  unfold nuI at h
  split at h
  · have := nmI_v c n 3 p 0 0 (by decide) ⟨by decide, by decide⟩
    rw [fa_lt] at h
    exact absurd h (by show ¬ _ < (0 : Int); omega)
  · omega
theorem m_readsWord {c : Nat → Int32} (s n m p : Nat) (hs : s + n ≤ 240) (hm : m < 4) (hp : p < 700) (hc : (fun x => a 12 (s + x)) = c) (hf : f 14 = nI m)
    (h0 : ∀ e a2, pWd c n p = .inl e → K8 a a2 m → Q (some (.int 0)) (mM σ (va_up f 13 (nI e)) a2))
    (h1 : ∀ p' xs d l a2, pWd c n p = .inr (p', xs, d, l) → p' ≤ p + 16 → K8 a a2 m → (∀ q, q < 5 → a2 8 (5 * m + q) = wdC xs d l q) → Q (some (.int 1)) (mM σ (va_up (va_up f 13 (nI p')) 14 (nI (m + 1))) a2)) : Cs nX12_readsWord [.ref 136, .int (nI s), .int (nI n)] (mM σ (va_up f 13 (nI p)) a) Q := by
  unfold pWd at h0 h1
  refine Cs_in (k := kX12_readsWord) [some (.ref 136), some (.int (nI s)), some (.int (nI n)), none, none, none, none] rfl rfl ?_
  iterate 11 refine Ev_go rfl ?_
  rw [show va_up f 13 (nI p) 14 = nI m from hf]
  refine m_rw_1 (f := f) s n m hs hm hc p hp (ftI c n 3 p) (fun e a2 he hK => ?_) (fun p1 xs a2 he hp1 hxl hK hcl => ?_) 2 p a [] _ rfl (by omega) ⟨fun _ _ => rfl, fun _ _ => rfl⟩ (fun q hq => absurd hq (Nat.not_lt_zero q)) ?_
  · rw [he] at h0
    exact h0 e a2 rfl hK
  rotate_left
  · cases ftI c n (2 + 1) p with
    | inl e => rfl
    | inr r => rfl
  rw [he] at h0 h1
  dsimp only at h0 h1
  refine m_rw_2 (a := a) s n m hm _ xs hxl (fun a3 hK3 hc3 => ?_) (3 - xs.length) xs.length a2 (by omega) (Nat.le_refl _) hK hcl
  have t218 : ∀ (p3 : Nat) (d l : Int32) (a5 : AA) (o6 : Option Value), (∀ a2, K8 a a2 m → (∀ q, q < 5 → a2 8 (5 * m + q) = wdC xs d l q) → Q (some (.int 1)) (mM σ (va_up (va_up f 13 (nI p3)) 14 (nI (m + 1))) a2)) → K8 a a5 m → (∀ q, q < 5 → a5 8 (5 * m + q) = wdC xs d l q) → Ev kX12_readsWord (218, [some (.ref 136), some (.int (nI s)), some (.int (nI n)), some (.int (5 * nI m)), some (.int (nI xs.length)), some (.int 0), o6], [], mM σ (va_up f 13 (nI p3)) a5) Q := by
    intro p3 d l a5 o6 h hK5 hc5
    repeat refine Ev_go rfl ?_
    refine Ev_mo (va_up (va_up f 13 (nI p3)) 14 (nI (m + 1))) ?_ (by rw [← nI_1, ← hf]; rfl)
    repeat refine Ev_go rfl ?_
    refine Ev_rt rfl ?_
    exact h a5 hK5 hc5
  have t179 : ∀ (p2 : Nat) (d : Int32) (a4 : AA) (o6 : Option Value), p2 ≤ p1 + 2 → dvI c n p1 = .inr (p2, d) → K8 a a4 m → (∀ q, q < 5 → a4 8 (5 * m + q) = wdC xs d (-9) q) → Ev kX12_readsWord (179, [some (.ref 136), some (.int (nI s)), some (.int (nI n)), some (.int (5 * nI m)), some (.int (nI xs.length)), some (.int 0), o6], [], mM σ (va_up f 13 (nI p2)) a4) Q := by
    intro p2 d a4 o6 hp2 hd hK4 hc4
    rw [hd] at h0 h1
    dsimp only at h0 h1
    have hcc : (fun x => a4 12 (s + x)) = c := by rw [hK4.1 12 (by decide)]; exact hc
    repeat refine Ev_go rfl ?_
    refine Ev_ca rfl ?_
    refine m_takes s n p2 hcc hs (by omega) 60 (fun g => ?_) (fun g => ?_)
    · repeat refine Ev_go rfl ?_
      refine Ev_ca rfl ?_
      refine m_number s n (p2 + 1) 3 hcc hs (by omega) (by decide) ?_
      refine Ev_mst 8 (5 * m + 4) rfl (fun _ => rfl) (ix5 m 4) (by omega) (by decide) ?_
      repeat refine Ev_go rfl ?_
      refine Ev_ial (5 * m + 4) rfl rfl (ix5 m 4) (by omega) (by decide) ?_
      rw [va_up_s, pk_us]
      repeat refine Ev_go rfl ?_
      refine Ev_if (fun g2 => ?_) (fun g2 => ?_)
      · have e : liI c n p2 = .inr ((nmI c n 3 (p2 + 1) 0).1, nuI c n 3 (p2 + 1)) := by
          unfold liI
          rw [if_pos g, if_neg (fun e => by rw [fa_lt] at e; rw [fa_le] at g2; omega)]
        have hl := nmI_le c n 3 (p2 + 1) 0
        refine t218 _ d _ _ _ (fun a6 k6 c6 => ?_) (hK4.st (by omega) _) (wd4 _ hc4)
        rw [e] at h1
        exact h1 _ _ _ _ a6 rfl (by omega) k6 c6
      · have e : liI c n p2 = .inl (nmI c n 3 (p2 + 1) 0).1 := by
          unfold liI
          rw [if_pos g, if_pos (by rw [fa_lt]; rw [fa_le] at g2; omega)]
        rw [e] at h0
        repeat refine Ev_go rfl ?_
        refine Ev_rt rfl ?_
        exact h0 _ _ rfl (hK4.st (by omega) _)
    · have e : liI c n p2 = .inr (p2, -9) := by
        unfold liI
        rw [if_neg g]
      rw [e] at h1
      iterate 1 refine Ev_go rfl ?_
      refine t218 p2 d (-9) a4 _ (fun a6 k6 c6 => ?_) hK4 hc4
      exact h1 _ _ _ _ a6 rfl (by omega) k6 c6
  repeat refine Ev_go rfl ?_
  refine Ev_mst 8 (5 * m + 3) rfl (fun _ => rfl) (ix5 m 3) (by omega) (by decide) ?_
  repeat refine Ev_go rfl ?_
  refine Ev_mst 8 (5 * m + 4) rfl (fun _ => rfl) (ix5 m 4) (by omega) (by decide) ?_
  have hK4 : K8 a (va_up (va_up a3 8 (upd (a3 8) (5 * m + 3) 1)) 8 (upd (va_up a3 8 (upd (a3 8) (5 * m + 3) 1) 8) (5 * m + 4) (-9))) m := (hK3.st (by omega) _).st (by omega) _
  have hc4 := wd0 hc3
  generalize va_up (va_up a3 8 (upd (a3 8) (5 * m + 3) 1)) 8 (upd (va_up a3 8 (upd (a3 8) (5 * m + 3) 1) 8) (5 * m + 4) (-9)) = a4 at hK4 hc4 ⊢
  have hcc : (fun x => a4 12 (s + x)) = c := by rw [hK4.1 12 (by decide)]; exact hc
  repeat refine Ev_go rfl ?_
  refine Ev_ca rfl ?_
  refine m_takes s n p1 hcc hs (by omega) 47 (fun g => ?_) (fun g => ?_)
  · repeat refine Ev_go rfl ?_
    refine Ev_ca rfl ?_
    refine m_codeAt s n (p1 + 1) hcc hs (by omega) ?_
    repeat refine Ev_go rfl ?_
    refine Ev_ca rfl ?_
    refine m_in (cd c n (p1 + 1) - 48).toInt 2 9 (fa_wide _) rfl rfl ?_
    repeat refine Ev_go rfl ?_
    refine Ev_ifb (fun g2 => ?_) (fun g2 => ?_)
    · have e : dvI c n p1 = .inl (p1 + 1) := by
        unfold dvI
        rw [if_pos g, if_neg g2]
      rw [e] at h0
      repeat refine Ev_go rfl ?_
      refine Ev_rt rfl ?_
      exact h0 _ _ rfl hK4
    · have e : dvI c n p1 = .inr (p1 + 2, cd c n (p1 + 1) - 48) := by
        unfold dvI
        rw [if_pos g, if_pos g2]
      repeat refine Ev_go rfl ?_
      refine Ev_mo (va_up f 13 (nI (p1 + 2))) ?_ (by rw [← nI_1 (p1 + 1)]; rfl)
      repeat refine Ev_go rfl ?_
      refine Ev_mst 8 (5 * m + 3) rfl (fun _ => rfl) (ix5 m 3) (by omega) (by decide) ?_
      exact t179 _ _ _ _ (by omega) e (hK4.st (by omega) _) (wd3 _ hc4)
  · have e : dvI c n p1 = .inr (p1, 1) := by
      unfold dvI
      rw [if_neg g]
    iterate 1 refine Ev_go rfl ?_
    exact t179 _ _ _ _ (by omega) e hK4 hc4
end RX
