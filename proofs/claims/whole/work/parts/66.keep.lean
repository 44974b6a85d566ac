/-! what the tables' numbers are, stays so -/
section KP
variable {f f2 : FF} {a a2 : AA} {σ τ : kt_H}
theorem I_sheet (hI : Inv f a) (k lane n : Int32) : Inv (sp_sheet f a k lane n).2.1 (sp_sheet f a k lane n).2.2 := by
  unfold sp_sheet
  split
  · exact hI
  · split
    · exact hI
    · split
      · exact hI
      · rename_i h1 h2 h3
        obtain ⟨A, B, C, D⟩ := hI
        refine ⟨A, B, C, fun k' hk' => ?_⟩
        have hl : is2 lane := Decidable.byContradiction (fun z => h2 (Or.inl z))
        by_cases e : k' = nC k
        · subst e
          show (-1 ≤ (upd (a 10) (nC k) n (nC k)).toInt ∧ (upd (a 10) (nC k) n (nC k)).toInt ≤ 60) ∧ (0 ≤ (upd (a 11) (nC k) lane (nC k)).toInt ∧ (upd (a 11) (nC k) lane (nC k)).toInt ≤ 2)
          rw [pk_us, pk_us]
          exact ⟨by omega, hl⟩
        · show (-1 ≤ (upd (a 10) (nC k) n k').toInt ∧ (upd (a 10) (nC k) n k').toInt ≤ 60) ∧ (0 ≤ (upd (a 11) (nC k) lane k').toInt ∧ (upd (a 11) (nC k) lane k').toInt ≤ 2)
          rw [pk_un e, pk_un e]
          exact D k' hk'
theorem I_lose (hI : Inv f a) (k : Int32) : Inv f (sp_lose a k).2 := by
  unfold sp_lose
  split
  · exact hI
  · obtain ⟨A, B, C, D⟩ := hI
    refine ⟨A, B, C, fun k' hk' => ?_⟩
    by_cases e : k' = nC k
    · subst e
      show (-1 ≤ (upd (a 10) (nC k) (-1) (nC k)).toInt ∧ (upd (a 10) (nC k) (-1) (nC k)).toInt ≤ 60) ∧ (0 ≤ (a 11 (nC k)).toInt ∧ (a 11 (nC k)).toInt ≤ 2)
      rw [pk_us]
      exact ⟨by decide, (D _ hk').2⟩
    · show (-1 ≤ (upd (a 10) (nC k) (-1) k').toInt ∧ (upd (a 10) (nC k) (-1) k').toInt ≤ 60) ∧ (0 ≤ (a 11 k').toInt ∧ (a 11 k').toInt ≤ 2)
      rw [pk_un e]
      exact D k' hk'
theorem I_put (hI : Inv f a) (k i v : Int32) : Inv (sp_put f a k i v).2.1 (sp_put f a k i v).2.2 := by
  unfold sp_put
  split
  · exact hI
  · split
    · exact hI
    · exact hI
theorem I_cell (hI : Inv f a) (k i lane : Int32) : Inv (sp_cell f a k i lane).2 a := by
  unfold sp_cell
  split
  · exact hI
  · split
    · exact hI
    · split
      · exact hI
      · exact hI
theorem I_copy (hI : Inv f a) (k i o j n : Int32) : Inv (sp_copy f a k i o j n).2.1 (sp_copy f a k i o j n).2.2 := by
  unfold sp_copy
  split
  · exact hI
  · split
    · exact hI
    · split
      · exact hI
      · split
        · exact hI
        · exact hI
theorem I_as (hI : Inv f a) (h kind : Int32) : Inv (sp_as f a h kind).2 a := by
  unfold sp_as
  split
  · exact hI
  · split
    · exact hI
    · split
      · exact hI
      · exact hI
theorem I_tell (hI : Inv f a) (h : Int32) : Inv (sp_tell f a h).2 a := by
  unfold sp_tell
  split
  · exact hI
  · split
    · exact hI
    · split
      · exact hI
      · exact hI
theorem I_launch (hI : Inv f a) (h : Int32) : Inv (sp_launch f a h).2 a := by
  unfold sp_launch
  split
  · exact hI
  · split
    · exact hI
    · exact hI
theorem I_need (hI : Inv f a) (what v : Int32) : Inv f (sp_need a what v).2 := by
  unfold sp_need
  split
  · exact hI
  · split
    · exact hI
    · rename_i h1 h2
      have h1 := Decidable.not_not.mp h1
      have h2 := Decidable.not_not.mp h2
      obtain ⟨w, w1, w2, rfl⟩ := nI_ex 5 h1
      rw [show nC (nI w) = w from nI_clamp (by omega)]
      obtain ⟨A, B, C, D⟩ := hI
      refine ⟨A, B, ?_, D⟩
      show ((0 ≤ (upd (a 9) w v 0).toInt ∧ (upd (a 9) w v 0).toInt ≤ 8) ∧ (0 ≤ (upd (a 9) w v 1).toInt ∧ (upd (a 9) w v 1).toInt ≤ 8) ∧ (1 ≤ (upd (a 9) w v 2).toInt ∧ (upd (a 9) w v 2).toInt ≤ 9) ∧ (0 ≤ (upd (a 9) w v 3).toInt ∧ (upd (a 9) w v 3).toInt ≤ 999) ∧ (0 ≤ (upd (a 9) w v 4).toInt ∧ (upd (a 9) w v 4).toInt ≤ 9) ∧ (1 ≤ (upd (a 9) w v 5).toInt ∧ (upd (a 9) w v 5).toInt ≤ 99))
      obtain ⟨C0, C1, C2, C3, C4, C5⟩ := C
      have hw : w = 0 ∨ w = 1 ∨ w = 2 ∨ w = 3 ∨ w = 4 ∨ w = 5 := by omega
      rcases hw with rfl | rfl | rfl | rfl | rfl | rfl
      · rw [pk_us, pk_un (by decide), pk_un (by decide), pk_un (by decide), pk_un (by decide), pk_un (by decide)]
        exact ⟨h2, C1, C2, C3, C4, C5⟩
      · rw [pk_us, pk_un (by decide), pk_un (by decide), pk_un (by decide), pk_un (by decide), pk_un (by decide)]
        exact ⟨C0, h2, C2, C3, C4, C5⟩
      · rw [pk_us, pk_un (by decide), pk_un (by decide), pk_un (by decide), pk_un (by decide), pk_un (by decide)]
        exact ⟨C0, C1, h2, C3, C4, C5⟩
      · rw [pk_us, pk_un (by decide), pk_un (by decide), pk_un (by decide), pk_un (by decide), pk_un (by decide)]
        exact ⟨C0, C1, C2, h2, C4, C5⟩
      · rw [pk_us, pk_un (by decide), pk_un (by decide), pk_un (by decide), pk_un (by decide), pk_un (by decide)]
        exact ⟨C0, C1, C2, C3, h2, C5⟩
      · rw [pk_us, pk_un (by decide), pk_un (by decide), pk_un (by decide), pk_un (by decide), pk_un (by decide)]
        exact ⟨C0, C1, C2, C3, C4, h2⟩
theorem I_build (hI : Inv f a) (h k what v : Int32) : Inv f (sp_build f a h k what v).2 := by
  unfold sp_build
  split
  · exact hI
  · split
    · exact hI
    · rename_i h1 h2
      have hv : 1 ≤ v.toInt ∧ v.toInt ≤ 9 := Decidable.byContradiction (fun z => h2 (Or.inr z))
      obtain ⟨⟨hc, hc16, hf, hall⟩, B, C, D⟩ := hI
      split
      · refine ⟨⟨hc, hc16, hf, fun h' hh => ?_⟩, B, C, D⟩
        obtain ⟨k0, n, n1, n8, na, nx⟩ := hall h' hh
        refine ⟨k0, n, n1, n8, na, fun x hx => ⟨?_, (nx x hx).2⟩⟩
        show 1 ≤ (upd (a 2) (8 * nC h + nC k) v (8 * h' + x)).toInt ∧ (upd (a 2) (8 * nC h + nC k) v (8 * h' + x)).toInt ≤ 9
        by_cases e : 8 * h' + x = 8 * nC h + nC k
        · rw [e, pk_us]; exact hv
        · rw [pk_un e]; exact (nx x hx).1
      · refine ⟨⟨hc, hc16, hf, fun h' hh => ?_⟩, B, C, D⟩
        obtain ⟨k0, n, n1, n8, na, nx⟩ := hall h' hh
        refine ⟨k0, n, n1, n8, na, fun x hx => ⟨(nx x hx).1, ?_⟩⟩
        show 1 ≤ (upd (a 3) (8 * nC h + nC k) v (8 * h' + x)).toInt ∧ (upd (a 3) (8 * nC h + nC k) v (8 * h' + x)).toInt ≤ 9
        by_cases e : 8 * h' + x = 8 * nC h + nC k
        · rw [e, pk_us]; exact hv
        · rw [pk_un e]; exact (nx x hx).2
theorem I_law (hI : Inv f a) (k lane i n : Int32) : Inv (sp_law f a k lane i n).2.1 (sp_law f a k lane i n).2.2 := by
  unfold sp_law
  split
  · exact hI
  · split
    · exact hI
    · split
      · exact hI
      · generalize hR : rL (fun x => a 12 (60 * nC k + nC i + x)) (nC n) 4 0 0 W0 = R
        unfold lwS
        rcases R with e | ⟨kk, W⟩
        · exact hI
        · dsimp only
          split
          · exact hI
          · rename_i h8
            obtain ⟨hw1, hw2, hw3⟩ := (rL_le _ _ 4 0 0 W0 (fun w hw => absurd hw (Nat.not_lt_zero w))).2 kk W hR
            obtain ⟨A, ⟨lc, l8, lf, lall⟩, C, D⟩ := hI
            have el : nC (f 10) = lc := by rw [lf, nC, nI_clamp (by omega)]
            have l7 : lc < 8 := by
              rcases Nat.lt_or_ge lc 8 with z | z
              · exact z
              · exact absurd (by rw [lf, show lc = 8 by omega]; rfl) h8
            refine ⟨A, ⟨lc + 1, by omega, ?_, fun l hl => ?_⟩, C, D⟩
            · show f 10 + 1 = nI (lc + 1)
              rw [lf, nI_1]
            · rw [el]
              by_cases e : l = lc
              · subst e
                refine ⟨kk, by omega, by omega, pk_us, fun w hw => ?_⟩
                have eq : ∀ q, q < 5 → lwA (a 7) l (5 * kk) W (20 * l + 5 * w + q) = wdW W w q := fun q hq => by
                  unfold lwA
                  rw [if_pos (by omega), show (20 * l + 5 * w + q - 20 * l) / 5 = w by omega, show (20 * l + 5 * w + q - 20 * l) % 5 = q by omega]
                obtain ⟨t1, t2, t3⟩ := hw3 w hw
                show (∀ q, q < 3 → lwA (a 7) l (5 * kk) W (20 * l + 5 * w + q) = -9 ∨ (0 ≤ (lwA (a 7) l (5 * kk) W (20 * l + 5 * w + q)).toInt ∧ (lwA (a 7) l (5 * kk) W (20 * l + 5 * w + q)).toInt ≤ 7) ∨ (101 ≤ (lwA (a 7) l (5 * kk) W (20 * l + 5 * w + q)).toInt ∧ (lwA (a 7) l (5 * kk) W (20 * l + 5 * w + q)).toInt ≤ 199)) ∧ (1 ≤ (lwA (a 7) l (5 * kk) W (20 * l + 5 * w + 3)).toInt ∧ (lwA (a 7) l (5 * kk) W (20 * l + 5 * w + 3)).toInt ≤ 9) ∧ (lwA (a 7) l (5 * kk) W (20 * l + 5 * w + 4) = -9 ∨ (0 ≤ (lwA (a 7) l (5 * kk) W (20 * l + 5 * w + 4)).toInt ∧ (lwA (a 7) l (5 * kk) W (20 * l + 5 * w + 4)).toInt ≤ 999))
                rw [eq 3 (by decide), eq 4 (by decide)]
                refine ⟨fun q hq => ?_, t2, t3⟩
                rw [eq q (by omega), wdW, wdC, if_pos hq]
                by_cases hx : q < (W w).1.length
                · refine Or.inr (t1.2 _ ?_)
                  rw [List.getD_eq_getElem?_getD, List.getElem?_eq_getElem hx]
                  exact List.getElem_mem hx
                · refine Or.inl ?_
                  rw [List.getD_eq_getElem?_getD, List.getElem?_eq_none (by omega)]
                  rfl
              · obtain ⟨m, m1, m2, m3, m4⟩ := lall l (by omega)
                refine ⟨m, m1, m2, ?_, fun w hw => ?_⟩
                · show upd (a 6) lc (nI kk) l = nI m
                  rw [pk_un e]; exact m3
                · have eq : ∀ q, q < 5 → lwA (a 7) lc (5 * kk) W (20 * l + 5 * w + q) = a 7 (20 * l + 5 * w + q) := fun q hq => by
                    unfold lwA
                    rw [if_neg (by omega)]
                  show (∀ q, q < 3 → lwA (a 7) lc (5 * kk) W (20 * l + 5 * w + q) = -9 ∨ (0 ≤ (lwA (a 7) lc (5 * kk) W (20 * l + 5 * w + q)).toInt ∧ (lwA (a 7) lc (5 * kk) W (20 * l + 5 * w + q)).toInt ≤ 7) ∨ (101 ≤ (lwA (a 7) lc (5 * kk) W (20 * l + 5 * w + q)).toInt ∧ (lwA (a 7) lc (5 * kk) W (20 * l + 5 * w + q)).toInt ≤ 199)) ∧ (1 ≤ (lwA (a 7) lc (5 * kk) W (20 * l + 5 * w + 3)).toInt ∧ (lwA (a 7) lc (5 * kk) W (20 * l + 5 * w + 3)).toInt ≤ 9) ∧ (lwA (a 7) lc (5 * kk) W (20 * l + 5 * w + 4) = -9 ∨ (0 ≤ (lwA (a 7) lc (5 * kk) W (20 * l + 5 * w + 4)).toInt ∧ (lwA (a 7) lc (5 * kk) W (20 * l + 5 * w + 4)).toInt ≤ 999))
                  rw [eq 3 (by decide), eq 4 (by decide)]
                  refine ⟨fun q hq => ?_, (m4 w hw).2⟩
                  rw [eq q (by omega)]
                  exact (m4 w hw).1 q hq
theorem I_hull (hI : Inv f a) (kind k lane i n : Int32) : Inv (sp_hull f a kind k lane i n).2.1 (sp_hull f a kind k lane i n).2.2 := by
  unfold sp_hull
  split
  · exact hI
  · split
    · exact hI
    · split
      · exact hI
      · split
        · exact hI
        · split
          · exact hI
          · rename_i h1 h2 h3 h4 h16
            have h4 := Decidable.not_not.mp h4
            have hk : is2 kind := Decidable.byContradiction (fun z => h2 (Or.inl z))
            obtain ⟨⟨hc, hc16, hf, hall⟩, B, C, D⟩ := hI
            have eh : nC (f 1) = hc := by rw [hf, nC, nI_clamp (by omega)]
            obtain ⟨n', n1, n2, n3⟩ := nI_ex (x := n) 8 h4.1
            subst n3
            rw [show nC (nI n') = n' from nI_clamp (by omega), eh] at *
            have l15 : hc < 16 := by
              rcases Nat.lt_or_ge hc 16 with z | z
              · exact z
              · exact absurd (by rw [hf, show hc = 16 by omega]; rfl) h16
            refine ⟨⟨hc + 1, by omega, ?_, fun h hh => ?_⟩, B, C, D⟩
            · show f 1 + 1 = nI (hc + 1)
              rw [hf, nI_1]
            · by_cases e : h = hc
              · subst e
                have e0 : hlA a h kind (nI n') (60 * nC k + nC i) n' 0 h = kind := pk_us
                have e1 : hlA a h kind (nI n') (60 * nC k + nC i) n' 1 h = nI n' := pk_us
                refine ⟨?_, n', by omega, by omega, e1, fun x hx => ⟨?_, ?_⟩⟩
                · show hlA a h kind (nI n') (60 * nC k + nC i) n' 0 h = 0 ∨ hlA a h kind (nI n') (60 * nC k + nC i) n' 0 h = 1 ∨ hlA a h kind (nI n') (60 * nC k + nC i) n' 0 h = 2
                  rw [e0]
                  obtain ⟨q, q1, q2, q3⟩ := nI_ex 2 hk
                  rw [q3]
                  exact kd_k (by omega)
                · show pt (spr (a 2) (a 12) (8 * h) (60 * nC k + nC i) n' (8 * h + x))
                  unfold spr
                  rw [if_pos (by omega), show 8 * h + x - 8 * h = x by omega]
                  exact h4.2 _ (by omega)
                · show pt (spr (a 3) (a 12) (8 * h) (60 * nC k + nC i + 1) n' (8 * h + x))
                  unfold spr
                  rw [if_pos (by omega), show 8 * h + x - 8 * h = x by omega, Nat.add_assoc]
                  exact h4.2 _ (by omega)
              · obtain ⟨k0, m, m1, m8, ma, mx⟩ := hall h (by omega)
                have e0 : hlA a hc kind (nI n') (60 * nC k + nC i) n' 0 h = a 0 h := by
                  show upd (a 0) hc kind h = a 0 h
                  rw [pk_un e]
                have e1 : hlA a hc kind (nI n') (60 * nC k + nC i) n' 1 h = a 1 h := by
                  show upd (a 1) hc (nI n') h = a 1 h
                  rw [pk_un e]
                refine ⟨?_, m, m1, m8, ?_, fun x hx => ⟨?_, ?_⟩⟩
                · show hlA a hc kind (nI n') (60 * nC k + nC i) n' 0 h = 0 ∨ hlA a hc kind (nI n') (60 * nC k + nC i) n' 0 h = 1 ∨ hlA a hc kind (nI n') (60 * nC k + nC i) n' 0 h = 2
                  rw [e0]; exact k0
                · show hlA a hc kind (nI n') (60 * nC k + nC i) n' 1 h = nI m
                  rw [e1]; exact ma
                · show pt (spr (a 2) (a 12) (8 * hc) (60 * nC k + nC i) n' (8 * h + x))
                  unfold spr
                  rw [if_neg (by omega)]
                  exact (mx x hx).1
                · show pt (spr (a 3) (a 12) (8 * hc) (60 * nC k + nC i + 1) n' (8 * h + x))
                  unfold spr
                  rw [if_neg (by omega)]
                  exact (mx x hx).2
/-! both objects, side by side -/
theorem Jk.ff (hJ : Jk f a f2 a2) (q : Nat) (h6 : q ≠ 6 := by decide) (h7 : q ≠ 7 := by decide) (h13 : q ≠ 13 := by decide) (h14 : q ≠ 14 := by decide) (h17 : q ≠ 17 := by decide) (h18 : q ≠ 18 := by decide) : f2 q = f q := hJ.1 q h6 h7 h13 h14 h17 h18
theorem Xr.jk (hJ : Jk f a f2 a2) (hX : Xr f a σ) : Xr f2 a2 σ := by
  unfold Xr Cv Cl k0 at *
  rw [hJ.ff 0, hJ.ff 1, hJ.ff 10, hJ.ff 23, hJ.a 0, hJ.a 1, hJ.a 2, hJ.a 3, hJ.a 6, hJ.a 7, hJ.a 9, hJ.a 10, hJ.a 11, hJ.a 12]
  exact hX
theorem mM_in {g : FF} {b : AA} {j : Nat} (h : 136 ≤ j ∧ j < 151) : (mM σ g b).1 j = (mM τ g b).1 j := by
  have : j = 136 ∨ j = 137 ∨ j = 138 ∨ j = 139 ∨ j = 140 ∨ j = 141 ∨ j = 142 ∨ j = 143 ∨ j = 144 ∨ j = 145 ∨ j = 146 ∨ j = 147 ∨ j = 148 ∨ j = 149 ∨ j = 150 := by omega
  rcases this with rfl | rfl | rfl | rfl | rfl | rfl | rfl | rfl | rfl | rfl | rfl | rfl | rfl | rfl | rfl <;> rfl
theorem mM_out {g : FF} {b : AA} {j : Nat} (h : j < 136 ∨ 151 ≤ j) : (mM σ g b).1 j = σ.1 j := by
  unfold mM
  dsimp only
  rw [if_neg (by omega), if_neg (by omega), if_neg (by omega), if_neg (by omega), if_neg (by omega), if_neg (by omega), if_neg (by omega), if_neg (by omega), if_neg (by omega), if_neg (by omega), if_neg (by omega), if_neg (by omega), if_neg (by omega), if_neg (by omega), if_neg (by omega)]
theorem mM_ext {g : FF} {b : AA} (h : ∀ j, 136 ≤ j → j < 151 → τ.1 j = (mM τ g b).1 j) : mM τ g b = τ := by
  refine Prod.ext (funext fun j => ?_) rfl
  by_cases e : 136 ≤ j ∧ j < 151
  · exact (h j e.1 e.2).symm
  · exact mM_out (by omega)
theorem mM_un {g : FF} {b : AA} (h : mM σ g b = σ) (hU : Un σ τ) : mM τ g b = τ := by
  refine mM_ext (fun j h1 h2 => ?_)
  rw [hU j h1 h2, mM_in (σ := τ) (τ := σ) ⟨h1, h2⟩, h]
theorem mM_mM {g : FF} {b : AA} : mM (mM σ g b) g b = mM σ g b := mM_ext (fun j h1 h2 => mM_in ⟨h1, h2⟩)
theorem Xr.mm (hX : Xr f a σ) (g : FF) (b : AA) : Xr f a (mM σ g b) := by
  obtain ⟨x1, x2, x3, x4, x5⟩ := hX
  refine ⟨fun j => ?_, fun j => ?_, fun l hl => (x3 l hl).c (fun j a b => mM_out (by omega)), x4, x5⟩
  · by_cases e : 136 ≤ j ∧ j < 151
    · exact Ck_hi _ (by omega)
    · rw [mM_out (by omega)]; exact x1 j
  · by_cases e : 136 ≤ j ∧ j < 151
    · refine ⟨by omega, by omega, by omega, by omega, fun k hk => ⟨by omega, by omega⟩, fun h hh => ⟨by omega, by omega, by omega⟩⟩
    · rw [mM_out (by omega)]; exact x2 j
/-- the state between two calls -/
def St (f : FF) (a : AA) (τ : kt_H) : Prop := Xr f a τ ∧ Inv f a ∧ mM τ f a = τ
theorem St.mk (hX : Xr f a τ) (hI : Inv f a) (hJ : Jk f a f2 a2) : St f2 a2 (mM τ f2 a2) := ⟨(hX.jk hJ).mm _ _, Inv.jk hJ hI, mM_mM⟩
end KP
