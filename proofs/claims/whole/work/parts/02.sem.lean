/-! my interpreter: cells by number; a step an instruction -/
abbrev kt_C : Type := (Nat × vp_A) ⊕ (Nat × List Value)
abbrev kt_H : Type := (Nat → kt_C) × Nat × Nat
abbrev kt_L : Type := List (Option Value)
abbrev kt_F : Type := Nat × kt_L × List Value × kt_H
abbrev kt_R : Type := Option (kt_F ⊕ (((Nat × List Value) × kt_F) ⊕ (Option Value × kt_H)))
abbrev kt_S : Type := kt_L → List Value → kt_H → kt_R
abbrev kt_go (pc : Nat) (L : kt_L) (S : List Value) (σ : kt_H) : kt_R := some (.inl (pc, L, S, σ))
abbrev kt_ia (n : Nat) (f : Nat → Int32) : kt_C := .inl (0, n, .inl f)
abbrev kt_ra (t n : Nat) (g : Nat → Option Nat) : kt_C := .inl (t, n, .inr (.inr (.inr (.inr g))))
abbrev kt_ob (ci : Nat) (fs : List Value) : kt_C := .inr (ci, fs)
abbrev kt_no : kt_C := .inr (99, [])
/-- locals -/
def kt_at : kt_L → Nat → Option Value
  | [], _ => none
  | x :: _, 0 => x
  | _ :: L, i + 1 => kt_at L i
def kt_set : kt_L → Nat → Option Value → Option kt_L
  | [], _, _ => none
  | _ :: L, 0, v => some (v :: L)
  | x :: L, i + 1, v => match kt_set L i v with
    | some M => some (x :: M)
    | none => none
def kt_ok : kt_L → Nat → Bool
  | _, 0 => true
  | L, i + 1 => match kt_at L i with
    | some v => Nat.ble v.category 1
    | none => true
def kt_lay : Nat → List Value → Option kt_L
  | n, [] => some (List.replicate n none)
  | n, v :: vs => match v with
    | .long x => (match n with
      | k + 2 => (match kt_lay k vs with
        | some L => some (some (.long x) :: none :: L)
        | none => none)
      | _ => none)
    | .double _ => none
    | w => (match n with
      | k + 1 => (match kt_lay k vs with
        | some L => some (some w :: L)
        | none => none)
      | 0 => none)
def kt_nth : List Value → Nat → Option Value
  | [], _ => none
  | x :: _, 0 => some x
  | _ :: L, i + 1 => kt_nth L i
def kt_fset : List Value → Nat → Value → Option (List Value)
  | [], _, _ => none
  | _ :: L, 0, v => some (v :: L)
  | x :: L, i + 1, v => match kt_fset L i v with
    | some M => some (x :: M)
    | none => none
def kt_mem : Nat → List Nat → Bool
  | _, [] => false
  | c, d :: l => bif Nat.beq c d then true else kt_mem c l
def kt_look : Nat → List (Nat × Nat) → Option Nat
  | _, [] => none
  | c, d :: l => bif Nat.beq c d.1 then some d.2 else kt_look c l
def kt_pop : Nat → List Value → List Value → Option (List Value × List Value)
  | 0, as, S => some (as, S)
  | n + 1, as, v :: S => kt_pop n (v :: as) S
  | _ + 1, _, [] => none
def kt_w : List Value → Nat
  | [] => 0
  | v :: S => v.category + kt_w S
def kt_push (v : Option Value) (S : List Value) : List Value := match v with
  | none => S
  | some x => x :: S
def kt_put (σ : kt_H) (a : Nat) (c : kt_C) : kt_H := (va_up σ.1 a c, σ.2)
def kt_new (σ : kt_H) (c : kt_C) (k : Nat) : kt_H := (va_up σ.1 σ.2.1 c, σ.2.1 + 1, σ.2.2 + k)
/-- constants, locals, stack -/
def s_no : kt_S := fun _ _ _ => none
def s_ic (v : Int32) (nx : Nat) : kt_S := fun L S σ => kt_go nx L (.int v :: S) σ
def s_lc (v : Int64) (nx : Nat) : kt_S := fun L S σ => kt_go nx L (.long v :: S) σ
def s_nul (nx : Nat) : kt_S := fun L S σ => kt_go nx L (.null :: S) σ
def s_il (i nx : Nat) : kt_S := fun L S σ => match kt_at L i with
  | some (.int x) => kt_go nx L (.int x :: S) σ
  | _ => none
def s_ll (i nx : Nat) : kt_S := fun L S σ => match kt_at L i with
  | some (.long x) => kt_go nx L (.long x :: S) σ
  | _ => none
def s_al (i nx : Nat) : kt_S := fun L S σ => match kt_at L i with
  | some (.ref x) => kt_go nx L (.ref x :: S) σ
  | some .null => kt_go nx L (.null :: S) σ
  | _ => none
def s_is (i nx : Nat) : kt_S := fun L S σ => match S with
  | .int x :: S => (match kt_set L i (some (.int x)), kt_ok L i with
    | some M, true => kt_go nx M S σ
    | _, _ => none)
  | _ => none
def s_as (i nx : Nat) : kt_S := fun L S σ => match S with
  | .ref x :: S => (match kt_set L i (some (.ref x)), kt_ok L i with
    | some M, true => kt_go nx M S σ
    | _, _ => none)
  | .null :: S => (match kt_set L i (some .null), kt_ok L i with
    | some M, true => kt_go nx M S σ
    | _, _ => none)
  | _ => none
def s_ls (i nx : Nat) : kt_S := fun L S σ => match S with
  | .long x :: S => (match kt_set L i (some (.long x)), kt_ok L i with
    | some M, true => (match kt_set M (i + 1) none with
      | some M' => kt_go nx M' S σ
      | none => none)
    | _, _ => none)
  | _ => none
def s_inc (i : Nat) (v : Int32) (nx : Nat) : kt_S := fun L S σ => match kt_at L i with
  | some (.int x) => (match kt_set L i (some (.int (x + v))), kt_ok L i with
    | some M, true => kt_go nx M S σ
    | _, _ => none)
  | _ => none
def s_dup (nx : Nat) : kt_S := fun L S σ => match S with
  | .int x :: S => kt_go nx L (.int x :: .int x :: S) σ
  | .ref x :: S => kt_go nx L (.ref x :: .ref x :: S) σ
  | _ => none
def s_dup2 (nx : Nat) : kt_S := fun L S σ => match S with
  | .int x :: .ref y :: S => kt_go nx L (.int x :: .ref y :: .int x :: .ref y :: S) σ
  | _ => none
def s_pop (nx : Nat) : kt_S := fun L S σ => match S with
  | .int _ :: S => kt_go nx L S σ
  | .ref _ :: S => kt_go nx L S σ
  | .null :: S => kt_go nx L S σ
  | _ => none
/-- arithmetic -/
def s_add (nx : Nat) : kt_S := fun L S σ => match S with
  | .int y :: .int x :: S => kt_go nx L (.int (x + y) :: S) σ
  | _ => none
def s_sub (nx : Nat) : kt_S := fun L S σ => match S with
  | .int y :: .int x :: S => kt_go nx L (.int (x - y) :: S) σ
  | _ => none
def s_mul (nx : Nat) : kt_S := fun L S σ => match S with
  | .int y :: .int x :: S => kt_go nx L (.int (x * y) :: S) σ
  | _ => none
def s_and (nx : Nat) : kt_S := fun L S σ => match S with
  | .int y :: .int x :: S => kt_go nx L (.int (x &&& y) :: S) σ
  | _ => none
def s_div (nx : Nat) : kt_S := fun L S σ => match S with
  | .int y :: .int x :: S => if y = 0 then none else kt_go nx L (.int (x / y) :: S) σ
  | _ => none
def s_rem (nx : Nat) : kt_S := fun L S σ => match S with
  | .int y :: .int x :: S => if y = 0 then none else kt_go nx L (.int (x - x / y * y) :: S) σ
  | _ => none
def s_neg (nx : Nat) : kt_S := fun L S σ => match S with
  | .int x :: S => kt_go nx L (.int (-x) :: S) σ
  | _ => none
def s_i2l (nx : Nat) : kt_S := fun L S σ => match S with
  | .int x :: S => kt_go nx L (.long x.toInt64 :: S) σ
  | _ => none
def s_i2b (nx : Nat) : kt_S := fun L S σ => match S with
  | .int x :: S => kt_go nx L (.int x.toInt8.toInt32 :: S) σ
  | _ => none
def s_i2s (nx : Nat) : kt_S := fun L S σ => match S with
  | .int x :: S => kt_go nx L (.int x.toInt16.toInt32 :: S) σ
  | _ => none
def s_ladd (nx : Nat) : kt_S := fun L S σ => match S with
  | .long y :: .long x :: S => kt_go nx L (.long (x + y) :: S) σ
  | _ => none
def s_lsub (nx : Nat) : kt_S := fun L S σ => match S with
  | .long y :: .long x :: S => kt_go nx L (.long (x - y) :: S) σ
  | _ => none
def s_lmul (nx : Nat) : kt_S := fun L S σ => match S with
  | .long y :: .long x :: S => kt_go nx L (.long (x * y) :: S) σ
  | _ => none
def s_ldiv (nx : Nat) : kt_S := fun L S σ => match S with
  | .long y :: .long x :: S => if y = 0 then none else kt_go nx L (.long (x / y) :: S) σ
  | _ => none
def s_lrem (nx : Nat) : kt_S := fun L S σ => match S with
  | .long y :: .long x :: S => if y = 0 then none else kt_go nx L (.long (x - x / y * y) :: S) σ
  | _ => none
def s_lcmp (nx : Nat) : kt_S := fun L S σ => match S with
  | .long y :: .long x :: S => kt_go nx L (.int (lg_cmp x y) :: S) σ
  | _ => none
/-- branches -/
def s_goto (t : Nat) : kt_S := fun L S σ => kt_go t L S σ
def s_feq (t nx : Nat) : kt_S := fun L S σ => match S with
  | .int x :: S => kt_go (if x = 0 then t else nx) L S σ
  | _ => none
def s_fne (t nx : Nat) : kt_S := fun L S σ => match S with
  | .int x :: S => kt_go (if x = 0 then nx else t) L S σ
  | _ => none
def s_flt (t nx : Nat) : kt_S := fun L S σ => match S with
  | .int x :: S => kt_go (if x < 0 then t else nx) L S σ
  | _ => none
def s_fge (t nx : Nat) : kt_S := fun L S σ => match S with
  | .int x :: S => kt_go (if 0 ≤ x then t else nx) L S σ
  | _ => none
def s_fgt (t nx : Nat) : kt_S := fun L S σ => match S with
  | .int x :: S => kt_go (if 0 < x then t else nx) L S σ
  | _ => none
def s_fle (t nx : Nat) : kt_S := fun L S σ => match S with
  | .int x :: S => kt_go (if x ≤ 0 then t else nx) L S σ
  | _ => none
def s_ceq (t nx : Nat) : kt_S := fun L S σ => match S with
  | .int y :: .int x :: S => kt_go (if x = y then t else nx) L S σ
  | _ => none
def s_cne (t nx : Nat) : kt_S := fun L S σ => match S with
  | .int y :: .int x :: S => kt_go (if x = y then nx else t) L S σ
  | _ => none
def s_clt (t nx : Nat) : kt_S := fun L S σ => match S with
  | .int y :: .int x :: S => kt_go (if x < y then t else nx) L S σ
  | _ => none
def s_cge (t nx : Nat) : kt_S := fun L S σ => match S with
  | .int y :: .int x :: S => kt_go (if y ≤ x then t else nx) L S σ
  | _ => none
def s_cgt (t nx : Nat) : kt_S := fun L S σ => match S with
  | .int y :: .int x :: S => kt_go (if y < x then t else nx) L S σ
  | _ => none
def s_cle (t nx : Nat) : kt_S := fun L S σ => match S with
  | .int y :: .int x :: S => kt_go (if x ≤ y then t else nx) L S σ
  | _ => none
def s_fnul (t nx : Nat) : kt_S := fun L S σ => match S with
  | .null :: S => kt_go t L S σ
  | .ref _ :: S => kt_go nx L S σ
  | _ => none
def s_fnn (t nx : Nat) : kt_S := fun L S σ => match S with
  | .null :: S => kt_go nx L S σ
  | .ref _ :: S => kt_go t L S σ
  | _ => none
def kt_sw (lo hi : Int) (ts : List Nat) (d : Nat) (x : Int32) : Nat := if x.toInt < lo ∨ hi < x.toInt then d else ts.getD (x.toInt - lo).toNat d
def s_tsw (lo hi : Int) (ts : List Nat) (d : Nat) : kt_S := fun L S σ => match S with
  | .int x :: S => kt_go (kt_sw lo hi ts d x) L S σ
  | _ => none
/-- objects -/
def s_gf (cs : List Nat) (k nx : Nat) : kt_S := fun L S σ => match S with
  | .ref a :: S => (match σ.1 a with
    | .inr (ci, fs) => (match kt_mem ci cs, kt_nth fs k with
      | true, some v => kt_go nx L (v :: S) σ
      | _, _ => none)
    | _ => none)
  | _ => none
def kt_fit : Nat → Value → Bool
  | 0, .int _ => true
  | 1, .ref _ => true
  | 1, .null => true
  | 2, .int v => v == 0 || v == 1
  | _, _ => false
def s_pf (cs : List Nat) (k b nx : Nat) : kt_S := fun L S σ => match S with
  | v :: .ref a :: S => (match σ.1 a with
    | .inr (ci, fs) => (match kt_mem ci cs, kt_fit b v, kt_fset fs k v with
      | true, true, some gs => kt_go nx L S (kt_put σ a (.inr (ci, gs)))
      | _, _, _ => none)
    | _ => none)
  | _ => none
def s_new (ci : Nat) (fs : List Value) (nx : Nat) : kt_S := fun L S σ => kt_go nx L (.ref σ.2.1 :: S) (kt_new σ (.inr (ci, fs)) fs.length)
def s_gs (id nx : Nat) : kt_S := fun L S σ => kt_go nx L (.ref id :: S) σ
def s_ins (ys ns : List Nat) (nx : Nat) : kt_S := fun L S σ => match S with
  | .ref a :: S => (match σ.1 a with
    | .inr (ci, _) => (match kt_mem ci ys, kt_mem ci ns with
      | true, _ => kt_go nx L (.int 1 :: S) σ
      | false, true => kt_go nx L (.int 0 :: S) σ
      | false, false => none)
    | _ => none)
  | _ => none
/-- arrays -/
def s_ial (nx : Nat) : kt_S := fun L S σ => match S with
  | .int i :: .ref a :: S => (match σ.1 a with
    | .inl (_, n, .inl f) => if i < 0 ∨ n ≤ i.toNatClampNeg then none else kt_go nx L (.int (f i.toNatClampNeg) :: S) σ
    | _ => none)
  | _ => none
def s_ias (nx : Nat) : kt_S := fun L S σ => match S with
  | .int x :: .int i :: .ref a :: S => (match σ.1 a with
    | .inl (t, n, .inl f) => if i < 0 ∨ n ≤ i.toNatClampNeg then none else kt_go nx L S (kt_put σ a (.inl (t, n, .inl (upd f i.toNatClampNeg x))))
    | _ => none)
  | _ => none
def s_aal (nx : Nat) : kt_S := fun L S σ => match S with
  | .int i :: .ref a :: S => (match σ.1 a with
    | .inl (t, n, .inr (.inr (.inr (.inr g)))) => (match kt_mem t [1, 2, 3, 4, 5] with
      | true => if i < 0 ∨ n ≤ i.toNatClampNeg then none else kt_go nx L (va_rf (g i.toNatClampNeg) :: S) σ
      | false => none)
    | _ => none)
  | _ => none
def kt_ac : Nat → List Nat
  | 1 => [2, 1, 6]
  | 2 => [3]
  | 3 => [8]
  | 4 => [0]
  | 5 => [10]
  | _ => []
def s_aas (nx : Nat) : kt_S := fun L S σ => match S with
  | .ref v :: .int i :: .ref a :: S => (match σ.1 a, σ.1 v with
    | .inl (t, n, .inr (.inr (.inr (.inr g)))), .inr (ci, _) => (match kt_mem ci (kt_ac t) with
      | true => if i < 0 ∨ n ≤ i.toNatClampNeg then none else kt_go nx L S (kt_put σ a (.inl (t, n, .inr (.inr (.inr (.inr (va_up g i.toNatClampNeg (some v))))))))
      | false => none)
    | _, _ => none)
  | _ => none
def s_len (nx : Nat) : kt_S := fun L S σ => match S with
  | .ref a :: S => (match σ.1 a with
    | .inl (_, n, .inl _) => kt_go nx L (.int (Int32.ofNat n) :: S) σ
    | .inl (t, n, .inr (.inr (.inr (.inr _)))) => (match kt_mem t [1, 2, 3, 4, 5] with
      | true => kt_go nx L (.int (Int32.ofNat n) :: S) σ
      | false => none)
    | _ => none)
  | _ => none
def s_nai (nx : Nat) : kt_S := fun L S σ => match S with
  | .int n :: S => if n < 0 ∨ 1000 ≤ n.toNatClampNeg then none else kt_go nx L (.ref σ.2.1 :: S) (kt_new σ (kt_ia n.toNatClampNeg (fun _ => 0)) n.toNatClampNeg)
  | _ => none
def s_naq (t nx : Nat) : kt_S := fun L S σ => match S with
  | .int n :: S => if n < 0 ∨ 1000 ≤ n.toNatClampNeg then none else kt_go nx L (.ref σ.2.1 :: S) (kt_new σ (kt_ra t n.toNatClampNeg (fun _ => none)) n.toNatClampNeg)
  | _ => none
/-- the static tables of the class, and the script -/
def kt_T1 : Nat → Int32 := fun j => if j = 2 then 1 else if j = 5 then 1 else 0
def kt_T2 : Nat → Int32 := fun j => if j = 0 then 8 else if j = 1 then 8 else if j = 2 then 9 else if j = 3 then 999 else if j = 4 then 9 else 99
def s_ialT (nx : Nat) : kt_S := fun L S σ => match S with
  | .int i :: .ref a :: S => if i < 0 ∨ 6 ≤ i.toNatClampNeg then none else (bif Nat.beq a 1000001 then kt_go nx L (.int (kt_T1 i.toNatClampNeg) :: S) σ else bif Nat.beq a 1000002 then kt_go nx L (.int (kt_T2 i.toNatClampNeg) :: S) σ else none)
  | _ => none
def s_ialS (xs : Nat → Int32) (n nx : Nat) : kt_S := fun L S σ => match S with
  | .int i :: .ref a :: S => if i < 0 ∨ n ≤ i.toNatClampNeg then none else (bif Nat.beq a 1000000 then kt_go nx L (.int (xs i.toNatClampNeg) :: S) σ else none)
  | _ => none
def s_lenS (n nx : Nat) : kt_S := fun L S σ => match S with
  | .ref a :: S => (bif Nat.beq a 1000000 then kt_go nx L (.int (Int32.ofNat n) :: S) σ else none)
  | _ => none
/-- calls and returns -/
abbrev kt_call (y : Nat) (as : List Value) (nx : Nat) (L : kt_L) (S : List Value) (σ : kt_H) : kt_R := some (.inr (.inl ((y, as), (nx, L, S, σ))))
def s_cs (y na nx : Nat) : kt_S := fun L S σ => match kt_pop na [] S with
  | some (as, S) => bif Nat.ble (kt_w S) 8 then kt_call y as nx L S σ else none
  | none => none
def s_cv (cs : List (Nat × Nat)) (na nx : Nat) : kt_S := fun L S σ => match kt_pop na [] S with
  | some (as, .ref a :: S) => (match σ.1 a with
    | .inr (ci, _) => (match kt_look ci cs with
      | some y => bif Nat.ble (kt_w S) 8 then kt_call y (.ref a :: as) nx L S σ else none
      | none => none)
    | _ => none)
  | _ => none
def s_ci (y na nx : Nat) : kt_S := fun L S σ => match kt_pop na [] S with
  | some (as, .ref a :: S) => bif Nat.ble (kt_w S) 8 then kt_call y (.ref a :: as) nx L S σ else none
  | _ => none
def s_obj (nx : Nat) : kt_S := fun L S σ => match S with
  | .ref _ :: S => bif Nat.ble (kt_w S) 8 then kt_go nx L S σ else none
  | _ => none
def s_cp (nx : Nat) : kt_S := fun L S σ => match S with
  | .int n :: .int dp :: .ref a :: .int sp :: .ref a0 :: S => (match σ.1 a0, σ.1 a with
    | .inl (_, n0, .inl f), .inl (t, n1, .inl g) => if sp < 0 ∨ dp < 0 ∨ n < 0 ∨ n0 < sp.toNatClampNeg + n.toNatClampNeg ∨ n1 < dp.toNatClampNeg + n.toNatClampNeg then none else bif Nat.ble (kt_w S) 8 then kt_go nx L S (kt_put σ a (.inl (t, n1, .inl (va_cpy f g sp.toNatClampNeg dp.toNatClampNeg n.toNatClampNeg)))) else none
    | _, _ => none)
  | _ => none
abbrev kt_ret (v : Option Value) (σ : kt_H) : kt_R := some (.inr (.inr (v, σ)))
def s_ri : kt_S := fun _ S σ => match S with
  | [.int v] => kt_ret (some (.int v)) σ
  | _ => none
def s_rz : kt_S := fun _ S σ => match S with
  | [.int v] => if v = 0 ∨ v = 1 then kt_ret (some (.int v)) σ else none
  | _ => none
def s_rl : kt_S := fun _ S σ => match S with
  | [.long v] => kt_ret (some (.long v)) σ
  | _ => none
def s_ra : kt_S := fun _ S σ => match S with
  | [.ref a] => kt_ret (some (.ref a)) σ
  | [.null] => kt_ret (some .null) σ
  | _ => none
def s_rv : kt_S := fun _ S σ => match S with
  | [] => kt_ret none σ
  | _ => none
/-- Math -/
def s_max (nx : Nat) : kt_S := fun L S σ => match S with
  | .int y :: .int x :: S => bif Nat.ble (kt_w S) 8 then kt_go nx L (.int (if x < y then y else x) :: S) σ else none
  | _ => none
def s_min (nx : Nat) : kt_S := fun L S σ => match S with
  | .int y :: .int x :: S => bif Nat.ble (kt_w S) 8 then kt_go nx L (.int (if y < x then y else x) :: S) σ else none
  | _ => none
def s_abs (nx : Nat) : kt_S := fun L S σ => match S with
  | .int x :: S => bif Nat.ble (kt_w S) 8 then kt_go nx L (.int (if 0 ≤ x then x else 0 - x) :: S) σ else none
  | _ => none
