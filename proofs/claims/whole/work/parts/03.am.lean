/-! THE SMALL MACHINE: what the claim's bytecode does to a memory of numbers, by program text and a table of shapes.
A memory: ints by address and place, references by address and place, longs (of one array), the next address, and counts of cells and slots made. Address 0 is null. -/
abbrev dm_R : Type := Nat × Nat × Nat
abbrev dm_V : Type := Int ⊕ (dm_R ⊕ Int)
abbrev dm_H : Type := (Nat → Int → Int) × (Nat → Int → Nat) × (Int → Int) × Nat × Nat × Nat
abbrev dm_X : Type := (Option dm_V ⊕ Nat) × dm_H
abbrev dm_O : Type := Option dm_X
abbrev dI (x : Int) : dm_V := .inl x
abbrev dR (k p a : Nat) : dm_V := .inr (.inl (k, p, a))
abbrev dJ (x : Int) : dm_V := .inr (.inr x)
def gi (h : dm_H) (a : Nat) (i : Int) : Int := h.1 a i
def gr (h : dm_H) (a : Nat) (i : Int) : Nat := h.2.1 a i
def gl (h : dm_H) (i : Int) : Int := h.2.2.1 i
def gz (h : dm_H) : Nat := h.2.2.2.1
def gc (h : dm_H) : Nat := h.2.2.2.2.1
def gs (h : dm_H) : Nat := h.2.2.2.2.2
def si (h : dm_H) (a : Nat) (i v : Int) : dm_H := (fun b j => if b = a ∧ j = i then v else h.1 b j, h.2)
def sr (h : dm_H) (a : Nat) (i : Int) (v : Nat) : dm_H := (h.1, fun b j => if b = a ∧ j = i then v else h.2.1 b j, h.2.2)
def sl (h : dm_H) (i v : Int) : dm_H := (h.1, h.2.1, fun j => if j = i then v else h.2.2.1 j, h.2.2.2)
/-- one cell more, of n slots -/
def sg (h : dm_H) (n : Nat) : dm_H := (h.1, h.2.1, h.2.2.1, h.2.2.2.1, h.2.2.2.2.1 + 1, h.2.2.2.2.2 + n)
def sz (h : dm_H) (n : Nat) : dm_H := (h.1, h.2.1, h.2.2.1, h.2.2.2.1 + n, h.2.2.2.2.1, h.2.2.2.2.2)
/-- a number that an int can be -/
def dm_in (x : Int) : Prop := -2147483648 ≤ x ∧ x ≤ 2147483647
def dm_w (x : Int) : Int := Int.bmod x 4294967296
def dm_and (x y : Int) : Int := (Int32.ofInt x &&& Int32.ofInt y).toInt
def dm_or (x y : Int) : Int := (Int32.ofInt x ||| Int32.ofInt y).toInt
def dm_xor (x y : Int) : Int := (Int32.ofInt x ^^^ Int32.ofInt y).toInt
def dm_shl (x y : Int) : Int := (Int32.ofInt x <<< (Int32.ofInt y &&& 31)).toInt
def dm_shr (x y : Int) : Int := (Int32.ofInt x >>> (Int32.ofInt y &&& 31)).toInt
def dm_unit (i : Int) : Int := if i = 0 then 10000 else if i = 1 then 100 else 1
abbrev dm_L : Type := List (Option dm_V)
abbrev dm_K : Type := Nat → dm_L → List dm_V → dm_H → dm_O
/-- an int operation whose answer has to be an int as it stands -/
def dm_ck (x : Int) (f : Int → dm_O) : dm_O := if -2147483648 ≤ x ∧ x ≤ 2147483647 then f x else none
def dm_nn (a : Nat) (f : dm_O) : dm_O := if a = 0 then none else f
def dm_ix (i : Int) (n : Nat) (f : dm_O) : dm_O := if 0 ≤ i ∧ i < (n : Int) then f else none
def dm_z1 (x : Int) (f : dm_O) : dm_O := if x = 0 ∨ x = 1 then f else none
def dm_if (c : Prop) [Decidable c] (f g : dm_O) : dm_O := if c then f else g
def dm_cmp (c : Jvm.ClassFile.Cond) (x y : Int) (f g : dm_O) : dm_O := match c with
  | .eq => if x = y then f else g
  | .ne => if x = y then g else f
  | .lt => if x < y then f else g
  | .ge => if x < y then g else f
  | .gt => if y < x then f else g
  | .le => if y < x then g else f
/-- two ints off the stack -/
def dm_2 (S : List dm_V) (f : Int → Int → List dm_V → dm_O) : dm_O := match S with
  | .inl y :: .inl x :: S' => f x y S'
  | _ => none
def dm_1 (S : List dm_V) (f : Int → List dm_V → dm_O) : dm_O := match S with
  | .inl x :: S' => f x S'
  | _ => none
def dm_r1 (S : List dm_V) (f : Nat → Nat → Nat → List dm_V → dm_O) : dm_O := match S with
  | .inr (.inl (k, p, a)) :: S' => f k p a S'
  | _ => none
/-- a reference with an int above it -/
def dm_ri (S : List dm_V) (f : Nat → Nat → Nat → Int → List dm_V → dm_O) : dm_O := match S with
  | .inl i :: .inr (.inl (k, p, a)) :: S' => f k p a i S'
  | _ => none
def dm_geti (L : dm_L) (i : Nat) (f : Int → dm_O) : dm_O := match L[i]? with
  | some (some (.inl v)) => f v
  | _ => none
def dm_getr (L : dm_L) (i : Nat) (f : Nat → Nat → Nat → dm_O) : dm_O := match L[i]? with
  | some (some (.inr (.inl (t, p, a)))) => f t p a
  | _ => none
def dm_put (L : dm_L) (i : Nat) (v : Option dm_V) (f : dm_L → dm_O) : dm_O := if i < L.length then f (L.set i v) else none
/-- whether a value may lie in a place of this kind; as what -/
def dm_fit (t p k q : Nat) : Bool := if t = 7 then (k == 0) || (k == 7) || ((k == 1) && ((q == 0) || (q == 1) || (q == 3) || (q == 4))) else (k == t) && (q == p)
/-- what is pushed for the place (k: its mode: 0 an int, 1 a reference that changes, 2 one that lies so far behind its object, 3 one place's) -/
def dm_ld (sv : Bool) (sh : Nat → Nat × Nat) (h : dm_H) (a k : Nat) (d : List Nat) (f : dm_V → dm_O) : dm_O := match d with
  | [0, _, _, _] => f (dI (gi h a k))
  | [1, t, p, _] => match sv with
    | true => f (dR t p (gr h a k))
    | false => if sh (gr h a k) = (t, p) ∧ gr h a k ≠ 0 then f (dR t p (gr h a k)) else none
  | [2, t, p, o] => match sv with
    | true => f (dR t p (a + o))
    | false => if gr h a k = a + o then f (dR t p (a + o)) else none
  | [3, t, p, o] => match sv with
    | true => f (dR t p o)
    | false => if gr h a k = o then f (dR t p o) else none
  | _ => none
def dm_st (sv : Bool) (h : dm_H) (a k : Nat) (d : List Nat) (v : dm_V) (f : dm_H → dm_O) : dm_O := match d, v with
  | [0, _, z, _], .inl x => match z with
    | 0 => f (si h a k x)
    | _ => dm_z1 x (f (si h a k x))
  | [1, t, p, _], .inr (.inl (k', p', b)) => if dm_fit t p k' p' = true then f (sr h a k b) else none
  | [2, t, p, o], .inr (.inl (k', p', b)) => match sv with
    | true => none
    | false => if dm_fit t p k' p' = true ∧ b = a + o then f (sr h a k b) else none
  | [3, t, p, o], .inr (.inl (k', p', b)) => match sv with
    | true => none
    | false => if dm_fit t p k' p' = true ∧ b = o then f (sr h a k b) else none
  | _, _ => none
/-- a new tracked cell: the table of shapes says which is next -/
def dm_new (sv : Bool) (sh : Nat → Nat × Nat) (h : dm_H) (t p n : Nat) (f : dm_H → dm_V → dm_O) : dm_O := match sv with
  | true => none
  | false => if sh (gz h) = (t, p) then f (sg (sz h 1) n) (dR t p (gz h)) else none
def dm_grid (h : dm_H) (a : Nat) (n : Nat) : dm_H := (h.1, fun b j => if b = a ∧ 0 ≤ j ∧ j < (n : Int) then a + 1 + j.toNat else h.2.1 b j, h.2.2)
/-- 'as many cells of m slots' -/
def dm_sgs (h : dm_H) (n m : Nat) : dm_H := (h.1, h.2.1, h.2.2.1, h.2.2.2.1, h.2.2.2.2.1 + n, h.2.2.2.2.2 + n * m)
/-- a table of handlers: from, to, target, which exception; the target stores the exception into a local (which, how long) -/
abbrev dm_T : Type := List (Nat × Nat × Nat × Nat × Nat × Nat)
def dm_find (T : dm_T) (pc E : Nat) : Option (Nat × Nat × Nat) := match T with
  | [] => none
  | (a, b, g, e, j, n) :: T' => if a ≤ pc ∧ pc < b ∧ e = E then some (g, j, n) else dm_find T' pc E
/-- behind a call -/
def dm_back (k : dm_K) (T : dm_T) (pc : Nat) (L : dm_L) (S : List dm_V) (r : dm_O) : dm_O := match r with
  | none => none
  | some (.inl (some v), h) => k (pc + 3) L (v :: S) h
  | some (.inl none, h) => k (pc + 3) L S h
  | some (.inr E, h) => match dm_find T pc E with
    | some (g, j, n) => dm_put L j none (fun L' => k (g + n) L' [] h)
    | none => some (.inr E, h)
/-- the arguments as the callee sees them: what may be a Visitor is one -/
def dm_co (cs : List Nat) (as : List dm_V) : List dm_V := match cs, as with
  | 7 :: cs', .inr (.inl (k, p, a)) :: as' => (if dm_fit 7 0 k p = true then dR 7 0 a else dR k p a) :: dm_co cs' as'
  | _ :: cs', v :: as' => v :: dm_co cs' as'
  | _, as' => as'
def dm_some (a : Nat) (f : dm_O) : dm_O := if a = 0 then none else f
def dm_short (v : dm_V) : Bool := match v with
  | .inr (.inr _) => false
  | _ => true
def dm_cat (v : dm_V) : Nat := match v with
  | .inr (.inr _) => 2
  | _ => 1
def dm_args (n : Nat) (S : List dm_V) (f : List dm_V → List dm_V → dm_O) : dm_O := if n ≤ S.length ∧ (S.take n).all dm_short = true ∧ ((S.drop n).map dm_cat).sum ≤ 8 then f (S.take n).reverse (S.drop n) else none
/-- the receiver is an object (of the class, if one is told) -/
def dm_recv (ci : Option Nat) (as : List dm_V) (f : dm_O) : dm_O := match ci, as with
  | none, .inr (.inl (1, _, _)) :: _ => f
  | some c, .inr (.inl (1, p, _)) :: _ => if p = c then f else none
  | _, _ => none
/-- which of the Visitors it is: address, method, class of each -/
def dm_disp (ds : List Nat) (a : Nat) (f : Nat → Nat → Nat → dm_O) : dm_O := match ds with
  | b :: y :: c :: ds' => if a = b then f y c b else dm_disp ds' a f
  | _ => none
/-- a call: d is its kind, its target, how many arguments, and more as the kind wants it -/
def dm_call (call : Nat → List dm_V → dm_H → dm_O) (k : dm_K) (T : dm_T) (pc : Nat) (L : dm_L) (S : List dm_V) (h : dm_H) (d cs : List Nat) : dm_O := match d with
  | [3] => dm_2 S (fun x y S' => if (S'.map dm_cat).sum ≤ 8 then k (pc + 3) L (dI (if x < y then y else x) :: S') h else none)
  | [4] => dm_2 S (fun x y S' => if (S'.map dm_cat).sum ≤ 8 then k (pc + 3) L (dI (if y < x then y else x) :: S') h else none)
  | [7] => dm_r1 S (fun t _ a S' => if t = 1 ∧ (S'.map dm_cat).sum ≤ 8 then k (pc + 3) L S' h else none)
  | 10 :: ds => match S with
    | .inl x :: .inr (.inl (7, _, a)) :: S' => if (S'.map dm_cat).sum ≤ 8 then dm_disp ds a (fun y c b => dm_back k T pc L S' (call y [dR 1 c b, dI x] h)) else none
    | _ => none
  | [0, y, n] => dm_args n S (fun as S' => dm_back k T pc L S' (call y (dm_co cs as) h))
  | [1, y, n] => dm_args n S (fun as S' => dm_back k T pc L S' (call y (dm_co cs as) h))
  | [2, y, n] => dm_args n S (fun as S' => dm_back k T pc L S' (call y (dm_co cs as) h))
  | [11, y, n] => dm_args n S (fun as S' => dm_back k T pc L S' (call y (dm_co cs as) h))
  | [5, y, n] => dm_args n S (fun as S' => dm_recv none as (dm_back k T pc L S' (call y (dm_co cs as) h)))
  | [6, y, n] => dm_args n S (fun as S' => dm_recv none as (dm_back k T pc L S' (call y (dm_co cs as) h)))
  | [8, y, n, ci] => dm_args n S (fun as S' => dm_recv (some ci) as (dm_back k T pc L S' (call y (dm_co cs as) h)))
  | [9, y, n, ci] => dm_args n S (fun as S' => dm_recv (some ci) as (dm_back k T pc L S' (call y (dm_co cs as) h)))
  | _ => none
/-- a branch: off is from pc on -/
abbrev dm_to (pc : Nat) (off : Int) : Nat := ((pc : Int) + off).toNat
def dm_tab (pc : Nat) (dft low high : Int) (offs : Array Int) (x : Int) (f : Nat → dm_O) : dm_O :=
  if low ≤ x ∧ x ≤ high then f (dm_to pc (offs.getD (x - low).toNat dft)) else f (dm_to pc dft)
def dm_exec (sv : Bool) (wrp : Nat) (sh : Nat → Nat × Nat) (call : Nat → List dm_V → dm_H → dm_O) (k : dm_K) (T : dm_T) (pc n : Nat) (i : Instr) (d cs : List Nat) (L : dm_L) (S : List dm_V) (h : dm_H) : dm_O := match i with
  | .iconst x => k (pc + n) L (dI x :: S) h
  | .bipush x => k (pc + n) L (dI x :: S) h
  | .sipush x => k (pc + n) L (dI x :: S) h
  | .ldc _ => match d with
    | [x] => k (pc + n) L (dI x :: S) h
    | _ => none
  | .ldc_w _ => match d with
    | [x] => k (pc + n) L (dI x :: S) h
    | _ => none
  | .aconst_null => k (pc + n) L (dR 0 0 0 :: S) h
  | .lconst x => k (pc + n) L (dJ (x : Nat) :: S) h
  | .iload j => dm_geti L j (fun v => k (pc + n) L (dI v :: S) h)
  | .aload j => dm_getr L j (fun t q a => k (pc + n) L (dR t q a :: S) h)
  | .iload_n j => dm_geti L j (fun v => k (pc + n) L (dI v :: S) h)
  | .aload_n j => dm_getr L j (fun t q a => k (pc + n) L (dR t q a :: S) h)
  | .istore j => match S with
    | .inl x :: S' => dm_put L j (some (dI x)) (fun L' => k (pc + n) L' S' h)
    | _ => none
  | .istore_n j => match S with
    | .inl x :: S' => dm_put L j (some (dI x)) (fun L' => k (pc + n) L' S' h)
    | _ => none
  | .astore j => match S with
    | .inr (.inl r) :: S' => dm_put L j (some (.inr (.inl r))) (fun L' => k (pc + n) L' S' h)
    | _ => none
  | .astore_n j => match S with
    | .inr (.inl r) :: S' => dm_put L j (some (.inr (.inl r))) (fun L' => k (pc + n) L' S' h)
    | _ => none
  | .iinc j c => dm_geti L j (fun x => dm_ck (x + c) (fun z => dm_put L j (some (dI z)) (fun L' => k (pc + n) L' S h)))
  | .pop => match S with
    | .inl _ :: S' => k (pc + n) L S' h
    | .inr (.inl _) :: S' => k (pc + n) L S' h
    | _ => none
  | .dup => match S with
    | .inl x :: S' => k (pc + n) L (dI x :: dI x :: S') h
    | .inr (.inl r) :: S' => k (pc + n) L (.inr (.inl r) :: .inr (.inl r) :: S') h
    | _ => none
  | .dup2 => match S with
    | .inl x :: .inr (.inl r) :: S' => k (pc + n) L (dI x :: .inr (.inl r) :: dI x :: .inr (.inl r) :: S') h
    | _ => none
  | .iadd => match wrp with
    | 1 => dm_2 S (fun x y S' => k (pc + n) L (dI (dm_w (x + y)) :: S') h)
    | _ => dm_2 S (fun x y S' => dm_ck (x + y) (fun z => k (pc + n) L (dI z :: S') h))
  | .isub => dm_2 S (fun x y S' => dm_ck (x - y) (fun z => k (pc + n) L (dI z :: S') h))
  | .imul => match wrp with
    | 1 => dm_2 S (fun x y S' => k (pc + n) L (dI (dm_w (x * y)) :: S') h)
    | _ => dm_2 S (fun x y S' => dm_ck (x * y) (fun z => k (pc + n) L (dI z :: S') h))
  | .idiv => dm_2 S (fun x y S' => if 0 ≤ x ∧ 0 < y then k (pc + n) L (dI (x / y) :: S') h else none)
  | .irem => dm_2 S (fun x y S' => if 0 ≤ x ∧ 0 < y then k (pc + n) L (dI (x % y) :: S') h else none)
  | .iand => dm_2 S (fun x y S' => k (pc + n) L (dI (dm_and x y) :: S') h)
  | .ior => dm_2 S (fun x y S' => k (pc + n) L (dI (dm_or x y) :: S') h)
  | .ixor => dm_2 S (fun x y S' => k (pc + n) L (dI (dm_xor x y) :: S') h)
  | .ishl => dm_2 S (fun x y S' => k (pc + n) L (dI (dm_shl x y) :: S') h)
  | .ishr => dm_2 S (fun x y S' => k (pc + n) L (dI (dm_shr x y) :: S') h)
  | .i2l => dm_1 S (fun x S' => k (pc + n) L (dJ x :: S') h)
  | .lcmp => match S with
    | .inr (.inr y) :: .inr (.inr x) :: S' => k (pc + n) L (dI (if x < y then -1 else if x = y then 0 else 1) :: S') h
    | _ => none
  | .ifCond c off => dm_1 S (fun x S' => dm_cmp c x 0 (k (dm_to pc off) L S' h) (k (pc + n) L S' h))
  | .if_icmp c off => dm_2 S (fun x y S' => dm_cmp c x y (k (dm_to pc off) L S' h) (k (pc + n) L S' h))
  | .ifnull off => dm_r1 S (fun _ _ a S' => if a = 0 then k (dm_to pc off) L S' h else k (pc + n) L S' h)
  | .ifnonnull off => dm_r1 S (fun _ _ a S' => if a = 0 then k (pc + n) L S' h else k (dm_to pc off) L S' h)
  | .goto off => k (dm_to pc off) L S h
  | .tableswitch dft low high offs => dm_1 S (fun x S' => dm_tab pc dft low high offs x (fun q => k q L S' h))
  | .ireturn => match S with
    | [.inl x] => match wrp with
      | 2 => dm_z1 x (some (.inl (some (dI x)), h))
      | _ => some (.inl (some (dI x)), h)
    | _ => none
  | .areturn => match S with
    | [.inr (.inl (1, p, a))] => some (.inl (some (dR 1 p a)), h)
    | _ => none
  | .return_ => match S with
    | [] => some (.inl none, h)
    | _ => none
  | .getstatic _ => k (pc + n) L (dR 9 3 1001 :: S) h
  | .getfield _ => match d with
    | ci :: j :: d' => dm_r1 S (fun t p a S' => if t = 1 ∧ p = ci then dm_ld sv sh h a j d' (fun v => k (pc + n) L (v :: S') h) else none)
    | _ => none
  | .putfield _ => match d, S with
    | ci :: j :: d', v :: .inr (.inl (t, p, a)) :: S' => if t = 1 ∧ p = ci then dm_st sv h a j d' v (fun h' => k (pc + n) L S' h') else none
    | _, _ => none
  | .iaload => dm_ri S (fun t p a i S' => match t with
    | 2 => dm_ix i p (k (pc + n) L (dI (gi h a i) :: S') h)
    | 8 => match sv with
      | true => dm_ix i p (k (pc + n) L (dI (gi h a i) :: S') h)
      | false => none
    | 9 => dm_ix i p (k (pc + n) L (dI (dm_unit i) :: S') h)
    | _ => none)
  | .baload => dm_ri S (fun t p a i S' => match t with
    | 3 => dm_ix i p (k (pc + n) L (dI (gi h a i) :: S') h)
    | _ => none)
  | .laload => dm_ri S (fun t p _ i S' => match t with
    | 4 => dm_ix i p (k (pc + n) L (dJ (gl h i) :: S') h)
    | _ => none)
  | .aaload => dm_ri S (fun t p a i S' => match t with
    | 5 => dm_ix i p (match sv with
      | true => k (pc + n) L (dR 1 8 (gr h a i) :: S') h
      | false => if sh (gr h a i) = (1, 8) ∧ gr h a i ≠ 0 then k (pc + n) L (dR 1 8 (gr h a i) :: S') h else none)
    | 6 => match sv with
      | true => dm_ix i p (k (pc + n) L (dR 2 32 (a + 1 + i.toNat) :: S') h)
      | false => none
    | _ => none)
  | .iastore => match S with
    | .inl x :: .inl i :: .inr (.inl (2, p, a)) :: S' => dm_ix i p (k (pc + n) L S' (si h a i x))
    | _ => none
  | .bastore => match S with
    | .inl x :: .inl i :: .inr (.inl (3, p, a)) :: S' => dm_ix i p (dm_z1 x (k (pc + n) L S' (si h a i x)))
    | _ => none
  | .lastore => match S with
    | .inr (.inr x) :: .inl i :: .inr (.inl (4, p, _)) :: S' => dm_ix i p (k (pc + n) L S' (sl h i x))
    | _ => none
  | .aastore => match S with
    | .inr (.inl (1, 8, b)) :: .inl i :: .inr (.inl (5, p, a)) :: S' => dm_ix i p (k (pc + n) L S' (sr h a i b))
    | _ => none
  | .arraylength => dm_r1 S (fun t p _ S' => if t = 2 ∨ t = 8 then k (pc + n) L (dI p :: S') h else none)
  | .new _ => match d with
    | [1, E] => match sv, S with
      | true, [] => match dm_find T pc E with
        | none => some (.inr E, sg h 6)
        | some _ => none
      | _, _ => none
    | [0, ci, m] => dm_new sv sh h 1 ci m (fun h' v => k (pc + n) L (v :: S) h')
    | _ => none
  | .newarray _ => match d with
    | [t] => dm_1 S (fun x S' => if 0 ≤ x then dm_new sv sh h t x.toNat x.toNat (fun h' v => k (pc + n) L (v :: S') h') else none)
    | _ => none
  | .anewarray _ => dm_1 S (fun x S' => if 0 ≤ x then dm_new sv sh h 5 x.toNat x.toNat (fun h' v => k (pc + n) L (v :: S') h') else none)
  | .multianewarray _ _ => match S with
    | .inl m :: .inl x :: S' => match sv with
      | true => none
      | false => if x = 6 ∧ m = 32 ∧ (List.range 7).all (fun j => decide (sh (gz h + j) = if j = 0 then (6, 6) else (2, 32))) = true then
          k (pc + n) L (dR 6 6 (gz h) :: S') (dm_sgs (sg (sz (dm_grid h (gz h) 6) 7) 6) 6 32) else none
    | _ => none
  | .invokevirtual _ => dm_call call k T pc L S h d cs
  | .invokestatic _ => dm_call call k T pc L S h d cs
  | .invokespecial _ => dm_call call k T pc L S h d cs
  | _ => none
/-- a method of the small machine: its code, its handlers, how many locals, 1 where its sums wrap, 2 where it answers a boolean -/
abbrev dm_E1 : Type := Nat × Instr × Nat × List Nat × List Nat
abbrev dm_M : Type := List dm_E1 × dm_T × Nat × Nat
abbrev dm_Pg : Type := Nat → dm_M
def dm_at (C : List dm_E1) (pc : Nat) : Option (Instr × Nat × List Nat × List Nat) := match C with
  | [] => none
  | (q, r) :: C' => match Nat.beq q pc with
    | true => some r
    | false => dm_at C' pc
def dm_loop (C : List dm_E1) (T : dm_T) (wrp : Nat) (sv : Bool) (sh : Nat → Nat × Nat) (call : Nat → List dm_V → dm_H → dm_O) : Nat → dm_K
  | 0 => fun _ _ _ _ => none
  | n + 1 => fun pc L S h => match dm_at C pc with
    | some (i, len, d, cs) => dm_exec sv wrp sh call (dm_loop C T wrp sv sh call n) T pc len i d cs L S h
    | none => none
def dm_ent (nL : Nat) (as : List dm_V) : dm_L := as.map some ++ List.replicate (nL - as.length) none
def dm_inv (P : dm_Pg) (sv : Bool) (sh : Nat → Nat × Nat) : Nat → Nat → Nat → List dm_V → dm_H → dm_O
  | 0 => fun _ _ _ _ => none
  | d + 1 => fun n y as h => dm_loop (P y).1 (P y).2.1 (P y).2.2.2 sv sh (dm_inv P sv sh d n) n 0 (dm_ent (P y).2.2.1 as) [] h
