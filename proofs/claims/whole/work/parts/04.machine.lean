/-! THE PURE MACHINE: a small machine over plain numbers, to which every walk is brought once and for all (part 06). Values: an int, a thing (its kind and its place), a long, a float, a double. -/
abbrev pm_V : Type := Int ⊕ (Nat × Nat) ⊕ Int ⊕ UInt32 ⊕ UInt64
/-- how many things there are, the kind of each, which fields that hold things are set -/
abbrev pm_Sh : Type := Nat × (Nat → Nat) × (Nat → Nat → Bool)
/-- .. and what all fields and elements that are numbers hold -/
abbrev pm_Me : Type := pm_Sh × (Nat → Nat → Int)
/-- pc, locals, stack, memory, cells and slots made -/
abbrev pm_St : Type := Nat × List (Option pm_V) × List pm_V × pm_Me × Nat × Nat
abbrev pm_En : Type := Instr × Nat × Nat × Nat
def pm_r (x : Int) : Prop := -2147483648 ≤ x ∧ x ≤ 2147483647
def pm_up (M : Nat → Nat → Int) (q j : Nat) (x : Int) : Nat → Nat → Int := fun a b => if a = q ∧ b = j then x else M a b
def pm_ub (M : Nat → Nat → Bool) (q j : Nat) : Nat → Nat → Bool := fun a b => if a = q ∧ b = j then true else M a b
def pm_kd (K : Nat → Nat) (q κ : Nat) : Nat → Nat := fun a => if a = q then κ else K a
def pm_nb (M : Nat → Nat → Bool) (q : Nat) : Nat → Nat → Bool := fun a b => if a = q then false else M a b
def pm_nm (M : Nat → Nat → Int) (q : Nat) : Nat → Nat → Int := fun a b => if a = q then 0 else M a b
/-- n elements of q from i on come into q' from i' on -/
def pm_cp (M : Nat → Nat → Int) (q i q' i' n : Nat) : Nat → Nat → Int := fun a b => if a = q' ∧ i' ≤ b ∧ b < i' + n then M q (i + (b - i')) else M a b
def pm_i (st : List pm_V) (k : Int → List pm_V → Prop) : Prop := match st with
  | .inl x :: r => k x r
  | _ => False
def pm_a (st : List pm_V) (k : Nat → Nat → List pm_V → Prop) : Prop := match st with
  | .inr (.inl (κ, q)) :: r => k κ q r
  | _ => False
def pm_l (st : List pm_V) (k : Int → List pm_V → Prop) : Prop := match st with
  | .inr (.inr (.inl x)) :: r => k x r
  | _ => False
def pm_f (st : List pm_V) (k : UInt32 → List pm_V → Prop) : Prop := match st with
  | .inr (.inr (.inr (.inl x))) :: r => k x r
  | _ => False
def pm_d (st : List pm_V) (k : UInt64 → List pm_V → Prop) : Prop := match st with
  | .inr (.inr (.inr (.inr x))) :: r => k x r
  | _ => False
/-- the local i -/
def pm_ld : List (Option pm_V) → Nat → Option pm_V
  | [], _ => none
  | o :: _, 0 => o
  | _ :: L, i + 1 => pm_ld L i
def pm_lst (o : Option pm_V) : List pm_V := match o with
  | some v => [v]
  | none => []
def pm_c2 (v : pm_V) : Bool := match v with
  | .inr (.inr (.inl _)) => true
  | .inr (.inr (.inr (.inr _))) => true
  | _ => false
def pm_k2 (o : Option pm_V) : Option pm_V := match o with
  | some (.inr (.inr (.inl _))) => none
  | some (.inr (.inr (.inr (.inr _)))) => none
  | o => o
def pm_s1 : List (Option pm_V) → Nat → pm_V → List (Option pm_V)
  | [], _, _ => []
  | _ :: L, 0, v => some v :: L
  | o :: L, 1, v => pm_k2 o :: pm_s1 L 0 v
  | o :: L, i + 2, v => o :: pm_s1 L (i + 1) v
def pm_s2 : List (Option pm_V) → Nat → pm_V → List (Option pm_V)
  | [], _, _ => []
  | _ :: [], 0, _ => [none]
  | _ :: _ :: L, 0, v => some v :: none :: L
  | o :: L, 1, v => pm_k2 o :: pm_s2 L 0 v
  | o :: L, i + 2, v => o :: pm_s2 L (i + 1) v
/-- the local i is forgotten -/
def pm_s0 : List (Option pm_V) → Nat → List (Option pm_V)
  | [], _ => []
  | _ :: L, 0 => none :: L
  | o :: L, 1 => pm_k2 o :: pm_s0 L 0
  | o :: L, i + 2 => o :: pm_s0 L (i + 1)
/-- the locals with which a method begins -/
def pm_lc : Nat → List pm_V → List (Option pm_V)
  | n, [] => List.replicate n none
  | n, v :: vs => bif pm_c2 v then some v :: none :: pm_lc (n - 2) vs else some v :: pm_lc (n - 1) vs
/-- a number that must be a truth value -/
def pm_z (c : Nat) (x : Int) (k : Prop) : Prop := bif Nat.beq c 1 then (x = 0 ∨ x = 1) ∧ k else k
def pm_cmp (o : Jvm.ClassFile.Cond) (x y : Int) : Prop := match o with
  | .eq => x = y
  | .ne => x ≠ y
  | .lt => x < y
  | .ge => y ≤ x
  | .gt => y < x
  | .le => x ≤ y
def pm_i32 (x : Int) : Int32 := Int32.ofInt x
/-- how many fields a class has -/
def pm_nf (κ : Nat) : Nat := ([4, 7, 1, 2, 3, 3, 2, 7, 13, 45] : List Nat).getD κ 0
def pm_and (x y : Int) : Int := (Int32.ofInt x &&& Int32.ofInt y).toInt
def pm_or (x y : Int) : Int := (Int32.ofInt x ||| Int32.ofInt y).toInt
def pm_xor (x y : Int) : Int := (Int32.ofInt x ^^^ Int32.ofInt y).toInt
def pm_shl (x y : Int) : Int := (Int32.ofInt x <<< (Int32.ofInt y &&& 31)).toInt
def pm_shr (x y : Int) : Int := (Int32.ofInt x >>> (Int32.ofInt y &&& 31)).toInt
def pm_lcmp (x y : Int) : Int := if x < y then -1 else if x = y then 0 else 1
def pm_fk9 : List Nat := [0, 0, 1016, 0, 0, 1025, 1005, 1017, 1005, 1061, 0, 0, 1006, 1121, 0, 0, 0, 0, 1016, 1025, 1005, 1017, 1006, 0, 1016, 0, 1025, 1006, 1006, 0, 0, 0, 0, 1011, 1033, 1033, 0, 0, 0, 0, 0, 1025, 1097, 1005, 1017]
def pm_rf9 : List Nat := [0, 0, 1, 0, 0, 2, 3, 4, 5, 6, 0, 0, 7, 8, 0, 0, 0, 0, 9, 10, 11, 12, 13, 0, 14, 0, 15, 16, 17, 0, 0, 0, 0, 18, 19, 20, 0, 0, 0, 0, 0, 21, 22, 23, 24]
/-- a field's kind: 0 a number, else 1 and the kind of the thing that it holds -/
def pm_fk (κ j : Nat) : Nat := match κ with
  | 0 => ([0, 7, 7, 3] : List Nat).getD j 0
  | 1 => ([7, 7, 1006, 1025, 1006, 1006, 1006] : List Nat).getD j 0
  | 2 => ([5005] : List Nat).getD j 0
  | 3 => ([0, 5006] : List Nat).getD j 0
  | 4 => ([1006, 1033, 1033] : List Nat).getD j 0
  | 6 => ([1025, 0] : List Nat).getD j 0
  | 7 => ([2, 7, 7, 0, 0, 0, 0] : List Nat).getD j 0
  | 8 => ([1, 1, 0, 5005, 2005, 4, 2, 8, 5, 6, 3, 7, 7] : List Nat).getD j 0
  | 9 => (pm_fk9 : List Nat).getD j 0
  | _ => 0
/-- where the thing lies that a field, or an element, holds: the layout is fixed -/
def pm_rf (κ q j : Nat) : Nat := match κ with
  | 0 => q + ([0, 1, 3, 5] : List Nat).getD j 0
  | 1 => q + ([1, 3, 5, 6, 7, 8, 9] : List Nat).getD j 0
  | 2 => q + 1
  | 3 => q + 1
  | 4 => q + 1 + j
  | 6 => q + 1
  | 7 => q + ([1, 11, 13] : List Nat).getD j 0
  | 8 => q + ([1, 16, 0, 31, 40, 41, 53, 63, 78, 82, 83, 93, 95] : List Nat).getD j 0
  | 9 => q + (pm_rf9 : List Nat).getD j 0
  | _ => q + 1 + 2 * j
