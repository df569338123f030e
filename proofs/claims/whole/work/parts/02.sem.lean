/-! THE ABSTRACT MACHINE: numbers are Int, a cell is a number, a heap says what each slot of each cell holds. -/
abbrev Hp := Int → Int → Int
def up (h : Hp) (a i v : Int) : Hp := fun b j => if b = a ∧ j = i then v else h b j
def w32 (x : Int) : Int := if -2147483648 ≤ x ∧ x < 2147483648 then x else w32 (x.bmod 4294967296)
termination_by (if -2147483648 ≤ x ∧ x < 2147483648 then 0 else 1 : Nat)
decreasing_by
  rename_i h
  have h1 : -2147483648 ≤ x.bmod 4294967296 ∧ x.bmod 4294967296 < 2147483648 := by
    constructor
    · have := Int.le_bmod (x := x) (m := 4294967296) (by decide)
      omega
    · have := Int.bmod_lt (x := x) (m := 4294967296) (by decide)
      omega
  rw [if_pos h1, if_neg h]
  decide
theorem w32_id {x : Int} (h1 : -2147483648 ≤ x) (h2 : x < 2147483648) : w32 x = x := by rw [w32, if_pos ⟨h1, h2⟩]
theorem w32_bmod (x : Int) : w32 x = x.bmod 4294967296 := by
  rw [w32]
  split
  · rename_i h
    rw [Int.bmod_eq_of_le (by omega) (by omega)]
  · have h1 : -2147483648 ≤ x.bmod 4294967296 := by
      have := Int.le_bmod (x := x) (m := 4294967296) (by decide)
      omega
    have h2 : x.bmod 4294967296 < 2147483648 := by
      have := Int.bmod_lt (x := x) (m := 4294967296) (by decide)
      omega
    rw [w32_id h1 h2]
theorem w32_lo (x : Int) : -2147483648 ≤ w32 x := by
  rw [w32_bmod]
  have := Int.le_bmod (x := x) (m := 4294967296) (by decide)
  omega
theorem w32_hi (x : Int) : w32 x < 2147483648 := by
  rw [w32_bmod]
  have := Int.bmod_lt (x := x) (m := 4294967296) (by decide)
  omega
def w64 (x : Int) : Int := if -9223372036854775808 ≤ x ∧ x < 9223372036854775808 then x else w64 (x.bmod 18446744073709551616)
termination_by (if -9223372036854775808 ≤ x ∧ x < 9223372036854775808 then 0 else 1 : Nat)
decreasing_by
  rename_i h
  have h1 : -9223372036854775808 ≤ x.bmod 18446744073709551616 ∧ x.bmod 18446744073709551616 < 9223372036854775808 := by
    constructor
    · have := Int.le_bmod (x := x) (m := 18446744073709551616) (by decide)
      omega
    · have := Int.bmod_lt (x := x) (m := 18446744073709551616) (by decide)
      omega
  rw [if_pos h1, if_neg h]
  decide
theorem w64_id {x : Int} (h1 : -9223372036854775808 ≤ x) (h2 : x < 9223372036854775808) : w64 x = x := by rw [w64, if_pos ⟨h1, h2⟩]
theorem w64_bmod (x : Int) : w64 x = x.bmod 18446744073709551616 := by
  rw [w64]
  split
  · rename_i h
    rw [Int.bmod_eq_of_le (by omega) (by omega)]
  · have h1 : -9223372036854775808 ≤ x.bmod 18446744073709551616 := by
      have := Int.le_bmod (x := x) (m := 18446744073709551616) (by decide)
      omega
    have h2 : x.bmod 18446744073709551616 < 9223372036854775808 := by
      have := Int.bmod_lt (x := x) (m := 18446744073709551616) (by decide)
      omega
    rw [w64_id h1 h2]
theorem w64_lo (x : Int) : -9223372036854775808 ≤ w64 x := by
  rw [w64_bmod]
  have := Int.le_bmod (x := x) (m := 18446744073709551616) (by decide)
  omega
theorem w64_hi (x : Int) : w64 x < 9223372036854775808 := by
  rw [w64_bmod]
  have := Int.bmod_lt (x := x) (m := 18446744073709551616) (by decide)
  omega
def w8 (x : Int) : Int := if -128 ≤ x ∧ x < 128 then x else w8 (x.bmod 256)
termination_by (if -128 ≤ x ∧ x < 128 then 0 else 1 : Nat)
decreasing_by
  rename_i h
  have h1 : -128 ≤ x.bmod 256 ∧ x.bmod 256 < 128 := by
    constructor
    · have := Int.le_bmod (x := x) (m := 256) (by decide)
      omega
    · have := Int.bmod_lt (x := x) (m := 256) (by decide)
      omega
  rw [if_pos h1, if_neg h]
  decide
theorem w8_id {x : Int} (h1 : -128 ≤ x) (h2 : x < 128) : w8 x = x := by rw [w8, if_pos ⟨h1, h2⟩]
theorem w8_bmod (x : Int) : w8 x = x.bmod 256 := by
  rw [w8]
  split
  · rename_i h
    rw [Int.bmod_eq_of_le (by omega) (by omega)]
  · have h1 : -128 ≤ x.bmod 256 := by
      have := Int.le_bmod (x := x) (m := 256) (by decide)
      omega
    have h2 : x.bmod 256 < 128 := by
      have := Int.bmod_lt (x := x) (m := 256) (by decide)
      omega
    rw [w8_id h1 h2]
def ltt {α β : Type} (v : α) (f : α → β) : β := f v
def grd {α : Type} (c : Prop) [Decidable c] (x : Option α) : Option α := if c then x else none
def bnd {α : Type} (o : Option (Int × Hp)) (f : Int → Hp → Option α) : Option α := match o with
  | some (r, h) => f r h
  | none => none
def bndp {α : Type} (o : Option Int) (f : Int → Option α) : Option α := match o with
  | some r => f r
  | none => none
def bndh {α : Type} (o : Option Hp) (f : Hp → Option α) : Option α := match o with
  | some h => f h
  | none => none
def bndx {β α : Type} (o : Option β) (f : β → Option α) : Option α := match o with
  | some b => f b
  | none => none
def bnds {β γ α : Type} (o : Option (β ⊕ γ)) (f : β → Option α) (g : γ → Option α) : Option α := match o with
  | some (.inl b) => f b
  | some (.inr b) => g b
  | none => none
def lcp (x y : Int) : Int := if x < y then -1 else if x = y then 0 else 1
def iand (x y : Int) : Int := (Int32.ofInt x &&& Int32.ofInt y).toInt
def ior (x y : Int) : Int := (Int32.ofInt x ||| Int32.ofInt y).toInt
def ishl (x y : Int) : Int := (Int32.ofInt x <<< (Int32.ofInt y &&& 31)).toInt
def ishr (x y : Int) : Int := (Int32.ofInt x >>> (Int32.ofInt y &&& 31)).toInt
def iushr (x y : Int) : Int := (((Int32.ofInt x).toUInt32 >>> ((Int32.ofInt y).toUInt32 &&& Int32.toUInt32 31)).toInt32).toInt
def lshr (x y : Int) : Int := (Int64.ofInt x >>> ((Int32.ofInt y).toInt64 &&& 63)).toInt
def lushr (x y : Int) : Int := ((Int64.ofInt x).toUInt64 >>> ((Int32.ofInt y).toInt64.toUInt64 &&& 63)).toInt64.toInt
def lor (x y : Int) : Int := (Int64.ofInt x ||| Int64.ofInt y).toInt
def lshl (x y : Int) : Int := (Int64.ofInt x <<< ((Int32.ofInt y).toInt64 &&& 63)).toInt
/-- a value with its kind: 0 int, 1 long, 2 a String constant, 3 the script, 4 + c an object of class c, 20 + 8 * length + e an array -/
abbrev AV := Nat × Int
abbrev Lc := List (Nat × AV)
abbrev FN (ρ : Type) := List Int → Hp → (Int → Hp → Option ρ) → Option ρ
def nofn {ρ : Type} : FN ρ := fun _ _ _ => none
/-- an instruction: where, what, how long, its resolved numbers -/
abbrev SI := Nat × Instr × Nat × List Nat × Int
abbrev SD := List (Nat × List SI)
def alen (t : Nat) : Int := Int.ofNat ((t - 20) / 8)
def aknd (t : Nat) : Nat := (t - 20) % 8
/-- the kind of an array's elements -/
def aetag (t : Nat) : Nat := match aknd t with
  | 0 => 0
  | 1 => 1
  | 2 => 0
  | 3 => 0
  | 4 => 12
  | 5 => 6
  | _ => match Nat.beq ((t - 20) / 8) 3 with
    | true => 540
    | false => 532
def ldT {ρ : Type} : Lc → Nat → Nat → (Int → Option ρ) → Option ρ
  | [], _, _, _ => none
  | (j, v) :: t, i, g, K => match Nat.beq j i with
    | true => match Nat.beq v.1 g with
      | true => K v.2
      | false => none
    | false => ldT t i g K
def ldR {ρ : Type} : Lc → Nat → (Nat → Int → Option ρ) → Option ρ
  | [], _, _ => none
  | (j, tg, x) :: t, i, K => match Nat.beq j i with
    | true => match Nat.ble 2 tg with
      | true => K tg x
      | false => none
    | false => ldR t i K
def kp1 (i j t : Nat) : Bool := !(Nat.beq j i) && !(Nat.beq (j + 1) i && Nat.beq t 1)
def kp2 (i j t : Nat) : Bool := !(Nat.beq j i) && (!(Nat.beq j (i + 1)) && !(Nat.beq (j + 1) i && Nat.beq t 1))
def flt1 {ρ : Type} : Lc → Nat → (Lc → Option ρ) → Option ρ
  | [], _, K => K []
  | (j, v) :: t, i, K => flt1 t i (fun t' => match kp1 i j v.1 with
    | true => K ((j, v) :: t')
    | false => K t')
def flt2 {ρ : Type} : Lc → Nat → (Lc → Option ρ) → Option ρ
  | [], _, K => K []
  | (j, v) :: t, i, K => flt2 t i (fun t' => match kp2 i j v.1 with
    | true => K ((j, v) :: t')
    | false => K t')
def st1 {ρ : Type} (L : Lc) (i : Nat) (v : AV) (K : Lc → Option ρ) : Option ρ := flt1 L i (fun L' => K ((i, v) :: L'))
def st2 {ρ : Type} (L : Lc) (i : Nat) (v : AV) (K : Lc → Option ρ) : Option ρ := flt2 L i (fun L' => K ((i, v) :: L'))
/-- takes arguments of these kinds (the last one first) off the stack -/
def popA {ρ : Type} : List Nat → List AV → List Int → (List Int → List AV → Option ρ) → Option ρ
  | [], S, a, K => K a S
  | _ :: _, [], _, _ => none
  | t :: ts, (t', v) :: S, a, K => match Nat.beq t t' with
    | true => popA ts S (v :: a) K
    | false => none
def nthF {ρ : Type} : List (FN ρ) → Nat → (FN ρ → Option ρ) → Option ρ
  | [], _, _ => none
  | f :: _, 0, K => K f
  | _ :: l, i + 1, K => nthF l i K
def dpt : List AV → Nat
  | [] => 0
  | (t, _) :: S => (match Nat.beq t 1 with | true => 2 | false => 1) + dpt S
def tgt (pc : Nat) (off : Int) : Nat := ((pc : Int) + off).toNat
def tsl {ρ : Type} (x : Int) (pc : Nat) (j : Nat → Option ρ) (d : Int) : List Int → Int → Option ρ
  | [], _ => j (tgt pc d)
  | o :: os, i => if x = i then j (tgt pc o) else tsl x pc j d os (i + 1)
def lsl {ρ : Type} (x : Int) (pc : Nat) (j : Nat → Option ρ) (d : Int) : List (Int × Int) → Option ρ
  | [] => j (tgt pc d)
  | (i, o) :: os => if x = i then j (tgt pc o) else lsl x pc j d os
/-- how many cells a heap has -/
def cnt (h : Hp) : Int := h (-1) 0
