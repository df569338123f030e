section
/-! THE ABSTRACT MACHINE: numbers are Int, a cell is a number, a heap says what each slot of each cell holds. -/
abbrev Hp := Int → Int → Int
def up (h : Hp) (a i v : Int) : Hp := fun b j => if b = a ∧ j = i then v else h b j
def w32 (x : Int) : Int := if -2147483648 ≤ x ∧ x < 2147483648 then x else w32 (x.bmod 4294967296)
termination_by (if -2147483648 ≤ x ∧ x < 2147483648 then 0 else 1 : Nat)
decreasing_by
  rename_i h
  have h1 : -2147483648 ≤ x.bmod 4294967296 ∧ x.bmod 4294967296 < 2147483648 := by
    constructor
    · have := Int.le_bmod (x := x) (m := 4294967296) (by decide)
      omega
    · have := Int.bmod_lt (x := x) (m := 4294967296) (by decide)
      omega
  rw [if_pos h1, if_neg h]
  decide
theorem w32_id {x : Int} (h1 : -2147483648 ≤ x) (h2 : x < 2147483648) : w32 x = x := by rw [w32, if_pos ⟨h1, h2⟩]
theorem w32_bmod (x : Int) : w32 x = x.bmod 4294967296 := by
  rw [w32]
  split
  · rename_i h
    rw [Int.bmod_eq_of_le (by omega) (by omega)]
  · have h1 : -2147483648 ≤ x.bmod 4294967296 := by
      have := Int.le_bmod (x := x) (m := 4294967296) (by decide)
      omega
    have h2 : x.bmod 4294967296 < 2147483648 := by
      have := Int.bmod_lt (x := x) (m := 4294967296) (by decide)
      omega
    rw [w32_id h1 h2]
theorem w32_lo (x : Int) : -2147483648 ≤ w32 x := by
  rw [w32_bmod]
  have := Int.le_bmod (x := x) (m := 4294967296) (by decide)
  omega
theorem w32_hi (x : Int) : w32 x < 2147483648 := by
  rw [w32_bmod]
  have := Int.bmod_lt (x := x) (m := 4294967296) (by decide)
  omega
def w64 (x : Int) : Int := if -9223372036854775808 ≤ x ∧ x < 9223372036854775808 then x else w64 (x.bmod 18446744073709551616)
termination_by (if -9223372036854775808 ≤ x ∧ x < 9223372036854775808 then 0 else 1 : Nat)
decreasing_by
  rename_i h
  have h1 : -9223372036854775808 ≤ x.bmod 18446744073709551616 ∧ x.bmod 18446744073709551616 < 9223372036854775808 := by
    constructor
    · have := Int.le_bmod (x := x) (m := 18446744073709551616) (by decide)
      omega
    · have := Int.bmod_lt (x := x) (m := 18446744073709551616) (by decide)
      omega
  rw [if_pos h1, if_neg h]
  decide
theorem w64_id {x : Int} (h1 : -9223372036854775808 ≤ x) (h2 : x < 9223372036854775808) : w64 x = x := by rw [w64, if_pos ⟨h1, h2⟩]
theorem w64_bmod (x : Int) : w64 x = x.bmod 18446744073709551616 := by
  rw [w64]
  split
  · rename_i h
    rw [Int.bmod_eq_of_le (by omega) (by omega)]
  · have h1 : -9223372036854775808 ≤ x.bmod 18446744073709551616 := by
      have := Int.le_bmod (x := x) (m := 18446744073709551616) (by decide)
      omega
    have h2 : x.bmod 18446744073709551616 < 9223372036854775808 := by
      have := Int.bmod_lt (x := x) (m := 18446744073709551616) (by decide)
      omega
    rw [w64_id h1 h2]
theorem w64_lo (x : Int) : -9223372036854775808 ≤ w64 x := by
  rw [w64_bmod]
  have := Int.le_bmod (x := x) (m := 18446744073709551616) (by decide)
  omega
theorem w64_hi (x : Int) : w64 x < 9223372036854775808 := by
  rw [w64_bmod]
  have := Int.bmod_lt (x := x) (m := 18446744073709551616) (by decide)
  omega
def w8 (x : Int) : Int := if -128 ≤ x ∧ x < 128 then x else w8 (x.bmod 256)
termination_by (if -128 ≤ x ∧ x < 128 then 0 else 1 : Nat)
decreasing_by
  rename_i h
  have h1 : -128 ≤ x.bmod 256 ∧ x.bmod 256 < 128 := by
    constructor
    · have := Int.le_bmod (x := x) (m := 256) (by decide)
      omega
    · have := Int.bmod_lt (x := x) (m := 256) (by decide)
      omega
  rw [if_pos h1, if_neg h]
  decide
theorem w8_id {x : Int} (h1 : -128 ≤ x) (h2 : x < 128) : w8 x = x := by rw [w8, if_pos ⟨h1, h2⟩]
theorem w8_bmod (x : Int) : w8 x = x.bmod 256 := by
  rw [w8]
  split
  · rename_i h
    rw [Int.bmod_eq_of_le (by omega) (by omega)]
  · have h1 : -128 ≤ x.bmod 256 := by
      have := Int.le_bmod (x := x) (m := 256) (by decide)
      omega
    have h2 : x.bmod 256 < 128 := by
      have := Int.bmod_lt (x := x) (m := 256) (by decide)
      omega
    rw [w8_id h1 h2]
def ltt {α β : Type} (v : α) (f : α → β) : β := f v
def grd {α : Type} (c : Prop) [Decidable c] (x : Option α) : Option α := if c then x else none
def bnd {α : Type} (o : Option (Int × Hp)) (f : Int → Hp → Option α) : Option α := match o with
  | some (r, h) => f r h
  | none => none
def bndp {α : Type} (o : Option Int) (f : Int → Option α) : Option α := match o with
  | some r => f r
  | none => none
def bndh {α : Type} (o : Option Hp) (f : Hp → Option α) : Option α := match o with
  | some h => f h
  | none => none
def bndx {β α : Type} (o : Option β) (f : β → Option α) : Option α := match o with
  | some b => f b
  | none => none
def bnds {β γ α : Type} (o : Option (β ⊕ γ)) (f : β → Option α) (g : γ → Option α) : Option α := match o with
  | some (.inl b) => f b
  | some (.inr b) => g b
  | none => none
def lcp (x y : Int) : Int := if x < y then -1 else if x = y then 0 else 1
def iand (x y : Int) : Int := (Int32.ofInt x &&& Int32.ofInt y).toInt
def ior (x y : Int) : Int := (Int32.ofInt x ||| Int32.ofInt y).toInt
def ishl (x y : Int) : Int := (Int32.ofInt x <<< (Int32.ofInt y &&& 31)).toInt
def ishr (x y : Int) : Int := (Int32.ofInt x >>> (Int32.ofInt y &&& 31)).toInt
def iushr (x y : Int) : Int := (((Int32.ofInt x).toUInt32 >>> ((Int32.ofInt y).toUInt32 &&& Int32.toUInt32 31)).toInt32).toInt
def lshl (x y : Int) : Int := (Int64.ofInt x <<< ((Int32.ofInt y).toInt64 &&& 63)).toInt
/-- a value with its kind: 0 int, 1 long, 2 a String constant, 3 the script, 4 + c an object of class c, 20 + 8 * length + e an array -/
abbrev AV := Nat × Int
abbrev Lc := List (Nat × AV)
abbrev FN (ρ : Type) := List Int → Hp → (Int → Hp → Option ρ) → Option ρ
def nofn {ρ : Type} : FN ρ := fun _ _ _ => none
/-- an instruction: where, what, how long, its resolved numbers -/
abbrev SI := Nat × Instr × Nat × List Nat × Int
abbrev SD := List (Nat × List SI)
def alen (t : Nat) : Int := Int.ofNat ((t - 20) / 8)
def aknd (t : Nat) : Nat := (t - 20) % 8
/-- the kind of an array's elements -/
def aetag (t : Nat) : Nat := match aknd t with
  | 0 => 0
  | 1 => 1
  | 2 => 0
  | 3 => 0
  | 4 => 12
  | 5 => 6
  | _ => match Nat.beq ((t - 20) / 8) 3 with
    | true => 540
    | false => 532
def ldT {ρ : Type} : Lc → Nat → Nat → (Int → Option ρ) → Option ρ
  | [], _, _, _ => none
  | (j, v) :: t, i, g, K => match Nat.beq j i with
    | true => match Nat.beq v.1 g with
      | true => K v.2
      | false => none
    | false => ldT t i g K
def ldR {ρ : Type} : Lc → Nat → (Nat → Int → Option ρ) → Option ρ
  | [], _, _ => none
  | (j, v) :: t, i, K => match Nat.beq j i with
    | true => match Nat.ble 2 v.1 with
      | true => K v.1 v.2
      | false => none
    | false => ldR t i K
def kp1 (i j t : Nat) : Bool := !(Nat.beq j i) && !(Nat.beq (j + 1) i && Nat.beq t 1)
def kp2 (i j t : Nat) : Bool := !(Nat.beq j i) && (!(Nat.beq j (i + 1)) && !(Nat.beq (j + 1) i && Nat.beq t 1))
def flt1 {ρ : Type} : Lc → Nat → (Lc → Option ρ) → Option ρ
  | [], _, K => K []
  | (j, v) :: t, i, K => flt1 t i (fun t' => match kp1 i j v.1 with
    | true => K ((j, v) :: t')
    | false => K t')
def flt2 {ρ : Type} : Lc → Nat → (Lc → Option ρ) → Option ρ
  | [], _, K => K []
  | (j, v) :: t, i, K => flt2 t i (fun t' => match kp2 i j v.1 with
    | true => K ((j, v) :: t')
    | false => K t')
def st1 {ρ : Type} (L : Lc) (i : Nat) (v : AV) (K : Lc → Option ρ) : Option ρ := flt1 L i (fun L' => K ((i, v) :: L'))
def st2 {ρ : Type} (L : Lc) (i : Nat) (v : AV) (K : Lc → Option ρ) : Option ρ := flt2 L i (fun L' => K ((i, v) :: L'))
/-- takes arguments of these kinds (the last one first) off the stack -/
def popA {ρ : Type} : List Nat → List AV → List Int → (List Int → List AV → Option ρ) → Option ρ
  | [], S, a, K => K a S
  | _ :: _, [], _, _ => none
  | t :: ts, (t', v) :: S, a, K => match Nat.beq t t' with
    | true => popA ts S (v :: a) K
    | false => none
def nthF {ρ : Type} : List (FN ρ) → Nat → (FN ρ → Option ρ) → Option ρ
  | [], _, _ => none
  | f :: _, 0, K => K f
  | _ :: l, i + 1, K => nthF l i K
def dpt : List AV → Nat
  | [] => 0
  | (t, _) :: S => (match Nat.beq t 1 with | true => 2 | false => 1) + dpt S
def tgt (pc : Nat) (off : Int) : Nat := ((pc : Int) + off).toNat
def tsl {ρ : Type} (x : Int) (pc : Nat) (j : Nat → Option ρ) (d : Int) : List Int → Int → Option ρ
  | [], _ => j (tgt pc d)
  | o :: os, i => if x = i then j (tgt pc o) else tsl x pc j d os (i + 1)
def lsl {ρ : Type} (x : Int) (pc : Nat) (j : Nat → Option ρ) (d : Int) : List (Int × Int) → Option ρ
  | [] => j (tgt pc d)
  | (i, o) :: os => if x = i then j (tgt pc o) else lsl x pc j d os
/-- how many cells a heap has -/
def cnt (h : Hp) : Int := h (-1) 0
end
section
/-- the kinds of each object's fields, by its number -/
def ftl : List (List Nat) := [[284, 284, 284, 0], [8, 20220, 0], [74, 0], [6364, 0], [14, 0, 0, 0, 532, 532, 532, 540], [184, 0, 0], [13, 4, 1988, 84, 84, 84, 46, 14, 0, 0, 0, 0, 0, 0, 0], [14, 50, 540, 540, 0, 532, 0, 532, 532, 532, 0, 0, 0, 0], [0, 0, 0, 0, 0, 0, 0], [3220, 0, 0, 0, 0, 0], [68, 50, 532, 532, 532, 532, 532, 532, 532, 0, 0, 0, 0, 0, 0], [13, 10, 14, 14, 11, 5, 5, 12, 12, 9, 48, 46, 41, 7, 60], [84, 84, 0, 0, 0, 0, 0, 0, 1940, 85, 84, 1580, 532, 532, 1580, 532, 532, 532, 540, 3223, 0, 0, 0, 0, 0, 44, 0, 0, 285, 285, 0, 68, 0, 0, 532, 532, 532, 532, 532, 532, 0, 0, 0, 0, 0, 0, 0, 0, 0, 0, 0, 0, 0, 980, 0, 540, 6364, 540, 540, 0, 6164, 36, 532, 164, 46]]
/-- the kind of each cell -/
def kdl : List Nat := [15, 14, 68, 50, 540, 540, 540, 532, 532, 532, 532, 532, 532, 532, 14, 68, 50, 540, 540, 540, 532, 532, 532, 532, 532, 532, 532, 13, 3220, 10, 4, 284, 284, 284, 1988, 84, 84, 84, 46, 11, 50, 540, 540, 540, 540, 540, 532, 532, 532, 532, 5, 20220, 8, 532, 532, 532, 540, 5, 20220, 8, 532, 532, 532, 540, 12, 12, 9, 184, 12, 12, 12, 12, 12, 12, 12, 12, 12, 12, 12, 12, 12, 12, 12, 12, 12, 12, 12, 12, 48, 12, 12, 12, 46, 41, 6, 74, 532, 532, 532, 532, 532, 532, 6, 74, 532, 532, 532, 532, 532, 532, 7, 6364, 60, 16, 84, 84, 1940, 85, 84, 1580, 532, 532, 1580, 532, 532, 532, 540, 3223, 44, 285, 285, 68, 532, 532, 532, 532, 532, 532, 980, 540, 6364, 540, 540, 6164, 36, 532, 164, 46]
/-- of each object's field that never changes and names a cell: how far that cell is behind the object's own (and 1000), else 0 -/
def dll : List (List Nat) := [[1001, 1002, 1003, 0], [1002, 1001, 0], [1001, 0], [1001, 0], [0, 0, 0, 0, 1001, 1002, 1003, 1004], [1001, 0, 0], [998, 1001, 1005, 1006, 1007, 1008, 1009, 0, 0, 0, 0, 0, 0, 0, 0], [0, 1001, 1005, 1006, 0, 1007, 0, 1008, 1009, 1010, 0, 0, 0, 0], [0, 0, 0, 0, 0, 0, 0], [1001, 0, 0, 0, 0, 0], [1001, 1002, 1006, 1007, 1008, 1009, 1010, 1011, 1012, 0, 0, 0, 0, 0, 0], [1027, 1029, 0, 0, 1039, 1050, 1057, 1064, 1065, 1066, 1088, 1092, 1093, 1110, 1112], [1001, 1002, 0, 0, 0, 0, 0, 0, 1003, 1004, 1005, 1006, 1007, 1008, 1009, 1010, 1011, 1012, 1013, 1014, 0, 0, 0, 0, 0, 1015, 0, 0, 1016, 1017, 0, 1018, 0, 0, 1019, 1020, 1021, 1022, 1023, 1024, 0, 0, 0, 0, 0, 0, 0, 0, 0, 0, 0, 0, 0, 1025, 0, 1026, 1027, 1028, 1029, 0, 1030, 1031, 1032, 1033, 1034]]
def kd (k : Nat) : Nat := kdl.getD k 0
def fts (c : Nat) : List Nat := ftl.getD c []
def isz (t : Nat) : Nat := match Nat.ble 20 t with
  | true => (t - 20) / 8
  | false => (fts (t - 4)).length
def itag (t i : Nat) : Nat := match Nat.ble 20 t with
  | true => aetag t
  | false => (fts (t - 4)).getD i 0
/-- what a new slot holds -/
def dflt (t : Nat) (i : Int) : Int := match Nat.ble 2 (itag t i.toNat) with
  | true => -1
  | false => 0
def alc (h : Hp) (t : Nat) : Hp := fun b i => if b = cnt h then dflt t i else if b = -1 ∧ i = 0 then cnt h + 1 else h b i
/-- new T[k][m]: the outer row, then the inner ones -/
def alcs (t : Nat) : Nat → Hp → Hp
  | 0, h => h
  | k + 1, h => alc (alcs t k h) t
def alcm (h : Hp) (t : Nat) (k : Nat) : Hp := fun b i => if b = cnt h ∧ 0 ≤ i ∧ i < Int.ofNat k then cnt h + 1 + i else alcs (aetag t) k (alc h t) b i
def nn {ρ : Type} (g : Bool) (o : Int) (x : Option ρ) : Option ρ := match g with
  | false => x
  | true => match decide (0 ≤ o) with
    | true => x
    | false => none
/-- one instruction: k goes on behind it, j at another place, fin leaves the method -/
def sem {ρ : Type} (g : Bool) (fs : List (FN ρ)) (fin : Int → Hp → Option ρ) (ins : Instr) (res : List Nat) (rv : Int) (pc : Nat) (k : Lc → List AV → Hp → Option ρ) (j : Nat → Lc → List AV → Hp → Option ρ) (L : Lc) (S : List AV) (h : Hp) : Option ρ :=
  match ins with
  | .iload i => ldT L i 0 (fun x => k L ((0, x) :: S) h)
  | .iload_n i => ldT L i.val 0 (fun x => k L ((0, x) :: S) h)
  | .lload i => ldT L i 1 (fun x => k L ((1, x) :: S) h)
  | .lload_n i => ldT L i.val 1 (fun x => k L ((1, x) :: S) h)
  | .aload i => ldR L i (fun t x => k L ((t, x) :: S) h)
  | .aload_n i => ldR L i.val (fun t x => k L ((t, x) :: S) h)
  | .istore i => match S with
    | (0, x) :: r => ltt x (fun y => st1 L i (0, y) (fun L' => k L' r h))
    | _ => none
  | .istore_n i => match S with
    | (0, x) :: r => ltt x (fun y => st1 L i.val (0, y) (fun L' => k L' r h))
    | _ => none
  | .lstore i => match S with
    | (1, x) :: r => ltt x (fun y => st2 L i (1, y) (fun L' => k L' r h))
    | _ => none
  | .lstore_n i => match S with
    | (1, x) :: r => ltt x (fun y => st2 L i.val (1, y) (fun L' => k L' r h))
    | _ => none
  | .astore i => match S with
    | (t, x) :: r => match Nat.ble 4 t with
      | true => st1 L i (t, x) (fun L' => k L' r h)
      | false => none
    | _ => none
  | .astore_n i => match S with
    | (t, x) :: r => match Nat.ble 4 t with
      | true => st1 L i.val (t, x) (fun L' => k L' r h)
      | false => none
    | _ => none
  | .iinc i c => ldT L i 0 (fun x => ltt (w32 (x + c)) (fun y => st1 L i (0, y) (fun L' => k L' S h)))
  | .iconst c => k L ((0, c) :: S) h
  | .bipush c => k L ((0, c) :: S) h
  | .sipush c => k L ((0, c) :: S) h
  | .lconst c => k L ((1, Int.ofNat c.val) :: S) h
  | .ldc _ => match res with
    | t :: _ => match Nat.ble t 2 with
      | true => k L ((t, rv) :: S) h
      | false => none
    | _ => none
  | .ldc_w _ => k L ((0, rv) :: S) h
  | .ldc2_w _ => k L ((1, rv) :: S) h
  | .iadd => match S with
    | (0, y) :: (0, x) :: r => k L ((0, w32 (x + y)) :: r) h
    | _ => none
  | .isub => match S with
    | (0, y) :: (0, x) :: r => k L ((0, w32 (x - y)) :: r) h
    | _ => none
  | .imul => match S with
    | (0, y) :: (0, x) :: r => k L ((0, w32 (x * y)) :: r) h
    | _ => none
  | .idiv => match S with
    | (0, y) :: (0, x) :: r => grd (¬ y = 0) (k L ((0, w32 (x.tdiv y)) :: r) h)
    | _ => none
  | .irem => match S with
    | (0, y) :: (0, x) :: r => grd (¬ y = 0) (k L ((0, x.tmod y) :: r) h)
    | _ => none
  | .ineg => match S with
    | (0, x) :: r => k L ((0, w32 (-x)) :: r) h
    | _ => none
  | .iand => match S with
    | (0, y) :: (0, x) :: r => k L ((0, iand x y) :: r) h
    | _ => none
  | .ior => match S with
    | (0, y) :: (0, x) :: r => k L ((0, ior x y) :: r) h
    | _ => none
  | .ishl => match S with
    | (0, y) :: (0, x) :: r => k L ((0, ishl x y) :: r) h
    | _ => none
  | .ishr => match S with
    | (0, y) :: (0, x) :: r => k L ((0, ishr x y) :: r) h
    | _ => none
  | .iushr => match S with
    | (0, y) :: (0, x) :: r => k L ((0, iushr x y) :: r) h
    | _ => none
  | .lshl => match S with
    | (0, y) :: (1, x) :: r => k L ((1, lshl x y) :: r) h
    | _ => none
  | .ladd => match S with
    | (1, y) :: (1, x) :: r => k L ((1, w64 (x + y)) :: r) h
    | _ => none
  | .lsub => match S with
    | (1, y) :: (1, x) :: r => k L ((1, w64 (x - y)) :: r) h
    | _ => none
  | .lmul => match S with
    | (1, y) :: (1, x) :: r => k L ((1, w64 (x * y)) :: r) h
    | _ => none
  | .ldiv => match S with
    | (1, y) :: (1, x) :: r => grd (¬ y = 0) (k L ((1, w64 (x.tdiv y)) :: r) h)
    | _ => none
  | .lneg => match S with
    | (1, x) :: r => k L ((1, w64 (-x)) :: r) h
    | _ => none
  | .lcmp => match S with
    | (1, y) :: (1, x) :: r => k L ((0, lcp x y) :: r) h
    | _ => none
  | .i2l => match S with
    | (0, x) :: r => k L ((1, x) :: r) h
    | _ => none
  | .l2i => match S with
    | (1, x) :: r => k L ((0, w32 x) :: r) h
    | _ => none
  | .i2b => match S with
    | (0, x) :: r => k L ((0, w8 x) :: r) h
    | _ => none
  | .dup => match S with
    | (t, x) :: r => match Nat.beq t 1 with
      | true => none
      | false => k L ((t, x) :: (t, x) :: r) h
    | _ => none
  | .dup2 => match S with
    | (t, x) :: r => match Nat.beq t 1 with
      | true => k L ((t, x) :: (t, x) :: r) h
      | false => match r with
        | (t2, x2) :: r2 => match Nat.beq t2 1 with
          | true => none
          | false => k L ((t, x) :: (t2, x2) :: (t, x) :: (t2, x2) :: r2) h
        | _ => none
    | _ => none
  | .pop => match S with
    | (t, _) :: r => match Nat.beq t 1 with
      | true => none
      | false => k L r h
    | _ => none
  | .ifCond c off => match S with
    | (0, x) :: r => match c with
      | .eq => if x = 0 then j (tgt pc off) L r h else k L r h
      | .ne => if x ≠ 0 then j (tgt pc off) L r h else k L r h
      | .lt => if x < 0 then j (tgt pc off) L r h else k L r h
      | .ge => if 0 ≤ x then j (tgt pc off) L r h else k L r h
      | .gt => if 0 < x then j (tgt pc off) L r h else k L r h
      | .le => if x ≤ 0 then j (tgt pc off) L r h else k L r h
    | _ => none
  | .if_icmp c off => match S with
    | (0, y) :: (0, x) :: r => match c with
      | .eq => if x = y then j (tgt pc off) L r h else k L r h
      | .ne => if x ≠ y then j (tgt pc off) L r h else k L r h
      | .lt => if x < y then j (tgt pc off) L r h else k L r h
      | .ge => if y ≤ x then j (tgt pc off) L r h else k L r h
      | .gt => if y < x then j (tgt pc off) L r h else k L r h
      | .le => if x ≤ y then j (tgt pc off) L r h else k L r h
    | _ => none
  | .goto off => j (tgt pc off) L S h
  | .tableswitch d lo _ offs => match S with
    | (0, x) :: r => tsl x pc (fun t => j t L r h) d offs.toList lo
    | _ => none
  | .lookupswitch d ps => match S with
    | (0, x) :: r => lsl x pc (fun t => j t L r h) d ps.toList
    | _ => none
  | .ireturn => match S with
    | [(0, x)] => fin x h
    | _ => none
  | .lreturn => match S with
    | [(1, x)] => fin x h
    | _ => none
  | .areturn => match S with
    | [(2, x)] => fin x h
    | _ => none
  | .return_ => match S with
    | [] => fin 0 h
    | _ => none
  | .getfield _ => match S with
    | (t, o) :: r => match res with
      | c :: s :: ft :: fx :: _ => match Nat.beq t (4 + c) with
        | true => match g with
          | false => match fx with
            | 0 => k L ((ft, h o (Int.ofNat s)) :: r) h
            | _ => k L ((ft, o + rv) :: r) h
          | true => nn true o (k L ((ft, h o (Int.ofNat s)) :: r) h)
        | false => none
      | _ => none
    | _ => none
  | .putfield _ => match S with
    | (tv, v) :: (t, o) :: r => match res with
      | c :: s :: ft :: fx :: z :: _ => match Nat.beq t (4 + c) && Nat.beq tv ft && (g || Nat.beq fx 0) with
        | true => match z with
          | 0 => nn g o (ltt (up h o (Int.ofNat s) v) (fun h' => k L r h'))
          | _ => nn g o (grd (v = 0 ∨ v = 1) (ltt (up h o (Int.ofNat s) v) (fun h' => k L r h')))
        | false => none
      | _ => none
    | _ => none
  | .iaload => match S with
    | (0, i) :: (t, a) :: r => match Nat.beq t 3 with
      | true => grd (0 ≤ i ∧ i < h (-1) 1) (k L ((0, h (-2) i) :: r) h)
      | false => match Nat.ble 20 t && Nat.beq (aknd t) 0 with
        | true => nn g a (grd (0 ≤ i ∧ i < alen t) (k L ((0, h a i) :: r) h))
        | false => none
    | _ => none
  | .laload => match S with
    | (0, i) :: (t, a) :: r => match Nat.ble 20 t && Nat.beq (aknd t) 1 with
      | true => nn g a (grd (0 ≤ i ∧ i < alen t) (k L ((1, h a i) :: r) h))
      | false => none
    | _ => none
  | .baload => match S with
    | (0, i) :: (t, a) :: r => match Nat.ble 20 t && (Nat.beq (aknd t) 2 || Nat.beq (aknd t) 3) with
      | true => nn g a (grd (0 ≤ i ∧ i < alen t) (k L ((0, h a i) :: r) h))
      | false => none
    | _ => none
  | .aaload => match S with
    | (0, i) :: (t, a) :: r => match Nat.ble 20 t && Nat.ble 4 (aknd t) with
      | true => match g with
        | false => match aknd t with
          | 5 => grd (0 ≤ i ∧ i < alen t) (k L ((aetag t, a + 1 + 8 * i) :: r) h)
          | _ => grd (0 ≤ i ∧ i < alen t) (k L ((aetag t, a + 1 + i) :: r) h)
        | true => nn true a (grd (0 ≤ i ∧ i < alen t) (k L ((aetag t, h a i) :: r) h))
      | false => none
    | _ => none
  | .iastore => match S with
    | (0, v) :: (0, i) :: (t, a) :: r => match Nat.ble 20 t && Nat.beq (aknd t) 0 with
      | true => nn g a (grd (0 ≤ i ∧ i < alen t) (ltt (up h a i v) (fun h' => k L r h')))
      | false => none
    | _ => none
  | .lastore => match S with
    | (1, v) :: (0, i) :: (t, a) :: r => match Nat.ble 20 t && Nat.beq (aknd t) 1 with
      | true => nn g a (grd (0 ≤ i ∧ i < alen t) (ltt (up h a i v) (fun h' => k L r h')))
      | false => none
    | _ => none
  | .bastore => match S with
    | (0, v) :: (0, i) :: (t, a) :: r => match Nat.ble 20 t && Nat.beq (aknd t) 2 with
      | true => nn g a (grd (0 ≤ i ∧ i < alen t) (ltt (up h a i (v % 2)) (fun h' => k L r h')))
      | false => match Nat.ble 20 t && Nat.beq (aknd t) 3 with
        | true => nn g a (grd (0 ≤ i ∧ i < alen t) (ltt (up h a i (w8 v)) (fun h' => k L r h')))
        | false => none
    | _ => none
  | .aastore => match S with
    | (tv, v) :: (0, i) :: (t, a) :: r => match g && Nat.ble 20 t && (Nat.beq (aknd t) 4 || Nat.beq (aknd t) 5) && Nat.beq tv (aetag t) && decide (0 ≤ v) with
      | true => nn g a (grd (0 ≤ i ∧ i < alen t) (ltt (up h a i v) (fun h' => k L r h')))
      | false => none
    | _ => none
  | .arraylength => match S with
    | (t, a) :: r => match Nat.beq t 3 with
      | true => k L ((0, h (-1) 1) :: r) h
      | false => match Nat.ble 20 t with
        | true => nn g a (k L ((0, alen t) :: r) h)
        | false => none
    | _ => none
  | .invokevirtual _ => match res with
    | rt :: f :: _ :: _ :: _ :: ts => popA ts S [] (fun a r => match Nat.ble (dpt r) 8 with
      | true => nn g (a.headD 0) (nthF fs f (fun fn => fn a h (fun v h' => match rt with
        | 0 => k L r h'
        | t + 1 => k L ((t, v) :: r) h')))
      | false => none)
    | _ => none
  | .invokestatic _ => match res with
    | rt :: f :: _ :: _ :: _ :: ts => popA ts S [] (fun a r => match Nat.ble (dpt r) 8 with
      | true => nthF fs f (fun fn => fn a h (fun v h' => match rt with
        | 0 => k L r h'
        | t + 1 => k L ((t, v) :: r) h'))
      | false => none)
    | _ => none
  | .invokespecial _ => match res with
    | rt :: f :: kd :: _ :: _ :: ts => match kd with
      | 0 => match S with
        | (t, _) :: r => match Nat.ble 4 t && Nat.ble (dpt r) 8 with
          | true => k L r h
          | false => none
        | _ => none
      | _ => popA ts S [] (fun a r => match Nat.ble (dpt r) 8 && g with
        | true => nn g (a.headD 0) (nthF fs f (fun fn => fn a h (fun v h' => match rt with
          | 0 => k L r h'
          | t + 1 => k L ((t, v) :: r) h')))
        | false => none)
    | _ => none
  | .new _ => match res with
    | c :: _ => match g && Nat.beq (kd (cnt h).toNat) (4 + c) with
      | true => ltt (alc h (4 + c)) (fun h' => k L ((4 + c, cnt h) :: S) h')
      | false => none
    | _ => none
  | .newarray _ => match S with
    | (0, m) :: r => match res with
      | e :: _ => match g && decide (0 ≤ m) && Nat.beq (kd (cnt h).toNat) (20 + 8 * m.toNat + e) with
        | true => ltt (alc h (20 + 8 * m.toNat + e)) (fun h' => k L ((20 + 8 * m.toNat + e, cnt h) :: r) h')
        | false => none
      | _ => none
    | _ => none
  | .anewarray _ => match S with
    | (0, m) :: r => match res with
      | e :: _ => match g && decide (0 ≤ m) && Nat.beq (kd (cnt h).toNat) (20 + 8 * m.toNat + e) with
        | true => ltt (alc h (20 + 8 * m.toNat + e)) (fun h' => k L ((20 + 8 * m.toNat + e, cnt h) :: r) h')
        | false => none
      | _ => none
    | _ => none
  | .multianewarray _ _ => match S with
    | (0, m) :: (0, q) :: r => match g && decide (0 ≤ q) && decide (0 ≤ m) && Nat.beq (kd (cnt h).toNat) (20 + 8 * q.toNat + 6) && Nat.beq (aetag (20 + 8 * q.toNat + 6)) (20 + 8 * m.toNat) && (List.range q.toNat).all (fun i => Nat.beq (kd ((cnt h).toNat + 1 + i)) (20 + 8 * m.toNat)) with
      | true => ltt (alcm h (20 + 8 * q.toNat + 6) q.toNat) (fun h' => k L ((20 + 8 * q.toNat + 6, cnt h) :: r) h')
      | false => none
    | _ => none
  | _ => none
def seek {ρ : Type} : SD → Nat → (List SI → Option ρ) → Option ρ
  | [], _, _ => none
  | (b, l) :: rest, t, kk => match Nat.beq b t with
    | true => kk l
    | false => seek rest t kk
/-- goes on at a place: a cut point's own value, or the instructions that stand there -/
def ent {ρ : Type} (K : Nat → Lc → List AV → Hp → Option (Option ρ)) (sd : SD) (go : List SI → Lc → List AV → Hp → Option ρ) (t : Nat) (L : Lc) (S : List AV) (h : Hp) : Option ρ := match K t L S h with
  | some x => x
  | none => seek sd t (fun r => go r L S h)
def go {ρ : Type} (g : Bool) (K : Nat → Lc → List AV → Hp → Option (Option ρ)) (fin : Int → Hp → Option ρ) (fs : List (FN ρ)) (sd : SD) : Nat → List SI → Lc → List AV → Hp → Option ρ
  | 0, _, _, _, _ => none
  | _ + 1, [], _, _, _ => none
  | f + 1, (pc, ins, len, res, rv) :: r, L, S, h => sem g fs fin ins res rv pc
      (fun L' S' h' => match r with
        | [] => ent K sd (go g K fin fs sd f) (pc + len) L' S' h'
        | _ :: _ => go g K fin fs sd f r L' S' h')
      (fun t L' S' h' => ent K sd (go g K fin fs sd f) t L' S' h') L S h
def goAt {ρ : Type} (g : Bool) (K : Nat → Lc → List AV → Hp → Option (Option ρ)) (fin : Int → Hp → Option ρ) (fs : List (FN ρ)) (sd : SD) (f pc : Nat) (L : Lc) (S : List AV) (h : Hp) : Option ρ := seek sd pc (fun r => go g K fin fs sd f r L S h)
/-- a table of cut points: where, which locals (place, kind, and what it must be), which kinds on the stack, its value -/
def getC {ρ : Type} (c : Option Int) (v : Int) (K : (List Int → List Int) → Option (Option ρ)) : Option (Option ρ) := match c with
  | none => K (fun a => v :: a)
  | some x => match decide (v = x) with
    | true => K (fun a => a)
    | false => some none
def fndL {ρ : Type} : Lc → Nat → (AV → Option (Option ρ)) → Option (Option ρ)
  | [], _, _ => some none
  | (j, v) :: t, i, K => match Nat.beq j i with
    | true => K v
    | false => fndL t i K
def getL {ρ : Type} : List (Nat × Nat × Option Int) → Lc → (List Int → Option (Option ρ)) → Option (Option ρ)
  | [], _, K => K []
  | (i, t, c) :: l, L, K => fndL L i (fun v => match Nat.beq t v.1 with
    | true => getC c v.2 (fun w => getL l L (fun a => K (w a)))
    | false => some none)
def getS {ρ : Type} : List (Nat × Option Int) → List AV → (List Int → Option (Option ρ)) → Option (Option ρ)
  | [], [], K => K []
  | (t, c) :: ts, (t', v) :: S, K => match Nat.beq t t' with
    | true => getC c v (fun w => getS ts S (fun a => K (w a)))
    | false => some none
  | _, _, _ => some none
abbrev CT (ρ : Type) := List (Nat × List (Nat × Nat × Option Int) × List (Nat × Option Int) × (List Int → List Int → Hp → Option ρ))
def kct {ρ : Type} : CT ρ → Nat → Lc → List AV → Hp → Option (Option ρ)
  | [], _, _, _, _ => none
  | (b, ls, ss, f) :: l, t, L, S, h => match Nat.beq b t with
    | true => getL ls L (fun a => getS ss S (fun c => some (f a c h)))
    | false => kct l t L S h
end
section
def jabs (x : Int) : Int := if x < 0 then w32 (-x) else x
def lsgn (x : Int) : Int := if x < 0 then -1 else if x = 0 then 0 else 1
def fmin {ρ : Type} : FN ρ := fun a h k => match a with
  | [x, y] => k (min x y) h
  | _ => none
def fmax {ρ : Type} : FN ρ := fun a h k => match a with
  | [x, y] => k (max x y) h
  | _ => none
def fabs {ρ : Type} : FN ρ := fun a h k => match a with
  | [x] => k (jabs x) h
  | _ => none
def fsig {ρ : Type} : FN ρ := fun a h k => match a with
  | [x] => k (lsgn x) h
  | _ => none
/-- the String constants: their letters -/
def stl : List (List Int) := [[97, 120, 101, 115], [106, 101, 114, 107], [116, 111, 108, 101, 114, 97, 110, 99, 101], [116, 111], [98, 121], [116, 117, 114, 110], [109, 97, 114, 107], [97, 103, 97, 105, 110]]
def slen (s : Int) : Int := Int.ofNat (stl.getD s.toNat []).length
def sch (s i : Int) : Int := (stl.getD s.toNat []).getD i.toNat 0
def fslen {ρ : Type} : FN ρ := fun a h k => match a with
  | [s] => k (slen s) h
  | _ => none
def fsch {ρ : Type} : FN ρ := fun a h k => match a with
  | [s, i] => grd (0 ≤ i ∧ i < slen s) (k (sch s i) h)
  | _ => none

def sdX11_root : SD := [(0, [(0, .lconst 0, 1, [], 0), (1, .lstore_n 2, 1, [], 0), (2, .bipush 30, 2, [], 0), (4, .istore 4, 2, [], 0)]),
  (6, [(6, .iload 4, 2, [], 0), (8, .ifCond .lt 30, 3, [], 0)]),
  (11, [(11, .lload_n 2, 1, [], 0), (12, .lconst 1, 1, [], 0), (13, .iload 4, 2, [], 0), (15, .lshl, 1, [], 0), (16, .ladd, 1, [], 0), (17, .lstore 5, 2, [], 0), (19, .lload 5, 2, [], 0), (21, .lload 5, 2, [], 0), (23, .lmul, 1, [], 0), (24, .lload_n 0, 1, [], 0), (25, .lcmp, 1, [], 0), (26, .ifCond .gt 6, 3, [], 0)]),
  (29, [(29, .lload 5, 2, [], 0), (31, .lstore_n 2, 1, [], 0)]),
  (32, [(32, .iinc 4 (-1), 3, [], 0), (35, .goto (-29), 3, [], 0)]),
  (38, [(38, .lload_n 2, 1, [], 0), (39, .l2i, 1, [], 0), (40, .ireturn, 1, [], 0)])]
def sdX11_within : SD := [(0, [(0, .iload_n 1, 1, [], 0), (1, .iload_n 0, 1, [], 0), (2, .if_icmp .ge 7, 3, [], 0)]),
  (5, [(5, .iload_n 0, 1, [], 0), (6, .goto 13, 3, [], 0)]),
  (9, [(9, .iload_n 1, 1, [], 0), (10, .iload_n 2, 1, [], 0), (11, .if_icmp .le 7, 3, [], 0)]),
  (14, [(14, .iload_n 2, 1, [], 0), (15, .goto 4, 3, [], 0)]),
  (18, [(18, .iload_n 1, 1, [], 0)]),
  (19, [(19, .ireturn, 1, [], 0)])]
def sdX6_rowOf : SD := [(0, [(0, .iconst 0, 1, [], 0), (1, .iload_n 0, 1, [], 0), (2, .bipush 40, 2, [], 0), (4, .invokestatic 145, 3, [1, 0, 4, 0, 879, 0, 0, 0], 0), (7, .bipush 6, 2, [], 0), (9, .imul, 1, [], 0), (10, .ireturn, 1, [], 0)])]
def sdX11_isAxis : SD := [(0, [(0, .iload_n 0, 1, [], 0), (1, .ifCond .lt 12, 3, [], 0)]),
  (4, [(4, .iload_n 0, 1, [], 0), (5, .iconst 3, 1, [], 0), (6, .if_icmp .ge 7, 3, [], 0)]),
  (9, [(9, .iconst 1, 1, [], 0), (10, .goto 4, 3, [], 0)]),
  (13, [(13, .iconst 0, 1, [], 0)]),
  (14, [(14, .ireturn, 1, [], 0)])]
def sdX10_last : SD := [(0, [(0, .iload_n 1, 1, [], 0), (1, .invokestatic 63, 3, [1, 0, 4, 0, 649, 0], 0), (4, .ifCond .eq 17, 3, [], 0)]),
  (7, [(7, .aload_n 0, 1, [], 0), (8, .getfield 17, 3, [10, 1, 50, 1, 167, 0], 2), (11, .iload_n 1, 1, [], 0), (12, .aaload, 1, [], 0), (13, .aload_n 0, 1, [], 0), (14, .getfield 51, 3, [10, 11, 0, 0, 202, 0], 0), (17, .iaload, 1, [], 0), (18, .goto 4, 3, [], 0)]),
  (21, [(21, .iconst 0, 1, [], 0)]),
  (22, [(22, .ireturn, 1, [], 0)])]
def sdX11_square : SD := [(0, [(0, .lload_n 0, 1, [], 0), (1, .lload_n 0, 1, [], 0), (2, .lmul, 1, [], 0), (3, .lreturn, 1, [], 0)])]
def sdX0_spin : SD := [(0, [(0, .iload_n 3, 1, [], 0), (1, .ifCond .ge 7, 3, [], 0)]),
  (4, [(4, .iconst (-1), 1, [], 0), (5, .goto 4, 3, [], 0)]),
  (8, [(8, .iconst 1, 1, [], 0)]),
  (9, [(9, .istore 4, 2, [], 0), (11, .aload_n 0, 1, [], 0), (12, .iload_n 3, 1, [], 0), (13, .iload 4, 2, [], 0), (15, .imul, 1, [], 0), (16, .iconst 4, 1, [], 0), (17, .invokestatic 64, 3, [1, 0, 7, 0, 929, 0, 0], 0), (20, .putfield 35, 3, [0, 3, 0, 0, 0, 296], 0), (23, .aload_n 0, 1, [], 0), (24, .getfield 9, 3, [0, 0, 284, 1, 290, 0], 1), (27, .iconst 0, 1, [], 0), (28, .iload_n 1, 1, [], 0), (29, .iastore, 1, [], 0), (30, .aload_n 0, 1, [], 0), (31, .getfield 13, 3, [0, 1, 284, 1, 292, 0], 2), (34, .iconst 0, 1, [], 0), (35, .iload_n 2, 1, [], 0), (36, .iastore, 1, [], 0), (37, .iconst 1, 1, [], 0), (38, .istore 5, 2, [], 0)]),
  (40, [(40, .iload 5, 2, [], 0), (42, .aload_n 0, 1, [], 0), (43, .getfield 35, 3, [0, 3, 0, 0, 296, 0], 0), (46, .if_icmp .gt 48, 3, [], 0)]),
  (49, [(49, .aload_n 0, 1, [], 0), (50, .getfield 9, 3, [0, 0, 284, 1, 290, 0], 1), (53, .iload 5, 2, [], 0), (55, .iload 4, 2, [], 0), (57, .ineg, 1, [], 0), (58, .aload_n 0, 1, [], 0), (59, .getfield 13, 3, [0, 1, 284, 1, 292, 0], 2), (62, .iload 5, 2, [], 0), (64, .iconst 1, 1, [], 0), (65, .isub, 1, [], 0), (66, .iaload, 1, [], 0), (67, .imul, 1, [], 0), (68, .iastore, 1, [], 0), (69, .aload_n 0, 1, [], 0), (70, .getfield 13, 3, [0, 1, 284, 1, 292, 0], 2), (73, .iload 5, 2, [], 0), (75, .iload 4, 2, [], 0), (77, .aload_n 0, 1, [], 0), (78, .getfield 9, 3, [0, 0, 284, 1, 290, 0], 1), (81, .iload 5, 2, [], 0), (83, .iconst 1, 1, [], 0), (84, .isub, 1, [], 0), (85, .iaload, 1, [], 0), (86, .imul, 1, [], 0), (87, .iastore, 1, [], 0), (88, .iinc 5 1, 3, [], 0), (91, .goto (-51), 3, [], 0)]),
  (94, [(94, .return_, 1, [], 0)])]
def sdX0_isCoarse : SD := [(0, [(0, .aload_n 0, 1, [], 0), (1, .getfield 9, 3, [0, 0, 284, 1, 290, 0], 1), (4, .iconst 0, 1, [], 0), (5, .iaload, 1, [], 0), (6, .i2l, 1, [], 0), (7, .aload_n 0, 1, [], 0), (8, .getfield 9, 3, [0, 0, 284, 1, 290, 0], 1), (11, .iconst 1, 1, [], 0), (12, .iaload, 1, [], 0), (13, .i2l, 1, [], 0), (14, .ladd, 1, [], 0), (15, .invokestatic 38, 3, [2, 0, 4, 0, 921, 1], 0), (18, .aload_n 0, 1, [], 0), (19, .getfield 13, 3, [0, 1, 284, 1, 292, 0], 2), (22, .iconst 0, 1, [], 0), (23, .iaload, 1, [], 0), (24, .i2l, 1, [], 0), (25, .aload_n 0, 1, [], 0), (26, .getfield 13, 3, [0, 1, 284, 1, 292, 0], 2), (29, .iconst 1, 1, [], 0), (30, .iaload, 1, [], 0), (31, .i2l, 1, [], 0), (32, .ladd, 1, [], 0), (33, .invokestatic 38, 3, [2, 0, 4, 0, 921, 1], 0), (36, .ladd, 1, [], 0), (37, .invokestatic 44, 3, [1, 1, 4, 0, 924, 1], 0), (40, .iconst 2, 1, [], 0), (41, .idiv, 1, [], 0), (42, .istore_n 3, 1, [], 0), (43, .iload_n 1, 1, [], 0), (44, .iload_n 3, 1, [], 0), (45, .isub, 1, [], 0), (46, .iload_n 2, 1, [], 0), (47, .if_icmp .le 7, 3, [], 0)]),
  (50, [(50, .iconst 1, 1, [], 0), (51, .goto 4, 3, [], 0)]),
  (54, [(54, .iconst 0, 1, [], 0)]),
  (55, [(55, .ireturn, 1, [], 0)])]
def sdX11_share : SD := [(0, [(0, .lload_n 2, 1, [], 0), (1, .lconst 0, 1, [], 0), (2, .lcmp, 1, [], 0), (3, .ifCond .ne 7, 3, [], 0)]),
  (6, [(6, .iconst 0, 1, [], 0), (7, .goto 7, 3, [], 0)]),
  (10, [(10, .lload_n 0, 1, [], 0), (11, .lload_n 2, 1, [], 0), (12, .ldiv, 1, [], 0), (13, .l2i, 1, [], 0)]),
  (14, [(14, .ireturn, 1, [], 0)])]
def sdX0_halve : SD := [(0, [(0, .aload_n 0, 1, [], 0), (1, .getfield 35, 3, [0, 3, 0, 0, 296, 0], 0), (4, .iconst 2, 1, [], 0), (5, .imul, 1, [], 0), (6, .bipush 33, 2, [], 0), (8, .if_icmp .lt 4, 3, [], 0)]),
  (11, [(11, .return_, 1, [], 0)]),
  (12, [(12, .aload_n 0, 1, [], 0), (13, .getfield 35, 3, [0, 3, 0, 0, 296, 0], 0), (16, .istore_n 2, 1, [], 0)]),
  (17, [(17, .iload_n 2, 1, [], 0), (18, .ifCond .le 37, 3, [], 0)]),
  (21, [(21, .aload_n 0, 1, [], 0), (22, .getfield 9, 3, [0, 0, 284, 1, 290, 0], 1), (25, .iconst 2, 1, [], 0), (26, .iload_n 2, 1, [], 0), (27, .imul, 1, [], 0), (28, .aload_n 0, 1, [], 0), (29, .getfield 9, 3, [0, 0, 284, 1, 290, 0], 1), (32, .iload_n 2, 1, [], 0), (33, .iaload, 1, [], 0), (34, .iastore, 1, [], 0), (35, .aload_n 0, 1, [], 0), (36, .getfield 13, 3, [0, 1, 284, 1, 292, 0], 2), (39, .iconst 2, 1, [], 0), (40, .iload_n 2, 1, [], 0), (41, .imul, 1, [], 0), (42, .aload_n 0, 1, [], 0), (43, .getfield 13, 3, [0, 1, 284, 1, 292, 0], 2), (46, .iload_n 2, 1, [], 0), (47, .iaload, 1, [], 0), (48, .iastore, 1, [], 0), (49, .iinc 2 (-1), 3, [], 0), (52, .goto (-35), 3, [], 0)]),
  (55, [(55, .aload_n 0, 1, [], 0), (56, .dup, 1, [], 0), (57, .getfield 35, 3, [0, 3, 0, 0, 296, 0], 0), (60, .iconst 2, 1, [], 0), (61, .imul, 1, [], 0), (62, .putfield 35, 3, [0, 3, 0, 0, 0, 296], 0), (65, .iconst 1, 1, [], 0), (66, .istore_n 2, 1, [], 0)]),
  (67, [(67, .iload_n 2, 1, [], 0), (68, .aload_n 0, 1, [], 0), (69, .getfield 35, 3, [0, 3, 0, 0, 296, 0], 0), (72, .if_icmp .ge 97, 3, [], 0)]),
  (75, [(75, .aload_n 0, 1, [], 0), (76, .getfield 9, 3, [0, 0, 284, 1, 290, 0], 1), (79, .iload_n 2, 1, [], 0), (80, .iconst 1, 1, [], 0), (81, .isub, 1, [], 0), (82, .iaload, 1, [], 0), (83, .i2l, 1, [], 0), (84, .aload_n 0, 1, [], 0), (85, .getfield 9, 3, [0, 0, 284, 1, 290, 0], 1), (88, .iload_n 2, 1, [], 0), (89, .iconst 1, 1, [], 0), (90, .iadd, 1, [], 0), (91, .iaload, 1, [], 0), (92, .i2l, 1, [], 0), (93, .ladd, 1, [], 0), (94, .lstore_n 3, 1, [], 0), (95, .aload_n 0, 1, [], 0), (96, .getfield 13, 3, [0, 1, 284, 1, 292, 0], 2), (99, .iload_n 2, 1, [], 0), (100, .iconst 1, 1, [], 0), (101, .isub, 1, [], 0), (102, .iaload, 1, [], 0), (103, .i2l, 1, [], 0), (104, .aload_n 0, 1, [], 0), (105, .getfield 13, 3, [0, 1, 284, 1, 292, 0], 2), (108, .iload_n 2, 1, [], 0), (109, .iconst 1, 1, [], 0), (110, .iadd, 1, [], 0), (111, .iaload, 1, [], 0), (112, .i2l, 1, [], 0), (113, .ladd, 1, [], 0), (114, .lstore 5, 2, [], 0), (116, .lload_n 3, 1, [], 0), (117, .lload_n 3, 1, [], 0), (118, .lmul, 1, [], 0), (119, .lload 5, 2, [], 0), (121, .lload 5, 2, [], 0), (123, .lmul, 1, [], 0), (124, .ladd, 1, [], 0), (125, .invokestatic 44, 3, [1, 0, 4, 0, 924, 1], 0), (128, .istore 7, 2, [], 0), (130, .aload_n 0, 1, [], 0), (131, .getfield 9, 3, [0, 0, 284, 1, 290, 0], 1), (134, .iload_n 2, 1, [], 0), (135, .lload_n 3, 1, [], 0), (136, .iload_n 1, 1, [], 0), (137, .i2l, 1, [], 0), (138, .lmul, 1, [], 0), (139, .iload 7, 2, [], 0), (141, .i2l, 1, [], 0), (142, .invokestatic 60, 3, [1, 1, 4, 0, 938, 1, 1], 0), (145, .iastore, 1, [], 0), (146, .aload_n 0, 1, [], 0), (147, .getfield 13, 3, [0, 1, 284, 1, 292, 0], 2), (150, .iload_n 2, 1, [], 0), (151, .lload 5, 2, [], 0), (153, .iload_n 1, 1, [], 0), (154, .i2l, 1, [], 0), (155, .lmul, 1, [], 0), (156, .iload 7, 2, [], 0), (158, .i2l, 1, [], 0), (159, .invokestatic 60, 3, [1, 1, 4, 0, 938, 1, 1], 0), (162, .iastore, 1, [], 0), (163, .iinc 2 2, 3, [], 0), (166, .goto (-99), 3, [], 0)]),
  (169, [(169, .return_, 1, [], 0)])]
def sdX0_turn : SD := [(0, [(0, .aload_n 0, 1, [], 0), (1, .getfield 9, 3, [0, 0, 284, 1, 290, 0], 1), (4, .iconst 0, 1, [], 0), (5, .iaload, 1, [], 0), (6, .iload_n 1, 1, [], 0), (7, .iadd, 1, [], 0), (8, .istore 6, 2, [], 0), (10, .aload_n 0, 1, [], 0), (11, .getfield 13, 3, [0, 1, 284, 1, 292, 0], 2), (14, .iconst 0, 1, [], 0), (15, .iaload, 1, [], 0), (16, .iload_n 2, 1, [], 0), (17, .iadd, 1, [], 0), (18, .istore 7, 2, [], 0), (20, .aload_n 0, 1, [], 0), (21, .getfield 16, 3, [0, 2, 284, 1, 294, 0], 3), (24, .iconst 0, 1, [], 0), (25, .iaload, 1, [], 0), (26, .istore 8, 2, [], 0), (28, .iload_n 1, 1, [], 0), (29, .i2l, 1, [], 0), (30, .invokestatic 38, 3, [2, 0, 4, 0, 921, 1], 0), (33, .iload_n 2, 1, [], 0), (34, .i2l, 1, [], 0), (35, .invokestatic 38, 3, [2, 0, 4, 0, 921, 1], 0), (38, .ladd, 1, [], 0), (39, .invokestatic 44, 3, [1, 1, 4, 0, 924, 1], 0), (42, .istore 9, 2, [], 0), (44, .aload_n 0, 1, [], 0), (45, .iload_n 1, 1, [], 0), (46, .ineg, 1, [], 0), (47, .iload_n 2, 1, [], 0), (48, .ineg, 1, [], 0), (49, .iload_n 3, 1, [], 0), (50, .invokevirtual 48, 3, [0, 2, 1, 0, 925, 0, 0, 0, 4], 0), (53, .iconst 0, 1, [], 0), (54, .istore 10, 2, [], 0)]),
  (56, [(56, .iload 10, 2, [], 0), (58, .iconst 3, 1, [], 0), (59, .if_icmp .ge 26, 3, [], 0)]),
  (62, [(62, .aload_n 0, 1, [], 0), (63, .iload 9, 2, [], 0), (65, .iload 5, 2, [], 0), (67, .invokevirtual 52, 3, [1, 3, 1, 0, 930, 0, 0, 4], 0), (70, .ifCond .eq 15, 3, [], 0)]),
  (73, [(73, .aload_n 0, 1, [], 0), (74, .iload 9, 2, [], 0), (76, .invokevirtual 56, 3, [0, 4, 1, 0, 934, 0, 4], 0), (79, .iinc 10 1, 3, [], 0), (82, .goto (-26), 3, [], 0)]),
  (85, [(85, .iconst 0, 1, [], 0), (86, .istore 10, 2, [], 0)]),
  (88, [(88, .iload 10, 2, [], 0), (90, .aload_n 0, 1, [], 0), (91, .getfield 35, 3, [0, 3, 0, 0, 296, 0], 0), (94, .if_icmp .gt 65, 3, [], 0)]),
  (97, [(97, .iload 10, 2, [], 0), (99, .bipush 33, 2, [], 0), (101, .if_icmp .ge 58, 3, [], 0)]),
  (104, [(104, .aload_n 0, 1, [], 0), (105, .getfield 9, 3, [0, 0, 284, 1, 290, 0], 1), (108, .iload 10, 2, [], 0), (110, .dup2, 1, [], 0), (111, .iaload, 1, [], 0), (112, .iload 6, 2, [], 0), (114, .iadd, 1, [], 0), (115, .iastore, 1, [], 0), (116, .aload_n 0, 1, [], 0), (117, .getfield 13, 3, [0, 1, 284, 1, 292, 0], 2), (120, .iload 10, 2, [], 0), (122, .dup2, 1, [], 0), (123, .iaload, 1, [], 0), (124, .iload 7, 2, [], 0), (126, .iadd, 1, [], 0), (127, .iastore, 1, [], 0), (128, .aload_n 0, 1, [], 0), (129, .getfield 16, 3, [0, 2, 284, 1, 294, 0], 3), (132, .iload 10, 2, [], 0), (134, .iload 8, 2, [], 0), (136, .iload 4, 2, [], 0), (138, .i2l, 1, [], 0), (139, .iload 10, 2, [], 0), (141, .i2l, 1, [], 0), (142, .lmul, 1, [], 0), (143, .aload_n 0, 1, [], 0), (144, .getfield 35, 3, [0, 3, 0, 0, 296, 0], 0), (147, .i2l, 1, [], 0), (148, .invokestatic 60, 3, [1, 5, 4, 0, 938, 1, 1], 0), (151, .iadd, 1, [], 0), (152, .iastore, 1, [], 0), (153, .iinc 10 1, 3, [], 0), (156, .goto (-68), 3, [], 0)]),
  (159, [(159, .return_, 1, [], 0)])]
def sdX0_lay : SD := [(0, [(0, .iload_n 3, 1, [], 0), (1, .ifCond .lt 11, 3, [], 0)]),
  (4, [(4, .iload_n 3, 1, [], 0), (5, .iconst 4, 1, [], 0), (6, .iadd, 1, [], 0), (7, .aload_n 2, 1, [], 0), (8, .arraylength, 1, [], 0), (9, .if_icmp .lt 4, 3, [], 0)]),
  (12, [(12, .return_, 1, [], 0)]),
  (13, [(13, .aload_n 0, 1, [], 0), (14, .getfield 9, 3, [0, 0, 284, 1, 290, 0], 1), (17, .iconst 0, 1, [], 0), (18, .aload_n 1, 1, [], 0), (19, .iconst 0, 1, [], 0), (20, .invokevirtual 19, 3, [1, 0, 1, 0, 913, 0, 14], 0), (23, .iastore, 1, [], 0), (24, .aload_n 0, 1, [], 0), (25, .getfield 13, 3, [0, 1, 284, 1, 292, 0], 2), (28, .iconst 0, 1, [], 0), (29, .aload_n 1, 1, [], 0), (30, .iconst 1, 1, [], 0), (31, .invokevirtual 19, 3, [1, 0, 1, 0, 913, 0, 14], 0), (34, .iastore, 1, [], 0), (35, .aload_n 0, 1, [], 0), (36, .getfield 16, 3, [0, 2, 284, 1, 294, 0], 3), (39, .iconst 0, 1, [], 0), (40, .aload_n 1, 1, [], 0), (41, .iconst 2, 1, [], 0), (42, .invokevirtual 19, 3, [1, 0, 1, 0, 913, 0, 14], 0), (45, .iastore, 1, [], 0), (46, .aload_n 2, 1, [], 0), (47, .iload_n 3, 1, [], 0), (48, .iaload, 1, [], 0), (49, .iconst 5, 1, [], 0), (50, .if_icmp .ne 34, 3, [], 0)]),
  (53, [(53, .aload_n 0, 1, [], 0), (54, .aload_n 2, 1, [], 0), (55, .iload_n 3, 1, [], 0), (56, .iconst 1, 1, [], 0), (57, .iadd, 1, [], 0), (58, .iaload, 1, [], 0), (59, .aload_n 2, 1, [], 0), (60, .iload_n 3, 1, [], 0), (61, .iconst 2, 1, [], 0), (62, .iadd, 1, [], 0), (63, .iaload, 1, [], 0), (64, .aload_n 2, 1, [], 0), (65, .iload_n 3, 1, [], 0), (66, .iconst 3, 1, [], 0), (67, .iadd, 1, [], 0), (68, .iaload, 1, [], 0), (69, .aload_n 2, 1, [], 0), (70, .iload_n 3, 1, [], 0), (71, .iconst 4, 1, [], 0), (72, .iadd, 1, [], 0), (73, .iaload, 1, [], 0), (74, .aload_n 1, 1, [], 0), (75, .getfield 27, 3, [10, 10, 0, 0, 197, 0], 0), (78, .invokevirtual 31, 3, [0, 1, 1, 0, 917, 0, 0, 0, 0, 0, 4], 0), (81, .goto 103, 3, [], 0)]),
  (84, [(84, .aload_n 2, 1, [], 0), (85, .iload_n 3, 1, [], 0), (86, .iaload, 1, [], 0), (87, .iconst 4, 1, [], 0), (88, .if_icmp .ne 7, 3, [], 0)]),
  (91, [(91, .iconst 1, 1, [], 0), (92, .goto 4, 3, [], 0)]),
  (95, [(95, .iconst 0, 1, [], 0)]),
  (96, [(96, .istore 4, 2, [], 0), (98, .aload_n 0, 1, [], 0), (99, .iconst 1, 1, [], 0), (100, .putfield 35, 3, [0, 3, 0, 0, 0, 296], 0), (103, .aload_n 0, 1, [], 0), (104, .getfield 9, 3, [0, 0, 284, 1, 290, 0], 1), (107, .iconst 1, 1, [], 0), (108, .aload_n 2, 1, [], 0), (109, .iload_n 3, 1, [], 0), (110, .iconst 1, 1, [], 0), (111, .iadd, 1, [], 0), (112, .iaload, 1, [], 0), (113, .iload 4, 2, [], 0), (115, .ifCond .eq 12, 3, [], 0)]),
  (118, [(118, .aload_n 0, 1, [], 0), (119, .getfield 9, 3, [0, 0, 284, 1, 290, 0], 1), (122, .iconst 0, 1, [], 0), (123, .iaload, 1, [], 0), (124, .goto 4, 3, [], 0)]),
  (127, [(127, .iconst 0, 1, [], 0)]),
  (128, [(128, .iadd, 1, [], 0), (129, .iastore, 1, [], 0), (130, .aload_n 0, 1, [], 0), (131, .getfield 13, 3, [0, 1, 284, 1, 292, 0], 2), (134, .iconst 1, 1, [], 0), (135, .aload_n 2, 1, [], 0), (136, .iload_n 3, 1, [], 0), (137, .iconst 2, 1, [], 0), (138, .iadd, 1, [], 0), (139, .iaload, 1, [], 0), (140, .iload 4, 2, [], 0), (142, .ifCond .eq 12, 3, [], 0)]),
  (145, [(145, .aload_n 0, 1, [], 0), (146, .getfield 13, 3, [0, 1, 284, 1, 292, 0], 2), (149, .iconst 0, 1, [], 0), (150, .iaload, 1, [], 0), (151, .goto 4, 3, [], 0)]),
  (154, [(154, .iconst 0, 1, [], 0)]),
  (155, [(155, .iadd, 1, [], 0), (156, .iastore, 1, [], 0), (157, .aload_n 0, 1, [], 0), (158, .getfield 16, 3, [0, 2, 284, 1, 294, 0], 3), (161, .iconst 1, 1, [], 0), (162, .aload_n 2, 1, [], 0), (163, .iload_n 3, 1, [], 0), (164, .iconst 3, 1, [], 0), (165, .iadd, 1, [], 0), (166, .iaload, 1, [], 0), (167, .iload 4, 2, [], 0), (169, .ifCond .eq 12, 3, [], 0)]),
  (172, [(172, .aload_n 0, 1, [], 0), (173, .getfield 16, 3, [0, 2, 284, 1, 294, 0], 3), (176, .iconst 0, 1, [], 0), (177, .iaload, 1, [], 0), (178, .goto 4, 3, [], 0)]),
  (181, [(181, .iconst 0, 1, [], 0)]),
  (182, [(182, .iadd, 1, [], 0), (183, .iastore, 1, [], 0)]),
  (184, [(184, .return_, 1, [], 0)])]
def sdX11_isBeyond : SD := [(0, [(0, .iload_n 0, 1, [], 0), (1, .ldc_w 344, 3, [0, 946], 100000), (4, .if_icmp .gt 10, 3, [], 0)]),
  (7, [(7, .iload_n 0, 1, [], 0), (8, .ldc_w 345, 3, [0, 947], (-100000)), (11, .if_icmp .ge 7, 3, [], 0)]),
  (14, [(14, .iconst 1, 1, [], 0), (15, .goto 4, 3, [], 0)]),
  (18, [(18, .iconst 0, 1, [], 0)]),
  (19, [(19, .ireturn, 1, [], 0)])]
def sdX0_goBeyond : SD := [(0, [(0, .iconst 1, 1, [], 0), (1, .istore_n 1, 1, [], 0)]),
  (2, [(2, .iload_n 1, 1, [], 0), (3, .aload_n 0, 1, [], 0), (4, .getfield 35, 3, [0, 3, 0, 0, 296, 0], 0), (7, .if_icmp .gt 53, 3, [], 0)]),
  (10, [(10, .iload_n 1, 1, [], 0), (11, .bipush 33, 2, [], 0), (13, .if_icmp .ge 47, 3, [], 0)]),
  (16, [(16, .aload_n 0, 1, [], 0), (17, .getfield 9, 3, [0, 0, 284, 1, 290, 0], 1), (20, .iload_n 1, 1, [], 0), (21, .iaload, 1, [], 0), (22, .invokestatic 70, 3, [1, 0, 4, 0, 943, 0], 0), (25, .ifCond .ne 27, 3, [], 0)]),
  (28, [(28, .aload_n 0, 1, [], 0), (29, .getfield 13, 3, [0, 1, 284, 1, 292, 0], 2), (32, .iload_n 1, 1, [], 0), (33, .iaload, 1, [], 0), (34, .invokestatic 70, 3, [1, 0, 4, 0, 943, 0], 0), (37, .ifCond .ne 15, 3, [], 0)]),
  (40, [(40, .aload_n 0, 1, [], 0), (41, .getfield 16, 3, [0, 2, 284, 1, 294, 0], 3), (44, .iload_n 1, 1, [], 0), (45, .iaload, 1, [], 0), (46, .invokestatic 70, 3, [1, 0, 4, 0, 943, 0], 0), (49, .ifCond .eq 5, 3, [], 0)]),
  (52, [(52, .iconst 1, 1, [], 0), (53, .ireturn, 1, [], 0)]),
  (54, [(54, .iinc 1 1, 3, [], 0), (57, .goto (-55), 3, [], 0)]),
  (60, [(60, .iconst 0, 1, [], 0), (61, .ireturn, 1, [], 0)])]
def sdX6_fail : SD := [(0, [(0, .aload_n 0, 1, [], 0), (1, .getfield 53, 3, [6, 8, 0, 0, 315, 0], 0), (4, .iconst (-1), 1, [], 0), (5, .if_icmp .ne 13, 3, [], 0)]),
  (8, [(8, .aload_n 0, 1, [], 0), (9, .bipush 8, 2, [], 0), (11, .iload_n 2, 1, [], 0), (12, .imul, 1, [], 0), (13, .iload_n 1, 1, [], 0), (14, .iadd, 1, [], 0), (15, .putfield 53, 3, [6, 8, 0, 0, 0, 315], 0)]),
  (18, [(18, .return_, 1, [], 0)])]
def sdX0_goings : SD := [(0, [(0, .iconst 0, 1, [], 0), (1, .istore_n 1, 1, [], 0), (2, .iconst 1, 1, [], 0), (3, .istore_n 2, 1, [], 0)]),
  (4, [(4, .iload_n 2, 1, [], 0), (5, .aload_n 0, 1, [], 0), (6, .getfield 35, 3, [0, 3, 0, 0, 296, 0], 0), (9, .if_icmp .gt 69, 3, [], 0)]),
  (12, [(12, .iload_n 2, 1, [], 0), (13, .bipush 33, 2, [], 0), (15, .if_icmp .ge 63, 3, [], 0)]),
  (18, [(18, .aload_n 0, 1, [], 0), (19, .getfield 9, 3, [0, 0, 284, 1, 290, 0], 1), (22, .iload_n 2, 1, [], 0), (23, .iaload, 1, [], 0), (24, .aload_n 0, 1, [], 0), (25, .getfield 9, 3, [0, 0, 284, 1, 290, 0], 1), (28, .iload_n 2, 1, [], 0), (29, .iconst 1, 1, [], 0), (30, .isub, 1, [], 0), (31, .iaload, 1, [], 0), (32, .if_icmp .ne 37, 3, [], 0)]),
  (35, [(35, .aload_n 0, 1, [], 0), (36, .getfield 13, 3, [0, 1, 284, 1, 292, 0], 2), (39, .iload_n 2, 1, [], 0), (40, .iaload, 1, [], 0), (41, .aload_n 0, 1, [], 0), (42, .getfield 13, 3, [0, 1, 284, 1, 292, 0], 2), (45, .iload_n 2, 1, [], 0), (46, .iconst 1, 1, [], 0), (47, .isub, 1, [], 0), (48, .iaload, 1, [], 0), (49, .if_icmp .ne 20, 3, [], 0)]),
  (52, [(52, .aload_n 0, 1, [], 0), (53, .getfield 16, 3, [0, 2, 284, 1, 294, 0], 3), (56, .iload_n 2, 1, [], 0), (57, .iaload, 1, [], 0), (58, .aload_n 0, 1, [], 0), (59, .getfield 16, 3, [0, 2, 284, 1, 294, 0], 3), (62, .iload_n 2, 1, [], 0), (63, .iconst 1, 1, [], 0), (64, .isub, 1, [], 0), (65, .iaload, 1, [], 0), (66, .if_icmp .eq 6, 3, [], 0)]),
  (69, [(69, .iinc 1 1, 3, [], 0)]),
  (72, [(72, .iinc 2 1, 3, [], 0), (75, .goto (-71), 3, [], 0)]),
  (78, [(78, .iload_n 1, 1, [], 0), (79, .ireturn, 1, [], 0)])]
def sdX10_has : SD := [(0, [(0, .iload_n 1, 1, [], 0), (1, .ifCond .lt 15, 3, [], 0)]),
  (4, [(4, .iload_n 1, 1, [], 0), (5, .aload_n 0, 1, [], 0), (6, .getfield 51, 3, [10, 11, 0, 0, 202, 0], 0), (9, .if_icmp .ge 7, 3, [], 0)]),
  (12, [(12, .iconst 1, 1, [], 0), (13, .goto 4, 3, [], 0)]),
  (16, [(16, .iconst 0, 1, [], 0)]),
  (17, [(17, .ireturn, 1, [], 0)])]
def sdX10_step : SD := [(0, [(0, .aload_n 0, 1, [], 0), (1, .iload_n 1, 1, [], 0), (2, .invokevirtual 89, 3, [1, 0, 1, 0, 645, 0, 14], 0), (5, .ifCond .eq 32, 3, [], 0)]),
  (8, [(8, .iload_n 2, 1, [], 0), (9, .invokestatic 63, 3, [1, 1, 4, 0, 649, 0], 0), (12, .ifCond .eq 25, 3, [], 0)]),
  (15, [(15, .aload_n 0, 1, [], 0), (16, .getfield 17, 3, [10, 1, 50, 1, 167, 0], 2), (19, .iload_n 2, 1, [], 0), (20, .aaload, 1, [], 0), (21, .iload_n 1, 1, [], 0), (22, .iconst 1, 1, [], 0), (23, .iadd, 1, [], 0), (24, .iaload, 1, [], 0), (25, .aload_n 0, 1, [], 0), (26, .getfield 17, 3, [10, 1, 50, 1, 167, 0], 2), (29, .iload_n 2, 1, [], 0), (30, .aaload, 1, [], 0), (31, .iload_n 1, 1, [], 0), (32, .iaload, 1, [], 0), (33, .isub, 1, [], 0), (34, .goto 4, 3, [], 0)]),
  (37, [(37, .iconst 0, 1, [], 0)]),
  (38, [(38, .ireturn, 1, [], 0)])]
def sdX10_rateAlong : SD := [(0, [(0, .iload_n 3, 1, [], 0), (1, .i2l, 1, [], 0), (2, .aload_n 0, 1, [], 0), (3, .getfield 20, 3, [10, 2, 532, 1, 172, 0], 6), (6, .iload_n 1, 1, [], 0), (7, .iaload, 1, [], 0), (8, .i2l, 1, [], 0), (9, .lmul, 1, [], 0), (10, .iload_n 2, 1, [], 0), (11, .invokestatic 102, 3, [1, 0, 7, 0, 969, 0], 0), (14, .i2l, 1, [], 0), (15, .invokestatic 105, 3, [1, 1, 4, 0, 972, 1, 1], 0), (18, .ireturn, 1, [], 0)])]
def sdX10_leastRate : SD := [(0, [(0, .ldc 92, 2, [0, 964], 163840000), (2, .istore_n 3, 1, [], 0), (3, .iconst 0, 1, [], 0), (4, .istore 4, 2, [], 0)]),
  (6, [(6, .iload 4, 2, [], 0), (8, .iconst 3, 1, [], 0), (9, .if_icmp .ge 44, 3, [], 0)]),
  (12, [(12, .aload_n 0, 1, [], 0), (13, .iload_n 1, 1, [], 0), (14, .iload 4, 2, [], 0), (16, .invokevirtual 71, 3, [1, 0, 1, 0, 957, 0, 0, 14], 0), (19, .istore 5, 2, [], 0), (21, .iload 5, 2, [], 0), (23, .ifCond .eq 24, 3, [], 0)]),
  (26, [(26, .iload_n 3, 1, [], 0), (27, .aload_n 0, 1, [], 0), (28, .iload_n 1, 1, [], 0), (29, .iload 5, 2, [], 0), (31, .aload_n 0, 1, [], 0), (32, .getfield 9, 3, [10, 0, 68, 1, 165, 0], 1), (35, .iload_n 2, 1, [], 0), (36, .iload 4, 2, [], 0), (38, .iadd, 1, [], 0), (39, .iaload, 1, [], 0), (40, .invokevirtual 93, 3, [1, 1, 1, 0, 965, 0, 0, 0, 14], 0), (43, .invokestatic 97, 3, [1, 2, 7, 0, 973, 0, 0], 0), (46, .istore_n 3, 1, [], 0)]),
  (47, [(47, .iinc 4 1, 3, [], 0), (50, .goto (-44), 3, [], 0)]),
  (53, [(53, .iload_n 3, 1, [], 0), (54, .ireturn, 1, [], 0)])]
def sdX10_sharpness : SD := [(0, [(0, .lconst 0, 1, [], 0), (1, .lstore_n 2, 1, [], 0), (2, .iconst 0, 1, [], 0), (3, .istore 4, 2, [], 0)]),
  (5, [(5, .iload 4, 2, [], 0), (7, .iconst 3, 1, [], 0), (8, .if_icmp .ge 69, 3, [], 0)]),
  (11, [(11, .aload_n 0, 1, [], 0), (12, .iload_n 1, 1, [], 0), (13, .iconst 1, 1, [], 0), (14, .iadd, 1, [], 0), (15, .iload 4, 2, [], 0), (17, .invokevirtual 71, 3, [1, 0, 1, 0, 957, 0, 0, 14], 0), (20, .i2l, 1, [], 0), (21, .ldc2_w 109, 3, [1, 978], 32768), (24, .lmul, 1, [], 0), (25, .aload_n 0, 1, [], 0), (26, .getfield 20, 3, [10, 2, 532, 1, 172, 0], 6), (29, .iload_n 1, 1, [], 0), (30, .iconst 1, 1, [], 0), (31, .iadd, 1, [], 0), (32, .iaload, 1, [], 0), (33, .i2l, 1, [], 0), (34, .invokestatic 105, 3, [1, 1, 4, 0, 972, 1, 1], 0), (37, .aload_n 0, 1, [], 0), (38, .iload_n 1, 1, [], 0), (39, .iload 4, 2, [], 0), (41, .invokevirtual 71, 3, [1, 0, 1, 0, 957, 0, 0, 14], 0), (44, .i2l, 1, [], 0), (45, .ldc2_w 109, 3, [1, 978], 32768), (48, .lmul, 1, [], 0), (49, .aload_n 0, 1, [], 0), (50, .getfield 20, 3, [10, 2, 532, 1, 172, 0], 6), (53, .iload_n 1, 1, [], 0), (54, .iaload, 1, [], 0), (55, .i2l, 1, [], 0), (56, .invokestatic 105, 3, [1, 1, 4, 0, 972, 1, 1], 0), (59, .isub, 1, [], 0), (60, .istore 5, 2, [], 0), (62, .lload_n 2, 1, [], 0), (63, .iload 5, 2, [], 0), (65, .i2l, 1, [], 0), (66, .invokestatic 75, 3, [2, 2, 4, 0, 958, 1], 0), (69, .ladd, 1, [], 0), (70, .lstore_n 2, 1, [], 0), (71, .iinc 4 1, 3, [], 0), (74, .goto (-69), 3, [], 0)]),
  (77, [(77, .lload_n 2, 1, [], 0), (78, .invokestatic 79, 3, [1, 3, 4, 0, 959, 1], 0), (81, .ireturn, 1, [], 0)])]
def sdX10_add : SD := [(0, [(0, .aload_n 0, 1, [], 0), (1, .getfield 51, 3, [10, 11, 0, 0, 202, 0], 0), (4, .istore 5, 2, [], 0), (6, .iload 5, 2, [], 0), (8, .bipush 64, 2, [], 0), (10, .if_icmp .ge 30, 3, [], 0)]),
  (13, [(13, .iload_n 1, 1, [], 0), (14, .aload_n 0, 1, [], 0), (15, .iconst 0, 1, [], 0), (16, .invokevirtual 67, 3, [1, 0, 1, 0, 956, 0, 14], 0), (19, .if_icmp .ne 22, 3, [], 0)]),
  (22, [(22, .iload_n 2, 1, [], 0), (23, .aload_n 0, 1, [], 0), (24, .iconst 1, 1, [], 0), (25, .invokevirtual 67, 3, [1, 0, 1, 0, 956, 0, 14], 0), (28, .if_icmp .ne 13, 3, [], 0)]),
  (31, [(31, .iload_n 3, 1, [], 0), (32, .aload_n 0, 1, [], 0), (33, .iconst 2, 1, [], 0), (34, .invokevirtual 67, 3, [1, 0, 1, 0, 956, 0, 14], 0), (37, .if_icmp .ne 4, 3, [], 0)]),
  (40, [(40, .return_, 1, [], 0)]),
  (41, [(41, .aload_n 0, 1, [], 0), (42, .getfield 17, 3, [10, 1, 50, 1, 167, 0], 2), (45, .iconst 0, 1, [], 0), (46, .aaload, 1, [], 0), (47, .iload 5, 2, [], 0), (49, .iconst 1, 1, [], 0), (50, .iadd, 1, [], 0), (51, .iload_n 1, 1, [], 0), (52, .iastore, 1, [], 0), (53, .aload_n 0, 1, [], 0), (54, .getfield 17, 3, [10, 1, 50, 1, 167, 0], 2), (57, .iconst 1, 1, [], 0), (58, .aaload, 1, [], 0), (59, .iload 5, 2, [], 0), (61, .iconst 1, 1, [], 0), (62, .iadd, 1, [], 0), (63, .iload_n 2, 1, [], 0), (64, .iastore, 1, [], 0), (65, .aload_n 0, 1, [], 0), (66, .getfield 17, 3, [10, 1, 50, 1, 167, 0], 2), (69, .iconst 2, 1, [], 0), (70, .aaload, 1, [], 0), (71, .iload 5, 2, [], 0), (73, .iconst 1, 1, [], 0), (74, .iadd, 1, [], 0), (75, .iload_n 3, 1, [], 0), (76, .iastore, 1, [], 0), (77, .aload_n 0, 1, [], 0), (78, .iload 5, 2, [], 0), (80, .iconst 1, 1, [], 0), (81, .iadd, 1, [], 0), (82, .putfield 51, 3, [10, 11, 0, 0, 0, 202], 0), (85, .aload_n 0, 1, [], 0), (86, .getfield 20, 3, [10, 2, 532, 1, 172, 0], 6), (89, .iload 5, 2, [], 0), (91, .aload_n 0, 1, [], 0), (92, .iload 5, 2, [], 0), (94, .iconst 0, 1, [], 0), (95, .invokevirtual 71, 3, [1, 1, 1, 0, 957, 0, 0, 14], 0), (98, .i2l, 1, [], 0), (99, .invokestatic 75, 3, [2, 2, 4, 0, 958, 1], 0), (102, .aload_n 0, 1, [], 0), (103, .iload 5, 2, [], 0), (105, .iconst 1, 1, [], 0), (106, .invokevirtual 71, 3, [1, 1, 1, 0, 957, 0, 0, 14], 0), (109, .i2l, 1, [], 0), (110, .invokestatic 75, 3, [2, 2, 4, 0, 958, 1], 0), (113, .ladd, 1, [], 0), (114, .aload_n 0, 1, [], 0), (115, .iload 5, 2, [], 0), (117, .iconst 2, 1, [], 0), (118, .invokevirtual 71, 3, [1, 1, 1, 0, 957, 0, 0, 14], 0), (121, .i2l, 1, [], 0), (122, .invokestatic 75, 3, [2, 2, 4, 0, 958, 1], 0), (125, .ladd, 1, [], 0), (126, .invokestatic 79, 3, [1, 3, 4, 0, 959, 1], 0), (129, .iastore, 1, [], 0), (130, .aload_n 0, 1, [], 0), (131, .dup, 1, [], 0), (132, .getfield 60, 3, [10, 14, 0, 0, 213, 0], 0), (135, .aload_n 0, 1, [], 0), (136, .getfield 20, 3, [10, 2, 532, 1, 172, 0], 6), (139, .iload 5, 2, [], 0), (141, .iaload, 1, [], 0), (142, .iadd, 1, [], 0), (143, .putfield 60, 3, [10, 14, 0, 0, 0, 213], 0), (146, .aload_n 0, 1, [], 0), (147, .getfield 23, 3, [10, 3, 532, 1, 176, 0], 7), (150, .iload 5, 2, [], 0), (152, .aload_n 0, 1, [], 0), (153, .getfield 60, 3, [10, 14, 0, 0, 213, 0], 0), (156, .iastore, 1, [], 0), (157, .aload_n 0, 1, [], 0), (158, .getfield 26, 3, [10, 4, 532, 1, 179, 0], 8), (161, .iload 5, 2, [], 0), (163, .iload 4, 2, [], 0), (165, .iastore, 1, [], 0), (166, .aload_n 0, 1, [], 0), (167, .getfield 35, 3, [10, 7, 532, 1, 188, 0], 11), (170, .iload 5, 2, [], 0), (172, .aload_n 0, 1, [], 0), (173, .getfield 54, 3, [10, 12, 0, 0, 207, 0], 0), (176, .iastore, 1, [], 0), (177, .aload_n 0, 1, [], 0), (178, .getfield 29, 3, [10, 5, 532, 1, 182, 0], 9), (181, .iload 5, 2, [], 0), (183, .aload_n 0, 1, [], 0), (184, .iload 5, 2, [], 0), (186, .iconst 0, 1, [], 0), (187, .invokevirtual 83, 3, [1, 4, 1, 0, 960, 0, 0, 14], 0), (190, .iastore, 1, [], 0), (191, .aload_n 0, 1, [], 0), (192, .getfield 32, 3, [10, 6, 532, 1, 185, 0], 10), (195, .iload 5, 2, [], 0), (197, .aload_n 0, 1, [], 0), (198, .iload 5, 2, [], 0), (200, .iconst 3, 1, [], 0), (201, .invokevirtual 83, 3, [1, 4, 1, 0, 960, 0, 0, 14], 0), (204, .iastore, 1, [], 0), (205, .iload 5, 2, [], 0), (207, .ifCond .le 20, 3, [], 0)]),
  (210, [(210, .aload_n 0, 1, [], 0), (211, .getfield 38, 3, [10, 8, 532, 1, 190, 0], 12), (214, .iload 5, 2, [], 0), (216, .iconst 1, 1, [], 0), (217, .isub, 1, [], 0), (218, .aload_n 0, 1, [], 0), (219, .iload 5, 2, [], 0), (221, .iconst 1, 1, [], 0), (222, .isub, 1, [], 0), (223, .invokevirtual 86, 3, [1, 5, 1, 0, 974, 0, 14], 0), (226, .iastore, 1, [], 0)]),
  (227, [(227, .return_, 1, [], 0)])]
def sdX6_tellMove : SD := [(0, [(0, .aload_n 0, 1, [], 0), (1, .getfield 39, 3, [6, 7, 14, 0, 314, 0], 0), (4, .getfield 134, 3, [10, 12, 0, 0, 208, 0], 0), (7, .invokestatic 137, 3, [1, 0, 3, 0, 876, 0], 0), (10, .istore_n 1, 1, [], 0), (11, .aload_n 0, 1, [], 0), (12, .getfield 12, 3, [6, 1, 4, 1, 308, 0], 1), (15, .aload_n 0, 1, [], 0), (16, .getfield 39, 3, [6, 7, 14, 0, 314, 0], 0), (19, .aload_n 0, 1, [], 0), (20, .getfield 18, 3, [6, 2, 1988, 1, 309, 0], 5), (23, .iload_n 1, 1, [], 0), (24, .invokevirtual 180, 3, [0, 1, 1, 0, 909, 0, 1988, 14, 4], 0), (27, .aload_n 0, 1, [], 0), (28, .getfield 12, 3, [6, 1, 4, 1, 308, 0], 1), (31, .invokevirtual 184, 3, [1, 2, 1, 0, 939, 4], 0), (34, .ifCond .eq 15, 3, [], 0)]),
  (37, [(37, .aload_n 0, 1, [], 0), (38, .iconst 5, 1, [], 0), (39, .aload_n 0, 1, [], 0), (40, .getfield 70, 3, [6, 9, 0, 0, 316, 0], 0), (43, .invokevirtual 89, 3, [0, 3, 1, 0, 856, 0, 0, 10], 0), (46, .goto 127, 3, [], 0)]),
  (49, [(49, .aload_n 0, 1, [], 0), (50, .getfield 39, 3, [6, 7, 14, 0, 314, 0], 0), (53, .getfield 134, 3, [10, 12, 0, 0, 208, 0], 0), (56, .bipush 40, 2, [], 0), (58, .if_icmp .ge 23, 3, [], 0)]),
  (61, [(61, .aload_n 0, 1, [], 0), (62, .getfield 39, 3, [6, 7, 14, 0, 314, 0], 0), (65, .getfield 188, 3, [10, 11, 0, 0, 206, 0], 0), (68, .aload_n 0, 1, [], 0), (69, .getfield 12, 3, [6, 1, 4, 1, 308, 0], 1), (72, .invokevirtual 191, 3, [1, 4, 1, 0, 948, 4], 0), (75, .iadd, 1, [], 0), (76, .bipush 64, 2, [], 0), (78, .if_icmp .le 15, 3, [], 0)]),
  (81, [(81, .aload_n 0, 1, [], 0), (82, .iconst 4, 1, [], 0), (83, .aload_n 0, 1, [], 0), (84, .getfield 70, 3, [6, 9, 0, 0, 316, 0], 0), (87, .invokevirtual 89, 3, [0, 3, 1, 0, 856, 0, 0, 10], 0), (90, .goto 83, 3, [], 0)]),
  (93, [(93, .iconst 1, 1, [], 0), (94, .istore_n 2, 1, [], 0)]),
  (95, [(95, .iload_n 2, 1, [], 0), (96, .aload_n 0, 1, [], 0), (97, .getfield 12, 3, [6, 1, 4, 1, 308, 0], 1), (100, .getfield 194, 3, [0, 3, 0, 0, 297, 0], 0), (103, .if_icmp .gt 57, 3, [], 0)]),
  (106, [(106, .iload_n 2, 1, [], 0), (107, .bipush 33, 2, [], 0), (109, .if_icmp .ge 51, 3, [], 0)]),
  (112, [(112, .aload_n 0, 1, [], 0), (113, .getfield 39, 3, [6, 7, 14, 0, 314, 0], 0), (116, .aload_n 0, 1, [], 0), (117, .getfield 12, 3, [6, 1, 4, 1, 308, 0], 1), (120, .getfield 197, 3, [0, 0, 284, 1, 291, 0], 1), (123, .iload_n 2, 1, [], 0), (124, .iaload, 1, [], 0), (125, .aload_n 0, 1, [], 0), (126, .getfield 12, 3, [6, 1, 4, 1, 308, 0], 1), (129, .getfield 200, 3, [0, 1, 284, 1, 293, 0], 2), (132, .iload_n 2, 1, [], 0), (133, .iaload, 1, [], 0), (134, .aload_n 0, 1, [], 0), (135, .getfield 12, 3, [6, 1, 4, 1, 308, 0], 1), (138, .getfield 203, 3, [0, 2, 284, 1, 295, 0], 3), (141, .iload_n 2, 1, [], 0), (142, .iaload, 1, [], 0), (143, .aload_n 0, 1, [], 0), (144, .getfield 18, 3, [6, 2, 1988, 1, 309, 0], 5), (147, .iload_n 1, 1, [], 0), (148, .iconst 5, 1, [], 0), (149, .iadd, 1, [], 0), (150, .iaload, 1, [], 0), (151, .invokevirtual 206, 3, [0, 5, 1, 0, 952, 0, 0, 0, 0, 14], 0), (154, .iinc 2 1, 3, [], 0), (157, .goto (-62), 3, [], 0)]),
  (160, [(160, .aload_n 0, 1, [], 0), (161, .getfield 39, 3, [6, 7, 14, 0, 314, 0], 0), (164, .dup, 1, [], 0), (165, .getfield 134, 3, [10, 12, 0, 0, 208, 0], 0), (168, .iconst 1, 1, [], 0), (169, .iadd, 1, [], 0), (170, .putfield 134, 3, [10, 12, 0, 0, 0, 208], 0)]),
  (173, [(173, .return_, 1, [], 0)])]
def sdX6_tellAgain : SD := [(0, [(0, .aload_n 0, 1, [], 0), (1, .getfield 161, 3, [6, 13, 0, 0, 320, 0], 0), (4, .ifCond .lt 12, 3, [], 0)]),
  (7, [(7, .aload_n 0, 1, [], 0), (8, .getfield 161, 3, [6, 13, 0, 0, 320, 0], 0), (11, .bipush 8, 2, [], 0), (13, .if_icmp .lt 4, 3, [], 0)]),
  (16, [(16, .return_, 1, [], 0)]),
  (17, [(17, .aload_n 0, 1, [], 0), (18, .getfield 39, 3, [6, 7, 14, 0, 314, 0], 0), (21, .getfield 134, 3, [10, 12, 0, 0, 208, 0], 0), (24, .istore_n 1, 1, [], 0), (25, .iconst 0, 1, [], 0), (26, .istore_n 2, 1, [], 0)]),
  (27, [(27, .iload_n 2, 1, [], 0), (28, .aload_n 0, 1, [], 0), (29, .getfield 164, 3, [6, 14, 0, 0, 321, 0], 0), (32, .if_icmp .ge 104, 3, [], 0)]),
  (35, [(35, .aload_n 0, 1, [], 0), (36, .getfield 53, 3, [6, 8, 0, 0, 315, 0], 0), (39, .iconst (-1), 1, [], 0), (40, .if_icmp .ne 96, 3, [], 0)]),
  (43, [(43, .aload_n 0, 1, [], 0), (44, .getfield 28, 3, [6, 5, 84, 1, 312, 0], 8), (47, .aload_n 0, 1, [], 0), (48, .getfield 161, 3, [6, 13, 0, 0, 320, 0], 0), (51, .iaload, 1, [], 0), (52, .istore_n 3, 1, [], 0)]),
  (53, [(53, .iload_n 3, 1, [], 0), (54, .iload_n 1, 1, [], 0), (55, .if_icmp .ge 75, 3, [], 0)]),
  (58, [(58, .aload_n 0, 1, [], 0), (59, .getfield 53, 3, [6, 8, 0, 0, 315, 0], 0), (62, .iconst (-1), 1, [], 0), (63, .if_icmp .ne 67, 3, [], 0)]),
  (66, [(66, .iload_n 3, 1, [], 0), (67, .invokestatic 137, 3, [1, 0, 3, 0, 876, 0], 0), (70, .istore 4, 2, [], 0), (72, .aload_n 0, 1, [], 0), (73, .getfield 39, 3, [6, 7, 14, 0, 314, 0], 0), (76, .getfield 134, 3, [10, 12, 0, 0, 208, 0], 0), (79, .invokestatic 137, 3, [1, 0, 3, 0, 876, 0], 0), (82, .istore 5, 2, [], 0), (84, .iconst 0, 1, [], 0), (85, .istore 6, 2, [], 0)]),
  (87, [(87, .iload 6, 2, [], 0), (89, .bipush 6, 2, [], 0), (91, .if_icmp .ge 29, 3, [], 0)]),
  (94, [(94, .aload_n 0, 1, [], 0), (95, .getfield 18, 3, [6, 2, 1988, 1, 309, 0], 5), (98, .iload 5, 2, [], 0), (100, .iload 6, 2, [], 0), (102, .iadd, 1, [], 0), (103, .aload_n 0, 1, [], 0), (104, .getfield 18, 3, [6, 2, 1988, 1, 309, 0], 5), (107, .iload 4, 2, [], 0), (109, .iload 6, 2, [], 0), (111, .iadd, 1, [], 0), (112, .iaload, 1, [], 0), (113, .iastore, 1, [], 0), (114, .iinc 6 1, 3, [], 0), (117, .goto (-30), 3, [], 0)]),
  (120, [(120, .aload_n 0, 1, [], 0), (121, .invokevirtual 83, 3, [0, 1, 1, 0, 905, 10], 0), (124, .iinc 3 1, 3, [], 0), (127, .goto (-74), 3, [], 0)]),
  (130, [(130, .iinc 2 1, 3, [], 0), (133, .goto (-106), 3, [], 0)]),
  (136, [(136, .return_, 1, [], 0)])]
def sdX7_find : SD := [(0, [(0, .iconst 0, 1, [], 0), (1, .istore 4, 2, [], 0)]),
  (3, [(3, .iload 4, 2, [], 0), (5, .aload_n 0, 1, [], 0), (6, .getfield 51, 3, [7, 4, 0, 0, 368, 0], 0), (9, .if_icmp .ge 51, 3, [], 0)]),
  (12, [(12, .aload_n 0, 1, [], 0), (13, .getfield 11, 3, [7, 1, 50, 1, 363, 0], 1), (16, .iconst 0, 1, [], 0), (17, .aaload, 1, [], 0), (18, .iload 4, 2, [], 0), (20, .iaload, 1, [], 0), (21, .iload_n 1, 1, [], 0), (22, .if_icmp .ne 32, 3, [], 0)]),
  (25, [(25, .aload_n 0, 1, [], 0), (26, .getfield 11, 3, [7, 1, 50, 1, 363, 0], 1), (29, .iconst 1, 1, [], 0), (30, .aaload, 1, [], 0), (31, .iload 4, 2, [], 0), (33, .iaload, 1, [], 0), (34, .iload_n 2, 1, [], 0), (35, .if_icmp .ne 19, 3, [], 0)]),
  (38, [(38, .aload_n 0, 1, [], 0), (39, .getfield 11, 3, [7, 1, 50, 1, 363, 0], 1), (42, .iconst 2, 1, [], 0), (43, .aaload, 1, [], 0), (44, .iload 4, 2, [], 0), (46, .iaload, 1, [], 0), (47, .iload_n 3, 1, [], 0), (48, .if_icmp .ne 6, 3, [], 0)]),
  (51, [(51, .iload 4, 2, [], 0), (53, .ireturn, 1, [], 0)]),
  (54, [(54, .iinc 4 1, 3, [], 0), (57, .goto (-54), 3, [], 0)]),
  (60, [(60, .iconst (-1), 1, [], 0), (61, .ireturn, 1, [], 0)])]
def sdX12_isRight : SD := [(0, [(0, .aload_n 0, 1, [], 0), (1, .getfield 187, 3, [12, 22, 0, 0, 1344, 0], 0), (4, .iconst (-1), 1, [], 0), (5, .if_icmp .ne 7, 3, [], 0)]),
  (8, [(8, .iconst 1, 1, [], 0), (9, .goto 4, 3, [], 0)]),
  (12, [(12, .iconst 0, 1, [], 0)]),
  (13, [(13, .ireturn, 1, [], 0)])]
def sdX12_sign : SD := [(0, [(0, .aload_n 0, 1, [], 0), (1, .getfield 190, 3, [12, 21, 0, 0, 1343, 0], 0), (4, .aload_n 0, 1, [], 0), (5, .getfield 180, 3, [12, 20, 0, 0, 1342, 0], 0), (8, .if_icmp .ge 19, 3, [], 0)]),
  (11, [(11, .aload_n 0, 1, [], 0), (12, .getfield 52, 3, [12, 19, 3223, 1, 1341, 0], 14), (15, .aload_n 0, 1, [], 0), (16, .getfield 190, 3, [12, 21, 0, 0, 1343, 0], 0), (19, .baload, 1, [], 0), (20, .sipush 255, 3, [], 0), (23, .iand, 1, [], 0), (24, .goto 4, 3, [], 0)]),
  (27, [(27, .iconst (-1), 1, [], 0)]),
  (28, [(28, .ireturn, 1, [], 0)])]
def sdX12_next : SD := [(0, [(0, .aload_n 0, 1, [], 0), (1, .invokevirtual 193, 3, [1, 0, 1, 0, 1543, 16], 0), (4, .bipush 32, 2, [], 0), (6, .if_icmp .eq 12, 3, [], 0)]),
  (9, [(9, .aload_n 0, 1, [], 0), (10, .invokevirtual 193, 3, [1, 0, 1, 0, 1543, 16], 0), (13, .bipush 10, 2, [], 0), (15, .if_icmp .ne 16, 3, [], 0)]),
  (18, [(18, .aload_n 0, 1, [], 0), (19, .dup, 1, [], 0), (20, .getfield 190, 3, [12, 21, 0, 0, 1343, 0], 0), (23, .iconst 1, 1, [], 0), (24, .iadd, 1, [], 0), (25, .putfield 190, 3, [12, 21, 0, 0, 0, 1343], 0), (28, .goto (-28), 3, [], 0)]),
  (31, [(31, .aload_n 0, 1, [], 0), (32, .invokevirtual 193, 3, [1, 0, 1, 0, 1543, 16], 0), (35, .ireturn, 1, [], 0)])]
def sdX12_in : SD := [(0, [(0, .lload_n 0, 1, [], 0), (1, .lload_n 2, 1, [], 0), (2, .lcmp, 1, [], 0), (3, .ifCond .lt 14, 3, [], 0)]),
  (6, [(6, .lload_n 0, 1, [], 0), (7, .lload 4, 2, [], 0), (9, .lcmp, 1, [], 0), (10, .ifCond .gt 7, 3, [], 0)]),
  (13, [(13, .iconst 1, 1, [], 0), (14, .goto 4, 3, [], 0)]),
  (17, [(17, .iconst 0, 1, [], 0)]),
  (18, [(18, .ireturn, 1, [], 0)])]
def sdX12_isDigit : SD := [(0, [(0, .aload_n 0, 1, [], 0), (1, .invokevirtual 193, 3, [1, 0, 1, 0, 1543, 16], 0), (4, .i2l, 1, [], 0), (5, .ldc2_w 236, 3, [1, 1593], 48), (8, .ldc2_w 238, 3, [1, 1594], 57), (11, .invokestatic 217, 3, [1, 1, 3, 0, 1561, 1, 1, 1], 0), (14, .ireturn, 1, [], 0)])]
def sdX12_fails : SD := [(0, [(0, .aload_n 0, 1, [], 0), (1, .getfield 187, 3, [12, 22, 0, 0, 1344, 0], 0), (4, .iconst (-1), 1, [], 0), (5, .if_icmp .ne 13, 3, [], 0)]),
  (8, [(8, .aload_n 0, 1, [], 0), (9, .bipush 8, 2, [], 0), (11, .iload_n 2, 1, [], 0), (12, .imul, 1, [], 0), (13, .iload_n 1, 1, [], 0), (14, .iadd, 1, [], 0), (15, .putfield 187, 3, [12, 22, 0, 0, 0, 1344], 0)]),
  (18, [(18, .return_, 1, [], 0)])]
def sdX12_number : SD := [(0, [(0, .aload_n 0, 1, [], 0), (1, .invokevirtual 240, 3, [1, 0, 1, 0, 1535, 16], 0), (4, .ifCond .ne 5, 3, [], 0)]),
  (7, [(7, .iconst 0, 1, [], 0), (8, .ireturn, 1, [], 0)]),
  (9, [(9, .aload_n 0, 1, [], 0), (10, .invokevirtual 244, 3, [1, 1, 1, 0, 1539, 16], 0), (13, .istore_n 3, 1, [], 0), (14, .iload_n 3, 1, [], 0), (15, .bipush 45, 2, [], 0), (17, .if_icmp .ne 22, 3, [], 0)]),
  (20, [(20, .iload_n 1, 1, [], 0), (21, .ifCond .ge 18, 3, [], 0)]),
  (24, [(24, .aload_n 0, 1, [], 0), (25, .dup, 1, [], 0), (26, .getfield 190, 3, [12, 21, 0, 0, 1343, 0], 0), (29, .iconst 1, 1, [], 0), (30, .iadd, 1, [], 0), (31, .putfield 190, 3, [12, 21, 0, 0, 0, 1343], 0), (34, .aload_n 0, 1, [], 0), (35, .invokevirtual 244, 3, [1, 1, 1, 0, 1539, 16], 0), (38, .pop, 1, [], 0)]),
  (39, [(39, .aload_n 0, 1, [], 0), (40, .aload_n 0, 1, [], 0), (41, .getfield 190, 3, [12, 21, 0, 0, 1343, 0], 0), (44, .putfield 247, 3, [12, 23, 0, 0, 0, 1345], 0), (47, .aload_n 0, 1, [], 0), (48, .invokevirtual 250, 3, [1, 2, 1, 0, 1589, 16], 0), (51, .ifCond .ne 14, 3, [], 0)]),
  (54, [(54, .aload_n 0, 1, [], 0), (55, .iconst 1, 1, [], 0), (56, .aload_n 0, 1, [], 0), (57, .getfield 190, 3, [12, 21, 0, 0, 1343, 0], 0), (60, .invokevirtual 253, 3, [0, 3, 1, 0, 1577, 0, 0, 16], 0), (63, .iconst 0, 1, [], 0), (64, .ireturn, 1, [], 0)]),
  (65, [(65, .iconst 0, 1, [], 0), (66, .istore 4, 2, [], 0)]),
  (68, [(68, .aload_n 0, 1, [], 0), (69, .invokevirtual 250, 3, [1, 2, 1, 0, 1589, 16], 0), (72, .ifCond .eq 37, 3, [], 0)]),
  (75, [(75, .ldc_w 257, 3, [0, 1595], 10000000), (78, .bipush 10, 2, [], 0), (80, .iload 4, 2, [], 0), (82, .imul, 1, [], 0), (83, .aload_n 0, 1, [], 0), (84, .invokevirtual 193, 3, [1, 4, 1, 0, 1543, 16], 0), (87, .iadd, 1, [], 0), (88, .bipush 48, 2, [], 0), (90, .isub, 1, [], 0), (91, .invokestatic 258, 3, [1, 5, 7, 0, 1596, 0, 0], 0), (94, .istore 4, 2, [], 0), (96, .aload_n 0, 1, [], 0), (97, .dup, 1, [], 0), (98, .getfield 190, 3, [12, 21, 0, 0, 1343, 0], 0), (101, .iconst 1, 1, [], 0), (102, .iadd, 1, [], 0), (103, .putfield 190, 3, [12, 21, 0, 0, 0, 1343], 0), (106, .goto (-38), 3, [], 0)]),
  (109, [(109, .iload_n 3, 1, [], 0), (110, .bipush 45, 2, [], 0), (112, .if_icmp .ne 9, 3, [], 0)]),
  (115, [(115, .iload 4, 2, [], 0), (117, .ineg, 1, [], 0), (118, .goto 5, 3, [], 0)]),
  (121, [(121, .iload 4, 2, [], 0)]),
  (123, [(123, .istore 4, 2, [], 0), (125, .iload 4, 2, [], 0), (127, .i2l, 1, [], 0), (128, .iload_n 1, 1, [], 0), (129, .i2l, 1, [], 0), (130, .iload_n 2, 1, [], 0), (131, .i2l, 1, [], 0), (132, .invokestatic 217, 3, [1, 6, 3, 0, 1561, 1, 1, 1], 0), (135, .ifCond .ne 12, 3, [], 0)]),
  (138, [(138, .aload_n 0, 1, [], 0), (139, .iconst 2, 1, [], 0), (140, .aload_n 0, 1, [], 0), (141, .getfield 247, 3, [12, 23, 0, 0, 1345, 0], 0), (144, .invokevirtual 253, 3, [0, 3, 1, 0, 1577, 0, 0, 16], 0)]),
  (147, [(147, .iload 4, 2, [], 0), (149, .ireturn, 1, [], 0)])]
def sdX12_square : SD := [(0, [(0, .lload_n 0, 1, [], 0), (1, .lload_n 0, 1, [], 0), (2, .lmul, 1, [], 0), (3, .lreturn, 1, [], 0)])]
def sdX12_root : SD := [(0, [(0, .lconst 0, 1, [], 0), (1, .lstore_n 2, 1, [], 0), (2, .ldc2_w 123, 3, [1, 1320], 3037000499), (5, .lstore 4, 2, [], 0)]),
  (7, [(7, .lload_n 2, 1, [], 0), (8, .lload 4, 2, [], 0), (10, .lcmp, 1, [], 0), (11, .ifCond .ge 40, 3, [], 0)]),
  (14, [(14, .lload_n 2, 1, [], 0), (15, .lload 4, 2, [], 0), (17, .ladd, 1, [], 0), (18, .lconst 1, 1, [], 0), (19, .ladd, 1, [], 0), (20, .ldc2_w 125, 3, [1, 1321], 2), (23, .ldiv, 1, [], 0), (24, .lstore 6, 2, [], 0), (26, .lload 6, 2, [], 0), (28, .lload 6, 2, [], 0), (30, .lmul, 1, [], 0), (31, .lload_n 0, 1, [], 0), (32, .lcmp, 1, [], 0), (33, .ifCond .gt 9, 3, [], 0)]),
  (36, [(36, .lload 6, 2, [], 0), (38, .lstore_n 2, 1, [], 0), (39, .goto 9, 3, [], 0)]),
  (42, [(42, .lload 6, 2, [], 0), (44, .lconst 1, 1, [], 0), (45, .lsub, 1, [], 0), (46, .lstore 4, 2, [], 0)]),
  (48, [(48, .goto (-41), 3, [], 0)]),
  (51, [(51, .lload_n 2, 1, [], 0), (52, .l2i, 1, [], 0), (53, .ireturn, 1, [], 0)])]
def sdX12_bulge : SD := [(0, [(0, .iload_n 1, 1, [], 0), (1, .aload_n 0, 1, [], 0), (2, .getfield 59, 3, [12, 28, 285, 1, 1350, 0], 16), (5, .iconst 0, 1, [], 0), (6, .laload, 1, [], 0), (7, .aload_n 0, 1, [], 0), (8, .getfield 59, 3, [12, 28, 285, 1, 1350, 0], 16), (11, .iconst 1, 1, [], 0), (12, .laload, 1, [], 0), (13, .ladd, 1, [], 0), (14, .invokestatic 150, 3, [2, 0, 3, 0, 1314, 1], 0), (17, .aload_n 0, 1, [], 0), (18, .getfield 62, 3, [12, 29, 285, 1, 1351, 0], 17), (21, .iconst 0, 1, [], 0), (22, .laload, 1, [], 0), (23, .aload_n 0, 1, [], 0), (24, .getfield 62, 3, [12, 29, 285, 1, 1351, 0], 17), (27, .iconst 1, 1, [], 0), (28, .laload, 1, [], 0), (29, .ladd, 1, [], 0), (30, .invokestatic 150, 3, [2, 0, 3, 0, 1314, 1], 0), (33, .ladd, 1, [], 0), (34, .invokestatic 154, 3, [1, 1, 3, 0, 1317, 1], 0), (37, .iconst 2, 1, [], 0), (38, .idiv, 1, [], 0), (39, .isub, 1, [], 0), (40, .ireturn, 1, [], 0)])]
def sdX12_halves : SD := [(0, [(0, .aload_n 0, 1, [], 0), (1, .getfield 283, 3, [12, 30, 0, 0, 1352, 0], 0), (4, .istore_n 2, 1, [], 0)]),
  (5, [(5, .iload_n 2, 1, [], 0), (6, .ifCond .le 37, 3, [], 0)]),
  (9, [(9, .aload_n 0, 1, [], 0), (10, .getfield 59, 3, [12, 28, 285, 1, 1350, 0], 16), (13, .iconst 2, 1, [], 0), (14, .iload_n 2, 1, [], 0), (15, .imul, 1, [], 0), (16, .aload_n 0, 1, [], 0), (17, .getfield 59, 3, [12, 28, 285, 1, 1350, 0], 16), (20, .iload_n 2, 1, [], 0), (21, .laload, 1, [], 0), (22, .lastore, 1, [], 0), (23, .aload_n 0, 1, [], 0), (24, .getfield 62, 3, [12, 29, 285, 1, 1351, 0], 17), (27, .iconst 2, 1, [], 0), (28, .iload_n 2, 1, [], 0), (29, .imul, 1, [], 0), (30, .aload_n 0, 1, [], 0), (31, .getfield 62, 3, [12, 29, 285, 1, 1351, 0], 17), (34, .iload_n 2, 1, [], 0), (35, .laload, 1, [], 0), (36, .lastore, 1, [], 0), (37, .iinc 2 (-1), 3, [], 0), (40, .goto (-35), 3, [], 0)]),
  (43, [(43, .aload_n 0, 1, [], 0), (44, .dup, 1, [], 0), (45, .getfield 283, 3, [12, 30, 0, 0, 1352, 0], 0), (48, .iconst 2, 1, [], 0), (49, .imul, 1, [], 0), (50, .putfield 283, 3, [12, 30, 0, 0, 0, 1352], 0), (53, .iconst 1, 1, [], 0), (54, .istore_n 2, 1, [], 0)]),
  (55, [(55, .iload_n 2, 1, [], 0), (56, .aload_n 0, 1, [], 0), (57, .getfield 283, 3, [12, 30, 0, 0, 1352, 0], 0), (60, .if_icmp .ge 88, 3, [], 0)]),
  (63, [(63, .aload_n 0, 1, [], 0), (64, .getfield 59, 3, [12, 28, 285, 1, 1350, 0], 16), (67, .iload_n 2, 1, [], 0), (68, .iconst 1, 1, [], 0), (69, .isub, 1, [], 0), (70, .laload, 1, [], 0), (71, .aload_n 0, 1, [], 0), (72, .getfield 59, 3, [12, 28, 285, 1, 1350, 0], 16), (75, .iload_n 2, 1, [], 0), (76, .iconst 1, 1, [], 0), (77, .iadd, 1, [], 0), (78, .laload, 1, [], 0), (79, .ladd, 1, [], 0), (80, .lstore_n 3, 1, [], 0), (81, .aload_n 0, 1, [], 0), (82, .getfield 62, 3, [12, 29, 285, 1, 1351, 0], 17), (85, .iload_n 2, 1, [], 0), (86, .iconst 1, 1, [], 0), (87, .isub, 1, [], 0), (88, .laload, 1, [], 0), (89, .aload_n 0, 1, [], 0), (90, .getfield 62, 3, [12, 29, 285, 1, 1351, 0], 17), (93, .iload_n 2, 1, [], 0), (94, .iconst 1, 1, [], 0), (95, .iadd, 1, [], 0), (96, .laload, 1, [], 0), (97, .ladd, 1, [], 0), (98, .lstore 5, 2, [], 0), (100, .lload_n 3, 1, [], 0), (101, .lload_n 3, 1, [], 0), (102, .lmul, 1, [], 0), (103, .lload 5, 2, [], 0), (105, .lload 5, 2, [], 0), (107, .lmul, 1, [], 0), (108, .ladd, 1, [], 0), (109, .invokestatic 154, 3, [1, 0, 3, 0, 1317, 1], 0), (112, .i2l, 1, [], 0), (113, .lstore 7, 2, [], 0), (115, .aload_n 0, 1, [], 0), (116, .getfield 59, 3, [12, 28, 285, 1, 1350, 0], 16), (119, .iload_n 2, 1, [], 0), (120, .lload_n 3, 1, [], 0), (121, .iload_n 1, 1, [], 0), (122, .i2l, 1, [], 0), (123, .lmul, 1, [], 0), (124, .lload 7, 2, [], 0), (126, .ldiv, 1, [], 0), (127, .lastore, 1, [], 0), (128, .aload_n 0, 1, [], 0), (129, .getfield 62, 3, [12, 29, 285, 1, 1351, 0], 17), (132, .iload_n 2, 1, [], 0), (133, .lload 5, 2, [], 0), (135, .iload_n 1, 1, [], 0), (136, .i2l, 1, [], 0), (137, .lmul, 1, [], 0), (138, .lload 7, 2, [], 0), (140, .ldiv, 1, [], 0), (141, .lastore, 1, [], 0), (142, .iinc 2 2, 3, [], 0), (145, .goto (-90), 3, [], 0)]),
  (148, [(148, .return_, 1, [], 0)])]
def sdX12_comesTo : SD := [(0, [(0, .iload_n 1, 1, [], 0), (1, .aload_n 0, 1, [], 0), (2, .getfield 56, 3, [12, 25, 44, 1, 1347, 0], 15), (5, .iconst 0, 1, [], 0), (6, .iaload, 1, [], 0), (7, .if_icmp .ne 24, 3, [], 0)]),
  (10, [(10, .iload_n 2, 1, [], 0), (11, .aload_n 0, 1, [], 0), (12, .getfield 56, 3, [12, 25, 44, 1, 1347, 0], 15), (15, .iconst 1, 1, [], 0), (16, .iaload, 1, [], 0), (17, .if_icmp .ne 14, 3, [], 0)]),
  (20, [(20, .iload_n 3, 1, [], 0), (21, .aload_n 0, 1, [], 0), (22, .getfield 56, 3, [12, 25, 44, 1, 1347, 0], 15), (25, .iconst 2, 1, [], 0), (26, .iaload, 1, [], 0), (27, .if_icmp .ne 4, 3, [], 0)]),
  (30, [(30, .return_, 1, [], 0)]),
  (31, [(31, .aload_n 0, 1, [], 0), (32, .aload_n 0, 1, [], 0), (33, .getfield 273, 3, [12, 26, 0, 0, 1348, 0], 0), (36, .ifCond .ne 45, 3, [], 0)]),
  (39, [(39, .iload_n 1, 1, [], 0), (40, .i2l, 1, [], 0), (41, .ldc2_w 276, 3, [1, 1619], (-100000)), (44, .ldc2_w 278, 3, [1, 1620], 100000), (47, .invokestatic 217, 3, [1, 0, 3, 0, 1561, 1, 1, 1], 0), (50, .ifCond .eq 31, 3, [], 0)]),
  (53, [(53, .iload_n 2, 1, [], 0), (54, .i2l, 1, [], 0), (55, .ldc2_w 276, 3, [1, 1619], (-100000)), (58, .ldc2_w 278, 3, [1, 1620], 100000), (61, .invokestatic 217, 3, [1, 0, 3, 0, 1561, 1, 1, 1], 0), (64, .ifCond .eq 17, 3, [], 0)]),
  (67, [(67, .iload_n 3, 1, [], 0), (68, .i2l, 1, [], 0), (69, .ldc2_w 276, 3, [1, 1619], (-100000)), (72, .ldc2_w 278, 3, [1, 1620], 100000), (75, .invokestatic 217, 3, [1, 0, 3, 0, 1561, 1, 1, 1], 0), (78, .ifCond .ne 7, 3, [], 0)]),
  (81, [(81, .iconst 1, 1, [], 0), (82, .goto 4, 3, [], 0)]),
  (85, [(85, .iconst 0, 1, [], 0)]),
  (86, [(86, .putfield 273, 3, [12, 26, 0, 0, 1, 1348], 0), (89, .aload_n 0, 1, [], 0), (90, .getfield 56, 3, [12, 25, 44, 1, 1347, 0], 15), (93, .iconst 0, 1, [], 0), (94, .iload_n 1, 1, [], 0), (95, .iastore, 1, [], 0), (96, .aload_n 0, 1, [], 0), (97, .getfield 56, 3, [12, 25, 44, 1, 1347, 0], 15), (100, .iconst 1, 1, [], 0), (101, .iload_n 2, 1, [], 0), (102, .iastore, 1, [], 0), (103, .aload_n 0, 1, [], 0), (104, .getfield 56, 3, [12, 25, 44, 1, 1347, 0], 15), (107, .iconst 2, 1, [], 0), (108, .iload_n 3, 1, [], 0), (109, .iastore, 1, [], 0), (110, .aload_n 0, 1, [], 0), (111, .getfield 131, 3, [12, 3, 0, 0, 1325, 0], 0), (114, .bipush 64, 2, [], 0), (116, .if_icmp .ne 9, 3, [], 0)]),
  (119, [(119, .aload_n 0, 1, [], 0), (120, .iconst 1, 1, [], 0), (121, .putfield 280, 3, [12, 27, 0, 0, 1, 1349], 0), (124, .return_, 1, [], 0)]),
  (125, [(125, .aload_n 0, 1, [], 0), (126, .getfield 31, 3, [12, 12, 532, 1, 1334, 0], 7), (129, .aload_n 0, 1, [], 0), (130, .getfield 131, 3, [12, 3, 0, 0, 1325, 0], 0), (133, .iload 4, 2, [], 0), (135, .iastore, 1, [], 0), (136, .aload_n 0, 1, [], 0), (137, .getfield 34, 3, [12, 13, 532, 1, 1335, 0], 8), (140, .aload_n 0, 1, [], 0), (141, .getfield 131, 3, [12, 3, 0, 0, 1325, 0], 0), (144, .aload_n 0, 1, [], 0), (145, .getfield 127, 3, [12, 2, 0, 0, 1324, 0], 0), (148, .iconst 1, 1, [], 0), (149, .isub, 1, [], 0), (150, .iastore, 1, [], 0), (151, .aload_n 0, 1, [], 0), (152, .dup, 1, [], 0), (153, .getfield 131, 3, [12, 3, 0, 0, 1325, 0], 0), (156, .iconst 1, 1, [], 0), (157, .iadd, 1, [], 0), (158, .putfield 131, 3, [12, 3, 0, 0, 0, 1325], 0), (161, .iconst 0, 1, [], 0), (162, .istore 5, 2, [], 0)]),
  (164, [(164, .iload 5, 2, [], 0), (166, .iconst 3, 1, [], 0), (167, .if_icmp .ge 30, 3, [], 0)]),
  (170, [(170, .aload_n 0, 1, [], 0), (171, .getfield 28, 3, [12, 11, 1580, 1, 1333, 0], 6), (174, .iconst 3, 1, [], 0), (175, .aload_n 0, 1, [], 0), (176, .getfield 131, 3, [12, 3, 0, 0, 1325, 0], 0), (179, .imul, 1, [], 0), (180, .iload 5, 2, [], 0), (182, .iadd, 1, [], 0), (183, .aload_n 0, 1, [], 0), (184, .getfield 56, 3, [12, 25, 44, 1, 1347, 0], 15), (187, .iload 5, 2, [], 0), (189, .iaload, 1, [], 0), (190, .iastore, 1, [], 0), (191, .iinc 5 1, 3, [], 0), (194, .goto (-30), 3, [], 0)]),
  (197, [(197, .return_, 1, [], 0)])]
def sdX12_turns : SD := [(0, [(0, .iload_n 1, 1, [], 0), (1, .i2l, 1, [], 0), (2, .invokestatic 150, 3, [2, 0, 3, 0, 1314, 1], 0), (5, .iload_n 2, 1, [], 0), (6, .i2l, 1, [], 0), (7, .invokestatic 150, 3, [2, 0, 3, 0, 1314, 1], 0), (10, .ladd, 1, [], 0), (11, .invokestatic 154, 3, [1, 1, 3, 0, 1317, 1], 0), (14, .istore 6, 2, [], 0), (16, .iload_n 3, 1, [], 0), (17, .ifCond .le 7, 3, [], 0)]),
  (20, [(20, .iconst 1, 1, [], 0), (21, .goto 4, 3, [], 0)]),
  (24, [(24, .iconst 0, 1, [], 0)]),
  (25, [(25, .istore 7, 2, [], 0), (27, .aload_n 0, 1, [], 0), (28, .iload_n 3, 1, [], 0), (29, .invokestatic 286, 3, [1, 2, 7, 0, 1625, 0], 0), (32, .putfield 283, 3, [12, 30, 0, 0, 0, 1352], 0), (35, .aload_n 0, 1, [], 0), (36, .getfield 59, 3, [12, 28, 285, 1, 1350, 0], 16), (39, .iconst 0, 1, [], 0), (40, .iload_n 1, 1, [], 0), (41, .ineg, 1, [], 0), (42, .i2l, 1, [], 0), (43, .lastore, 1, [], 0), (44, .aload_n 0, 1, [], 0), (45, .getfield 62, 3, [12, 29, 285, 1, 1351, 0], 17), (48, .iconst 0, 1, [], 0), (49, .iload_n 2, 1, [], 0), (50, .ineg, 1, [], 0), (51, .i2l, 1, [], 0), (52, .lastore, 1, [], 0), (53, .iconst 1, 1, [], 0), (54, .istore 8, 2, [], 0)]),
  (56, [(56, .iload 8, 2, [], 0), (58, .aload_n 0, 1, [], 0), (59, .getfield 283, 3, [12, 30, 0, 0, 1352, 0], 0), (62, .if_icmp .gt 77, 3, [], 0)]),
  (65, [(65, .aload_n 0, 1, [], 0), (66, .getfield 59, 3, [12, 28, 285, 1, 1350, 0], 16), (69, .iload 8, 2, [], 0), (71, .iload 7, 2, [], 0), (73, .ifCond .eq 16, 3, [], 0)]),
  (76, [(76, .aload_n 0, 1, [], 0), (77, .getfield 62, 3, [12, 29, 285, 1, 1351, 0], 17), (80, .iload 8, 2, [], 0), (82, .iconst 1, 1, [], 0), (83, .isub, 1, [], 0), (84, .laload, 1, [], 0), (85, .lneg, 1, [], 0), (86, .goto 12, 3, [], 0)]),
  (89, [(89, .aload_n 0, 1, [], 0), (90, .getfield 62, 3, [12, 29, 285, 1, 1351, 0], 17), (93, .iload 8, 2, [], 0), (95, .iconst 1, 1, [], 0), (96, .isub, 1, [], 0), (97, .laload, 1, [], 0)]),
  (98, [(98, .lastore, 1, [], 0), (99, .aload_n 0, 1, [], 0), (100, .getfield 62, 3, [12, 29, 285, 1, 1351, 0], 17), (103, .iload 8, 2, [], 0), (105, .iload 7, 2, [], 0), (107, .ifCond .eq 15, 3, [], 0)]),
  (110, [(110, .aload_n 0, 1, [], 0), (111, .getfield 59, 3, [12, 28, 285, 1, 1350, 0], 16), (114, .iload 8, 2, [], 0), (116, .iconst 1, 1, [], 0), (117, .isub, 1, [], 0), (118, .laload, 1, [], 0), (119, .goto 13, 3, [], 0)]),
  (122, [(122, .aload_n 0, 1, [], 0), (123, .getfield 59, 3, [12, 28, 285, 1, 1350, 0], 16), (126, .iload 8, 2, [], 0), (128, .iconst 1, 1, [], 0), (129, .isub, 1, [], 0), (130, .laload, 1, [], 0), (131, .lneg, 1, [], 0)]),
  (132, [(132, .lastore, 1, [], 0), (133, .iinc 8 1, 3, [], 0), (136, .goto (-80), 3, [], 0)]),
  (139, [(139, .iconst 0, 1, [], 0), (140, .istore 8, 2, [], 0)]),
  (142, [(142, .iload 8, 2, [], 0), (144, .iconst 3, 1, [], 0), (145, .if_icmp .ge 31, 3, [], 0)]),
  (148, [(148, .aload_n 0, 1, [], 0), (149, .iload 6, 2, [], 0), (151, .invokevirtual 290, 3, [1, 3, 1, 0, 1626, 0, 16], 0), (154, .aload_n 0, 1, [], 0), (155, .getfield 11, 3, [12, 0, 84, 1, 1322, 0], 1), (158, .bipush 7, 2, [], 0), (160, .iaload, 1, [], 0), (161, .if_icmp .le 15, 3, [], 0)]),
  (164, [(164, .aload_n 0, 1, [], 0), (165, .iload 6, 2, [], 0), (167, .invokevirtual 293, 3, [0, 4, 1, 0, 1630, 0, 16], 0), (170, .iinc 8 1, 3, [], 0), (173, .goto (-31), 3, [], 0)]),
  (176, [(176, .aload_n 0, 1, [], 0), (177, .getfield 56, 3, [12, 25, 44, 1, 1347, 0], 15), (180, .iconst 0, 1, [], 0), (181, .iaload, 1, [], 0), (182, .iload_n 1, 1, [], 0), (183, .iadd, 1, [], 0), (184, .istore 8, 2, [], 0), (186, .aload_n 0, 1, [], 0), (187, .getfield 56, 3, [12, 25, 44, 1, 1347, 0], 15), (190, .iconst 1, 1, [], 0), (191, .iaload, 1, [], 0), (192, .iload_n 2, 1, [], 0), (193, .iadd, 1, [], 0), (194, .istore 9, 2, [], 0), (196, .aload_n 0, 1, [], 0), (197, .getfield 56, 3, [12, 25, 44, 1, 1347, 0], 15), (200, .iconst 2, 1, [], 0), (201, .iaload, 1, [], 0), (202, .istore 10, 2, [], 0), (204, .iconst 1, 1, [], 0), (205, .istore 11, 2, [], 0)]),
  (207, [(207, .iload 11, 2, [], 0), (209, .aload_n 0, 1, [], 0), (210, .getfield 283, 3, [12, 30, 0, 0, 1352, 0], 0), (213, .if_icmp .gt 54, 3, [], 0)]),
  (216, [(216, .aload_n 0, 1, [], 0), (217, .iload 8, 2, [], 0), (219, .aload_n 0, 1, [], 0), (220, .getfield 59, 3, [12, 28, 285, 1, 1350, 0], 16), (223, .iload 11, 2, [], 0), (225, .laload, 1, [], 0), (226, .l2i, 1, [], 0), (227, .iadd, 1, [], 0), (228, .iload 9, 2, [], 0), (230, .aload_n 0, 1, [], 0), (231, .getfield 62, 3, [12, 29, 285, 1, 1351, 0], 17), (234, .iload 11, 2, [], 0), (236, .laload, 1, [], 0), (237, .l2i, 1, [], 0), (238, .iadd, 1, [], 0), (239, .iload 10, 2, [], 0), (241, .iload 4, 2, [], 0), (243, .i2l, 1, [], 0), (244, .iload 11, 2, [], 0), (246, .i2l, 1, [], 0), (247, .lmul, 1, [], 0), (248, .aload_n 0, 1, [], 0), (249, .getfield 283, 3, [12, 30, 0, 0, 1352, 0], 0), (252, .i2l, 1, [], 0), (253, .ldiv, 1, [], 0), (254, .l2i, 1, [], 0), (255, .iadd, 1, [], 0), (256, .iload 5, 2, [], 0), (258, .invokevirtual 296, 3, [0, 5, 1, 0, 1615, 0, 0, 0, 0, 16], 0), (261, .iinc 11 1, 3, [], 0), (264, .goto (-57), 3, [], 0)]),
  (267, [(267, .return_, 1, [], 0)])]
def sdX12_makes : SD := [(0, [(0, .bipush 6, 2, [], 0), (2, .iload_n 1, 1, [], 0), (3, .imul, 1, [], 0), (4, .istore_n 2, 1, [], 0), (5, .aload_n 0, 1, [], 0), (6, .getfield 127, 3, [12, 2, 0, 0, 1324, 0], 0), (9, .bipush 40, 2, [], 0), (11, .if_icmp .ne 11, 3, [], 0)]),
  (14, [(14, .aload_n 0, 1, [], 0), (15, .iconst 1, 1, [], 0), (16, .putfield 280, 3, [12, 27, 0, 0, 1, 1349], 0), (19, .goto 49, 3, [], 0)]),
  (22, [(22, .iconst 0, 1, [], 0), (23, .istore_n 3, 1, [], 0)]),
  (24, [(24, .iload_n 3, 1, [], 0), (25, .bipush 6, 2, [], 0), (27, .if_icmp .ge 31, 3, [], 0)]),
  (30, [(30, .aload_n 0, 1, [], 0), (31, .getfield 18, 3, [12, 8, 1940, 1, 1330, 0], 3), (34, .bipush 6, 2, [], 0), (36, .aload_n 0, 1, [], 0), (37, .getfield 127, 3, [12, 2, 0, 0, 1324, 0], 0), (40, .imul, 1, [], 0), (41, .iload_n 3, 1, [], 0), (42, .iadd, 1, [], 0), (43, .aload_n 0, 1, [], 0), (44, .getfield 18, 3, [12, 8, 1940, 1, 1330, 0], 3), (47, .iload_n 2, 1, [], 0), (48, .iload_n 3, 1, [], 0), (49, .iadd, 1, [], 0), (50, .iaload, 1, [], 0), (51, .iastore, 1, [], 0), (52, .iinc 3 1, 3, [], 0), (55, .goto (-31), 3, [], 0)]),
  (58, [(58, .aload_n 0, 1, [], 0), (59, .dup, 1, [], 0), (60, .getfield 127, 3, [12, 2, 0, 0, 1324, 0], 0), (63, .iconst 1, 1, [], 0), (64, .iadd, 1, [], 0), (65, .putfield 127, 3, [12, 2, 0, 0, 0, 1324], 0)]),
  (68, [(68, .aload_n 0, 1, [], 0), (69, .getfield 18, 3, [12, 8, 1940, 1, 1330, 0], 3), (72, .iload_n 2, 1, [], 0), (73, .iconst 1, 1, [], 0), (74, .iadd, 1, [], 0), (75, .iaload, 1, [], 0), (76, .istore_n 3, 1, [], 0), (77, .aload_n 0, 1, [], 0), (78, .getfield 18, 3, [12, 8, 1940, 1, 1330, 0], 3), (81, .iload_n 2, 1, [], 0), (82, .iconst 2, 1, [], 0), (83, .iadd, 1, [], 0), (84, .iaload, 1, [], 0), (85, .istore 4, 2, [], 0), (87, .aload_n 0, 1, [], 0), (88, .getfield 18, 3, [12, 8, 1940, 1, 1330, 0], 3), (91, .iload_n 2, 1, [], 0), (92, .iconst 3, 1, [], 0), (93, .iadd, 1, [], 0), (94, .iaload, 1, [], 0), (95, .istore 5, 2, [], 0), (97, .aload_n 0, 1, [], 0), (98, .getfield 18, 3, [12, 8, 1940, 1, 1330, 0], 3), (101, .iload_n 2, 1, [], 0), (102, .iaload, 1, [], 0), (103, .lookupswitch 86 #[(3, 25), (4, 45)], 25, [], 0)]),
  (128, [(128, .aload_n 0, 1, [], 0), (129, .iload_n 3, 1, [], 0), (130, .iload 4, 2, [], 0), (132, .iload 5, 2, [], 0), (134, .aload_n 0, 1, [], 0), (135, .getfield 18, 3, [12, 8, 1940, 1, 1330, 0], 3), (138, .iload_n 2, 1, [], 0), (139, .iconst 5, 1, [], 0), (140, .iadd, 1, [], 0), (141, .iaload, 1, [], 0), (142, .invokevirtual 296, 3, [0, 0, 1, 0, 1615, 0, 0, 0, 0, 16], 0), (145, .goto 69, 3, [], 0)]),
  (148, [(148, .aload_n 0, 1, [], 0), (149, .aload_n 0, 1, [], 0), (150, .getfield 56, 3, [12, 25, 44, 1, 1347, 0], 15), (153, .iconst 0, 1, [], 0), (154, .iaload, 1, [], 0), (155, .iload_n 3, 1, [], 0), (156, .iadd, 1, [], 0), (157, .aload_n 0, 1, [], 0), (158, .getfield 56, 3, [12, 25, 44, 1, 1347, 0], 15), (161, .iconst 1, 1, [], 0), (162, .iaload, 1, [], 0), (163, .iload 4, 2, [], 0), (165, .iadd, 1, [], 0), (166, .aload_n 0, 1, [], 0), (167, .getfield 56, 3, [12, 25, 44, 1, 1347, 0], 15), (170, .iconst 2, 1, [], 0), (171, .iaload, 1, [], 0), (172, .iload 5, 2, [], 0), (174, .iadd, 1, [], 0), (175, .aload_n 0, 1, [], 0), (176, .getfield 18, 3, [12, 8, 1940, 1, 1330, 0], 3), (179, .iload_n 2, 1, [], 0), (180, .iconst 5, 1, [], 0), (181, .iadd, 1, [], 0), (182, .iaload, 1, [], 0), (183, .invokevirtual 296, 3, [0, 0, 1, 0, 1615, 0, 0, 0, 0, 16], 0), (186, .goto 28, 3, [], 0)]),
  (189, [(189, .aload_n 0, 1, [], 0), (190, .iload_n 3, 1, [], 0), (191, .iload 4, 2, [], 0), (193, .iload 5, 2, [], 0), (195, .aload_n 0, 1, [], 0), (196, .getfield 18, 3, [12, 8, 1940, 1, 1330, 0], 3), (199, .iload_n 2, 1, [], 0), (200, .iconst 4, 1, [], 0), (201, .iadd, 1, [], 0), (202, .iaload, 1, [], 0), (203, .aload_n 0, 1, [], 0), (204, .getfield 18, 3, [12, 8, 1940, 1, 1330, 0], 3), (207, .iload_n 2, 1, [], 0), (208, .iconst 5, 1, [], 0), (209, .iadd, 1, [], 0), (210, .iaload, 1, [], 0), (211, .invokevirtual 300, 3, [0, 1, 1, 0, 1621, 0, 0, 0, 0, 0, 16], 0)]),
  (214, [(214, .return_, 1, [], 0)])]
def sdX1_bears : SD := [(0, [(0, .iload_n 2, 1, [], 0), (1, .aload_n 0, 1, [], 0), (2, .getfield 24, 3, [1, 0, 8, 1, 464, 0], 2), (5, .getfield 32, 3, [4, 3, 0, 0, 436, 0], 0), (8, .ineg, 1, [], 0), (9, .if_icmp .lt 26, 3, [], 0)]),
  (12, [(12, .iload_n 1, 1, [], 0), (13, .ifCond .lt 22, 3, [], 0)]),
  (16, [(16, .iload_n 2, 1, [], 0), (17, .ifCond .ge 14, 3, [], 0)]),
  (20, [(20, .iconst 2, 1, [], 0), (21, .iload_n 1, 1, [], 0), (22, .imul, 1, [], 0), (23, .iload_n 2, 1, [], 0), (24, .iload_n 2, 1, [], 0), (25, .iconst 1, 1, [], 0), (26, .iadd, 1, [], 0), (27, .imul, 1, [], 0), (28, .if_icmp .lt 7, 3, [], 0)]),
  (31, [(31, .iconst 1, 1, [], 0), (32, .goto 4, 3, [], 0)]),
  (35, [(35, .iconst 0, 1, [], 0)]),
  (36, [(36, .ireturn, 1, [], 0)])]
def sdX1_brake : SD := [(0, [(0, .aload_n 0, 1, [], 0), (1, .iload_n 1, 1, [], 0), (2, .iload_n 2, 1, [], 0), (3, .iadd, 1, [], 0), (4, .iconst 1, 1, [], 0), (5, .isub, 1, [], 0), (6, .iload_n 2, 1, [], 0), (7, .iconst 1, 1, [], 0), (8, .isub, 1, [], 0), (9, .invokevirtual 100, 3, [1, 0, 1, 0, 1032, 0, 0, 5], 0), (12, .ifCond .eq 7, 3, [], 0)]),
  (15, [(15, .iconst (-1), 1, [], 0), (16, .goto 19, 3, [], 0)]),
  (19, [(19, .aload_n 0, 1, [], 0), (20, .iload_n 1, 1, [], 0), (21, .iload_n 2, 1, [], 0), (22, .iadd, 1, [], 0), (23, .iload_n 2, 1, [], 0), (24, .invokevirtual 100, 3, [1, 0, 1, 0, 1032, 0, 0, 5], 0), (27, .ifCond .eq 7, 3, [], 0)]),
  (30, [(30, .iconst 0, 1, [], 0), (31, .goto 4, 3, [], 0)]),
  (34, [(34, .iconst 1, 1, [], 0)]),
  (35, [(35, .ireturn, 1, [], 0)])]
def sdX1_farness : SD := [(0, [(0, .iload_n 2, 1, [], 0), (1, .bipush 12, 2, [], 0), (3, .iadd, 1, [], 0), (4, .bipush 101, 2, [], 0), (6, .imul, 1, [], 0), (7, .iload_n 1, 1, [], 0), (8, .iadd, 1, [], 0), (9, .istore_n 3, 1, [], 0), (10, .iload_n 1, 1, [], 0), (11, .ifCond .lt 22, 3, [], 0)]),
  (14, [(14, .iload_n 1, 1, [], 0), (15, .bipush 101, 2, [], 0), (17, .if_icmp .ge 16, 3, [], 0)]),
  (20, [(20, .iload_n 3, 1, [], 0), (21, .ifCond .lt 12, 3, [], 0)]),
  (24, [(24, .iload_n 3, 1, [], 0), (25, .aload_n 0, 1, [], 0), (26, .getfield 13, 3, [1, 1, 20220, 1, 466, 0], 1), (29, .arraylength, 1, [], 0), (30, .if_icmp .lt 5, 3, [], 0)]),
  (33, [(33, .iconst 0, 1, [], 0), (34, .ireturn, 1, [], 0)]),
  (35, [(35, .aload_n 0, 1, [], 0), (36, .getfield 13, 3, [1, 1, 20220, 1, 466, 0], 1), (39, .iload_n 3, 1, [], 0), (40, .iaload, 1, [], 0), (41, .iconst 1, 1, [], 0), (42, .isub, 1, [], 0), (43, .istore 4, 2, [], 0), (45, .iload 4, 2, [], 0), (47, .ifCond .ge 60, 3, [], 0)]),
  (50, [(50, .iconst 0, 1, [], 0), (51, .istore 4, 2, [], 0), (53, .iconst 0, 1, [], 0), (54, .istore 5, 2, [], 0)]),
  (56, [(56, .iload 5, 2, [], 0), (58, .sipush 1000, 3, [], 0), (61, .if_icmp .ge 36, 3, [], 0)]),
  (64, [(64, .iload_n 1, 1, [], 0), (65, .ifCond .ne 7, 3, [], 0)]),
  (68, [(68, .iload_n 2, 1, [], 0), (69, .ifCond .eq 28, 3, [], 0)]),
  (72, [(72, .iload_n 2, 1, [], 0), (73, .aload_n 0, 1, [], 0), (74, .iload_n 1, 1, [], 0), (75, .iload_n 2, 1, [], 0), (76, .invokevirtual 87, 3, [1, 0, 1, 0, 1049, 0, 0, 5], 0), (79, .iadd, 1, [], 0), (80, .istore_n 2, 1, [], 0), (81, .iload_n 1, 1, [], 0), (82, .iload_n 2, 1, [], 0), (83, .iadd, 1, [], 0), (84, .istore_n 1, 1, [], 0), (85, .iload 4, 2, [], 0), (87, .iload_n 1, 1, [], 0), (88, .iadd, 1, [], 0), (89, .istore 4, 2, [], 0), (91, .iinc 5 1, 3, [], 0), (94, .goto (-38), 3, [], 0)]),
  (97, [(97, .aload_n 0, 1, [], 0), (98, .getfield 13, 3, [1, 1, 20220, 1, 466, 0], 1), (101, .iload_n 3, 1, [], 0), (102, .iload 4, 2, [], 0), (104, .iconst 1, 1, [], 0), (105, .iadd, 1, [], 0), (106, .iastore, 1, [], 0)]),
  (107, [(107, .iload 4, 2, [], 0), (109, .ireturn, 1, [], 0)])]
def sdX12_goes : SD := [(0, [(0, .aload_n 0, 1, [], 0), (1, .getfield 37, 3, [12, 14, 1580, 1, 1336, 0], 9), (4, .iconst 3, 1, [], 0), (5, .iload_n 1, 1, [], 0), (6, .iconst 1, 1, [], 0), (7, .iadd, 1, [], 0), (8, .imul, 1, [], 0), (9, .iload_n 2, 1, [], 0), (10, .iadd, 1, [], 0), (11, .iaload, 1, [], 0), (12, .aload_n 0, 1, [], 0), (13, .getfield 37, 3, [12, 14, 1580, 1, 1336, 0], 9), (16, .iconst 3, 1, [], 0), (17, .iload_n 1, 1, [], 0), (18, .imul, 1, [], 0), (19, .iload_n 2, 1, [], 0), (20, .iadd, 1, [], 0), (21, .iaload, 1, [], 0), (22, .isub, 1, [], 0), (23, .ireturn, 1, [], 0)])]
def sdX12_isFlat : SD := [(0, [(0, .aload_n 0, 1, [], 0), (1, .iload_n 1, 1, [], 0), (2, .iconst 2, 1, [], 0), (3, .invokevirtual 146, 3, [1, 0, 1, 0, 1310, 0, 0, 16], 0), (6, .ifCond .ne 7, 3, [], 0)]),
  (9, [(9, .iconst 1, 1, [], 0), (10, .goto 4, 3, [], 0)]),
  (13, [(13, .iconst 0, 1, [], 0)]),
  (14, [(14, .ireturn, 1, [], 0)])]
def sdX12_heightOf : SD := [(0, [(0, .aload_n 0, 1, [], 0), (1, .getfield 37, 3, [12, 14, 1580, 1, 1336, 0], 9), (4, .iconst 3, 1, [], 0), (5, .iload_n 1, 1, [], 0), (6, .imul, 1, [], 0), (7, .iconst 2, 1, [], 0), (8, .iadd, 1, [], 0), (9, .iaload, 1, [], 0), (10, .ireturn, 1, [], 0)])]
def sdX12_sideOf : SD := [(0, [(0, .aload_n 0, 1, [], 0), (1, .getfield 37, 3, [12, 14, 1580, 1, 1336, 0], 9), (4, .iconst 3, 1, [], 0), (5, .iload_n 2, 1, [], 0), (6, .imul, 1, [], 0), (7, .iaload, 1, [], 0), (8, .aload_n 0, 1, [], 0), (9, .getfield 37, 3, [12, 14, 1580, 1, 1336, 0], 9), (12, .iconst 3, 1, [], 0), (13, .iload_n 1, 1, [], 0), (14, .imul, 1, [], 0), (15, .iaload, 1, [], 0), (16, .isub, 1, [], 0), (17, .i2l, 1, [], 0), (18, .lstore_n 3, 1, [], 0), (19, .aload_n 0, 1, [], 0), (20, .getfield 37, 3, [12, 14, 1580, 1, 1336, 0], 9), (23, .iconst 3, 1, [], 0), (24, .iload_n 2, 1, [], 0), (25, .imul, 1, [], 0), (26, .iconst 1, 1, [], 0), (27, .iadd, 1, [], 0), (28, .iaload, 1, [], 0), (29, .aload_n 0, 1, [], 0), (30, .getfield 37, 3, [12, 14, 1580, 1, 1336, 0], 9), (33, .iconst 3, 1, [], 0), (34, .iload_n 1, 1, [], 0), (35, .imul, 1, [], 0), (36, .iconst 1, 1, [], 0), (37, .iadd, 1, [], 0), (38, .iaload, 1, [], 0), (39, .isub, 1, [], 0), (40, .i2l, 1, [], 0), (41, .lstore 5, 2, [], 0), (43, .aload_n 0, 1, [], 0), (44, .iload_n 1, 1, [], 0), (45, .iconst 0, 1, [], 0), (46, .invokevirtual 146, 3, [1, 0, 1, 0, 1310, 0, 0, 16], 0), (49, .i2l, 1, [], 0), (50, .lload 5, 2, [], 0), (52, .lmul, 1, [], 0), (53, .aload_n 0, 1, [], 0), (54, .iload_n 1, 1, [], 0), (55, .iconst 1, 1, [], 0), (56, .invokevirtual 146, 3, [1, 0, 1, 0, 1310, 0, 0, 16], 0), (59, .i2l, 1, [], 0), (60, .lload_n 3, 1, [], 0), (61, .lmul, 1, [], 0), (62, .lsub, 1, [], 0), (63, .invokestatic 543, 3, [1, 1, 7, 0, 1968, 1], 0), (66, .ireturn, 1, [], 0)])]
def sdX12_isBetween : SD := [(0, [(0, .iconst 0, 1, [], 0), (1, .istore_n 3, 1, [], 0)]),
  (2, [(2, .iload_n 3, 1, [], 0), (3, .iconst 2, 1, [], 0), (4, .if_icmp .ge 70, 3, [], 0)]),
  (7, [(7, .aload_n 0, 1, [], 0), (8, .getfield 37, 3, [12, 14, 1580, 1, 1336, 0], 9), (11, .iconst 3, 1, [], 0), (12, .iload_n 1, 1, [], 0), (13, .imul, 1, [], 0), (14, .iload_n 3, 1, [], 0), (15, .iadd, 1, [], 0), (16, .iaload, 1, [], 0), (17, .istore 4, 2, [], 0), (19, .aload_n 0, 1, [], 0), (20, .getfield 37, 3, [12, 14, 1580, 1, 1336, 0], 9), (23, .iconst 3, 1, [], 0), (24, .iload_n 1, 1, [], 0), (25, .iconst 1, 1, [], 0), (26, .iadd, 1, [], 0), (27, .imul, 1, [], 0), (28, .iload_n 3, 1, [], 0), (29, .iadd, 1, [], 0), (30, .iaload, 1, [], 0), (31, .istore 5, 2, [], 0), (33, .aload_n 0, 1, [], 0), (34, .getfield 37, 3, [12, 14, 1580, 1, 1336, 0], 9), (37, .iconst 3, 1, [], 0), (38, .iload_n 2, 1, [], 0), (39, .imul, 1, [], 0), (40, .iload_n 3, 1, [], 0), (41, .iadd, 1, [], 0), (42, .iaload, 1, [], 0), (43, .i2l, 1, [], 0), (44, .iload 4, 2, [], 0), (46, .iload 5, 2, [], 0), (48, .invokestatic 258, 3, [1, 0, 7, 0, 1596, 0, 0], 0), (51, .i2l, 1, [], 0), (52, .iload 4, 2, [], 0), (54, .iload 5, 2, [], 0), (56, .invokestatic 378, 3, [1, 1, 7, 0, 1696, 0, 0], 0), (59, .i2l, 1, [], 0), (60, .invokestatic 217, 3, [1, 2, 3, 0, 1561, 1, 1, 1], 0), (63, .ifCond .ne 5, 3, [], 0)]),
  (66, [(66, .iconst 0, 1, [], 0), (67, .ireturn, 1, [], 0)]),
  (68, [(68, .iinc 3 1, 3, [], 0), (71, .goto (-69), 3, [], 0)]),
  (74, [(74, .iconst 1, 1, [], 0), (75, .ireturn, 1, [], 0)])]
def sdX12_isOn : SD := [(0, [(0, .aload_n 0, 1, [], 0), (1, .iload_n 1, 1, [], 0), (2, .iload_n 2, 1, [], 0), (3, .invokevirtual 546, 3, [1, 0, 1, 0, 1964, 0, 0, 16], 0), (6, .ifCond .ne 16, 3, [], 0)]),
  (9, [(9, .aload_n 0, 1, [], 0), (10, .iload_n 1, 1, [], 0), (11, .iload_n 2, 1, [], 0), (12, .invokevirtual 549, 3, [1, 1, 1, 0, 1971, 0, 0, 16], 0), (15, .ifCond .eq 7, 3, [], 0)]),
  (18, [(18, .iconst 1, 1, [], 0), (19, .goto 4, 3, [], 0)]),
  (22, [(22, .iconst 0, 1, [], 0)]),
  (23, [(23, .ireturn, 1, [], 0)])]
def sdX12_doMeet : SD := [(0, [(0, .aload_n 0, 1, [], 0), (1, .iload_n 1, 1, [], 0), (2, .invokevirtual 534, 3, [1, 0, 1, 0, 1944, 0, 16], 0), (5, .ifCond .eq 31, 3, [], 0)]),
  (8, [(8, .aload_n 0, 1, [], 0), (9, .iload_n 2, 1, [], 0), (10, .invokevirtual 534, 3, [1, 0, 1, 0, 1944, 0, 16], 0), (13, .ifCond .eq 23, 3, [], 0)]),
  (16, [(16, .aload_n 0, 1, [], 0), (17, .iload_n 1, 1, [], 0), (18, .invokevirtual 537, 3, [1, 1, 1, 0, 1948, 0, 16], 0), (21, .aload_n 0, 1, [], 0), (22, .iload_n 2, 1, [], 0), (23, .invokevirtual 537, 3, [1, 1, 1, 0, 1948, 0, 16], 0), (26, .if_icmp .ne 10, 3, [], 0)]),
  (29, [(29, .iload_n 2, 1, [], 0), (30, .iload_n 1, 1, [], 0), (31, .isub, 1, [], 0), (32, .iconst 2, 1, [], 0), (33, .if_icmp .ge 5, 3, [], 0)]),
  (36, [(36, .iconst 0, 1, [], 0), (37, .ireturn, 1, [], 0)]),
  (38, [(38, .aload_n 0, 1, [], 0), (39, .iload_n 1, 1, [], 0), (40, .iload_n 2, 1, [], 0), (41, .invokevirtual 552, 3, [1, 2, 1, 0, 1960, 0, 0, 16], 0), (44, .ifCond .ne 34, 3, [], 0)]),
  (47, [(47, .aload_n 0, 1, [], 0), (48, .iload_n 1, 1, [], 0), (49, .iload_n 2, 1, [], 0), (50, .iconst 1, 1, [], 0), (51, .iadd, 1, [], 0), (52, .invokevirtual 552, 3, [1, 2, 1, 0, 1960, 0, 0, 16], 0), (55, .ifCond .ne 23, 3, [], 0)]),
  (58, [(58, .aload_n 0, 1, [], 0), (59, .iload_n 2, 1, [], 0), (60, .iload_n 1, 1, [], 0), (61, .invokevirtual 552, 3, [1, 2, 1, 0, 1960, 0, 0, 16], 0), (64, .ifCond .ne 14, 3, [], 0)]),
  (67, [(67, .aload_n 0, 1, [], 0), (68, .iload_n 2, 1, [], 0), (69, .iload_n 1, 1, [], 0), (70, .iconst 1, 1, [], 0), (71, .iadd, 1, [], 0), (72, .invokevirtual 552, 3, [1, 2, 1, 0, 1960, 0, 0, 16], 0), (75, .ifCond .eq 5, 3, [], 0)]),
  (78, [(78, .iconst 1, 1, [], 0), (79, .ireturn, 1, [], 0)]),
  (80, [(80, .aload_n 0, 1, [], 0), (81, .iload_n 1, 1, [], 0), (82, .iload_n 2, 1, [], 0), (83, .invokevirtual 546, 3, [1, 3, 1, 0, 1964, 0, 0, 16], 0), (86, .aload_n 0, 1, [], 0), (87, .iload_n 1, 1, [], 0), (88, .iload_n 2, 1, [], 0), (89, .iconst 1, 1, [], 0), (90, .iadd, 1, [], 0), (91, .invokevirtual 546, 3, [1, 3, 1, 0, 1964, 0, 0, 16], 0), (94, .imul, 1, [], 0), (95, .ifCond .ge 25, 3, [], 0)]),
  (98, [(98, .aload_n 0, 1, [], 0), (99, .iload_n 2, 1, [], 0), (100, .iload_n 1, 1, [], 0), (101, .invokevirtual 546, 3, [1, 3, 1, 0, 1964, 0, 0, 16], 0), (104, .aload_n 0, 1, [], 0), (105, .iload_n 2, 1, [], 0), (106, .iload_n 1, 1, [], 0), (107, .iconst 1, 1, [], 0), (108, .iadd, 1, [], 0), (109, .invokevirtual 546, 3, [1, 3, 1, 0, 1964, 0, 0, 16], 0), (112, .imul, 1, [], 0), (113, .ifCond .ge 7, 3, [], 0)]),
  (116, [(116, .iconst 1, 1, [], 0), (117, .goto 4, 3, [], 0)]),
  (120, [(120, .iconst 0, 1, [], 0)]),
  (121, [(121, .ireturn, 1, [], 0)])]
def sdX12_meets : SD := [(0, [(0, .iload_n 1, 1, [], 0), (1, .i2l, 1, [], 0), (2, .lconst 0, 1, [], 0), (3, .ldc2_w 125, 3, [1, 1321], 2), (6, .invokestatic 217, 3, [1, 0, 3, 0, 1561, 1, 1, 1], 0), (9, .ifCond .ne 5, 3, [], 0)]),
  (12, [(12, .iconst (-1), 1, [], 0), (13, .ireturn, 1, [], 0)]),
  (14, [(14, .iconst 0, 1, [], 0), (15, .istore_n 2, 1, [], 0), (16, .bipush (-2), 2, [], 0), (18, .istore_n 3, 1, [], 0), (19, .bipush (-2), 2, [], 0), (21, .istore 4, 2, [], 0), (23, .iconst 0, 1, [], 0), (24, .istore 5, 2, [], 0)]),
  (26, [(26, .iload 5, 2, [], 0), (28, .aload_n 0, 1, [], 0), (29, .getfield 140, 3, [12, 6, 0, 0, 1328, 0], 0), (32, .if_icmp .ge 68, 3, [], 0)]),
  (35, [(35, .iload 5, 2, [], 0), (37, .iconst 2, 1, [], 0), (38, .iadd, 1, [], 0), (39, .istore 6, 2, [], 0)]),
  (41, [(41, .iload 6, 2, [], 0), (43, .aload_n 0, 1, [], 0), (44, .getfield 140, 3, [12, 6, 0, 0, 1328, 0], 0), (47, .if_icmp .ge 47, 3, [], 0)]),
  (50, [(50, .aload_n 0, 1, [], 0), (51, .iload 5, 2, [], 0), (53, .iload 6, 2, [], 0), (55, .invokevirtual 555, 3, [1, 1, 1, 0, 1956, 0, 0, 16], 0), (58, .ifCond .eq 30, 3, [], 0)]),
  (61, [(61, .iload_n 2, 1, [], 0), (62, .ifCond .ne 8, 3, [], 0)]),
  (65, [(65, .iload 5, 2, [], 0), (67, .goto 4, 3, [], 0)]),
  (70, [(70, .iload_n 3, 1, [], 0)]),
  (71, [(71, .istore_n 3, 1, [], 0), (72, .iload_n 2, 1, [], 0), (73, .ifCond .ne 8, 3, [], 0)]),
  (76, [(76, .iload 6, 2, [], 0), (78, .goto 5, 3, [], 0)]),
  (81, [(81, .iload 4, 2, [], 0)]),
  (83, [(83, .istore 4, 2, [], 0), (85, .iinc 2 1, 3, [], 0)]),
  (88, [(88, .iinc 6 1, 3, [], 0), (91, .goto (-50), 3, [], 0)]),
  (94, [(94, .iinc 5 1, 3, [], 0), (97, .goto (-71), 3, [], 0)]),
  (100, [(100, .iload_n 1, 1, [], 0), (101, .ifCond .ne 7, 3, [], 0)]),
  (104, [(104, .iload_n 2, 1, [], 0), (105, .goto 14, 3, [], 0)]),
  (108, [(108, .iload_n 1, 1, [], 0), (109, .iconst 1, 1, [], 0), (110, .if_icmp .ne 7, 3, [], 0)]),
  (113, [(113, .iload_n 3, 1, [], 0), (114, .goto 5, 3, [], 0)]),
  (117, [(117, .iload 4, 2, [], 0)]),
  (119, [(119, .ireturn, 1, [], 0)])]
def BX11_root_6 (n : Nat) : Nat → Int → Int → Int → Option (Int)
  | 0, _, _, _ => none
  | f + 1, x0, x2, x4 =>
    (if x4 < 0 then
    (some (w32 x2))
    else
    (ltt (w64 (x2 + (lshl 1 x4))) fun y1 =>
    (if 0 < (lcp (w64 (y1 * y1)) x0) then
    (ltt (w32 (x4 + (-1))) fun y2 =>
    (BX11_root_6 n f x0 x2 y2))
    else
    (ltt y1 fun y3 =>
    (ltt (w32 (x4 + (-1))) fun y4 =>
    (BX11_root_6 n f x0 y3 y4))))))
def LX11_root_6 (n : Nat) (x0 x2 x4 : Int) : Option (Int) :=
(BX11_root_6 n n x0 x2 x4)
def MX11_root (n : Nat) (x0 : Int) : Option (Int) :=
(ltt 0 fun y1 =>
(ltt 30 fun y2 =>
(LX11_root_6 n x0 y1 y2)))
def wX11_root {ρ : Type} (n : Nat) : FN ρ := fun a h k => match a with
  | [x0] => bndp (MX11_root n x0) (fun r => k r h)
  | _ => none
def fsX11_root (n : Nat) (ρ : Type) : List (FN ρ) := []
def KX11_root (n : Nat) : CT (Int) := [(6, [(0, 1, none), (2, 1, none), (4, 0, none)], [], fun a c _ => match a, c with
    | [x0, x2, x4], [] => LX11_root_6 n x0 x2 x4
    | _, _ => none)]
def KX11_root_6 (n : Nat) (bk : Int → Int → Int → Option (Int)) : CT (Int) := [(6, [(0, 1, none), (2, 1, none), (4, 0, none)], [], fun a c _ => match a, c with
    | [x0, x2, x4], [] => bk x0 x2 x4
    | _, _ => none)]
set_option maxRecDepth 100000 in
theorem eBX11_root_6 (n f : Nat) (x0 : Int) (x2 : Int) (x4 : Int) (h : Hp) : BX11_root_6 n (f + 1) x0 x2 x4 =
  goAt false (kct (KX11_root_6 n (BX11_root_6 n f))) (fun v _ => some (v)) (fsX11_root n _) sdX11_root 1000 6 [(0, 1, x0), (2, 1, x2), (4, 0, x4)] [] h := rfl
set_option maxRecDepth 100000 in
theorem eMX11_root (n : Nat) (x0 : Int) (h : Hp) : MX11_root n x0 =
  goAt false (kct (KX11_root n)) (fun v _ => some (v)) (fsX11_root n _) sdX11_root 1000 0 [(0, 1, x0)] [] h := rfl
def MX11_within (x0 x1 x2 : Int) : Option (Int) :=
(if x0 ≤ x1 then
(if x1 ≤ x2 then
(some x1)
else
(some x2))
else
(some x0))
def wX11_within {ρ : Type} : FN ρ := fun a h k => match a with
  | [x0, x1, x2] => bndp (MX11_within x0 x1 x2) (fun r => k r h)
  | _ => none
def fsX11_within (ρ : Type) : List (FN ρ) := []
def KX11_within  : CT (Int) := []
set_option maxRecDepth 100000 in
theorem eMX11_within (x0 : Int) (x1 : Int) (x2 : Int) (h : Hp) : MX11_within x0 x1 x2 =
  goAt false (kct (KX11_within)) (fun v _ => some (v)) (fsX11_within _) sdX11_within 1000 0 [(0, 0, x0), (1, 0, x1), (2, 0, x2)] [] h := rfl
def MX6_rowOf (x0 : Int) : Option (Int) :=
(bndp (MX11_within 0 x0 40) fun r1 =>
(some (w32 (r1 * 6))))
def wX6_rowOf {ρ : Type} : FN ρ := fun a h k => match a with
  | [x0] => bndp (MX6_rowOf x0) (fun r => k r h)
  | _ => none
def fsX6_rowOf (ρ : Type) : List (FN ρ) := [wX11_within]
def KX6_rowOf  : CT (Int) := []
set_option maxRecDepth 100000 in
theorem eMX6_rowOf (x0 : Int) (h : Hp) : MX6_rowOf x0 =
  goAt false (kct (KX6_rowOf)) (fun v _ => some (v)) (fsX6_rowOf _) sdX6_rowOf 1000 0 [(0, 0, x0)] [] h := rfl
def MX11_isAxis (x0 : Int) : Option (Int) :=
(if x0 < 0 then
(some 0)
else
(if 3 ≤ x0 then
(some 0)
else
(some 1)))
def wX11_isAxis {ρ : Type} : FN ρ := fun a h k => match a with
  | [x0] => bndp (MX11_isAxis x0) (fun r => k r h)
  | _ => none
def fsX11_isAxis (ρ : Type) : List (FN ρ) := []
def KX11_isAxis  : CT (Int) := []
set_option maxRecDepth 100000 in
theorem eMX11_isAxis (x0 : Int) (h : Hp) : MX11_isAxis x0 =
  goAt false (kct (KX11_isAxis)) (fun v _ => some (v)) (fsX11_isAxis _) sdX11_isAxis 1000 0 [(0, 0, x0)] [] h := rfl
def MX10_last (x0 x1 : Int) (h : Hp) : Option (Int) :=
(bndp (MX11_isAxis x1) fun r1 =>
(if r1 = 0 then
(some 0)
else
(grd (0 ≤ x1 ∧ x1 < alen 50)
(grd (0 ≤ (h x0 11) ∧ (h x0 11) < alen 540)
(some (h ((x0 + 2) + 1 + x1) (h x0 11)))))))
def wX10_last {ρ : Type} : FN ρ := fun a h k => match a with
  | [x0, x1] => bndp (MX10_last x0 x1 h) (fun r => k r h)
  | _ => none
def fsX10_last (ρ : Type) : List (FN ρ) := [wX11_isAxis]
def KX10_last  : CT (Int) := []
set_option maxRecDepth 100000 in
theorem eMX10_last (x0 : Int) (x1 : Int) (h : Hp) : MX10_last x0 x1 h =
  goAt false (kct (KX10_last)) (fun v _ => some (v)) (fsX10_last _) sdX10_last 1000 0 [(0, 14, x0), (1, 0, x1)] [] h := rfl
def MX11_square (x0 : Int) : Option (Int) :=
(some (w64 (x0 * x0)))
def wX11_square {ρ : Type} : FN ρ := fun a h k => match a with
  | [x0] => bndp (MX11_square x0) (fun r => k r h)
  | _ => none
def fsX11_square (ρ : Type) : List (FN ρ) := []
def KX11_square  : CT (Int) := []
set_option maxRecDepth 100000 in
theorem eMX11_square (x0 : Int) (h : Hp) : MX11_square x0 =
  goAt false (kct (KX11_square)) (fun v _ => some (v)) (fsX11_square _) sdX11_square 1000 0 [(0, 1, x0)] [] h := rfl
def BX0_spin_40 (n : Nat) : Nat → Int → Int → Hp → Option (Hp)
  | 0, _, _, _ => none
  | f + 1, x4, x5, h =>
    (if (h 30 3) < x5 then
    (some h)
    else
    (grd (0 ≤ (w32 (x5 - 1)) ∧ (w32 (x5 - 1)) < alen 284)
    (grd (0 ≤ x5 ∧ x5 < alen 284)
    (ltt (up h 31 x5 (w32 ((w32 (-x4)) * (h 32 (w32 (x5 - 1)))))) fun h1 =>
    (grd (0 ≤ (w32 (x5 - 1)) ∧ (w32 (x5 - 1)) < alen 284)
    (grd (0 ≤ x5 ∧ x5 < alen 284)
    (ltt (up h1 32 x5 (w32 (x4 * (h1 31 (w32 (x5 - 1)))))) fun h2 =>
    (ltt (w32 (x5 + 1)) fun y1 =>
    (BX0_spin_40 n f x4 y1 h2)))))))))
def LX0_spin_40 (n : Nat) (x4 x5 : Int) (h : Hp) : Option (Hp) :=
(BX0_spin_40 n n x4 x5 h)
def JX0_spin_9 (n : Nat) (x1 x2 x3 z0 : Int) (h : Hp) : Option (Hp) :=
(ltt z0 fun y1 =>
(ltt (up h 30 3 (min (w32 (x3 * y1)) 4)) fun h1 =>
(grd (0 ≤ 0 ∧ 0 < alen 284)
(ltt (up h1 31 0 x1) fun h2 =>
(grd (0 ≤ 0 ∧ 0 < alen 284)
(ltt (up h2 32 0 x2) fun h3 =>
(ltt 1 fun y2 =>
(LX0_spin_40 n y1 y2 h3))))))))
def MX0_spin (n : Nat) (x1 x2 x3 : Int) (h : Hp) : Option (Hp) :=
(if 0 ≤ x3 then
(JX0_spin_9 n x1 x2 x3 1 h)
else
(JX0_spin_9 n x1 x2 x3 (-1) h))
def wX0_spin {ρ : Type} (n : Nat) : FN ρ := fun a h k => match a with
  | [_, x1, x2, x3] => bndh (MX0_spin n x1 x2 x3 h) (fun h2 => k 0 h2)
  | _ => none
def fsX0_spin (n : Nat) (ρ : Type) : List (FN ρ) := [fmin]
def KX0_spin (n : Nat) : CT (Hp) := [(40, [(0, 4, (some 30)), (4, 0, none), (5, 0, none)], [], fun a c h => match a, c with
    | [x4, x5], [] => LX0_spin_40 n x4 x5 h
    | _, _ => none),
  (9, [(0, 4, (some 30)), (1, 0, none), (2, 0, none), (3, 0, none)], [(0, none)], fun a c h => match a, c with
    | [x1, x2, x3], [z0] => JX0_spin_9 n x1 x2 x3 z0 h
    | _, _ => none)]
def KX0_spin_40 (n : Nat) (bk : Int → Int → Hp → Option (Hp)) : CT (Hp) := [(40, [(0, 4, (some 30)), (4, 0, none), (5, 0, none)], [], fun a c h => match a, c with
    | [x4, x5], [] => bk x4 x5 h
    | _, _ => none)]
set_option maxRecDepth 100000 in
theorem eBX0_spin_40 (n f : Nat) (x4 : Int) (x5 : Int) (h : Hp) : BX0_spin_40 n (f + 1) x4 x5 h =
  goAt false (kct (KX0_spin_40 n (BX0_spin_40 n f))) (fun _ h => some (h)) (fsX0_spin n _) sdX0_spin 1000 40 [(0, 4, 30), (4, 0, x4), (5, 0, x5)] [] h := rfl
set_option maxRecDepth 100000 in
theorem eJX0_spin_9 (n : Nat) (x1 : Int) (x2 : Int) (x3 : Int) (z0 : Int) (h : Hp) : JX0_spin_9 n x1 x2 x3 z0 h =
  goAt false (kct (KX0_spin n)) (fun _ h => some (h)) (fsX0_spin n _) sdX0_spin 1000 9 [(0, 4, 30), (1, 0, x1), (2, 0, x2), (3, 0, x3)] [(0, z0)] h := rfl
set_option maxRecDepth 100000 in
theorem eMX0_spin (n : Nat) (x1 : Int) (x2 : Int) (x3 : Int) (h : Hp) : MX0_spin n x1 x2 x3 h =
  goAt false (kct (KX0_spin n)) (fun _ h => some (h)) (fsX0_spin n _) sdX0_spin 1000 0 [(0, 4, 30), (1, 0, x1), (2, 0, x2), (3, 0, x3)] [] h := rfl
def MX0_isCoarse (n : Nat) (x1 x2 : Int) (h : Hp) : Option (Int) :=
(grd (0 ≤ 0 ∧ 0 < alen 284)
(grd (0 ≤ 1 ∧ 1 < alen 284)
(bndp (MX11_square (w64 ((h 31 0) + (h 31 1)))) fun r1 =>
(grd (0 ≤ 0 ∧ 0 < alen 284)
(grd (0 ≤ 1 ∧ 1 < alen 284)
(bndp (MX11_square (w64 ((h 32 0) + (h 32 1)))) fun r2 =>
(bndp (MX11_root n (w64 (r1 + r2))) fun r3 =>
(grd (¬ 2 = 0)
(ltt (w32 (Int.tdiv r3 2)) fun y1 =>
(if (w32 (x1 - y1)) ≤ x2 then
(some 0)
else
(some 1)))))))))))
def wX0_isCoarse {ρ : Type} (n : Nat) : FN ρ := fun a h k => match a with
  | [_, x1, x2] => bndp (MX0_isCoarse n x1 x2 h) (fun r => k r h)
  | _ => none
def fsX0_isCoarse (n : Nat) (ρ : Type) : List (FN ρ) := [wX11_square, wX11_root n]
def KX0_isCoarse (n : Nat) : CT (Int) := []
set_option maxRecDepth 100000 in
theorem eMX0_isCoarse (n : Nat) (x1 : Int) (x2 : Int) (h : Hp) : MX0_isCoarse n x1 x2 h =
  goAt false (kct (KX0_isCoarse n)) (fun v _ => some (v)) (fsX0_isCoarse n _) sdX0_isCoarse 1000 0 [(0, 4, 30), (1, 0, x1), (2, 0, x2)] [] h := rfl
def MX11_share (x0 x2 : Int) : Option (Int) :=
(if (lcp x2 0) ≠ 0 then
(grd (¬ x2 = 0)
(some (w32 (w64 (Int.tdiv x0 x2)))))
else
(some 0))
def wX11_share {ρ : Type} : FN ρ := fun a h k => match a with
  | [x0, x2] => bndp (MX11_share x0 x2) (fun r => k r h)
  | _ => none
def fsX11_share (ρ : Type) : List (FN ρ) := []
def KX11_share  : CT (Int) := []
set_option maxRecDepth 100000 in
theorem eMX11_share (x0 : Int) (x2 : Int) (h : Hp) : MX11_share x0 x2 =
  goAt false (kct (KX11_share)) (fun v _ => some (v)) (fsX11_share _) sdX11_share 1000 0 [(0, 1, x0), (2, 1, x2)] [] h := rfl
def BX0_halve_17 (n : Nat) : Nat → Int → Int → Hp → Option (Int × Hp)
  | 0, _, _, _ => none
  | f + 1, x1, x2, h =>
    (if x2 ≤ 0 then
    (some (x1, h))
    else
    (grd (0 ≤ x2 ∧ x2 < alen 284)
    (grd (0 ≤ (w32 (2 * x2)) ∧ (w32 (2 * x2)) < alen 284)
    (ltt (up h 31 (w32 (2 * x2)) (h 31 x2)) fun h1 =>
    (grd (0 ≤ x2 ∧ x2 < alen 284)
    (grd (0 ≤ (w32 (2 * x2)) ∧ (w32 (2 * x2)) < alen 284)
    (ltt (up h1 32 (w32 (2 * x2)) (h1 32 x2)) fun h2 =>
    (ltt (w32 (x2 + (-1))) fun y1 =>
    (BX0_halve_17 n f x1 y1 h2)))))))))
def BX0_halve_67 (n : Nat) : Nat → Int → Int → Hp → Option (Hp)
  | 0, _, _, _ => none
  | f + 1, x1, x2, h =>
    (if (h 30 3) ≤ x2 then
    (some h)
    else
    (grd (0 ≤ (w32 (x2 - 1)) ∧ (w32 (x2 - 1)) < alen 284)
    (grd (0 ≤ (w32 (x2 + 1)) ∧ (w32 (x2 + 1)) < alen 284)
    (ltt (w64 ((h 31 (w32 (x2 - 1))) + (h 31 (w32 (x2 + 1))))) fun y1 =>
    (grd (0 ≤ (w32 (x2 - 1)) ∧ (w32 (x2 - 1)) < alen 284)
    (grd (0 ≤ (w32 (x2 + 1)) ∧ (w32 (x2 + 1)) < alen 284)
    (ltt (w64 ((h 32 (w32 (x2 - 1))) + (h 32 (w32 (x2 + 1))))) fun y2 =>
    (bndp (MX11_root n (w64 ((w64 (y1 * y1)) + (w64 (y2 * y2))))) fun r1 =>
    (ltt r1 fun y3 =>
    (bndp (MX11_share (w64 (y1 * x1)) y3) fun r2 =>
    (grd (0 ≤ x2 ∧ x2 < alen 284)
    (ltt (up h 31 x2 r2) fun h1 =>
    (bndp (MX11_share (w64 (y2 * x1)) y3) fun r3 =>
    (grd (0 ≤ x2 ∧ x2 < alen 284)
    (ltt (up h1 32 x2 r3) fun h2 =>
    (ltt (w32 (x2 + 2)) fun y4 =>
    (BX0_halve_67 n f x1 y4 h2)))))))))))))))))
def LX0_halve_67 (n : Nat) (x1 x2 : Int) (h : Hp) : Option (Hp) :=
(BX0_halve_67 n n x1 x2 h)
def JX0_halve_55 (n : Nat) (x1 : Int) (h : Hp) : Option (Hp) :=
(ltt (up h 30 3 (w32 ((h 30 3) * 2))) fun h1 =>
(ltt 1 fun y1 =>
(LX0_halve_67 n x1 y1 h1)))
def LX0_halve_17 (n : Nat) (x1 x2 : Int) (h : Hp) : Option (Hp) :=
(bndx (BX0_halve_17 n n x1 x2 h) fun (e1, h1) =>
(JX0_halve_55 n e1 h1))
def MX0_halve (n : Nat) (x1 : Int) (h : Hp) : Option (Hp) :=
(if (w32 ((h 30 3) * 2)) < 33 then
(ltt (h 30 3) fun y1 =>
(LX0_halve_17 n x1 y1 h))
else
(some h))
def wX0_halve {ρ : Type} (n : Nat) : FN ρ := fun a h k => match a with
  | [_, x1] => bndh (MX0_halve n x1 h) (fun h2 => k 0 h2)
  | _ => none
def fsX0_halve (n : Nat) (ρ : Type) : List (FN ρ) := [wX11_root n, wX11_share]
def KX0_halve (n : Nat) : CT (Hp) := [(67, [(0, 4, (some 30)), (1, 0, none), (2, 0, none)], [], fun a c h => match a, c with
    | [x1, x2], [] => LX0_halve_67 n x1 x2 h
    | _, _ => none),
  (55, [(0, 4, (some 30)), (1, 0, none)], [], fun a c h => match a, c with
    | [x1], [] => JX0_halve_55 n x1 h
    | _, _ => none),
  (17, [(0, 4, (some 30)), (1, 0, none), (2, 0, none)], [], fun a c h => match a, c with
    | [x1, x2], [] => LX0_halve_17 n x1 x2 h
    | _, _ => none)]
def KX0_halve_67 (n : Nat) (bk : Int → Int → Hp → Option (Hp)) : CT (Hp) := [(67, [(0, 4, (some 30)), (1, 0, none), (2, 0, none)], [], fun a c h => match a, c with
    | [x1, x2], [] => bk x1 x2 h
    | _, _ => none)]
def KX0_halve_17 (n : Nat) (bk : Int → Int → Hp → Option (Int × Hp)) : CT (Int × Hp) := [(17, [(0, 4, (some 30)), (1, 0, none), (2, 0, none)], [], fun a c h => match a, c with
    | [x1, x2], [] => bk x1 x2 h
    | _, _ => none),
  (55, [(0, 4, (some 30)), (1, 0, none)], [], fun a c h => match a, c with
    | [x1], [] => some (x1, h)
    | _, _ => none)]
set_option maxRecDepth 100000 in
theorem eBX0_halve_17 (n f : Nat) (x1 : Int) (x2 : Int) (h : Hp) : BX0_halve_17 n (f + 1) x1 x2 h =
  goAt false (kct (KX0_halve_17 n (BX0_halve_17 n f))) (fun _ _ => none) (fsX0_halve n _) sdX0_halve 1000 17 [(0, 4, 30), (1, 0, x1), (2, 0, x2)] [] h := rfl
set_option maxRecDepth 100000 in
theorem eBX0_halve_67 (n f : Nat) (x1 : Int) (x2 : Int) (h : Hp) : BX0_halve_67 n (f + 1) x1 x2 h =
  goAt false (kct (KX0_halve_67 n (BX0_halve_67 n f))) (fun _ h => some (h)) (fsX0_halve n _) sdX0_halve 1000 67 [(0, 4, 30), (1, 0, x1), (2, 0, x2)] [] h := rfl
set_option maxRecDepth 100000 in
theorem eJX0_halve_55 (n : Nat) (x1 : Int) (h : Hp) : JX0_halve_55 n x1 h =
  goAt false (kct (KX0_halve n)) (fun _ h => some (h)) (fsX0_halve n _) sdX0_halve 1000 55 [(0, 4, 30), (1, 0, x1)] [] h := rfl
set_option maxRecDepth 100000 in
theorem eMX0_halve (n : Nat) (x1 : Int) (h : Hp) : MX0_halve n x1 h =
  goAt false (kct (KX0_halve n)) (fun _ h => some (h)) (fsX0_halve n _) sdX0_halve 1000 0 [(0, 4, 30), (1, 0, x1)] [] h := rfl
def BX0_turn_56 (n : Nat) : Nat → Int → Int → Int → Int → Int → Int → Int → Hp → Option (Int × Int × Int × Int × Hp)
  | 0, _, _, _, _, _, _, _, _ => none
  | f + 1, x4, x5, x6, x7, x8, x9, x10, h =>
    (if 3 ≤ x10 then
    (some (x4, x6, x7, x8, h))
    else
    (bndp (MX0_isCoarse n x9 x5 h) fun r1 =>
    (if r1 = 0 then
    (some (x4, x6, x7, x8, h))
    else
    (bndh (MX0_halve n x9 h) fun h1 =>
    (ltt (w32 (x10 + 1)) fun y1 =>
    (BX0_turn_56 n f x4 x5 x6 x7 x8 x9 y1 h1))))))
def BX0_turn_88 (n : Nat) : Nat → Int → Int → Int → Int → Int → Hp → Option (Hp)
  | 0, _, _, _, _, _, _ => none
  | f + 1, x4, x6, x7, x8, x10, h =>
    (if (h 30 3) < x10 then
    (some h)
    else
    (if 33 ≤ x10 then
    (some h)
    else
    (grd (0 ≤ x10 ∧ x10 < alen 284)
    (grd (0 ≤ x10 ∧ x10 < alen 284)
    (ltt (up h 31 x10 (w32 ((h 31 x10) + x6))) fun h1 =>
    (grd (0 ≤ x10 ∧ x10 < alen 284)
    (grd (0 ≤ x10 ∧ x10 < alen 284)
    (ltt (up h1 32 x10 (w32 ((h1 32 x10) + x7))) fun h2 =>
    (bndp (MX11_share (w64 (x4 * x10)) (h2 30 3)) fun r1 =>
    (grd (0 ≤ x10 ∧ x10 < alen 284)
    (ltt (up h2 33 x10 (w32 (x8 + r1))) fun h3 =>
    (ltt (w32 (x10 + 1)) fun y1 =>
    (BX0_turn_88 n f x4 x6 x7 x8 y1 h3)))))))))))))
def LX0_turn_88 (n : Nat) (x4 x6 x7 x8 x10 : Int) (h : Hp) : Option (Hp) :=
(BX0_turn_88 n n x4 x6 x7 x8 x10 h)
def JX0_turn_85 (n : Nat) (x4 x6 x7 x8 : Int) (h : Hp) : Option (Hp) :=
(ltt 0 fun y1 =>
(LX0_turn_88 n x4 x6 x7 x8 y1 h))
def LX0_turn_56 (n : Nat) (x4 x5 x6 x7 x8 x9 x10 : Int) (h : Hp) : Option (Hp) :=
(bndx (BX0_turn_56 n n x4 x5 x6 x7 x8 x9 x10 h) fun (e4, e6, e7, e8, h1) =>
(JX0_turn_85 n e4 e6 e7 e8 h1))
def MX0_turn (n : Nat) (x1 x2 x3 x4 x5 : Int) (h : Hp) : Option (Hp) :=
(grd (0 ≤ 0 ∧ 0 < alen 284)
(ltt (w32 ((h 31 0) + x1)) fun y1 =>
(grd (0 ≤ 0 ∧ 0 < alen 284)
(ltt (w32 ((h 32 0) + x2)) fun y2 =>
(grd (0 ≤ 0 ∧ 0 < alen 284)
(ltt (h 33 0) fun y3 =>
(bndp (MX11_square x1) fun r1 =>
(bndp (MX11_square x2) fun r2 =>
(bndp (MX11_root n (w64 (r1 + r2))) fun r3 =>
(ltt r3 fun y4 =>
(bndh (MX0_spin n (w32 (-x1)) (w32 (-x2)) x3 h) fun h1 =>
(ltt 0 fun y5 =>
(LX0_turn_56 n x4 x5 y1 y2 y3 y4 y5 h1)))))))))))))
def wX0_turn {ρ : Type} (n : Nat) : FN ρ := fun a h k => match a with
  | [_, x1, x2, x3, x4, x5] => bndh (MX0_turn n x1 x2 x3 x4 x5 h) (fun h2 => k 0 h2)
  | _ => none
def fsX0_turn (n : Nat) (ρ : Type) : List (FN ρ) := [wX11_square, wX11_root n, wX0_spin n, wX0_isCoarse n, wX0_halve n, wX11_share]
def KX0_turn (n : Nat) : CT (Hp) := [(88, [(0, 4, (some 30)), (4, 0, none), (6, 0, none), (7, 0, none), (8, 0, none), (10, 0, none)], [], fun a c h => match a, c with
    | [x4, x6, x7, x8, x10], [] => LX0_turn_88 n x4 x6 x7 x8 x10 h
    | _, _ => none),
  (85, [(0, 4, (some 30)), (4, 0, none), (6, 0, none), (7, 0, none), (8, 0, none)], [], fun a c h => match a, c with
    | [x4, x6, x7, x8], [] => JX0_turn_85 n x4 x6 x7 x8 h
    | _, _ => none),
  (56, [(0, 4, (some 30)), (4, 0, none), (5, 0, none), (6, 0, none), (7, 0, none), (8, 0, none), (9, 0, none), (10, 0, none)], [], fun a c h => match a, c with
    | [x4, x5, x6, x7, x8, x9, x10], [] => LX0_turn_56 n x4 x5 x6 x7 x8 x9 x10 h
    | _, _ => none)]
def KX0_turn_88 (n : Nat) (bk : Int → Int → Int → Int → Int → Hp → Option (Hp)) : CT (Hp) := [(88, [(0, 4, (some 30)), (4, 0, none), (6, 0, none), (7, 0, none), (8, 0, none), (10, 0, none)], [], fun a c h => match a, c with
    | [x4, x6, x7, x8, x10], [] => bk x4 x6 x7 x8 x10 h
    | _, _ => none)]
def KX0_turn_56 (n : Nat) (bk : Int → Int → Int → Int → Int → Int → Int → Hp → Option (Int × Int × Int × Int × Hp)) : CT (Int × Int × Int × Int × Hp) := [(56, [(0, 4, (some 30)), (4, 0, none), (5, 0, none), (6, 0, none), (7, 0, none), (8, 0, none), (9, 0, none), (10, 0, none)], [], fun a c h => match a, c with
    | [x4, x5, x6, x7, x8, x9, x10], [] => bk x4 x5 x6 x7 x8 x9 x10 h
    | _, _ => none),
  (85, [(0, 4, (some 30)), (4, 0, none), (6, 0, none), (7, 0, none), (8, 0, none)], [], fun a c h => match a, c with
    | [x4, x6, x7, x8], [] => some (x4, x6, x7, x8, h)
    | _, _ => none)]
set_option maxRecDepth 100000 in
theorem eBX0_turn_56 (n f : Nat) (x4 : Int) (x5 : Int) (x6 : Int) (x7 : Int) (x8 : Int) (x9 : Int) (x10 : Int) (h : Hp) : BX0_turn_56 n (f + 1) x4 x5 x6 x7 x8 x9 x10 h =
  goAt false (kct (KX0_turn_56 n (BX0_turn_56 n f))) (fun _ _ => none) (fsX0_turn n _) sdX0_turn 1000 56 [(0, 4, 30), (4, 0, x4), (5, 0, x5), (6, 0, x6), (7, 0, x7), (8, 0, x8), (9, 0, x9), (10, 0, x10)] [] h := rfl
set_option maxRecDepth 100000 in
theorem eBX0_turn_88 (n f : Nat) (x4 : Int) (x6 : Int) (x7 : Int) (x8 : Int) (x10 : Int) (h : Hp) : BX0_turn_88 n (f + 1) x4 x6 x7 x8 x10 h =
  goAt false (kct (KX0_turn_88 n (BX0_turn_88 n f))) (fun _ h => some (h)) (fsX0_turn n _) sdX0_turn 1000 88 [(0, 4, 30), (4, 0, x4), (6, 0, x6), (7, 0, x7), (8, 0, x8), (10, 0, x10)] [] h := rfl
set_option maxRecDepth 100000 in
theorem eJX0_turn_85 (n : Nat) (x4 : Int) (x6 : Int) (x7 : Int) (x8 : Int) (h : Hp) : JX0_turn_85 n x4 x6 x7 x8 h =
  goAt false (kct (KX0_turn n)) (fun _ h => some (h)) (fsX0_turn n _) sdX0_turn 1000 85 [(0, 4, 30), (4, 0, x4), (6, 0, x6), (7, 0, x7), (8, 0, x8)] [] h := rfl
set_option maxRecDepth 100000 in
theorem eMX0_turn (n : Nat) (x1 : Int) (x2 : Int) (x3 : Int) (x4 : Int) (x5 : Int) (h : Hp) : MX0_turn n x1 x2 x3 x4 x5 h =
  goAt false (kct (KX0_turn n)) (fun _ h => some (h)) (fsX0_turn n _) sdX0_turn 1000 0 [(0, 4, 30), (1, 0, x1), (2, 0, x2), (3, 0, x3), (4, 0, x4), (5, 0, x5)] [] h := rfl
def JX0_lay_155 (n : Nat) (x3 x4 z0 z1 z2 z3 : Int) (h : Hp) : Option (Hp) :=
(grd (0 ≤ z1 ∧ z1 < alen 284)
(ltt (up h z0 z1 (w32 (z2 + z3))) fun h1 =>
(grd (0 ≤ (w32 (x3 + 3)) ∧ (w32 (x3 + 3)) < alen 1988)
(if x4 = 0 then
(grd (0 ≤ 1 ∧ 1 < alen 284)
(ltt (up h1 33 1 (w32 ((h1 34 (w32 (x3 + 3))) + 0))) fun h2 =>
(some h2)))
else
(grd (0 ≤ 0 ∧ 0 < alen 284)
(grd (0 ≤ 1 ∧ 1 < alen 284)
(ltt (up h1 33 1 (w32 ((h1 34 (w32 (x3 + 3))) + (h1 33 0)))) fun h3 =>
(some h3))))))))
def JX0_lay_128 (n : Nat) (x3 x4 z0 z1 z2 z3 : Int) (h : Hp) : Option (Hp) :=
(grd (0 ≤ z1 ∧ z1 < alen 284)
(ltt (up h z0 z1 (w32 (z2 + z3))) fun h1 =>
(grd (0 ≤ (w32 (x3 + 2)) ∧ (w32 (x3 + 2)) < alen 1988)
(if x4 = 0 then
(JX0_lay_155 n x3 x4 32 1 (h1 34 (w32 (x3 + 2))) 0 h1)
else
(grd (0 ≤ 0 ∧ 0 < alen 284)
(JX0_lay_155 n x3 x4 32 1 (h1 34 (w32 (x3 + 2))) (h1 32 0) h1))))))
def JX0_lay_96 (n : Nat) (x3 z0 : Int) (h : Hp) : Option (Hp) :=
(ltt z0 fun y1 =>
(ltt (up h 30 3 1) fun h1 =>
(grd (0 ≤ (w32 (x3 + 1)) ∧ (w32 (x3 + 1)) < alen 1988)
(if y1 = 0 then
(JX0_lay_128 n x3 y1 31 1 (h1 34 (w32 (x3 + 1))) 0 h1)
else
(grd (0 ≤ 0 ∧ 0 < alen 284)
(JX0_lay_128 n x3 y1 31 1 (h1 34 (w32 (x3 + 1))) (h1 31 0) h1))))))
def MX0_lay (n : Nat) (x1 x3 : Int) (h : Hp) : Option (Hp) :=
(if x3 < 0 then
(some h)
else
(if (w32 (x3 + 4)) < (alen 1988) then
(bndp (MX10_last x1 0 h) fun r1 =>
(grd (0 ≤ 0 ∧ 0 < alen 284)
(ltt (up h 31 0 r1) fun h1 =>
(bndp (MX10_last x1 1 h1) fun r2 =>
(grd (0 ≤ 0 ∧ 0 < alen 284)
(ltt (up h1 32 0 r2) fun h2 =>
(bndp (MX10_last x1 2 h2) fun r3 =>
(grd (0 ≤ 0 ∧ 0 < alen 284)
(ltt (up h2 33 0 r3) fun h3 =>
(grd (0 ≤ x3 ∧ x3 < alen 1988)
(if (h3 34 x3) ≠ 5 then
(grd (0 ≤ x3 ∧ x3 < alen 1988)
(if (h3 34 x3) ≠ 4 then
(JX0_lay_96 n x3 0 h3)
else
(JX0_lay_96 n x3 1 h3)))
else
(grd (0 ≤ (w32 (x3 + 1)) ∧ (w32 (x3 + 1)) < alen 1988)
(grd (0 ≤ (w32 (x3 + 2)) ∧ (w32 (x3 + 2)) < alen 1988)
(grd (0 ≤ (w32 (x3 + 3)) ∧ (w32 (x3 + 3)) < alen 1988)
(grd (0 ≤ (w32 (x3 + 4)) ∧ (w32 (x3 + 4)) < alen 1988)
(bndh (MX0_turn n (h3 34 (w32 (x3 + 1))) (h3 34 (w32 (x3 + 2))) (h3 34 (w32 (x3 + 3))) (h3 34 (w32 (x3 + 4))) (h3 x1 10) h3) fun h4 =>
(some h4)))))))))))))))))
else
(some h)))
def wX0_lay {ρ : Type} (n : Nat) : FN ρ := fun a h k => match a with
  | [_, x1, _, x3] => bndh (MX0_lay n x1 x3 h) (fun h2 => k 0 h2)
  | _ => none
def fsX0_lay (n : Nat) (ρ : Type) : List (FN ρ) := [wX10_last, wX0_turn n]
def KX0_lay (n : Nat) : CT (Hp) := [(155, [(0, 4, (some 30)), (2, 1988, (some 34)), (3, 0, none), (4, 0, none)], [(0, none), (0, none), (0, none), (284, none)], fun a c h => match a, c with
    | [x3, x4], [z3, z2, z1, z0] => JX0_lay_155 n x3 x4 z0 z1 z2 z3 h
    | _, _ => none),
  (128, [(0, 4, (some 30)), (2, 1988, (some 34)), (3, 0, none), (4, 0, none)], [(0, none), (0, none), (0, none), (284, none)], fun a c h => match a, c with
    | [x3, x4], [z3, z2, z1, z0] => JX0_lay_128 n x3 x4 z0 z1 z2 z3 h
    | _, _ => none),
  (96, [(0, 4, (some 30)), (2, 1988, (some 34)), (3, 0, none)], [(0, none)], fun a c h => match a, c with
    | [x3], [z0] => JX0_lay_96 n x3 z0 h
    | _, _ => none)]
set_option maxRecDepth 100000 in
theorem eJX0_lay_155 (n : Nat) (x3 : Int) (x4 : Int) (z0 : Int) (z1 : Int) (z2 : Int) (z3 : Int) (h : Hp) : JX0_lay_155 n x3 x4 z0 z1 z2 z3 h =
  goAt false (kct (KX0_lay n)) (fun _ h => some (h)) (fsX0_lay n _) sdX0_lay 1000 155 [(0, 4, 30), (2, 1988, 34), (3, 0, x3), (4, 0, x4)] [(0, z3), (0, z2), (0, z1), (284, z0)] h := rfl
set_option maxRecDepth 100000 in
theorem eJX0_lay_128 (n : Nat) (x3 : Int) (x4 : Int) (z0 : Int) (z1 : Int) (z2 : Int) (z3 : Int) (h : Hp) : JX0_lay_128 n x3 x4 z0 z1 z2 z3 h =
  goAt false (kct (KX0_lay n)) (fun _ h => some (h)) (fsX0_lay n _) sdX0_lay 1000 128 [(0, 4, 30), (2, 1988, 34), (3, 0, x3), (4, 0, x4)] [(0, z3), (0, z2), (0, z1), (284, z0)] h := rfl
set_option maxRecDepth 100000 in
theorem eJX0_lay_96 (n : Nat) (x3 : Int) (z0 : Int) (h : Hp) : JX0_lay_96 n x3 z0 h =
  goAt false (kct (KX0_lay n)) (fun _ h => some (h)) (fsX0_lay n _) sdX0_lay 1000 96 [(0, 4, 30), (2, 1988, 34), (3, 0, x3)] [(0, z0)] h := rfl
set_option maxRecDepth 100000 in
theorem eMX0_lay (n : Nat) (x1 : Int) (x3 : Int) (h : Hp) : MX0_lay n x1 x3 h =
  goAt false (kct (KX0_lay n)) (fun _ h => some (h)) (fsX0_lay n _) sdX0_lay 1000 0 [(0, 4, 30), (1, 14, x1), (2, 1988, 34), (3, 0, x3)] [] h := rfl
def MX11_isBeyond (x0 : Int) : Option (Int) :=
(if 100000 < x0 then
(some 1)
else
(if (-100000) ≤ x0 then
(some 0)
else
(some 1)))
def wX11_isBeyond {ρ : Type} : FN ρ := fun a h k => match a with
  | [x0] => bndp (MX11_isBeyond x0) (fun r => k r h)
  | _ => none
def fsX11_isBeyond (ρ : Type) : List (FN ρ) := []
def KX11_isBeyond  : CT (Int) := []
set_option maxRecDepth 100000 in
theorem eMX11_isBeyond (x0 : Int) (h : Hp) : MX11_isBeyond x0 =
  goAt false (kct (KX11_isBeyond)) (fun v _ => some (v)) (fsX11_isBeyond _) sdX11_isBeyond 1000 0 [(0, 0, x0)] [] h := rfl
def BX0_goBeyond_2 (n : Nat) : Nat → Int → Hp → Option (Int)
  | 0, _, _ => none
  | f + 1, x1, h =>
    (if (h 30 3) < x1 then
    (some 0)
    else
    (if 33 ≤ x1 then
    (some 0)
    else
    (grd (0 ≤ x1 ∧ x1 < alen 284)
    (bndp (MX11_isBeyond (h 31 x1)) fun r1 =>
    (if r1 ≠ 0 then
    (some 1)
    else
    (grd (0 ≤ x1 ∧ x1 < alen 284)
    (bndp (MX11_isBeyond (h 32 x1)) fun r2 =>
    (if r2 ≠ 0 then
    (some 1)
    else
    (grd (0 ≤ x1 ∧ x1 < alen 284)
    (bndp (MX11_isBeyond (h 33 x1)) fun r3 =>
    (if r3 = 0 then
    (ltt (w32 (x1 + 1)) fun y1 =>
    (BX0_goBeyond_2 n f y1 h))
    else
    (some 1))))))))))))
def LX0_goBeyond_2 (n : Nat) (x1 : Int) (h : Hp) : Option (Int) :=
(BX0_goBeyond_2 n n x1 h)
def MX0_goBeyond (n : Nat) (h : Hp) : Option (Int) :=
(ltt 1 fun y1 =>
(LX0_goBeyond_2 n y1 h))
def wX0_goBeyond {ρ : Type} (n : Nat) : FN ρ := fun a h k => match a with
  | [_] => bndp (MX0_goBeyond n h) (fun r => k r h)
  | _ => none
def fsX0_goBeyond (n : Nat) (ρ : Type) : List (FN ρ) := [wX11_isBeyond]
def KX0_goBeyond (n : Nat) : CT (Int) := [(2, [(0, 4, (some 30)), (1, 0, none)], [], fun a c h => match a, c with
    | [x1], [] => LX0_goBeyond_2 n x1 h
    | _, _ => none)]
def KX0_goBeyond_2 (n : Nat) (bk : Int → Hp → Option (Int)) : CT (Int) := [(2, [(0, 4, (some 30)), (1, 0, none)], [], fun a c h => match a, c with
    | [x1], [] => bk x1 h
    | _, _ => none)]
set_option maxRecDepth 100000 in
theorem eBX0_goBeyond_2 (n f : Nat) (x1 : Int) (h : Hp) : BX0_goBeyond_2 n (f + 1) x1 h =
  goAt false (kct (KX0_goBeyond_2 n (BX0_goBeyond_2 n f))) (fun v _ => some (v)) (fsX0_goBeyond n _) sdX0_goBeyond 1000 2 [(0, 4, 30), (1, 0, x1)] [] h := rfl
set_option maxRecDepth 100000 in
theorem eMX0_goBeyond (n : Nat) (h : Hp) : MX0_goBeyond n h =
  goAt false (kct (KX0_goBeyond n)) (fun v _ => some (v)) (fsX0_goBeyond n _) sdX0_goBeyond 1000 0 [(0, 4, 30)] [] h := rfl
def MX6_fail (x1 x2 : Int) (h : Hp) : Option (Hp) :=
(if (h 29 8) ≠ (-1) then
(some h)
else
(ltt (up h 29 8 (w32 ((w32 (8 * x2)) + x1))) fun h1 =>
(some h1)))
def wX6_fail {ρ : Type} : FN ρ := fun a h k => match a with
  | [_, x1, x2] => bndh (MX6_fail x1 x2 h) (fun h2 => k 0 h2)
  | _ => none
def fsX6_fail (ρ : Type) : List (FN ρ) := []
def KX6_fail  : CT (Hp) := []
set_option maxRecDepth 100000 in
theorem eMX6_fail (x1 : Int) (x2 : Int) (h : Hp) : MX6_fail x1 x2 h =
  goAt false (kct (KX6_fail)) (fun _ h => some (h)) (fsX6_fail _) sdX6_fail 1000 0 [(0, 10, 29), (1, 0, x1), (2, 0, x2)] [] h := rfl
def BX0_goings_4 (n : Nat) : Nat → Int → Int → Hp → Option (Int)
  | 0, _, _, _ => none
  | f + 1, x1, x2, h =>
    (if (h 30 3) < x2 then
    (some x1)
    else
    (if 33 ≤ x2 then
    (some x1)
    else
    (grd (0 ≤ x2 ∧ x2 < alen 284)
    (grd (0 ≤ (w32 (x2 - 1)) ∧ (w32 (x2 - 1)) < alen 284)
    (if (h 31 x2) ≠ (h 31 (w32 (x2 - 1))) then
    (ltt (w32 (x1 + 1)) fun y1 =>
    (ltt (w32 (x2 + 1)) fun y2 =>
    (BX0_goings_4 n f y1 y2 h)))
    else
    (grd (0 ≤ x2 ∧ x2 < alen 284)
    (grd (0 ≤ (w32 (x2 - 1)) ∧ (w32 (x2 - 1)) < alen 284)
    (if (h 32 x2) ≠ (h 32 (w32 (x2 - 1))) then
    (ltt (w32 (x1 + 1)) fun y3 =>
    (ltt (w32 (x2 + 1)) fun y4 =>
    (BX0_goings_4 n f y3 y4 h)))
    else
    (grd (0 ≤ x2 ∧ x2 < alen 284)
    (grd (0 ≤ (w32 (x2 - 1)) ∧ (w32 (x2 - 1)) < alen 284)
    (if (h 33 x2) = (h 33 (w32 (x2 - 1))) then
    (ltt (w32 (x2 + 1)) fun y5 =>
    (BX0_goings_4 n f x1 y5 h))
    else
    (ltt (w32 (x1 + 1)) fun y6 =>
    (ltt (w32 (x2 + 1)) fun y7 =>
    (BX0_goings_4 n f y6 y7 h))))))))))))))
def LX0_goings_4 (n : Nat) (x1 x2 : Int) (h : Hp) : Option (Int) :=
(BX0_goings_4 n n x1 x2 h)
def MX0_goings (n : Nat) (h : Hp) : Option (Int) :=
(ltt 0 fun y1 =>
(ltt 1 fun y2 =>
(LX0_goings_4 n y1 y2 h)))
def wX0_goings {ρ : Type} (n : Nat) : FN ρ := fun a h k => match a with
  | [_] => bndp (MX0_goings n h) (fun r => k r h)
  | _ => none
def fsX0_goings (n : Nat) (ρ : Type) : List (FN ρ) := []
def KX0_goings (n : Nat) : CT (Int) := [(4, [(0, 4, (some 30)), (1, 0, none), (2, 0, none)], [], fun a c h => match a, c with
    | [x1, x2], [] => LX0_goings_4 n x1 x2 h
    | _, _ => none)]
def KX0_goings_4 (n : Nat) (bk : Int → Int → Hp → Option (Int)) : CT (Int) := [(4, [(0, 4, (some 30)), (1, 0, none), (2, 0, none)], [], fun a c h => match a, c with
    | [x1, x2], [] => bk x1 x2 h
    | _, _ => none)]
set_option maxRecDepth 100000 in
theorem eBX0_goings_4 (n f : Nat) (x1 : Int) (x2 : Int) (h : Hp) : BX0_goings_4 n (f + 1) x1 x2 h =
  goAt false (kct (KX0_goings_4 n (BX0_goings_4 n f))) (fun v _ => some (v)) (fsX0_goings n _) sdX0_goings 1000 4 [(0, 4, 30), (1, 0, x1), (2, 0, x2)] [] h := rfl
set_option maxRecDepth 100000 in
theorem eMX0_goings (n : Nat) (h : Hp) : MX0_goings n h =
  goAt false (kct (KX0_goings n)) (fun v _ => some (v)) (fsX0_goings n _) sdX0_goings 1000 0 [(0, 4, 30)] [] h := rfl
def MX10_has (x0 x1 : Int) (h : Hp) : Option (Int) :=
(if x1 < 0 then
(some 0)
else
(if (h x0 11) ≤ x1 then
(some 0)
else
(some 1)))
def wX10_has {ρ : Type} : FN ρ := fun a h k => match a with
  | [x0, x1] => bndp (MX10_has x0 x1 h) (fun r => k r h)
  | _ => none
def fsX10_has (ρ : Type) : List (FN ρ) := []
def KX10_has  : CT (Int) := []
set_option maxRecDepth 100000 in
theorem eMX10_has (x0 : Int) (x1 : Int) (h : Hp) : MX10_has x0 x1 h =
  goAt false (kct (KX10_has)) (fun v _ => some (v)) (fsX10_has _) sdX10_has 1000 0 [(0, 14, x0), (1, 0, x1)] [] h := rfl
def MX10_step (x0 x1 x2 : Int) (h : Hp) : Option (Int) :=
(bndp (MX10_has x0 x1 h) fun r1 =>
(if r1 = 0 then
(some 0)
else
(bndp (MX11_isAxis x2) fun r2 =>
(if r2 = 0 then
(some 0)
else
(grd (0 ≤ x2 ∧ x2 < alen 50)
(grd (0 ≤ (w32 (x1 + 1)) ∧ (w32 (x1 + 1)) < alen 540)
(grd (0 ≤ x2 ∧ x2 < alen 50)
(grd (0 ≤ x1 ∧ x1 < alen 540)
(some (w32 ((h ((x0 + 2) + 1 + x2) (w32 (x1 + 1))) - (h ((x0 + 2) + 1 + x2) x1))))))))))))
def wX10_step {ρ : Type} : FN ρ := fun a h k => match a with
  | [x0, x1, x2] => bndp (MX10_step x0 x1 x2 h) (fun r => k r h)
  | _ => none
def fsX10_step (ρ : Type) : List (FN ρ) := [wX10_has, wX11_isAxis]
def KX10_step  : CT (Int) := []
set_option maxRecDepth 100000 in
theorem eMX10_step (x0 : Int) (x1 : Int) (x2 : Int) (h : Hp) : MX10_step x0 x1 x2 h =
  goAt false (kct (KX10_step)) (fun v _ => some (v)) (fsX10_step _) sdX10_step 1000 0 [(0, 14, x0), (1, 0, x1), (2, 0, x2)] [] h := rfl
def MX10_rateAlong (x0 x1 x2 x3 : Int) (h : Hp) : Option (Int) :=
(grd (0 ≤ x1 ∧ x1 < alen 532)
(bndp (MX11_share (w64 (x3 * (h (x0 + 6) x1))) (jabs x2)) fun r1 =>
(some r1)))
def wX10_rateAlong {ρ : Type} : FN ρ := fun a h k => match a with
  | [x0, x1, x2, x3] => bndp (MX10_rateAlong x0 x1 x2 x3 h) (fun r => k r h)
  | _ => none
def fsX10_rateAlong (ρ : Type) : List (FN ρ) := [fabs, wX11_share]
def KX10_rateAlong  : CT (Int) := []
set_option maxRecDepth 100000 in
theorem eMX10_rateAlong (x0 : Int) (x1 : Int) (x2 : Int) (x3 : Int) (h : Hp) : MX10_rateAlong x0 x1 x2 x3 h =
  goAt false (kct (KX10_rateAlong)) (fun v _ => some (v)) (fsX10_rateAlong _) sdX10_rateAlong 1000 0 [(0, 14, x0), (1, 0, x1), (2, 0, x2), (3, 0, x3)] [] h := rfl
def BX10_leastRate_6 (n : Nat) : Nat → Int → Int → Int → Int → Int → Hp → Option (Int)
  | 0, _, _, _, _, _, _ => none
  | f + 1, x0, x1, x2, x3, x4, h =>
    (if 3 ≤ x4 then
    (some x3)
    else
    (bndp (MX10_step x0 x1 x4 h) fun r1 =>
    (ltt r1 fun y1 =>
    (if y1 = 0 then
    (ltt (w32 (x4 + 1)) fun y2 =>
    (BX10_leastRate_6 n f x0 x1 x2 x3 y2 h))
    else
    (grd (0 ≤ (w32 (x2 + x4)) ∧ (w32 (x2 + x4)) < alen 68)
    (bndp (MX10_rateAlong x0 x1 y1 (h (x0 + 1) (w32 (x2 + x4))) h) fun r2 =>
    (ltt (min x3 r2) fun y3 =>
    (ltt (w32 (x4 + 1)) fun y4 =>
    (BX10_leastRate_6 n f x0 x1 x2 y3 y4 h)))))))))
def LX10_leastRate_6 (n : Nat) (x0 x1 x2 x3 x4 : Int) (h : Hp) : Option (Int) :=
(BX10_leastRate_6 n n x0 x1 x2 x3 x4 h)
def MX10_leastRate (n : Nat) (x0 x1 x2 : Int) (h : Hp) : Option (Int) :=
(ltt 163840000 fun y1 =>
(ltt 0 fun y2 =>
(LX10_leastRate_6 n x0 x1 x2 y1 y2 h)))
def wX10_leastRate {ρ : Type} (n : Nat) : FN ρ := fun a h k => match a with
  | [x0, x1, x2] => bndp (MX10_leastRate n x0 x1 x2 h) (fun r => k r h)
  | _ => none
def fsX10_leastRate (n : Nat) (ρ : Type) : List (FN ρ) := [wX10_step, wX10_rateAlong, fmin]
def KX10_leastRate (n : Nat) : CT (Int) := [(6, [(0, 14, none), (1, 0, none), (2, 0, none), (3, 0, none), (4, 0, none)], [], fun a c h => match a, c with
    | [x0, x1, x2, x3, x4], [] => LX10_leastRate_6 n x0 x1 x2 x3 x4 h
    | _, _ => none)]
def KX10_leastRate_6 (n : Nat) (bk : Int → Int → Int → Int → Int → Hp → Option (Int)) : CT (Int) := [(6, [(0, 14, none), (1, 0, none), (2, 0, none), (3, 0, none), (4, 0, none)], [], fun a c h => match a, c with
    | [x0, x1, x2, x3, x4], [] => bk x0 x1 x2 x3 x4 h
    | _, _ => none)]
set_option maxRecDepth 100000 in
theorem eBX10_leastRate_6 (n f : Nat) (x0 : Int) (x1 : Int) (x2 : Int) (x3 : Int) (x4 : Int) (h : Hp) : BX10_leastRate_6 n (f + 1) x0 x1 x2 x3 x4 h =
  goAt false (kct (KX10_leastRate_6 n (BX10_leastRate_6 n f))) (fun v _ => some (v)) (fsX10_leastRate n _) sdX10_leastRate 1000 6 [(0, 14, x0), (1, 0, x1), (2, 0, x2), (3, 0, x3), (4, 0, x4)] [] h := rfl
set_option maxRecDepth 100000 in
theorem eMX10_leastRate (n : Nat) (x0 : Int) (x1 : Int) (x2 : Int) (h : Hp) : MX10_leastRate n x0 x1 x2 h =
  goAt false (kct (KX10_leastRate n)) (fun v _ => some (v)) (fsX10_leastRate n _) sdX10_leastRate 1000 0 [(0, 14, x0), (1, 0, x1), (2, 0, x2)] [] h := rfl
def BX10_sharpness_5 (n : Nat) : Nat → Int → Int → Int → Int → Hp → Option (Int)
  | 0, _, _, _, _, _ => none
  | f + 1, x0, x1, x2, x4, h =>
    (if 3 ≤ x4 then
    (bndp (MX11_root n x2) fun r1 =>
    (some r1))
    else
    (bndp (MX10_step x0 (w32 (x1 + 1)) x4 h) fun r2 =>
    (grd (0 ≤ (w32 (x1 + 1)) ∧ (w32 (x1 + 1)) < alen 532)
    (bndp (MX11_share (w64 (r2 * 32768)) (h (x0 + 6) (w32 (x1 + 1)))) fun r3 =>
    (bndp (MX10_step x0 x1 x4 h) fun r4 =>
    (grd (0 ≤ x1 ∧ x1 < alen 532)
    (bndp (MX11_share (w64 (r4 * 32768)) (h (x0 + 6) x1)) fun r5 =>
    (ltt (w32 (r3 - r5)) fun y1 =>
    (bndp (MX11_square y1) fun r6 =>
    (ltt (w64 (x2 + r6)) fun y2 =>
    (ltt (w32 (x4 + 1)) fun y3 =>
    (BX10_sharpness_5 n f x0 x1 y2 y3 h))))))))))))
def LX10_sharpness_5 (n : Nat) (x0 x1 x2 x4 : Int) (h : Hp) : Option (Int) :=
(BX10_sharpness_5 n n x0 x1 x2 x4 h)
def MX10_sharpness (n : Nat) (x0 x1 : Int) (h : Hp) : Option (Int) :=
(ltt 0 fun y1 =>
(ltt 0 fun y2 =>
(LX10_sharpness_5 n x0 x1 y1 y2 h)))
def wX10_sharpness {ρ : Type} (n : Nat) : FN ρ := fun a h k => match a with
  | [x0, x1] => bndp (MX10_sharpness n x0 x1 h) (fun r => k r h)
  | _ => none
def fsX10_sharpness (n : Nat) (ρ : Type) : List (FN ρ) := [wX10_step, wX11_share, wX11_square, wX11_root n]
def KX10_sharpness (n : Nat) : CT (Int) := [(5, [(0, 14, none), (1, 0, none), (2, 1, none), (4, 0, none)], [], fun a c h => match a, c with
    | [x0, x1, x2, x4], [] => LX10_sharpness_5 n x0 x1 x2 x4 h
    | _, _ => none)]
def KX10_sharpness_5 (n : Nat) (bk : Int → Int → Int → Int → Hp → Option (Int)) : CT (Int) := [(5, [(0, 14, none), (1, 0, none), (2, 1, none), (4, 0, none)], [], fun a c h => match a, c with
    | [x0, x1, x2, x4], [] => bk x0 x1 x2 x4 h
    | _, _ => none)]
set_option maxRecDepth 100000 in
theorem eBX10_sharpness_5 (n f : Nat) (x0 : Int) (x1 : Int) (x2 : Int) (x4 : Int) (h : Hp) : BX10_sharpness_5 n (f + 1) x0 x1 x2 x4 h =
  goAt false (kct (KX10_sharpness_5 n (BX10_sharpness_5 n f))) (fun v _ => some (v)) (fsX10_sharpness n _) sdX10_sharpness 1000 5 [(0, 14, x0), (1, 0, x1), (2, 1, x2), (4, 0, x4)] [] h := rfl
set_option maxRecDepth 100000 in
theorem eMX10_sharpness (n : Nat) (x0 : Int) (x1 : Int) (h : Hp) : MX10_sharpness n x0 x1 h =
  goAt false (kct (KX10_sharpness n)) (fun v _ => some (v)) (fsX10_sharpness n _) sdX10_sharpness 1000 0 [(0, 14, x0), (1, 0, x1)] [] h := rfl
def JX10_add_41 (n : Nat) (x0 x1 x2 x3 x4 x5 : Int) (h : Hp) : Option (Hp) :=
(grd (0 ≤ 0 ∧ 0 < alen 50)
(grd (0 ≤ (w32 (x5 + 1)) ∧ (w32 (x5 + 1)) < alen 540)
(ltt (up h ((x0 + 2) + 1 + 0) (w32 (x5 + 1)) x1) fun h1 =>
(grd (0 ≤ 1 ∧ 1 < alen 50)
(grd (0 ≤ (w32 (x5 + 1)) ∧ (w32 (x5 + 1)) < alen 540)
(ltt (up h1 ((x0 + 2) + 1 + 1) (w32 (x5 + 1)) x2) fun h2 =>
(grd (0 ≤ 2 ∧ 2 < alen 50)
(grd (0 ≤ (w32 (x5 + 1)) ∧ (w32 (x5 + 1)) < alen 540)
(ltt (up h2 ((x0 + 2) + 1 + 2) (w32 (x5 + 1)) x3) fun h3 =>
(ltt (up h3 x0 11 (w32 (x5 + 1))) fun h4 =>
(bndp (MX10_step x0 x5 0 h4) fun r1 =>
(bndp (MX11_square r1) fun r2 =>
(bndp (MX10_step x0 x5 1 h4) fun r3 =>
(bndp (MX11_square r3) fun r4 =>
(bndp (MX10_step x0 x5 2 h4) fun r5 =>
(bndp (MX11_square r5) fun r6 =>
(bndp (MX11_root n (w64 ((w64 (r2 + r4)) + r6))) fun r7 =>
(grd (0 ≤ x5 ∧ x5 < alen 532)
(ltt (up h4 (x0 + 6) x5 r7) fun h5 =>
(grd (0 ≤ x5 ∧ x5 < alen 532)
(ltt (up h5 x0 14 (w32 ((h5 x0 14) + (h5 (x0 + 6) x5)))) fun h6 =>
(grd (0 ≤ x5 ∧ x5 < alen 532)
(ltt (up h6 (x0 + 7) x5 (h6 x0 14)) fun h7 =>
(grd (0 ≤ x5 ∧ x5 < alen 532)
(ltt (up h7 (x0 + 8) x5 x4) fun h8 =>
(grd (0 ≤ x5 ∧ x5 < alen 532)
(ltt (up h8 (x0 + 11) x5 (h8 x0 12)) fun h9 =>
(bndp (MX10_leastRate n x0 x5 0 h9) fun r8 =>
(grd (0 ≤ x5 ∧ x5 < alen 532)
(ltt (up h9 (x0 + 9) x5 r8) fun h10 =>
(bndp (MX10_leastRate n x0 x5 3 h10) fun r9 =>
(grd (0 ≤ x5 ∧ x5 < alen 532)
(ltt (up h10 (x0 + 10) x5 r9) fun h11 =>
(if x5 ≤ 0 then
(some h11)
else
(bndp (MX10_sharpness n x0 (w32 (x5 - 1)) h11) fun r10 =>
(grd (0 ≤ (w32 (x5 - 1)) ∧ (w32 (x5 - 1)) < alen 532)
(ltt (up h11 (x0 + 12) (w32 (x5 - 1)) r10) fun h12 =>
(some h12))))))))))))))))))))))))))))))))))))))
def MX10_add (n : Nat) (x0 x1 x2 x3 x4 : Int) (h : Hp) : Option (Hp) :=
(ltt (h x0 11) fun y1 =>
(if 64 ≤ y1 then
(some h)
else
(bndp (MX10_last x0 0 h) fun r1 =>
(if x1 ≠ r1 then
(JX10_add_41 n x0 x1 x2 x3 x4 y1 h)
else
(bndp (MX10_last x0 1 h) fun r2 =>
(if x2 ≠ r2 then
(JX10_add_41 n x0 x1 x2 x3 x4 y1 h)
else
(bndp (MX10_last x0 2 h) fun r3 =>
(if x3 ≠ r3 then
(JX10_add_41 n x0 x1 x2 x3 x4 y1 h)
else
(some h)))))))))
def wX10_add {ρ : Type} (n : Nat) : FN ρ := fun a h k => match a with
  | [x0, x1, x2, x3, x4] => bndh (MX10_add n x0 x1 x2 x3 x4 h) (fun h2 => k 0 h2)
  | _ => none
def fsX10_add (n : Nat) (ρ : Type) : List (FN ρ) := [wX10_last, wX10_step, wX11_square, wX11_root n, wX10_leastRate n, wX10_sharpness n]
def KX10_add (n : Nat) : CT (Hp) := [(41, [(0, 14, none), (1, 0, none), (2, 0, none), (3, 0, none), (4, 0, none), (5, 0, none)], [], fun a c h => match a, c with
    | [x0, x1, x2, x3, x4, x5], [] => JX10_add_41 n x0 x1 x2 x3 x4 x5 h
    | _, _ => none)]
set_option maxRecDepth 100000 in
theorem eJX10_add_41 (n : Nat) (x0 : Int) (x1 : Int) (x2 : Int) (x3 : Int) (x4 : Int) (x5 : Int) (h : Hp) : JX10_add_41 n x0 x1 x2 x3 x4 x5 h =
  goAt false (kct (KX10_add n)) (fun _ h => some (h)) (fsX10_add n _) sdX10_add 1000 41 [(0, 14, x0), (1, 0, x1), (2, 0, x2), (3, 0, x3), (4, 0, x4), (5, 0, x5)] [] h := rfl
set_option maxRecDepth 100000 in
theorem eMX10_add (n : Nat) (x0 : Int) (x1 : Int) (x2 : Int) (x3 : Int) (x4 : Int) (h : Hp) : MX10_add n x0 x1 x2 x3 x4 h =
  goAt false (kct (KX10_add n)) (fun _ h => some (h)) (fsX10_add n _) sdX10_add 1000 0 [(0, 14, x0), (1, 0, x1), (2, 0, x2), (3, 0, x3), (4, 0, x4)] [] h := rfl
def JX6_tellMove_81 (n : Nat) (h : Hp) : Option (Hp) :=
(bndh (MX6_fail 4 (h 29 9) h) fun h1 =>
(some h1))
def BX6_tellMove_95 (n : Nat) : Nat → Int → Int → Hp → Option (Hp)
  | 0, _, _, _ => none
  | f + 1, x1, x2, h =>
    (if (h 30 3) < x2 then
    (some (h))
    else
    (if 33 ≤ x2 then
    (some (h))
    else
    (grd (0 ≤ x2 ∧ x2 < alen 284)
    (grd (0 ≤ x2 ∧ x2 < alen 284)
    (grd (0 ≤ x2 ∧ x2 < alen 284)
    (grd (0 ≤ (w32 (x1 + 5)) ∧ (w32 (x1 + 5)) < alen 1988)
    (bndh (MX10_add n (h 29 7) (h 31 x2) (h 32 x2) (h 33 x2) (h 34 (w32 (x1 + 5))) h) fun h1 =>
    (ltt (w32 (x2 + 1)) fun y1 =>
    (BX6_tellMove_95 n f x1 y1 h1)))))))))
def JX6_tellMove_160 (n : Nat) (h : Hp) : Option (Hp) :=
(ltt (up h (h 29 7) 12 (w32 ((h (h 29 7) 12) + 1))) fun h1 =>
(some h1))
def LX6_tellMove_95 (n : Nat) (x1 x2 : Int) (h : Hp) : Option (Hp) :=
(bndx (BX6_tellMove_95 n n x1 x2 h) fun h1 =>
(JX6_tellMove_160 n h1))
def MX6_tellMove (n : Nat) (h : Hp) : Option (Hp) :=
(bndp (MX6_rowOf (h (h 29 7) 12)) fun r1 =>
(ltt r1 fun y1 =>
(bndh (MX0_lay n (h 29 7) y1 h) fun h1 =>
(bndp (MX0_goBeyond n h1) fun r2 =>
(if r2 = 0 then
(if 40 ≤ (h1 (h1 29 7) 12) then
(JX6_tellMove_81 n h1)
else
(bndp (MX0_goings n h1) fun r3 =>
(if (w32 ((h1 (h1 29 7) 11) + r3)) ≤ 64 then
(ltt 1 fun y2 =>
(LX6_tellMove_95 n y1 y2 h1))
else
(JX6_tellMove_81 n h1))))
else
(bndh (MX6_fail 5 (h1 29 9) h1) fun h2 =>
(some h2)))))))
def wX6_tellMove {ρ : Type} (n : Nat) : FN ρ := fun a h k => match a with
  | [_] => bndh (MX6_tellMove n h) (fun h2 => k 0 h2)
  | _ => none
def fsX6_tellMove (n : Nat) (ρ : Type) : List (FN ρ) := [wX6_rowOf, wX0_lay n, wX0_goBeyond n, wX6_fail, wX0_goings n, wX10_add n]
def KX6_tellMove (n : Nat) : CT (Hp) := [(81, [(0, 10, (some 29))], [], fun a c h => match a, c with
    | [], [] => JX6_tellMove_81 n h
    | _, _ => none),
  (160, [(0, 10, (some 29))], [], fun a c h => match a, c with
    | [], [] => JX6_tellMove_160 n h
    | _, _ => none),
  (95, [(0, 10, (some 29)), (1, 0, none), (2, 0, none)], [], fun a c h => match a, c with
    | [x1, x2], [] => LX6_tellMove_95 n x1 x2 h
    | _, _ => none)]
def KX6_tellMove_95 (n : Nat) (bk : Int → Int → Hp → Option (Hp)) : CT (Hp) := [(95, [(0, 10, (some 29)), (1, 0, none), (2, 0, none)], [], fun a c h => match a, c with
    | [x1, x2], [] => bk x1 x2 h
    | _, _ => none),
  (160, [(0, 10, (some 29))], [], fun a c h => match a, c with
    | [], [] => some (h)
    | _, _ => none)]
set_option maxRecDepth 100000 in
theorem eJX6_tellMove_81 (n : Nat) (h : Hp) : JX6_tellMove_81 n h =
  goAt false (kct (KX6_tellMove n)) (fun _ h => some (h)) (fsX6_tellMove n _) sdX6_tellMove 1000 81 [(0, 10, 29)] [] h := rfl
set_option maxRecDepth 100000 in
theorem eBX6_tellMove_95 (n f : Nat) (x1 : Int) (x2 : Int) (h : Hp) : BX6_tellMove_95 n (f + 1) x1 x2 h =
  goAt false (kct (KX6_tellMove_95 n (BX6_tellMove_95 n f))) (fun _ _ => none) (fsX6_tellMove n _) sdX6_tellMove 1000 95 [(0, 10, 29), (1, 0, x1), (2, 0, x2)] [] h := rfl
set_option maxRecDepth 100000 in
theorem eJX6_tellMove_160 (n : Nat) (h : Hp) : JX6_tellMove_160 n h =
  goAt false (kct (KX6_tellMove n)) (fun _ h => some (h)) (fsX6_tellMove n _) sdX6_tellMove 1000 160 [(0, 10, 29)] [] h := rfl
set_option maxRecDepth 100000 in
theorem eMX6_tellMove (n : Nat) (h : Hp) : MX6_tellMove n h =
  goAt false (kct (KX6_tellMove n)) (fun _ h => some (h)) (fsX6_tellMove n _) sdX6_tellMove 1000 0 [(0, 10, 29)] [] h := rfl
def BX6_tellAgain_87 (n : Nat) : Nat → Int → Int → Int → Int → Int → Int → Hp → Option (Int × Int × Int × Hp)
  | 0, _, _, _, _, _, _, _ => none
  | f + 1, x1, x2, x3, x4, x5, x6, h =>
    (if 6 ≤ x6 then
    (some (x1, x2, x3, h))
    else
    (grd (0 ≤ (w32 (x4 + x6)) ∧ (w32 (x4 + x6)) < alen 1988)
    (grd (0 ≤ (w32 (x5 + x6)) ∧ (w32 (x5 + x6)) < alen 1988)
    (ltt (up h 34 (w32 (x5 + x6)) (h 34 (w32 (x4 + x6)))) fun h1 =>
    (ltt (w32 (x6 + 1)) fun y1 =>
    (BX6_tellAgain_87 n f x1 x2 x3 x4 x5 y1 h1))))))
def JX6_tellAgain_120 (n : Nat) (bk : Int → Int → Int → Hp → Option (Int × Int × Hp)) (x1 x2 x3 : Int) (h : Hp) : Option (Int × Int × Hp) :=
(bndh (MX6_tellMove n h) fun h1 =>
(ltt (w32 (x3 + 1)) fun y1 =>
(bk x1 x2 y1 h1)))
def LX6_tellAgain_87 (n : Nat) (bk : Int → Int → Int → Hp → Option (Int × Int × Hp)) (x1 x2 x3 x4 x5 x6 : Int) (h : Hp) : Option (Int × Int × Hp) :=
(bndx (BX6_tellAgain_87 n n x1 x2 x3 x4 x5 x6 h) fun (e1, e2, e3, h1) =>
(JX6_tellAgain_120 n bk e1 e2 e3 h1))
def BX6_tellAgain_53 (n : Nat) : Nat → Int → Int → Int → Hp → Option (Int × Int × Hp)
  | 0, _, _, _, _ => none
  | f + 1, x1, x2, x3, h =>
    (if x1 ≤ x3 then
    (some (x1, x2, h))
    else
    (if (h 29 8) ≠ (-1) then
    (some (x1, x2, h))
    else
    (bndp (MX6_rowOf x3) fun r1 =>
    (ltt r1 fun y1 =>
    (bndp (MX6_rowOf (h (h 29 7) 12)) fun r2 =>
    (ltt r2 fun y2 =>
    (ltt 0 fun y3 =>
    (LX6_tellAgain_87 n (BX6_tellAgain_53 n f) x1 x2 x3 y1 y2 y3 h))))))))
def JX6_tellAgain_130 (n : Nat) (bk : Int → Int → Hp → Option (Hp)) (x1 x2 : Int) (h : Hp) : Option (Hp) :=
(ltt (w32 (x2 + 1)) fun y1 =>
(bk x1 y1 h))
def LX6_tellAgain_53 (n : Nat) (bk : Int → Int → Hp → Option (Hp)) (x1 x2 x3 : Int) (h : Hp) : Option (Hp) :=
(bndx (BX6_tellAgain_53 n n x1 x2 x3 h) fun (e1, e2, h1) =>
(JX6_tellAgain_130 n bk e1 e2 h1))
def BX6_tellAgain_27 (n : Nat) : Nat → Int → Int → Hp → Option (Hp)
  | 0, _, _, _ => none
  | f + 1, x1, x2, h =>
    (if (h 29 14) ≤ x2 then
    (some h)
    else
    (if (h 29 8) ≠ (-1) then
    (some h)
    else
    (grd (0 ≤ (h 29 13) ∧ (h 29 13) < alen 84)
    (ltt (h 37 (h 29 13)) fun y1 =>
    (LX6_tellAgain_53 n (BX6_tellAgain_27 n f) x1 x2 y1 h)))))
def LX6_tellAgain_27 (n : Nat) (x1 x2 : Int) (h : Hp) : Option (Hp) :=
(BX6_tellAgain_27 n n x1 x2 h)
def MX6_tellAgain (n : Nat) (h : Hp) : Option (Hp) :=
(if (h 29 13) < 0 then
(some h)
else
(if (h 29 13) < 8 then
(ltt (h (h 29 7) 12) fun y1 =>
(ltt 0 fun y2 =>
(LX6_tellAgain_27 n y1 y2 h)))
else
(some h)))
def wX6_tellAgain {ρ : Type} (n : Nat) : FN ρ := fun a h k => match a with
  | [_] => bndh (MX6_tellAgain n h) (fun h2 => k 0 h2)
  | _ => none
def fsX6_tellAgain (n : Nat) (ρ : Type) : List (FN ρ) := [wX6_rowOf, wX6_tellMove n]
def KX6_tellAgain (n : Nat) : CT (Hp) := [(27, [(0, 10, (some 29)), (1, 0, none), (2, 0, none)], [], fun a c h => match a, c with
    | [x1, x2], [] => LX6_tellAgain_27 n x1 x2 h
    | _, _ => none)]
def KX6_tellAgain_87 (n : Nat) (bk : Int → Int → Int → Int → Int → Int → Hp → Option (Int × Int × Int × Hp)) : CT (Int × Int × Int × Hp) := [(87, [(0, 10, (some 29)), (1, 0, none), (2, 0, none), (3, 0, none), (4, 0, none), (5, 0, none), (6, 0, none)], [], fun a c h => match a, c with
    | [x1, x2, x3, x4, x5, x6], [] => bk x1 x2 x3 x4 x5 x6 h
    | _, _ => none),
  (120, [(0, 10, (some 29)), (1, 0, none), (2, 0, none), (3, 0, none)], [], fun a c h => match a, c with
    | [x1, x2, x3], [] => some (x1, x2, x3, h)
    | _, _ => none)]
def KX6_tellAgain_53 (n : Nat) (bk : Int → Int → Int → Hp → Option (Int × Int × Hp)) : CT (Int × Int × Hp) := [(53, [(0, 10, (some 29)), (1, 0, none), (2, 0, none), (3, 0, none)], [], fun a c h => match a, c with
    | [x1, x2, x3], [] => bk x1 x2 x3 h
    | _, _ => none),
  (130, [(0, 10, (some 29)), (1, 0, none), (2, 0, none)], [], fun a c h => match a, c with
    | [x1, x2], [] => some (x1, x2, h)
    | _, _ => none),
  (120, [(0, 10, (some 29)), (1, 0, none), (2, 0, none), (3, 0, none)], [], fun a c h => match a, c with
    | [x1, x2, x3], [] => JX6_tellAgain_120 n bk x1 x2 x3 h
    | _, _ => none),
  (87, [(0, 10, (some 29)), (1, 0, none), (2, 0, none), (3, 0, none), (4, 0, none), (5, 0, none), (6, 0, none)], [], fun a c h => match a, c with
    | [x1, x2, x3, x4, x5, x6], [] => LX6_tellAgain_87 n bk x1 x2 x3 x4 x5 x6 h
    | _, _ => none)]
def KX6_tellAgain_27 (n : Nat) (bk : Int → Int → Hp → Option (Hp)) : CT (Hp) := [(27, [(0, 10, (some 29)), (1, 0, none), (2, 0, none)], [], fun a c h => match a, c with
    | [x1, x2], [] => bk x1 x2 h
    | _, _ => none),
  (130, [(0, 10, (some 29)), (1, 0, none), (2, 0, none)], [], fun a c h => match a, c with
    | [x1, x2], [] => JX6_tellAgain_130 n bk x1 x2 h
    | _, _ => none),
  (53, [(0, 10, (some 29)), (1, 0, none), (2, 0, none), (3, 0, none)], [], fun a c h => match a, c with
    | [x1, x2, x3], [] => LX6_tellAgain_53 n bk x1 x2 x3 h
    | _, _ => none)]
set_option maxRecDepth 100000 in
theorem eBX6_tellAgain_87 (n f : Nat) (x1 : Int) (x2 : Int) (x3 : Int) (x4 : Int) (x5 : Int) (x6 : Int) (h : Hp) : BX6_tellAgain_87 n (f + 1) x1 x2 x3 x4 x5 x6 h =
  goAt false (kct (KX6_tellAgain_87 n (BX6_tellAgain_87 n f))) (fun _ _ => none) (fsX6_tellAgain n _) sdX6_tellAgain 1000 87 [(0, 10, 29), (1, 0, x1), (2, 0, x2), (3, 0, x3), (4, 0, x4), (5, 0, x5), (6, 0, x6)] [] h := rfl
set_option maxRecDepth 100000 in
theorem eJX6_tellAgain_120 (n : Nat) (bk : Int → Int → Int → Hp → Option (Int × Int × Hp)) (x1 : Int) (x2 : Int) (x3 : Int) (h : Hp) : JX6_tellAgain_120 n bk x1 x2 x3 h =
  goAt false (kct (KX6_tellAgain_53 n bk)) (fun _ _ => none) (fsX6_tellAgain n _) sdX6_tellAgain 1000 120 [(0, 10, 29), (1, 0, x1), (2, 0, x2), (3, 0, x3)] [] h := rfl
set_option maxRecDepth 100000 in
theorem eBX6_tellAgain_53 (n f : Nat) (x1 : Int) (x2 : Int) (x3 : Int) (h : Hp) : BX6_tellAgain_53 n (f + 1) x1 x2 x3 h =
  goAt false (kct (KX6_tellAgain_53 n (BX6_tellAgain_53 n f))) (fun _ _ => none) (fsX6_tellAgain n _) sdX6_tellAgain 1000 53 [(0, 10, 29), (1, 0, x1), (2, 0, x2), (3, 0, x3)] [] h := rfl
set_option maxRecDepth 100000 in
theorem eJX6_tellAgain_130 (n : Nat) (bk : Int → Int → Hp → Option (Hp)) (x1 : Int) (x2 : Int) (h : Hp) : JX6_tellAgain_130 n bk x1 x2 h =
  goAt false (kct (KX6_tellAgain_27 n bk)) (fun _ h => some (h)) (fsX6_tellAgain n _) sdX6_tellAgain 1000 130 [(0, 10, 29), (1, 0, x1), (2, 0, x2)] [] h := rfl
set_option maxRecDepth 100000 in
theorem eBX6_tellAgain_27 (n f : Nat) (x1 : Int) (x2 : Int) (h : Hp) : BX6_tellAgain_27 n (f + 1) x1 x2 h =
  goAt false (kct (KX6_tellAgain_27 n (BX6_tellAgain_27 n f))) (fun _ h => some (h)) (fsX6_tellAgain n _) sdX6_tellAgain 1000 27 [(0, 10, 29), (1, 0, x1), (2, 0, x2)] [] h := rfl
set_option maxRecDepth 100000 in
theorem eMX6_tellAgain (n : Nat) (h : Hp) : MX6_tellAgain n h =
  goAt false (kct (KX6_tellAgain n)) (fun _ h => some (h)) (fsX6_tellAgain n _) sdX6_tellAgain 1000 0 [(0, 10, 29)] [] h := rfl
def BX7_find_3 (n : Nat) : Nat → Int → Int → Int → Int → Hp → Option (Int)
  | 0, _, _, _, _, _ => none
  | f + 1, x1, x2, x3, x4, h =>
    (if (h 39 4) ≤ x4 then
    (some (-1))
    else
    (grd (0 ≤ 0 ∧ 0 < alen 50)
    (grd (0 ≤ x4 ∧ x4 < alen 540)
    (if (h (41 + 0) x4) ≠ x1 then
    (ltt (w32 (x4 + 1)) fun y1 =>
    (BX7_find_3 n f x1 x2 x3 y1 h))
    else
    (grd (0 ≤ 1 ∧ 1 < alen 50)
    (grd (0 ≤ x4 ∧ x4 < alen 540)
    (if (h (41 + 1) x4) ≠ x2 then
    (ltt (w32 (x4 + 1)) fun y2 =>
    (BX7_find_3 n f x1 x2 x3 y2 h))
    else
    (grd (0 ≤ 2 ∧ 2 < alen 50)
    (grd (0 ≤ x4 ∧ x4 < alen 540)
    (if (h (41 + 2) x4) ≠ x3 then
    (ltt (w32 (x4 + 1)) fun y3 =>
    (BX7_find_3 n f x1 x2 x3 y3 h))
    else
    (some x4)))))))))))
def LX7_find_3 (n : Nat) (x1 x2 x3 x4 : Int) (h : Hp) : Option (Int) :=
(BX7_find_3 n n x1 x2 x3 x4 h)
def MX7_find (n : Nat) (x1 x2 x3 : Int) (h : Hp) : Option (Int) :=
(ltt 0 fun y1 =>
(LX7_find_3 n x1 x2 x3 y1 h))
def wX7_find {ρ : Type} (n : Nat) : FN ρ := fun a h k => match a with
  | [_, x1, x2, x3] => bndp (MX7_find n x1 x2 x3 h) (fun r => k r h)
  | _ => none
def fsX7_find (n : Nat) (ρ : Type) : List (FN ρ) := []
def KX7_find (n : Nat) : CT (Int) := [(3, [(0, 11, (some 39)), (1, 0, none), (2, 0, none), (3, 0, none), (4, 0, none)], [], fun a c h => match a, c with
    | [x1, x2, x3, x4], [] => LX7_find_3 n x1 x2 x3 x4 h
    | _, _ => none)]
def KX7_find_3 (n : Nat) (bk : Int → Int → Int → Int → Hp → Option (Int)) : CT (Int) := [(3, [(0, 11, (some 39)), (1, 0, none), (2, 0, none), (3, 0, none), (4, 0, none)], [], fun a c h => match a, c with
    | [x1, x2, x3, x4], [] => bk x1 x2 x3 x4 h
    | _, _ => none)]
set_option maxRecDepth 100000 in
theorem eBX7_find_3 (n f : Nat) (x1 : Int) (x2 : Int) (x3 : Int) (x4 : Int) (h : Hp) : BX7_find_3 n (f + 1) x1 x2 x3 x4 h =
  goAt false (kct (KX7_find_3 n (BX7_find_3 n f))) (fun v _ => some (v)) (fsX7_find n _) sdX7_find 1000 3 [(0, 11, 39), (1, 0, x1), (2, 0, x2), (3, 0, x3), (4, 0, x4)] [] h := rfl
set_option maxRecDepth 100000 in
theorem eMX7_find (n : Nat) (x1 : Int) (x2 : Int) (x3 : Int) (h : Hp) : MX7_find n x1 x2 x3 h =
  goAt false (kct (KX7_find n)) (fun v _ => some (v)) (fsX7_find n _) sdX7_find 1000 0 [(0, 11, 39), (1, 0, x1), (2, 0, x2), (3, 0, x3)] [] h := rfl
def MX12_isRight (h : Hp) : Option (Int) :=
(if (h 113 22) ≠ (-1) then
(some 0)
else
(some 1))
def wX12_isRight {ρ : Type} : FN ρ := fun a h k => match a with
  | [_] => bndp (MX12_isRight h) (fun r => k r h)
  | _ => none
def fsX12_isRight (ρ : Type) : List (FN ρ) := []
def KX12_isRight  : CT (Int) := []
set_option maxRecDepth 100000 in
theorem eMX12_isRight (h : Hp) : MX12_isRight h =
  goAt false (kct (KX12_isRight)) (fun v _ => some (v)) (fsX12_isRight _) sdX12_isRight 1000 0 [(0, 16, 113)] [] h := rfl
def MX12_sign (h : Hp) : Option (Int) :=
(if (h 113 20) ≤ (h 113 21) then
(some (-1))
else
(grd (0 ≤ (h 113 21) ∧ (h 113 21) < alen 3223)
(some (iand (h 127 (h 113 21)) 255))))
def wX12_sign {ρ : Type} : FN ρ := fun a h k => match a with
  | [_] => bndp (MX12_sign h) (fun r => k r h)
  | _ => none
def fsX12_sign (ρ : Type) : List (FN ρ) := []
def KX12_sign  : CT (Int) := []
set_option maxRecDepth 100000 in
theorem eMX12_sign (h : Hp) : MX12_sign h =
  goAt false (kct (KX12_sign)) (fun v _ => some (v)) (fsX12_sign _) sdX12_sign 1000 0 [(0, 16, 113)] [] h := rfl
def JX12_next_18 (n : Nat) (bk : Hp → Option (Int × Hp)) (h : Hp) : Option (Int × Hp) :=
(ltt (up h 113 21 (w32 ((h 113 21) + 1))) fun h1 =>
(bk h1))
def BX12_next_0 (n : Nat) : Nat → Hp → Option (Int × Hp)
  | 0, _ => none
  | f + 1, h =>
    (bndp (MX12_sign h) fun r1 =>
    (if r1 = 32 then
    (JX12_next_18 n (BX12_next_0 n f) h)
    else
    (bndp (MX12_sign h) fun r2 =>
    (if r2 ≠ 10 then
    (bndp (MX12_sign h) fun r3 =>
    (some (r3, h)))
    else
    (JX12_next_18 n (BX12_next_0 n f) h)))))
def LX12_next_0 (n : Nat) (h : Hp) : Option (Int × Hp) :=
(BX12_next_0 n n h)
def MX12_next (n : Nat) (h : Hp) : Option (Int × Hp) :=
(LX12_next_0 n h)
def wX12_next {ρ : Type} (n : Nat) : FN ρ := fun a h k => match a with
  | [_] => bnd (MX12_next n h) (fun r h2 => k r h2)
  | _ => none
def fsX12_next (n : Nat) (ρ : Type) : List (FN ρ) := [wX12_sign]
def KX12_next (n : Nat) : CT (Int × Hp) := [(0, [(0, 16, (some 113))], [], fun a c h => match a, c with
    | [], [] => LX12_next_0 n h
    | _, _ => none)]
def KX12_next_0 (n : Nat) (bk : Hp → Option (Int × Hp)) : CT (Int × Hp) := [(0, [(0, 16, (some 113))], [], fun a c h => match a, c with
    | [], [] => bk h
    | _, _ => none),
  (18, [(0, 16, (some 113))], [], fun a c h => match a, c with
    | [], [] => JX12_next_18 n bk h
    | _, _ => none)]
set_option maxRecDepth 100000 in
theorem eJX12_next_18 (n : Nat) (bk : Hp → Option (Int × Hp)) (h : Hp) : JX12_next_18 n bk h =
  goAt false (kct (KX12_next_0 n bk)) (fun v h => some ((v, h))) (fsX12_next n _) sdX12_next 1000 18 [(0, 16, 113)] [] h := rfl
set_option maxRecDepth 100000 in
theorem eBX12_next_0 (n f : Nat) (h : Hp) : BX12_next_0 n (f + 1) h =
  goAt false (kct (KX12_next_0 n (BX12_next_0 n f))) (fun v h => some ((v, h))) (fsX12_next n _) sdX12_next 1000 0 [(0, 16, 113)] [] h := rfl
def MX12_in (x0 x2 x4 : Int) : Option (Int) :=
(if (lcp x0 x2) < 0 then
(some 0)
else
(if 0 < (lcp x0 x4) then
(some 0)
else
(some 1)))
def wX12_in {ρ : Type} : FN ρ := fun a h k => match a with
  | [x0, x2, x4] => bndp (MX12_in x0 x2 x4) (fun r => k r h)
  | _ => none
def fsX12_in (ρ : Type) : List (FN ρ) := []
def KX12_in  : CT (Int) := []
set_option maxRecDepth 100000 in
theorem eMX12_in (x0 : Int) (x2 : Int) (x4 : Int) (h : Hp) : MX12_in x0 x2 x4 =
  goAt false (kct (KX12_in)) (fun v _ => some (v)) (fsX12_in _) sdX12_in 1000 0 [(0, 1, x0), (2, 1, x2), (4, 1, x4)] [] h := rfl
def MX12_isDigit (h : Hp) : Option (Int) :=
(bndp (MX12_sign h) fun r1 =>
(bndp (MX12_in r1 48 57) fun r2 =>
(some r2)))
def wX12_isDigit {ρ : Type} : FN ρ := fun a h k => match a with
  | [_] => bndp (MX12_isDigit h) (fun r => k r h)
  | _ => none
def fsX12_isDigit (ρ : Type) : List (FN ρ) := [wX12_sign, wX12_in]
def KX12_isDigit  : CT (Int) := []
set_option maxRecDepth 100000 in
theorem eMX12_isDigit (h : Hp) : MX12_isDigit h =
  goAt false (kct (KX12_isDigit)) (fun v _ => some (v)) (fsX12_isDigit _) sdX12_isDigit 1000 0 [(0, 16, 113)] [] h := rfl
def MX12_fails (x1 x2 : Int) (h : Hp) : Option (Hp) :=
(if (h 113 22) ≠ (-1) then
(some h)
else
(ltt (up h 113 22 (w32 ((w32 (8 * x2)) + x1))) fun h1 =>
(some h1)))
def wX12_fails {ρ : Type} : FN ρ := fun a h k => match a with
  | [_, x1, x2] => bndh (MX12_fails x1 x2 h) (fun h2 => k 0 h2)
  | _ => none
def fsX12_fails (ρ : Type) : List (FN ρ) := []
def KX12_fails  : CT (Hp) := []
set_option maxRecDepth 100000 in
theorem eMX12_fails (x1 : Int) (x2 : Int) (h : Hp) : MX12_fails x1 x2 h =
  goAt false (kct (KX12_fails)) (fun _ h => some (h)) (fsX12_fails _) sdX12_fails 1000 0 [(0, 16, 113), (1, 0, x1), (2, 0, x2)] [] h := rfl
def BX12_number_68 (n : Nat) : Nat → Int → Int → Int → Int → Hp → Option (Int × Int × Int × Int × Hp)
  | 0, _, _, _, _, _ => none
  | f + 1, x1, x2, x3, x4, h =>
    (bndp (MX12_isDigit h) fun r1 =>
    (if r1 = 0 then
    (some (x1, x2, x3, x4, h))
    else
    (bndp (MX12_sign h) fun r2 =>
    (ltt (min 10000000 (w32 ((w32 ((w32 (10 * x4)) + r2)) - 48))) fun y1 =>
    (ltt (up h 113 21 (w32 ((h 113 21) + 1))) fun h1 =>
    (BX12_number_68 n f x1 x2 x3 y1 h1))))))
def JX12_number_123 (n : Nat) (x1 x2 z0 : Int) (h : Hp) : Option (Int × Hp) :=
(ltt z0 fun y1 =>
(bndp (MX12_in y1 x1 x2) fun r1 =>
(if r1 ≠ 0 then
(some (y1, h))
else
(bndh (MX12_fails 2 (h 113 23) h) fun h1 =>
(some (y1, h1))))))
def JX12_number_109 (n : Nat) (x1 x2 x3 x4 : Int) (h : Hp) : Option (Int × Hp) :=
(if x3 ≠ 45 then
(JX12_number_123 n x1 x2 x4 h)
else
(JX12_number_123 n x1 x2 (w32 (-x4)) h))
def LX12_number_68 (n : Nat) (x1 x2 x3 x4 : Int) (h : Hp) : Option (Int × Hp) :=
(bndx (BX12_number_68 n n x1 x2 x3 x4 h) fun (e1, e2, e3, e4, h1) =>
(JX12_number_109 n e1 e2 e3 e4 h1))
def JX12_number_39 (n : Nat) (x1 x2 x3 : Int) (h : Hp) : Option (Int × Hp) :=
(ltt (up h 113 23 (h 113 21)) fun h1 =>
(bndp (MX12_isDigit h1) fun r1 =>
(if r1 ≠ 0 then
(ltt 0 fun y1 =>
(LX12_number_68 n x1 x2 x3 y1 h1))
else
(bndh (MX12_fails 1 (h1 113 21) h1) fun h2 =>
(some (0, h2))))))
def MX12_number (n : Nat) (x1 x2 : Int) (h : Hp) : Option (Int × Hp) :=
(bndp (MX12_isRight h) fun r1 =>
(if r1 ≠ 0 then
(bnd (MX12_next n h) fun r2 h1 =>
(ltt r2 fun y1 =>
(if y1 ≠ 45 then
(JX12_number_39 n x1 x2 y1 h1)
else
(if 0 ≤ x1 then
(JX12_number_39 n x1 x2 y1 h1)
else
(ltt (up h1 113 21 (w32 ((h1 113 21) + 1))) fun h2 =>
(bnd (MX12_next n h2) fun r3 h3 =>
(JX12_number_39 n x1 x2 y1 h3)))))))
else
(some (0, h))))
def wX12_number {ρ : Type} (n : Nat) : FN ρ := fun a h k => match a with
  | [_, x1, x2] => bnd (MX12_number n x1 x2 h) (fun r h2 => k r h2)
  | _ => none
def fsX12_number (n : Nat) (ρ : Type) : List (FN ρ) := [wX12_isRight, wX12_next n, wX12_isDigit, wX12_fails, wX12_sign, fmin, wX12_in]
def KX12_number (n : Nat) : CT (Int × Hp) := [(123, [(0, 16, (some 113)), (1, 0, none), (2, 0, none)], [(0, none)], fun a c h => match a, c with
    | [x1, x2], [z0] => JX12_number_123 n x1 x2 z0 h
    | _, _ => none),
  (109, [(0, 16, (some 113)), (1, 0, none), (2, 0, none), (3, 0, none), (4, 0, none)], [], fun a c h => match a, c with
    | [x1, x2, x3, x4], [] => JX12_number_109 n x1 x2 x3 x4 h
    | _, _ => none),
  (68, [(0, 16, (some 113)), (1, 0, none), (2, 0, none), (3, 0, none), (4, 0, none)], [], fun a c h => match a, c with
    | [x1, x2, x3, x4], [] => LX12_number_68 n x1 x2 x3 x4 h
    | _, _ => none),
  (39, [(0, 16, (some 113)), (1, 0, none), (2, 0, none), (3, 0, none)], [], fun a c h => match a, c with
    | [x1, x2, x3], [] => JX12_number_39 n x1 x2 x3 h
    | _, _ => none)]
def KX12_number_68 (n : Nat) (bk : Int → Int → Int → Int → Hp → Option (Int × Int × Int × Int × Hp)) : CT (Int × Int × Int × Int × Hp) := [(68, [(0, 16, (some 113)), (1, 0, none), (2, 0, none), (3, 0, none), (4, 0, none)], [], fun a c h => match a, c with
    | [x1, x2, x3, x4], [] => bk x1 x2 x3 x4 h
    | _, _ => none),
  (109, [(0, 16, (some 113)), (1, 0, none), (2, 0, none), (3, 0, none), (4, 0, none)], [], fun a c h => match a, c with
    | [x1, x2, x3, x4], [] => some (x1, x2, x3, x4, h)
    | _, _ => none)]
set_option maxRecDepth 100000 in
theorem eBX12_number_68 (n f : Nat) (x1 : Int) (x2 : Int) (x3 : Int) (x4 : Int) (h : Hp) : BX12_number_68 n (f + 1) x1 x2 x3 x4 h =
  goAt false (kct (KX12_number_68 n (BX12_number_68 n f))) (fun _ _ => none) (fsX12_number n _) sdX12_number 1000 68 [(0, 16, 113), (1, 0, x1), (2, 0, x2), (3, 0, x3), (4, 0, x4)] [] h := rfl
set_option maxRecDepth 100000 in
theorem eJX12_number_123 (n : Nat) (x1 : Int) (x2 : Int) (z0 : Int) (h : Hp) : JX12_number_123 n x1 x2 z0 h =
  goAt false (kct (KX12_number n)) (fun v h => some ((v, h))) (fsX12_number n _) sdX12_number 1000 123 [(0, 16, 113), (1, 0, x1), (2, 0, x2)] [(0, z0)] h := rfl
set_option maxRecDepth 100000 in
theorem eJX12_number_109 (n : Nat) (x1 : Int) (x2 : Int) (x3 : Int) (x4 : Int) (h : Hp) : JX12_number_109 n x1 x2 x3 x4 h =
  goAt false (kct (KX12_number n)) (fun v h => some ((v, h))) (fsX12_number n _) sdX12_number 1000 109 [(0, 16, 113), (1, 0, x1), (2, 0, x2), (3, 0, x3), (4, 0, x4)] [] h := rfl
set_option maxRecDepth 100000 in
theorem eJX12_number_39 (n : Nat) (x1 : Int) (x2 : Int) (x3 : Int) (h : Hp) : JX12_number_39 n x1 x2 x3 h =
  goAt false (kct (KX12_number n)) (fun v h => some ((v, h))) (fsX12_number n _) sdX12_number 1000 39 [(0, 16, 113), (1, 0, x1), (2, 0, x2), (3, 0, x3)] [] h := rfl
set_option maxRecDepth 100000 in
theorem eMX12_number (n : Nat) (x1 : Int) (x2 : Int) (h : Hp) : MX12_number n x1 x2 h =
  goAt false (kct (KX12_number n)) (fun v h => some ((v, h))) (fsX12_number n _) sdX12_number 1000 0 [(0, 16, 113), (1, 0, x1), (2, 0, x2)] [] h := rfl
def MX12_square (x0 : Int) : Option (Int) :=
(some (w64 (x0 * x0)))
def wX12_square {ρ : Type} : FN ρ := fun a h k => match a with
  | [x0] => bndp (MX12_square x0) (fun r => k r h)
  | _ => none
def fsX12_square (ρ : Type) : List (FN ρ) := []
def KX12_square  : CT (Int) := []
set_option maxRecDepth 100000 in
theorem eMX12_square (x0 : Int) (h : Hp) : MX12_square x0 =
  goAt false (kct (KX12_square)) (fun v _ => some (v)) (fsX12_square _) sdX12_square 1000 0 [(0, 1, x0)] [] h := rfl
def BX12_root_7 (n : Nat) : Nat → Int → Int → Int → Option (Int)
  | 0, _, _, _ => none
  | f + 1, x0, x2, x4 =>
    (if 0 ≤ (lcp x2 x4) then
    (some (w32 x2))
    else
    (grd (¬ 2 = 0)
    (ltt (w64 (Int.tdiv (w64 ((w64 (x2 + x4)) + 1)) 2)) fun y1 =>
    (if 0 < (lcp (w64 (y1 * y1)) x0) then
    (ltt (w64 (y1 - 1)) fun y2 =>
    (BX12_root_7 n f x0 x2 y2))
    else
    (ltt y1 fun y3 =>
    (BX12_root_7 n f x0 y3 x4))))))
def LX12_root_7 (n : Nat) (x0 x2 x4 : Int) : Option (Int) :=
(BX12_root_7 n n x0 x2 x4)
def MX12_root (n : Nat) (x0 : Int) : Option (Int) :=
(ltt 0 fun y1 =>
(ltt 3037000499 fun y2 =>
(LX12_root_7 n x0 y1 y2)))
def wX12_root {ρ : Type} (n : Nat) : FN ρ := fun a h k => match a with
  | [x0] => bndp (MX12_root n x0) (fun r => k r h)
  | _ => none
def fsX12_root (n : Nat) (ρ : Type) : List (FN ρ) := []
def KX12_root (n : Nat) : CT (Int) := [(7, [(0, 1, none), (2, 1, none), (4, 1, none)], [], fun a c _ => match a, c with
    | [x0, x2, x4], [] => LX12_root_7 n x0 x2 x4
    | _, _ => none)]
def KX12_root_7 (n : Nat) (bk : Int → Int → Int → Option (Int)) : CT (Int) := [(7, [(0, 1, none), (2, 1, none), (4, 1, none)], [], fun a c _ => match a, c with
    | [x0, x2, x4], [] => bk x0 x2 x4
    | _, _ => none)]
set_option maxRecDepth 100000 in
theorem eBX12_root_7 (n f : Nat) (x0 : Int) (x2 : Int) (x4 : Int) (h : Hp) : BX12_root_7 n (f + 1) x0 x2 x4 =
  goAt false (kct (KX12_root_7 n (BX12_root_7 n f))) (fun v _ => some (v)) (fsX12_root n _) sdX12_root 1000 7 [(0, 1, x0), (2, 1, x2), (4, 1, x4)] [] h := rfl
set_option maxRecDepth 100000 in
theorem eMX12_root (n : Nat) (x0 : Int) (h : Hp) : MX12_root n x0 =
  goAt false (kct (KX12_root n)) (fun v _ => some (v)) (fsX12_root n _) sdX12_root 1000 0 [(0, 1, x0)] [] h := rfl
def MX12_bulge (n : Nat) (x1 : Int) (h : Hp) : Option (Int) :=
(grd (0 ≤ 0 ∧ 0 < alen 285)
(grd (0 ≤ 1 ∧ 1 < alen 285)
(bndp (MX12_square (w64 ((h 129 0) + (h 129 1)))) fun r1 =>
(grd (0 ≤ 0 ∧ 0 < alen 285)
(grd (0 ≤ 1 ∧ 1 < alen 285)
(bndp (MX12_square (w64 ((h 130 0) + (h 130 1)))) fun r2 =>
(bndp (MX12_root n (w64 (r1 + r2))) fun r3 =>
(grd (¬ 2 = 0)
(some (w32 (x1 - (w32 (Int.tdiv r3 2)))))))))))))
def wX12_bulge {ρ : Type} (n : Nat) : FN ρ := fun a h k => match a with
  | [_, x1] => bndp (MX12_bulge n x1 h) (fun r => k r h)
  | _ => none
def fsX12_bulge (n : Nat) (ρ : Type) : List (FN ρ) := [wX12_square, wX12_root n]
def KX12_bulge (n : Nat) : CT (Int) := []
set_option maxRecDepth 100000 in
theorem eMX12_bulge (n : Nat) (x1 : Int) (h : Hp) : MX12_bulge n x1 h =
  goAt false (kct (KX12_bulge n)) (fun v _ => some (v)) (fsX12_bulge n _) sdX12_bulge 1000 0 [(0, 16, 113), (1, 0, x1)] [] h := rfl
def BX12_halves_5 (n : Nat) : Nat → Int → Int → Hp → Option (Int × Hp)
  | 0, _, _, _ => none
  | f + 1, x1, x2, h =>
    (if x2 ≤ 0 then
    (some (x1, h))
    else
    (grd (0 ≤ x2 ∧ x2 < alen 285)
    (grd (0 ≤ (w32 (2 * x2)) ∧ (w32 (2 * x2)) < alen 285)
    (ltt (up h 129 (w32 (2 * x2)) (h 129 x2)) fun h1 =>
    (grd (0 ≤ x2 ∧ x2 < alen 285)
    (grd (0 ≤ (w32 (2 * x2)) ∧ (w32 (2 * x2)) < alen 285)
    (ltt (up h1 130 (w32 (2 * x2)) (h1 130 x2)) fun h2 =>
    (ltt (w32 (x2 + (-1))) fun y1 =>
    (BX12_halves_5 n f x1 y1 h2)))))))))
def BX12_halves_55 (n : Nat) : Nat → Int → Int → Hp → Option (Hp)
  | 0, _, _, _ => none
  | f + 1, x1, x2, h =>
    (if (h 113 30) ≤ x2 then
    (some h)
    else
    (grd (0 ≤ (w32 (x2 - 1)) ∧ (w32 (x2 - 1)) < alen 285)
    (grd (0 ≤ (w32 (x2 + 1)) ∧ (w32 (x2 + 1)) < alen 285)
    (ltt (w64 ((h 129 (w32 (x2 - 1))) + (h 129 (w32 (x2 + 1))))) fun y1 =>
    (grd (0 ≤ (w32 (x2 - 1)) ∧ (w32 (x2 - 1)) < alen 285)
    (grd (0 ≤ (w32 (x2 + 1)) ∧ (w32 (x2 + 1)) < alen 285)
    (ltt (w64 ((h 130 (w32 (x2 - 1))) + (h 130 (w32 (x2 + 1))))) fun y2 =>
    (bndp (MX12_root n (w64 ((w64 (y1 * y1)) + (w64 (y2 * y2))))) fun r1 =>
    (ltt r1 fun y3 =>
    (grd (¬ y3 = 0)
    (grd (0 ≤ x2 ∧ x2 < alen 285)
    (ltt (up h 129 x2 (w64 (Int.tdiv (w64 (y1 * x1)) y3))) fun h1 =>
    (grd (¬ y3 = 0)
    (grd (0 ≤ x2 ∧ x2 < alen 285)
    (ltt (up h1 130 x2 (w64 (Int.tdiv (w64 (y2 * x1)) y3))) fun h2 =>
    (ltt (w32 (x2 + 2)) fun y4 =>
    (BX12_halves_55 n f x1 y4 h2)))))))))))))))))
def LX12_halves_55 (n : Nat) (x1 x2 : Int) (h : Hp) : Option (Hp) :=
(BX12_halves_55 n n x1 x2 h)
def JX12_halves_43 (n : Nat) (x1 : Int) (h : Hp) : Option (Hp) :=
(ltt (up h 113 30 (w32 ((h 113 30) * 2))) fun h1 =>
(ltt 1 fun y1 =>
(LX12_halves_55 n x1 y1 h1)))
def LX12_halves_5 (n : Nat) (x1 x2 : Int) (h : Hp) : Option (Hp) :=
(bndx (BX12_halves_5 n n x1 x2 h) fun (e1, h1) =>
(JX12_halves_43 n e1 h1))
def MX12_halves (n : Nat) (x1 : Int) (h : Hp) : Option (Hp) :=
(ltt (h 113 30) fun y1 =>
(LX12_halves_5 n x1 y1 h))
def wX12_halves {ρ : Type} (n : Nat) : FN ρ := fun a h k => match a with
  | [_, x1] => bndh (MX12_halves n x1 h) (fun h2 => k 0 h2)
  | _ => none
def fsX12_halves (n : Nat) (ρ : Type) : List (FN ρ) := [wX12_root n]
def KX12_halves (n : Nat) : CT (Hp) := [(55, [(0, 16, (some 113)), (1, 0, none), (2, 0, none)], [], fun a c h => match a, c with
    | [x1, x2], [] => LX12_halves_55 n x1 x2 h
    | _, _ => none),
  (43, [(0, 16, (some 113)), (1, 0, none)], [], fun a c h => match a, c with
    | [x1], [] => JX12_halves_43 n x1 h
    | _, _ => none),
  (5, [(0, 16, (some 113)), (1, 0, none), (2, 0, none)], [], fun a c h => match a, c with
    | [x1, x2], [] => LX12_halves_5 n x1 x2 h
    | _, _ => none)]
def KX12_halves_5 (n : Nat) (bk : Int → Int → Hp → Option (Int × Hp)) : CT (Int × Hp) := [(5, [(0, 16, (some 113)), (1, 0, none), (2, 0, none)], [], fun a c h => match a, c with
    | [x1, x2], [] => bk x1 x2 h
    | _, _ => none),
  (43, [(0, 16, (some 113)), (1, 0, none)], [], fun a c h => match a, c with
    | [x1], [] => some (x1, h)
    | _, _ => none)]
def KX12_halves_55 (n : Nat) (bk : Int → Int → Hp → Option (Hp)) : CT (Hp) := [(55, [(0, 16, (some 113)), (1, 0, none), (2, 0, none)], [], fun a c h => match a, c with
    | [x1, x2], [] => bk x1 x2 h
    | _, _ => none)]
set_option maxRecDepth 100000 in
theorem eBX12_halves_5 (n f : Nat) (x1 : Int) (x2 : Int) (h : Hp) : BX12_halves_5 n (f + 1) x1 x2 h =
  goAt false (kct (KX12_halves_5 n (BX12_halves_5 n f))) (fun _ _ => none) (fsX12_halves n _) sdX12_halves 1000 5 [(0, 16, 113), (1, 0, x1), (2, 0, x2)] [] h := rfl
set_option maxRecDepth 100000 in
theorem eBX12_halves_55 (n f : Nat) (x1 : Int) (x2 : Int) (h : Hp) : BX12_halves_55 n (f + 1) x1 x2 h =
  goAt false (kct (KX12_halves_55 n (BX12_halves_55 n f))) (fun _ h => some (h)) (fsX12_halves n _) sdX12_halves 1000 55 [(0, 16, 113), (1, 0, x1), (2, 0, x2)] [] h := rfl
set_option maxRecDepth 100000 in
theorem eJX12_halves_43 (n : Nat) (x1 : Int) (h : Hp) : JX12_halves_43 n x1 h =
  goAt false (kct (KX12_halves n)) (fun _ h => some (h)) (fsX12_halves n _) sdX12_halves 1000 43 [(0, 16, 113), (1, 0, x1)] [] h := rfl
set_option maxRecDepth 100000 in
theorem eMX12_halves (n : Nat) (x1 : Int) (h : Hp) : MX12_halves n x1 h =
  goAt false (kct (KX12_halves n)) (fun _ h => some (h)) (fsX12_halves n _) sdX12_halves 1000 0 [(0, 16, 113), (1, 0, x1)] [] h := rfl
def BX12_comesTo_164 (n : Nat) : Nat → Int → Hp → Option (Hp)
  | 0, _, _ => none
  | f + 1, x5, h =>
    (if 3 ≤ x5 then
    (some h)
    else
    (grd (0 ≤ x5 ∧ x5 < alen 44)
    (grd (0 ≤ (w32 ((w32 (3 * (h 113 3))) + x5)) ∧ (w32 ((w32 (3 * (h 113 3))) + x5)) < alen 1580)
    (ltt (up h 119 (w32 ((w32 (3 * (h 113 3))) + x5)) (h 128 x5)) fun h1 =>
    (ltt (w32 (x5 + 1)) fun y1 =>
    (BX12_comesTo_164 n f y1 h1))))))
def LX12_comesTo_164 (n : Nat) (x5 : Int) (h : Hp) : Option (Hp) :=
(BX12_comesTo_164 n n x5 h)
def JX12_comesTo_86 (n : Nat) (x1 x2 x3 x4 z1 : Int) (h : Hp) : Option (Hp) :=
(grd (z1 = 0 ∨ z1 = 1)
(ltt (up h 113 26 z1) fun h1 =>
(grd (0 ≤ 0 ∧ 0 < alen 44)
(ltt (up h1 128 0 x1) fun h2 =>
(grd (0 ≤ 1 ∧ 1 < alen 44)
(ltt (up h2 128 1 x2) fun h3 =>
(grd (0 ≤ 2 ∧ 2 < alen 44)
(ltt (up h3 128 2 x3) fun h4 =>
(if (h4 113 3) ≠ 64 then
(grd (0 ≤ (h4 113 3) ∧ (h4 113 3) < alen 532)
(ltt (up h4 120 (h4 113 3) x4) fun h5 =>
(grd (0 ≤ (h5 113 3) ∧ (h5 113 3) < alen 532)
(ltt (up h5 121 (h5 113 3) (w32 ((h5 113 2) - 1))) fun h6 =>
(ltt (up h6 113 3 (w32 ((h6 113 3) + 1))) fun h7 =>
(ltt 0 fun y1 =>
(LX12_comesTo_164 n y1 h7)))))))
else
(grd (1 = 0 ∨ 1 = 1)
(ltt (up h4 113 27 1) fun h8 =>
(some h8))))))))))))
def JX12_comesTo_81 (n : Nat) (x1 x2 x3 x4 : Int) (h : Hp) : Option (Hp) :=
(JX12_comesTo_86 n x1 x2 x3 x4 1 h)
def JX12_comesTo_31 (n : Nat) (x1 x2 x3 x4 : Int) (h : Hp) : Option (Hp) :=
(if (h 113 26) ≠ 0 then
(JX12_comesTo_81 n x1 x2 x3 x4 h)
else
(bndp (MX12_in x1 (-100000) 100000) fun r1 =>
(if r1 = 0 then
(JX12_comesTo_81 n x1 x2 x3 x4 h)
else
(bndp (MX12_in x2 (-100000) 100000) fun r2 =>
(if r2 = 0 then
(JX12_comesTo_81 n x1 x2 x3 x4 h)
else
(bndp (MX12_in x3 (-100000) 100000) fun r3 =>
(if r3 ≠ 0 then
(JX12_comesTo_86 n x1 x2 x3 x4 0 h)
else
(JX12_comesTo_81 n x1 x2 x3 x4 h))))))))
def MX12_comesTo (n : Nat) (x1 x2 x3 x4 : Int) (h : Hp) : Option (Hp) :=
(grd (0 ≤ 0 ∧ 0 < alen 44)
(if x1 ≠ (h 128 0) then
(JX12_comesTo_31 n x1 x2 x3 x4 h)
else
(grd (0 ≤ 1 ∧ 1 < alen 44)
(if x2 ≠ (h 128 1) then
(JX12_comesTo_31 n x1 x2 x3 x4 h)
else
(grd (0 ≤ 2 ∧ 2 < alen 44)
(if x3 ≠ (h 128 2) then
(JX12_comesTo_31 n x1 x2 x3 x4 h)
else
(some h)))))))
def wX12_comesTo {ρ : Type} (n : Nat) : FN ρ := fun a h k => match a with
  | [_, x1, x2, x3, x4] => bndh (MX12_comesTo n x1 x2 x3 x4 h) (fun h2 => k 0 h2)
  | _ => none
def fsX12_comesTo (n : Nat) (ρ : Type) : List (FN ρ) := [wX12_in]
def KX12_comesTo (n : Nat) : CT (Hp) := [(164, [(0, 16, (some 113)), (5, 0, none)], [], fun a c h => match a, c with
    | [x5], [] => LX12_comesTo_164 n x5 h
    | _, _ => none),
  (86, [(0, 16, (some 113)), (1, 0, none), (2, 0, none), (3, 0, none), (4, 0, none)], [(0, none), (16, (some 113))], fun a c h => match a, c with
    | [x1, x2, x3, x4], [z1] => JX12_comesTo_86 n x1 x2 x3 x4 z1 h
    | _, _ => none),
  (81, [(0, 16, (some 113)), (1, 0, none), (2, 0, none), (3, 0, none), (4, 0, none)], [(16, (some 113))], fun a c h => match a, c with
    | [x1, x2, x3, x4], [] => JX12_comesTo_81 n x1 x2 x3 x4 h
    | _, _ => none),
  (31, [(0, 16, (some 113)), (1, 0, none), (2, 0, none), (3, 0, none), (4, 0, none)], [], fun a c h => match a, c with
    | [x1, x2, x3, x4], [] => JX12_comesTo_31 n x1 x2 x3 x4 h
    | _, _ => none)]
def KX12_comesTo_164 (n : Nat) (bk : Int → Hp → Option (Hp)) : CT (Hp) := [(164, [(0, 16, (some 113)), (5, 0, none)], [], fun a c h => match a, c with
    | [x5], [] => bk x5 h
    | _, _ => none)]
set_option maxRecDepth 100000 in
theorem eBX12_comesTo_164 (n f : Nat) (x5 : Int) (h : Hp) : BX12_comesTo_164 n (f + 1) x5 h =
  goAt false (kct (KX12_comesTo_164 n (BX12_comesTo_164 n f))) (fun _ h => some (h)) (fsX12_comesTo n _) sdX12_comesTo 1000 164 [(0, 16, 113), (5, 0, x5)] [] h := rfl
set_option maxRecDepth 100000 in
theorem eJX12_comesTo_86 (n : Nat) (x1 : Int) (x2 : Int) (x3 : Int) (x4 : Int) (z1 : Int) (h : Hp) : JX12_comesTo_86 n x1 x2 x3 x4 z1 h =
  goAt false (kct (KX12_comesTo n)) (fun _ h => some (h)) (fsX12_comesTo n _) sdX12_comesTo 1000 86 [(0, 16, 113), (1, 0, x1), (2, 0, x2), (3, 0, x3), (4, 0, x4)] [(0, z1), (16, 113)] h := rfl
set_option maxRecDepth 100000 in
theorem eJX12_comesTo_81 (n : Nat) (x1 : Int) (x2 : Int) (x3 : Int) (x4 : Int) (h : Hp) : JX12_comesTo_81 n x1 x2 x3 x4 h =
  goAt false (kct (KX12_comesTo n)) (fun _ h => some (h)) (fsX12_comesTo n _) sdX12_comesTo 1000 81 [(0, 16, 113), (1, 0, x1), (2, 0, x2), (3, 0, x3), (4, 0, x4)] [(16, 113)] h := rfl
set_option maxRecDepth 100000 in
theorem eJX12_comesTo_31 (n : Nat) (x1 : Int) (x2 : Int) (x3 : Int) (x4 : Int) (h : Hp) : JX12_comesTo_31 n x1 x2 x3 x4 h =
  goAt false (kct (KX12_comesTo n)) (fun _ h => some (h)) (fsX12_comesTo n _) sdX12_comesTo 1000 31 [(0, 16, 113), (1, 0, x1), (2, 0, x2), (3, 0, x3), (4, 0, x4)] [] h := rfl
set_option maxRecDepth 100000 in
theorem eMX12_comesTo (n : Nat) (x1 : Int) (x2 : Int) (x3 : Int) (x4 : Int) (h : Hp) : MX12_comesTo n x1 x2 x3 x4 h =
  goAt false (kct (KX12_comesTo n)) (fun _ h => some (h)) (fsX12_comesTo n _) sdX12_comesTo 1000 0 [(0, 16, 113), (1, 0, x1), (2, 0, x2), (3, 0, x3), (4, 0, x4)] [] h := rfl
def JX12_turns_132 (n : Nat) (bk : Int → Int → Int → Int → Int → Int → Int → Hp → Option (Int × Int × Int × Int × Int × Hp)) (x1 x2 x4 x5 x6 x7 x8 z0 z1 z2 : Int) (h : Hp) : Option (Int × Int × Int × Int × Int × Hp) :=
(grd (0 ≤ z1 ∧ z1 < alen 285)
(ltt (up h z0 z1 z2) fun h1 =>
(ltt (w32 (x8 + 1)) fun y1 =>
(bk x1 x2 x4 x5 x6 x7 y1 h1))))
def JX12_turns_98 (n : Nat) (bk : Int → Int → Int → Int → Int → Int → Int → Hp → Option (Int × Int × Int × Int × Int × Hp)) (x1 x2 x4 x5 x6 x7 x8 z0 z1 z2 : Int) (h : Hp) : Option (Int × Int × Int × Int × Int × Hp) :=
(grd (0 ≤ z1 ∧ z1 < alen 285)
(ltt (up h z0 z1 z2) fun h1 =>
(if x7 = 0 then
(grd (0 ≤ (w32 (x8 - 1)) ∧ (w32 (x8 - 1)) < alen 285)
(JX12_turns_132 n bk x1 x2 x4 x5 x6 x7 x8 130 x8 (w64 (-(h1 129 (w32 (x8 - 1))))) h1))
else
(grd (0 ≤ (w32 (x8 - 1)) ∧ (w32 (x8 - 1)) < alen 285)
(JX12_turns_132 n bk x1 x2 x4 x5 x6 x7 x8 130 x8 (h1 129 (w32 (x8 - 1))) h1)))))
def BX12_turns_56 (n : Nat) : Nat → Int → Int → Int → Int → Int → Int → Int → Hp → Option (Int × Int × Int × Int × Int × Hp)
  | 0, _, _, _, _, _, _, _, _ => none
  | f + 1, x1, x2, x4, x5, x6, x7, x8, h =>
    (if (h 113 30) < x8 then
    (some (x1, x2, x4, x5, x6, h))
    else
    (if x7 = 0 then
    (grd (0 ≤ (w32 (x8 - 1)) ∧ (w32 (x8 - 1)) < alen 285)
    (JX12_turns_98 n (BX12_turns_56 n f) x1 x2 x4 x5 x6 x7 x8 129 x8 (h 130 (w32 (x8 - 1))) h))
    else
    (grd (0 ≤ (w32 (x8 - 1)) ∧ (w32 (x8 - 1)) < alen 285)
    (JX12_turns_98 n (BX12_turns_56 n f) x1 x2 x4 x5 x6 x7 x8 129 x8 (w64 (-(h 130 (w32 (x8 - 1))))) h))))
def BX12_turns_142 (n : Nat) : Nat → Int → Int → Int → Int → Int → Int → Hp → Option (Int × Int × Int × Int × Hp)
  | 0, _, _, _, _, _, _, _ => none
  | f + 1, x1, x2, x4, x5, x6, x8, h =>
    (if 3 ≤ x8 then
    (some (x1, x2, x4, x5, h))
    else
    (bndp (MX12_bulge n x6 h) fun r1 =>
    (grd (0 ≤ 7 ∧ 7 < alen 84)
    (if r1 ≤ (h 114 7) then
    (some (x1, x2, x4, x5, h))
    else
    (bndh (MX12_halves n x6 h) fun h1 =>
    (ltt (w32 (x8 + 1)) fun y1 =>
    (BX12_turns_142 n f x1 x2 x4 x5 x6 y1 h1)))))))
def BX12_turns_207 (n : Nat) : Nat → Int → Int → Int → Int → Int → Int → Hp → Option (Hp)
  | 0, _, _, _, _, _, _, _ => none
  | f + 1, x4, x5, x8, x9, x10, x11, h =>
    (if (h 113 30) < x11 then
    (some h)
    else
    (grd (0 ≤ x11 ∧ x11 < alen 285)
    (grd (0 ≤ x11 ∧ x11 < alen 285)
    (grd (¬ (h 113 30) = 0)
    (bndh (MX12_comesTo n (w32 (x8 + (w32 (h 129 x11)))) (w32 (x9 + (w32 (h 130 x11)))) (w32 (x10 + (w32 (w64 (Int.tdiv (w64 (x4 * x11)) (h 113 30)))))) x5 h) fun h1 =>
    (ltt (w32 (x11 + 1)) fun y1 =>
    (BX12_turns_207 n f x4 x5 x8 x9 x10 y1 h1)))))))
def LX12_turns_207 (n : Nat) (x4 x5 x8 x9 x10 x11 : Int) (h : Hp) : Option (Hp) :=
(BX12_turns_207 n n x4 x5 x8 x9 x10 x11 h)
def JX12_turns_176 (n : Nat) (x1 x2 x4 x5 : Int) (h : Hp) : Option (Hp) :=
(grd (0 ≤ 0 ∧ 0 < alen 44)
(ltt (w32 ((h 128 0) + x1)) fun y1 =>
(grd (0 ≤ 1 ∧ 1 < alen 44)
(ltt (w32 ((h 128 1) + x2)) fun y2 =>
(grd (0 ≤ 2 ∧ 2 < alen 44)
(ltt (h 128 2) fun y3 =>
(ltt 1 fun y4 =>
(LX12_turns_207 n x4 x5 y1 y2 y3 y4 h))))))))
def LX12_turns_142 (n : Nat) (x1 x2 x4 x5 x6 x8 : Int) (h : Hp) : Option (Hp) :=
(bndx (BX12_turns_142 n n x1 x2 x4 x5 x6 x8 h) fun (e1, e2, e4, e5, h1) =>
(JX12_turns_176 n e1 e2 e4 e5 h1))
def JX12_turns_139 (n : Nat) (x1 x2 x4 x5 x6 : Int) (h : Hp) : Option (Hp) :=
(ltt 0 fun y1 =>
(LX12_turns_142 n x1 x2 x4 x5 x6 y1 h))
def LX12_turns_56 (n : Nat) (x1 x2 x4 x5 x6 x7 x8 : Int) (h : Hp) : Option (Hp) :=
(bndx (BX12_turns_56 n n x1 x2 x4 x5 x6 x7 x8 h) fun (e1, e2, e4, e5, e6, h1) =>
(JX12_turns_139 n e1 e2 e4 e5 e6 h1))
def JX12_turns_25 (n : Nat) (x1 x2 x3 x4 x5 x6 z0 : Int) (h : Hp) : Option (Hp) :=
(ltt z0 fun y1 =>
(ltt (up h 113 30 (jabs x3)) fun h1 =>
(grd (0 ≤ 0 ∧ 0 < alen 285)
(ltt (up h1 129 0 (w32 (-x1))) fun h2 =>
(grd (0 ≤ 0 ∧ 0 < alen 285)
(ltt (up h2 130 0 (w32 (-x2))) fun h3 =>
(ltt 1 fun y2 =>
(LX12_turns_56 n x1 x2 x4 x5 x6 y1 y2 h3))))))))
def MX12_turns (n : Nat) (x1 x2 x3 x4 x5 : Int) (h : Hp) : Option (Hp) :=
(bndp (MX12_square x1) fun r1 =>
(bndp (MX12_square x2) fun r2 =>
(bndp (MX12_root n (w64 (r1 + r2))) fun r3 =>
(ltt r3 fun y1 =>
(if x3 ≤ 0 then
(JX12_turns_25 n x1 x2 x3 x4 x5 y1 0 h)
else
(JX12_turns_25 n x1 x2 x3 x4 x5 y1 1 h))))))
def wX12_turns {ρ : Type} (n : Nat) : FN ρ := fun a h k => match a with
  | [_, x1, x2, x3, x4, x5] => bndh (MX12_turns n x1 x2 x3 x4 x5 h) (fun h2 => k 0 h2)
  | _ => none
def fsX12_turns (n : Nat) (ρ : Type) : List (FN ρ) := [wX12_square, wX12_root n, fabs, wX12_bulge n, wX12_halves n, wX12_comesTo n]
def KX12_turns (n : Nat) : CT (Hp) := [(207, [(0, 16, (some 113)), (4, 0, none), (5, 0, none), (8, 0, none), (9, 0, none), (10, 0, none), (11, 0, none)], [], fun a c h => match a, c with
    | [x4, x5, x8, x9, x10, x11], [] => LX12_turns_207 n x4 x5 x8 x9 x10 x11 h
    | _, _ => none),
  (176, [(0, 16, (some 113)), (1, 0, none), (2, 0, none), (4, 0, none), (5, 0, none)], [], fun a c h => match a, c with
    | [x1, x2, x4, x5], [] => JX12_turns_176 n x1 x2 x4 x5 h
    | _, _ => none),
  (142, [(0, 16, (some 113)), (1, 0, none), (2, 0, none), (4, 0, none), (5, 0, none), (6, 0, none), (8, 0, none)], [], fun a c h => match a, c with
    | [x1, x2, x4, x5, x6, x8], [] => LX12_turns_142 n x1 x2 x4 x5 x6 x8 h
    | _, _ => none),
  (139, [(0, 16, (some 113)), (1, 0, none), (2, 0, none), (4, 0, none), (5, 0, none), (6, 0, none)], [], fun a c h => match a, c with
    | [x1, x2, x4, x5, x6], [] => JX12_turns_139 n x1 x2 x4 x5 x6 h
    | _, _ => none),
  (56, [(0, 16, (some 113)), (1, 0, none), (2, 0, none), (4, 0, none), (5, 0, none), (6, 0, none), (7, 0, none), (8, 0, none)], [], fun a c h => match a, c with
    | [x1, x2, x4, x5, x6, x7, x8], [] => LX12_turns_56 n x1 x2 x4 x5 x6 x7 x8 h
    | _, _ => none),
  (25, [(0, 16, (some 113)), (1, 0, none), (2, 0, none), (3, 0, none), (4, 0, none), (5, 0, none), (6, 0, none)], [(0, none)], fun a c h => match a, c with
    | [x1, x2, x3, x4, x5, x6], [z0] => JX12_turns_25 n x1 x2 x3 x4 x5 x6 z0 h
    | _, _ => none)]
def KX12_turns_207 (n : Nat) (bk : Int → Int → Int → Int → Int → Int → Hp → Option (Hp)) : CT (Hp) := [(207, [(0, 16, (some 113)), (4, 0, none), (5, 0, none), (8, 0, none), (9, 0, none), (10, 0, none), (11, 0, none)], [], fun a c h => match a, c with
    | [x4, x5, x8, x9, x10, x11], [] => bk x4 x5 x8 x9 x10 x11 h
    | _, _ => none)]
def KX12_turns_142 (n : Nat) (bk : Int → Int → Int → Int → Int → Int → Hp → Option (Int × Int × Int × Int × Hp)) : CT (Int × Int × Int × Int × Hp) := [(142, [(0, 16, (some 113)), (1, 0, none), (2, 0, none), (4, 0, none), (5, 0, none), (6, 0, none), (8, 0, none)], [], fun a c h => match a, c with
    | [x1, x2, x4, x5, x6, x8], [] => bk x1 x2 x4 x5 x6 x8 h
    | _, _ => none),
  (176, [(0, 16, (some 113)), (1, 0, none), (2, 0, none), (4, 0, none), (5, 0, none)], [], fun a c h => match a, c with
    | [x1, x2, x4, x5], [] => some (x1, x2, x4, x5, h)
    | _, _ => none)]
def KX12_turns_56 (n : Nat) (bk : Int → Int → Int → Int → Int → Int → Int → Hp → Option (Int × Int × Int × Int × Int × Hp)) : CT (Int × Int × Int × Int × Int × Hp) := [(56, [(0, 16, (some 113)), (1, 0, none), (2, 0, none), (4, 0, none), (5, 0, none), (6, 0, none), (7, 0, none), (8, 0, none)], [], fun a c h => match a, c with
    | [x1, x2, x4, x5, x6, x7, x8], [] => bk x1 x2 x4 x5 x6 x7 x8 h
    | _, _ => none),
  (139, [(0, 16, (some 113)), (1, 0, none), (2, 0, none), (4, 0, none), (5, 0, none), (6, 0, none)], [], fun a c h => match a, c with
    | [x1, x2, x4, x5, x6], [] => some (x1, x2, x4, x5, x6, h)
    | _, _ => none),
  (132, [(0, 16, (some 113)), (1, 0, none), (2, 0, none), (4, 0, none), (5, 0, none), (6, 0, none), (7, 0, none), (8, 0, none)], [(1, none), (0, none), (285, none)], fun a c h => match a, c with
    | [x1, x2, x4, x5, x6, x7, x8], [z2, z1, z0] => JX12_turns_132 n bk x1 x2 x4 x5 x6 x7 x8 z0 z1 z2 h
    | _, _ => none),
  (98, [(0, 16, (some 113)), (1, 0, none), (2, 0, none), (4, 0, none), (5, 0, none), (6, 0, none), (7, 0, none), (8, 0, none)], [(1, none), (0, none), (285, none)], fun a c h => match a, c with
    | [x1, x2, x4, x5, x6, x7, x8], [z2, z1, z0] => JX12_turns_98 n bk x1 x2 x4 x5 x6 x7 x8 z0 z1 z2 h
    | _, _ => none)]
set_option maxRecDepth 100000 in
theorem eJX12_turns_132 (n : Nat) (bk : Int → Int → Int → Int → Int → Int → Int → Hp → Option (Int × Int × Int × Int × Int × Hp)) (x1 : Int) (x2 : Int) (x4 : Int) (x5 : Int) (x6 : Int) (x7 : Int) (x8 : Int) (z0 : Int) (z1 : Int) (z2 : Int) (h : Hp) : JX12_turns_132 n bk x1 x2 x4 x5 x6 x7 x8 z0 z1 z2 h =
  goAt false (kct (KX12_turns_56 n bk)) (fun _ _ => none) (fsX12_turns n _) sdX12_turns 1000 132 [(0, 16, 113), (1, 0, x1), (2, 0, x2), (4, 0, x4), (5, 0, x5), (6, 0, x6), (7, 0, x7), (8, 0, x8)] [(1, z2), (0, z1), (285, z0)] h := rfl
set_option maxRecDepth 100000 in
theorem eJX12_turns_98 (n : Nat) (bk : Int → Int → Int → Int → Int → Int → Int → Hp → Option (Int × Int × Int × Int × Int × Hp)) (x1 : Int) (x2 : Int) (x4 : Int) (x5 : Int) (x6 : Int) (x7 : Int) (x8 : Int) (z0 : Int) (z1 : Int) (z2 : Int) (h : Hp) : JX12_turns_98 n bk x1 x2 x4 x5 x6 x7 x8 z0 z1 z2 h =
  goAt false (kct (KX12_turns_56 n bk)) (fun _ _ => none) (fsX12_turns n _) sdX12_turns 1000 98 [(0, 16, 113), (1, 0, x1), (2, 0, x2), (4, 0, x4), (5, 0, x5), (6, 0, x6), (7, 0, x7), (8, 0, x8)] [(1, z2), (0, z1), (285, z0)] h := rfl
set_option maxRecDepth 100000 in
theorem eBX12_turns_56 (n f : Nat) (x1 : Int) (x2 : Int) (x4 : Int) (x5 : Int) (x6 : Int) (x7 : Int) (x8 : Int) (h : Hp) : BX12_turns_56 n (f + 1) x1 x2 x4 x5 x6 x7 x8 h =
  goAt false (kct (KX12_turns_56 n (BX12_turns_56 n f))) (fun _ _ => none) (fsX12_turns n _) sdX12_turns 1000 56 [(0, 16, 113), (1, 0, x1), (2, 0, x2), (4, 0, x4), (5, 0, x5), (6, 0, x6), (7, 0, x7), (8, 0, x8)] [] h := rfl
set_option maxRecDepth 100000 in
theorem eBX12_turns_142 (n f : Nat) (x1 : Int) (x2 : Int) (x4 : Int) (x5 : Int) (x6 : Int) (x8 : Int) (h : Hp) : BX12_turns_142 n (f + 1) x1 x2 x4 x5 x6 x8 h =
  goAt false (kct (KX12_turns_142 n (BX12_turns_142 n f))) (fun _ _ => none) (fsX12_turns n _) sdX12_turns 1000 142 [(0, 16, 113), (1, 0, x1), (2, 0, x2), (4, 0, x4), (5, 0, x5), (6, 0, x6), (8, 0, x8)] [] h := rfl
set_option maxRecDepth 100000 in
theorem eBX12_turns_207 (n f : Nat) (x4 : Int) (x5 : Int) (x8 : Int) (x9 : Int) (x10 : Int) (x11 : Int) (h : Hp) : BX12_turns_207 n (f + 1) x4 x5 x8 x9 x10 x11 h =
  goAt false (kct (KX12_turns_207 n (BX12_turns_207 n f))) (fun _ h => some (h)) (fsX12_turns n _) sdX12_turns 1000 207 [(0, 16, 113), (4, 0, x4), (5, 0, x5), (8, 0, x8), (9, 0, x9), (10, 0, x10), (11, 0, x11)] [] h := rfl
set_option maxRecDepth 100000 in
theorem eJX12_turns_176 (n : Nat) (x1 : Int) (x2 : Int) (x4 : Int) (x5 : Int) (h : Hp) : JX12_turns_176 n x1 x2 x4 x5 h =
  goAt false (kct (KX12_turns n)) (fun _ h => some (h)) (fsX12_turns n _) sdX12_turns 1000 176 [(0, 16, 113), (1, 0, x1), (2, 0, x2), (4, 0, x4), (5, 0, x5)] [] h := rfl
set_option maxRecDepth 100000 in
theorem eJX12_turns_139 (n : Nat) (x1 : Int) (x2 : Int) (x4 : Int) (x5 : Int) (x6 : Int) (h : Hp) : JX12_turns_139 n x1 x2 x4 x5 x6 h =
  goAt false (kct (KX12_turns n)) (fun _ h => some (h)) (fsX12_turns n _) sdX12_turns 1000 139 [(0, 16, 113), (1, 0, x1), (2, 0, x2), (4, 0, x4), (5, 0, x5), (6, 0, x6)] [] h := rfl
set_option maxRecDepth 100000 in
theorem eJX12_turns_25 (n : Nat) (x1 : Int) (x2 : Int) (x3 : Int) (x4 : Int) (x5 : Int) (x6 : Int) (z0 : Int) (h : Hp) : JX12_turns_25 n x1 x2 x3 x4 x5 x6 z0 h =
  goAt false (kct (KX12_turns n)) (fun _ h => some (h)) (fsX12_turns n _) sdX12_turns 1000 25 [(0, 16, 113), (1, 0, x1), (2, 0, x2), (3, 0, x3), (4, 0, x4), (5, 0, x5), (6, 0, x6)] [(0, z0)] h := rfl
set_option maxRecDepth 100000 in
theorem eMX12_turns (n : Nat) (x1 : Int) (x2 : Int) (x3 : Int) (x4 : Int) (x5 : Int) (h : Hp) : MX12_turns n x1 x2 x3 x4 x5 h =
  goAt false (kct (KX12_turns n)) (fun _ h => some (h)) (fsX12_turns n _) sdX12_turns 1000 0 [(0, 16, 113), (1, 0, x1), (2, 0, x2), (3, 0, x3), (4, 0, x4), (5, 0, x5)] [] h := rfl
def BX12_makes_24 (n : Nat) : Nat → Int → Int → Hp → Option (Int × Hp)
  | 0, _, _, _ => none
  | f + 1, x2, x3, h =>
    (if 6 ≤ x3 then
    (some (x2, h))
    else
    (grd (0 ≤ (w32 (x2 + x3)) ∧ (w32 (x2 + x3)) < alen 1940)
    (grd (0 ≤ (w32 ((w32 (6 * (h 113 2))) + x3)) ∧ (w32 ((w32 (6 * (h 113 2))) + x3)) < alen 1940)
    (ltt (up h 116 (w32 ((w32 (6 * (h 113 2))) + x3)) (h 116 (w32 (x2 + x3)))) fun h1 =>
    (ltt (w32 (x3 + 1)) fun y1 =>
    (BX12_makes_24 n f x2 y1 h1))))))
def JX12_makes_68 (n : Nat) (x2 : Int) (h : Hp) : Option (Hp) :=
(grd (0 ≤ (w32 (x2 + 1)) ∧ (w32 (x2 + 1)) < alen 1940)
(ltt (h 116 (w32 (x2 + 1))) fun y1 =>
(grd (0 ≤ (w32 (x2 + 2)) ∧ (w32 (x2 + 2)) < alen 1940)
(ltt (h 116 (w32 (x2 + 2))) fun y2 =>
(grd (0 ≤ (w32 (x2 + 3)) ∧ (w32 (x2 + 3)) < alen 1940)
(ltt (h 116 (w32 (x2 + 3))) fun y3 =>
(grd (0 ≤ x2 ∧ x2 < alen 1940)
(if (h 116 x2) = 3 then
(grd (0 ≤ (w32 (x2 + 5)) ∧ (w32 (x2 + 5)) < alen 1940)
(bndh (MX12_comesTo n y1 y2 y3 (h 116 (w32 (x2 + 5))) h) fun h3 =>
(some h3)))
else
(if (h 116 x2) = 4 then
(grd (0 ≤ 0 ∧ 0 < alen 44)
(grd (0 ≤ 1 ∧ 1 < alen 44)
(grd (0 ≤ 2 ∧ 2 < alen 44)
(grd (0 ≤ (w32 (x2 + 5)) ∧ (w32 (x2 + 5)) < alen 1940)
(bndh (MX12_comesTo n (w32 ((h 128 0) + y1)) (w32 ((h 128 1) + y2)) (w32 ((h 128 2) + y3)) (h 116 (w32 (x2 + 5))) h) fun h2 =>
(some h2))))))
else
(grd (0 ≤ (w32 (x2 + 4)) ∧ (w32 (x2 + 4)) < alen 1940)
(grd (0 ≤ (w32 (x2 + 5)) ∧ (w32 (x2 + 5)) < alen 1940)
(bndh (MX12_turns n y1 y2 y3 (h 116 (w32 (x2 + 4))) (h 116 (w32 (x2 + 5))) h) fun h1 =>
(some h1)))))))))))))
def JX12_makes_58 (n : Nat) (x2 : Int) (h : Hp) : Option (Hp) :=
(ltt (up h 113 2 (w32 ((h 113 2) + 1))) fun h1 =>
(JX12_makes_68 n x2 h1))
def LX12_makes_24 (n : Nat) (x2 x3 : Int) (h : Hp) : Option (Hp) :=
(bndx (BX12_makes_24 n n x2 x3 h) fun (e2, h1) =>
(JX12_makes_58 n e2 h1))
def MX12_makes (n : Nat) (x1 : Int) (h : Hp) : Option (Hp) :=
(ltt (w32 (6 * x1)) fun y1 =>
(if (h 113 2) ≠ 40 then
(ltt 0 fun y2 =>
(LX12_makes_24 n y1 y2 h))
else
(grd (1 = 0 ∨ 1 = 1)
(ltt (up h 113 27 1) fun h1 =>
(JX12_makes_68 n y1 h1)))))
def wX12_makes {ρ : Type} (n : Nat) : FN ρ := fun a h k => match a with
  | [_, x1] => bndh (MX12_makes n x1 h) (fun h2 => k 0 h2)
  | _ => none
def fsX12_makes (n : Nat) (ρ : Type) : List (FN ρ) := [wX12_comesTo n, wX12_turns n]
def KX12_makes (n : Nat) : CT (Hp) := [(68, [(0, 16, (some 113)), (2, 0, none)], [], fun a c h => match a, c with
    | [x2], [] => JX12_makes_68 n x2 h
    | _, _ => none),
  (58, [(0, 16, (some 113)), (2, 0, none)], [], fun a c h => match a, c with
    | [x2], [] => JX12_makes_58 n x2 h
    | _, _ => none),
  (24, [(0, 16, (some 113)), (2, 0, none), (3, 0, none)], [], fun a c h => match a, c with
    | [x2, x3], [] => LX12_makes_24 n x2 x3 h
    | _, _ => none)]
def KX12_makes_24 (n : Nat) (bk : Int → Int → Hp → Option (Int × Hp)) : CT (Int × Hp) := [(24, [(0, 16, (some 113)), (2, 0, none), (3, 0, none)], [], fun a c h => match a, c with
    | [x2, x3], [] => bk x2 x3 h
    | _, _ => none),
  (58, [(0, 16, (some 113)), (2, 0, none)], [], fun a c h => match a, c with
    | [x2], [] => some (x2, h)
    | _, _ => none)]
set_option maxRecDepth 100000 in
theorem eBX12_makes_24 (n f : Nat) (x2 : Int) (x3 : Int) (h : Hp) : BX12_makes_24 n (f + 1) x2 x3 h =
  goAt false (kct (KX12_makes_24 n (BX12_makes_24 n f))) (fun _ _ => none) (fsX12_makes n _) sdX12_makes 1000 24 [(0, 16, 113), (2, 0, x2), (3, 0, x3)] [] h := rfl
set_option maxRecDepth 100000 in
theorem eJX12_makes_68 (n : Nat) (x2 : Int) (h : Hp) : JX12_makes_68 n x2 h =
  goAt false (kct (KX12_makes n)) (fun _ h => some (h)) (fsX12_makes n _) sdX12_makes 1000 68 [(0, 16, 113), (2, 0, x2)] [] h := rfl
set_option maxRecDepth 100000 in
theorem eJX12_makes_58 (n : Nat) (x2 : Int) (h : Hp) : JX12_makes_58 n x2 h =
  goAt false (kct (KX12_makes n)) (fun _ h => some (h)) (fsX12_makes n _) sdX12_makes 1000 58 [(0, 16, 113), (2, 0, x2)] [] h := rfl
set_option maxRecDepth 100000 in
theorem eMX12_makes (n : Nat) (x1 : Int) (h : Hp) : MX12_makes n x1 h =
  goAt false (kct (KX12_makes n)) (fun _ h => some (h)) (fsX12_makes n _) sdX12_makes 1000 0 [(0, 16, 113), (1, 0, x1)] [] h := rfl
def MX1_bears (x0 x1 x2 : Int) (h : Hp) : Option (Int) :=
(if x2 < (w32 (-(h (x0 + 2) 3))) then
(some 0)
else
(if x1 < 0 then
(some 0)
else
(if 0 ≤ x2 then
(some 1)
else
(if (w32 (2 * x1)) < (w32 (x2 * (w32 (x2 + 1)))) then
(some 0)
else
(some 1)))))
def wX1_bears {ρ : Type} : FN ρ := fun a h k => match a with
  | [x0, x1, x2] => bndp (MX1_bears x0 x1 x2 h) (fun r => k r h)
  | _ => none
def fsX1_bears (ρ : Type) : List (FN ρ) := []
def KX1_bears  : CT (Int) := []
set_option maxRecDepth 100000 in
theorem eMX1_bears (x0 : Int) (x1 : Int) (x2 : Int) (h : Hp) : MX1_bears x0 x1 x2 h =
  goAt false (kct (KX1_bears)) (fun v _ => some (v)) (fsX1_bears _) sdX1_bears 1000 0 [(0, 5, x0), (1, 0, x1), (2, 0, x2)] [] h := rfl
def MX1_brake (x0 x1 x2 : Int) (h : Hp) : Option (Int) :=
(bndp (MX1_bears x0 (w32 ((w32 (x1 + x2)) - 1)) (w32 (x2 - 1)) h) fun r1 =>
(if r1 = 0 then
(bndp (MX1_bears x0 (w32 (x1 + x2)) x2 h) fun r2 =>
(if r2 = 0 then
(some 1)
else
(some 0)))
else
(some (-1))))
def wX1_brake {ρ : Type} : FN ρ := fun a h k => match a with
  | [x0, x1, x2] => bndp (MX1_brake x0 x1 x2 h) (fun r => k r h)
  | _ => none
def fsX1_brake (ρ : Type) : List (FN ρ) := [wX1_bears]
def KX1_brake  : CT (Int) := []
set_option maxRecDepth 100000 in
theorem eMX1_brake (x0 : Int) (x1 : Int) (x2 : Int) (h : Hp) : MX1_brake x0 x1 x2 h =
  goAt false (kct (KX1_brake)) (fun v _ => some (v)) (fsX1_brake _) sdX1_brake 1000 0 [(0, 5, x0), (1, 0, x1), (2, 0, x2)] [] h := rfl
def JX1_farness_72 (n : Nat) (bk : Int → Int → Int → Int → Int → Int → Hp → Option (Int × Int × Int)) (x0 x1 x2 x3 x4 x5 : Int) (h : Hp) : Option (Int × Int × Int) :=
(bndp (MX1_brake x0 x1 x2 h) fun r1 =>
(ltt (w32 (x2 + r1)) fun y1 =>
(ltt (w32 (x1 + y1)) fun y2 =>
(ltt (w32 (x4 + y2)) fun y3 =>
(ltt (w32 (x5 + 1)) fun y4 =>
(bk x0 y2 y1 x3 y3 y4 h))))))
def BX1_farness_56 (n : Nat) : Nat → Int → Int → Int → Int → Int → Int → Hp → Option (Int × Int × Int)
  | 0, _, _, _, _, _, _, _ => none
  | f + 1, x0, x1, x2, x3, x4, x5, h =>
    (if 1000 ≤ x5 then
    (some (x0, x3, x4))
    else
    (if x1 ≠ 0 then
    (JX1_farness_72 n (BX1_farness_56 n f) x0 x1 x2 x3 x4 x5 h)
    else
    (if x2 = 0 then
    (some (x0, x3, x4))
    else
    (JX1_farness_72 n (BX1_farness_56 n f) x0 x1 x2 x3 x4 x5 h))))
def JX1_farness_97 (n : Nat) (x0 x3 x4 : Int) (h : Hp) : Option (Int × Hp) :=
(grd (0 ≤ x3 ∧ x3 < alen 20220)
(ltt (up h (x0 + 1) x3 (w32 (x4 + 1))) fun h1 =>
(some (x4, h1))))
def LX1_farness_56 (n : Nat) (x0 x1 x2 x3 x4 x5 : Int) (h : Hp) : Option (Int × Hp) :=
(bndx (BX1_farness_56 n n x0 x1 x2 x3 x4 x5 h) fun (e0, e3, e4) =>
(JX1_farness_97 n e0 e3 e4 h))
def MX1_farness (n : Nat) (x0 x1 x2 : Int) (h : Hp) : Option (Int × Hp) :=
(ltt (w32 ((w32 ((w32 (x2 + 12)) * 101)) + x1)) fun y1 =>
(if x1 < 0 then
(some (0, h))
else
(if 101 ≤ x1 then
(some (0, h))
else
(if y1 < 0 then
(some (0, h))
else
(if y1 < (alen 20220) then
(grd (0 ≤ y1 ∧ y1 < alen 20220)
(ltt (w32 ((h (x0 + 1) y1) - 1)) fun y2 =>
(if 0 ≤ y2 then
(some (y2, h))
else
(ltt 0 fun y3 =>
(ltt 0 fun y4 =>
(LX1_farness_56 n x0 x1 x2 y1 y3 y4 h))))))
else
(some (0, h)))))))
def wX1_farness {ρ : Type} (n : Nat) : FN ρ := fun a h k => match a with
  | [x0, x1, x2] => bnd (MX1_farness n x0 x1 x2 h) (fun r h2 => k r h2)
  | _ => none
def fsX1_farness (n : Nat) (ρ : Type) : List (FN ρ) := [wX1_brake]
def KX1_farness (n : Nat) : CT (Int × Hp) := [(97, [(0, 5, none), (3, 0, none), (4, 0, none)], [], fun a c h => match a, c with
    | [x0, x3, x4], [] => JX1_farness_97 n x0 x3 x4 h
    | _, _ => none),
  (56, [(0, 5, none), (1, 0, none), (2, 0, none), (3, 0, none), (4, 0, none), (5, 0, none)], [], fun a c h => match a, c with
    | [x0, x1, x2, x3, x4, x5], [] => LX1_farness_56 n x0 x1 x2 x3 x4 x5 h
    | _, _ => none)]
def KX1_farness_56 (n : Nat) (bk : Int → Int → Int → Int → Int → Int → Hp → Option (Int × Int × Int)) : CT (Int × Int × Int) := [(56, [(0, 5, none), (1, 0, none), (2, 0, none), (3, 0, none), (4, 0, none), (5, 0, none)], [], fun a c h => match a, c with
    | [x0, x1, x2, x3, x4, x5], [] => bk x0 x1 x2 x3 x4 x5 h
    | _, _ => none),
  (97, [(0, 5, none), (3, 0, none), (4, 0, none)], [], fun a c _ => match a, c with
    | [x0, x3, x4], [] => some (x0, x3, x4)
    | _, _ => none),
  (72, [(0, 5, none), (1, 0, none), (2, 0, none), (3, 0, none), (4, 0, none), (5, 0, none)], [], fun a c h => match a, c with
    | [x0, x1, x2, x3, x4, x5], [] => JX1_farness_72 n bk x0 x1 x2 x3 x4 x5 h
    | _, _ => none)]
set_option maxRecDepth 100000 in
theorem eJX1_farness_72 (n : Nat) (bk : Int → Int → Int → Int → Int → Int → Hp → Option (Int × Int × Int)) (x0 : Int) (x1 : Int) (x2 : Int) (x3 : Int) (x4 : Int) (x5 : Int) (h : Hp) : JX1_farness_72 n bk x0 x1 x2 x3 x4 x5 h =
  goAt false (kct (KX1_farness_56 n bk)) (fun _ _ => none) (fsX1_farness n _) sdX1_farness 1000 72 [(0, 5, x0), (1, 0, x1), (2, 0, x2), (3, 0, x3), (4, 0, x4), (5, 0, x5)] [] h := rfl
set_option maxRecDepth 100000 in
theorem eBX1_farness_56 (n f : Nat) (x0 : Int) (x1 : Int) (x2 : Int) (x3 : Int) (x4 : Int) (x5 : Int) (h : Hp) : BX1_farness_56 n (f + 1) x0 x1 x2 x3 x4 x5 h =
  goAt false (kct (KX1_farness_56 n (BX1_farness_56 n f))) (fun _ _ => none) (fsX1_farness n _) sdX1_farness 1000 56 [(0, 5, x0), (1, 0, x1), (2, 0, x2), (3, 0, x3), (4, 0, x4), (5, 0, x5)] [] h := rfl
set_option maxRecDepth 100000 in
theorem eJX1_farness_97 (n : Nat) (x0 : Int) (x3 : Int) (x4 : Int) (h : Hp) : JX1_farness_97 n x0 x3 x4 h =
  goAt false (kct (KX1_farness n)) (fun v h => some ((v, h))) (fsX1_farness n _) sdX1_farness 1000 97 [(0, 5, x0), (3, 0, x3), (4, 0, x4)] [] h := rfl
set_option maxRecDepth 100000 in
theorem eMX1_farness (n : Nat) (x0 : Int) (x1 : Int) (x2 : Int) (h : Hp) : MX1_farness n x0 x1 x2 h =
  goAt false (kct (KX1_farness n)) (fun v h => some ((v, h))) (fsX1_farness n _) sdX1_farness 1000 0 [(0, 5, x0), (1, 0, x1), (2, 0, x2)] [] h := rfl
def MX12_goes (x1 x2 : Int) (h : Hp) : Option (Int) :=
(grd (0 ≤ (w32 ((w32 (3 * (w32 (x1 + 1)))) + x2)) ∧ (w32 ((w32 (3 * (w32 (x1 + 1)))) + x2)) < alen 1580)
(grd (0 ≤ (w32 ((w32 (3 * x1)) + x2)) ∧ (w32 ((w32 (3 * x1)) + x2)) < alen 1580)
(some (w32 ((h 122 (w32 ((w32 (3 * (w32 (x1 + 1)))) + x2))) - (h 122 (w32 ((w32 (3 * x1)) + x2))))))))
def wX12_goes {ρ : Type} : FN ρ := fun a h k => match a with
  | [_, x1, x2] => bndp (MX12_goes x1 x2 h) (fun r => k r h)
  | _ => none
def fsX12_goes (ρ : Type) : List (FN ρ) := []
def KX12_goes  : CT (Int) := []
set_option maxRecDepth 100000 in
theorem eMX12_goes (x1 : Int) (x2 : Int) (h : Hp) : MX12_goes x1 x2 h =
  goAt false (kct (KX12_goes)) (fun v _ => some (v)) (fsX12_goes _) sdX12_goes 1000 0 [(0, 16, 113), (1, 0, x1), (2, 0, x2)] [] h := rfl
def MX12_isFlat (x1 : Int) (h : Hp) : Option (Int) :=
(bndp (MX12_goes x1 2 h) fun r1 =>
(if r1 ≠ 0 then
(some 0)
else
(some 1)))
def wX12_isFlat {ρ : Type} : FN ρ := fun a h k => match a with
  | [_, x1] => bndp (MX12_isFlat x1 h) (fun r => k r h)
  | _ => none
def fsX12_isFlat (ρ : Type) : List (FN ρ) := [wX12_goes]
def KX12_isFlat  : CT (Int) := []
set_option maxRecDepth 100000 in
theorem eMX12_isFlat (x1 : Int) (h : Hp) : MX12_isFlat x1 h =
  goAt false (kct (KX12_isFlat)) (fun v _ => some (v)) (fsX12_isFlat _) sdX12_isFlat 1000 0 [(0, 16, 113), (1, 0, x1)] [] h := rfl
def MX12_heightOf (x1 : Int) (h : Hp) : Option (Int) :=
(grd (0 ≤ (w32 ((w32 (3 * x1)) + 2)) ∧ (w32 ((w32 (3 * x1)) + 2)) < alen 1580)
(some (h 122 (w32 ((w32 (3 * x1)) + 2)))))
def wX12_heightOf {ρ : Type} : FN ρ := fun a h k => match a with
  | [_, x1] => bndp (MX12_heightOf x1 h) (fun r => k r h)
  | _ => none
def fsX12_heightOf (ρ : Type) : List (FN ρ) := []
def KX12_heightOf  : CT (Int) := []
set_option maxRecDepth 100000 in
theorem eMX12_heightOf (x1 : Int) (h : Hp) : MX12_heightOf x1 h =
  goAt false (kct (KX12_heightOf)) (fun v _ => some (v)) (fsX12_heightOf _) sdX12_heightOf 1000 0 [(0, 16, 113), (1, 0, x1)] [] h := rfl
def MX12_sideOf (x1 x2 : Int) (h : Hp) : Option (Int) :=
(grd (0 ≤ (w32 (3 * x2)) ∧ (w32 (3 * x2)) < alen 1580)
(grd (0 ≤ (w32 (3 * x1)) ∧ (w32 (3 * x1)) < alen 1580)
(ltt (w32 ((h 122 (w32 (3 * x2))) - (h 122 (w32 (3 * x1))))) fun y1 =>
(grd (0 ≤ (w32 ((w32 (3 * x2)) + 1)) ∧ (w32 ((w32 (3 * x2)) + 1)) < alen 1580)
(grd (0 ≤ (w32 ((w32 (3 * x1)) + 1)) ∧ (w32 ((w32 (3 * x1)) + 1)) < alen 1580)
(ltt (w32 ((h 122 (w32 ((w32 (3 * x2)) + 1))) - (h 122 (w32 ((w32 (3 * x1)) + 1))))) fun y2 =>
(bndp (MX12_goes x1 0 h) fun r1 =>
(bndp (MX12_goes x1 1 h) fun r2 =>
(some (lsgn (w64 ((w64 (r1 * y2)) - (w64 (r2 * y1))))))))))))))
def wX12_sideOf {ρ : Type} : FN ρ := fun a h k => match a with
  | [_, x1, x2] => bndp (MX12_sideOf x1 x2 h) (fun r => k r h)
  | _ => none
def fsX12_sideOf (ρ : Type) : List (FN ρ) := [wX12_goes, fsig]
def KX12_sideOf  : CT (Int) := []
set_option maxRecDepth 100000 in
theorem eMX12_sideOf (x1 : Int) (x2 : Int) (h : Hp) : MX12_sideOf x1 x2 h =
  goAt false (kct (KX12_sideOf)) (fun v _ => some (v)) (fsX12_sideOf _) sdX12_sideOf 1000 0 [(0, 16, 113), (1, 0, x1), (2, 0, x2)] [] h := rfl
def BX12_isBetween_2 (n : Nat) : Nat → Int → Int → Int → Hp → Option (Int)
  | 0, _, _, _, _ => none
  | f + 1, x1, x2, x3, h =>
    (if 2 ≤ x3 then
    (some 1)
    else
    (grd (0 ≤ (w32 ((w32 (3 * x1)) + x3)) ∧ (w32 ((w32 (3 * x1)) + x3)) < alen 1580)
    (ltt (h 122 (w32 ((w32 (3 * x1)) + x3))) fun y1 =>
    (grd (0 ≤ (w32 ((w32 (3 * (w32 (x1 + 1)))) + x3)) ∧ (w32 ((w32 (3 * (w32 (x1 + 1)))) + x3)) < alen 1580)
    (ltt (h 122 (w32 ((w32 (3 * (w32 (x1 + 1)))) + x3))) fun y2 =>
    (grd (0 ≤ (w32 ((w32 (3 * x2)) + x3)) ∧ (w32 ((w32 (3 * x2)) + x3)) < alen 1580)
    (bndp (MX12_in (h 122 (w32 ((w32 (3 * x2)) + x3))) (min y1 y2) (max y1 y2)) fun r1 =>
    (if r1 ≠ 0 then
    (ltt (w32 (x3 + 1)) fun y3 =>
    (BX12_isBetween_2 n f x1 x2 y3 h))
    else
    (some 0)))))))))
def LX12_isBetween_2 (n : Nat) (x1 x2 x3 : Int) (h : Hp) : Option (Int) :=
(BX12_isBetween_2 n n x1 x2 x3 h)
def MX12_isBetween (n : Nat) (x1 x2 : Int) (h : Hp) : Option (Int) :=
(ltt 0 fun y1 =>
(LX12_isBetween_2 n x1 x2 y1 h))
def wX12_isBetween {ρ : Type} (n : Nat) : FN ρ := fun a h k => match a with
  | [_, x1, x2] => bndp (MX12_isBetween n x1 x2 h) (fun r => k r h)
  | _ => none
def fsX12_isBetween (n : Nat) (ρ : Type) : List (FN ρ) := [fmin, fmax, wX12_in]
def KX12_isBetween (n : Nat) : CT (Int) := [(2, [(0, 16, (some 113)), (1, 0, none), (2, 0, none), (3, 0, none)], [], fun a c h => match a, c with
    | [x1, x2, x3], [] => LX12_isBetween_2 n x1 x2 x3 h
    | _, _ => none)]
def KX12_isBetween_2 (n : Nat) (bk : Int → Int → Int → Hp → Option (Int)) : CT (Int) := [(2, [(0, 16, (some 113)), (1, 0, none), (2, 0, none), (3, 0, none)], [], fun a c h => match a, c with
    | [x1, x2, x3], [] => bk x1 x2 x3 h
    | _, _ => none)]
set_option maxRecDepth 100000 in
theorem eBX12_isBetween_2 (n f : Nat) (x1 : Int) (x2 : Int) (x3 : Int) (h : Hp) : BX12_isBetween_2 n (f + 1) x1 x2 x3 h =
  goAt false (kct (KX12_isBetween_2 n (BX12_isBetween_2 n f))) (fun v _ => some (v)) (fsX12_isBetween n _) sdX12_isBetween 1000 2 [(0, 16, 113), (1, 0, x1), (2, 0, x2), (3, 0, x3)] [] h := rfl
set_option maxRecDepth 100000 in
theorem eMX12_isBetween (n : Nat) (x1 : Int) (x2 : Int) (h : Hp) : MX12_isBetween n x1 x2 h =
  goAt false (kct (KX12_isBetween n)) (fun v _ => some (v)) (fsX12_isBetween n _) sdX12_isBetween 1000 0 [(0, 16, 113), (1, 0, x1), (2, 0, x2)] [] h := rfl
def MX12_isOn (n : Nat) (x1 x2 : Int) (h : Hp) : Option (Int) :=
(bndp (MX12_sideOf x1 x2 h) fun r1 =>
(if r1 ≠ 0 then
(some 0)
else
(bndp (MX12_isBetween n x1 x2 h) fun r2 =>
(if r2 = 0 then
(some 0)
else
(some 1)))))
def wX12_isOn {ρ : Type} (n : Nat) : FN ρ := fun a h k => match a with
  | [_, x1, x2] => bndp (MX12_isOn n x1 x2 h) (fun r => k r h)
  | _ => none
def fsX12_isOn (n : Nat) (ρ : Type) : List (FN ρ) := [wX12_sideOf, wX12_isBetween n]
def KX12_isOn (n : Nat) : CT (Int) := []
set_option maxRecDepth 100000 in
theorem eMX12_isOn (n : Nat) (x1 : Int) (x2 : Int) (h : Hp) : MX12_isOn n x1 x2 h =
  goAt false (kct (KX12_isOn n)) (fun v _ => some (v)) (fsX12_isOn n _) sdX12_isOn 1000 0 [(0, 16, 113), (1, 0, x1), (2, 0, x2)] [] h := rfl
def MX12_doMeet (n : Nat) (x1 x2 : Int) (h : Hp) : Option (Int) :=
(bndp (MX12_isFlat x1 h) fun r1 =>
(if r1 = 0 then
(some 0)
else
(bndp (MX12_isFlat x2 h) fun r2 =>
(if r2 = 0 then
(some 0)
else
(bndp (MX12_heightOf x1 h) fun r3 =>
(bndp (MX12_heightOf x2 h) fun r4 =>
(if r3 ≠ r4 then
(some 0)
else
(if 2 ≤ (w32 (x2 - x1)) then
(bndp (MX12_isOn n x1 x2 h) fun r5 =>
(if r5 ≠ 0 then
(some 1)
else
(bndp (MX12_isOn n x1 (w32 (x2 + 1)) h) fun r6 =>
(if r6 ≠ 0 then
(some 1)
else
(bndp (MX12_isOn n x2 x1 h) fun r7 =>
(if r7 ≠ 0 then
(some 1)
else
(bndp (MX12_isOn n x2 (w32 (x1 + 1)) h) fun r8 =>
(if r8 = 0 then
(bndp (MX12_sideOf x1 x2 h) fun r9 =>
(bndp (MX12_sideOf x1 (w32 (x2 + 1)) h) fun r10 =>
(if 0 ≤ (w32 (r9 * r10)) then
(some 0)
else
(bndp (MX12_sideOf x2 x1 h) fun r11 =>
(bndp (MX12_sideOf x2 (w32 (x1 + 1)) h) fun r12 =>
(if 0 ≤ (w32 (r11 * r12)) then
(some 0)
else
(some 1)))))))
else
(some 1)))))))))
else
(some 0)))))))))
def wX12_doMeet {ρ : Type} (n : Nat) : FN ρ := fun a h k => match a with
  | [_, x1, x2] => bndp (MX12_doMeet n x1 x2 h) (fun r => k r h)
  | _ => none
def fsX12_doMeet (n : Nat) (ρ : Type) : List (FN ρ) := [wX12_isFlat, wX12_heightOf, wX12_isOn n, wX12_sideOf]
def KX12_doMeet (n : Nat) : CT (Int) := []
set_option maxRecDepth 100000 in
theorem eMX12_doMeet (n : Nat) (x1 : Int) (x2 : Int) (h : Hp) : MX12_doMeet n x1 x2 h =
  goAt false (kct (KX12_doMeet n)) (fun v _ => some (v)) (fsX12_doMeet n _) sdX12_doMeet 1000 0 [(0, 16, 113), (1, 0, x1), (2, 0, x2)] [] h := rfl
def JX12_meets_71 (n : Nat) (bk : Int → Int → Int → Int → Int → Int → Hp → Option (Int × Int × Int × Int × Int)) (x1 x2 x4 x5 x6 z0 : Int) (h : Hp) : Option (Int × Int × Int × Int × Int) :=
(ltt z0 fun y1 =>
(if x2 ≠ 0 then
(ltt x4 fun y2 =>
(ltt (w32 (x2 + 1)) fun y3 =>
(ltt (w32 (x6 + 1)) fun y4 =>
(bk x1 y3 y1 y2 x5 y4 h))))
else
(ltt x6 fun y5 =>
(ltt (w32 (x2 + 1)) fun y6 =>
(ltt (w32 (x6 + 1)) fun y7 =>
(bk x1 y6 y1 y5 x5 y7 h))))))
def BX12_meets_41 (n : Nat) : Nat → Int → Int → Int → Int → Int → Int → Hp → Option (Int × Int × Int × Int × Int)
  | 0, _, _, _, _, _, _, _ => none
  | f + 1, x1, x2, x3, x4, x5, x6, h =>
    (if (h 113 6) ≤ x6 then
    (some (x1, x2, x3, x4, x5))
    else
    (bndp (MX12_doMeet n x5 x6 h) fun r1 =>
    (if r1 = 0 then
    (ltt (w32 (x6 + 1)) fun y1 =>
    (BX12_meets_41 n f x1 x2 x3 x4 x5 y1 h))
    else
    (if x2 ≠ 0 then
    (JX12_meets_71 n (BX12_meets_41 n f) x1 x2 x4 x5 x6 x3 h)
    else
    (JX12_meets_71 n (BX12_meets_41 n f) x1 x2 x4 x5 x6 x5 h)))))
def JX12_meets_94 (n : Nat) (bk : Int → Int → Int → Int → Int → Hp → Option (Int × Int × Int × Int)) (x1 x2 x3 x4 x5 : Int) (h : Hp) : Option (Int × Int × Int × Int) :=
(ltt (w32 (x5 + 1)) fun y1 =>
(bk x1 x2 x3 x4 y1 h))
def LX12_meets_41 (n : Nat) (bk : Int → Int → Int → Int → Int → Hp → Option (Int × Int × Int × Int)) (x1 x2 x3 x4 x5 x6 : Int) (h : Hp) : Option (Int × Int × Int × Int) :=
(bndx (BX12_meets_41 n n x1 x2 x3 x4 x5 x6 h) fun (e1, e2, e3, e4, e5) =>
(JX12_meets_94 n bk e1 e2 e3 e4 e5 h))
def BX12_meets_26 (n : Nat) : Nat → Int → Int → Int → Int → Int → Hp → Option (Int × Int × Int × Int)
  | 0, _, _, _, _, _, _ => none
  | f + 1, x1, x2, x3, x4, x5, h =>
    (if (h 113 6) ≤ x5 then
    (some (x1, x2, x3, x4))
    else
    (ltt (w32 (x5 + 2)) fun y1 =>
    (LX12_meets_41 n (BX12_meets_26 n f) x1 x2 x3 x4 x5 y1 h)))
def JX12_meets_100 (n : Nat) (x1 x2 x3 x4 : Int) (h : Hp) : Option (Int) :=
(if x1 ≠ 0 then
(if x1 ≠ 1 then
(some x4)
else
(some x3))
else
(some x2))
def LX12_meets_26 (n : Nat) (x1 x2 x3 x4 x5 : Int) (h : Hp) : Option (Int) :=
(bndx (BX12_meets_26 n n x1 x2 x3 x4 x5 h) fun (e1, e2, e3, e4) =>
(JX12_meets_100 n e1 e2 e3 e4 h))
def MX12_meets (n : Nat) (x1 : Int) (h : Hp) : Option (Int) :=
(bndp (MX12_in x1 0 2) fun r1 =>
(if r1 ≠ 0 then
(ltt 0 fun y1 =>
(ltt (-2) fun y2 =>
(ltt (-2) fun y3 =>
(ltt 0 fun y4 =>
(LX12_meets_26 n x1 y1 y2 y3 y4 h)))))
else
(some (-1))))
def wX12_meets {ρ : Type} (n : Nat) : FN ρ := fun a h k => match a with
  | [_, x1] => bndp (MX12_meets n x1 h) (fun r => k r h)
  | _ => none
def fsX12_meets (n : Nat) (ρ : Type) : List (FN ρ) := [wX12_in, wX12_doMeet n]
def KX12_meets (n : Nat) : CT (Int) := [(100, [(1, 0, none), (2, 0, none), (3, 0, none), (4, 0, none)], [], fun a c h => match a, c with
    | [x1, x2, x3, x4], [] => JX12_meets_100 n x1 x2 x3 x4 h
    | _, _ => none),
  (26, [(0, 16, (some 113)), (1, 0, none), (2, 0, none), (3, 0, none), (4, 0, none), (5, 0, none)], [], fun a c h => match a, c with
    | [x1, x2, x3, x4, x5], [] => LX12_meets_26 n x1 x2 x3 x4 x5 h
    | _, _ => none)]
def KX12_meets_41 (n : Nat) (bk : Int → Int → Int → Int → Int → Int → Hp → Option (Int × Int × Int × Int × Int)) : CT (Int × Int × Int × Int × Int) := [(41, [(0, 16, (some 113)), (1, 0, none), (2, 0, none), (3, 0, none), (4, 0, none), (5, 0, none), (6, 0, none)], [], fun a c h => match a, c with
    | [x1, x2, x3, x4, x5, x6], [] => bk x1 x2 x3 x4 x5 x6 h
    | _, _ => none),
  (94, [(0, 16, (some 113)), (1, 0, none), (2, 0, none), (3, 0, none), (4, 0, none), (5, 0, none)], [], fun a c _ => match a, c with
    | [x1, x2, x3, x4, x5], [] => some (x1, x2, x3, x4, x5)
    | _, _ => none),
  (71, [(0, 16, (some 113)), (1, 0, none), (2, 0, none), (4, 0, none), (5, 0, none), (6, 0, none)], [(0, none)], fun a c h => match a, c with
    | [x1, x2, x4, x5, x6], [z0] => JX12_meets_71 n bk x1 x2 x4 x5 x6 z0 h
    | _, _ => none)]
def KX12_meets_26 (n : Nat) (bk : Int → Int → Int → Int → Int → Hp → Option (Int × Int × Int × Int)) : CT (Int × Int × Int × Int) := [(26, [(0, 16, (some 113)), (1, 0, none), (2, 0, none), (3, 0, none), (4, 0, none), (5, 0, none)], [], fun a c h => match a, c with
    | [x1, x2, x3, x4, x5], [] => bk x1 x2 x3 x4 x5 h
    | _, _ => none),
  (100, [(1, 0, none), (2, 0, none), (3, 0, none), (4, 0, none)], [], fun a c _ => match a, c with
    | [x1, x2, x3, x4], [] => some (x1, x2, x3, x4)
    | _, _ => none),
  (94, [(0, 16, (some 113)), (1, 0, none), (2, 0, none), (3, 0, none), (4, 0, none), (5, 0, none)], [], fun a c h => match a, c with
    | [x1, x2, x3, x4, x5], [] => JX12_meets_94 n bk x1 x2 x3 x4 x5 h
    | _, _ => none),
  (41, [(0, 16, (some 113)), (1, 0, none), (2, 0, none), (3, 0, none), (4, 0, none), (5, 0, none), (6, 0, none)], [], fun a c h => match a, c with
    | [x1, x2, x3, x4, x5, x6], [] => LX12_meets_41 n bk x1 x2 x3 x4 x5 x6 h
    | _, _ => none)]
set_option maxRecDepth 100000 in
theorem eJX12_meets_71 (n : Nat) (bk : Int → Int → Int → Int → Int → Int → Hp → Option (Int × Int × Int × Int × Int)) (x1 : Int) (x2 : Int) (x4 : Int) (x5 : Int) (x6 : Int) (z0 : Int) (h : Hp) : JX12_meets_71 n bk x1 x2 x4 x5 x6 z0 h =
  goAt false (kct (KX12_meets_41 n bk)) (fun _ _ => none) (fsX12_meets n _) sdX12_meets 1000 71 [(0, 16, 113), (1, 0, x1), (2, 0, x2), (4, 0, x4), (5, 0, x5), (6, 0, x6)] [(0, z0)] h := rfl
set_option maxRecDepth 100000 in
theorem eBX12_meets_41 (n f : Nat) (x1 : Int) (x2 : Int) (x3 : Int) (x4 : Int) (x5 : Int) (x6 : Int) (h : Hp) : BX12_meets_41 n (f + 1) x1 x2 x3 x4 x5 x6 h =
  goAt false (kct (KX12_meets_41 n (BX12_meets_41 n f))) (fun _ _ => none) (fsX12_meets n _) sdX12_meets 1000 41 [(0, 16, 113), (1, 0, x1), (2, 0, x2), (3, 0, x3), (4, 0, x4), (5, 0, x5), (6, 0, x6)] [] h := rfl
set_option maxRecDepth 100000 in
theorem eJX12_meets_94 (n : Nat) (bk : Int → Int → Int → Int → Int → Hp → Option (Int × Int × Int × Int)) (x1 : Int) (x2 : Int) (x3 : Int) (x4 : Int) (x5 : Int) (h : Hp) : JX12_meets_94 n bk x1 x2 x3 x4 x5 h =
  goAt false (kct (KX12_meets_26 n bk)) (fun _ _ => none) (fsX12_meets n _) sdX12_meets 1000 94 [(0, 16, 113), (1, 0, x1), (2, 0, x2), (3, 0, x3), (4, 0, x4), (5, 0, x5)] [] h := rfl
set_option maxRecDepth 100000 in
theorem eBX12_meets_26 (n f : Nat) (x1 : Int) (x2 : Int) (x3 : Int) (x4 : Int) (x5 : Int) (h : Hp) : BX12_meets_26 n (f + 1) x1 x2 x3 x4 x5 h =
  goAt false (kct (KX12_meets_26 n (BX12_meets_26 n f))) (fun _ _ => none) (fsX12_meets n _) sdX12_meets 1000 26 [(0, 16, 113), (1, 0, x1), (2, 0, x2), (3, 0, x3), (4, 0, x4), (5, 0, x5)] [] h := rfl
set_option maxRecDepth 100000 in
theorem eJX12_meets_100 (n : Nat) (x1 : Int) (x2 : Int) (x3 : Int) (x4 : Int) (h : Hp) : JX12_meets_100 n x1 x2 x3 x4 h =
  goAt false (kct (KX12_meets n)) (fun v _ => some (v)) (fsX12_meets n _) sdX12_meets 1000 100 [(1, 0, x1), (2, 0, x2), (3, 0, x3), (4, 0, x4)] [] h := rfl
set_option maxRecDepth 100000 in
theorem eMX12_meets (n : Nat) (x1 : Int) (h : Hp) : MX12_meets n x1 h =
  goAt false (kct (KX12_meets n)) (fun v _ => some (v)) (fsX12_meets n _) sdX12_meets 1000 0 [(0, 16, 113), (1, 0, x1)] [] h := rfl
end
