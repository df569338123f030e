/-- the kinds of each object's fields, by its number -/
def ftl : List (List Nat) := [[284, 284, 284, 0], [8, 20220, 0], [74, 0], [6364, 0], [14, 0, 0, 0, 532, 532, 532, 540], [184, 0, 0], [13, 4, 1988, 84, 84, 84, 46, 14, 0, 0, 0, 0, 0, 0, 0], [14, 50, 540, 540, 0, 532, 0, 532, 532, 532, 0, 0, 0, 0], [0, 0, 0, 0, 0, 0, 0], [3220, 0, 0, 0, 0, 0], [68, 50, 532, 532, 532, 532, 532, 532, 532, 0, 0, 0, 0, 0, 0], [13, 10, 14, 14, 11, 5, 5, 12, 12, 9, 48, 46, 41, 7, 60], [84, 84, 0, 0, 0, 0, 0, 0, 1940, 85, 84, 1580, 532, 532, 1580, 532, 532, 532, 540, 3223, 0, 0, 0, 0, 0, 44, 0, 0, 285, 285, 0, 68, 0, 0, 532, 532, 532, 532, 532, 532, 0, 0, 0, 0, 0, 0, 0, 0, 0, 0, 0, 0, 0, 980, 0, 540, 6364, 540, 540, 0, 6164, 36, 532, 164, 46]]
/-- the kind of each cell -/
def kdl : List Nat := [15, 14, 68, 50, 540, 540, 540, 532, 532, 532, 532, 532, 532, 532, 14, 68, 50, 540, 540, 540, 532, 532, 532, 532, 532, 532, 532, 13, 3220, 10, 4, 284, 284, 284, 1988, 84, 84, 84, 46, 11, 50, 540, 540, 540, 540, 540, 532, 532, 532, 532, 5, 20220, 8, 532, 532, 532, 540, 5, 20220, 8, 532, 532, 532, 540, 12, 12, 9, 184, 12, 12, 12, 12, 12, 12, 12, 12, 12, 12, 12, 12, 12, 12, 12, 12, 12, 12, 12, 12, 48, 12, 12, 12, 46, 41, 6, 74, 532, 532, 532, 532, 532, 532, 6, 74, 532, 532, 532, 532, 532, 532, 7, 6364, 60, 16, 84, 84, 1940, 85, 84, 1580, 532, 532, 1580, 532, 532, 532, 540, 3223, 44, 285, 285, 68, 532, 532, 532, 532, 532, 532, 980, 540, 6364, 540, 540, 6164, 36, 532, 164, 46]
/-- of each object's field that never changes and names a cell: how far that cell is behind the object's own (and 1000), else 0 -/
def dll : List (List Nat) := [[1001, 1002, 1003, 0], [1002, 1001, 0], [1001, 0], [1001, 0], [0, 0, 0, 0, 1001, 1002, 1003, 1004], [1001, 0, 0], [998, 1001, 1005, 1006, 1007, 1008, 1009, 0, 0, 0, 0, 0, 0, 0, 0], [0, 1001, 1005, 1006, 0, 1007, 0, 1008, 1009, 1010, 0, 0, 0, 0], [0, 0, 0, 0, 0, 0, 0], [1001, 0, 0, 0, 0, 0], [1001, 1002, 1006, 1007, 1008, 1009, 1010, 1011, 1012, 0, 0, 0, 0, 0, 0], [1027, 1029, 0, 0, 1039, 1050, 1057, 1064, 1065, 1066, 1088, 1092, 1093, 1110, 1112], [1001, 1002, 0, 0, 0, 0, 0, 0, 1003, 1004, 1005, 1006, 1007, 1008, 1009, 1010, 1011, 1012, 1013, 1014, 0, 0, 0, 0, 0, 1015, 0, 0, 1016, 1017, 0, 1018, 0, 0, 1019, 1020, 1021, 1022, 1023, 1024, 0, 0, 0, 0, 0, 0, 0, 0, 0, 0, 0, 0, 0, 1025, 0, 1026, 1027, 1028, 1029, 0, 1030, 1031, 1032, 1033, 1034]]
def kd (k : Nat) : Nat := kdl.getD k 0
def fts (c : Nat) : List Nat := ftl.getD c []
def isz (t : Nat) : Nat := match Nat.ble 20 t with
  | true => (t - 20) / 8
  | false => (fts (t - 4)).length
def itag (t i : Nat) : Nat := match Nat.ble 20 t with
  | true => aetag t
  | false => (fts (t - 4)).getD i 0
/-- what a new slot holds -/
def dflt (t : Nat) (i : Int) : Int := match Nat.ble 2 (itag t i.toNat) with
  | true => -1
  | false => 0
def alc (h : Hp) (t : Nat) : Hp := fun b i => if b = cnt h then dflt t i else if b = -1 ∧ i = 0 then cnt h + 1 else h b i
/-- new T[k][m]: the outer row, then the inner ones -/
def alcs (t : Nat) : Nat → Hp → Hp
  | 0, h => h
  | k + 1, h => alc (alcs t k h) t
def alcm (h : Hp) (t : Nat) (k : Nat) : Hp := fun b i => if b = cnt h ∧ 0 ≤ i ∧ i < Int.ofNat k then cnt h + 1 + i else alcs (aetag t) k (alc h t) b i
def nn {ρ : Type} (g : Bool) (o : Int) (x : Option ρ) : Option ρ := match g with
  | false => x
  | true => match decide (0 ≤ o) with
    | true => x
    | false => none
/-- one instruction: k goes on behind it, j at another place, fin leaves the method -/
def sem {ρ : Type} (g : Bool) (fs : List (FN ρ)) (fin : Int → Hp → Option ρ) (ins : Instr) (res : List Nat) (rv : Int) (pc : Nat) (k : Lc → List AV → Hp → Option ρ) (j : Nat → Lc → List AV → Hp → Option ρ) (L : Lc) (S : List AV) (h : Hp) : Option ρ :=
  match ins with
  | .iload i => ldT L i 0 (fun x => k L ((0, x) :: S) h)
  | .iload_n i => ldT L i.val 0 (fun x => k L ((0, x) :: S) h)
  | .lload i => ldT L i 1 (fun x => k L ((1, x) :: S) h)
  | .lload_n i => ldT L i.val 1 (fun x => k L ((1, x) :: S) h)
  | .aload i => ldR L i (fun t x => k L ((t, x) :: S) h)
  | .aload_n i => ldR L i.val (fun t x => k L ((t, x) :: S) h)
  | .istore i => match S with
    | (0, x) :: r => ltt x (fun y => st1 L i (0, y) (fun L' => k L' r h))
    | _ => none
  | .istore_n i => match S with
    | (0, x) :: r => ltt x (fun y => st1 L i.val (0, y) (fun L' => k L' r h))
    | _ => none
  | .lstore i => match S with
    | (1, x) :: r => ltt x (fun y => st2 L i (1, y) (fun L' => k L' r h))
    | _ => none
  | .lstore_n i => match S with
    | (1, x) :: r => ltt x (fun y => st2 L i.val (1, y) (fun L' => k L' r h))
    | _ => none
  | .astore i => match S with
    | (t, x) :: r => match Nat.ble 4 t with
      | true => st1 L i (t, x) (fun L' => k L' r h)
      | false => none
    | _ => none
  | .astore_n i => match S with
    | (t, x) :: r => match Nat.ble 4 t with
      | true => st1 L i.val (t, x) (fun L' => k L' r h)
      | false => none
    | _ => none
  | .iinc i c => ldT L i 0 (fun x => ltt (w32 (x + c)) (fun y => st1 L i (0, y) (fun L' => k L' S h)))
  | .iconst c => k L ((0, c) :: S) h
  | .bipush c => k L ((0, c) :: S) h
  | .sipush c => k L ((0, c) :: S) h
  | .lconst c => k L ((1, Int.ofNat c.val) :: S) h
  | .ldc _ => match res with
    | t :: _ => match Nat.ble t 2 with
      | true => k L ((t, rv) :: S) h
      | false => none
    | _ => none
  | .ldc_w _ => k L ((0, rv) :: S) h
  | .ldc2_w _ => k L ((1, rv) :: S) h
  | .iadd => match S with
    | (0, y) :: (0, x) :: r => k L ((0, w32 (x + y)) :: r) h
    | _ => none
  | .isub => match S with
    | (0, y) :: (0, x) :: r => k L ((0, w32 (x - y)) :: r) h
    | _ => none
  | .imul => match S with
    | (0, y) :: (0, x) :: r => k L ((0, w32 (x * y)) :: r) h
    | _ => none
  | .idiv => match S with
    | (0, y) :: (0, x) :: r => grd (¬ y = 0) (k L ((0, w32 (x.tdiv y)) :: r) h)
    | _ => none
  | .irem => match S with
    | (0, y) :: (0, x) :: r => grd (¬ y = 0) (k L ((0, w32 (x - w32 (w32 (x.tdiv y) * y))) :: r) h)
    | _ => none
  | .ineg => match S with
    | (0, x) :: r => k L ((0, w32 (-x)) :: r) h
    | _ => none
  | .iand => match S with
    | (0, y) :: (0, x) :: r => k L ((0, iand x y) :: r) h
    | _ => none
  | .ior => match S with
    | (0, y) :: (0, x) :: r => k L ((0, ior x y) :: r) h
    | _ => none
  | .ishl => match S with
    | (0, y) :: (0, x) :: r => k L ((0, ishl x y) :: r) h
    | _ => none
  | .ishr => match S with
    | (0, y) :: (0, x) :: r => k L ((0, ishr x y) :: r) h
    | _ => none
  | .iushr => match S with
    | (0, y) :: (0, x) :: r => k L ((0, iushr x y) :: r) h
    | _ => none
  | .lshl => match S with
    | (0, y) :: (1, x) :: r => k L ((1, lshl x y) :: r) h
    | _ => none
  | .lshr => match S with
    | (0, y) :: (1, x) :: r => k L ((1, lshr x y) :: r) h
    | _ => none
  | .lushr => match S with
    | (0, y) :: (1, x) :: r => k L ((1, lushr x y) :: r) h
    | _ => none
  | .lor => match S with
    | (1, y) :: (1, x) :: r => k L ((1, lor x y) :: r) h
    | _ => none
  | .ladd => match S with
    | (1, y) :: (1, x) :: r => k L ((1, w64 (x + y)) :: r) h
    | _ => none
  | .lsub => match S with
    | (1, y) :: (1, x) :: r => k L ((1, w64 (x - y)) :: r) h
    | _ => none
  | .lmul => match S with
    | (1, y) :: (1, x) :: r => k L ((1, w64 (x * y)) :: r) h
    | _ => none
  | .ldiv => match S with
    | (1, y) :: (1, x) :: r => grd (¬ y = 0) (k L ((1, w64 (x.tdiv y)) :: r) h)
    | _ => none
  | .lneg => match S with
    | (1, x) :: r => k L ((1, w64 (-x)) :: r) h
    | _ => none
  | .lcmp => match S with
    | (1, y) :: (1, x) :: r => k L ((0, lcp x y) :: r) h
    | _ => none
  | .i2l => match S with
    | (0, x) :: r => k L ((1, x) :: r) h
    | _ => none
  | .l2i => match S with
    | (1, x) :: r => k L ((0, w32 x) :: r) h
    | _ => none
  | .i2b => match S with
    | (0, x) :: r => k L ((0, w8 x) :: r) h
    | _ => none
  | .dup => match S with
    | (t, x) :: r => match Nat.beq t 1 with
      | true => none
      | false => k L ((t, x) :: (t, x) :: r) h
    | _ => none
  | .dup2 => match S with
    | (t, x) :: r => match Nat.beq t 1 with
      | true => k L ((t, x) :: (t, x) :: r) h
      | false => match r with
        | (t2, x2) :: r2 => match Nat.beq t2 1 with
          | true => none
          | false => k L ((t, x) :: (t2, x2) :: (t, x) :: (t2, x2) :: r2) h
        | _ => none
    | _ => none
  | .pop => match S with
    | (t, _) :: r => match Nat.beq t 1 with
      | true => none
      | false => k L r h
    | _ => none
  | .ifCond c off => match S with
    | (0, x) :: r => match c with
      | .eq => if x = 0 then j (tgt pc off) L r h else k L r h
      | .ne => if x ≠ 0 then j (tgt pc off) L r h else k L r h
      | .lt => if x < 0 then j (tgt pc off) L r h else k L r h
      | .ge => if 0 ≤ x then j (tgt pc off) L r h else k L r h
      | .gt => if 0 < x then j (tgt pc off) L r h else k L r h
      | .le => if x ≤ 0 then j (tgt pc off) L r h else k L r h
    | _ => none
  | .if_icmp c off => match S with
    | (0, y) :: (0, x) :: r => match c with
      | .eq => if x = y then j (tgt pc off) L r h else k L r h
      | .ne => if x ≠ y then j (tgt pc off) L r h else k L r h
      | .lt => if x < y then j (tgt pc off) L r h else k L r h
      | .ge => if y ≤ x then j (tgt pc off) L r h else k L r h
      | .gt => if y < x then j (tgt pc off) L r h else k L r h
      | .le => if x ≤ y then j (tgt pc off) L r h else k L r h
    | _ => none
  | .goto off => j (tgt pc off) L S h
  | .tableswitch d lo _ offs => match S with
    | (0, x) :: r => tsl x pc (fun t => j t L r h) d offs.toList lo
    | _ => none
  | .lookupswitch d ps => match S with
    | (0, x) :: r => lsl x pc (fun t => j t L r h) d ps.toList
    | _ => none
  | .ireturn => match S with
    | [(0, x)] => match res with
      | [] => fin x h
      | _ => grd (x = 0 ∨ x = 1) (fin x h)
    | _ => none
  | .lreturn => match S with
    | [(1, x)] => fin x h
    | _ => none
  | .areturn => match S with
    | [(2, x)] => fin x h
    | _ => none
  | .return_ => match S with
    | [] => fin 0 h
    | _ => none
  | .getfield _ => match S with
    | (t, o) :: r => match res with
      | c :: s :: ft :: fx :: _ => match Nat.beq t (4 + c) with
        | true => match g with
          | false => match fx with
            | 0 => k L ((ft, h o (Int.ofNat s)) :: r) h
            | _ => k L ((ft, o + rv) :: r) h
          | true => nn true o (k L ((ft, h o (Int.ofNat s)) :: r) h)
        | false => none
      | _ => none
    | _ => none
  | .putfield _ => match S with
    | (tv, v) :: (t, o) :: r => match res with
      | c :: s :: ft :: fx :: z :: _ => match Nat.beq t (4 + c) && Nat.beq tv ft && (g || Nat.beq fx 0) with
        | true => match z with
          | 0 => nn g o (ltt (up h o (Int.ofNat s) v) (fun h' => k L r h'))
          | _ => nn g o (grd (v = 0 ∨ v = 1) (ltt (up h o (Int.ofNat s) v) (fun h' => k L r h')))
        | false => none
      | _ => none
    | _ => none
  | .iaload => match S with
    | (0, i) :: (t, a) :: r => match Nat.beq t 3 with
      | true => grd (0 ≤ i ∧ i < h (-1) 1) (k L ((0, h (-2) i) :: r) h)
      | false => match Nat.ble 20 t && Nat.beq (aknd t) 0 with
        | true => nn g a (grd (0 ≤ i ∧ i < alen t) (k L ((0, h a i) :: r) h))
        | false => none
    | _ => none
  | .laload => match S with
    | (0, i) :: (t, a) :: r => match Nat.ble 20 t && Nat.beq (aknd t) 1 with
      | true => nn g a (grd (0 ≤ i ∧ i < alen t) (k L ((1, h a i) :: r) h))
      | false => none
    | _ => none
  | .baload => match S with
    | (0, i) :: (t, a) :: r => match Nat.ble 20 t && (Nat.beq (aknd t) 2 || Nat.beq (aknd t) 3) with
      | true => nn g a (grd (0 ≤ i ∧ i < alen t) (k L ((0, h a i) :: r) h))
      | false => none
    | _ => none
  | .aaload => match S with
    | (0, i) :: (t, a) :: r => match Nat.ble 20 t && Nat.ble 4 (aknd t) with
      | true => match g with
        | false => match aknd t with
          | 5 => grd (0 ≤ i ∧ i < alen t) (k L ((aetag t, a + 1 + 8 * i) :: r) h)
          | _ => grd (0 ≤ i ∧ i < alen t) (k L ((aetag t, a + 1 + i) :: r) h)
        | true => nn true a (grd (0 ≤ i ∧ i < alen t) (k L ((aetag t, h a i) :: r) h))
      | false => none
    | _ => none
  | .iastore => match S with
    | (0, v) :: (0, i) :: (t, a) :: r => match Nat.ble 20 t && Nat.beq (aknd t) 0 with
      | true => nn g a (grd (0 ≤ i ∧ i < alen t) (ltt (up h a i v) (fun h' => k L r h')))
      | false => none
    | _ => none
  | .lastore => match S with
    | (1, v) :: (0, i) :: (t, a) :: r => match Nat.ble 20 t && Nat.beq (aknd t) 1 with
      | true => nn g a (grd (0 ≤ i ∧ i < alen t) (ltt (up h a i v) (fun h' => k L r h')))
      | false => none
    | _ => none
  | .bastore => match S with
    | (0, v) :: (0, i) :: (t, a) :: r => match Nat.ble 20 t && Nat.beq (aknd t) 2 with
      | true => nn g a (grd (0 ≤ i ∧ i < alen t) (ltt (up h a i (v % 2)) (fun h' => k L r h')))
      | false => match Nat.ble 20 t && Nat.beq (aknd t) 3 with
        | true => nn g a (grd (0 ≤ i ∧ i < alen t) (ltt (up h a i (w8 v)) (fun h' => k L r h')))
        | false => none
    | _ => none
  | .aastore => match S with
    | (tv, v) :: (0, i) :: (t, a) :: r => match g && Nat.ble 20 t && (Nat.beq (aknd t) 4 || Nat.beq (aknd t) 5) && Nat.beq tv (aetag t) && decide (0 ≤ v) with
      | true => nn g a (grd (0 ≤ i ∧ i < alen t) (ltt (up h a i v) (fun h' => k L r h')))
      | false => none
    | _ => none
  | .arraylength => match S with
    | (t, a) :: r => match Nat.beq t 3 with
      | true => k L ((0, h (-1) 1) :: r) h
      | false => match Nat.ble 20 t with
        | true => nn g a (k L ((0, alen t) :: r) h)
        | false => none
    | _ => none
  | .invokevirtual _ => match res with
    | rt :: f :: _ :: _ :: _ :: ts => popA ts S [] (fun a r => match Nat.ble (dpt r) 8 with
      | true => nn g (a.headD 0) (nthF fs f (fun fn => fn a h (fun v h' => match rt with
        | 0 => k L r h'
        | t + 1 => k L ((t, v) :: r) h')))
      | false => none)
    | _ => none
  | .invokestatic _ => match res with
    | rt :: f :: _ :: _ :: _ :: ts => popA ts S [] (fun a r => match Nat.ble (dpt r) 8 with
      | true => nthF fs f (fun fn => fn a h (fun v h' => match rt with
        | 0 => k L r h'
        | t + 1 => k L ((t, v) :: r) h'))
      | false => none)
    | _ => none
  | .invokespecial _ => match res with
    | rt :: f :: kd :: _ :: _ :: ts => match kd with
      | 0 => match S with
        | (t, o) :: r => match Nat.ble 4 t && Nat.ble (dpt r) 8 && decide (0 ≤ o) with
          | true => k L r h
          | false => none
        | _ => none
      | _ => popA ts S [] (fun a r => match Nat.ble (dpt r) 8 && g with
        | true => nn g (a.headD 0) (nthF fs f (fun fn => fn a h (fun v h' => match rt with
          | 0 => k L r h'
          | t + 1 => k L ((t, v) :: r) h')))
        | false => none)
    | _ => none
  | .new _ => match res with
    | c :: _ => match g && Nat.beq (kd (cnt h).toNat) (4 + c) with
      | true => ltt (alc h (4 + c)) (fun h' => k L ((4 + c, cnt h) :: S) h')
      | false => none
    | _ => none
  | .newarray _ => match S with
    | (0, m) :: r => match res with
      | e :: _ => match g && decide (0 ≤ m) && Nat.beq (kd (cnt h).toNat) (20 + 8 * m.toNat + e) with
        | true => ltt (alc h (20 + 8 * m.toNat + e)) (fun h' => k L ((20 + 8 * m.toNat + e, cnt h) :: r) h')
        | false => none
      | _ => none
    | _ => none
  | .anewarray _ => match S with
    | (0, m) :: r => match res with
      | e :: _ => match g && decide (0 ≤ m) && Nat.beq (kd (cnt h).toNat) (20 + 8 * m.toNat + e) with
        | true => ltt (alc h (20 + 8 * m.toNat + e)) (fun h' => k L ((20 + 8 * m.toNat + e, cnt h) :: r) h')
        | false => none
      | _ => none
    | _ => none
  | .multianewarray _ _ => match S with
    | (0, m) :: (0, q) :: r => match g && decide (0 ≤ q) && decide (0 ≤ m) && Nat.beq (kd (cnt h).toNat) (20 + 8 * q.toNat + 6) && Nat.beq (aetag (20 + 8 * q.toNat + 6)) (20 + 8 * m.toNat) && (List.range q.toNat).all (fun i => Nat.beq (kd ((cnt h).toNat + 1 + i)) (20 + 8 * m.toNat)) with
      | true => ltt (alcm h (20 + 8 * q.toNat + 6) q.toNat) (fun h' => k L ((20 + 8 * q.toNat + 6, cnt h) :: r) h')
      | false => none
    | _ => none
  | _ => none
def seek {ρ : Type} : SD → Nat → (List SI → Option ρ) → Option ρ
  | [], _, _ => none
  | (b, l) :: rest, t, kk => match Nat.beq b t with
    | true => kk l
    | false => seek rest t kk
/-- goes on at a place: a cut point's own value, or the instructions that stand there -/
def ent {ρ : Type} (K : Nat → Lc → List AV → Hp → Option (Option ρ)) (sd : SD) (go : List SI → Lc → List AV → Hp → Option ρ) (t : Nat) (L : Lc) (S : List AV) (h : Hp) : Option ρ := match K t L S h with
  | some x => x
  | none => seek sd t (fun r => go r L S h)
def go {ρ : Type} (g : Bool) (K : Nat → Lc → List AV → Hp → Option (Option ρ)) (fin : Int → Hp → Option ρ) (fs : List (FN ρ)) (sd : SD) : Nat → List SI → Lc → List AV → Hp → Option ρ
  | 0, _, _, _, _ => none
  | _ + 1, [], _, _, _ => none
  | f + 1, (pc, ins, len, res, rv) :: r, L, S, h => sem g fs fin ins res rv pc
      (fun L' S' h' => match r with
        | [] => ent K sd (go g K fin fs sd f) (pc + len) L' S' h'
        | _ :: _ => go g K fin fs sd f r L' S' h')
      (fun t L' S' h' => ent K sd (go g K fin fs sd f) t L' S' h') L S h
def goAt {ρ : Type} (g : Bool) (K : Nat → Lc → List AV → Hp → Option (Option ρ)) (fin : Int → Hp → Option ρ) (fs : List (FN ρ)) (sd : SD) (f pc : Nat) (L : Lc) (S : List AV) (h : Hp) : Option ρ := seek sd pc (fun r => go g K fin fs sd f r L S h)
/-- a table of cut points: where, which locals (place, kind, and what it must be), which kinds on the stack, its value -/
def getC {ρ : Type} (c : Option Int) (v : Int) (K : (List Int → List Int) → Option (Option ρ)) : Option (Option ρ) := match c with
  | none => K (fun a => v :: a)
  | some x => match decide (v = x) with
    | true => K (fun a => a)
    | false => some none
def fndL {ρ : Type} : Lc → Nat → (AV → Option (Option ρ)) → Option (Option ρ)
  | [], _, _ => some none
  | (j, v) :: t, i, K => match Nat.beq j i with
    | true => K v
    | false => fndL t i K
def getL {ρ : Type} : List (Nat × Nat × Option Int) → Lc → (List Int → Option (Option ρ)) → Option (Option ρ)
  | [], _, K => K []
  | (i, t, c) :: l, L, K => fndL L i (fun v => match Nat.beq t v.1 with
    | true => getC c v.2 (fun w => getL l L (fun a => K (w a)))
    | false => some none)
def getS {ρ : Type} : List (Nat × Option Int) → List AV → (List Int → Option (Option ρ)) → Option (Option ρ)
  | [], [], K => K []
  | (t, c) :: ts, (t', v) :: S, K => match Nat.beq t t' with
    | true => getC c v (fun w => getS ts S (fun a => K (w a)))
    | false => some none
  | _, _, _ => some none
abbrev CT (ρ : Type) := List (Nat × List (Nat × Nat × Option Int) × List (Nat × Option Int) × (List Int → List Int → Hp → Option ρ))
def kct {ρ : Type} : CT ρ → Nat → Lc → List AV → Hp → Option (Option ρ)
  | [], _, _, _, _ => none
  | (b, ls, ss, f) :: l, t, L, S, h => match Nat.beq b t with
    | true => getL ls L (fun a => getS ss S (fun c => some (f a c h)))
    | false => kct l t L S h
