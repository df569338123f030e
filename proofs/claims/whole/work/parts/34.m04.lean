/-! X12_copiesProgram -/
def sdX12_copiesProgram : SD := [(0, [(0, .iconst 0, 1, [], 0), (1, .istore_n 1, 1, [], 0)]),
  (2, [(2, .iload_n 1, 1, [], 0), (3, .bipush 8, 2, [], 0), (5, .if_icmp .ge 21, 3, [], 0)]),
  (8, [(8, .aload_n 0, 1, [], 0), (9, .getfield 15, 3, [12, 1, 84, 1, 1323, 0], 2), (12, .iload_n 1, 1, [], 0), (13, .aload_n 0, 1, [], 0), (14, .getfield 11, 3, [12, 0, 84, 1, 1322, 0], 1), (17, .iload_n 1, 1, [], 0), (18, .iaload, 1, [], 0), (19, .iastore, 1, [], 0), (20, .iinc 1 1, 3, [], 0), (23, .goto (-21), 3, [], 0)]),
  (26, [(26, .aload_n 0, 1, [], 0), (27, .aload_n 0, 1, [], 0), (28, .getfield 127, 3, [12, 2, 0, 0, 1324, 0], 0), (31, .putfield 137, 3, [12, 5, 0, 0, 0, 1327], 0), (34, .aload_n 0, 1, [], 0), (35, .aload_n 0, 1, [], 0), (36, .getfield 131, 3, [12, 3, 0, 0, 1325, 0], 0), (39, .putfield 140, 3, [12, 6, 0, 0, 0, 1328], 0), (42, .aload_n 0, 1, [], 0), (43, .aload_n 0, 1, [], 0), (44, .getfield 134, 3, [12, 4, 0, 0, 1326, 0], 0), (47, .putfield 143, 3, [12, 7, 0, 0, 0, 1329], 0), (50, .iconst 0, 1, [], 0), (51, .istore_n 1, 1, [], 0)]),
  (52, [(52, .iload_n 1, 1, [], 0), (53, .iconst 3, 1, [], 0), (54, .aload_n 0, 1, [], 0), (55, .getfield 140, 3, [12, 6, 0, 0, 1328, 0], 0), (58, .iconst 1, 1, [], 0), (59, .iadd, 1, [], 0), (60, .imul, 1, [], 0), (61, .if_icmp .ge 21, 3, [], 0)]),
  (64, [(64, .aload_n 0, 1, [], 0), (65, .getfield 37, 3, [12, 14, 1580, 1, 1336, 0], 9), (68, .iload_n 1, 1, [], 0), (69, .aload_n 0, 1, [], 0), (70, .getfield 28, 3, [12, 11, 1580, 1, 1333, 0], 6), (73, .iload_n 1, 1, [], 0), (74, .iaload, 1, [], 0), (75, .iastore, 1, [], 0), (76, .iinc 1 1, 3, [], 0), (79, .goto (-27), 3, [], 0)]),
  (82, [(82, .aload_n 0, 1, [], 0), (83, .getfield 49, 3, [12, 18, 540, 1, 1340, 0], 13), (86, .iconst 0, 1, [], 0), (87, .iconst 0, 1, [], 0), (88, .iastore, 1, [], 0), (89, .iconst 0, 1, [], 0), (90, .istore_n 1, 1, [], 0)]),
  (91, [(91, .iload_n 1, 1, [], 0), (92, .aload_n 0, 1, [], 0), (93, .getfield 140, 3, [12, 6, 0, 0, 1328, 0], 0), (96, .if_icmp .ge 95, 3, [], 0)]),
  (99, [(99, .aload_n 0, 1, [], 0), (100, .getfield 40, 3, [12, 15, 532, 1, 1337, 0], 10), (103, .iload_n 1, 1, [], 0), (104, .aload_n 0, 1, [], 0), (105, .getfield 31, 3, [12, 12, 532, 1, 1334, 0], 7), (108, .iload_n 1, 1, [], 0), (109, .iaload, 1, [], 0), (110, .iastore, 1, [], 0), (111, .aload_n 0, 1, [], 0), (112, .getfield 43, 3, [12, 16, 532, 1, 1338, 0], 11), (115, .iload_n 1, 1, [], 0), (116, .aload_n 0, 1, [], 0), (117, .getfield 34, 3, [12, 13, 532, 1, 1335, 0], 8), (120, .iload_n 1, 1, [], 0), (121, .iaload, 1, [], 0), (122, .iastore, 1, [], 0), (123, .aload_n 0, 1, [], 0), (124, .getfield 46, 3, [12, 17, 532, 1, 1339, 0], 12), (127, .iload_n 1, 1, [], 0), (128, .aload_n 0, 1, [], 0), (129, .iload_n 1, 1, [], 0), (130, .iconst 0, 1, [], 0), (131, .invokevirtual 146, 3, [1, 0, 1, 106, 1310, 0, 0, 16], 0), (134, .i2l, 1, [], 0), (135, .invokestatic 150, 3, [2, 1, 3, 92, 1314, 1], 0), (138, .aload_n 0, 1, [], 0), (139, .iload_n 1, 1, [], 0), (140, .iconst 1, 1, [], 0), (141, .invokevirtual 146, 3, [1, 0, 1, 106, 1310, 0, 0, 16], 0), (144, .i2l, 1, [], 0), (145, .invokestatic 150, 3, [2, 1, 3, 92, 1314, 1], 0), (148, .ladd, 1, [], 0), (149, .aload_n 0, 1, [], 0), (150, .iload_n 1, 1, [], 0), (151, .iconst 2, 1, [], 0), (152, .invokevirtual 146, 3, [1, 0, 1, 106, 1310, 0, 0, 16], 0), (155, .i2l, 1, [], 0), (156, .invokestatic 150, 3, [2, 1, 3, 92, 1314, 1], 0), (159, .ladd, 1, [], 0), (160, .invokestatic 154, 3, [1, 2, 3, 93, 1317, 1], 0), (163, .iastore, 1, [], 0), (164, .aload_n 0, 1, [], 0), (165, .getfield 49, 3, [12, 18, 540, 1, 1340, 0], 13), (168, .iload_n 1, 1, [], 0), (169, .iconst 1, 1, [], 0), (170, .iadd, 1, [], 0), (171, .aload_n 0, 1, [], 0), (172, .getfield 49, 3, [12, 18, 540, 1, 1340, 0], 13), (175, .iload_n 1, 1, [], 0), (176, .iaload, 1, [], 0), (177, .aload_n 0, 1, [], 0), (178, .getfield 46, 3, [12, 17, 532, 1, 1339, 0], 12), (181, .iload_n 1, 1, [], 0), (182, .iaload, 1, [], 0), (183, .iadd, 1, [], 0), (184, .iastore, 1, [], 0), (185, .iinc 1 1, 3, [], 0), (188, .goto (-97), 3, [], 0)]),
  (191, [(191, .aload_n 0, 1, [], 0), (192, .bipush 100, 2, [], 0), (194, .putfield 158, 3, [12, 45, 0, 0, 0, 1367], 0), (197, .aload_n 0, 1, [], 0), (198, .iconst 0, 1, [], 0), (199, .putfield 161, 3, [12, 47, 0, 0, 1, 1369], 0), (202, .aload_n 0, 1, [], 0), (203, .iconst 0, 1, [], 0), (204, .putfield 165, 3, [12, 42, 0, 0, 0, 1364], 0), (207, .aload_n 0, 1, [], 0), (208, .iconst 0, 1, [], 0), (209, .putfield 168, 3, [12, 43, 0, 0, 0, 1365], 0), (212, .aload_n 0, 1, [], 0), (213, .iconst 0, 1, [], 0), (214, .putfield 171, 3, [12, 44, 0, 0, 0, 1366], 0), (217, .aload_n 0, 1, [], 0), (218, .iconst 0, 1, [], 0), (219, .putfield 174, 3, [12, 46, 0, 0, 0, 1368], 0), (222, .aload_n 0, 1, [], 0), (223, .iconst 0, 1, [], 0), (224, .putfield 177, 3, [12, 54, 0, 0, 0, 1376], 0), (227, .iconst 0, 1, [], 0), (228, .istore_n 1, 1, [], 0)]),
  (229, [(229, .iload_n 1, 1, [], 0), (230, .iconst 3, 1, [], 0), (231, .if_icmp .ge 16, 3, [], 0)]),
  (234, [(234, .aload_n 0, 1, [], 0), (235, .getfield 113, 3, [12, 64, 46, 1, 1386, 0], 34), (238, .iload_n 1, 1, [], 0), (239, .iconst 0, 1, [], 0), (240, .bastore, 1, [], 0), (241, .iinc 1 1, 3, [], 0), (244, .goto (-15), 3, [], 0)]),
  (247, [(247, .return_, 1, [], 0)])]
def BX12_copiesProgram_2 (n : Nat) : Nat → Int → Hp → Option (Hp)
  | 0, _, _ => none
  | f + 1, x1, h =>
    (if 8 ≤ x1 then
    (some (h))
    else
    (grd (0 ≤ x1 ∧ x1 < alen 84)
    (grd (0 ≤ x1 ∧ x1 < alen 84)
    (ltt (up h 115 x1 (h 114 x1)) fun h1 =>
    (ltt (w32 (x1 + 1)) fun y1 =>
    (BX12_copiesProgram_2 n f y1 h1))))))
def BX12_copiesProgram_52 (n : Nat) : Nat → Int → Hp → Option (Hp)
  | 0, _, _ => none
  | f + 1, x1, h =>
    (if (w32 (3 * (w32 ((h 113 6) + 1)))) ≤ x1 then
    (some (h))
    else
    (grd (0 ≤ x1 ∧ x1 < alen 1580)
    (grd (0 ≤ x1 ∧ x1 < alen 1580)
    (ltt (up h 122 x1 (h 119 x1)) fun h1 =>
    (ltt (w32 (x1 + 1)) fun y1 =>
    (BX12_copiesProgram_52 n f y1 h1))))))
def BX12_copiesProgram_91 (n : Nat) : Nat → Int → Hp → Option (Hp)
  | 0, _, _ => none
  | f + 1, x1, h =>
    (if (h 113 6) ≤ x1 then
    (some (h))
    else
    (grd (0 ≤ x1 ∧ x1 < alen 532)
    (grd (0 ≤ x1 ∧ x1 < alen 532)
    (ltt (up h 123 x1 (h 120 x1)) fun h1 =>
    (grd (0 ≤ x1 ∧ x1 < alen 532)
    (grd (0 ≤ x1 ∧ x1 < alen 532)
    (ltt (up h1 124 x1 (h1 121 x1)) fun h2 =>
    (bndp (MX12_goes x1 0 h2) fun r1 =>
    (bndp (MX12_square r1) fun r2 =>
    (bndp (MX12_goes x1 1 h2) fun r3 =>
    (bndp (MX12_square r3) fun r4 =>
    (bndp (MX12_goes x1 2 h2) fun r5 =>
    (bndp (MX12_square r5) fun r6 =>
    (bndp (MX12_root n (w64 ((w64 (r2 + r4)) + r6))) fun r7 =>
    (grd (0 ≤ x1 ∧ x1 < alen 532)
    (ltt (up h2 125 x1 r7) fun h3 =>
    (grd (0 ≤ x1 ∧ x1 < alen 540)
    (grd (0 ≤ x1 ∧ x1 < alen 532)
    (grd (0 ≤ (w32 (x1 + 1)) ∧ (w32 (x1 + 1)) < alen 540)
    (ltt (up h3 126 (w32 (x1 + 1)) (w32 ((h3 126 x1) + (h3 125 x1)))) fun h4 =>
    (ltt (w32 (x1 + 1)) fun y1 =>
    (BX12_copiesProgram_91 n f y1 h4))))))))))))))))))))))
def BX12_copiesProgram_229 (n : Nat) : Nat → Int → Hp → Option (Hp)
  | 0, _, _ => none
  | f + 1, x1, h =>
    (if 3 ≤ x1 then
    (some h)
    else
    (grd (0 ≤ x1 ∧ x1 < alen 46)
    (ltt (up h 147 x1 (0 % 2)) fun h1 =>
    (ltt (w32 (x1 + 1)) fun y1 =>
    (BX12_copiesProgram_229 n f y1 h1)))))
def LX12_copiesProgram_229 (n : Nat) (x1 : Int) (h : Hp) : Option (Hp) :=
(BX12_copiesProgram_229 n n x1 h)
def JX12_copiesProgram_191 (n : Nat) (h : Hp) : Option (Hp) :=
(ltt (up h 113 45 100) fun h1 =>
(ltt (up h1 113 47 0) fun h2 =>
(ltt (up h2 113 42 0) fun h3 =>
(ltt (up h3 113 43 0) fun h4 =>
(ltt (up h4 113 44 0) fun h5 =>
(ltt (up h5 113 46 0) fun h6 =>
(ltt (up h6 113 54 0) fun h7 =>
(ltt 0 fun y1 =>
(LX12_copiesProgram_229 n y1 h7)))))))))
def LX12_copiesProgram_91 (n : Nat) (x1 : Int) (h : Hp) : Option (Hp) :=
(bndx (BX12_copiesProgram_91 n n x1 h) fun h1 =>
(JX12_copiesProgram_191 n h1))
def JX12_copiesProgram_82 (n : Nat) (h : Hp) : Option (Hp) :=
(grd (0 ≤ 0 ∧ 0 < alen 540)
(ltt (up h 126 0 0) fun h1 =>
(ltt 0 fun y1 =>
(LX12_copiesProgram_91 n y1 h1))))
def LX12_copiesProgram_52 (n : Nat) (x1 : Int) (h : Hp) : Option (Hp) :=
(bndx (BX12_copiesProgram_52 n n x1 h) fun h1 =>
(JX12_copiesProgram_82 n h1))
def JX12_copiesProgram_26 (n : Nat) (h : Hp) : Option (Hp) :=
(ltt (up h 113 5 (h 113 2)) fun h1 =>
(ltt (up h1 113 6 (h1 113 3)) fun h2 =>
(ltt (up h2 113 7 (h2 113 4)) fun h3 =>
(ltt 0 fun y1 =>
(LX12_copiesProgram_52 n y1 h3)))))
def LX12_copiesProgram_2 (n : Nat) (x1 : Int) (h : Hp) : Option (Hp) :=
(bndx (BX12_copiesProgram_2 n n x1 h) fun h1 =>
(JX12_copiesProgram_26 n h1))
def MX12_copiesProgram (n : Nat) (h : Hp) : Option (Hp) :=
(ltt 0 fun y1 =>
(LX12_copiesProgram_2 n y1 h))
def wX12_copiesProgram {ρ : Type} (n : Nat) : FN ρ := fun a h k => match a with
  | [_] => bndh (MX12_copiesProgram n h) (fun h2 => k 0 h2)
  | _ => none
def fsX12_copiesProgram (n : Nat) (ρ : Type) : List (FN ρ) := [wX12_goes, wX12_square, wX12_root n]
def KBX12_copiesProgram_2 (_ : Nat) (bk : Int → Hp → Option (Hp)) : CT (Hp) := [(2, [(0, 16, (some 113)), (1, 0, none)], [], fun a c h => match a, c with
    | [x1], [] => bk x1 h
    | _, _ => none),
  (26, [(0, 16, (some 113))], [], fun a c h => match a, c with
    | [], [] => some (h)
    | _, _ => none)]
set_option maxRecDepth 100000 in
theorem eBX12_copiesProgram_2 (n f : Nat) (x1 : Int) (h : Hp) : BX12_copiesProgram_2 n (f + 1) x1 h =
  goAt false (kct (KBX12_copiesProgram_2 n (BX12_copiesProgram_2 n f))) (fun _ _ => none) (fsX12_copiesProgram n _) sdX12_copiesProgram 1000 2 [(0, 16, 113), (1, 0, x1)] [] h := rfl
def KBX12_copiesProgram_52 (_ : Nat) (bk : Int → Hp → Option (Hp)) : CT (Hp) := [(52, [(0, 16, (some 113)), (1, 0, none)], [], fun a c h => match a, c with
    | [x1], [] => bk x1 h
    | _, _ => none),
  (82, [(0, 16, (some 113))], [], fun a c h => match a, c with
    | [], [] => some (h)
    | _, _ => none)]
set_option maxRecDepth 100000 in
theorem eBX12_copiesProgram_52 (n f : Nat) (x1 : Int) (h : Hp) : BX12_copiesProgram_52 n (f + 1) x1 h =
  goAt false (kct (KBX12_copiesProgram_52 n (BX12_copiesProgram_52 n f))) (fun _ _ => none) (fsX12_copiesProgram n _) sdX12_copiesProgram 1000 52 [(0, 16, 113), (1, 0, x1)] [] h := rfl
def KBX12_copiesProgram_91 (_ : Nat) (bk : Int → Hp → Option (Hp)) : CT (Hp) := [(91, [(0, 16, (some 113)), (1, 0, none)], [], fun a c h => match a, c with
    | [x1], [] => bk x1 h
    | _, _ => none),
  (191, [(0, 16, (some 113))], [], fun a c h => match a, c with
    | [], [] => some (h)
    | _, _ => none)]
set_option maxRecDepth 100000 in
theorem eBX12_copiesProgram_91 (n f : Nat) (x1 : Int) (h : Hp) : BX12_copiesProgram_91 n (f + 1) x1 h =
  goAt false (kct (KBX12_copiesProgram_91 n (BX12_copiesProgram_91 n f))) (fun _ _ => none) (fsX12_copiesProgram n _) sdX12_copiesProgram 1000 91 [(0, 16, 113), (1, 0, x1)] [] h := rfl
def KBX12_copiesProgram_229 (_ : Nat) (bk : Int → Hp → Option (Hp)) : CT (Hp) := [(229, [(0, 16, (some 113)), (1, 0, none)], [], fun a c h => match a, c with
    | [x1], [] => bk x1 h
    | _, _ => none)]
set_option maxRecDepth 100000 in
theorem eBX12_copiesProgram_229 (n f : Nat) (x1 : Int) (h : Hp) : BX12_copiesProgram_229 n (f + 1) x1 h =
  goAt false (kct (KBX12_copiesProgram_229 n (BX12_copiesProgram_229 n f))) (fun _ h => some (h)) (fsX12_copiesProgram n _) sdX12_copiesProgram 1000 229 [(0, 16, 113), (1, 0, x1)] [] h := rfl
def KJX12_copiesProgram_191 (n : Nat) : CT (Hp) := [(229, [(0, 16, (some 113)), (1, 0, none)], [], fun a c h => match a, c with
    | [x1], [] => LX12_copiesProgram_229 n x1 h
    | _, _ => none)]
set_option maxRecDepth 100000 in
theorem eJX12_copiesProgram_191 (n : Nat) (h : Hp) : JX12_copiesProgram_191 n h =
  goAt false (kct (KJX12_copiesProgram_191 n)) (fun _ h => some (h)) (fsX12_copiesProgram n _) sdX12_copiesProgram 1000 191 [(0, 16, 113)] [] h := rfl
def KJX12_copiesProgram_82 (n : Nat) : CT (Hp) := [(91, [(0, 16, (some 113)), (1, 0, none)], [], fun a c h => match a, c with
    | [x1], [] => LX12_copiesProgram_91 n x1 h
    | _, _ => none)]
set_option maxRecDepth 100000 in
theorem eJX12_copiesProgram_82 (n : Nat) (h : Hp) : JX12_copiesProgram_82 n h =
  goAt false (kct (KJX12_copiesProgram_82 n)) (fun _ h => some (h)) (fsX12_copiesProgram n _) sdX12_copiesProgram 1000 82 [(0, 16, 113)] [] h := rfl
def KJX12_copiesProgram_26 (n : Nat) : CT (Hp) := [(52, [(0, 16, (some 113)), (1, 0, none)], [], fun a c h => match a, c with
    | [x1], [] => LX12_copiesProgram_52 n x1 h
    | _, _ => none)]
set_option maxRecDepth 100000 in
theorem eJX12_copiesProgram_26 (n : Nat) (h : Hp) : JX12_copiesProgram_26 n h =
  goAt false (kct (KJX12_copiesProgram_26 n)) (fun _ h => some (h)) (fsX12_copiesProgram n _) sdX12_copiesProgram 1000 26 [(0, 16, 113)] [] h := rfl
def KMX12_copiesProgram (n : Nat) : CT (Hp) := [(2, [(0, 16, (some 113)), (1, 0, none)], [], fun a c h => match a, c with
    | [x1], [] => LX12_copiesProgram_2 n x1 h
    | _, _ => none)]
set_option maxRecDepth 100000 in
theorem eMX12_copiesProgram (n : Nat) (h : Hp) : MX12_copiesProgram n h =
  goAt false (kct (KMX12_copiesProgram n)) (fun _ h => some (h)) (fsX12_copiesProgram n _) sdX12_copiesProgram 1000 0 [(0, 16, 113)] [] h := rfl
theorem okX12_copiesProgram : mokb (mi 107) = true := by decide +kernel
theorem rkX12_copiesProgram : rkOK 0 (mi 107).1.2.2.2.2.2.2.1 (mi 107).1.2.2.2.1 := Or.inl ⟨rfl, rfl, rfl⟩
def calX12_copiesProgram : List Nat := [106, 92, 93]
theorem foX12_copiesProgram {l : Launch} {ρ : Type} (n : Nat) : fsOK l false mi calX12_copiesProgram (fsX12_copiesProgram n ρ) := ⟨sndX12_goes, ⟨sndX12_square, ⟨(sndX12_root n), trivial⟩⟩⟩
theorem ok_sdX12_copiesProgram : sdb (mi 107).1.2.1 (insOK mi (mi 107).1.1.cls (mi 107).1.2.2.1 (mi 107).1.2.2.2.2.1 (mi 107).1.2.2.2.2.2.1 calX12_copiesProgram false 0) sdX12_copiesProgram = true := by decide +kernel
def GX12_copiesProgram_52 (l : Launch) (h0 : Hp) (h' : Hp) (v : Int) (_ : Hp) : (Hp) → Prop
  | h1 => PAt l false (mi 107).1 h0 v h' 82 [(0, 16, 113)] [] h1
def GX12_copiesProgram_91 (l : Launch) (h0 : Hp) (h' : Hp) (v : Int) (_ : Hp) : (Hp) → Prop
  | h1 => PAt l false (mi 107).1 h0 v h' 191 [(0, 16, 113)] [] h1
def GX12_copiesProgram_2 (l : Launch) (h0 : Hp) (h' : Hp) (v : Int) (_ : Hp) : (Hp) → Prop
  | h1 => PAt l false (mi 107).1 h0 v h' 26 [(0, 16, 113)] [] h1
theorem sBX12_copiesProgram_2 {l : Launch} {h0 h' : Hp} {v : Int} (h8 : nOf h0 = 148) (n : Nat) : ∀ (f : Nat) (x1 : Int) (h : Hp) {r : Hp}, BX12_copiesProgram_2 n f x1 h = some r → GX12_copiesProgram_2 l h0 h' v h r → PAt l false (mi 107).1 h0 v h' 2 [(0, 16, 113), (1, 0, x1)] [] h := by
  intro f
  induction f with
  | zero =>
    intro x1 h r H _
    have H2 : (none : Option (Hp)) = some r := H
    cases H2
  | succ f ih =>
    intro x1 h r H hG
    exact pat_w ok_sdX12_copiesProgram rkX12_copiesProgram h8 (foX12_copiesProgram n) (fun v1 h1 q => by cases q) (List.forall_mem_cons.mpr ⟨(fun a c h H => by
      dsimp only at H
      split at H
      · exact ih _ _ H hG
      · cases H), (List.forall_mem_cons.mpr ⟨(fun a c h H => by
      dsimp only at H
      split at H
      · cases H
        exact hG
      · cases H), (fun q9 h9 => by cases h9)⟩)⟩) ((eBX12_copiesProgram_2 n f x1 h).symm.trans H)
theorem sBX12_copiesProgram_52 {l : Launch} {h0 h' : Hp} {v : Int} (h8 : nOf h0 = 148) (n : Nat) : ∀ (f : Nat) (x1 : Int) (h : Hp) {r : Hp}, BX12_copiesProgram_52 n f x1 h = some r → GX12_copiesProgram_52 l h0 h' v h r → PAt l false (mi 107).1 h0 v h' 52 [(0, 16, 113), (1, 0, x1)] [] h := by
  intro f
  induction f with
  | zero =>
    intro x1 h r H _
    have H2 : (none : Option (Hp)) = some r := H
    cases H2
  | succ f ih =>
    intro x1 h r H hG
    exact pat_w ok_sdX12_copiesProgram rkX12_copiesProgram h8 (foX12_copiesProgram n) (fun v1 h1 q => by cases q) (List.forall_mem_cons.mpr ⟨(fun a c h H => by
      dsimp only at H
      split at H
      · exact ih _ _ H hG
      · cases H), (List.forall_mem_cons.mpr ⟨(fun a c h H => by
      dsimp only at H
      split at H
      · cases H
        exact hG
      · cases H), (fun q9 h9 => by cases h9)⟩)⟩) ((eBX12_copiesProgram_52 n f x1 h).symm.trans H)
theorem sBX12_copiesProgram_91 {l : Launch} {h0 h' : Hp} {v : Int} (h8 : nOf h0 = 148) (n : Nat) : ∀ (f : Nat) (x1 : Int) (h : Hp) {r : Hp}, BX12_copiesProgram_91 n f x1 h = some r → GX12_copiesProgram_91 l h0 h' v h r → PAt l false (mi 107).1 h0 v h' 91 [(0, 16, 113), (1, 0, x1)] [] h := by
  intro f
  induction f with
  | zero =>
    intro x1 h r H _
    have H2 : (none : Option (Hp)) = some r := H
    cases H2
  | succ f ih =>
    intro x1 h r H hG
    exact pat_w ok_sdX12_copiesProgram rkX12_copiesProgram h8 (foX12_copiesProgram n) (fun v1 h1 q => by cases q) (List.forall_mem_cons.mpr ⟨(fun a c h H => by
      dsimp only at H
      split at H
      · exact ih _ _ H hG
      · cases H), (List.forall_mem_cons.mpr ⟨(fun a c h H => by
      dsimp only at H
      split at H
      · cases H
        exact hG
      · cases H), (fun q9 h9 => by cases h9)⟩)⟩) ((eBX12_copiesProgram_91 n f x1 h).symm.trans H)
theorem sBX12_copiesProgram_229 {l : Launch} {h0 h' : Hp} {v : Int} (h8 : nOf h0 = 148) (n : Nat) : ∀ (f : Nat) (x1 : Int) (h : Hp) {r : Hp}, BX12_copiesProgram_229 n f x1 h = some r → gW h' r → PAt l false (mi 107).1 h0 v h' 229 [(0, 16, 113), (1, 0, x1)] [] h := by
  intro f
  induction f with
  | zero =>
    intro x1 h r H _
    have H2 : (none : Option (Hp)) = some r := H
    cases H2
  | succ f ih =>
    intro x1 h r H hG
    exact pat_w ok_sdX12_copiesProgram rkX12_copiesProgram h8 (foX12_copiesProgram n) (fun v1 h1 q => by
    cases q
    exact ⟨hG, fun q9 => absurd rfl q9⟩) (List.forall_mem_cons.mpr ⟨(fun a c h H => by
      dsimp only at H
      split at H
      · exact ih _ _ H hG
      · cases H), (fun q9 h9 => by cases h9)⟩) ((eBX12_copiesProgram_229 n f x1 h).symm.trans H)
theorem sLX12_copiesProgram_229 {l : Launch} {h0 h' : Hp} {v : Int} (h8 : nOf h0 = 148) (n : Nat) (x1 : Int) (h : Hp) {r : Hp} (H : LX12_copiesProgram_229 n x1 h = some r) (hG : gW h' r) : PAt l false (mi 107).1 h0 v h' 229 [(0, 16, 113), (1, 0, x1)] [] h :=
  sBX12_copiesProgram_229 h8 n n x1 h H hG
theorem sJX12_copiesProgram_191 {l : Launch} {h0 h' : Hp} {v : Int} (h8 : nOf h0 = 148) (n : Nat)  (h : Hp) {r : Hp} (H : JX12_copiesProgram_191 n h = some r) (hG : gW h' r) : PAt l false (mi 107).1 h0 v h' 191 [(0, 16, 113)] [] h :=
  pat_w ok_sdX12_copiesProgram rkX12_copiesProgram h8 (foX12_copiesProgram n) (fun v1 h1 q => by
    cases q
    exact ⟨hG, fun q9 => absurd rfl q9⟩) (List.forall_mem_cons.mpr ⟨(fun a c h H => by
      dsimp only at H
      split at H
      · exact sLX12_copiesProgram_229 h8 n _ _ H hG
      · cases H), (fun q9 h9 => by cases h9)⟩) ((eJX12_copiesProgram_191 n h).symm.trans H)
theorem sLX12_copiesProgram_91 {l : Launch} {h0 h' : Hp} {v : Int} (h8 : nOf h0 = 148) (n : Nat) (x1 : Int) (h : Hp) {r : Hp} (H : LX12_copiesProgram_91 n x1 h = some r) (hG : gW h' r) : PAt l false (mi 107).1 h0 v h' 91 [(0, 16, 113), (1, 0, x1)] [] h := by
  obtain ⟨h1, h2, h3⟩ := bndx_some H
  exact sBX12_copiesProgram_91 h8 n n x1 h h2 (sJX12_copiesProgram_191 h8 n h1 h3 hG)
theorem sJX12_copiesProgram_82 {l : Launch} {h0 h' : Hp} {v : Int} (h8 : nOf h0 = 148) (n : Nat)  (h : Hp) {r : Hp} (H : JX12_copiesProgram_82 n h = some r) (hG : gW h' r) : PAt l false (mi 107).1 h0 v h' 82 [(0, 16, 113)] [] h :=
  pat_w ok_sdX12_copiesProgram rkX12_copiesProgram h8 (foX12_copiesProgram n) (fun v1 h1 q => by
    cases q
    exact ⟨hG, fun q9 => absurd rfl q9⟩) (List.forall_mem_cons.mpr ⟨(fun a c h H => by
      dsimp only at H
      split at H
      · exact sLX12_copiesProgram_91 h8 n _ _ H hG
      · cases H), (fun q9 h9 => by cases h9)⟩) ((eJX12_copiesProgram_82 n h).symm.trans H)
theorem sLX12_copiesProgram_52 {l : Launch} {h0 h' : Hp} {v : Int} (h8 : nOf h0 = 148) (n : Nat) (x1 : Int) (h : Hp) {r : Hp} (H : LX12_copiesProgram_52 n x1 h = some r) (hG : gW h' r) : PAt l false (mi 107).1 h0 v h' 52 [(0, 16, 113), (1, 0, x1)] [] h := by
  obtain ⟨h1, h2, h3⟩ := bndx_some H
  exact sBX12_copiesProgram_52 h8 n n x1 h h2 (sJX12_copiesProgram_82 h8 n h1 h3 hG)
theorem sJX12_copiesProgram_26 {l : Launch} {h0 h' : Hp} {v : Int} (h8 : nOf h0 = 148) (n : Nat)  (h : Hp) {r : Hp} (H : JX12_copiesProgram_26 n h = some r) (hG : gW h' r) : PAt l false (mi 107).1 h0 v h' 26 [(0, 16, 113)] [] h :=
  pat_w ok_sdX12_copiesProgram rkX12_copiesProgram h8 (foX12_copiesProgram n) (fun v1 h1 q => by
    cases q
    exact ⟨hG, fun q9 => absurd rfl q9⟩) (List.forall_mem_cons.mpr ⟨(fun a c h H => by
      dsimp only at H
      split at H
      · exact sLX12_copiesProgram_52 h8 n _ _ H hG
      · cases H), (fun q9 h9 => by cases h9)⟩) ((eJX12_copiesProgram_26 n h).symm.trans H)
theorem sLX12_copiesProgram_2 {l : Launch} {h0 h' : Hp} {v : Int} (h8 : nOf h0 = 148) (n : Nat) (x1 : Int) (h : Hp) {r : Hp} (H : LX12_copiesProgram_2 n x1 h = some r) (hG : gW h' r) : PAt l false (mi 107).1 h0 v h' 2 [(0, 16, 113), (1, 0, x1)] [] h := by
  obtain ⟨h1, h2, h3⟩ := bndx_some H
  exact sBX12_copiesProgram_2 h8 n n x1 h h2 (sJX12_copiesProgram_26 h8 n h1 h3 hG)
theorem sMX12_copiesProgram {l : Launch} {h0 h' : Hp} {v : Int} (h8 : nOf h0 = 148) (n : Nat)  (h : Hp) {r : Hp} (H : MX12_copiesProgram n h = some r) (hG : gW h' r) : PAt l false (mi 107).1 h0 v h' 0 [(0, 16, 113)] [] h :=
  pat_w ok_sdX12_copiesProgram rkX12_copiesProgram h8 (foX12_copiesProgram n) (fun v1 h1 q => by
    cases q
    exact ⟨hG, fun q9 => absurd rfl q9⟩) (List.forall_mem_cons.mpr ⟨(fun a c h H => by
      dsimp only at H
      split at H
      · exact sLX12_copiesProgram_2 h8 n _ _ H hG
      · cases H), (fun q9 h9 => by cases h9)⟩) ((eMX12_copiesProgram n h).symm.trans H)
theorem sndX12_copiesProgram {ρ : Type} {l : Launch} (n : Nat) : SndF (ρ := ρ) l false (mi 107).1 (wX12_copiesProgram n) := by
    intro a h k r H ha ho hn hf
    have h8 := hf rfl
    obtain ⟨x0, rfl⟩ := len1 (show a.length = 1 from ha)
    have u0 := uq16 hn (ho (16, x0) (List.mem_cons_self))
    subst u0
    replace H : bndh (MX12_copiesProgram n h) (fun h2 => k 0 h2) = some r := H
    obtain ⟨h2, H1, H2⟩ := bndh_some H
    exact ⟨0, h2, H2, met_mk (mok_base okX12_copiesProgram).1 (by decide +kernel) (Nat.le_of_ble_eq_true rfl) ho (sMX12_copiesProgram h8 n  h H1 rfl), fun q => by cases q⟩
/-! X4_speedOver -/
def sdX4_speedOver : SD := [(0, [(0, .iload_n 2, 1, [], 0), (1, .i2l, 1, [], 0), (2, .invokestatic 109, 3, [2, 0, 4, 32, 993, 1], 0), (5, .ldc2_w 76, 3, [1, 594], 2), (8, .aload_n 0, 1, [], 0), (9, .getfield 34, 3, [4, 0, 14, 0, 430, 0], 0), (12, .getfield 43, 3, [10, 6, 532, 1, 186, 0], 10), (15, .iload_n 1, 1, [], 0), (16, .iaload, 1, [], 0), (17, .i2l, 1, [], 0), (18, .lmul, 1, [], 0), (19, .aload_n 0, 1, [], 0), (20, .getfield 34, 3, [4, 0, 14, 0, 430, 0], 0), (23, .getfield 69, 3, [10, 2, 532, 1, 173, 0], 6), (26, .iload_n 1, 1, [], 0), (27, .iaload, 1, [], 0), (28, .i2l, 1, [], 0), (29, .lmul, 1, [], 0), (30, .ladd, 1, [], 0), (31, .invokestatic 78, 3, [1, 1, 4, 33, 595, 1], 0), (34, .ireturn, 1, [], 0)])]
def MX4_speedOver (n : Nat) (x0 x1 x2 : Int) (h : Hp) : Option (Int) :=
(bndp (MX11_square x2) fun r1 =>
(grd (0 ≤ x1 ∧ x1 < alen 532)
(grd (0 ≤ x1 ∧ x1 < alen 532)
(bndp (MX11_root n (w64 (r1 + (w64 ((w64 (2 * (h ((h x0 0) + 10) x1))) * (h ((h x0 0) + 6) x1)))))) fun r2 =>
(some r2)))))
def wX4_speedOver {ρ : Type} (n : Nat) : FN ρ := fun a h k => match a with
  | [x0, x1, x2] => bndp (MX4_speedOver n x0 x1 x2 h) (fun r => k r h)
  | _ => none
def fsX4_speedOver (n : Nat) (ρ : Type) : List (FN ρ) := [wX11_square, wX11_root n]
def KMX4_speedOver (_ : Nat) : CT (Int) := []
set_option maxRecDepth 100000 in
theorem eMX4_speedOver (n : Nat) (x0 : Int) (x1 : Int) (x2 : Int) (h : Hp) : MX4_speedOver n x0 x1 x2 h =
  goAt false (kct (KMX4_speedOver n)) (fun v _ => some (v)) (fsX4_speedOver n _) sdX4_speedOver 1000 0 [(0, 8, x0), (1, 0, x1), (2, 0, x2)] [] h := rfl
theorem okX4_speedOver : mokb (mi 109) = true := by decide +kernel
theorem rkX4_speedOver : rkOK 1 (mi 109).1.2.2.2.2.2.2.1 (mi 109).1.2.2.2.1 := Or.inr (Or.inl ⟨rfl, rfl, rfl⟩)
def calX4_speedOver : List Nat := [32, 33]
theorem foX4_speedOver {l : Launch} {ρ : Type} (n : Nat) : fsOK l false mi calX4_speedOver (fsX4_speedOver n ρ) := ⟨sndX11_square, ⟨(sndX11_root n), trivial⟩⟩
theorem frX4_speedOver {ρ : Type} (n : Nat) : ∀ fn ∈ fsX4_speedOver n ρ, RoF fn := (List.forall_mem_cons.mpr ⟨roX11_square, (List.forall_mem_cons.mpr ⟨(roX11_root n), (fun q9 h9 => by cases h9)⟩)⟩)
theorem ok_sdX4_speedOver : sdb (mi 109).1.2.1 (insOK mi (mi 109).1.1.cls (mi 109).1.2.2.1 (mi 109).1.2.2.2.2.1 (mi 109).1.2.2.2.2.2.1 calX4_speedOver false 1) sdX4_speedOver = true := by decide +kernel
theorem sMX4_speedOver {l : Launch} {h0 : Hp} {v : Int} (h8 : nOf h0 = 148) (n : Nat) (x0 : Int) (x1 : Int) (x2 : Int) (h : Hp) {r : Int} (H : MX4_speedOver n x0 x1 x2 h = some r) (hG : gV v r) : PAt l false (mi 109).1 h0 v h 0 [(0, 8, x0), (1, 0, x1), (2, 0, x2)] [] h :=
  pat_ro ok_sdX4_speedOver rfl rkX4_speedOver h8 (foX4_speedOver n) (frX4_speedOver n) (fun v1 q => by
    cases q
    exact ⟨rfl, fun _ => hG⟩) (fun q9 h9 => by cases h9) ((eMX4_speedOver n x0 x1 x2 h).symm.trans H)
theorem sndX4_speedOver {ρ : Type} {l : Launch} (n : Nat) : SndF (ρ := ρ) l false (mi 109).1 (wX4_speedOver n) := by
    intro a h k r H ha ho hn hf
    have h8 := hf rfl
    obtain ⟨x0, x1, x2, rfl⟩ := len3 (show a.length = 3 from ha)
    replace H : bndp (MX4_speedOver n x0 x1 x2 h) (fun r => k r h) = some r := H
    obtain ⟨v2, H1, H2⟩ := bndp_some H
    exact ⟨v2, h, H2, met_mk (mok_base okX4_speedOver).1 (by decide +kernel) (Nat.le_of_ble_eq_true rfl) ho (sMX4_speedOver h8 n x0 x1 x2 h H1 rfl), fun q => by cases q⟩
theorem roX4_speedOver {ρ : Type} (n : Nat) : RoF (wX4_speedOver n : FN ρ) := fun a h k k2 hk => by
  unfold wX4_speedOver
  split
  · exact bndp_ro hk
  · rfl
/-! X4_passInto -/
def sdX4_passInto : SD := [(0, [(0, .aload_n 0, 1, [], 0), (1, .getfield 34, 3, [4, 0, 14, 0, 430, 0], 0), (4, .getfield 38, 3, [10, 11, 0, 0, 201, 0], 0), (7, .istore_n 2, 1, [], 0), (8, .aload_n 0, 1, [], 0), (9, .getfield 31, 3, [4, 7, 540, 1, 446, 0], 4), (12, .iconst 0, 1, [], 0), (13, .iconst 0, 1, [], 0), (14, .iastore, 1, [], 0), (15, .aload_n 0, 1, [], 0), (16, .getfield 31, 3, [4, 7, 540, 1, 446, 0], 4), (19, .iload_n 2, 1, [], 0), (20, .iconst 0, 1, [], 0), (21, .iastore, 1, [], 0), (22, .iconst 1, 1, [], 0), (23, .istore_n 3, 1, [], 0)]),
  (24, [(24, .iload_n 3, 1, [], 0), (25, .iload_n 2, 1, [], 0), (26, .if_icmp .ge 28, 3, [], 0)]),
  (29, [(29, .aload_n 0, 1, [], 0), (30, .getfield 31, 3, [4, 7, 540, 1, 446, 0], 4), (33, .iload_n 3, 1, [], 0), (34, .aload_n 0, 1, [], 0), (35, .getfield 28, 3, [4, 6, 532, 1, 443, 0], 3), (38, .iload_n 3, 1, [], 0), (39, .iconst 1, 1, [], 0), (40, .isub, 1, [], 0), (41, .iaload, 1, [], 0), (42, .aload_n 0, 1, [], 0), (43, .getfield 9, 3, [4, 1, 0, 0, 432, 0], 0), (46, .imul, 1, [], 0), (47, .iastore, 1, [], 0), (48, .iinc 3 1, 3, [], 0), (51, .goto (-27), 3, [], 0)]),
  (54, [(54, .iload_n 2, 1, [], 0), (55, .iconst 1, 1, [], 0), (56, .isub, 1, [], 0), (57, .istore_n 3, 1, [], 0)]),
  (58, [(58, .iload_n 3, 1, [], 0), (59, .ifCond .le 37, 3, [], 0)]),
  (62, [(62, .aload_n 0, 1, [], 0), (63, .getfield 31, 3, [4, 7, 540, 1, 446, 0], 4), (66, .iload_n 3, 1, [], 0), (67, .aload_n 0, 1, [], 0), (68, .getfield 31, 3, [4, 7, 540, 1, 446, 0], 4), (71, .iload_n 3, 1, [], 0), (72, .iaload, 1, [], 0), (73, .aload_n 0, 1, [], 0), (74, .iload_n 3, 1, [], 0), (75, .aload_n 0, 1, [], 0), (76, .getfield 31, 3, [4, 7, 540, 1, 446, 0], 4), (79, .iload_n 3, 1, [], 0), (80, .iconst 1, 1, [], 0), (81, .iadd, 1, [], 0), (82, .iaload, 1, [], 0), (83, .invokevirtual 102, 3, [1, 0, 1, 109, 989, 0, 0, 8], 0), (86, .invokestatic 56, 3, [1, 1, 3, 261, 581, 0, 0], 0), (89, .iastore, 1, [], 0), (90, .iinc 3 (-1), 3, [], 0), (93, .goto (-35), 3, [], 0)]),
  (96, [(96, .iconst 0, 1, [], 0), (97, .istore_n 3, 1, [], 0)]),
  (98, [(98, .iload_n 3, 1, [], 0), (99, .iload_n 2, 1, [], 0), (100, .if_icmp .ge 39, 3, [], 0)]),
  (103, [(103, .aload_n 0, 1, [], 0), (104, .getfield 31, 3, [4, 7, 540, 1, 446, 0], 4), (107, .iload_n 3, 1, [], 0), (108, .iconst 1, 1, [], 0), (109, .iadd, 1, [], 0), (110, .aload_n 0, 1, [], 0), (111, .getfield 31, 3, [4, 7, 540, 1, 446, 0], 4), (114, .iload_n 3, 1, [], 0), (115, .iconst 1, 1, [], 0), (116, .iadd, 1, [], 0), (117, .iaload, 1, [], 0), (118, .aload_n 0, 1, [], 0), (119, .iload_n 3, 1, [], 0), (120, .aload_n 0, 1, [], 0), (121, .getfield 31, 3, [4, 7, 540, 1, 446, 0], 4), (124, .iload_n 3, 1, [], 0), (125, .iaload, 1, [], 0), (126, .invokevirtual 102, 3, [1, 0, 1, 109, 989, 0, 0, 8], 0), (129, .invokestatic 56, 3, [1, 1, 3, 261, 581, 0, 0], 0), (132, .iastore, 1, [], 0), (133, .iinc 3 1, 3, [], 0), (136, .goto (-38), 3, [], 0)]),
  (139, [(139, .aload_n 0, 1, [], 0), (140, .getfield 34, 3, [4, 0, 14, 0, 430, 0], 0), (143, .iload_n 1, 1, [], 0), (144, .invokevirtual 105, 3, [1, 2, 1, 43, 994, 0, 14], 0), (147, .ifCond .eq 12, 3, [], 0)]),
  (150, [(150, .aload_n 0, 1, [], 0), (151, .getfield 31, 3, [4, 7, 540, 1, 446, 0], 4), (154, .iload_n 1, 1, [], 0), (155, .iaload, 1, [], 0), (156, .goto 4, 3, [], 0)]),
  (159, [(159, .iconst (-1), 1, [], 0)]),
  (160, [(160, .ireturn, 1, [], 0)])]
def BX4_passInto_24 (n : Nat) : Nat → Int → Int → Int → Int → Hp → Option (Int × Int × Int × Hp)
  | 0, _, _, _, _, _ => none
  | f + 1, x0, x1, x2, x3, h =>
    (if x2 ≤ x3 then
    (some (x0, x1, x2, h))
    else
    (grd (0 ≤ (w32 (x3 - 1)) ∧ (w32 (x3 - 1)) < alen 532)
    (grd (0 ≤ x3 ∧ x3 < alen 540)
    (ltt (up h (x0 + 4) x3 (w32 ((h (x0 + 3) (w32 (x3 - 1))) * (h x0 1)))) fun h1 =>
    (ltt (w32 (x3 + 1)) fun y1 =>
    (BX4_passInto_24 n f x0 x1 x2 y1 h1))))))
def BX4_passInto_58 (n : Nat) : Nat → Int → Int → Int → Int → Hp → Option (Int × Int × Int × Hp)
  | 0, _, _, _, _, _ => none
  | f + 1, x0, x1, x2, x3, h =>
    (if x3 ≤ 0 then
    (some (x0, x1, x2, h))
    else
    (grd (0 ≤ x3 ∧ x3 < alen 540)
    (grd (0 ≤ (w32 (x3 + 1)) ∧ (w32 (x3 + 1)) < alen 540)
    (bndp (MX4_speedOver n x0 x3 (h (x0 + 4) (w32 (x3 + 1))) h) fun r1 =>
    (grd (0 ≤ x3 ∧ x3 < alen 540)
    (ltt (up h (x0 + 4) x3 (min (h (x0 + 4) x3) r1)) fun h1 =>
    (ltt (w32 (x3 + (-1))) fun y1 =>
    (BX4_passInto_58 n f x0 x1 x2 y1 h1))))))))
def BX4_passInto_98 (n : Nat) : Nat → Int → Int → Int → Int → Hp → Option (Int × Int × Hp)
  | 0, _, _, _, _, _ => none
  | f + 1, x0, x1, x2, x3, h =>
    (if x2 ≤ x3 then
    (some (x0, x1, h))
    else
    (grd (0 ≤ (w32 (x3 + 1)) ∧ (w32 (x3 + 1)) < alen 540)
    (grd (0 ≤ x3 ∧ x3 < alen 540)
    (bndp (MX4_speedOver n x0 x3 (h (x0 + 4) x3) h) fun r1 =>
    (grd (0 ≤ (w32 (x3 + 1)) ∧ (w32 (x3 + 1)) < alen 540)
    (ltt (up h (x0 + 4) (w32 (x3 + 1)) (min (h (x0 + 4) (w32 (x3 + 1))) r1)) fun h1 =>
    (ltt (w32 (x3 + 1)) fun y1 =>
    (BX4_passInto_98 n f x0 x1 x2 y1 h1))))))))
def JX4_passInto_139 (n : Nat) (x0 x1 : Int) (h : Hp) : Option (Int × Hp) :=
(bndp (MX10_has (h x0 0) x1 h) fun r1 =>
(if r1 = 0 then
(some ((-1), h))
else
(grd (0 ≤ x1 ∧ x1 < alen 540)
(some ((h (x0 + 4) x1), h)))))
def LX4_passInto_98 (n : Nat) (x0 x1 x2 x3 : Int) (h : Hp) : Option (Int × Hp) :=
(bndx (BX4_passInto_98 n n x0 x1 x2 x3 h) fun (e0, e1, h1) =>
(JX4_passInto_139 n e0 e1 h1))
def JX4_passInto_96 (n : Nat) (x0 x1 x2 : Int) (h : Hp) : Option (Int × Hp) :=
(ltt 0 fun y1 =>
(LX4_passInto_98 n x0 x1 x2 y1 h))
def LX4_passInto_58 (n : Nat) (x0 x1 x2 x3 : Int) (h : Hp) : Option (Int × Hp) :=
(bndx (BX4_passInto_58 n n x0 x1 x2 x3 h) fun (e0, e1, e2, h1) =>
(JX4_passInto_96 n e0 e1 e2 h1))
def JX4_passInto_54 (n : Nat) (x0 x1 x2 : Int) (h : Hp) : Option (Int × Hp) :=
(ltt (w32 (x2 - 1)) fun y1 =>
(LX4_passInto_58 n x0 x1 x2 y1 h))
def LX4_passInto_24 (n : Nat) (x0 x1 x2 x3 : Int) (h : Hp) : Option (Int × Hp) :=
(bndx (BX4_passInto_24 n n x0 x1 x2 x3 h) fun (e0, e1, e2, h1) =>
(JX4_passInto_54 n e0 e1 e2 h1))
def MX4_passInto (n : Nat) (x0 x1 : Int) (h : Hp) : Option (Int × Hp) :=
(ltt (h (h x0 0) 11) fun y1 =>
(grd (0 ≤ 0 ∧ 0 < alen 540)
(ltt (up h (x0 + 4) 0 0) fun h1 =>
(grd (0 ≤ y1 ∧ y1 < alen 540)
(ltt (up h1 (x0 + 4) y1 0) fun h2 =>
(ltt 1 fun y2 =>
(LX4_passInto_24 n x0 x1 y1 y2 h2)))))))
def wX4_passInto {ρ : Type} (n : Nat) : FN ρ := fun a h k => match a with
  | [x0, x1] => bnd (MX4_passInto n x0 x1 h) (fun r h2 => k r h2)
  | _ => none
def fsX4_passInto (n : Nat) (ρ : Type) : List (FN ρ) := [wX4_speedOver n, fmin, wX10_has]
def KBX4_passInto_24 (_ : Nat) (bk : Int → Int → Int → Int → Hp → Option (Int × Int × Int × Hp)) : CT (Int × Int × Int × Hp) := [(24, [(0, 8, none), (1, 0, none), (2, 0, none), (3, 0, none)], [], fun a c h => match a, c with
    | [x0, x1, x2, x3], [] => bk x0 x1 x2 x3 h
    | _, _ => none),
  (54, [(0, 8, none), (1, 0, none), (2, 0, none)], [], fun a c h => match a, c with
    | [x0, x1, x2], [] => some (x0, x1, x2, h)
    | _, _ => none)]
set_option maxRecDepth 100000 in
theorem eBX4_passInto_24 (n f : Nat) (x0 : Int) (x1 : Int) (x2 : Int) (x3 : Int) (h : Hp) : BX4_passInto_24 n (f + 1) x0 x1 x2 x3 h =
  goAt false (kct (KBX4_passInto_24 n (BX4_passInto_24 n f))) (fun _ _ => none) (fsX4_passInto n _) sdX4_passInto 1000 24 [(0, 8, x0), (1, 0, x1), (2, 0, x2), (3, 0, x3)] [] h := rfl
def KBX4_passInto_58 (_ : Nat) (bk : Int → Int → Int → Int → Hp → Option (Int × Int × Int × Hp)) : CT (Int × Int × Int × Hp) := [(58, [(0, 8, none), (1, 0, none), (2, 0, none), (3, 0, none)], [], fun a c h => match a, c with
    | [x0, x1, x2, x3], [] => bk x0 x1 x2 x3 h
    | _, _ => none),
  (96, [(0, 8, none), (1, 0, none), (2, 0, none)], [], fun a c h => match a, c with
    | [x0, x1, x2], [] => some (x0, x1, x2, h)
    | _, _ => none)]
set_option maxRecDepth 100000 in
theorem eBX4_passInto_58 (n f : Nat) (x0 : Int) (x1 : Int) (x2 : Int) (x3 : Int) (h : Hp) : BX4_passInto_58 n (f + 1) x0 x1 x2 x3 h =
  goAt false (kct (KBX4_passInto_58 n (BX4_passInto_58 n f))) (fun _ _ => none) (fsX4_passInto n _) sdX4_passInto 1000 58 [(0, 8, x0), (1, 0, x1), (2, 0, x2), (3, 0, x3)] [] h := rfl
def KBX4_passInto_98 (_ : Nat) (bk : Int → Int → Int → Int → Hp → Option (Int × Int × Hp)) : CT (Int × Int × Hp) := [(98, [(0, 8, none), (1, 0, none), (2, 0, none), (3, 0, none)], [], fun a c h => match a, c with
    | [x0, x1, x2, x3], [] => bk x0 x1 x2 x3 h
    | _, _ => none),
  (139, [(0, 8, none), (1, 0, none)], [], fun a c h => match a, c with
    | [x0, x1], [] => some (x0, x1, h)
    | _, _ => none)]
set_option maxRecDepth 100000 in
theorem eBX4_passInto_98 (n f : Nat) (x0 : Int) (x1 : Int) (x2 : Int) (x3 : Int) (h : Hp) : BX4_passInto_98 n (f + 1) x0 x1 x2 x3 h =
  goAt false (kct (KBX4_passInto_98 n (BX4_passInto_98 n f))) (fun _ _ => none) (fsX4_passInto n _) sdX4_passInto 1000 98 [(0, 8, x0), (1, 0, x1), (2, 0, x2), (3, 0, x3)] [] h := rfl
def KJX4_passInto_139 (_ : Nat) : CT (Int × Hp) := []
set_option maxRecDepth 100000 in
theorem eJX4_passInto_139 (n : Nat) (x0 : Int) (x1 : Int) (h : Hp) : JX4_passInto_139 n x0 x1 h =
  goAt false (kct (KJX4_passInto_139 n)) (fun v h => some ((v, h))) (fsX4_passInto n _) sdX4_passInto 1000 139 [(0, 8, x0), (1, 0, x1)] [] h := rfl
def KJX4_passInto_96 (n : Nat) : CT (Int × Hp) := [(98, [(0, 8, none), (1, 0, none), (2, 0, none), (3, 0, none)], [], fun a c h => match a, c with
    | [x0, x1, x2, x3], [] => LX4_passInto_98 n x0 x1 x2 x3 h
    | _, _ => none)]
set_option maxRecDepth 100000 in
theorem eJX4_passInto_96 (n : Nat) (x0 : Int) (x1 : Int) (x2 : Int) (h : Hp) : JX4_passInto_96 n x0 x1 x2 h =
  goAt false (kct (KJX4_passInto_96 n)) (fun v h => some ((v, h))) (fsX4_passInto n _) sdX4_passInto 1000 96 [(0, 8, x0), (1, 0, x1), (2, 0, x2)] [] h := rfl
def KJX4_passInto_54 (n : Nat) : CT (Int × Hp) := [(58, [(0, 8, none), (1, 0, none), (2, 0, none), (3, 0, none)], [], fun a c h => match a, c with
    | [x0, x1, x2, x3], [] => LX4_passInto_58 n x0 x1 x2 x3 h
    | _, _ => none)]
set_option maxRecDepth 100000 in
theorem eJX4_passInto_54 (n : Nat) (x0 : Int) (x1 : Int) (x2 : Int) (h : Hp) : JX4_passInto_54 n x0 x1 x2 h =
  goAt false (kct (KJX4_passInto_54 n)) (fun v h => some ((v, h))) (fsX4_passInto n _) sdX4_passInto 1000 54 [(0, 8, x0), (1, 0, x1), (2, 0, x2)] [] h := rfl
def KMX4_passInto (n : Nat) : CT (Int × Hp) := [(24, [(0, 8, none), (1, 0, none), (2, 0, none), (3, 0, none)], [], fun a c h => match a, c with
    | [x0, x1, x2, x3], [] => LX4_passInto_24 n x0 x1 x2 x3 h
    | _, _ => none)]
set_option maxRecDepth 100000 in
theorem eMX4_passInto (n : Nat) (x0 : Int) (x1 : Int) (h : Hp) : MX4_passInto n x0 x1 h =
  goAt false (kct (KMX4_passInto n)) (fun v h => some ((v, h))) (fsX4_passInto n _) sdX4_passInto 1000 0 [(0, 8, x0), (1, 0, x1)] [] h := rfl
theorem okX4_passInto : mokb (mi 110) = true := by decide +kernel
theorem rkX4_passInto : rkOK 1 (mi 110).1.2.2.2.2.2.2.1 (mi 110).1.2.2.2.1 := Or.inr (Or.inl ⟨rfl, rfl, rfl⟩)
def calX4_passInto : List Nat := [109, 261, 43]
theorem foX4_passInto {l : Launch} {ρ : Type} (n : Nat) : fsOK l false mi calX4_passInto (fsX4_passInto n ρ) := ⟨(sndX4_speedOver n), ⟨snd_mmin, ⟨sndX10_has, trivial⟩⟩⟩
theorem ok_sdX4_passInto : sdb (mi 110).1.2.1 (insOK mi (mi 110).1.1.cls (mi 110).1.2.2.1 (mi 110).1.2.2.2.2.1 (mi 110).1.2.2.2.2.2.1 calX4_passInto false 1) sdX4_passInto = true := by decide +kernel
def GX4_passInto_98 (l : Launch) (h0 : Hp) (h' : Hp) (v : Int) (_ : Hp) : (Int × Int × Hp) → Prop
  | (e0, e1, h1) => PAt l false (mi 110).1 h0 v h' 139 [(0, 8, e0), (1, 0, e1)] [] h1
def GX4_passInto_24 (l : Launch) (h0 : Hp) (h' : Hp) (v : Int) (_ : Hp) : (Int × Int × Int × Hp) → Prop
  | (e0, e1, e2, h1) => PAt l false (mi 110).1 h0 v h' 54 [(0, 8, e0), (1, 0, e1), (2, 0, e2)] [] h1
def GX4_passInto_58 (l : Launch) (h0 : Hp) (h' : Hp) (v : Int) (_ : Hp) : (Int × Int × Int × Hp) → Prop
  | (e0, e1, e2, h1) => PAt l false (mi 110).1 h0 v h' 96 [(0, 8, e0), (1, 0, e1), (2, 0, e2)] [] h1
theorem sBX4_passInto_24 {l : Launch} {h0 h' : Hp} {v : Int} (h8 : nOf h0 = 148) (n : Nat) : ∀ (f : Nat) (x0 : Int) (x1 : Int) (x2 : Int) (x3 : Int) (h : Hp) {r : Int × Int × Int × Hp}, BX4_passInto_24 n f x0 x1 x2 x3 h = some r → GX4_passInto_24 l h0 h' v h r → PAt l false (mi 110).1 h0 v h' 24 [(0, 8, x0), (1, 0, x1), (2, 0, x2), (3, 0, x3)] [] h := by
  intro f
  induction f with
  | zero =>
    intro x0 x1 x2 x3 h r H _
    have H2 : (none : Option (Int × Int × Int × Hp)) = some r := H
    cases H2
  | succ f ih =>
    intro x0 x1 x2 x3 h r H hG
    exact pat_w ok_sdX4_passInto rkX4_passInto h8 (foX4_passInto n) (fun v1 h1 q => by cases q) (List.forall_mem_cons.mpr ⟨(fun a c h H => by
      dsimp only at H
      split at H
      · exact ih _ _ _ _ _ H hG
      · cases H), (List.forall_mem_cons.mpr ⟨(fun a c h H => by
      dsimp only at H
      split at H
      · cases H
        exact hG
      · cases H), (fun q9 h9 => by cases h9)⟩)⟩) ((eBX4_passInto_24 n f x0 x1 x2 x3 h).symm.trans H)
theorem sBX4_passInto_58 {l : Launch} {h0 h' : Hp} {v : Int} (h8 : nOf h0 = 148) (n : Nat) : ∀ (f : Nat) (x0 : Int) (x1 : Int) (x2 : Int) (x3 : Int) (h : Hp) {r : Int × Int × Int × Hp}, BX4_passInto_58 n f x0 x1 x2 x3 h = some r → GX4_passInto_58 l h0 h' v h r → PAt l false (mi 110).1 h0 v h' 58 [(0, 8, x0), (1, 0, x1), (2, 0, x2), (3, 0, x3)] [] h := by
  intro f
  induction f with
  | zero =>
    intro x0 x1 x2 x3 h r H _
    have H2 : (none : Option (Int × Int × Int × Hp)) = some r := H
    cases H2
  | succ f ih =>
    intro x0 x1 x2 x3 h r H hG
    exact pat_w ok_sdX4_passInto rkX4_passInto h8 (foX4_passInto n) (fun v1 h1 q => by cases q) (List.forall_mem_cons.mpr ⟨(fun a c h H => by
      dsimp only at H
      split at H
      · exact ih _ _ _ _ _ H hG
      · cases H), (List.forall_mem_cons.mpr ⟨(fun a c h H => by
      dsimp only at H
      split at H
      · cases H
        exact hG
      · cases H), (fun q9 h9 => by cases h9)⟩)⟩) ((eBX4_passInto_58 n f x0 x1 x2 x3 h).symm.trans H)
theorem sBX4_passInto_98 {l : Launch} {h0 h' : Hp} {v : Int} (h8 : nOf h0 = 148) (n : Nat) : ∀ (f : Nat) (x0 : Int) (x1 : Int) (x2 : Int) (x3 : Int) (h : Hp) {r : Int × Int × Hp}, BX4_passInto_98 n f x0 x1 x2 x3 h = some r → GX4_passInto_98 l h0 h' v h r → PAt l false (mi 110).1 h0 v h' 98 [(0, 8, x0), (1, 0, x1), (2, 0, x2), (3, 0, x3)] [] h := by
  intro f
  induction f with
  | zero =>
    intro x0 x1 x2 x3 h r H _
    have H2 : (none : Option (Int × Int × Hp)) = some r := H
    cases H2
  | succ f ih =>
    intro x0 x1 x2 x3 h r H hG
    exact pat_w ok_sdX4_passInto rkX4_passInto h8 (foX4_passInto n) (fun v1 h1 q => by cases q) (List.forall_mem_cons.mpr ⟨(fun a c h H => by
      dsimp only at H
      split at H
      · exact ih _ _ _ _ _ H hG
      · cases H), (List.forall_mem_cons.mpr ⟨(fun a c h H => by
      dsimp only at H
      split at H
      · cases H
        exact hG
      · cases H), (fun q9 h9 => by cases h9)⟩)⟩) ((eBX4_passInto_98 n f x0 x1 x2 x3 h).symm.trans H)
theorem sJX4_passInto_139 {l : Launch} {h0 h' : Hp} {v : Int} (h8 : nOf h0 = 148) (n : Nat) (x0 : Int) (x1 : Int) (h : Hp) {r : Int × Hp} (H : JX4_passInto_139 n x0 x1 h = some r) (hG : gWV v h' r) : PAt l false (mi 110).1 h0 v h' 139 [(0, 8, x0), (1, 0, x1)] [] h :=
  pat_w ok_sdX4_passInto rkX4_passInto h8 (foX4_passInto n) (fun v1 h1 q => by
    cases q
    exact ⟨hG.1, fun _ => hG.2⟩) (fun q9 h9 => by cases h9) ((eJX4_passInto_139 n x0 x1 h).symm.trans H)
theorem sLX4_passInto_98 {l : Launch} {h0 h' : Hp} {v : Int} (h8 : nOf h0 = 148) (n : Nat) (x0 : Int) (x1 : Int) (x2 : Int) (x3 : Int) (h : Hp) {r : Int × Hp} (H : LX4_passInto_98 n x0 x1 x2 x3 h = some r) (hG : gWV v h' r) : PAt l false (mi 110).1 h0 v h' 98 [(0, 8, x0), (1, 0, x1), (2, 0, x2), (3, 0, x3)] [] h := by
  obtain ⟨e9, h2, h3⟩ := bndx_some H
  obtain ⟨e0, e1, h1⟩ := e9
  exact sBX4_passInto_98 h8 n n x0 x1 x2 x3 h h2 (sJX4_passInto_139 h8 n e0 e1 h1 h3 hG)
theorem sJX4_passInto_96 {l : Launch} {h0 h' : Hp} {v : Int} (h8 : nOf h0 = 148) (n : Nat) (x0 : Int) (x1 : Int) (x2 : Int) (h : Hp) {r : Int × Hp} (H : JX4_passInto_96 n x0 x1 x2 h = some r) (hG : gWV v h' r) : PAt l false (mi 110).1 h0 v h' 96 [(0, 8, x0), (1, 0, x1), (2, 0, x2)] [] h :=
  pat_w ok_sdX4_passInto rkX4_passInto h8 (foX4_passInto n) (fun v1 h1 q => by
    cases q
    exact ⟨hG.1, fun _ => hG.2⟩) (List.forall_mem_cons.mpr ⟨(fun a c h H => by
      dsimp only at H
      split at H
      · exact sLX4_passInto_98 h8 n _ _ _ _ _ H hG
      · cases H), (fun q9 h9 => by cases h9)⟩) ((eJX4_passInto_96 n x0 x1 x2 h).symm.trans H)
theorem sLX4_passInto_58 {l : Launch} {h0 h' : Hp} {v : Int} (h8 : nOf h0 = 148) (n : Nat) (x0 : Int) (x1 : Int) (x2 : Int) (x3 : Int) (h : Hp) {r : Int × Hp} (H : LX4_passInto_58 n x0 x1 x2 x3 h = some r) (hG : gWV v h' r) : PAt l false (mi 110).1 h0 v h' 58 [(0, 8, x0), (1, 0, x1), (2, 0, x2), (3, 0, x3)] [] h := by
  obtain ⟨e9, h2, h3⟩ := bndx_some H
  obtain ⟨e0, e1, e2, h1⟩ := e9
  exact sBX4_passInto_58 h8 n n x0 x1 x2 x3 h h2 (sJX4_passInto_96 h8 n e0 e1 e2 h1 h3 hG)
theorem sJX4_passInto_54 {l : Launch} {h0 h' : Hp} {v : Int} (h8 : nOf h0 = 148) (n : Nat) (x0 : Int) (x1 : Int) (x2 : Int) (h : Hp) {r : Int × Hp} (H : JX4_passInto_54 n x0 x1 x2 h = some r) (hG : gWV v h' r) : PAt l false (mi 110).1 h0 v h' 54 [(0, 8, x0), (1, 0, x1), (2, 0, x2)] [] h :=
  pat_w ok_sdX4_passInto rkX4_passInto h8 (foX4_passInto n) (fun v1 h1 q => by
    cases q
    exact ⟨hG.1, fun _ => hG.2⟩) (List.forall_mem_cons.mpr ⟨(fun a c h H => by
      dsimp only at H
      split at H
      · exact sLX4_passInto_58 h8 n _ _ _ _ _ H hG
      · cases H), (fun q9 h9 => by cases h9)⟩) ((eJX4_passInto_54 n x0 x1 x2 h).symm.trans H)
theorem sLX4_passInto_24 {l : Launch} {h0 h' : Hp} {v : Int} (h8 : nOf h0 = 148) (n : Nat) (x0 : Int) (x1 : Int) (x2 : Int) (x3 : Int) (h : Hp) {r : Int × Hp} (H : LX4_passInto_24 n x0 x1 x2 x3 h = some r) (hG : gWV v h' r) : PAt l false (mi 110).1 h0 v h' 24 [(0, 8, x0), (1, 0, x1), (2, 0, x2), (3, 0, x3)] [] h := by
  obtain ⟨e9, h2, h3⟩ := bndx_some H
  obtain ⟨e0, e1, e2, h1⟩ := e9
  exact sBX4_passInto_24 h8 n n x0 x1 x2 x3 h h2 (sJX4_passInto_54 h8 n e0 e1 e2 h1 h3 hG)
theorem sMX4_passInto {l : Launch} {h0 h' : Hp} {v : Int} (h8 : nOf h0 = 148) (n : Nat) (x0 : Int) (x1 : Int) (h : Hp) {r : Int × Hp} (H : MX4_passInto n x0 x1 h = some r) (hG : gWV v h' r) : PAt l false (mi 110).1 h0 v h' 0 [(0, 8, x0), (1, 0, x1)] [] h :=
  pat_w ok_sdX4_passInto rkX4_passInto h8 (foX4_passInto n) (fun v1 h1 q => by
    cases q
    exact ⟨hG.1, fun _ => hG.2⟩) (List.forall_mem_cons.mpr ⟨(fun a c h H => by
      dsimp only at H
      split at H
      · exact sLX4_passInto_24 h8 n _ _ _ _ _ H hG
      · cases H), (fun q9 h9 => by cases h9)⟩) ((eMX4_passInto n x0 x1 h).symm.trans H)
theorem sndX4_passInto {ρ : Type} {l : Launch} (n : Nat) : SndF (ρ := ρ) l false (mi 110).1 (wX4_passInto n) := by
    intro a h k r H ha ho hn hf
    have h8 := hf rfl
    obtain ⟨x0, x1, rfl⟩ := len2 (show a.length = 2 from ha)
    replace H : bnd (MX4_passInto n x0 x1 h) (fun r h2 => k r h2) = some r := H
    obtain ⟨v2, h2, H1, H2⟩ := bnd_some H
    exact ⟨v2, h2, H2, met_mk (mok_base okX4_passInto).1 (by decide +kernel) (Nat.le_of_ble_eq_true rfl) ho (sMX4_passInto h8 n x0 x1 h H1 ⟨rfl, rfl⟩), fun q => by cases q⟩
/-! X11_block -/
def sdX11_block : SD := [(0, [(0, .aload_n 0, 1, [], 0), (1, .getfield 10, 3, [11, 2, 14, 0, 692, 0], 0), (4, .iload_n 1, 1, [], 0), (5, .invokevirtual 142, 3, [1, 0, 1, 43, 984, 0, 14], 0), (8, .ifCond .eq 13, 3, [], 0)]),
  (11, [(11, .iload_n 2, 1, [], 0), (12, .ifCond .lt 9, 3, [], 0)]),
  (15, [(15, .iload_n 2, 1, [], 0), (16, .bipush 9, 2, [], 0), (18, .if_icmp .le 5, 3, [], 0)]),
  (21, [(21, .iconst (-1), 1, [], 0), (22, .ireturn, 1, [], 0)]),
  (23, [(23, .iload_n 2, 1, [], 0), (24, .tableswitch 119 3 9 #[44, 54, 64, 74, 84, 97, 109], 44, [], 0)]),
  (68, [(68, .aload_n 0, 1, [], 0), (69, .getfield 10, 3, [11, 2, 14, 0, 692, 0], 0), (72, .getfield 145, 3, [10, 2, 532, 1, 174, 0], 6), (75, .iload_n 1, 1, [], 0), (76, .iaload, 1, [], 0), (77, .ireturn, 1, [], 0)]),
  (78, [(78, .aload_n 0, 1, [], 0), (79, .getfield 10, 3, [11, 2, 14, 0, 692, 0], 0), (82, .getfield 148, 3, [10, 4, 532, 1, 181, 0], 8), (85, .iload_n 1, 1, [], 0), (86, .iaload, 1, [], 0), (87, .ireturn, 1, [], 0)]),
  (88, [(88, .aload_n 0, 1, [], 0), (89, .getfield 10, 3, [11, 2, 14, 0, 692, 0], 0), (92, .getfield 151, 3, [10, 5, 532, 1, 183, 0], 9), (95, .iload_n 1, 1, [], 0), (96, .iaload, 1, [], 0), (97, .ireturn, 1, [], 0)]),
  (98, [(98, .aload_n 0, 1, [], 0), (99, .getfield 10, 3, [11, 2, 14, 0, 692, 0], 0), (102, .getfield 154, 3, [10, 6, 532, 1, 187, 0], 10), (105, .iload_n 1, 1, [], 0), (106, .iaload, 1, [], 0), (107, .ireturn, 1, [], 0)]),
  (108, [(108, .aload_n 0, 1, [], 0), (109, .getfield 47, 3, [11, 5, 5, 1, 695, 0], 50), (112, .getfield 157, 3, [1, 0, 8, 1, 465, 0], 2), (115, .getfield 161, 3, [4, 4, 532, 1, 440, 0], 1), (118, .iload_n 1, 1, [], 0), (119, .iaload, 1, [], 0), (120, .ireturn, 1, [], 0)]),
  (121, [(121, .aload_n 0, 1, [], 0), (122, .getfield 47, 3, [11, 5, 5, 1, 695, 0], 50), (125, .getfield 157, 3, [1, 0, 8, 1, 465, 0], 2), (128, .iload_n 1, 1, [], 0), (129, .invokevirtual 165, 3, [1, 1, 1, 110, 985, 0, 8], 0), (132, .ireturn, 1, [], 0)]),
  (133, [(133, .aload_n 0, 1, [], 0), (134, .getfield 10, 3, [11, 2, 14, 0, 692, 0], 0), (137, .getfield 169, 3, [10, 7, 532, 1, 189, 0], 11), (140, .iload_n 1, 1, [], 0), (141, .iaload, 1, [], 0), (142, .ireturn, 1, [], 0)]),
  (143, [(143, .aload_n 0, 1, [], 0), (144, .getfield 10, 3, [11, 2, 14, 0, 692, 0], 0), (147, .getfield 172, 3, [10, 1, 50, 1, 170, 0], 2), (150, .iload_n 2, 1, [], 0), (151, .aaload, 1, [], 0), (152, .iload_n 1, 1, [], 0), (153, .iconst 1, 1, [], 0), (154, .iadd, 1, [], 0), (155, .iaload, 1, [], 0), (156, .ireturn, 1, [], 0)])]
def MX11_block (n : Nat) (x1 x2 : Int) (h : Hp) : Option (Int × Hp) :=
(bndp (MX10_has (h 0 2) x1 h) fun r1 =>
(if r1 = 0 then
(some ((-1), h))
else
(if x2 < 0 then
(some ((-1), h))
else
(if x2 ≤ 9 then
(if x2 = 3 then
(grd (0 ≤ x1 ∧ x1 < alen 532)
(some ((h ((h 0 2) + 6) x1), h)))
else
(if x2 = 4 then
(grd (0 ≤ x1 ∧ x1 < alen 532)
(some ((h ((h 0 2) + 8) x1), h)))
else
(if x2 = 5 then
(grd (0 ≤ x1 ∧ x1 < alen 532)
(some ((h ((h 0 2) + 9) x1), h)))
else
(if x2 = 6 then
(grd (0 ≤ x1 ∧ x1 < alen 532)
(some ((h ((h 0 2) + 10) x1), h)))
else
(if x2 = 7 then
(grd (0 ≤ x1 ∧ x1 < alen 532)
(some ((h 53 x1), h)))
else
(if x2 = 8 then
(bnd (MX4_passInto n 52 x1 h) fun r2 h1 =>
(some (r2, h1)))
else
(if x2 = 9 then
(grd (0 ≤ x1 ∧ x1 < alen 532)
(some ((h ((h 0 2) + 11) x1), h)))
else
(grd (0 ≤ x2 ∧ x2 < alen 50)
(grd (0 ≤ (w32 (x1 + 1)) ∧ (w32 (x1 + 1)) < alen 540)
(some ((h (((h 0 2) + 2) + 1 + x2) (w32 (x1 + 1))), h)))))))))))
else
(some ((-1), h))))))
def wX11_block {ρ : Type} (n : Nat) : FN ρ := fun a h k => match a with
  | [_, x1, x2] => bnd (MX11_block n x1 x2 h) (fun r h2 => k r h2)
  | _ => none
def fsX11_block (n : Nat) (ρ : Type) : List (FN ρ) := [wX10_has, wX4_passInto n]
def KMX11_block (_ : Nat) : CT (Int × Hp) := []
set_option maxRecDepth 100000 in
theorem eMX11_block (n : Nat) (x1 : Int) (x2 : Int) (h : Hp) : MX11_block n x1 x2 h =
  goAt false (kct (KMX11_block n)) (fun v h => some ((v, h))) (fsX11_block n _) sdX11_block 1000 0 [(0, 15, 0), (1, 0, x1), (2, 0, x2)] [] h := rfl
theorem okX11_block : mokb (mi 111) = true := by decide +kernel
theorem rkX11_block : rkOK 1 (mi 111).1.2.2.2.2.2.2.1 (mi 111).1.2.2.2.1 := Or.inr (Or.inl ⟨rfl, rfl, rfl⟩)
def calX11_block : List Nat := [43, 110]
theorem foX11_block {l : Launch} {ρ : Type} (n : Nat) : fsOK l false mi calX11_block (fsX11_block n ρ) := ⟨sndX10_has, ⟨(sndX4_passInto n), trivial⟩⟩
theorem ok_sdX11_block : sdb (mi 111).1.2.1 (insOK mi (mi 111).1.1.cls (mi 111).1.2.2.1 (mi 111).1.2.2.2.2.1 (mi 111).1.2.2.2.2.2.1 calX11_block false 1) sdX11_block = true := by decide +kernel
theorem sMX11_block {l : Launch} {h0 h' : Hp} {v : Int} (h8 : nOf h0 = 148) (n : Nat) (x1 : Int) (x2 : Int) (h : Hp) {r : Int × Hp} (H : MX11_block n x1 x2 h = some r) (hG : gWV v h' r) : PAt l false (mi 111).1 h0 v h' 0 [(0, 15, 0), (1, 0, x1), (2, 0, x2)] [] h :=
  pat_w ok_sdX11_block rkX11_block h8 (foX11_block n) (fun v1 h1 q => by
    cases q
    exact ⟨hG.1, fun _ => hG.2⟩) (fun q9 h9 => by cases h9) ((eMX11_block n x1 x2 h).symm.trans H)
theorem sndX11_block {ρ : Type} {l : Launch} (n : Nat) : SndF (ρ := ρ) l false (mi 111).1 (wX11_block n) := by
    intro a h k r H ha ho hn hf
    have h8 := hf rfl
    obtain ⟨x0, x1, x2, rfl⟩ := len3 (show a.length = 3 from ha)
    have u0 := uq15 hn (ho (15, x0) (List.mem_cons_self))
    subst u0
    replace H : bnd (MX11_block n x1 x2 h) (fun r h2 => k r h2) = some r := H
    obtain ⟨v2, h2, H1, H2⟩ := bnd_some H
    exact ⟨v2, h2, H2, met_mk (mok_base okX11_block).1 (by decide +kernel) (Nat.le_of_ble_eq_true rfl) ho (sMX11_block h8 n x1 x2 h H1 ⟨rfl, rfl⟩), fun q => by cases q⟩
/-! X12_leastBy -/
def sdX12_leastBy : SD := [(0, [(0, .ldc2_w 354, 3, [1, 1685], 9223372036854775807), (3, .lstore_n 3, 1, [], 0), (4, .iconst 0, 1, [], 0), (5, .istore 5, 2, [], 0)]),
  (7, [(7, .iload 5, 2, [], 0), (9, .iconst 3, 1, [], 0), (10, .if_icmp .ge 55, 3, [], 0)]),
  (13, [(13, .aload_n 0, 1, [], 0), (14, .iload_n 1, 1, [], 0), (15, .iload 5, 2, [], 0), (17, .invokevirtual 146, 3, [1, 0, 1, 106, 1310, 0, 0, 16], 0), (20, .invokestatic 286, 3, [1, 1, 3, 263, 1625, 0], 0), (23, .i2l, 1, [], 0), (24, .lstore 6, 2, [], 0), (26, .lload 6, 2, [], 0), (28, .lconst 0, 1, [], 0), (29, .lcmp, 1, [], 0), (30, .ifCond .le 29, 3, [], 0)]),
  (33, [(33, .lload_n 3, 1, [], 0), (34, .aload_n 0, 1, [], 0), (35, .getfield 15, 3, [12, 1, 84, 1, 1323, 0], 2), (38, .iload_n 2, 1, [], 0), (39, .iload 5, 2, [], 0), (41, .iadd, 1, [], 0), (42, .iaload, 1, [], 0), (43, .i2l, 1, [], 0), (44, .aload_n 0, 1, [], 0), (45, .getfield 46, 3, [12, 17, 532, 1, 1339, 0], 12), (48, .iload_n 1, 1, [], 0), (49, .iaload, 1, [], 0), (50, .i2l, 1, [], 0), (51, .lmul, 1, [], 0), (52, .lload 6, 2, [], 0), (54, .ldiv, 1, [], 0), (55, .invokestatic 356, 3, [2, 2, 3, 264, 1686, 1, 1], 0), (58, .lstore_n 3, 1, [], 0)]),
  (59, [(59, .iinc 5 1, 3, [], 0), (62, .goto (-55), 3, [], 0)]),
  (65, [(65, .lload_n 3, 1, [], 0), (66, .l2i, 1, [], 0), (67, .ireturn, 1, [], 0)])]
def BX12_leastBy_7 (n : Nat) : Nat → Int → Int → Int → Int → Hp → Option (Int)
  | 0, _, _, _, _, _ => none
  | f + 1, x1, x2, x3, x5, h =>
    (if 3 ≤ x5 then
    (some (w32 x3))
    else
    (bndp (MX12_goes x1 x5 h) fun r1 =>
    (ltt (jabs r1) fun y1 =>
    (if (lcp y1 0) ≤ 0 then
    (ltt (w32 (x5 + 1)) fun y2 =>
    (BX12_leastBy_7 n f x1 x2 x3 y2 h))
    else
    (grd (0 ≤ (w32 (x2 + x5)) ∧ (w32 (x2 + x5)) < alen 84)
    (grd (0 ≤ x1 ∧ x1 < alen 532)
    (grd (¬ y1 = 0)
    (ltt (min x3 (w64 (Int.tdiv (w64 ((h 115 (w32 (x2 + x5))) * (h 125 x1))) y1))) fun y3 =>
    (ltt (w32 (x5 + 1)) fun y4 =>
    (BX12_leastBy_7 n f x1 x2 y3 y4 h))))))))))
def LX12_leastBy_7 (n : Nat) (x1 x2 x3 x5 : Int) (h : Hp) : Option (Int) :=
(BX12_leastBy_7 n n x1 x2 x3 x5 h)
def MX12_leastBy (n : Nat) (x1 x2 : Int) (h : Hp) : Option (Int) :=
(ltt 9223372036854775807 fun y1 =>
(ltt 0 fun y2 =>
(LX12_leastBy_7 n x1 x2 y1 y2 h)))
def wX12_leastBy {ρ : Type} (n : Nat) : FN ρ := fun a h k => match a with
  | [_, x1, x2] => bndp (MX12_leastBy n x1 x2 h) (fun r => k r h)
  | _ => none
def fsX12_leastBy (n : Nat) (ρ : Type) : List (FN ρ) := [wX12_goes, fabs, fmin]
def KBX12_leastBy_7 (_ : Nat) (bk : Int → Int → Int → Int → Hp → Option (Int)) : CT (Int) := [(7, [(0, 16, (some 113)), (1, 0, none), (2, 0, none), (3, 1, none), (5, 0, none)], [], fun a c h => match a, c with
    | [x1, x2, x3, x5], [] => bk x1 x2 x3 x5 h
    | _, _ => none)]
set_option maxRecDepth 100000 in
theorem eBX12_leastBy_7 (n f : Nat) (x1 : Int) (x2 : Int) (x3 : Int) (x5 : Int) (h : Hp) : BX12_leastBy_7 n (f + 1) x1 x2 x3 x5 h =
  goAt false (kct (KBX12_leastBy_7 n (BX12_leastBy_7 n f))) (fun v _ => some (v)) (fsX12_leastBy n _) sdX12_leastBy 1000 7 [(0, 16, 113), (1, 0, x1), (2, 0, x2), (3, 1, x3), (5, 0, x5)] [] h := rfl
def KMX12_leastBy (n : Nat) : CT (Int) := [(7, [(0, 16, (some 113)), (1, 0, none), (2, 0, none), (3, 1, none), (5, 0, none)], [], fun a c h => match a, c with
    | [x1, x2, x3, x5], [] => LX12_leastBy_7 n x1 x2 x3 x5 h
    | _, _ => none)]
set_option maxRecDepth 100000 in
theorem eMX12_leastBy (n : Nat) (x1 : Int) (x2 : Int) (h : Hp) : MX12_leastBy n x1 x2 h =
  goAt false (kct (KMX12_leastBy n)) (fun v _ => some (v)) (fsX12_leastBy n _) sdX12_leastBy 1000 0 [(0, 16, 113), (1, 0, x1), (2, 0, x2)] [] h := rfl
theorem okX12_leastBy : mokb (mi 112) = true := by decide +kernel
theorem rkX12_leastBy : rkOK 1 (mi 112).1.2.2.2.2.2.2.1 (mi 112).1.2.2.2.1 := Or.inr (Or.inl ⟨rfl, rfl, rfl⟩)
def calX12_leastBy : List Nat := [106, 263, 264]
theorem foX12_leastBy {l : Launch} {ρ : Type} (n : Nat) : fsOK l false mi calX12_leastBy (fsX12_leastBy n ρ) := ⟨sndX12_goes, ⟨snd_mabs, ⟨snd_lmin, trivial⟩⟩⟩
theorem frX12_leastBy {ρ : Type} (n : Nat) : ∀ fn ∈ fsX12_leastBy n ρ, RoF fn := (List.forall_mem_cons.mpr ⟨roX12_goes, (List.forall_mem_cons.mpr ⟨ro_mabs, (List.forall_mem_cons.mpr ⟨ro_lmin, (fun q9 h9 => by cases h9)⟩)⟩)⟩)
theorem ok_sdX12_leastBy : sdb (mi 112).1.2.1 (insOK mi (mi 112).1.1.cls (mi 112).1.2.2.1 (mi 112).1.2.2.2.2.1 (mi 112).1.2.2.2.2.2.1 calX12_leastBy false 1) sdX12_leastBy = true := by decide +kernel
theorem sBX12_leastBy_7 {l : Launch} {h0 : Hp} {v : Int} (h8 : nOf h0 = 148) (n : Nat) (h : Hp) : ∀ (f : Nat) (x1 : Int) (x2 : Int) (x3 : Int) (x5 : Int) {r : Int}, BX12_leastBy_7 n f x1 x2 x3 x5 h = some r → gV v r → PAt l false (mi 112).1 h0 v h 7 [(0, 16, 113), (1, 0, x1), (2, 0, x2), (3, 1, x3), (5, 0, x5)] [] h := by
  intro f
  induction f with
  | zero =>
    intro x1 x2 x3 x5 r H _
    have H2 : (none : Option (Int)) = some r := H
    cases H2
  | succ f ih =>
    intro x1 x2 x3 x5 r H hG
    exact pat_ro ok_sdX12_leastBy rfl rkX12_leastBy h8 (foX12_leastBy n) (frX12_leastBy n) (fun v1 q => by
    cases q
    exact ⟨rfl, fun _ => hG⟩) (List.forall_mem_cons.mpr ⟨(fun a c H => by
      dsimp only at H
      split at H
      · exact ih _ _ _ _ H hG
      · cases H), (fun q9 h9 => by cases h9)⟩) ((eBX12_leastBy_7 n f x1 x2 x3 x5 h).symm.trans H)
theorem sLX12_leastBy_7 {l : Launch} {h0 : Hp} {v : Int} (h8 : nOf h0 = 148) (n : Nat) (x1 : Int) (x2 : Int) (x3 : Int) (x5 : Int) (h : Hp) {r : Int} (H : LX12_leastBy_7 n x1 x2 x3 x5 h = some r) (hG : gV v r) : PAt l false (mi 112).1 h0 v h 7 [(0, 16, 113), (1, 0, x1), (2, 0, x2), (3, 1, x3), (5, 0, x5)] [] h :=
  sBX12_leastBy_7 h8 n h n x1 x2 x3 x5 H hG
theorem sMX12_leastBy {l : Launch} {h0 : Hp} {v : Int} (h8 : nOf h0 = 148) (n : Nat) (x1 : Int) (x2 : Int) (h : Hp) {r : Int} (H : MX12_leastBy n x1 x2 h = some r) (hG : gV v r) : PAt l false (mi 112).1 h0 v h 0 [(0, 16, 113), (1, 0, x1), (2, 0, x2)] [] h :=
  pat_ro ok_sdX12_leastBy rfl rkX12_leastBy h8 (foX12_leastBy n) (frX12_leastBy n) (fun v1 q => by
    cases q
    exact ⟨rfl, fun _ => hG⟩) (List.forall_mem_cons.mpr ⟨(fun a c H => by
      dsimp only at H
      split at H
      · exact sLX12_leastBy_7 h8 n _ _ _ _ _ H hG
      · cases H), (fun q9 h9 => by cases h9)⟩) ((eMX12_leastBy n x1 x2 h).symm.trans H)
theorem sndX12_leastBy {ρ : Type} {l : Launch} (n : Nat) : SndF (ρ := ρ) l false (mi 112).1 (wX12_leastBy n) := by
    intro a h k r H ha ho hn hf
    have h8 := hf rfl
    obtain ⟨x0, x1, x2, rfl⟩ := len3 (show a.length = 3 from ha)
    have u0 := uq16 hn (ho (16, x0) (List.mem_cons_self))
    subst u0
    replace H : bndp (MX12_leastBy n x1 x2 h) (fun r => k r h) = some r := H
    obtain ⟨v2, H1, H2⟩ := bndp_some H
    exact ⟨v2, h, H2, met_mk (mok_base okX12_leastBy).1 (by decide +kernel) (Nat.le_of_ble_eq_true rfl) ho (sMX12_leastBy h8 n x1 x2 h H1 rfl), fun q => by cases q⟩
theorem roX12_leastBy {ρ : Type} (n : Nat) : RoF (wX12_leastBy n : FN ρ) := fun a h k k2 hk => by
  unfold wX12_leastBy
  split
  · exact bndp_ro hk
  · rfl
/-! X12_held -/
def sdX12_held : SD := [(0, [(0, .lconst 1, 1, [], 0), (1, .ldc2_w 359, 3, [1, 1692], 100), (4, .lload_n 0, 1, [], 0), (5, .invokestatic 356, 3, [2, 0, 3, 264, 1686, 1, 1], 0), (8, .invokestatic 361, 3, [2, 1, 3, 265, 1693, 1, 1], 0), (11, .l2i, 1, [], 0), (12, .ireturn, 1, [], 0)])]
def MX12_held (x0 : Int) : Option (Int) :=
(some (w32 (max 1 (min 100 x0))))
def wX12_held {ρ : Type} : FN ρ := fun a h k => match a with
  | [x0] => bndp (MX12_held x0) (fun r => k r h)
  | _ => none
def fsX12_held (ρ : Type) : List (FN ρ) := [fmin, fmax]
def KMX12_held  : CT (Int) := []
set_option maxRecDepth 100000 in
theorem eMX12_held (x0 : Int) (h : Hp) : MX12_held x0 =
  goAt false (kct (KMX12_held)) (fun v _ => some (v)) (fsX12_held _) sdX12_held 1000 0 [(0, 1, x0)] [] h := rfl
theorem okX12_held : mokb (mi 113) = true := by decide +kernel
theorem rkX12_held : rkOK 1 (mi 113).1.2.2.2.2.2.2.1 (mi 113).1.2.2.2.1 := Or.inr (Or.inl ⟨rfl, rfl, rfl⟩)
def calX12_held : List Nat := [264, 265]
theorem foX12_held {l : Launch} {ρ : Type} : fsOK l false mi calX12_held (fsX12_held ρ) := ⟨snd_lmin, ⟨snd_lmax, trivial⟩⟩
theorem frX12_held {ρ : Type} : ∀ fn ∈ fsX12_held ρ, RoF fn := (List.forall_mem_cons.mpr ⟨ro_lmin, (List.forall_mem_cons.mpr ⟨ro_lmax, (fun q9 h9 => by cases h9)⟩)⟩)
theorem ok_sdX12_held : sdb (mi 113).1.2.1 (insOK mi (mi 113).1.1.cls (mi 113).1.2.2.1 (mi 113).1.2.2.2.2.1 (mi 113).1.2.2.2.2.2.1 calX12_held false 1) sdX12_held = true := by decide +kernel
theorem sMX12_held {l : Launch} {h0 : Hp} {v : Int} (h8 : nOf h0 = 148)  (x0 : Int) (h : Hp) {r : Int} (H : MX12_held x0 = some r) (hG : gV v r) : PAt l false (mi 113).1 h0 v h 0 [(0, 1, x0)] [] h :=
  pat_ro ok_sdX12_held rfl rkX12_held h8 (foX12_held) (frX12_held) (fun v1 q => by
    cases q
    exact ⟨rfl, fun _ => hG⟩) (fun q9 h9 => by cases h9) ((eMX12_held x0 h).symm.trans H)
theorem sndX12_held {ρ : Type} {l : Launch} : SndF (ρ := ρ) l false (mi 113).1 (wX12_held) := by
    intro a h k r H ha ho hn hf
    have h8 := hf rfl
    obtain ⟨x0, rfl⟩ := len1 (show a.length = 1 from ha)
    replace H : bndp (MX12_held x0) (fun r => k r h) = some r := H
    obtain ⟨v2, H1, H2⟩ := bndp_some H
    exact ⟨v2, h, H2, met_mk (mok_base okX12_held).1 (by decide +kernel) (Nat.le_of_ble_eq_true rfl) ho (sMX12_held h8 x0 h H1 rfl), fun q => by cases q⟩
theorem roX12_held {ρ : Type} : RoF (wX12_held : FN ρ) := fun a h k k2 hk => by
  unfold wX12_held
  split
  · exact bndp_ro hk
  · rfl
/-! X12_sharpOf -/
def sdX12_sharpOf : SD := [(0, [(0, .lconst 0, 1, [], 0), (1, .lstore_n 2, 1, [], 0), (2, .iconst 0, 1, [], 0), (3, .istore 4, 2, [], 0)]),
  (5, [(5, .iload 4, 2, [], 0), (7, .iconst 3, 1, [], 0), (8, .if_icmp .ge 68, 3, [], 0)]),
  (11, [(11, .aload_n 0, 1, [], 0), (12, .iload_n 1, 1, [], 0), (13, .iload 4, 2, [], 0), (15, .invokevirtual 146, 3, [1, 0, 1, 106, 1310, 0, 0, 16], 0), (18, .i2l, 1, [], 0), (19, .ldc2_w 364, 3, [1, 1701], 32768), (22, .lmul, 1, [], 0), (23, .aload_n 0, 1, [], 0), (24, .getfield 46, 3, [12, 17, 532, 1, 1339, 0], 12), (27, .iload_n 1, 1, [], 0), (28, .iaload, 1, [], 0), (29, .i2l, 1, [], 0), (30, .ldiv, 1, [], 0), (31, .lstore 5, 2, [], 0), (33, .aload_n 0, 1, [], 0), (34, .iload_n 1, 1, [], 0), (35, .iconst 1, 1, [], 0), (36, .iadd, 1, [], 0), (37, .iload 4, 2, [], 0), (39, .invokevirtual 146, 3, [1, 0, 1, 106, 1310, 0, 0, 16], 0), (42, .i2l, 1, [], 0), (43, .ldc2_w 364, 3, [1, 1701], 32768), (46, .lmul, 1, [], 0), (47, .aload_n 0, 1, [], 0), (48, .getfield 46, 3, [12, 17, 532, 1, 1339, 0], 12), (51, .iload_n 1, 1, [], 0), (52, .iconst 1, 1, [], 0), (53, .iadd, 1, [], 0), (54, .iaload, 1, [], 0), (55, .i2l, 1, [], 0), (56, .ldiv, 1, [], 0), (57, .lstore 7, 2, [], 0), (59, .lload_n 2, 1, [], 0), (60, .lload 7, 2, [], 0), (62, .lload 5, 2, [], 0), (64, .lsub, 1, [], 0), (65, .invokestatic 150, 3, [2, 1, 3, 92, 1314, 1], 0), (68, .ladd, 1, [], 0), (69, .lstore_n 2, 1, [], 0), (70, .iinc 4 1, 3, [], 0), (73, .goto (-68), 3, [], 0)]),
  (76, [(76, .lload_n 2, 1, [], 0), (77, .invokestatic 154, 3, [1, 2, 3, 93, 1317, 1], 0), (80, .ireturn, 1, [], 0)])]
def BX12_sharpOf_5 (n : Nat) : Nat → Int → Int → Int → Hp → Option (Int)
  | 0, _, _, _, _ => none
  | f + 1, x1, x2, x4, h =>
    (if 3 ≤ x4 then
    (bndp (MX12_root n x2) fun r1 =>
    (some r1))
    else
    (bndp (MX12_goes x1 x4 h) fun r2 =>
    (grd (0 ≤ x1 ∧ x1 < alen 532)
    (grd (¬ (h 125 x1) = 0)
    (ltt (w64 (Int.tdiv (w64 (r2 * 32768)) (h 125 x1))) fun y1 =>
    (bndp (MX12_goes (w32 (x1 + 1)) x4 h) fun r3 =>
    (grd (0 ≤ (w32 (x1 + 1)) ∧ (w32 (x1 + 1)) < alen 532)
    (grd (¬ (h 125 (w32 (x1 + 1))) = 0)
    (ltt (w64 (Int.tdiv (w64 (r3 * 32768)) (h 125 (w32 (x1 + 1))))) fun y2 =>
    (bndp (MX12_square (w64 (y2 - y1))) fun r4 =>
    (ltt (w64 (x2 + r4)) fun y3 =>
    (ltt (w32 (x4 + 1)) fun y4 =>
    (BX12_sharpOf_5 n f x1 y3 y4 h)))))))))))))
def LX12_sharpOf_5 (n : Nat) (x1 x2 x4 : Int) (h : Hp) : Option (Int) :=
(BX12_sharpOf_5 n n x1 x2 x4 h)
def MX12_sharpOf (n : Nat) (x1 : Int) (h : Hp) : Option (Int) :=
(ltt 0 fun y1 =>
(ltt 0 fun y2 =>
(LX12_sharpOf_5 n x1 y1 y2 h)))
def wX12_sharpOf {ρ : Type} (n : Nat) : FN ρ := fun a h k => match a with
  | [_, x1] => bndp (MX12_sharpOf n x1 h) (fun r => k r h)
  | _ => none
def fsX12_sharpOf (n : Nat) (ρ : Type) : List (FN ρ) := [wX12_goes, wX12_square, wX12_root n]
def KBX12_sharpOf_5 (_ : Nat) (bk : Int → Int → Int → Hp → Option (Int)) : CT (Int) := [(5, [(0, 16, (some 113)), (1, 0, none), (2, 1, none), (4, 0, none)], [], fun a c h => match a, c with
    | [x1, x2, x4], [] => bk x1 x2 x4 h
    | _, _ => none)]
set_option maxRecDepth 100000 in
theorem eBX12_sharpOf_5 (n f : Nat) (x1 : Int) (x2 : Int) (x4 : Int) (h : Hp) : BX12_sharpOf_5 n (f + 1) x1 x2 x4 h =
  goAt false (kct (KBX12_sharpOf_5 n (BX12_sharpOf_5 n f))) (fun v _ => some (v)) (fsX12_sharpOf n _) sdX12_sharpOf 1000 5 [(0, 16, 113), (1, 0, x1), (2, 1, x2), (4, 0, x4)] [] h := rfl
def KMX12_sharpOf (n : Nat) : CT (Int) := [(5, [(0, 16, (some 113)), (1, 0, none), (2, 1, none), (4, 0, none)], [], fun a c h => match a, c with
    | [x1, x2, x4], [] => LX12_sharpOf_5 n x1 x2 x4 h
    | _, _ => none)]
set_option maxRecDepth 100000 in
theorem eMX12_sharpOf (n : Nat) (x1 : Int) (h : Hp) : MX12_sharpOf n x1 h =
  goAt false (kct (KMX12_sharpOf n)) (fun v _ => some (v)) (fsX12_sharpOf n _) sdX12_sharpOf 1000 0 [(0, 16, 113), (1, 0, x1)] [] h := rfl
theorem okX12_sharpOf : mokb (mi 114) = true := by decide +kernel
theorem rkX12_sharpOf : rkOK 1 (mi 114).1.2.2.2.2.2.2.1 (mi 114).1.2.2.2.1 := Or.inr (Or.inl ⟨rfl, rfl, rfl⟩)
def calX12_sharpOf : List Nat := [106, 92, 93]
theorem foX12_sharpOf {l : Launch} {ρ : Type} (n : Nat) : fsOK l false mi calX12_sharpOf (fsX12_sharpOf n ρ) := ⟨sndX12_goes, ⟨sndX12_square, ⟨(sndX12_root n), trivial⟩⟩⟩
theorem frX12_sharpOf {ρ : Type} (n : Nat) : ∀ fn ∈ fsX12_sharpOf n ρ, RoF fn := (List.forall_mem_cons.mpr ⟨roX12_goes, (List.forall_mem_cons.mpr ⟨roX12_square, (List.forall_mem_cons.mpr ⟨(roX12_root n), (fun q9 h9 => by cases h9)⟩)⟩)⟩)
theorem ok_sdX12_sharpOf : sdb (mi 114).1.2.1 (insOK mi (mi 114).1.1.cls (mi 114).1.2.2.1 (mi 114).1.2.2.2.2.1 (mi 114).1.2.2.2.2.2.1 calX12_sharpOf false 1) sdX12_sharpOf = true := by decide +kernel
theorem sBX12_sharpOf_5 {l : Launch} {h0 : Hp} {v : Int} (h8 : nOf h0 = 148) (n : Nat) (h : Hp) : ∀ (f : Nat) (x1 : Int) (x2 : Int) (x4 : Int) {r : Int}, BX12_sharpOf_5 n f x1 x2 x4 h = some r → gV v r → PAt l false (mi 114).1 h0 v h 5 [(0, 16, 113), (1, 0, x1), (2, 1, x2), (4, 0, x4)] [] h := by
  intro f
  induction f with
  | zero =>
    intro x1 x2 x4 r H _
    have H2 : (none : Option (Int)) = some r := H
    cases H2
  | succ f ih =>
    intro x1 x2 x4 r H hG
    exact pat_ro ok_sdX12_sharpOf rfl rkX12_sharpOf h8 (foX12_sharpOf n) (frX12_sharpOf n) (fun v1 q => by
    cases q
    exact ⟨rfl, fun _ => hG⟩) (List.forall_mem_cons.mpr ⟨(fun a c H => by
      dsimp only at H
      split at H
      · exact ih _ _ _ H hG
      · cases H), (fun q9 h9 => by cases h9)⟩) ((eBX12_sharpOf_5 n f x1 x2 x4 h).symm.trans H)
theorem sLX12_sharpOf_5 {l : Launch} {h0 : Hp} {v : Int} (h8 : nOf h0 = 148) (n : Nat) (x1 : Int) (x2 : Int) (x4 : Int) (h : Hp) {r : Int} (H : LX12_sharpOf_5 n x1 x2 x4 h = some r) (hG : gV v r) : PAt l false (mi 114).1 h0 v h 5 [(0, 16, 113), (1, 0, x1), (2, 1, x2), (4, 0, x4)] [] h :=
  sBX12_sharpOf_5 h8 n h n x1 x2 x4 H hG
theorem sMX12_sharpOf {l : Launch} {h0 : Hp} {v : Int} (h8 : nOf h0 = 148) (n : Nat) (x1 : Int) (h : Hp) {r : Int} (H : MX12_sharpOf n x1 h = some r) (hG : gV v r) : PAt l false (mi 114).1 h0 v h 0 [(0, 16, 113), (1, 0, x1)] [] h :=
  pat_ro ok_sdX12_sharpOf rfl rkX12_sharpOf h8 (foX12_sharpOf n) (frX12_sharpOf n) (fun v1 q => by
    cases q
    exact ⟨rfl, fun _ => hG⟩) (List.forall_mem_cons.mpr ⟨(fun a c H => by
      dsimp only at H
      split at H
      · exact sLX12_sharpOf_5 h8 n _ _ _ _ H hG
      · cases H), (fun q9 h9 => by cases h9)⟩) ((eMX12_sharpOf n x1 h).symm.trans H)
theorem sndX12_sharpOf {ρ : Type} {l : Launch} (n : Nat) : SndF (ρ := ρ) l false (mi 114).1 (wX12_sharpOf n) := by
    intro a h k r H ha ho hn hf
    have h8 := hf rfl
    obtain ⟨x0, x1, rfl⟩ := len2 (show a.length = 2 from ha)
    have u0 := uq16 hn (ho (16, x0) (List.mem_cons_self))
    subst u0
    replace H : bndp (MX12_sharpOf n x1 h) (fun r => k r h) = some r := H
    obtain ⟨v2, H1, H2⟩ := bndp_some H
    exact ⟨v2, h, H2, met_mk (mok_base okX12_sharpOf).1 (by decide +kernel) (Nat.le_of_ble_eq_true rfl) ho (sMX12_sharpOf h8 n x1 h H1 rfl), fun q => by cases q⟩
theorem roX12_sharpOf {ρ : Type} (n : Nat) : RoF (wX12_sharpOf n : FN ρ) := fun a h k k2 hk => by
  unfold wX12_sharpOf
  split
  · exact bndp_ro hk
  · rfl
/-! X12_lays -/
def sdX12_lays : SD := [(0, [(0, .aload_n 0, 1, [], 0), (1, .iload_n 2, 1, [], 0), (2, .putfield 366, 3, [12, 40, 0, 0, 0, 1362], 0), (5, .aload_n 0, 1, [], 0), (6, .bipush 12, 2, [], 0), (8, .putfield 369, 3, [12, 41, 0, 0, 0, 1363], 0), (11, .iconst 0, 1, [], 0), (12, .istore 4, 2, [], 0)]),
  (14, [(14, .iload 4, 2, [], 0), (16, .aload_n 0, 1, [], 0), (17, .getfield 140, 3, [12, 6, 0, 0, 1328, 0], 0), (20, .if_icmp .ge 98, 3, [], 0)]),
  (23, [(23, .aload_n 0, 1, [], 0), (24, .getfield 68, 3, [12, 34, 532, 1, 1356, 0], 19), (27, .iload 4, 2, [], 0), (29, .aload_n 0, 1, [], 0), (30, .iload 4, 2, [], 0), (32, .iconst 0, 1, [], 0), (33, .invokevirtual 372, 3, [1, 0, 1, 112, 1681, 0, 0, 16], 0), (36, .iastore, 1, [], 0), (37, .aload_n 0, 1, [], 0), (38, .getfield 71, 3, [12, 35, 532, 1, 1357, 0], 20), (41, .iload 4, 2, [], 0), (43, .aload_n 0, 1, [], 0), (44, .iload 4, 2, [], 0), (46, .iconst 3, 1, [], 0), (47, .invokevirtual 372, 3, [1, 0, 1, 112, 1681, 0, 0, 16], 0), (50, .iastore, 1, [], 0), (51, .aload_n 0, 1, [], 0), (52, .getfield 74, 3, [12, 36, 532, 1, 1358, 0], 21), (55, .iload 4, 2, [], 0), (57, .aload_n 0, 1, [], 0), (58, .getfield 40, 3, [12, 15, 532, 1, 1337, 0], 10), (61, .iload 4, 2, [], 0), (63, .iaload, 1, [], 0), (64, .iload_n 3, 1, [], 0), (65, .imul, 1, [], 0), (66, .bipush 100, 2, [], 0), (68, .idiv, 1, [], 0), (69, .aload_n 0, 1, [], 0), (70, .getfield 68, 3, [12, 34, 532, 1, 1356, 0], 19), (73, .iload 4, 2, [], 0), (75, .iaload, 1, [], 0), (76, .invokestatic 258, 3, [1, 1, 3, 261, 1596, 0, 0], 0), (79, .aload_n 0, 1, [], 0), (80, .getfield 366, 3, [12, 40, 0, 0, 1362, 0], 0), (83, .idiv, 1, [], 0), (84, .i2l, 1, [], 0), (85, .invokestatic 375, 3, [1, 2, 3, 113, 1689, 1], 0), (88, .iastore, 1, [], 0), (89, .aload_n 0, 1, [], 0), (90, .aload_n 0, 1, [], 0), (91, .getfield 369, 3, [12, 41, 0, 0, 1363, 0], 0), (94, .aload_n 0, 1, [], 0), (95, .getfield 71, 3, [12, 35, 532, 1, 1357, 0], 20), (98, .iload 4, 2, [], 0), (100, .iaload, 1, [], 0), (101, .aload_n 0, 1, [], 0), (102, .getfield 366, 3, [12, 40, 0, 0, 1362, 0], 0), (105, .idiv, 1, [], 0), (106, .invokestatic 258, 3, [1, 1, 3, 261, 1596, 0, 0], 0), (109, .putfield 369, 3, [12, 41, 0, 0, 0, 1363], 0), (112, .iinc 4 1, 3, [], 0), (115, .goto (-101), 3, [], 0)]),
  (118, [(118, .aload_n 0, 1, [], 0), (119, .iconst 1, 1, [], 0), (120, .aload_n 0, 1, [], 0), (121, .getfield 369, 3, [12, 41, 0, 0, 1363, 0], 0), (124, .invokestatic 378, 3, [1, 3, 3, 262, 1696, 0, 0], 0), (127, .putfield 369, 3, [12, 41, 0, 0, 0, 1363], 0), (130, .iconst 0, 1, [], 0), (131, .istore 4, 2, [], 0)]),
  (133, [(133, .iload 4, 2, [], 0), (135, .iconst 1, 1, [], 0), (136, .iadd, 1, [], 0), (137, .aload_n 0, 1, [], 0), (138, .getfield 140, 3, [12, 6, 0, 0, 1328, 0], 0), (141, .if_icmp .ge 172, 3, [], 0)]),
  (144, [(144, .aload_n 0, 1, [], 0), (145, .getfield 77, 3, [12, 37, 532, 1, 1359, 0], 22), (148, .iload 4, 2, [], 0), (150, .aload_n 0, 1, [], 0), (151, .iload 4, 2, [], 0), (153, .invokevirtual 380, 3, [1, 4, 1, 114, 1697, 0, 16], 0), (156, .iastore, 1, [], 0), (157, .aload_n 0, 1, [], 0), (158, .getfield 80, 3, [12, 38, 532, 1, 1360, 0], 23), (161, .iload 4, 2, [], 0), (163, .iconst 0, 1, [], 0), (164, .iastore, 1, [], 0), (165, .aload_n 0, 1, [], 0), (166, .getfield 83, 3, [12, 39, 532, 1, 1361, 0], 24), (169, .iload 4, 2, [], 0), (171, .bipush 100, 2, [], 0), (173, .iastore, 1, [], 0), (174, .aload_n 0, 1, [], 0), (175, .getfield 77, 3, [12, 37, 532, 1, 1359, 0], 22), (178, .iload 4, 2, [], 0), (180, .iaload, 1, [], 0), (181, .ifCond .le 126, 3, [], 0)]),
  (184, [(184, .ldc2_w 383, 3, [1, 1702], 4), (187, .iload_n 1, 1, [], 0), (188, .i2l, 1, [], 0), (189, .lmul, 1, [], 0), (190, .ldc2_w 364, 3, [1, 1701], 32768), (193, .lmul, 1, [], 0), (194, .aload_n 0, 1, [], 0), (195, .getfield 77, 3, [12, 37, 532, 1, 1359, 0], 22), (198, .iload 4, 2, [], 0), (200, .iaload, 1, [], 0), (201, .i2l, 1, [], 0), (202, .ldiv, 1, [], 0), (203, .lstore 5, 2, [], 0), (205, .aload_n 0, 1, [], 0), (206, .getfield 80, 3, [12, 38, 532, 1, 1360, 0], 23), (209, .iload 4, 2, [], 0), (211, .lload 5, 2, [], 0), (213, .aload_n 0, 1, [], 0), (214, .getfield 46, 3, [12, 17, 532, 1, 1339, 0], 12), (217, .iload 4, 2, [], 0), (219, .iaload, 1, [], 0), (220, .iconst 2, 1, [], 0), (221, .idiv, 1, [], 0), (222, .aload_n 0, 1, [], 0), (223, .getfield 46, 3, [12, 17, 532, 1, 1339, 0], 12), (226, .iload 4, 2, [], 0), (228, .iconst 1, 1, [], 0), (229, .iadd, 1, [], 0), (230, .iaload, 1, [], 0), (231, .iconst 2, 1, [], 0), (232, .idiv, 1, [], 0), (233, .invokestatic 258, 3, [1, 1, 3, 261, 1596, 0, 0], 0), (236, .i2l, 1, [], 0), (237, .invokestatic 356, 3, [2, 5, 3, 264, 1686, 1, 1], 0), (240, .l2i, 1, [], 0), (241, .iastore, 1, [], 0), (242, .aload_n 0, 1, [], 0), (243, .getfield 83, 3, [12, 39, 532, 1, 1361, 0], 24), (246, .iload 4, 2, [], 0), (248, .ldc2_w 125, 3, [1, 1321], 2), (251, .aload_n 0, 1, [], 0), (252, .getfield 80, 3, [12, 38, 532, 1, 1360, 0], 23), (255, .iload 4, 2, [], 0), (257, .iaload, 1, [], 0), (258, .i2l, 1, [], 0), (259, .lmul, 1, [], 0), (260, .aload_n 0, 1, [], 0), (261, .getfield 71, 3, [12, 35, 532, 1, 1357, 0], 20), (264, .iload 4, 2, [], 0), (266, .iaload, 1, [], 0), (267, .aload_n 0, 1, [], 0), (268, .getfield 71, 3, [12, 35, 532, 1, 1357, 0], 20), (271, .iload 4, 2, [], 0), (273, .iconst 1, 1, [], 0), (274, .iadd, 1, [], 0), (275, .iaload, 1, [], 0), (276, .invokestatic 258, 3, [1, 1, 3, 261, 1596, 0, 0], 0), (279, .i2l, 1, [], 0), (280, .lmul, 1, [], 0), (281, .ldc2_w 364, 3, [1, 1701], 32768), (284, .lmul, 1, [], 0), (285, .aload_n 0, 1, [], 0), (286, .getfield 77, 3, [12, 37, 532, 1, 1359, 0], 22), (289, .iload 4, 2, [], 0), (291, .iaload, 1, [], 0), (292, .i2l, 1, [], 0), (293, .ldiv, 1, [], 0), (294, .invokestatic 154, 3, [1, 6, 3, 93, 1317, 1], 0), (297, .aload_n 0, 1, [], 0), (298, .getfield 366, 3, [12, 40, 0, 0, 1362, 0], 0), (301, .idiv, 1, [], 0), (302, .i2l, 1, [], 0), (303, .invokestatic 375, 3, [1, 2, 3, 113, 1689, 1], 0), (306, .iastore, 1, [], 0)]),
  (307, [(307, .iinc 4 1, 3, [], 0), (310, .goto (-177), 3, [], 0)]),
  (313, [(313, .return_, 1, [], 0)])]
def BX12_lays_14 (n : Nat) : Nat → Int → Int → Int → Hp → Option (Int × Hp)
  | 0, _, _, _, _ => none
  | f + 1, x1, x3, x4, h =>
    (if (h 113 6) ≤ x4 then
    (some (x1, h))
    else
    (bndp (MX12_leastBy n x4 0 h) fun r1 =>
    (grd (0 ≤ x4 ∧ x4 < alen 532)
    (ltt (up h 132 x4 r1) fun h1 =>
    (bndp (MX12_leastBy n x4 3 h1) fun r2 =>
    (grd (0 ≤ x4 ∧ x4 < alen 532)
    (ltt (up h1 133 x4 r2) fun h2 =>
    (grd (0 ≤ x4 ∧ x4 < alen 532)
    (grd (¬ 100 = 0)
    (grd (0 ≤ x4 ∧ x4 < alen 532)
    (grd (¬ (h2 113 40) = 0)
    (bndp (MX12_held (w32 (Int.tdiv (min (w32 (Int.tdiv (w32 ((h2 123 x4) * x3)) 100)) (h2 132 x4)) (h2 113 40)))) fun r3 =>
    (grd (0 ≤ x4 ∧ x4 < alen 532)
    (ltt (up h2 134 x4 r3) fun h3 =>
    (grd (0 ≤ x4 ∧ x4 < alen 532)
    (grd (¬ (h3 113 40) = 0)
    (ltt (up h3 113 41 (min (h3 113 41) (w32 (Int.tdiv (h3 133 x4) (h3 113 40))))) fun h4 =>
    (ltt (w32 (x4 + 1)) fun y1 =>
    (BX12_lays_14 n f x1 x3 y1 h4)))))))))))))))))))
def BX12_lays_133 (n : Nat) : Nat → Int → Int → Hp → Option (Hp)
  | 0, _, _, _ => none
  | f + 1, x1, x4, h =>
    (if (h 113 6) ≤ (w32 (x4 + 1)) then
    (some h)
    else
    (bndp (MX12_sharpOf n x4 h) fun r1 =>
    (grd (0 ≤ x4 ∧ x4 < alen 532)
    (ltt (up h 135 x4 r1) fun h1 =>
    (grd (0 ≤ x4 ∧ x4 < alen 532)
    (ltt (up h1 136 x4 0) fun h2 =>
    (grd (0 ≤ x4 ∧ x4 < alen 532)
    (ltt (up h2 137 x4 100) fun h3 =>
    (grd (0 ≤ x4 ∧ x4 < alen 532)
    (if (h3 135 x4) ≤ 0 then
    (ltt (w32 (x4 + 1)) fun y1 =>
    (BX12_lays_133 n f x1 y1 h3))
    else
    (grd (0 ≤ x4 ∧ x4 < alen 532)
    (grd (¬ (h3 135 x4) = 0)
    (ltt (w64 (Int.tdiv (w64 ((w64 (4 * x1)) * 32768)) (h3 135 x4))) fun y2 =>
    (grd (0 ≤ x4 ∧ x4 < alen 532)
    (grd (¬ 2 = 0)
    (grd (0 ≤ (w32 (x4 + 1)) ∧ (w32 (x4 + 1)) < alen 532)
    (grd (¬ 2 = 0)
    (grd (0 ≤ x4 ∧ x4 < alen 532)
    (ltt (up h3 136 x4 (w32 (min y2 (min (w32 (Int.tdiv (h3 125 x4) 2)) (w32 (Int.tdiv (h3 125 (w32 (x4 + 1))) 2)))))) fun h4 =>
    (grd (0 ≤ x4 ∧ x4 < alen 532)
    (grd (0 ≤ x4 ∧ x4 < alen 532)
    (grd (0 ≤ (w32 (x4 + 1)) ∧ (w32 (x4 + 1)) < alen 532)
    (grd (0 ≤ x4 ∧ x4 < alen 532)
    (grd (¬ (h4 135 x4) = 0)
    (bndp (MX12_root n (w64 (Int.tdiv (w64 ((w64 ((w64 (2 * (h4 136 x4))) * (min (h4 133 x4) (h4 133 (w32 (x4 + 1)))))) * 32768)) (h4 135 x4)))) fun r2 =>
    (grd (¬ (h4 113 40) = 0)
    (bndp (MX12_held (w32 (Int.tdiv r2 (h4 113 40)))) fun r3 =>
    (grd (0 ≤ x4 ∧ x4 < alen 532)
    (ltt (up h4 137 x4 r3) fun h5 =>
    (ltt (w32 (x4 + 1)) fun y3 =>
    (BX12_lays_133 n f x1 y3 h5)))))))))))))))))))))))))))))))
def LX12_lays_133 (n : Nat) (x1 x4 : Int) (h : Hp) : Option (Hp) :=
(BX12_lays_133 n n x1 x4 h)
def JX12_lays_118 (n : Nat) (x1 : Int) (h : Hp) : Option (Hp) :=
(ltt (up h 113 41 (max 1 (h 113 41))) fun h1 =>
(ltt 0 fun y1 =>
(LX12_lays_133 n x1 y1 h1)))
def LX12_lays_14 (n : Nat) (x1 x3 x4 : Int) (h : Hp) : Option (Hp) :=
(bndx (BX12_lays_14 n n x1 x3 x4 h) fun (e1, h1) =>
(JX12_lays_118 n e1 h1))
def MX12_lays (n : Nat) (x1 x2 x3 : Int) (h : Hp) : Option (Hp) :=
(ltt (up h 113 40 x2) fun h1 =>
(ltt (up h1 113 41 12) fun h2 =>
(ltt 0 fun y1 =>
(LX12_lays_14 n x1 x3 y1 h2))))
def wX12_lays {ρ : Type} (n : Nat) : FN ρ := fun a h k => match a with
  | [_, x1, x2, x3] => bndh (MX12_lays n x1 x2 x3 h) (fun h2 => k 0 h2)
  | _ => none
def fsX12_lays (n : Nat) (ρ : Type) : List (FN ρ) := [wX12_leastBy n, fmin, wX12_held, fmax, wX12_sharpOf n, fmin, wX12_root n]
def KBX12_lays_14 (_ : Nat) (bk : Int → Int → Int → Hp → Option (Int × Hp)) : CT (Int × Hp) := [(14, [(0, 16, (some 113)), (1, 0, none), (3, 0, none), (4, 0, none)], [], fun a c h => match a, c with
    | [x1, x3, x4], [] => bk x1 x3 x4 h
    | _, _ => none),
  (118, [(0, 16, (some 113)), (1, 0, none)], [], fun a c h => match a, c with
    | [x1], [] => some (x1, h)
    | _, _ => none)]
set_option maxRecDepth 100000 in
theorem eBX12_lays_14 (n f : Nat) (x1 : Int) (x3 : Int) (x4 : Int) (h : Hp) : BX12_lays_14 n (f + 1) x1 x3 x4 h =
  goAt false (kct (KBX12_lays_14 n (BX12_lays_14 n f))) (fun _ _ => none) (fsX12_lays n _) sdX12_lays 1000 14 [(0, 16, 113), (1, 0, x1), (3, 0, x3), (4, 0, x4)] [] h := rfl
def KBX12_lays_133 (_ : Nat) (bk : Int → Int → Hp → Option (Hp)) : CT (Hp) := [(133, [(0, 16, (some 113)), (1, 0, none), (4, 0, none)], [], fun a c h => match a, c with
    | [x1, x4], [] => bk x1 x4 h
    | _, _ => none)]
set_option maxRecDepth 100000 in
theorem eBX12_lays_133 (n f : Nat) (x1 : Int) (x4 : Int) (h : Hp) : BX12_lays_133 n (f + 1) x1 x4 h =
  goAt false (kct (KBX12_lays_133 n (BX12_lays_133 n f))) (fun _ h => some (h)) (fsX12_lays n _) sdX12_lays 1000 133 [(0, 16, 113), (1, 0, x1), (4, 0, x4)] [] h := rfl
def KJX12_lays_118 (n : Nat) : CT (Hp) := [(133, [(0, 16, (some 113)), (1, 0, none), (4, 0, none)], [], fun a c h => match a, c with
    | [x1, x4], [] => LX12_lays_133 n x1 x4 h
    | _, _ => none)]
set_option maxRecDepth 100000 in
theorem eJX12_lays_118 (n : Nat) (x1 : Int) (h : Hp) : JX12_lays_118 n x1 h =
  goAt false (kct (KJX12_lays_118 n)) (fun _ h => some (h)) (fsX12_lays n _) sdX12_lays 1000 118 [(0, 16, 113), (1, 0, x1)] [] h := rfl
def KMX12_lays (n : Nat) : CT (Hp) := [(14, [(0, 16, (some 113)), (1, 0, none), (3, 0, none), (4, 0, none)], [], fun a c h => match a, c with
    | [x1, x3, x4], [] => LX12_lays_14 n x1 x3 x4 h
    | _, _ => none)]
set_option maxRecDepth 100000 in
theorem eMX12_lays (n : Nat) (x1 : Int) (x2 : Int) (x3 : Int) (h : Hp) : MX12_lays n x1 x2 x3 h =
  goAt false (kct (KMX12_lays n)) (fun _ h => some (h)) (fsX12_lays n _) sdX12_lays 1000 0 [(0, 16, 113), (1, 0, x1), (2, 0, x2), (3, 0, x3)] [] h := rfl
theorem okX12_lays : mokb (mi 115) = true := by decide +kernel
theorem rkX12_lays : rkOK 0 (mi 115).1.2.2.2.2.2.2.1 (mi 115).1.2.2.2.1 := Or.inl ⟨rfl, rfl, rfl⟩
def calX12_lays : List Nat := [112, 261, 113, 262, 114, 264, 93]
theorem foX12_lays {l : Launch} {ρ : Type} (n : Nat) : fsOK l false mi calX12_lays (fsX12_lays n ρ) := ⟨(sndX12_leastBy n), ⟨snd_mmin, ⟨sndX12_held, ⟨snd_mmax, ⟨(sndX12_sharpOf n), ⟨snd_lmin, ⟨(sndX12_root n), trivial⟩⟩⟩⟩⟩⟩⟩
theorem ok_sdX12_lays : sdb (mi 115).1.2.1 (insOK mi (mi 115).1.1.cls (mi 115).1.2.2.1 (mi 115).1.2.2.2.2.1 (mi 115).1.2.2.2.2.2.1 calX12_lays false 0) sdX12_lays = true := by decide +kernel
def GX12_lays_14 (l : Launch) (h0 : Hp) (h' : Hp) (v : Int) (_ : Hp) : (Int × Hp) → Prop
  | (e1, h1) => PAt l false (mi 115).1 h0 v h' 118 [(0, 16, 113), (1, 0, e1)] [] h1
theorem sBX12_lays_14 {l : Launch} {h0 h' : Hp} {v : Int} (h8 : nOf h0 = 148) (n : Nat) : ∀ (f : Nat) (x1 : Int) (x3 : Int) (x4 : Int) (h : Hp) {r : Int × Hp}, BX12_lays_14 n f x1 x3 x4 h = some r → GX12_lays_14 l h0 h' v h r → PAt l false (mi 115).1 h0 v h' 14 [(0, 16, 113), (1, 0, x1), (3, 0, x3), (4, 0, x4)] [] h := by
  intro f
  induction f with
  | zero =>
    intro x1 x3 x4 h r H _
    have H2 : (none : Option (Int × Hp)) = some r := H
    cases H2
  | succ f ih =>
    intro x1 x3 x4 h r H hG
    exact pat_w ok_sdX12_lays rkX12_lays h8 (foX12_lays n) (fun v1 h1 q => by cases q) (List.forall_mem_cons.mpr ⟨(fun a c h H => by
      dsimp only at H
      split at H
      · exact ih _ _ _ _ H hG
      · cases H), (List.forall_mem_cons.mpr ⟨(fun a c h H => by
      dsimp only at H
      split at H
      · cases H
        exact hG
      · cases H), (fun q9 h9 => by cases h9)⟩)⟩) ((eBX12_lays_14 n f x1 x3 x4 h).symm.trans H)
theorem sBX12_lays_133 {l : Launch} {h0 h' : Hp} {v : Int} (h8 : nOf h0 = 148) (n : Nat) : ∀ (f : Nat) (x1 : Int) (x4 : Int) (h : Hp) {r : Hp}, BX12_lays_133 n f x1 x4 h = some r → gW h' r → PAt l false (mi 115).1 h0 v h' 133 [(0, 16, 113), (1, 0, x1), (4, 0, x4)] [] h := by
  intro f
  induction f with
  | zero =>
    intro x1 x4 h r H _
    have H2 : (none : Option (Hp)) = some r := H
    cases H2
  | succ f ih =>
    intro x1 x4 h r H hG
    exact pat_w ok_sdX12_lays rkX12_lays h8 (foX12_lays n) (fun v1 h1 q => by
    cases q
    exact ⟨hG, fun q9 => absurd rfl q9⟩) (List.forall_mem_cons.mpr ⟨(fun a c h H => by
      dsimp only at H
      split at H
      · exact ih _ _ _ H hG
      · cases H), (fun q9 h9 => by cases h9)⟩) ((eBX12_lays_133 n f x1 x4 h).symm.trans H)
theorem sLX12_lays_133 {l : Launch} {h0 h' : Hp} {v : Int} (h8 : nOf h0 = 148) (n : Nat) (x1 : Int) (x4 : Int) (h : Hp) {r : Hp} (H : LX12_lays_133 n x1 x4 h = some r) (hG : gW h' r) : PAt l false (mi 115).1 h0 v h' 133 [(0, 16, 113), (1, 0, x1), (4, 0, x4)] [] h :=
  sBX12_lays_133 h8 n n x1 x4 h H hG
theorem sJX12_lays_118 {l : Launch} {h0 h' : Hp} {v : Int} (h8 : nOf h0 = 148) (n : Nat) (x1 : Int) (h : Hp) {r : Hp} (H : JX12_lays_118 n x1 h = some r) (hG : gW h' r) : PAt l false (mi 115).1 h0 v h' 118 [(0, 16, 113), (1, 0, x1)] [] h :=
  pat_w ok_sdX12_lays rkX12_lays h8 (foX12_lays n) (fun v1 h1 q => by
    cases q
    exact ⟨hG, fun q9 => absurd rfl q9⟩) (List.forall_mem_cons.mpr ⟨(fun a c h H => by
      dsimp only at H
      split at H
      · exact sLX12_lays_133 h8 n _ _ _ H hG
      · cases H), (fun q9 h9 => by cases h9)⟩) ((eJX12_lays_118 n x1 h).symm.trans H)
theorem sLX12_lays_14 {l : Launch} {h0 h' : Hp} {v : Int} (h8 : nOf h0 = 148) (n : Nat) (x1 : Int) (x3 : Int) (x4 : Int) (h : Hp) {r : Hp} (H : LX12_lays_14 n x1 x3 x4 h = some r) (hG : gW h' r) : PAt l false (mi 115).1 h0 v h' 14 [(0, 16, 113), (1, 0, x1), (3, 0, x3), (4, 0, x4)] [] h := by
  obtain ⟨e9, h2, h3⟩ := bndx_some H
  obtain ⟨e1, h1⟩ := e9
  exact sBX12_lays_14 h8 n n x1 x3 x4 h h2 (sJX12_lays_118 h8 n e1 h1 h3 hG)
theorem sMX12_lays {l : Launch} {h0 h' : Hp} {v : Int} (h8 : nOf h0 = 148) (n : Nat) (x1 : Int) (x2 : Int) (x3 : Int) (h : Hp) {r : Hp} (H : MX12_lays n x1 x2 x3 h = some r) (hG : gW h' r) : PAt l false (mi 115).1 h0 v h' 0 [(0, 16, 113), (1, 0, x1), (2, 0, x2), (3, 0, x3)] [] h :=
  pat_w ok_sdX12_lays rkX12_lays h8 (foX12_lays n) (fun v1 h1 q => by
    cases q
    exact ⟨hG, fun q9 => absurd rfl q9⟩) (List.forall_mem_cons.mpr ⟨(fun a c h H => by
      dsimp only at H
      split at H
      · exact sLX12_lays_14 h8 n _ _ _ _ H hG
      · cases H), (fun q9 h9 => by cases h9)⟩) ((eMX12_lays n x1 x2 x3 h).symm.trans H)
theorem sndX12_lays {ρ : Type} {l : Launch} (n : Nat) : SndF (ρ := ρ) l false (mi 115).1 (wX12_lays n) := by
    intro a h k r H ha ho hn hf
    have h8 := hf rfl
    obtain ⟨x0, x1, x2, x3, rfl⟩ := len4 (show a.length = 4 from ha)
    have u0 := uq16 hn (ho (16, x0) (List.mem_cons_self))
    subst u0
    replace H : bndh (MX12_lays n x1 x2 x3 h) (fun h2 => k 0 h2) = some r := H
    obtain ⟨h2, H1, H2⟩ := bndh_some H
    exact ⟨0, h2, H2, met_mk (mok_base okX12_lays).1 (by decide +kernel) (Nat.le_of_ble_eq_true rfl) ho (sMX12_lays h8 n x1 x2 x3 h H1 rfl), fun q => by cases q⟩
/-! X12_laysNow -/
def sdX12_laysNow : SD := [(0, [(0, .aload_n 0, 1, [], 0), (1, .aload_n 0, 1, [], 0), (2, .getfield 15, 3, [12, 1, 84, 1, 1323, 0], 2), (5, .bipush 7, 2, [], 0), (7, .iaload, 1, [], 0), (8, .aload_n 0, 1, [], 0), (9, .getfield 15, 3, [12, 1, 84, 1, 1323, 0], 2), (12, .bipush 6, 2, [], 0), (14, .iaload, 1, [], 0), (15, .aload_n 0, 1, [], 0), (16, .getfield 158, 3, [12, 45, 0, 0, 1367, 0], 0), (19, .invokevirtual 385, 3, [0, 0, 1, 115, 1677, 0, 0, 0, 16], 0), (22, .return_, 1, [], 0)])]
def MX12_laysNow (n : Nat) (h : Hp) : Option (Hp) :=
(grd (0 ≤ 7 ∧ 7 < alen 84)
(grd (0 ≤ 6 ∧ 6 < alen 84)
(bndh (MX12_lays n (h 115 7) (h 115 6) (h 113 45) h) fun h1 =>
(some h1))))
def wX12_laysNow {ρ : Type} (n : Nat) : FN ρ := fun a h k => match a with
  | [_] => bndh (MX12_laysNow n h) (fun h2 => k 0 h2)
  | _ => none
def fsX12_laysNow (n : Nat) (ρ : Type) : List (FN ρ) := [wX12_lays n]
def KMX12_laysNow (_ : Nat) : CT (Hp) := []
set_option maxRecDepth 100000 in
theorem eMX12_laysNow (n : Nat) (h : Hp) : MX12_laysNow n h =
  goAt false (kct (KMX12_laysNow n)) (fun _ h => some (h)) (fsX12_laysNow n _) sdX12_laysNow 1000 0 [(0, 16, 113)] [] h := rfl
theorem okX12_laysNow : mokb (mi 116) = true := by decide +kernel
theorem rkX12_laysNow : rkOK 0 (mi 116).1.2.2.2.2.2.2.1 (mi 116).1.2.2.2.1 := Or.inl ⟨rfl, rfl, rfl⟩
def calX12_laysNow : List Nat := [115]
theorem foX12_laysNow {l : Launch} {ρ : Type} (n : Nat) : fsOK l false mi calX12_laysNow (fsX12_laysNow n ρ) := ⟨(sndX12_lays n), trivial⟩
theorem ok_sdX12_laysNow : sdb (mi 116).1.2.1 (insOK mi (mi 116).1.1.cls (mi 116).1.2.2.1 (mi 116).1.2.2.2.2.1 (mi 116).1.2.2.2.2.2.1 calX12_laysNow false 0) sdX12_laysNow = true := by decide +kernel
theorem sMX12_laysNow {l : Launch} {h0 h' : Hp} {v : Int} (h8 : nOf h0 = 148) (n : Nat)  (h : Hp) {r : Hp} (H : MX12_laysNow n h = some r) (hG : gW h' r) : PAt l false (mi 116).1 h0 v h' 0 [(0, 16, 113)] [] h :=
  pat_w ok_sdX12_laysNow rkX12_laysNow h8 (foX12_laysNow n) (fun v1 h1 q => by
    cases q
    exact ⟨hG, fun q9 => absurd rfl q9⟩) (fun q9 h9 => by cases h9) ((eMX12_laysNow n h).symm.trans H)
theorem sndX12_laysNow {ρ : Type} {l : Launch} (n : Nat) : SndF (ρ := ρ) l false (mi 116).1 (wX12_laysNow n) := by
    intro a h k r H ha ho hn hf
    have h8 := hf rfl
    obtain ⟨x0, rfl⟩ := len1 (show a.length = 1 from ha)
    have u0 := uq16 hn (ho (16, x0) (List.mem_cons_self))
    subst u0
    replace H : bndh (MX12_laysNow n h) (fun h2 => k 0 h2) = some r := H
    obtain ⟨h2, H1, H2⟩ := bndh_some H
    exact ⟨0, h2, H2, met_mk (mok_base okX12_laysNow).1 (by decide +kernel) (Nat.le_of_ble_eq_true rfl) ho (sMX12_laysNow h8 n  h H1 rfl), fun q => by cases q⟩
/-! X12_passes -/
def sdX12_passes : SD := [(0, [(0, .aload_n 0, 1, [], 0), (1, .getfield 89, 3, [12, 55, 540, 1, 1377, 0], 26), (4, .iconst 0, 1, [], 0), (5, .iconst 0, 1, [], 0), (6, .iastore, 1, [], 0), (7, .aload_n 0, 1, [], 0), (8, .getfield 89, 3, [12, 55, 540, 1, 1377, 0], 26), (11, .aload_n 0, 1, [], 0), (12, .getfield 140, 3, [12, 6, 0, 0, 1328, 0], 0), (15, .iconst 0, 1, [], 0), (16, .iastore, 1, [], 0), (17, .iconst 1, 1, [], 0), (18, .istore_n 2, 1, [], 0)]),
  (19, [(19, .iload_n 2, 1, [], 0), (20, .aload_n 0, 1, [], 0), (21, .getfield 140, 3, [12, 6, 0, 0, 1328, 0], 0), (24, .if_icmp .ge 28, 3, [], 0)]),
  (27, [(27, .aload_n 0, 1, [], 0), (28, .getfield 89, 3, [12, 55, 540, 1, 1377, 0], 26), (31, .iload_n 2, 1, [], 0), (32, .aload_n 0, 1, [], 0), (33, .getfield 83, 3, [12, 39, 532, 1, 1361, 0], 24), (36, .iload_n 2, 1, [], 0), (37, .iconst 1, 1, [], 0), (38, .isub, 1, [], 0), (39, .iaload, 1, [], 0), (40, .aload_n 0, 1, [], 0), (41, .getfield 366, 3, [12, 40, 0, 0, 1362, 0], 0), (44, .imul, 1, [], 0), (45, .iastore, 1, [], 0), (46, .iinc 2 1, 3, [], 0), (49, .goto (-30), 3, [], 0)]),
  (52, [(52, .aload_n 0, 1, [], 0), (53, .getfield 140, 3, [12, 6, 0, 0, 1328, 0], 0), (56, .iconst 1, 1, [], 0), (57, .isub, 1, [], 0), (58, .istore_n 2, 1, [], 0)]),
  (59, [(59, .iload_n 2, 1, [], 0), (60, .ifCond .lt 59, 3, [], 0)]),
  (63, [(63, .aload_n 0, 1, [], 0), (64, .getfield 89, 3, [12, 55, 540, 1, 1377, 0], 26), (67, .iload_n 2, 1, [], 0), (68, .aload_n 0, 1, [], 0), (69, .getfield 89, 3, [12, 55, 540, 1, 1377, 0], 26), (72, .iload_n 2, 1, [], 0), (73, .iaload, 1, [], 0), (74, .aload_n 0, 1, [], 0), (75, .getfield 89, 3, [12, 55, 540, 1, 1377, 0], 26), (78, .iload_n 2, 1, [], 0), (79, .iconst 1, 1, [], 0), (80, .iadd, 1, [], 0), (81, .iaload, 1, [], 0), (82, .i2l, 1, [], 0), (83, .invokestatic 150, 3, [2, 0, 3, 92, 1314, 1], 0), (86, .ldc2_w 125, 3, [1, 1321], 2), (89, .aload_n 0, 1, [], 0), (90, .getfield 71, 3, [12, 35, 532, 1, 1357, 0], 20), (93, .iload_n 2, 1, [], 0), (94, .iaload, 1, [], 0), (95, .i2l, 1, [], 0), (96, .lmul, 1, [], 0), (97, .aload_n 0, 1, [], 0), (98, .getfield 46, 3, [12, 17, 532, 1, 1339, 0], 12), (101, .iload_n 2, 1, [], 0), (102, .iaload, 1, [], 0), (103, .i2l, 1, [], 0), (104, .lmul, 1, [], 0), (105, .ladd, 1, [], 0), (106, .invokestatic 154, 3, [1, 1, 3, 93, 1317, 1], 0), (109, .invokestatic 258, 3, [1, 2, 3, 261, 1596, 0, 0], 0), (112, .iastore, 1, [], 0), (113, .iinc 2 (-1), 3, [], 0), (116, .goto (-57), 3, [], 0)]),
  (119, [(119, .iconst 0, 1, [], 0), (120, .istore_n 2, 1, [], 0)]),
  (121, [(121, .iload_n 2, 1, [], 0), (122, .aload_n 0, 1, [], 0), (123, .getfield 140, 3, [12, 6, 0, 0, 1328, 0], 0), (126, .if_icmp .ge 61, 3, [], 0)]),
  (129, [(129, .aload_n 0, 1, [], 0), (130, .getfield 89, 3, [12, 55, 540, 1, 1377, 0], 26), (133, .iload_n 2, 1, [], 0), (134, .iconst 1, 1, [], 0), (135, .iadd, 1, [], 0), (136, .aload_n 0, 1, [], 0), (137, .getfield 89, 3, [12, 55, 540, 1, 1377, 0], 26), (140, .iload_n 2, 1, [], 0), (141, .iconst 1, 1, [], 0), (142, .iadd, 1, [], 0), (143, .iaload, 1, [], 0), (144, .aload_n 0, 1, [], 0), (145, .getfield 89, 3, [12, 55, 540, 1, 1377, 0], 26), (148, .iload_n 2, 1, [], 0), (149, .iaload, 1, [], 0), (150, .i2l, 1, [], 0), (151, .invokestatic 150, 3, [2, 0, 3, 92, 1314, 1], 0), (154, .ldc2_w 125, 3, [1, 1321], 2), (157, .aload_n 0, 1, [], 0), (158, .getfield 71, 3, [12, 35, 532, 1, 1357, 0], 20), (161, .iload_n 2, 1, [], 0), (162, .iaload, 1, [], 0), (163, .i2l, 1, [], 0), (164, .lmul, 1, [], 0), (165, .aload_n 0, 1, [], 0), (166, .getfield 46, 3, [12, 17, 532, 1, 1339, 0], 12), (169, .iload_n 2, 1, [], 0), (170, .iaload, 1, [], 0), (171, .i2l, 1, [], 0), (172, .lmul, 1, [], 0), (173, .ladd, 1, [], 0), (174, .invokestatic 154, 3, [1, 1, 3, 93, 1317, 1], 0), (177, .invokestatic 258, 3, [1, 2, 3, 261, 1596, 0, 0], 0), (180, .iastore, 1, [], 0), (181, .iinc 2 1, 3, [], 0), (184, .goto (-63), 3, [], 0)]),
  (187, [(187, .aload_n 0, 1, [], 0), (188, .getfield 89, 3, [12, 55, 540, 1, 1377, 0], 26), (191, .iload_n 1, 1, [], 0), (192, .iaload, 1, [], 0), (193, .ireturn, 1, [], 0)])]
def BX12_passes_19 (n : Nat) : Nat → Int → Int → Hp → Option (Int × Hp)
  | 0, _, _, _ => none
  | f + 1, x1, x2, h =>
    (if (h 113 6) ≤ x2 then
    (some (x1, h))
    else
    (grd (0 ≤ (w32 (x2 - 1)) ∧ (w32 (x2 - 1)) < alen 532)
    (grd (0 ≤ x2 ∧ x2 < alen 540)
    (ltt (up h 139 x2 (w32 ((h 137 (w32 (x2 - 1))) * (h 113 40)))) fun h1 =>
    (ltt (w32 (x2 + 1)) fun y1 =>
    (BX12_passes_19 n f x1 y1 h1))))))
def BX12_passes_59 (n : Nat) : Nat → Int → Int → Hp → Option (Int × Hp)
  | 0, _, _, _ => none
  | f + 1, x1, x2, h =>
    (if x2 < 0 then
    (some (x1, h))
    else
    (grd (0 ≤ x2 ∧ x2 < alen 540)
    (grd (0 ≤ (w32 (x2 + 1)) ∧ (w32 (x2 + 1)) < alen 540)
    (bndp (MX12_square (h 139 (w32 (x2 + 1)))) fun r1 =>
    (grd (0 ≤ x2 ∧ x2 < alen 532)
    (grd (0 ≤ x2 ∧ x2 < alen 532)
    (bndp (MX12_root n (w64 (r1 + (w64 ((w64 (2 * (h 133 x2))) * (h 125 x2)))))) fun r2 =>
    (grd (0 ≤ x2 ∧ x2 < alen 540)
    (ltt (up h 139 x2 (min (h 139 x2) r2)) fun h1 =>
    (ltt (w32 (x2 + (-1))) fun y1 =>
    (BX12_passes_59 n f x1 y1 h1)))))))))))
def BX12_passes_121 (n : Nat) : Nat → Int → Int → Hp → Option (Int × Hp)
  | 0, _, _, _ => none
  | f + 1, x1, x2, h =>
    (if (h 113 6) ≤ x2 then
    (grd (0 ≤ x1 ∧ x1 < alen 540)
    (some ((h 139 x1), h)))
    else
    (grd (0 ≤ (w32 (x2 + 1)) ∧ (w32 (x2 + 1)) < alen 540)
    (grd (0 ≤ x2 ∧ x2 < alen 540)
    (bndp (MX12_square (h 139 x2)) fun r1 =>
    (grd (0 ≤ x2 ∧ x2 < alen 532)
    (grd (0 ≤ x2 ∧ x2 < alen 532)
    (bndp (MX12_root n (w64 (r1 + (w64 ((w64 (2 * (h 133 x2))) * (h 125 x2)))))) fun r2 =>
    (grd (0 ≤ (w32 (x2 + 1)) ∧ (w32 (x2 + 1)) < alen 540)
    (ltt (up h 139 (w32 (x2 + 1)) (min (h 139 (w32 (x2 + 1))) r2)) fun h1 =>
    (ltt (w32 (x2 + 1)) fun y1 =>
    (BX12_passes_121 n f x1 y1 h1)))))))))))
def LX12_passes_121 (n : Nat) (x1 x2 : Int) (h : Hp) : Option (Int × Hp) :=
(BX12_passes_121 n n x1 x2 h)
def JX12_passes_119 (n : Nat) (x1 : Int) (h : Hp) : Option (Int × Hp) :=
(ltt 0 fun y1 =>
(LX12_passes_121 n x1 y1 h))
def LX12_passes_59 (n : Nat) (x1 x2 : Int) (h : Hp) : Option (Int × Hp) :=
(bndx (BX12_passes_59 n n x1 x2 h) fun (e1, h1) =>
(JX12_passes_119 n e1 h1))
def JX12_passes_52 (n : Nat) (x1 : Int) (h : Hp) : Option (Int × Hp) :=
(ltt (w32 ((h 113 6) - 1)) fun y1 =>
(LX12_passes_59 n x1 y1 h))
def LX12_passes_19 (n : Nat) (x1 x2 : Int) (h : Hp) : Option (Int × Hp) :=
(bndx (BX12_passes_19 n n x1 x2 h) fun (e1, h1) =>
(JX12_passes_52 n e1 h1))
def MX12_passes (n : Nat) (x1 : Int) (h : Hp) : Option (Int × Hp) :=
(grd (0 ≤ 0 ∧ 0 < alen 540)
(ltt (up h 139 0 0) fun h1 =>
(grd (0 ≤ (h1 113 6) ∧ (h1 113 6) < alen 540)
(ltt (up h1 139 (h1 113 6) 0) fun h2 =>
(ltt 1 fun y1 =>
(LX12_passes_19 n x1 y1 h2))))))
def wX12_passes {ρ : Type} (n : Nat) : FN ρ := fun a h k => match a with
  | [_, x1] => bnd (MX12_passes n x1 h) (fun r h2 => k r h2)
  | _ => none
def fsX12_passes (n : Nat) (ρ : Type) : List (FN ρ) := [wX12_square, wX12_root n, fmin]
def KBX12_passes_19 (_ : Nat) (bk : Int → Int → Hp → Option (Int × Hp)) : CT (Int × Hp) := [(19, [(0, 16, (some 113)), (1, 0, none), (2, 0, none)], [], fun a c h => match a, c with
    | [x1, x2], [] => bk x1 x2 h
    | _, _ => none),
  (52, [(0, 16, (some 113)), (1, 0, none)], [], fun a c h => match a, c with
    | [x1], [] => some (x1, h)
    | _, _ => none)]
set_option maxRecDepth 100000 in
theorem eBX12_passes_19 (n f : Nat) (x1 : Int) (x2 : Int) (h : Hp) : BX12_passes_19 n (f + 1) x1 x2 h =
  goAt false (kct (KBX12_passes_19 n (BX12_passes_19 n f))) (fun _ _ => none) (fsX12_passes n _) sdX12_passes 1000 19 [(0, 16, 113), (1, 0, x1), (2, 0, x2)] [] h := rfl
def KBX12_passes_59 (_ : Nat) (bk : Int → Int → Hp → Option (Int × Hp)) : CT (Int × Hp) := [(59, [(0, 16, (some 113)), (1, 0, none), (2, 0, none)], [], fun a c h => match a, c with
    | [x1, x2], [] => bk x1 x2 h
    | _, _ => none),
  (119, [(0, 16, (some 113)), (1, 0, none)], [], fun a c h => match a, c with
    | [x1], [] => some (x1, h)
    | _, _ => none)]
set_option maxRecDepth 100000 in
theorem eBX12_passes_59 (n f : Nat) (x1 : Int) (x2 : Int) (h : Hp) : BX12_passes_59 n (f + 1) x1 x2 h =
  goAt false (kct (KBX12_passes_59 n (BX12_passes_59 n f))) (fun _ _ => none) (fsX12_passes n _) sdX12_passes 1000 59 [(0, 16, 113), (1, 0, x1), (2, 0, x2)] [] h := rfl
def KBX12_passes_121 (_ : Nat) (bk : Int → Int → Hp → Option (Int × Hp)) : CT (Int × Hp) := [(121, [(0, 16, (some 113)), (1, 0, none), (2, 0, none)], [], fun a c h => match a, c with
    | [x1, x2], [] => bk x1 x2 h
    | _, _ => none)]
set_option maxRecDepth 100000 in
theorem eBX12_passes_121 (n f : Nat) (x1 : Int) (x2 : Int) (h : Hp) : BX12_passes_121 n (f + 1) x1 x2 h =
  goAt false (kct (KBX12_passes_121 n (BX12_passes_121 n f))) (fun v h => some ((v, h))) (fsX12_passes n _) sdX12_passes 1000 121 [(0, 16, 113), (1, 0, x1), (2, 0, x2)] [] h := rfl
def KJX12_passes_119 (n : Nat) : CT (Int × Hp) := [(121, [(0, 16, (some 113)), (1, 0, none), (2, 0, none)], [], fun a c h => match a, c with
    | [x1, x2], [] => LX12_passes_121 n x1 x2 h
    | _, _ => none)]
set_option maxRecDepth 100000 in
theorem eJX12_passes_119 (n : Nat) (x1 : Int) (h : Hp) : JX12_passes_119 n x1 h =
  goAt false (kct (KJX12_passes_119 n)) (fun v h => some ((v, h))) (fsX12_passes n _) sdX12_passes 1000 119 [(0, 16, 113), (1, 0, x1)] [] h := rfl
def KJX12_passes_52 (n : Nat) : CT (Int × Hp) := [(59, [(0, 16, (some 113)), (1, 0, none), (2, 0, none)], [], fun a c h => match a, c with
    | [x1, x2], [] => LX12_passes_59 n x1 x2 h
    | _, _ => none)]
set_option maxRecDepth 100000 in
theorem eJX12_passes_52 (n : Nat) (x1 : Int) (h : Hp) : JX12_passes_52 n x1 h =
  goAt false (kct (KJX12_passes_52 n)) (fun v h => some ((v, h))) (fsX12_passes n _) sdX12_passes 1000 52 [(0, 16, 113), (1, 0, x1)] [] h := rfl
def KMX12_passes (n : Nat) : CT (Int × Hp) := [(19, [(0, 16, (some 113)), (1, 0, none), (2, 0, none)], [], fun a c h => match a, c with
    | [x1, x2], [] => LX12_passes_19 n x1 x2 h
    | _, _ => none)]
set_option maxRecDepth 100000 in
theorem eMX12_passes (n : Nat) (x1 : Int) (h : Hp) : MX12_passes n x1 h =
  goAt false (kct (KMX12_passes n)) (fun v h => some ((v, h))) (fsX12_passes n _) sdX12_passes 1000 0 [(0, 16, 113), (1, 0, x1)] [] h := rfl
theorem okX12_passes : mokb (mi 117) = true := by decide +kernel
theorem rkX12_passes : rkOK 1 (mi 117).1.2.2.2.2.2.2.1 (mi 117).1.2.2.2.1 := Or.inr (Or.inl ⟨rfl, rfl, rfl⟩)
def calX12_passes : List Nat := [92, 93, 261]
theorem foX12_passes {l : Launch} {ρ : Type} (n : Nat) : fsOK l false mi calX12_passes (fsX12_passes n ρ) := ⟨sndX12_square, ⟨(sndX12_root n), ⟨snd_mmin, trivial⟩⟩⟩
theorem ok_sdX12_passes : sdb (mi 117).1.2.1 (insOK mi (mi 117).1.1.cls (mi 117).1.2.2.1 (mi 117).1.2.2.2.2.1 (mi 117).1.2.2.2.2.2.1 calX12_passes false 1) sdX12_passes = true := by decide +kernel
def GX12_passes_19 (l : Launch) (h0 : Hp) (h' : Hp) (v : Int) (_ : Hp) : (Int × Hp) → Prop
  | (e1, h1) => PAt l false (mi 117).1 h0 v h' 52 [(0, 16, 113), (1, 0, e1)] [] h1
def GX12_passes_59 (l : Launch) (h0 : Hp) (h' : Hp) (v : Int) (_ : Hp) : (Int × Hp) → Prop
  | (e1, h1) => PAt l false (mi 117).1 h0 v h' 119 [(0, 16, 113), (1, 0, e1)] [] h1
theorem sBX12_passes_19 {l : Launch} {h0 h' : Hp} {v : Int} (h8 : nOf h0 = 148) (n : Nat) : ∀ (f : Nat) (x1 : Int) (x2 : Int) (h : Hp) {r : Int × Hp}, BX12_passes_19 n f x1 x2 h = some r → GX12_passes_19 l h0 h' v h r → PAt l false (mi 117).1 h0 v h' 19 [(0, 16, 113), (1, 0, x1), (2, 0, x2)] [] h := by
  intro f
  induction f with
  | zero =>
    intro x1 x2 h r H _
    have H2 : (none : Option (Int × Hp)) = some r := H
    cases H2
  | succ f ih =>
    intro x1 x2 h r H hG
    exact pat_w ok_sdX12_passes rkX12_passes h8 (foX12_passes n) (fun v1 h1 q => by cases q) (List.forall_mem_cons.mpr ⟨(fun a c h H => by
      dsimp only at H
      split at H
      · exact ih _ _ _ H hG
      · cases H), (List.forall_mem_cons.mpr ⟨(fun a c h H => by
      dsimp only at H
      split at H
      · cases H
        exact hG
      · cases H), (fun q9 h9 => by cases h9)⟩)⟩) ((eBX12_passes_19 n f x1 x2 h).symm.trans H)
theorem sBX12_passes_59 {l : Launch} {h0 h' : Hp} {v : Int} (h8 : nOf h0 = 148) (n : Nat) : ∀ (f : Nat) (x1 : Int) (x2 : Int) (h : Hp) {r : Int × Hp}, BX12_passes_59 n f x1 x2 h = some r → GX12_passes_59 l h0 h' v h r → PAt l false (mi 117).1 h0 v h' 59 [(0, 16, 113), (1, 0, x1), (2, 0, x2)] [] h := by
  intro f
  induction f with
  | zero =>
    intro x1 x2 h r H _
    have H2 : (none : Option (Int × Hp)) = some r := H
    cases H2
  | succ f ih =>
    intro x1 x2 h r H hG
    exact pat_w ok_sdX12_passes rkX12_passes h8 (foX12_passes n) (fun v1 h1 q => by cases q) (List.forall_mem_cons.mpr ⟨(fun a c h H => by
      dsimp only at H
      split at H
      · exact ih _ _ _ H hG
      · cases H), (List.forall_mem_cons.mpr ⟨(fun a c h H => by
      dsimp only at H
      split at H
      · cases H
        exact hG
      · cases H), (fun q9 h9 => by cases h9)⟩)⟩) ((eBX12_passes_59 n f x1 x2 h).symm.trans H)
theorem sBX12_passes_121 {l : Launch} {h0 h' : Hp} {v : Int} (h8 : nOf h0 = 148) (n : Nat) : ∀ (f : Nat) (x1 : Int) (x2 : Int) (h : Hp) {r : Int × Hp}, BX12_passes_121 n f x1 x2 h = some r → gWV v h' r → PAt l false (mi 117).1 h0 v h' 121 [(0, 16, 113), (1, 0, x1), (2, 0, x2)] [] h := by
  intro f
  induction f with
  | zero =>
    intro x1 x2 h r H _
    have H2 : (none : Option (Int × Hp)) = some r := H
    cases H2
  | succ f ih =>
    intro x1 x2 h r H hG
    exact pat_w ok_sdX12_passes rkX12_passes h8 (foX12_passes n) (fun v1 h1 q => by
    cases q
    exact ⟨hG.1, fun _ => hG.2⟩) (List.forall_mem_cons.mpr ⟨(fun a c h H => by
      dsimp only at H
      split at H
      · exact ih _ _ _ H hG
      · cases H), (fun q9 h9 => by cases h9)⟩) ((eBX12_passes_121 n f x1 x2 h).symm.trans H)
theorem sLX12_passes_121 {l : Launch} {h0 h' : Hp} {v : Int} (h8 : nOf h0 = 148) (n : Nat) (x1 : Int) (x2 : Int) (h : Hp) {r : Int × Hp} (H : LX12_passes_121 n x1 x2 h = some r) (hG : gWV v h' r) : PAt l false (mi 117).1 h0 v h' 121 [(0, 16, 113), (1, 0, x1), (2, 0, x2)] [] h :=
  sBX12_passes_121 h8 n n x1 x2 h H hG
theorem sJX12_passes_119 {l : Launch} {h0 h' : Hp} {v : Int} (h8 : nOf h0 = 148) (n : Nat) (x1 : Int) (h : Hp) {r : Int × Hp} (H : JX12_passes_119 n x1 h = some r) (hG : gWV v h' r) : PAt l false (mi 117).1 h0 v h' 119 [(0, 16, 113), (1, 0, x1)] [] h :=
  pat_w ok_sdX12_passes rkX12_passes h8 (foX12_passes n) (fun v1 h1 q => by
    cases q
    exact ⟨hG.1, fun _ => hG.2⟩) (List.forall_mem_cons.mpr ⟨(fun a c h H => by
      dsimp only at H
      split at H
      · exact sLX12_passes_121 h8 n _ _ _ H hG
      · cases H), (fun q9 h9 => by cases h9)⟩) ((eJX12_passes_119 n x1 h).symm.trans H)
theorem sLX12_passes_59 {l : Launch} {h0 h' : Hp} {v : Int} (h8 : nOf h0 = 148) (n : Nat) (x1 : Int) (x2 : Int) (h : Hp) {r : Int × Hp} (H : LX12_passes_59 n x1 x2 h = some r) (hG : gWV v h' r) : PAt l false (mi 117).1 h0 v h' 59 [(0, 16, 113), (1, 0, x1), (2, 0, x2)] [] h := by
  obtain ⟨e9, h2, h3⟩ := bndx_some H
  obtain ⟨e1, h1⟩ := e9
  exact sBX12_passes_59 h8 n n x1 x2 h h2 (sJX12_passes_119 h8 n e1 h1 h3 hG)
theorem sJX12_passes_52 {l : Launch} {h0 h' : Hp} {v : Int} (h8 : nOf h0 = 148) (n : Nat) (x1 : Int) (h : Hp) {r : Int × Hp} (H : JX12_passes_52 n x1 h = some r) (hG : gWV v h' r) : PAt l false (mi 117).1 h0 v h' 52 [(0, 16, 113), (1, 0, x1)] [] h :=
  pat_w ok_sdX12_passes rkX12_passes h8 (foX12_passes n) (fun v1 h1 q => by
    cases q
    exact ⟨hG.1, fun _ => hG.2⟩) (List.forall_mem_cons.mpr ⟨(fun a c h H => by
      dsimp only at H
      split at H
      · exact sLX12_passes_59 h8 n _ _ _ H hG
      · cases H), (fun q9 h9 => by cases h9)⟩) ((eJX12_passes_52 n x1 h).symm.trans H)
theorem sLX12_passes_19 {l : Launch} {h0 h' : Hp} {v : Int} (h8 : nOf h0 = 148) (n : Nat) (x1 : Int) (x2 : Int) (h : Hp) {r : Int × Hp} (H : LX12_passes_19 n x1 x2 h = some r) (hG : gWV v h' r) : PAt l false (mi 117).1 h0 v h' 19 [(0, 16, 113), (1, 0, x1), (2, 0, x2)] [] h := by
  obtain ⟨e9, h2, h3⟩ := bndx_some H
  obtain ⟨e1, h1⟩ := e9
  exact sBX12_passes_19 h8 n n x1 x2 h h2 (sJX12_passes_52 h8 n e1 h1 h3 hG)
theorem sMX12_passes {l : Launch} {h0 h' : Hp} {v : Int} (h8 : nOf h0 = 148) (n : Nat) (x1 : Int) (h : Hp) {r : Int × Hp} (H : MX12_passes n x1 h = some r) (hG : gWV v h' r) : PAt l false (mi 117).1 h0 v h' 0 [(0, 16, 113), (1, 0, x1)] [] h :=
  pat_w ok_sdX12_passes rkX12_passes h8 (foX12_passes n) (fun v1 h1 q => by
    cases q
    exact ⟨hG.1, fun _ => hG.2⟩) (List.forall_mem_cons.mpr ⟨(fun a c h H => by
      dsimp only at H
      split at H
      · exact sLX12_passes_19 h8 n _ _ _ H hG
      · cases H), (fun q9 h9 => by cases h9)⟩) ((eMX12_passes n x1 h).symm.trans H)
theorem sndX12_passes {ρ : Type} {l : Launch} (n : Nat) : SndF (ρ := ρ) l false (mi 117).1 (wX12_passes n) := by
    intro a h k r H ha ho hn hf
    have h8 := hf rfl
    obtain ⟨x0, x1, rfl⟩ := len2 (show a.length = 2 from ha)
    have u0 := uq16 hn (ho (16, x0) (List.mem_cons_self))
    subst u0
    replace H : bnd (MX12_passes n x1 h) (fun r h2 => k r h2) = some r := H
    obtain ⟨v2, h2, H1, H2⟩ := bnd_some H
    exact ⟨v2, h2, H2, met_mk (mok_base okX12_passes).1 (by decide +kernel) (Nat.le_of_ble_eq_true rfl) ho (sMX12_passes h8 n x1 h H1 ⟨rfl, rfl⟩), fun q => by cases q⟩
/-! X12_block -/
def sdX12_block : SD := [(0, [(0, .iload_n 1, 1, [], 0), (1, .i2l, 1, [], 0), (2, .lconst 0, 1, [], 0), (3, .aload_n 0, 1, [], 0), (4, .getfield 140, 3, [12, 6, 0, 0, 1328, 0], 0), (7, .iconst 1, 1, [], 0), (8, .isub, 1, [], 0), (9, .i2l, 1, [], 0), (10, .invokestatic 217, 3, [1, 0, 3, 81, 1561, 1, 1, 1], 0), (13, .ifCond .ne 5, 3, [], 0)]),
  (16, [(16, .iconst (-1), 1, [], 0), (17, .ireturn, 1, [], 0)]),
  (18, [(18, .aload_n 0, 1, [], 0), (19, .invokevirtual 459, 3, [0, 1, 1, 116, 1673, 16], 0), (22, .iload_n 2, 1, [], 0), (23, .tableswitch 114 0 9 #[53, 53, 53, 66, 73, 80, 87, 94, 101, 107], 53, [], 0)]),
  (76, [(76, .aload_n 0, 1, [], 0), (77, .getfield 37, 3, [12, 14, 1580, 1, 1336, 0], 9), (80, .iconst 3, 1, [], 0), (81, .iload_n 1, 1, [], 0), (82, .iconst 1, 1, [], 0), (83, .iadd, 1, [], 0), (84, .imul, 1, [], 0), (85, .iload_n 2, 1, [], 0), (86, .iadd, 1, [], 0), (87, .iaload, 1, [], 0), (88, .ireturn, 1, [], 0)]),
  (89, [(89, .aload_n 0, 1, [], 0), (90, .getfield 46, 3, [12, 17, 532, 1, 1339, 0], 12), (93, .iload_n 1, 1, [], 0), (94, .iaload, 1, [], 0), (95, .ireturn, 1, [], 0)]),
  (96, [(96, .aload_n 0, 1, [], 0), (97, .getfield 40, 3, [12, 15, 532, 1, 1337, 0], 10), (100, .iload_n 1, 1, [], 0), (101, .iaload, 1, [], 0), (102, .ireturn, 1, [], 0)]),
  (103, [(103, .aload_n 0, 1, [], 0), (104, .getfield 68, 3, [12, 34, 532, 1, 1356, 0], 19), (107, .iload_n 1, 1, [], 0), (108, .iaload, 1, [], 0), (109, .ireturn, 1, [], 0)]),
  (110, [(110, .aload_n 0, 1, [], 0), (111, .getfield 71, 3, [12, 35, 532, 1, 1357, 0], 20), (114, .iload_n 1, 1, [], 0), (115, .iaload, 1, [], 0), (116, .ireturn, 1, [], 0)]),
  (117, [(117, .aload_n 0, 1, [], 0), (118, .getfield 74, 3, [12, 36, 532, 1, 1358, 0], 21), (121, .iload_n 1, 1, [], 0), (122, .iaload, 1, [], 0), (123, .ireturn, 1, [], 0)]),
  (124, [(124, .aload_n 0, 1, [], 0), (125, .iload_n 1, 1, [], 0), (126, .invokevirtual 470, 3, [1, 2, 1, 117, 1782, 0, 16], 0), (129, .ireturn, 1, [], 0)]),
  (130, [(130, .aload_n 0, 1, [], 0), (131, .getfield 43, 3, [12, 16, 532, 1, 1338, 0], 11), (134, .iload_n 1, 1, [], 0), (135, .iaload, 1, [], 0), (136, .ireturn, 1, [], 0)]),
  (137, [(137, .iconst (-1), 1, [], 0), (138, .ireturn, 1, [], 0)])]
def JX12_block_76 (n : Nat) (x1 x2 : Int) (h : Hp) : Option (Int × Hp) :=
(grd (0 ≤ (w32 ((w32 (3 * (w32 (x1 + 1)))) + x2)) ∧ (w32 ((w32 (3 * (w32 (x1 + 1)))) + x2)) < alen 1580)
(some ((h 122 (w32 ((w32 (3 * (w32 (x1 + 1)))) + x2))), h)))
def MX12_block (n : Nat) (x1 x2 : Int) (h : Hp) : Option (Int × Hp) :=
(bndp (MX12_in x1 0 (w32 ((h 113 6) - 1))) fun r1 =>
(if r1 ≠ 0 then
(bndh (MX12_laysNow n h) fun h1 =>
(if x2 = 0 then
(JX12_block_76 n x1 x2 h1)
else
(if x2 = 1 then
(JX12_block_76 n x1 x2 h1)
else
(if x2 = 2 then
(JX12_block_76 n x1 x2 h1)
else
(if x2 = 3 then
(grd (0 ≤ x1 ∧ x1 < alen 532)
(some ((h1 125 x1), h1)))
else
(if x2 = 4 then
(grd (0 ≤ x1 ∧ x1 < alen 532)
(some ((h1 123 x1), h1)))
else
(if x2 = 5 then
(grd (0 ≤ x1 ∧ x1 < alen 532)
(some ((h1 132 x1), h1)))
else
(if x2 = 6 then
(grd (0 ≤ x1 ∧ x1 < alen 532)
(some ((h1 133 x1), h1)))
else
(if x2 = 7 then
(grd (0 ≤ x1 ∧ x1 < alen 532)
(some ((h1 134 x1), h1)))
else
(if x2 = 8 then
(bnd (MX12_passes n x1 h1) fun r2 h2 =>
(some (r2, h2)))
else
(if x2 = 9 then
(grd (0 ≤ x1 ∧ x1 < alen 532)
(some ((h1 124 x1), h1)))
else
(some ((-1), h1)))))))))))))
else
(some ((-1), h))))
def wX12_block {ρ : Type} (n : Nat) : FN ρ := fun a h k => match a with
  | [_, x1, x2] => bnd (MX12_block n x1 x2 h) (fun r h2 => k r h2)
  | _ => none
def fsX12_block (n : Nat) (ρ : Type) : List (FN ρ) := [wX12_in, wX12_laysNow n, wX12_passes n]
def KJX12_block_76 (_ : Nat) : CT (Int × Hp) := []
set_option maxRecDepth 100000 in
theorem eJX12_block_76 (n : Nat) (x1 : Int) (x2 : Int) (h : Hp) : JX12_block_76 n x1 x2 h =
  goAt false (kct (KJX12_block_76 n)) (fun v h => some ((v, h))) (fsX12_block n _) sdX12_block 1000 76 [(0, 16, 113), (1, 0, x1), (2, 0, x2)] [] h := rfl
def KMX12_block (n : Nat) : CT (Int × Hp) := [(76, [(0, 16, (some 113)), (1, 0, none), (2, 0, none)], [], fun a c h => match a, c with
    | [x1, x2], [] => JX12_block_76 n x1 x2 h
    | _, _ => none)]
set_option maxRecDepth 100000 in
theorem eMX12_block (n : Nat) (x1 : Int) (x2 : Int) (h : Hp) : MX12_block n x1 x2 h =
  goAt false (kct (KMX12_block n)) (fun v h => some ((v, h))) (fsX12_block n _) sdX12_block 1000 0 [(0, 16, 113), (1, 0, x1), (2, 0, x2)] [] h := rfl
theorem okX12_block : mokb (mi 118) = true := by decide +kernel
theorem rkX12_block : rkOK 1 (mi 118).1.2.2.2.2.2.2.1 (mi 118).1.2.2.2.1 := Or.inr (Or.inl ⟨rfl, rfl, rfl⟩)
def calX12_block : List Nat := [81, 116, 117]
theorem foX12_block {l : Launch} {ρ : Type} (n : Nat) : fsOK l false mi calX12_block (fsX12_block n ρ) := ⟨sndX12_in, ⟨(sndX12_laysNow n), ⟨(sndX12_passes n), trivial⟩⟩⟩
theorem ok_sdX12_block : sdb (mi 118).1.2.1 (insOK mi (mi 118).1.1.cls (mi 118).1.2.2.1 (mi 118).1.2.2.2.2.1 (mi 118).1.2.2.2.2.2.1 calX12_block false 1) sdX12_block = true := by decide +kernel
theorem sJX12_block_76 {l : Launch} {h0 h' : Hp} {v : Int} (h8 : nOf h0 = 148) (n : Nat) (x1 : Int) (x2 : Int) (h : Hp) {r : Int × Hp} (H : JX12_block_76 n x1 x2 h = some r) (hG : gWV v h' r) : PAt l false (mi 118).1 h0 v h' 76 [(0, 16, 113), (1, 0, x1), (2, 0, x2)] [] h :=
  pat_w ok_sdX12_block rkX12_block h8 (foX12_block n) (fun v1 h1 q => by
    cases q
    exact ⟨hG.1, fun _ => hG.2⟩) (fun q9 h9 => by cases h9) ((eJX12_block_76 n x1 x2 h).symm.trans H)
theorem sMX12_block {l : Launch} {h0 h' : Hp} {v : Int} (h8 : nOf h0 = 148) (n : Nat) (x1 : Int) (x2 : Int) (h : Hp) {r : Int × Hp} (H : MX12_block n x1 x2 h = some r) (hG : gWV v h' r) : PAt l false (mi 118).1 h0 v h' 0 [(0, 16, 113), (1, 0, x1), (2, 0, x2)] [] h :=
  pat_w ok_sdX12_block rkX12_block h8 (foX12_block n) (fun v1 h1 q => by
    cases q
    exact ⟨hG.1, fun _ => hG.2⟩) (List.forall_mem_cons.mpr ⟨(fun a c h H => by
      dsimp only at H
      split at H
      · exact sJX12_block_76 h8 n _ _ _ H hG
      · cases H), (fun q9 h9 => by cases h9)⟩) ((eMX12_block n x1 x2 h).symm.trans H)
theorem sndX12_block {ρ : Type} {l : Launch} (n : Nat) : SndF (ρ := ρ) l false (mi 118).1 (wX12_block n) := by
    intro a h k r H ha ho hn hf
    have h8 := hf rfl
    obtain ⟨x0, x1, x2, rfl⟩ := len3 (show a.length = 3 from ha)
    have u0 := uq16 hn (ho (16, x0) (List.mem_cons_self))
    subst u0
    replace H : bnd (MX12_block n x1 x2 h) (fun r h2 => k r h2) = some r := H
    obtain ⟨v2, h2, H1, H2⟩ := bnd_some H
    exact ⟨v2, h2, H2, met_mk (mok_base okX12_block).1 (by decide +kernel) (Nat.le_of_ble_eq_true rfl) ho (sMX12_block h8 n x1 x2 h H1 ⟨rfl, rfl⟩), fun q => by cases q⟩
/-! X10_hasCorner -/
def sdX10_hasCorner : SD := [(0, [(0, .iload_n 1, 1, [], 0), (1, .ifCond .lt 17, 3, [], 0)]),
  (4, [(4, .iload_n 1, 1, [], 0), (5, .aload_n 0, 1, [], 0), (6, .getfield 51, 3, [10, 11, 0, 0, 202, 0], 0), (9, .iconst 1, 1, [], 0), (10, .isub, 1, [], 0), (11, .if_icmp .ge 7, 3, [], 0)]),
  (14, [(14, .iconst 1, 1, [], 0), (15, .goto 4, 3, [], 0)]),
  (18, [(18, .iconst 0, 1, [], 0)]),
  (19, [(19, .ireturn, 1, [1], 0)])]
def MX10_hasCorner (x0 x1 : Int) (h : Hp) : Option (Int) :=
(if x1 < 0 then
(some 0)
else
(if (w32 ((h x0 11) - 1)) ≤ x1 then
(some 0)
else
(some 1)))
def wX10_hasCorner {ρ : Type} : FN ρ := fun a h k => match a with
  | [x0, x1] => bndp (MX10_hasCorner x0 x1 h) (fun r => k r h)
  | _ => none
def fsX10_hasCorner (ρ : Type) : List (FN ρ) := []
def KMX10_hasCorner  : CT (Int) := []
set_option maxRecDepth 100000 in
theorem eMX10_hasCorner (x0 : Int) (x1 : Int) (h : Hp) : MX10_hasCorner x0 x1 h =
  goAt false (kct (KMX10_hasCorner)) (fun v _ => some (v)) (fsX10_hasCorner _) sdX10_hasCorner 1000 0 [(0, 14, x0), (1, 0, x1)] [] h := rfl
theorem okX10_hasCorner : mokb (mi 119) = true := by decide +kernel
theorem rkX10_hasCorner : rkOK 4 (mi 119).1.2.2.2.2.2.2.1 (mi 119).1.2.2.2.1 := Or.inr (Or.inr (Or.inl ⟨rfl, rfl, rfl⟩))
def calX10_hasCorner : List Nat := []
theorem foX10_hasCorner {l : Launch} {ρ : Type} : fsOK l false mi calX10_hasCorner (fsX10_hasCorner ρ) := trivial
theorem frX10_hasCorner {ρ : Type} : ∀ fn ∈ fsX10_hasCorner ρ, RoF fn := (fun q9 h9 => by cases h9)
theorem ok_sdX10_hasCorner : sdb (mi 119).1.2.1 (insOK mi (mi 119).1.1.cls (mi 119).1.2.2.1 (mi 119).1.2.2.2.2.1 (mi 119).1.2.2.2.2.2.1 calX10_hasCorner false 4) sdX10_hasCorner = true := by decide +kernel
theorem sMX10_hasCorner {l : Launch} {h0 : Hp} {v : Int} (h8 : nOf h0 = 148)  (x0 : Int) (x1 : Int) (h : Hp) {r : Int} (H : MX10_hasCorner x0 x1 h = some r) (hG : gV v r) : PAt l false (mi 119).1 h0 v h 0 [(0, 14, x0), (1, 0, x1)] [] h :=
  pat_ro ok_sdX10_hasCorner rfl rkX10_hasCorner h8 (foX10_hasCorner) (frX10_hasCorner) (fun v1 q => by
    cases q
    exact ⟨rfl, fun _ => hG⟩) (fun q9 h9 => by cases h9) ((eMX10_hasCorner x0 x1 h).symm.trans H)
theorem sndX10_hasCorner {ρ : Type} {l : Launch} : SndF (ρ := ρ) l false (mi 119).1 (wX10_hasCorner) := by
    intro a h k r H ha ho hn hf
    have h8 := hf rfl
    obtain ⟨x0, x1, rfl⟩ := len2 (show a.length = 2 from ha)
    replace H : bndp (MX10_hasCorner x0 x1 h) (fun r => k r h) = some r := H
    obtain ⟨v2, H1, H2⟩ := bndp_some H
    exact ⟨v2, h, H2, met_mk (mok_base okX10_hasCorner).1 (by decide +kernel) (Nat.le_of_ble_eq_true rfl) ho (sMX10_hasCorner h8 x0 x1 h H1 rfl), fun q => by cases q⟩
theorem roX10_hasCorner {ρ : Type} : RoF (wX10_hasCorner : FN ρ) := fun a h k k2 hk => by
  unfold wX10_hasCorner
  split
  · exact bndp_ro hk
  · rfl
/-! X11_corner -/
def sdX11_corner : SD := [(0, [(0, .aload_n 0, 1, [], 0), (1, .getfield 10, 3, [11, 2, 14, 0, 692, 0], 0), (4, .iload_n 1, 1, [], 0), (5, .invokevirtual 176, 3, [1, 0, 1, 119, 999, 0, 14], 0), (8, .ifCond .ne 5, 3, [], 0)]),
  (11, [(11, .iconst (-1), 1, [], 0), (12, .ireturn, 1, [], 0)]),
  (13, [(13, .iload_n 2, 1, [], 0), (14, .tableswitch 62 0 2 #[26, 36, 49], 26, [], 0)]),
  (40, [(40, .aload_n 0, 1, [], 0), (41, .getfield 10, 3, [11, 2, 14, 0, 692, 0], 0), (44, .getfield 179, 3, [10, 8, 532, 1, 192, 0], 12), (47, .iload_n 1, 1, [], 0), (48, .iaload, 1, [], 0), (49, .ireturn, 1, [], 0)]),
  (50, [(50, .aload_n 0, 1, [], 0), (51, .getfield 47, 3, [11, 5, 5, 1, 695, 0], 50), (54, .getfield 157, 3, [1, 0, 8, 1, 465, 0], 2), (57, .getfield 182, 3, [4, 5, 532, 1, 442, 0], 2), (60, .iload_n 1, 1, [], 0), (61, .iaload, 1, [], 0), (62, .ireturn, 1, [], 0)]),
  (63, [(63, .aload_n 0, 1, [], 0), (64, .getfield 47, 3, [11, 5, 5, 1, 695, 0], 50), (67, .getfield 157, 3, [1, 0, 8, 1, 465, 0], 2), (70, .getfield 185, 3, [4, 6, 532, 1, 444, 0], 3), (73, .iload_n 1, 1, [], 0), (74, .iaload, 1, [], 0), (75, .ireturn, 1, [], 0)]),
  (76, [(76, .iconst (-1), 1, [], 0), (77, .ireturn, 1, [], 0)])]
def MX11_corner (x1 x2 : Int) (h : Hp) : Option (Int) :=
(bndp (MX10_hasCorner (h 0 2) x1 h) fun r1 =>
(if r1 ≠ 0 then
(if x2 = 0 then
(grd (0 ≤ x1 ∧ x1 < alen 532)
(some (h ((h 0 2) + 12) x1)))
else
(if x2 = 1 then
(grd (0 ≤ x1 ∧ x1 < alen 532)
(some (h 54 x1)))
else
(if x2 = 2 then
(grd (0 ≤ x1 ∧ x1 < alen 532)
(some (h 55 x1)))
else
(some (-1)))))
else
(some (-1))))
def wX11_corner {ρ : Type} : FN ρ := fun a h k => match a with
  | [_, x1, x2] => bndp (MX11_corner x1 x2 h) (fun r => k r h)
  | _ => none
def fsX11_corner (ρ : Type) : List (FN ρ) := [wX10_hasCorner]
def KMX11_corner  : CT (Int) := []
set_option maxRecDepth 100000 in
theorem eMX11_corner (x1 : Int) (x2 : Int) (h : Hp) : MX11_corner x1 x2 h =
  goAt false (kct (KMX11_corner)) (fun v _ => some (v)) (fsX11_corner _) sdX11_corner 1000 0 [(0, 15, 0), (1, 0, x1), (2, 0, x2)] [] h := rfl
theorem okX11_corner : mokb (mi 120) = true := by decide +kernel
theorem rkX11_corner : rkOK 1 (mi 120).1.2.2.2.2.2.2.1 (mi 120).1.2.2.2.1 := Or.inr (Or.inl ⟨rfl, rfl, rfl⟩)
def calX11_corner : List Nat := [119]
theorem foX11_corner {l : Launch} {ρ : Type} : fsOK l false mi calX11_corner (fsX11_corner ρ) := ⟨sndX10_hasCorner, trivial⟩
theorem frX11_corner {ρ : Type} : ∀ fn ∈ fsX11_corner ρ, RoF fn := (List.forall_mem_cons.mpr ⟨roX10_hasCorner, (fun q9 h9 => by cases h9)⟩)
theorem ok_sdX11_corner : sdb (mi 120).1.2.1 (insOK mi (mi 120).1.1.cls (mi 120).1.2.2.1 (mi 120).1.2.2.2.2.1 (mi 120).1.2.2.2.2.2.1 calX11_corner false 1) sdX11_corner = true := by decide +kernel
theorem sMX11_corner {l : Launch} {h0 : Hp} {v : Int} (h8 : nOf h0 = 148)  (x1 : Int) (x2 : Int) (h : Hp) {r : Int} (H : MX11_corner x1 x2 h = some r) (hG : gV v r) : PAt l false (mi 120).1 h0 v h 0 [(0, 15, 0), (1, 0, x1), (2, 0, x2)] [] h :=
  pat_ro ok_sdX11_corner rfl rkX11_corner h8 (foX11_corner) (frX11_corner) (fun v1 q => by
    cases q
    exact ⟨rfl, fun _ => hG⟩) (fun q9 h9 => by cases h9) ((eMX11_corner x1 x2 h).symm.trans H)
theorem sndX11_corner {ρ : Type} {l : Launch} : SndF (ρ := ρ) l false (mi 120).1 (wX11_corner) := by
    intro a h k r H ha ho hn hf
    have h8 := hf rfl
    obtain ⟨x0, x1, x2, rfl⟩ := len3 (show a.length = 3 from ha)
    have u0 := uq15 hn (ho (15, x0) (List.mem_cons_self))
    subst u0
    replace H : bndp (MX11_corner x1 x2 h) (fun r => k r h) = some r := H
    obtain ⟨v2, H1, H2⟩ := bndp_some H
    exact ⟨v2, h, H2, met_mk (mok_base okX11_corner).1 (by decide +kernel) (Nat.le_of_ble_eq_true rfl) ho (sMX11_corner h8 x1 x2 h H1 rfl), fun q => by cases q⟩
theorem roX11_corner {ρ : Type} : RoF (wX11_corner : FN ρ) := fun a h k k2 hk => by
  unfold wX11_corner
  split
  · exact bndp_ro hk
  · rfl
/-! X12_corner -/
def sdX12_corner : SD := [(0, [(0, .iload_n 1, 1, [], 0), (1, .i2l, 1, [], 0), (2, .lconst 0, 1, [], 0), (3, .aload_n 0, 1, [], 0), (4, .getfield 140, 3, [12, 6, 0, 0, 1328, 0], 0), (7, .iconst 2, 1, [], 0), (8, .isub, 1, [], 0), (9, .i2l, 1, [], 0), (10, .invokestatic 217, 3, [1, 0, 3, 81, 1561, 1, 1, 1], 0), (13, .ifCond .ne 5, 3, [], 0)]),
  (16, [(16, .iconst (-1), 1, [], 0), (17, .ireturn, 1, [], 0)]),
  (18, [(18, .aload_n 0, 1, [], 0), (19, .invokevirtual 459, 3, [0, 1, 1, 116, 1673, 16], 0), (22, .iload_n 2, 1, [], 0), (23, .tableswitch 46 0 2 #[25, 32, 39], 25, [], 0)]),
  (48, [(48, .aload_n 0, 1, [], 0), (49, .getfield 77, 3, [12, 37, 532, 1, 1359, 0], 22), (52, .iload_n 1, 1, [], 0), (53, .iaload, 1, [], 0), (54, .ireturn, 1, [], 0)]),
  (55, [(55, .aload_n 0, 1, [], 0), (56, .getfield 80, 3, [12, 38, 532, 1, 1360, 0], 23), (59, .iload_n 1, 1, [], 0), (60, .iaload, 1, [], 0), (61, .ireturn, 1, [], 0)]),
  (62, [(62, .aload_n 0, 1, [], 0), (63, .getfield 83, 3, [12, 39, 532, 1, 1361, 0], 24), (66, .iload_n 1, 1, [], 0), (67, .iaload, 1, [], 0), (68, .ireturn, 1, [], 0)]),
  (69, [(69, .iconst (-1), 1, [], 0), (70, .ireturn, 1, [], 0)])]
def MX12_corner (n : Nat) (x1 x2 : Int) (h : Hp) : Option (Int × Hp) :=
(bndp (MX12_in x1 0 (w32 ((h 113 6) - 2))) fun r1 =>
(if r1 ≠ 0 then
(bndh (MX12_laysNow n h) fun h1 =>
(if x2 = 0 then
(grd (0 ≤ x1 ∧ x1 < alen 532)
(some ((h1 135 x1), h1)))
else
(if x2 = 1 then
(grd (0 ≤ x1 ∧ x1 < alen 532)
(some ((h1 136 x1), h1)))
else
(if x2 = 2 then
(grd (0 ≤ x1 ∧ x1 < alen 532)
(some ((h1 137 x1), h1)))
else
(some ((-1), h1))))))
else
(some ((-1), h))))
def wX12_corner {ρ : Type} (n : Nat) : FN ρ := fun a h k => match a with
  | [_, x1, x2] => bnd (MX12_corner n x1 x2 h) (fun r h2 => k r h2)
  | _ => none
def fsX12_corner (n : Nat) (ρ : Type) : List (FN ρ) := [wX12_in, wX12_laysNow n]
def KMX12_corner (_ : Nat) : CT (Int × Hp) := []
set_option maxRecDepth 100000 in
theorem eMX12_corner (n : Nat) (x1 : Int) (x2 : Int) (h : Hp) : MX12_corner n x1 x2 h =
  goAt false (kct (KMX12_corner n)) (fun v h => some ((v, h))) (fsX12_corner n _) sdX12_corner 1000 0 [(0, 16, 113), (1, 0, x1), (2, 0, x2)] [] h := rfl
theorem okX12_corner : mokb (mi 121) = true := by decide +kernel
theorem rkX12_corner : rkOK 1 (mi 121).1.2.2.2.2.2.2.1 (mi 121).1.2.2.2.1 := Or.inr (Or.inl ⟨rfl, rfl, rfl⟩)
def calX12_corner : List Nat := [81, 116]
theorem foX12_corner {l : Launch} {ρ : Type} (n : Nat) : fsOK l false mi calX12_corner (fsX12_corner n ρ) := ⟨sndX12_in, ⟨(sndX12_laysNow n), trivial⟩⟩
theorem ok_sdX12_corner : sdb (mi 121).1.2.1 (insOK mi (mi 121).1.1.cls (mi 121).1.2.2.1 (mi 121).1.2.2.2.2.1 (mi 121).1.2.2.2.2.2.1 calX12_corner false 1) sdX12_corner = true := by decide +kernel
theorem sMX12_corner {l : Launch} {h0 h' : Hp} {v : Int} (h8 : nOf h0 = 148) (n : Nat) (x1 : Int) (x2 : Int) (h : Hp) {r : Int × Hp} (H : MX12_corner n x1 x2 h = some r) (hG : gWV v h' r) : PAt l false (mi 121).1 h0 v h' 0 [(0, 16, 113), (1, 0, x1), (2, 0, x2)] [] h :=
  pat_w ok_sdX12_corner rkX12_corner h8 (foX12_corner n) (fun v1 h1 q => by
    cases q
    exact ⟨hG.1, fun _ => hG.2⟩) (fun q9 h9 => by cases h9) ((eMX12_corner n x1 x2 h).symm.trans H)
theorem sndX12_corner {ρ : Type} {l : Launch} (n : Nat) : SndF (ρ := ρ) l false (mi 121).1 (wX12_corner n) := by
    intro a h k r H ha ho hn hf
    have h8 := hf rfl
    obtain ⟨x0, x1, x2, rfl⟩ := len3 (show a.length = 3 from ha)
    have u0 := uq16 hn (ho (16, x0) (List.mem_cons_self))
    subst u0
    replace H : bnd (MX12_corner n x1 x2 h) (fun r h2 => k r h2) = some r := H
    obtain ⟨v2, h2, H1, H2⟩ := bnd_some H
    exact ⟨v2, h2, H2, met_mk (mok_base okX12_corner).1 (by decide +kernel) (Nat.le_of_ble_eq_true rfl) ho (sMX12_corner h8 n x1 x2 h H1 ⟨rfl, rfl⟩), fun q => by cases q⟩
/-! X8_rests -/
def sdX8_rests : SD := [(0, [(0, .aload_n 0, 1, [], 0), (1, .getfield 21, 3, [8, 1, 0, 0, 484, 0], 0), (4, .ifCond .ne 14, 3, [], 0)]),
  (7, [(7, .aload_n 0, 1, [], 0), (8, .getfield 24, 3, [8, 2, 0, 0, 487, 0], 0), (11, .ifCond .ne 7, 3, [], 0)]),
  (14, [(14, .iconst 1, 1, [], 0), (15, .goto 4, 3, [], 0)]),
  (18, [(18, .iconst 0, 1, [], 0)]),
  (19, [(19, .ireturn, 1, [1], 0)])]
def MX8_rests (x0 : Int) (h : Hp) : Option (Int) :=
(if (h x0 1) ≠ 0 then
(some 0)
else
(if (h x0 2) ≠ 0 then
(some 0)
else
(some 1)))
def wX8_rests {ρ : Type} : FN ρ := fun a h k => match a with
  | [x0] => bndp (MX8_rests x0 h) (fun r => k r h)
  | _ => none
def fsX8_rests (ρ : Type) : List (FN ρ) := []
def KMX8_rests  : CT (Int) := []
set_option maxRecDepth 100000 in
theorem eMX8_rests (x0 : Int) (h : Hp) : MX8_rests x0 h =
  goAt false (kct (KMX8_rests)) (fun v _ => some (v)) (fsX8_rests _) sdX8_rests 1000 0 [(0, 12, x0)] [] h := rfl
theorem okX8_rests : mokb (mi 122) = true := by decide +kernel
theorem rkX8_rests : rkOK 4 (mi 122).1.2.2.2.2.2.2.1 (mi 122).1.2.2.2.1 := Or.inr (Or.inr (Or.inl ⟨rfl, rfl, rfl⟩))
def calX8_rests : List Nat := []
theorem foX8_rests {l : Launch} {ρ : Type} : fsOK l false mi calX8_rests (fsX8_rests ρ) := trivial
theorem frX8_rests {ρ : Type} : ∀ fn ∈ fsX8_rests ρ, RoF fn := (fun q9 h9 => by cases h9)
theorem ok_sdX8_rests : sdb (mi 122).1.2.1 (insOK mi (mi 122).1.1.cls (mi 122).1.2.2.1 (mi 122).1.2.2.2.2.1 (mi 122).1.2.2.2.2.2.1 calX8_rests false 4) sdX8_rests = true := by decide +kernel
theorem sMX8_rests {l : Launch} {h0 : Hp} {v : Int} (h8 : nOf h0 = 148)  (x0 : Int) (h : Hp) {r : Int} (H : MX8_rests x0 h = some r) (hG : gV v r) : PAt l false (mi 122).1 h0 v h 0 [(0, 12, x0)] [] h :=
  pat_ro ok_sdX8_rests rfl rkX8_rests h8 (foX8_rests) (frX8_rests) (fun v1 q => by
    cases q
    exact ⟨rfl, fun _ => hG⟩) (fun q9 h9 => by cases h9) ((eMX8_rests x0 h).symm.trans H)
theorem sndX8_rests {ρ : Type} {l : Launch} : SndF (ρ := ρ) l false (mi 122).1 (wX8_rests) := by
    intro a h k r H ha ho hn hf
    have h8 := hf rfl
    obtain ⟨x0, rfl⟩ := len1 (show a.length = 1 from ha)
    replace H : bndp (MX8_rests x0 h) (fun r => k r h) = some r := H
    obtain ⟨v2, H1, H2⟩ := bndp_some H
    exact ⟨v2, h, H2, met_mk (mok_base okX8_rests).1 (by decide +kernel) (Nat.le_of_ble_eq_true rfl) ho (sMX8_rests h8 x0 h H1 rfl), fun q => by cases q⟩
theorem roX8_rests {ρ : Type} : RoF (wX8_rests : FN ρ) := fun a h k k2 hk => by
  unfold wX8_rests
  split
  · exact bndp_ro hk
  · rfl
/-! X1_isDone -/
def sdX1_isDone : SD := [(0, [(0, .aload_n 1, 1, [], 0), (1, .invokevirtual 39, 3, [1, 0, 1, 122, 1011, 12], 0), (4, .ifCond .eq 24, 3, [], 0)]),
  (7, [(7, .aload_n 1, 1, [], 0), (8, .getfield 45, 3, [8, 0, 0, 0, 482, 0], 0), (11, .aload_n 0, 1, [], 0), (12, .getfield 24, 3, [1, 0, 8, 1, 464, 0], 2), (15, .getfield 48, 3, [4, 0, 14, 0, 431, 0], 0), (18, .getfield 52, 3, [10, 14, 0, 0, 214, 0], 0), (21, .if_icmp .lt 7, 3, [], 0)]),
  (24, [(24, .iconst 1, 1, [], 0), (25, .goto 4, 3, [], 0)]),
  (28, [(28, .iconst 0, 1, [], 0)]),
  (29, [(29, .ireturn, 1, [1], 0)])]
def MX1_isDone (x0 x1 : Int) (h : Hp) : Option (Int) :=
(bndp (MX8_rests x1 h) fun r1 =>
(if r1 = 0 then
(some 0)
else
(if (h x1 0) < (h (h (x0 + 2) 0) 14) then
(some 0)
else
(some 1))))
def wX1_isDone {ρ : Type} : FN ρ := fun a h k => match a with
  | [x0, x1] => bndp (MX1_isDone x0 x1 h) (fun r => k r h)
  | _ => none
def fsX1_isDone (ρ : Type) : List (FN ρ) := [wX8_rests]
def KMX1_isDone  : CT (Int) := []
set_option maxRecDepth 100000 in
theorem eMX1_isDone (x0 : Int) (x1 : Int) (h : Hp) : MX1_isDone x0 x1 h =
  goAt false (kct (KMX1_isDone)) (fun v _ => some (v)) (fsX1_isDone _) sdX1_isDone 1000 0 [(0, 5, x0), (1, 12, x1)] [] h := rfl
theorem okX1_isDone : mokb (mi 123) = true := by decide +kernel
theorem rkX1_isDone : rkOK 4 (mi 123).1.2.2.2.2.2.2.1 (mi 123).1.2.2.2.1 := Or.inr (Or.inr (Or.inl ⟨rfl, rfl, rfl⟩))
def calX1_isDone : List Nat := [122]
theorem foX1_isDone {l : Launch} {ρ : Type} : fsOK l false mi calX1_isDone (fsX1_isDone ρ) := ⟨sndX8_rests, trivial⟩
theorem frX1_isDone {ρ : Type} : ∀ fn ∈ fsX1_isDone ρ, RoF fn := (List.forall_mem_cons.mpr ⟨roX8_rests, (fun q9 h9 => by cases h9)⟩)
theorem ok_sdX1_isDone : sdb (mi 123).1.2.1 (insOK mi (mi 123).1.1.cls (mi 123).1.2.2.1 (mi 123).1.2.2.2.2.1 (mi 123).1.2.2.2.2.2.1 calX1_isDone false 4) sdX1_isDone = true := by decide +kernel
theorem sMX1_isDone {l : Launch} {h0 : Hp} {v : Int} (h8 : nOf h0 = 148)  (x0 : Int) (x1 : Int) (h : Hp) {r : Int} (H : MX1_isDone x0 x1 h = some r) (hG : gV v r) : PAt l false (mi 123).1 h0 v h 0 [(0, 5, x0), (1, 12, x1)] [] h :=
  pat_ro ok_sdX1_isDone rfl rkX1_isDone h8 (foX1_isDone) (frX1_isDone) (fun v1 q => by
    cases q
    exact ⟨rfl, fun _ => hG⟩) (fun q9 h9 => by cases h9) ((eMX1_isDone x0 x1 h).symm.trans H)
theorem sndX1_isDone {ρ : Type} {l : Launch} : SndF (ρ := ρ) l false (mi 123).1 (wX1_isDone) := by
    intro a h k r H ha ho hn hf
    have h8 := hf rfl
    obtain ⟨x0, x1, rfl⟩ := len2 (show a.length = 2 from ha)
    replace H : bndp (MX1_isDone x0 x1 h) (fun r => k r h) = some r := H
    obtain ⟨v2, H1, H2⟩ := bndp_some H
    exact ⟨v2, h, H2, met_mk (mok_base okX1_isDone).1 (by decide +kernel) (Nat.le_of_ble_eq_true rfl) ho (sMX1_isDone h8 x0 x1 h H1 rfl), fun q => by cases q⟩
theorem roX1_isDone {ρ : Type} : RoF (wX1_isDone : FN ρ) := fun a h k k2 hk => by
  unfold wX1_isDone
  split
  · exact bndp_ro hk
  · rfl
/-! X8_become -/
def sdX8_become : SD := [(0, [(0, .aload_n 0, 1, [], 0), (1, .aload_n 1, 1, [], 0), (2, .getfield 18, 3, [8, 0, 0, 0, 481, 0], 0), (5, .putfield 18, 3, [8, 0, 0, 0, 0, 481], 0), (8, .aload_n 0, 1, [], 0), (9, .aload_n 1, 1, [], 0), (10, .getfield 21, 3, [8, 1, 0, 0, 484, 0], 0), (13, .putfield 21, 3, [8, 1, 0, 0, 0, 484], 0), (16, .aload_n 0, 1, [], 0), (17, .aload_n 1, 1, [], 0), (18, .getfield 24, 3, [8, 2, 0, 0, 487, 0], 0), (21, .putfield 24, 3, [8, 2, 0, 0, 0, 487], 0), (24, .aload_n 0, 1, [], 0), (25, .aload_n 1, 1, [], 0), (26, .getfield 9, 3, [8, 3, 0, 0, 490, 0], 0), (29, .putfield 9, 3, [8, 3, 0, 0, 0, 490], 0), (32, .aload_n 0, 1, [], 0), (33, .aload_n 1, 1, [], 0), (34, .getfield 15, 3, [8, 4, 0, 0, 493, 0], 0), (37, .putfield 15, 3, [8, 4, 0, 0, 0, 493], 0), (40, .aload_n 0, 1, [], 0), (41, .aload_n 1, 1, [], 0), (42, .getfield 33, 3, [8, 5, 0, 0, 495, 0], 0), (45, .putfield 33, 3, [8, 5, 0, 0, 1, 495], 0), (48, .aload_n 0, 1, [], 0), (49, .aload_n 1, 1, [], 0), (50, .getfield 37, 3, [8, 6, 0, 0, 498, 0], 0), (53, .putfield 37, 3, [8, 6, 0, 0, 0, 498], 0), (56, .return_, 1, [], 0)])]
def MX8_become (x0 x1 : Int) (h : Hp) : Option (Hp) :=
(ltt (up h x0 0 (h x1 0)) fun h1 =>
(ltt (up h1 x0 1 (h1 x1 1)) fun h2 =>
(ltt (up h2 x0 2 (h2 x1 2)) fun h3 =>
(ltt (up h3 x0 3 (h3 x1 3)) fun h4 =>
(ltt (up h4 x0 4 (h4 x1 4)) fun h5 =>
(grd ((h5 x1 5) = 0 ∨ (h5 x1 5) = 1)
(ltt (up h5 x0 5 (h5 x1 5)) fun h6 =>
(ltt (up h6 x0 6 (h6 x1 6)) fun h7 =>
(some h7)))))))))
def wX8_become {ρ : Type} : FN ρ := fun a h k => match a with
  | [x0, x1] => bndh (MX8_become x0 x1 h) (fun h2 => k 0 h2)
  | _ => none
def fsX8_become (ρ : Type) : List (FN ρ) := []
def KMX8_become  : CT (Hp) := []
set_option maxRecDepth 100000 in
theorem eMX8_become (x0 : Int) (x1 : Int) (h : Hp) : MX8_become x0 x1 h =
  goAt false (kct (KMX8_become)) (fun _ h => some (h)) (fsX8_become _) sdX8_become 1000 0 [(0, 12, x0), (1, 12, x1)] [] h := rfl
theorem okX8_become : mokb (mi 124) = true := by decide +kernel
theorem rkX8_become : rkOK 0 (mi 124).1.2.2.2.2.2.2.1 (mi 124).1.2.2.2.1 := Or.inl ⟨rfl, rfl, rfl⟩
def calX8_become : List Nat := []
theorem foX8_become {l : Launch} {ρ : Type} : fsOK l false mi calX8_become (fsX8_become ρ) := trivial
theorem ok_sdX8_become : sdb (mi 124).1.2.1 (insOK mi (mi 124).1.1.cls (mi 124).1.2.2.1 (mi 124).1.2.2.2.2.1 (mi 124).1.2.2.2.2.2.1 calX8_become false 0) sdX8_become = true := by decide +kernel
theorem sMX8_become {l : Launch} {h0 h' : Hp} {v : Int} (h8 : nOf h0 = 148)  (x0 : Int) (x1 : Int) (h : Hp) {r : Hp} (H : MX8_become x0 x1 h = some r) (hG : gW h' r) : PAt l false (mi 124).1 h0 v h' 0 [(0, 12, x0), (1, 12, x1)] [] h :=
  pat_w ok_sdX8_become rkX8_become h8 (foX8_become) (fun v1 h1 q => by
    cases q
    exact ⟨hG, fun q9 => absurd rfl q9⟩) (fun q9 h9 => by cases h9) ((eMX8_become x0 x1 h).symm.trans H)
theorem sndX8_become {ρ : Type} {l : Launch} : SndF (ρ := ρ) l false (mi 124).1 (wX8_become) := by
    intro a h k r H ha ho hn hf
    have h8 := hf rfl
    obtain ⟨x0, x1, rfl⟩ := len2 (show a.length = 2 from ha)
    replace H : bndh (MX8_become x0 x1 h) (fun h2 => k 0 h2) = some r := H
    obtain ⟨h2, H1, H2⟩ := bndh_some H
    exact ⟨0, h2, H2, met_mk (mok_base okX8_become).1 (by decide +kernel) (Nat.le_of_ble_eq_true rfl) ho (sMX8_become h8 x0 x1 h H1 rfl), fun q => by cases q⟩
/-! X5_note -/
def sdX5_note : SD := [(0, [(0, .aload_n 0, 1, [], 0), (1, .getfield 16, 3, [5, 1, 0, 0, 525, 0], 0), (4, .ifCond .lt 12, 3, [], 0)]),
  (7, [(7, .aload_n 0, 1, [], 0), (8, .getfield 16, 3, [5, 1, 0, 0, 525, 0], 0), (11, .bipush 20, 2, [], 0), (13, .if_icmp .lt 4, 3, [], 0)]),
  (16, [(16, .return_, 1, [], 0)]),
  (17, [(17, .aload_n 0, 1, [], 0), (18, .getfield 11, 3, [5, 0, 184, 1, 524, 0], 1), (21, .aload_n 0, 1, [], 0), (22, .getfield 16, 3, [5, 1, 0, 0, 525, 0], 0), (25, .aaload, 1, [], 0), (26, .aload_n 1, 1, [], 0), (27, .invokevirtual 20, 3, [0, 0, 1, 124, 1019, 12, 12], 0), (30, .aload_n 0, 1, [], 0), (31, .aload_n 0, 1, [], 0), (32, .getfield 16, 3, [5, 1, 0, 0, 525, 0], 0), (35, .iconst 1, 1, [], 0), (36, .iadd, 1, [], 0), (37, .bipush 20, 2, [], 0), (39, .if_icmp .ne 7, 3, [], 0)]),
  (42, [(42, .iconst 0, 1, [], 0), (43, .goto 9, 3, [], 0)]),
  (46, [(46, .aload_n 0, 1, [], 0), (47, .getfield 16, 3, [5, 1, 0, 0, 525, 0], 0), (50, .iconst 1, 1, [], 0), (51, .iadd, 1, [], 0)]),
  (52, [(52, .putfield 16, 3, [5, 1, 0, 0, 0, 525], 0), (55, .aload_n 0, 1, [], 0), (56, .bipush 20, 2, [], 0), (58, .aload_n 0, 1, [], 0), (59, .getfield 24, 3, [5, 2, 0, 0, 526, 0], 0), (62, .iconst 1, 1, [], 0), (63, .iadd, 1, [], 0), (64, .invokestatic 27, 3, [1, 1, 3, 261, 1023, 0, 0], 0), (67, .putfield 24, 3, [5, 2, 0, 0, 0, 526], 0), (70, .return_, 1, [], 0)])]
def JX5_note_52 (z1 : Int) (h : Hp) : Option (Hp) :=
(ltt (up h 66 1 z1) fun h1 =>
(ltt (up h1 66 2 (min 20 (w32 ((h1 66 2) + 1)))) fun h2 =>
(some h2)))
def MX5_note (x1 : Int) (h : Hp) : Option (Hp) :=
(if (h 66 1) < 0 then
(some h)
else
(if (h 66 1) < 20 then
(grd (0 ≤ (h 66 1) ∧ (h 66 1) < alen 184)
(bndh (MX8_become (68 + (h 66 1)) x1 h) fun h1 =>
(if (w32 ((h1 66 1) + 1)) ≠ 20 then
(JX5_note_52 (w32 ((h1 66 1) + 1)) h1)
else
(JX5_note_52 0 h1))))
else
(some h)))
def wX5_note {ρ : Type} : FN ρ := fun a h k => match a with
  | [_, x1] => bndh (MX5_note x1 h) (fun h2 => k 0 h2)
  | _ => none
def fsX5_note (ρ : Type) : List (FN ρ) := [wX8_become, fmin]
def KJX5_note_52  : CT (Hp) := []
set_option maxRecDepth 100000 in
theorem eJX5_note_52 (z1 : Int) (h : Hp) : JX5_note_52 z1 h =
  goAt false (kct (KJX5_note_52)) (fun _ h => some (h)) (fsX5_note _) sdX5_note 1000 52 [(0, 9, 66)] [(0, z1), (9, 66)] h := rfl
def KMX5_note  : CT (Hp) := [(52, [(0, 9, (some 66))], [(0, none), (9, (some 66))], fun a c h => match a, c with
    | [], [z1] => JX5_note_52 z1 h
    | _, _ => none)]
set_option maxRecDepth 100000 in
theorem eMX5_note (x1 : Int) (h : Hp) : MX5_note x1 h =
  goAt false (kct (KMX5_note)) (fun _ h => some (h)) (fsX5_note _) sdX5_note 1000 0 [(0, 9, 66), (1, 12, x1)] [] h := rfl
theorem okX5_note : mokb (mi 125) = true := by decide +kernel
theorem rkX5_note : rkOK 0 (mi 125).1.2.2.2.2.2.2.1 (mi 125).1.2.2.2.1 := Or.inl ⟨rfl, rfl, rfl⟩
def calX5_note : List Nat := [124, 261]
theorem foX5_note {l : Launch} {ρ : Type} : fsOK l false mi calX5_note (fsX5_note ρ) := ⟨sndX8_become, ⟨snd_mmin, trivial⟩⟩
theorem ok_sdX5_note : sdb (mi 125).1.2.1 (insOK mi (mi 125).1.1.cls (mi 125).1.2.2.1 (mi 125).1.2.2.2.2.1 (mi 125).1.2.2.2.2.2.1 calX5_note false 0) sdX5_note = true := by decide +kernel
theorem sJX5_note_52 {l : Launch} {h0 h' : Hp} {v : Int} (h8 : nOf h0 = 148)  (z1 : Int) (h : Hp) {r : Hp} (H : JX5_note_52 z1 h = some r) (hG : gW h' r) : PAt l false (mi 125).1 h0 v h' 52 [(0, 9, 66)] [(0, z1), (9, 66)] h :=
  pat_w ok_sdX5_note rkX5_note h8 (foX5_note) (fun v1 h1 q => by
    cases q
    exact ⟨hG, fun q9 => absurd rfl q9⟩) (fun q9 h9 => by cases h9) ((eJX5_note_52 z1 h).symm.trans H)
theorem sMX5_note {l : Launch} {h0 h' : Hp} {v : Int} (h8 : nOf h0 = 148)  (x1 : Int) (h : Hp) {r : Hp} (H : MX5_note x1 h = some r) (hG : gW h' r) : PAt l false (mi 125).1 h0 v h' 0 [(0, 9, 66), (1, 12, x1)] [] h :=
  pat_w ok_sdX5_note rkX5_note h8 (foX5_note) (fun v1 h1 q => by
    cases q
    exact ⟨hG, fun q9 => absurd rfl q9⟩) (List.forall_mem_cons.mpr ⟨(fun a c h H => by
      dsimp only at H
      split at H
      · exact sJX5_note_52 h8 _ _ H hG
      · cases H), (fun q9 h9 => by cases h9)⟩) ((eMX5_note x1 h).symm.trans H)
theorem sndX5_note {ρ : Type} {l : Launch} : SndF (ρ := ρ) l false (mi 125).1 (wX5_note) := by
    intro a h k r H ha ho hn hf
    have h8 := hf rfl
    obtain ⟨x0, x1, rfl⟩ := len2 (show a.length = 2 from ha)
    have u0 := uq9 hn (ho (9, x0) (List.mem_cons_self))
    subst u0
    replace H : bndh (MX5_note x1 h) (fun h2 => k 0 h2) = some r := H
    obtain ⟨h2, H1, H2⟩ := bndh_some H
    exact ⟨0, h2, H2, met_mk (mok_base okX5_note).1 (by decide +kernel) (Nat.le_of_ble_eq_true rfl) ho (sMX5_note h8 x1 h H1 rfl), fun q => by cases q⟩
/-! X1_bears -/
def sdX1_bears : SD := [(0, [(0, .iload_n 2, 1, [], 0), (1, .aload_n 0, 1, [], 0), (2, .getfield 24, 3, [1, 0, 8, 1, 464, 0], 2), (5, .getfield 32, 3, [4, 3, 0, 0, 436, 0], 0), (8, .ineg, 1, [], 0), (9, .if_icmp .lt 26, 3, [], 0)]),
  (12, [(12, .iload_n 1, 1, [], 0), (13, .ifCond .lt 22, 3, [], 0)]),
  (16, [(16, .iload_n 2, 1, [], 0), (17, .ifCond .ge 14, 3, [], 0)]),
  (20, [(20, .iconst 2, 1, [], 0), (21, .iload_n 1, 1, [], 0), (22, .imul, 1, [], 0), (23, .iload_n 2, 1, [], 0), (24, .iload_n 2, 1, [], 0), (25, .iconst 1, 1, [], 0), (26, .iadd, 1, [], 0), (27, .imul, 1, [], 0), (28, .if_icmp .lt 7, 3, [], 0)]),
  (31, [(31, .iconst 1, 1, [], 0), (32, .goto 4, 3, [], 0)]),
  (35, [(35, .iconst 0, 1, [], 0)]),
  (36, [(36, .ireturn, 1, [1], 0)])]
def MX1_bears (x0 x1 x2 : Int) (h : Hp) : Option (Int) :=
(if x2 < (w32 (-(h (x0 + 2) 3))) then
(some 0)
else
(if x1 < 0 then
(some 0)
else
(if 0 ≤ x2 then
(some 1)
else
(if (w32 (2 * x1)) < (w32 (x2 * (w32 (x2 + 1)))) then
(some 0)
else
(some 1)))))
def wX1_bears {ρ : Type} : FN ρ := fun a h k => match a with
  | [x0, x1, x2] => bndp (MX1_bears x0 x1 x2 h) (fun r => k r h)
  | _ => none
def fsX1_bears (ρ : Type) : List (FN ρ) := []
def KMX1_bears  : CT (Int) := []
set_option maxRecDepth 100000 in
theorem eMX1_bears (x0 : Int) (x1 : Int) (x2 : Int) (h : Hp) : MX1_bears x0 x1 x2 h =
  goAt false (kct (KMX1_bears)) (fun v _ => some (v)) (fsX1_bears _) sdX1_bears 1000 0 [(0, 5, x0), (1, 0, x1), (2, 0, x2)] [] h := rfl
theorem okX1_bears : mokb (mi 126) = true := by decide +kernel
theorem rkX1_bears : rkOK 4 (mi 126).1.2.2.2.2.2.2.1 (mi 126).1.2.2.2.1 := Or.inr (Or.inr (Or.inl ⟨rfl, rfl, rfl⟩))
def calX1_bears : List Nat := []
theorem foX1_bears {l : Launch} {ρ : Type} : fsOK l false mi calX1_bears (fsX1_bears ρ) := trivial
theorem frX1_bears {ρ : Type} : ∀ fn ∈ fsX1_bears ρ, RoF fn := (fun q9 h9 => by cases h9)
theorem ok_sdX1_bears : sdb (mi 126).1.2.1 (insOK mi (mi 126).1.1.cls (mi 126).1.2.2.1 (mi 126).1.2.2.2.2.1 (mi 126).1.2.2.2.2.2.1 calX1_bears false 4) sdX1_bears = true := by decide +kernel
theorem sMX1_bears {l : Launch} {h0 : Hp} {v : Int} (h8 : nOf h0 = 148)  (x0 : Int) (x1 : Int) (x2 : Int) (h : Hp) {r : Int} (H : MX1_bears x0 x1 x2 h = some r) (hG : gV v r) : PAt l false (mi 126).1 h0 v h 0 [(0, 5, x0), (1, 0, x1), (2, 0, x2)] [] h :=
  pat_ro ok_sdX1_bears rfl rkX1_bears h8 (foX1_bears) (frX1_bears) (fun v1 q => by
    cases q
    exact ⟨rfl, fun _ => hG⟩) (fun q9 h9 => by cases h9) ((eMX1_bears x0 x1 x2 h).symm.trans H)
theorem sndX1_bears {ρ : Type} {l : Launch} : SndF (ρ := ρ) l false (mi 126).1 (wX1_bears) := by
    intro a h k r H ha ho hn hf
    have h8 := hf rfl
    obtain ⟨x0, x1, x2, rfl⟩ := len3 (show a.length = 3 from ha)
    replace H : bndp (MX1_bears x0 x1 x2 h) (fun r => k r h) = some r := H
    obtain ⟨v2, H1, H2⟩ := bndp_some H
    exact ⟨v2, h, H2, met_mk (mok_base okX1_bears).1 (by decide +kernel) (Nat.le_of_ble_eq_true rfl) ho (sMX1_bears h8 x0 x1 x2 h H1 rfl), fun q => by cases q⟩
theorem roX1_bears {ρ : Type} : RoF (wX1_bears : FN ρ) := fun a h k k2 hk => by
  unfold wX1_bears
  split
  · exact bndp_ro hk
  · rfl
/-! X1_reached -/
def sdX1_reached : SD := [(0, [(0, .iload_n 2, 1, [], 0), (1, .aload_n 0, 1, [], 0), (2, .getfield 24, 3, [1, 0, 8, 1, 464, 0], 2), (5, .getfield 48, 3, [4, 0, 14, 0, 431, 0], 0), (8, .getfield 52, 3, [10, 14, 0, 0, 214, 0], 0), (11, .if_icmp .gt 30, 3, [], 0)]),
  (14, [(14, .aload_n 0, 1, [], 0), (15, .getfield 24, 3, [1, 0, 8, 1, 464, 0], 2), (18, .getfield 48, 3, [4, 0, 14, 0, 431, 0], 0), (21, .iload_n 1, 1, [], 0), (22, .invokevirtual 60, 3, [1, 0, 1, 43, 1040, 0, 14], 0), (25, .ifCond .eq 16, 3, [], 0)]),
  (28, [(28, .iload_n 3, 1, [], 0), (29, .aload_n 0, 1, [], 0), (30, .getfield 24, 3, [1, 0, 8, 1, 464, 0], 2), (33, .getfield 66, 3, [4, 4, 532, 1, 439, 0], 1), (36, .iload_n 1, 1, [], 0), (37, .iaload, 1, [], 0), (38, .if_icmp .le 5, 3, [], 0)]),
  (41, [(41, .iconst (-1), 1, [], 0), (42, .ireturn, 1, [], 0)]),
  (43, [(43, .iload_n 1, 1, [], 0), (44, .istore 4, 2, [], 0)]),
  (46, [(46, .iload 4, 2, [], 0), (48, .iconst 1, 1, [], 0), (49, .iadd, 1, [], 0), (50, .aload_n 0, 1, [], 0), (51, .getfield 24, 3, [1, 0, 8, 1, 464, 0], 2), (54, .getfield 48, 3, [4, 0, 14, 0, 431, 0], 0), (57, .getfield 94, 3, [10, 11, 0, 0, 205, 0], 0), (60, .if_icmp .ge 58, 3, [], 0)]),
  (63, [(63, .iload_n 2, 1, [], 0), (64, .aload_n 0, 1, [], 0), (65, .getfield 24, 3, [1, 0, 8, 1, 464, 0], 2), (68, .getfield 48, 3, [4, 0, 14, 0, 431, 0], 0), (71, .getfield 97, 3, [10, 3, 532, 1, 177, 0], 7), (74, .iload 4, 2, [], 0), (76, .iaload, 1, [], 0), (77, .if_icmp .lt 41, 3, [], 0)]),
  (80, [(80, .iload_n 3, 1, [], 0), (81, .aload_n 0, 1, [], 0), (82, .getfield 24, 3, [1, 0, 8, 1, 464, 0], 2), (85, .getfield 112, 3, [4, 6, 532, 1, 445, 0], 3), (88, .iload 4, 2, [], 0), (90, .iaload, 1, [], 0), (91, .if_icmp .gt 19, 3, [], 0)]),
  (94, [(94, .iload_n 3, 1, [], 0), (95, .aload_n 0, 1, [], 0), (96, .getfield 24, 3, [1, 0, 8, 1, 464, 0], 2), (99, .getfield 66, 3, [4, 4, 532, 1, 439, 0], 1), (102, .iload 4, 2, [], 0), (104, .iconst 1, 1, [], 0), (105, .iadd, 1, [], 0), (106, .iaload, 1, [], 0), (107, .if_icmp .le 5, 3, [], 0)]),
  (110, [(110, .iconst (-1), 1, [], 0), (111, .ireturn, 1, [], 0)]),
  (112, [(112, .iinc 4 1, 3, [], 0), (115, .goto (-69), 3, [], 0)]),
  (118, [(118, .iload 4, 2, [], 0), (120, .ireturn, 1, [], 0)])]
def BX1_reached_46 (n : Nat) : Nat → Int → Int → Int → Int → Hp → Option (Int)
  | 0, _, _, _, _, _ => none
  | f + 1, x0, x2, x3, x4, h =>
    (if (h (h (x0 + 2) 0) 11) ≤ (w32 (x4 + 1)) then
    (some x4)
    else
    (grd (0 ≤ x4 ∧ x4 < alen 532)
    (if x2 < (h ((h (x0 + 2) 0) + 7) x4) then
    (some x4)
    else
    (grd (0 ≤ x4 ∧ x4 < alen 532)
    (if (h ((x0 + 2) + 3) x4) < x3 then
    (some (-1))
    else
    (grd (0 ≤ (w32 (x4 + 1)) ∧ (w32 (x4 + 1)) < alen 532)
    (if x3 ≤ (h ((x0 + 2) + 1) (w32 (x4 + 1))) then
    (ltt (w32 (x4 + 1)) fun y1 =>
    (BX1_reached_46 n f x0 x2 x3 y1 h))
    else
    (some (-1)))))))))
def LX1_reached_46 (n : Nat) (x0 x2 x3 x4 : Int) (h : Hp) : Option (Int) :=
(BX1_reached_46 n n x0 x2 x3 x4 h)
def MX1_reached (n : Nat) (x0 x1 x2 x3 : Int) (h : Hp) : Option (Int) :=
(if (h (h (x0 + 2) 0) 14) < x2 then
(some (-1))
else
(bndp (MX10_has (h (x0 + 2) 0) x1 h) fun r1 =>
(if r1 = 0 then
(some (-1))
else
(grd (0 ≤ x1 ∧ x1 < alen 532)
(if x3 ≤ (h ((x0 + 2) + 1) x1) then
(ltt x1 fun y1 =>
(LX1_reached_46 n x0 x2 x3 y1 h))
else
(some (-1)))))))
def wX1_reached {ρ : Type} (n : Nat) : FN ρ := fun a h k => match a with
  | [x0, x1, x2, x3] => bndp (MX1_reached n x0 x1 x2 x3 h) (fun r => k r h)
  | _ => none
def fsX1_reached (n : Nat) (ρ : Type) : List (FN ρ) := [wX10_has]
def KBX1_reached_46 (_ : Nat) (bk : Int → Int → Int → Int → Hp → Option (Int)) : CT (Int) := [(46, [(0, 5, none), (2, 0, none), (3, 0, none), (4, 0, none)], [], fun a c h => match a, c with
    | [x0, x2, x3, x4], [] => bk x0 x2 x3 x4 h
    | _, _ => none)]
set_option maxRecDepth 100000 in
theorem eBX1_reached_46 (n f : Nat) (x0 : Int) (x2 : Int) (x3 : Int) (x4 : Int) (h : Hp) : BX1_reached_46 n (f + 1) x0 x2 x3 x4 h =
  goAt false (kct (KBX1_reached_46 n (BX1_reached_46 n f))) (fun v _ => some (v)) (fsX1_reached n _) sdX1_reached 1000 46 [(0, 5, x0), (2, 0, x2), (3, 0, x3), (4, 0, x4)] [] h := rfl
def KMX1_reached (n : Nat) : CT (Int) := [(46, [(0, 5, none), (2, 0, none), (3, 0, none), (4, 0, none)], [], fun a c h => match a, c with
    | [x0, x2, x3, x4], [] => LX1_reached_46 n x0 x2 x3 x4 h
    | _, _ => none)]
set_option maxRecDepth 100000 in
theorem eMX1_reached (n : Nat) (x0 : Int) (x1 : Int) (x2 : Int) (x3 : Int) (h : Hp) : MX1_reached n x0 x1 x2 x3 h =
  goAt false (kct (KMX1_reached n)) (fun v _ => some (v)) (fsX1_reached n _) sdX1_reached 1000 0 [(0, 5, x0), (1, 0, x1), (2, 0, x2), (3, 0, x3)] [] h := rfl
theorem okX1_reached : mokb (mi 127) = true := by decide +kernel
theorem rkX1_reached : rkOK 1 (mi 127).1.2.2.2.2.2.2.1 (mi 127).1.2.2.2.1 := Or.inr (Or.inl ⟨rfl, rfl, rfl⟩)
def calX1_reached : List Nat := [43]
theorem foX1_reached {l : Launch} {ρ : Type} (n : Nat) : fsOK l false mi calX1_reached (fsX1_reached n ρ) := ⟨sndX10_has, trivial⟩
theorem frX1_reached {ρ : Type} (n : Nat) : ∀ fn ∈ fsX1_reached n ρ, RoF fn := (List.forall_mem_cons.mpr ⟨roX10_has, (fun q9 h9 => by cases h9)⟩)
theorem ok_sdX1_reached : sdb (mi 127).1.2.1 (insOK mi (mi 127).1.1.cls (mi 127).1.2.2.1 (mi 127).1.2.2.2.2.1 (mi 127).1.2.2.2.2.2.1 calX1_reached false 1) sdX1_reached = true := by decide +kernel
theorem sBX1_reached_46 {l : Launch} {h0 : Hp} {v : Int} (h8 : nOf h0 = 148) (n : Nat) (h : Hp) : ∀ (f : Nat) (x0 : Int) (x2 : Int) (x3 : Int) (x4 : Int) {r : Int}, BX1_reached_46 n f x0 x2 x3 x4 h = some r → gV v r → PAt l false (mi 127).1 h0 v h 46 [(0, 5, x0), (2, 0, x2), (3, 0, x3), (4, 0, x4)] [] h := by
  intro f
  induction f with
  | zero =>
    intro x0 x2 x3 x4 r H _
    have H2 : (none : Option (Int)) = some r := H
    cases H2
  | succ f ih =>
    intro x0 x2 x3 x4 r H hG
    exact pat_ro ok_sdX1_reached rfl rkX1_reached h8 (foX1_reached n) (frX1_reached n) (fun v1 q => by
    cases q
    exact ⟨rfl, fun _ => hG⟩) (List.forall_mem_cons.mpr ⟨(fun a c H => by
      dsimp only at H
      split at H
      · exact ih _ _ _ _ H hG
      · cases H), (fun q9 h9 => by cases h9)⟩) ((eBX1_reached_46 n f x0 x2 x3 x4 h).symm.trans H)
theorem sLX1_reached_46 {l : Launch} {h0 : Hp} {v : Int} (h8 : nOf h0 = 148) (n : Nat) (x0 : Int) (x2 : Int) (x3 : Int) (x4 : Int) (h : Hp) {r : Int} (H : LX1_reached_46 n x0 x2 x3 x4 h = some r) (hG : gV v r) : PAt l false (mi 127).1 h0 v h 46 [(0, 5, x0), (2, 0, x2), (3, 0, x3), (4, 0, x4)] [] h :=
  sBX1_reached_46 h8 n h n x0 x2 x3 x4 H hG
theorem sMX1_reached {l : Launch} {h0 : Hp} {v : Int} (h8 : nOf h0 = 148) (n : Nat) (x0 : Int) (x1 : Int) (x2 : Int) (x3 : Int) (h : Hp) {r : Int} (H : MX1_reached n x0 x1 x2 x3 h = some r) (hG : gV v r) : PAt l false (mi 127).1 h0 v h 0 [(0, 5, x0), (1, 0, x1), (2, 0, x2), (3, 0, x3)] [] h :=
  pat_ro ok_sdX1_reached rfl rkX1_reached h8 (foX1_reached n) (frX1_reached n) (fun v1 q => by
    cases q
    exact ⟨rfl, fun _ => hG⟩) (List.forall_mem_cons.mpr ⟨(fun a c H => by
      dsimp only at H
      split at H
      · exact sLX1_reached_46 h8 n _ _ _ _ _ H hG
      · cases H), (fun q9 h9 => by cases h9)⟩) ((eMX1_reached n x0 x1 x2 x3 h).symm.trans H)
theorem sndX1_reached {ρ : Type} {l : Launch} (n : Nat) : SndF (ρ := ρ) l false (mi 127).1 (wX1_reached n) := by
    intro a h k r H ha ho hn hf
    have h8 := hf rfl
    obtain ⟨x0, x1, x2, x3, rfl⟩ := len4 (show a.length = 4 from ha)
    replace H : bndp (MX1_reached n x0 x1 x2 x3 h) (fun r => k r h) = some r := H
    obtain ⟨v2, H1, H2⟩ := bndp_some H
    exact ⟨v2, h, H2, met_mk (mok_base okX1_reached).1 (by decide +kernel) (Nat.le_of_ble_eq_true rfl) ho (sMX1_reached h8 n x0 x1 x2 x3 h H1 rfl), fun q => by cases q⟩
theorem roX1_reached {ρ : Type} (n : Nat) : RoF (wX1_reached n : FN ρ) := fun a h k k2 hk => by
  unfold wX1_reached
  split
  · exact bndp_ro hk
  · rfl
/-! X1_brake -/
def sdX1_brake : SD := [(0, [(0, .aload_n 0, 1, [], 0), (1, .iload_n 1, 1, [], 0), (2, .iload_n 2, 1, [], 0), (3, .iadd, 1, [], 0), (4, .iconst 1, 1, [], 0), (5, .isub, 1, [], 0), (6, .iload_n 2, 1, [], 0), (7, .iconst 1, 1, [], 0), (8, .isub, 1, [], 0), (9, .invokevirtual 100, 3, [1, 0, 1, 126, 1032, 0, 0, 5], 0), (12, .ifCond .eq 7, 3, [], 0)]),
  (15, [(15, .iconst (-1), 1, [], 0), (16, .goto 19, 3, [], 0)]),
  (19, [(19, .aload_n 0, 1, [], 0), (20, .iload_n 1, 1, [], 0), (21, .iload_n 2, 1, [], 0), (22, .iadd, 1, [], 0), (23, .iload_n 2, 1, [], 0), (24, .invokevirtual 100, 3, [1, 0, 1, 126, 1032, 0, 0, 5], 0), (27, .ifCond .eq 7, 3, [], 0)]),
  (30, [(30, .iconst 0, 1, [], 0), (31, .goto 4, 3, [], 0)]),
  (34, [(34, .iconst 1, 1, [], 0)]),
  (35, [(35, .ireturn, 1, [], 0)])]
def MX1_brake (x0 x1 x2 : Int) (h : Hp) : Option (Int) :=
(bndp (MX1_bears x0 (w32 ((w32 (x1 + x2)) - 1)) (w32 (x2 - 1)) h) fun r1 =>
(if r1 = 0 then
(bndp (MX1_bears x0 (w32 (x1 + x2)) x2 h) fun r2 =>
(if r2 = 0 then
(some 1)
else
(some 0)))
else
(some (-1))))
def wX1_brake {ρ : Type} : FN ρ := fun a h k => match a with
  | [x0, x1, x2] => bndp (MX1_brake x0 x1 x2 h) (fun r => k r h)
  | _ => none
def fsX1_brake (ρ : Type) : List (FN ρ) := [wX1_bears]
def KMX1_brake  : CT (Int) := []
set_option maxRecDepth 100000 in
theorem eMX1_brake (x0 : Int) (x1 : Int) (x2 : Int) (h : Hp) : MX1_brake x0 x1 x2 h =
  goAt false (kct (KMX1_brake)) (fun v _ => some (v)) (fsX1_brake _) sdX1_brake 1000 0 [(0, 5, x0), (1, 0, x1), (2, 0, x2)] [] h := rfl
theorem okX1_brake : mokb (mi 128) = true := by decide +kernel
theorem rkX1_brake : rkOK 1 (mi 128).1.2.2.2.2.2.2.1 (mi 128).1.2.2.2.1 := Or.inr (Or.inl ⟨rfl, rfl, rfl⟩)
def calX1_brake : List Nat := [126]
theorem foX1_brake {l : Launch} {ρ : Type} : fsOK l false mi calX1_brake (fsX1_brake ρ) := ⟨sndX1_bears, trivial⟩
theorem frX1_brake {ρ : Type} : ∀ fn ∈ fsX1_brake ρ, RoF fn := (List.forall_mem_cons.mpr ⟨roX1_bears, (fun q9 h9 => by cases h9)⟩)
theorem ok_sdX1_brake : sdb (mi 128).1.2.1 (insOK mi (mi 128).1.1.cls (mi 128).1.2.2.1 (mi 128).1.2.2.2.2.1 (mi 128).1.2.2.2.2.2.1 calX1_brake false 1) sdX1_brake = true := by decide +kernel
theorem sMX1_brake {l : Launch} {h0 : Hp} {v : Int} (h8 : nOf h0 = 148)  (x0 : Int) (x1 : Int) (x2 : Int) (h : Hp) {r : Int} (H : MX1_brake x0 x1 x2 h = some r) (hG : gV v r) : PAt l false (mi 128).1 h0 v h 0 [(0, 5, x0), (1, 0, x1), (2, 0, x2)] [] h :=
  pat_ro ok_sdX1_brake rfl rkX1_brake h8 (foX1_brake) (frX1_brake) (fun v1 q => by
    cases q
    exact ⟨rfl, fun _ => hG⟩) (fun q9 h9 => by cases h9) ((eMX1_brake x0 x1 x2 h).symm.trans H)
theorem sndX1_brake {ρ : Type} {l : Launch} : SndF (ρ := ρ) l false (mi 128).1 (wX1_brake) := by
    intro a h k r H ha ho hn hf
    have h8 := hf rfl
    obtain ⟨x0, x1, x2, rfl⟩ := len3 (show a.length = 3 from ha)
    replace H : bndp (MX1_brake x0 x1 x2 h) (fun r => k r h) = some r := H
    obtain ⟨v2, H1, H2⟩ := bndp_some H
    exact ⟨v2, h, H2, met_mk (mok_base okX1_brake).1 (by decide +kernel) (Nat.le_of_ble_eq_true rfl) ho (sMX1_brake h8 x0 x1 x2 h H1 rfl), fun q => by cases q⟩
theorem roX1_brake {ρ : Type} : RoF (wX1_brake : FN ρ) := fun a h k k2 hk => by
  unfold wX1_brake
  split
  · exact bndp_ro hk
  · rfl
/-! X1_farness -/
def sdX1_farness : SD := [(0, [(0, .iload_n 2, 1, [], 0), (1, .bipush 12, 2, [], 0), (3, .iadd, 1, [], 0), (4, .bipush 101, 2, [], 0), (6, .imul, 1, [], 0), (7, .iload_n 1, 1, [], 0), (8, .iadd, 1, [], 0), (9, .istore_n 3, 1, [], 0), (10, .iload_n 1, 1, [], 0), (11, .ifCond .lt 22, 3, [], 0)]),
  (14, [(14, .iload_n 1, 1, [], 0), (15, .bipush 101, 2, [], 0), (17, .if_icmp .ge 16, 3, [], 0)]),
  (20, [(20, .iload_n 3, 1, [], 0), (21, .ifCond .lt 12, 3, [], 0)]),
  (24, [(24, .iload_n 3, 1, [], 0), (25, .aload_n 0, 1, [], 0), (26, .getfield 13, 3, [1, 1, 20220, 1, 466, 0], 1), (29, .arraylength, 1, [], 0), (30, .if_icmp .lt 5, 3, [], 0)]),
  (33, [(33, .iconst 0, 1, [], 0), (34, .ireturn, 1, [], 0)]),
  (35, [(35, .aload_n 0, 1, [], 0), (36, .getfield 13, 3, [1, 1, 20220, 1, 466, 0], 1), (39, .iload_n 3, 1, [], 0), (40, .iaload, 1, [], 0), (41, .iconst 1, 1, [], 0), (42, .isub, 1, [], 0), (43, .istore 4, 2, [], 0), (45, .iload 4, 2, [], 0), (47, .ifCond .ge 60, 3, [], 0)]),
  (50, [(50, .iconst 0, 1, [], 0), (51, .istore 4, 2, [], 0), (53, .iconst 0, 1, [], 0), (54, .istore 5, 2, [], 0)]),
  (56, [(56, .iload 5, 2, [], 0), (58, .sipush 1000, 3, [], 0), (61, .if_icmp .ge 36, 3, [], 0)]),
  (64, [(64, .iload_n 1, 1, [], 0), (65, .ifCond .ne 7, 3, [], 0)]),
  (68, [(68, .iload_n 2, 1, [], 0), (69, .ifCond .eq 28, 3, [], 0)]),
  (72, [(72, .iload_n 2, 1, [], 0), (73, .aload_n 0, 1, [], 0), (74, .iload_n 1, 1, [], 0), (75, .iload_n 2, 1, [], 0), (76, .invokevirtual 87, 3, [1, 0, 1, 128, 1049, 0, 0, 5], 0), (79, .iadd, 1, [], 0), (80, .istore_n 2, 1, [], 0), (81, .iload_n 1, 1, [], 0), (82, .iload_n 2, 1, [], 0), (83, .iadd, 1, [], 0), (84, .istore_n 1, 1, [], 0), (85, .iload 4, 2, [], 0), (87, .iload_n 1, 1, [], 0), (88, .iadd, 1, [], 0), (89, .istore 4, 2, [], 0), (91, .iinc 5 1, 3, [], 0), (94, .goto (-38), 3, [], 0)]),
  (97, [(97, .aload_n 0, 1, [], 0), (98, .getfield 13, 3, [1, 1, 20220, 1, 466, 0], 1), (101, .iload_n 3, 1, [], 0), (102, .iload 4, 2, [], 0), (104, .iconst 1, 1, [], 0), (105, .iadd, 1, [], 0), (106, .iastore, 1, [], 0)]),
  (107, [(107, .iload 4, 2, [], 0), (109, .ireturn, 1, [], 0)])]
def sdX1_farness_56 : SD := [(56, [(56, .iload 5, 2, [], 0), (58, .sipush 1000, 3, [], 0), (61, .if_icmp .ge 36, 3, [], 0)]),
  (64, [(64, .iload_n 1, 1, [], 0), (65, .ifCond .ne 7, 3, [], 0)]),
  (68, [(68, .iload_n 2, 1, [], 0), (69, .ifCond .eq 28, 3, [], 0)]),
  (72, [(72, .iload_n 2, 1, [], 0), (73, .aload_n 0, 1, [], 0), (74, .iload_n 1, 1, [], 0), (75, .iload_n 2, 1, [], 0), (76, .invokevirtual 87, 3, [1, 0, 1, 128, 1049, 0, 0, 5], 0), (79, .iadd, 1, [], 0), (80, .istore_n 2, 1, [], 0), (81, .iload_n 1, 1, [], 0), (82, .iload_n 2, 1, [], 0), (83, .iadd, 1, [], 0), (84, .istore_n 1, 1, [], 0), (85, .iload 4, 2, [], 0), (87, .iload_n 1, 1, [], 0), (88, .iadd, 1, [], 0), (89, .istore 4, 2, [], 0), (91, .iinc 5 1, 3, [], 0), (94, .goto (-38), 3, [], 0)])]
def JX1_farness_72 (n : Nat) (bk : Int → Int → Int → Int → Int → Int → Hp → Option (Int × Int × Int)) (x0 x1 x2 x3 x4 x5 : Int) (h : Hp) : Option (Int × Int × Int) :=
(bndp (MX1_brake x0 x1 x2 h) fun r1 =>
(ltt (w32 (x2 + r1)) fun y1 =>
(ltt (w32 (x1 + y1)) fun y2 =>
(ltt (w32 (x4 + y2)) fun y3 =>
(ltt (w32 (x5 + 1)) fun y4 =>
(bk x0 y2 y1 x3 y3 y4 h))))))
def BX1_farness_56 (n : Nat) : Nat → Int → Int → Int → Int → Int → Int → Hp → Option (Int × Int × Int)
  | 0, _, _, _, _, _, _, _ => none
  | f + 1, x0, x1, x2, x3, x4, x5, h =>
    (if 1000 ≤ x5 then
    (some (x0, x3, x4))
    else
    (if x1 ≠ 0 then
    (JX1_farness_72 n (BX1_farness_56 n f) x0 x1 x2 x3 x4 x5 h)
    else
    (if x2 = 0 then
    (some (x0, x3, x4))
    else
    (JX1_farness_72 n (BX1_farness_56 n f) x0 x1 x2 x3 x4 x5 h))))
def JX1_farness_97 (n : Nat) (x0 x3 x4 : Int) (h : Hp) : Option (Int × Hp) :=
(grd (0 ≤ x3 ∧ x3 < alen 20220)
(ltt (up h (x0 + 1) x3 (w32 (x4 + 1))) fun h1 =>
(some (x4, h1))))
def LX1_farness_56 (n : Nat) (x0 x1 x2 x3 x4 x5 : Int) (h : Hp) : Option (Int × Hp) :=
(bndx (BX1_farness_56 n n x0 x1 x2 x3 x4 x5 h) fun (e0, e3, e4) =>
(JX1_farness_97 n e0 e3 e4 h))
def MX1_farness (n : Nat) (x0 x1 x2 : Int) (h : Hp) : Option (Int × Hp) :=
(ltt (w32 ((w32 ((w32 (x2 + 12)) * 101)) + x1)) fun y1 =>
(if x1 < 0 then
(some (0, h))
else
(if 101 ≤ x1 then
(some (0, h))
else
(if y1 < 0 then
(some (0, h))
else
(if y1 < (alen 20220) then
(grd (0 ≤ y1 ∧ y1 < alen 20220)
(ltt (w32 ((h (x0 + 1) y1) - 1)) fun y2 =>
(if 0 ≤ y2 then
(some (y2, h))
else
(ltt 0 fun y3 =>
(ltt 0 fun y4 =>
(LX1_farness_56 n x0 x1 x2 y1 y3 y4 h))))))
else
(some (0, h)))))))
def wX1_farness {ρ : Type} (n : Nat) : FN ρ := fun a h k => match a with
  | [x0, x1, x2] => bnd (MX1_farness n x0 x1 x2 h) (fun r h2 => k r h2)
  | _ => none
def fsX1_farness (n : Nat) (ρ : Type) : List (FN ρ) := [wX1_brake]
def fsX1_farness_56 (n : Nat) (ρ : Type) : List (FN ρ) := [wX1_brake]
def KJX1_farness_72 (_ : Nat) (bk : Int → Int → Int → Int → Int → Int → Hp → Option (Int × Int × Int)) : CT (Int × Int × Int) := [(56, [(0, 5, none), (1, 0, none), (2, 0, none), (3, 0, none), (4, 0, none), (5, 0, none)], [], fun a c h => match a, c with
    | [x0, x1, x2, x3, x4, x5], [] => bk x0 x1 x2 x3 x4 x5 h
    | _, _ => none),
  (97, [(0, 5, none), (3, 0, none), (4, 0, none)], [], fun a c _ => match a, c with
    | [x0, x3, x4], [] => some (x0, x3, x4)
    | _, _ => none)]
set_option maxRecDepth 100000 in
theorem eJX1_farness_72 (n : Nat) (bk : Int → Int → Int → Int → Int → Int → Hp → Option (Int × Int × Int)) (x0 : Int) (x1 : Int) (x2 : Int) (x3 : Int) (x4 : Int) (x5 : Int) (h : Hp) : JX1_farness_72 n bk x0 x1 x2 x3 x4 x5 h =
  goAt false (kct (KJX1_farness_72 n bk)) (fun _ _ => none) (fsX1_farness_56 n _) sdX1_farness_56 1000 72 [(0, 5, x0), (1, 0, x1), (2, 0, x2), (3, 0, x3), (4, 0, x4), (5, 0, x5)] [] h := rfl
def KBX1_farness_56 (n : Nat) (bk : Int → Int → Int → Int → Int → Int → Hp → Option (Int × Int × Int)) : CT (Int × Int × Int) := [(56, [(0, 5, none), (1, 0, none), (2, 0, none), (3, 0, none), (4, 0, none), (5, 0, none)], [], fun a c h => match a, c with
    | [x0, x1, x2, x3, x4, x5], [] => bk x0 x1 x2 x3 x4 x5 h
    | _, _ => none),
  (97, [(0, 5, none), (3, 0, none), (4, 0, none)], [], fun a c _ => match a, c with
    | [x0, x3, x4], [] => some (x0, x3, x4)
    | _, _ => none),
  (72, [(0, 5, none), (1, 0, none), (2, 0, none), (3, 0, none), (4, 0, none), (5, 0, none)], [], fun a c h => match a, c with
    | [x0, x1, x2, x3, x4, x5], [] => JX1_farness_72 n bk x0 x1 x2 x3 x4 x5 h
    | _, _ => none)]
set_option maxRecDepth 100000 in
theorem eBX1_farness_56 (n f : Nat) (x0 : Int) (x1 : Int) (x2 : Int) (x3 : Int) (x4 : Int) (x5 : Int) (h : Hp) : BX1_farness_56 n (f + 1) x0 x1 x2 x3 x4 x5 h =
  goAt false (kct (KBX1_farness_56 n (BX1_farness_56 n f))) (fun _ _ => none) (fsX1_farness_56 n _) sdX1_farness_56 1000 56 [(0, 5, x0), (1, 0, x1), (2, 0, x2), (3, 0, x3), (4, 0, x4), (5, 0, x5)] [] h := rfl
def KJX1_farness_97 (_ : Nat) : CT (Int × Hp) := []
set_option maxRecDepth 100000 in
theorem eJX1_farness_97 (n : Nat) (x0 : Int) (x3 : Int) (x4 : Int) (h : Hp) : JX1_farness_97 n x0 x3 x4 h =
  goAt false (kct (KJX1_farness_97 n)) (fun v h => some ((v, h))) (fsX1_farness n _) sdX1_farness 1000 97 [(0, 5, x0), (3, 0, x3), (4, 0, x4)] [] h := rfl
def KMX1_farness (n : Nat) : CT (Int × Hp) := [(56, [(0, 5, none), (1, 0, none), (2, 0, none), (3, 0, none), (4, 0, none), (5, 0, none)], [], fun a c h => match a, c with
    | [x0, x1, x2, x3, x4, x5], [] => LX1_farness_56 n x0 x1 x2 x3 x4 x5 h
    | _, _ => none)]
set_option maxRecDepth 100000 in
theorem eMX1_farness (n : Nat) (x0 : Int) (x1 : Int) (x2 : Int) (h : Hp) : MX1_farness n x0 x1 x2 h =
  goAt false (kct (KMX1_farness n)) (fun v h => some ((v, h))) (fsX1_farness n _) sdX1_farness 1000 0 [(0, 5, x0), (1, 0, x1), (2, 0, x2)] [] h := rfl
theorem okX1_farness : mokb (mi 129) = true := by decide +kernel
theorem rkX1_farness : rkOK 1 (mi 129).1.2.2.2.2.2.2.1 (mi 129).1.2.2.2.1 := Or.inr (Or.inl ⟨rfl, rfl, rfl⟩)
def calX1_farness : List Nat := [128]
theorem foX1_farness {l : Launch} {ρ : Type} (n : Nat) : fsOK l false mi calX1_farness (fsX1_farness n ρ) := ⟨sndX1_brake, trivial⟩
theorem ok_sdX1_farness : sdb (mi 129).1.2.1 (insOK mi (mi 129).1.1.cls (mi 129).1.2.2.1 (mi 129).1.2.2.2.2.1 (mi 129).1.2.2.2.2.2.1 calX1_farness false 1) sdX1_farness = true := by decide +kernel
def calX1_farness_56 : List Nat := [128]
theorem foX1_farness_56 {l : Launch} {ρ : Type} (n : Nat) : fsOK l false mi calX1_farness_56 (fsX1_farness_56 n ρ) := ⟨sndX1_brake, trivial⟩
theorem frX1_farness_56 {ρ : Type} (n : Nat) : ∀ fn ∈ fsX1_farness_56 n ρ, RoF fn := (List.forall_mem_cons.mpr ⟨roX1_brake, (fun q9 h9 => by cases h9)⟩)
theorem ok_sdX1_farness_56 : sdb (mi 129).1.2.1 (insOK mi (mi 129).1.1.cls (mi 129).1.2.2.1 (mi 129).1.2.2.2.2.1 (mi 129).1.2.2.2.2.2.1 calX1_farness_56 false 1) sdX1_farness_56 = true := by decide +kernel
def GX1_farness_56 (l : Launch) (h0 : Hp) (h' : Hp) (v : Int) (h : Hp) : (Int × Int × Int) → Prop
  | (e0, e3, e4) => PAt l false (mi 129).1 h0 v h' 97 [(0, 5, e0), (3, 0, e3), (4, 0, e4)] [] h
theorem sJX1_farness_72 {l : Launch} {h0 h' : Hp} {v : Int} (h8 : nOf h0 = 148) (n : Nat) (bk : Int → Int → Int → Int → Int → Int → Hp → Option (Int × Int × Int)) {h : Hp} (hbk : ∀ (x0 : Int) (x1 : Int) (x2 : Int) (x3 : Int) (x4 : Int) (x5 : Int) (r : Int × Int × Int), bk x0 x1 x2 x3 x4 x5 h = some r → GX1_farness_56 l h0 h' v h r → PAt l false (mi 129).1 h0 v h' 56 [(0, 5, x0), (1, 0, x1), (2, 0, x2), (3, 0, x3), (4, 0, x4), (5, 0, x5)] [] h) (x0 : Int) (x1 : Int) (x2 : Int) (x3 : Int) (x4 : Int) (x5 : Int) (_ : Hp) {r : Int × Int × Int} (H : JX1_farness_72 n bk x0 x1 x2 x3 x4 x5 h = some r) (hG : GX1_farness_56 l h0 h' v h r) : PAt l false (mi 129).1 h0 v h' 72 [(0, 5, x0), (1, 0, x1), (2, 0, x2), (3, 0, x3), (4, 0, x4), (5, 0, x5)] [] h :=
  pat_ro ok_sdX1_farness_56 rfl rkX1_farness h8 (foX1_farness_56 n) (frX1_farness_56 n) (fun v1 q => by cases q) (List.forall_mem_cons.mpr ⟨(fun a c H => by
      dsimp only at H
      split at H
      · exact hbk _ _ _ _ _ _ _ H hG
      · cases H), (List.forall_mem_cons.mpr ⟨(fun a c H => by
      dsimp only at H
      split at H
      · cases H
        exact hG
      · cases H), (fun q9 h9 => by cases h9)⟩)⟩) ((eJX1_farness_72 n bk x0 x1 x2 x3 x4 x5 h).symm.trans H)
theorem sBX1_farness_56 {l : Launch} {h0 h' : Hp} {v : Int} (h8 : nOf h0 = 148) (n : Nat) (h : Hp) : ∀ (f : Nat) (x0 : Int) (x1 : Int) (x2 : Int) (x3 : Int) (x4 : Int) (x5 : Int) {r : Int × Int × Int}, BX1_farness_56 n f x0 x1 x2 x3 x4 x5 h = some r → GX1_farness_56 l h0 h' v h r → PAt l false (mi 129).1 h0 v h' 56 [(0, 5, x0), (1, 0, x1), (2, 0, x2), (3, 0, x3), (4, 0, x4), (5, 0, x5)] [] h := by
  intro f
  induction f with
  | zero =>
    intro x0 x1 x2 x3 x4 x5 r H _
    have H2 : (none : Option (Int × Int × Int)) = some r := H
    cases H2
  | succ f ih =>
    intro x0 x1 x2 x3 x4 x5 r H hG
    have ihk : ∀ (x0 : Int) (x1 : Int) (x2 : Int) (x3 : Int) (x4 : Int) (x5 : Int) (r : Int × Int × Int), BX1_farness_56 n f x0 x1 x2 x3 x4 x5 h = some r → GX1_farness_56 l h0 h' v h r → PAt l false (mi 129).1 h0 v h' 56 [(0, 5, x0), (1, 0, x1), (2, 0, x2), (3, 0, x3), (4, 0, x4), (5, 0, x5)] [] h := fun x0 x1 x2 x3 x4 x5 r9 a9 b9 => ih x0 x1 x2 x3 x4 x5 a9 b9
    exact pat_ro ok_sdX1_farness_56 rfl rkX1_farness h8 (foX1_farness_56 n) (frX1_farness_56 n) (fun v1 q => by cases q) (List.forall_mem_cons.mpr ⟨(fun a c H => by
      dsimp only at H
      split at H
      · exact ih _ _ _ _ _ _ H hG
      · cases H), (List.forall_mem_cons.mpr ⟨(fun a c H => by
      dsimp only at H
      split at H
      · cases H
        exact hG
      · cases H), (List.forall_mem_cons.mpr ⟨(fun a c H => by
      dsimp only at H
      split at H
      · exact sJX1_farness_72 h8 n (BX1_farness_56 n f) ihk _ _ _ _ _ _ _ H hG
      · cases H), (fun q9 h9 => by cases h9)⟩)⟩)⟩) ((eBX1_farness_56 n f x0 x1 x2 x3 x4 x5 h).symm.trans H)
theorem sJX1_farness_97 {l : Launch} {h0 h' : Hp} {v : Int} (h8 : nOf h0 = 148) (n : Nat) (x0 : Int) (x3 : Int) (x4 : Int) (h : Hp) {r : Int × Hp} (H : JX1_farness_97 n x0 x3 x4 h = some r) (hG : gWV v h' r) : PAt l false (mi 129).1 h0 v h' 97 [(0, 5, x0), (3, 0, x3), (4, 0, x4)] [] h :=
  pat_w ok_sdX1_farness rkX1_farness h8 (foX1_farness n) (fun v1 h1 q => by
    cases q
    exact ⟨hG.1, fun _ => hG.2⟩) (fun q9 h9 => by cases h9) ((eJX1_farness_97 n x0 x3 x4 h).symm.trans H)
theorem sLX1_farness_56 {l : Launch} {h0 h' : Hp} {v : Int} (h8 : nOf h0 = 148) (n : Nat) (x0 : Int) (x1 : Int) (x2 : Int) (x3 : Int) (x4 : Int) (x5 : Int) (h : Hp) {r : Int × Hp} (H : LX1_farness_56 n x0 x1 x2 x3 x4 x5 h = some r) (hG : gWV v h' r) : PAt l false (mi 129).1 h0 v h' 56 [(0, 5, x0), (1, 0, x1), (2, 0, x2), (3, 0, x3), (4, 0, x4), (5, 0, x5)] [] h := by
  obtain ⟨e9, h2, h3⟩ := bndx_some H
  obtain ⟨e0, e3, e4⟩ := e9
  exact sBX1_farness_56 h8 n h n x0 x1 x2 x3 x4 x5 h2 (sJX1_farness_97 h8 n e0 e3 e4 h h3 hG)
theorem sMX1_farness {l : Launch} {h0 h' : Hp} {v : Int} (h8 : nOf h0 = 148) (n : Nat) (x0 : Int) (x1 : Int) (x2 : Int) (h : Hp) {r : Int × Hp} (H : MX1_farness n x0 x1 x2 h = some r) (hG : gWV v h' r) : PAt l false (mi 129).1 h0 v h' 0 [(0, 5, x0), (1, 0, x1), (2, 0, x2)] [] h :=
  pat_w ok_sdX1_farness rkX1_farness h8 (foX1_farness n) (fun v1 h1 q => by
    cases q
    exact ⟨hG.1, fun _ => hG.2⟩) (List.forall_mem_cons.mpr ⟨(fun a c h H => by
      dsimp only at H
      split at H
      · exact sLX1_farness_56 h8 n _ _ _ _ _ _ _ H hG
      · cases H), (fun q9 h9 => by cases h9)⟩) ((eMX1_farness n x0 x1 x2 h).symm.trans H)
theorem sndX1_farness {ρ : Type} {l : Launch} (n : Nat) : SndF (ρ := ρ) l false (mi 129).1 (wX1_farness n) := by
    intro a h k r H ha ho hn hf
    have h8 := hf rfl
    obtain ⟨x0, x1, x2, rfl⟩ := len3 (show a.length = 3 from ha)
    replace H : bnd (MX1_farness n x0 x1 x2 h) (fun r h2 => k r h2) = some r := H
    obtain ⟨v2, h2, H1, H2⟩ := bnd_some H
    exact ⟨v2, h2, H2, met_mk (mok_base okX1_farness).1 (by decide +kernel) (Nat.le_of_ble_eq_true rfl) ho (sMX1_farness h8 n x0 x1 x2 h H1 ⟨rfl, rfl⟩), fun q => by cases q⟩
/-! X1_brakesBear -/
def sdX1_brakesBear : SD := [(0, [(0, .iconst 0, 1, [], 0), (1, .istore 5, 2, [], 0)]),
  (3, [(3, .iload 5, 2, [], 0), (5, .sipush 1000, 3, [], 0), (8, .if_icmp .ge 62, 3, [], 0)]),
  (11, [(11, .iload_n 2, 1, [], 0), (12, .ifCond .ne 9, 3, [], 0)]),
  (15, [(15, .iload_n 3, 1, [], 0), (16, .ifCond .ne 5, 3, [], 0)]),
  (19, [(19, .iconst 1, 1, [], 0), (20, .ireturn, 1, [1], 0)]),
  (21, [(21, .iload_n 3, 1, [], 0), (22, .aload_n 0, 1, [], 0), (23, .iload_n 2, 1, [], 0), (24, .iload_n 3, 1, [], 0), (25, .invokevirtual 87, 3, [1, 0, 1, 128, 1049, 0, 0, 5], 0), (28, .iadd, 1, [], 0), (29, .istore_n 3, 1, [], 0), (30, .iload_n 2, 1, [], 0), (31, .iload_n 3, 1, [], 0), (32, .iadd, 1, [], 0), (33, .istore_n 2, 1, [], 0), (34, .iload_n 1, 1, [], 0), (35, .iload_n 2, 1, [], 0), (36, .aload_n 0, 1, [], 0), (37, .getfield 24, 3, [1, 0, 8, 1, 464, 0], 2), (40, .getfield 91, 3, [4, 1, 0, 0, 433, 0], 0), (43, .imul, 1, [], 0), (44, .iadd, 1, [], 0), (45, .istore_n 1, 1, [], 0), (46, .aload_n 0, 1, [], 0), (47, .iload 4, 2, [], 0), (49, .iload_n 1, 1, [], 0), (50, .iload_n 2, 1, [], 0), (51, .invokevirtual 104, 3, [1, 1, 1, 127, 1036, 0, 0, 0, 5], 0), (54, .istore 4, 2, [], 0), (56, .iload 4, 2, [], 0), (58, .iconst (-1), 1, [], 0), (59, .if_icmp .ne 5, 3, [], 0)]),
  (62, [(62, .iconst 0, 1, [], 0), (63, .ireturn, 1, [1], 0)]),
  (64, [(64, .iinc 5 1, 3, [], 0), (67, .goto (-64), 3, [], 0)]),
  (70, [(70, .iconst 0, 1, [], 0), (71, .ireturn, 1, [1], 0)])]
def JX1_brakesBear_21 (n : Nat) (bk : Int → Int → Int → Int → Int → Int → Hp → Option (Int)) (x0 x1 x2 x3 x4 x5 : Int) (h : Hp) : Option (Int) :=
(bndp (MX1_brake x0 x2 x3 h) fun r1 =>
(ltt (w32 (x3 + r1)) fun y1 =>
(ltt (w32 (x2 + y1)) fun y2 =>
(ltt (w32 (x1 + (w32 (y2 * (h (x0 + 2) 1))))) fun y3 =>
(bndp (MX1_reached n x0 x4 y3 y2 h) fun r2 =>
(ltt r2 fun y4 =>
(if y4 ≠ (-1) then
(ltt (w32 (x5 + 1)) fun y5 =>
(bk x0 y3 y2 y1 y4 y5 h))
else
(some 0))))))))
def BX1_brakesBear_3 (n : Nat) : Nat → Int → Int → Int → Int → Int → Int → Hp → Option (Int)
  | 0, _, _, _, _, _, _, _ => none
  | f + 1, x0, x1, x2, x3, x4, x5, h =>
    (if 1000 ≤ x5 then
    (some 0)
    else
    (if x2 ≠ 0 then
    (JX1_brakesBear_21 n (BX1_brakesBear_3 n f) x0 x1 x2 x3 x4 x5 h)
    else
    (if x3 ≠ 0 then
    (JX1_brakesBear_21 n (BX1_brakesBear_3 n f) x0 x1 x2 x3 x4 x5 h)
    else
    (some 1))))
def LX1_brakesBear_3 (n : Nat) (x0 x1 x2 x3 x4 x5 : Int) (h : Hp) : Option (Int) :=
(BX1_brakesBear_3 n n x0 x1 x2 x3 x4 x5 h)
def MX1_brakesBear (n : Nat) (x0 x1 x2 x3 x4 : Int) (h : Hp) : Option (Int) :=
(ltt 0 fun y1 =>
(LX1_brakesBear_3 n x0 x1 x2 x3 x4 y1 h))
def wX1_brakesBear {ρ : Type} (n : Nat) : FN ρ := fun a h k => match a with
  | [x0, x1, x2, x3, x4] => bndp (MX1_brakesBear n x0 x1 x2 x3 x4 h) (fun r => k r h)
  | _ => none
def fsX1_brakesBear (n : Nat) (ρ : Type) : List (FN ρ) := [wX1_brake, wX1_reached n]
def KJX1_brakesBear_21 (_ : Nat) (bk : Int → Int → Int → Int → Int → Int → Hp → Option (Int)) : CT (Int) := [(3, [(0, 5, none), (1, 0, none), (2, 0, none), (3, 0, none), (4, 0, none), (5, 0, none)], [], fun a c h => match a, c with
    | [x0, x1, x2, x3, x4, x5], [] => bk x0 x1 x2 x3 x4 x5 h
    | _, _ => none)]
set_option maxRecDepth 100000 in
theorem eJX1_brakesBear_21 (n : Nat) (bk : Int → Int → Int → Int → Int → Int → Hp → Option (Int)) (x0 : Int) (x1 : Int) (x2 : Int) (x3 : Int) (x4 : Int) (x5 : Int) (h : Hp) : JX1_brakesBear_21 n bk x0 x1 x2 x3 x4 x5 h =
  goAt false (kct (KJX1_brakesBear_21 n bk)) (fun v _ => some (v)) (fsX1_brakesBear n _) sdX1_brakesBear 1000 21 [(0, 5, x0), (1, 0, x1), (2, 0, x2), (3, 0, x3), (4, 0, x4), (5, 0, x5)] [] h := rfl
def KBX1_brakesBear_3 (n : Nat) (bk : Int → Int → Int → Int → Int → Int → Hp → Option (Int)) : CT (Int) := [(3, [(0, 5, none), (1, 0, none), (2, 0, none), (3, 0, none), (4, 0, none), (5, 0, none)], [], fun a c h => match a, c with
    | [x0, x1, x2, x3, x4, x5], [] => bk x0 x1 x2 x3 x4 x5 h
    | _, _ => none),
  (21, [(0, 5, none), (1, 0, none), (2, 0, none), (3, 0, none), (4, 0, none), (5, 0, none)], [], fun a c h => match a, c with
    | [x0, x1, x2, x3, x4, x5], [] => JX1_brakesBear_21 n bk x0 x1 x2 x3 x4 x5 h
    | _, _ => none)]
set_option maxRecDepth 100000 in
theorem eBX1_brakesBear_3 (n f : Nat) (x0 : Int) (x1 : Int) (x2 : Int) (x3 : Int) (x4 : Int) (x5 : Int) (h : Hp) : BX1_brakesBear_3 n (f + 1) x0 x1 x2 x3 x4 x5 h =
  goAt false (kct (KBX1_brakesBear_3 n (BX1_brakesBear_3 n f))) (fun v _ => some (v)) (fsX1_brakesBear n _) sdX1_brakesBear 1000 3 [(0, 5, x0), (1, 0, x1), (2, 0, x2), (3, 0, x3), (4, 0, x4), (5, 0, x5)] [] h := rfl
def KMX1_brakesBear (n : Nat) : CT (Int) := [(3, [(0, 5, none), (1, 0, none), (2, 0, none), (3, 0, none), (4, 0, none), (5, 0, none)], [], fun a c h => match a, c with
    | [x0, x1, x2, x3, x4, x5], [] => LX1_brakesBear_3 n x0 x1 x2 x3 x4 x5 h
    | _, _ => none)]
set_option maxRecDepth 100000 in
theorem eMX1_brakesBear (n : Nat) (x0 : Int) (x1 : Int) (x2 : Int) (x3 : Int) (x4 : Int) (h : Hp) : MX1_brakesBear n x0 x1 x2 x3 x4 h =
  goAt false (kct (KMX1_brakesBear n)) (fun v _ => some (v)) (fsX1_brakesBear n _) sdX1_brakesBear 1000 0 [(0, 5, x0), (1, 0, x1), (2, 0, x2), (3, 0, x3), (4, 0, x4)] [] h := rfl
theorem okX1_brakesBear : mokb (mi 130) = true := by decide +kernel
theorem rkX1_brakesBear : rkOK 4 (mi 130).1.2.2.2.2.2.2.1 (mi 130).1.2.2.2.1 := Or.inr (Or.inr (Or.inl ⟨rfl, rfl, rfl⟩))
def calX1_brakesBear : List Nat := [128, 127]
theorem foX1_brakesBear {l : Launch} {ρ : Type} (n : Nat) : fsOK l false mi calX1_brakesBear (fsX1_brakesBear n ρ) := ⟨sndX1_brake, ⟨(sndX1_reached n), trivial⟩⟩
theorem frX1_brakesBear {ρ : Type} (n : Nat) : ∀ fn ∈ fsX1_brakesBear n ρ, RoF fn := (List.forall_mem_cons.mpr ⟨roX1_brake, (List.forall_mem_cons.mpr ⟨(roX1_reached n), (fun q9 h9 => by cases h9)⟩)⟩)
theorem ok_sdX1_brakesBear : sdb (mi 130).1.2.1 (insOK mi (mi 130).1.1.cls (mi 130).1.2.2.1 (mi 130).1.2.2.2.2.1 (mi 130).1.2.2.2.2.2.1 calX1_brakesBear false 4) sdX1_brakesBear = true := by decide +kernel
theorem sJX1_brakesBear_21 {l : Launch} {h0 : Hp} {v : Int} (h8 : nOf h0 = 148) (n : Nat) (bk : Int → Int → Int → Int → Int → Int → Hp → Option (Int)) {h : Hp} (hbk : ∀ (x0 : Int) (x1 : Int) (x2 : Int) (x3 : Int) (x4 : Int) (x5 : Int) (r : Int), bk x0 x1 x2 x3 x4 x5 h = some r → gV v r → PAt l false (mi 130).1 h0 v h 3 [(0, 5, x0), (1, 0, x1), (2, 0, x2), (3, 0, x3), (4, 0, x4), (5, 0, x5)] [] h) (x0 : Int) (x1 : Int) (x2 : Int) (x3 : Int) (x4 : Int) (x5 : Int) (_ : Hp) {r : Int} (H : JX1_brakesBear_21 n bk x0 x1 x2 x3 x4 x5 h = some r) (hG : gV v r) : PAt l false (mi 130).1 h0 v h 21 [(0, 5, x0), (1, 0, x1), (2, 0, x2), (3, 0, x3), (4, 0, x4), (5, 0, x5)] [] h :=
  pat_ro ok_sdX1_brakesBear rfl rkX1_brakesBear h8 (foX1_brakesBear n) (frX1_brakesBear n) (fun v1 q => by
    cases q
    exact ⟨rfl, fun _ => hG⟩) (List.forall_mem_cons.mpr ⟨(fun a c H => by
      dsimp only at H
      split at H
      · exact hbk _ _ _ _ _ _ _ H hG
      · cases H), (fun q9 h9 => by cases h9)⟩) ((eJX1_brakesBear_21 n bk x0 x1 x2 x3 x4 x5 h).symm.trans H)
theorem sBX1_brakesBear_3 {l : Launch} {h0 : Hp} {v : Int} (h8 : nOf h0 = 148) (n : Nat) (h : Hp) : ∀ (f : Nat) (x0 : Int) (x1 : Int) (x2 : Int) (x3 : Int) (x4 : Int) (x5 : Int) {r : Int}, BX1_brakesBear_3 n f x0 x1 x2 x3 x4 x5 h = some r → gV v r → PAt l false (mi 130).1 h0 v h 3 [(0, 5, x0), (1, 0, x1), (2, 0, x2), (3, 0, x3), (4, 0, x4), (5, 0, x5)] [] h := by
  intro f
  induction f with
  | zero =>
    intro x0 x1 x2 x3 x4 x5 r H _
    have H2 : (none : Option (Int)) = some r := H
    cases H2
  | succ f ih =>
    intro x0 x1 x2 x3 x4 x5 r H hG
    have ihk : ∀ (x0 : Int) (x1 : Int) (x2 : Int) (x3 : Int) (x4 : Int) (x5 : Int) (r : Int), BX1_brakesBear_3 n f x0 x1 x2 x3 x4 x5 h = some r → gV v r → PAt l false (mi 130).1 h0 v h 3 [(0, 5, x0), (1, 0, x1), (2, 0, x2), (3, 0, x3), (4, 0, x4), (5, 0, x5)] [] h := fun x0 x1 x2 x3 x4 x5 r9 a9 b9 => ih x0 x1 x2 x3 x4 x5 a9 b9
    exact pat_ro ok_sdX1_brakesBear rfl rkX1_brakesBear h8 (foX1_brakesBear n) (frX1_brakesBear n) (fun v1 q => by
    cases q
    exact ⟨rfl, fun _ => hG⟩) (List.forall_mem_cons.mpr ⟨(fun a c H => by
      dsimp only at H
      split at H
      · exact ih _ _ _ _ _ _ H hG
      · cases H), (List.forall_mem_cons.mpr ⟨(fun a c H => by
      dsimp only at H
      split at H
      · exact sJX1_brakesBear_21 h8 n (BX1_brakesBear_3 n f) ihk _ _ _ _ _ _ _ H hG
      · cases H), (fun q9 h9 => by cases h9)⟩)⟩) ((eBX1_brakesBear_3 n f x0 x1 x2 x3 x4 x5 h).symm.trans H)
theorem sLX1_brakesBear_3 {l : Launch} {h0 : Hp} {v : Int} (h8 : nOf h0 = 148) (n : Nat) (x0 : Int) (x1 : Int) (x2 : Int) (x3 : Int) (x4 : Int) (x5 : Int) (h : Hp) {r : Int} (H : LX1_brakesBear_3 n x0 x1 x2 x3 x4 x5 h = some r) (hG : gV v r) : PAt l false (mi 130).1 h0 v h 3 [(0, 5, x0), (1, 0, x1), (2, 0, x2), (3, 0, x3), (4, 0, x4), (5, 0, x5)] [] h :=
  sBX1_brakesBear_3 h8 n h n x0 x1 x2 x3 x4 x5 H hG
theorem sMX1_brakesBear {l : Launch} {h0 : Hp} {v : Int} (h8 : nOf h0 = 148) (n : Nat) (x0 : Int) (x1 : Int) (x2 : Int) (x3 : Int) (x4 : Int) (h : Hp) {r : Int} (H : MX1_brakesBear n x0 x1 x2 x3 x4 h = some r) (hG : gV v r) : PAt l false (mi 130).1 h0 v h 0 [(0, 5, x0), (1, 0, x1), (2, 0, x2), (3, 0, x3), (4, 0, x4)] [] h :=
  pat_ro ok_sdX1_brakesBear rfl rkX1_brakesBear h8 (foX1_brakesBear n) (frX1_brakesBear n) (fun v1 q => by
    cases q
    exact ⟨rfl, fun _ => hG⟩) (List.forall_mem_cons.mpr ⟨(fun a c H => by
      dsimp only at H
      split at H
      · exact sLX1_brakesBear_3 h8 n _ _ _ _ _ _ _ H hG
      · cases H), (fun q9 h9 => by cases h9)⟩) ((eMX1_brakesBear n x0 x1 x2 x3 x4 h).symm.trans H)
theorem sndX1_brakesBear {ρ : Type} {l : Launch} (n : Nat) : SndF (ρ := ρ) l false (mi 130).1 (wX1_brakesBear n) := by
    intro a h k r H ha ho hn hf
    have h8 := hf rfl
    obtain ⟨x0, x1, x2, x3, x4, rfl⟩ := len5 (show a.length = 5 from ha)
    replace H : bndp (MX1_brakesBear n x0 x1 x2 x3 x4 h) (fun r => k r h) = some r := H
    obtain ⟨v2, H1, H2⟩ := bndp_some H
    exact ⟨v2, h, H2, met_mk (mok_base okX1_brakesBear).1 (by decide +kernel) (Nat.le_of_ble_eq_true rfl) ho (sMX1_brakesBear h8 n x0 x1 x2 x3 x4 h H1 rfl), fun q => by cases q⟩
theorem roX1_brakesBear {ρ : Type} (n : Nat) : RoF (wX1_brakesBear n : FN ρ) := fun a h k k2 hk => by
  unfold wX1_brakesBear
  split
  · exact bndp_ro hk
  · rfl
/-! X1_isSafe -/
def sdX1_isSafe : SD := [(0, [(0, .iload_n 1, 1, [], 0), (1, .aload_n 0, 1, [], 0), (2, .iload_n 2, 1, [], 0), (3, .iload_n 3, 1, [], 0), (4, .invokevirtual 115, 3, [1, 0, 1, 129, 1045, 0, 0, 5], 0), (7, .aload_n 0, 1, [], 0), (8, .getfield 24, 3, [1, 0, 8, 1, 464, 0], 2), (11, .getfield 91, 3, [4, 1, 0, 0, 433, 0], 0), (14, .imul, 1, [], 0), (15, .iadd, 1, [], 0), (16, .istore 5, 2, [], 0), (18, .iload 5, 2, [], 0), (20, .aload_n 0, 1, [], 0), (21, .getfield 24, 3, [1, 0, 8, 1, 464, 0], 2), (24, .getfield 48, 3, [4, 0, 14, 0, 431, 0], 0), (27, .getfield 52, 3, [10, 14, 0, 0, 214, 0], 0), (30, .if_icmp .le 5, 3, [], 0)]),
  (33, [(33, .iconst 0, 1, [], 0), (34, .ireturn, 1, [1], 0)]),
  (35, [(35, .iload_n 2, 1, [], 0), (36, .iload_n 3, 1, [], 0), (37, .ifCond .le 13, 3, [], 0)]),
  (40, [(40, .iload_n 3, 1, [], 0), (41, .iload_n 3, 1, [], 0), (42, .iconst 1, 1, [], 0), (43, .isub, 1, [], 0), (44, .imul, 1, [], 0), (45, .iconst 2, 1, [], 0), (46, .idiv, 1, [], 0), (47, .goto 4, 3, [], 0)]),
  (50, [(50, .iconst 0, 1, [], 0)]),
  (51, [(51, .iadd, 1, [], 0), (52, .istore 6, 2, [], 0), (54, .aload_n 0, 1, [], 0), (55, .getfield 24, 3, [1, 0, 8, 1, 464, 0], 2), (58, .getfield 48, 3, [4, 0, 14, 0, 431, 0], 0), (61, .iload 4, 2, [], 0), (63, .invokevirtual 118, 3, [1, 1, 1, 119, 1053, 0, 14], 0), (66, .ifCond .eq 21, 3, [], 0)]),
  (69, [(69, .iload 5, 2, [], 0), (71, .aload_n 0, 1, [], 0), (72, .getfield 24, 3, [1, 0, 8, 1, 464, 0], 2), (75, .getfield 48, 3, [4, 0, 14, 0, 431, 0], 0), (78, .getfield 97, 3, [10, 3, 532, 1, 177, 0], 7), (81, .iload 4, 2, [], 0), (83, .iaload, 1, [], 0), (84, .if_icmp .ge 7, 3, [], 0)]),
  (87, [(87, .iconst 1, 1, [], 0), (88, .goto 4, 3, [], 0)]),
  (91, [(91, .iconst 0, 1, [], 0)]),
  (92, [(92, .istore 7, 2, [], 0), (94, .iload 7, 2, [], 0), (96, .ifCond .eq 24, 3, [], 0)]),
  (99, [(99, .iload 6, 2, [], 0), (101, .aload_n 0, 1, [], 0), (102, .getfield 24, 3, [1, 0, 8, 1, 464, 0], 2), (105, .getfield 66, 3, [4, 4, 532, 1, 439, 0], 1), (108, .iload 4, 2, [], 0), (110, .iaload, 1, [], 0), (111, .if_icmp .gt 7, 3, [], 0)]),
  (114, [(114, .iconst 1, 1, [], 0), (115, .goto 4, 3, [], 0)]),
  (118, [(118, .iconst 0, 1, [], 0)]),
  (119, [(119, .ireturn, 1, [1], 0)]),
  (120, [(120, .aload_n 0, 1, [], 0), (121, .iload_n 1, 1, [], 0), (122, .iload_n 2, 1, [], 0), (123, .iload_n 3, 1, [], 0), (124, .iload 4, 2, [], 0), (126, .invokevirtual 121, 3, [1, 2, 1, 130, 1054, 0, 0, 0, 0, 5], 0), (129, .ireturn, 1, [1], 0)])]
def JX1_isSafe_92 (n : Nat) (x0 x1 x2 x3 x4 x6 z0 : Int) (h : Hp) : Option (Int × Hp) :=
(ltt z0 fun y1 =>
(if y1 = 0 then
(bndp (MX1_brakesBear n x0 x1 x2 x3 x4 h) fun r1 =>
(grd (r1 = 0 ∨ r1 = 1)
(some (r1, h))))
else
(grd (0 ≤ x4 ∧ x4 < alen 532)
(if (h ((x0 + 2) + 1) x4) < x6 then
(some (0, h))
else
(some (1, h))))))
def JX1_isSafe_87 (n : Nat) (x0 x1 x2 x3 x4 x6 : Int) (h : Hp) : Option (Int × Hp) :=
(JX1_isSafe_92 n x0 x1 x2 x3 x4 x6 1 h)
def JX1_isSafe_51 (n : Nat) (x0 x1 x2 x3 x4 x5 z0 z1 : Int) (h : Hp) : Option (Int × Hp) :=
(ltt (w32 (z0 + z1)) fun y1 =>
(bndp (MX10_hasCorner (h (x0 + 2) 0) x4 h) fun r1 =>
(if r1 = 0 then
(JX1_isSafe_87 n x0 x1 x2 x3 x4 y1 h)
else
(grd (0 ≤ x4 ∧ x4 < alen 532)
(if (h ((h (x0 + 2) 0) + 7) x4) ≤ x5 then
(JX1_isSafe_92 n x0 x1 x2 x3 x4 y1 0 h)
else
(JX1_isSafe_87 n x0 x1 x2 x3 x4 y1 h))))))
def MX1_isSafe (n : Nat) (x0 x1 x2 x3 x4 : Int) (h : Hp) : Option (Int × Hp) :=
(bnd (MX1_farness n x0 x2 x3 h) fun r1 h1 =>
(ltt (w32 (x1 + (w32 (r1 * (h1 (x0 + 2) 1))))) fun y1 =>
(if y1 ≤ (h1 (h1 (x0 + 2) 0) 14) then
(if x3 ≤ 0 then
(JX1_isSafe_51 n x0 x1 x2 x3 x4 y1 x2 0 h1)
else
(grd (¬ 2 = 0)
(JX1_isSafe_51 n x0 x1 x2 x3 x4 y1 x2 (w32 (Int.tdiv (w32 (x3 * (w32 (x3 - 1)))) 2)) h1)))
else
(some (0, h1)))))
def wX1_isSafe {ρ : Type} (n : Nat) : FN ρ := fun a h k => match a with
  | [x0, x1, x2, x3, x4] => bnd (MX1_isSafe n x0 x1 x2 x3 x4 h) (fun r h2 => k r h2)
  | _ => none
def fsX1_isSafe (n : Nat) (ρ : Type) : List (FN ρ) := [wX1_farness n, wX10_hasCorner, wX1_brakesBear n]
def KJX1_isSafe_92 (_ : Nat) : CT (Int × Hp) := []
set_option maxRecDepth 100000 in
theorem eJX1_isSafe_92 (n : Nat) (x0 : Int) (x1 : Int) (x2 : Int) (x3 : Int) (x4 : Int) (x6 : Int) (z0 : Int) (h : Hp) : JX1_isSafe_92 n x0 x1 x2 x3 x4 x6 z0 h =
  goAt false (kct (KJX1_isSafe_92 n)) (fun v h => some ((v, h))) (fsX1_isSafe n _) sdX1_isSafe 1000 92 [(0, 5, x0), (1, 0, x1), (2, 0, x2), (3, 0, x3), (4, 0, x4), (6, 0, x6)] [(0, z0)] h := rfl
def KJX1_isSafe_87 (n : Nat) : CT (Int × Hp) := [(92, [(0, 5, none), (1, 0, none), (2, 0, none), (3, 0, none), (4, 0, none), (6, 0, none)], [(0, none)], fun a c h => match a, c with
    | [x0, x1, x2, x3, x4, x6], [z0] => JX1_isSafe_92 n x0 x1 x2 x3 x4 x6 z0 h
    | _, _ => none)]
set_option maxRecDepth 100000 in
theorem eJX1_isSafe_87 (n : Nat) (x0 : Int) (x1 : Int) (x2 : Int) (x3 : Int) (x4 : Int) (x6 : Int) (h : Hp) : JX1_isSafe_87 n x0 x1 x2 x3 x4 x6 h =
  goAt false (kct (KJX1_isSafe_87 n)) (fun v h => some ((v, h))) (fsX1_isSafe n _) sdX1_isSafe 1000 87 [(0, 5, x0), (1, 0, x1), (2, 0, x2), (3, 0, x3), (4, 0, x4), (6, 0, x6)] [] h := rfl
def KJX1_isSafe_51 (n : Nat) : CT (Int × Hp) := [(92, [(0, 5, none), (1, 0, none), (2, 0, none), (3, 0, none), (4, 0, none), (6, 0, none)], [(0, none)], fun a c h => match a, c with
    | [x0, x1, x2, x3, x4, x6], [z0] => JX1_isSafe_92 n x0 x1 x2 x3 x4 x6 z0 h
    | _, _ => none),
  (87, [(0, 5, none), (1, 0, none), (2, 0, none), (3, 0, none), (4, 0, none), (6, 0, none)], [], fun a c h => match a, c with
    | [x0, x1, x2, x3, x4, x6], [] => JX1_isSafe_87 n x0 x1 x2 x3 x4 x6 h
    | _, _ => none)]
set_option maxRecDepth 100000 in
theorem eJX1_isSafe_51 (n : Nat) (x0 : Int) (x1 : Int) (x2 : Int) (x3 : Int) (x4 : Int) (x5 : Int) (z0 : Int) (z1 : Int) (h : Hp) : JX1_isSafe_51 n x0 x1 x2 x3 x4 x5 z0 z1 h =
  goAt false (kct (KJX1_isSafe_51 n)) (fun v h => some ((v, h))) (fsX1_isSafe n _) sdX1_isSafe 1000 51 [(0, 5, x0), (1, 0, x1), (2, 0, x2), (3, 0, x3), (4, 0, x4), (5, 0, x5)] [(0, z1), (0, z0)] h := rfl
def KMX1_isSafe (n : Nat) : CT (Int × Hp) := [(51, [(0, 5, none), (1, 0, none), (2, 0, none), (3, 0, none), (4, 0, none), (5, 0, none)], [(0, none), (0, none)], fun a c h => match a, c with
    | [x0, x1, x2, x3, x4, x5], [z1, z0] => JX1_isSafe_51 n x0 x1 x2 x3 x4 x5 z0 z1 h
    | _, _ => none)]
set_option maxRecDepth 100000 in
theorem eMX1_isSafe (n : Nat) (x0 : Int) (x1 : Int) (x2 : Int) (x3 : Int) (x4 : Int) (h : Hp) : MX1_isSafe n x0 x1 x2 x3 x4 h =
  goAt false (kct (KMX1_isSafe n)) (fun v h => some ((v, h))) (fsX1_isSafe n _) sdX1_isSafe 1000 0 [(0, 5, x0), (1, 0, x1), (2, 0, x2), (3, 0, x3), (4, 0, x4)] [] h := rfl
theorem okX1_isSafe : mokb (mi 131) = true := by decide +kernel
theorem rkX1_isSafe : rkOK 4 (mi 131).1.2.2.2.2.2.2.1 (mi 131).1.2.2.2.1 := Or.inr (Or.inr (Or.inl ⟨rfl, rfl, rfl⟩))
def calX1_isSafe : List Nat := [129, 119, 130]
theorem foX1_isSafe {l : Launch} {ρ : Type} (n : Nat) : fsOK l false mi calX1_isSafe (fsX1_isSafe n ρ) := ⟨(sndX1_farness n), ⟨sndX10_hasCorner, ⟨(sndX1_brakesBear n), trivial⟩⟩⟩
theorem ok_sdX1_isSafe : sdb (mi 131).1.2.1 (insOK mi (mi 131).1.1.cls (mi 131).1.2.2.1 (mi 131).1.2.2.2.2.1 (mi 131).1.2.2.2.2.2.1 calX1_isSafe false 4) sdX1_isSafe = true := by decide +kernel
theorem sJX1_isSafe_92 {l : Launch} {h0 h' : Hp} {v : Int} (h8 : nOf h0 = 148) (n : Nat) (x0 : Int) (x1 : Int) (x2 : Int) (x3 : Int) (x4 : Int) (x6 : Int) (z0 : Int) (h : Hp) {r : Int × Hp} (H : JX1_isSafe_92 n x0 x1 x2 x3 x4 x6 z0 h = some r) (hG : gWV v h' r) : PAt l false (mi 131).1 h0 v h' 92 [(0, 5, x0), (1, 0, x1), (2, 0, x2), (3, 0, x3), (4, 0, x4), (6, 0, x6)] [(0, z0)] h :=
  pat_w ok_sdX1_isSafe rkX1_isSafe h8 (foX1_isSafe n) (fun v1 h1 q => by
    cases q
    exact ⟨hG.1, fun _ => hG.2⟩) (fun q9 h9 => by cases h9) ((eJX1_isSafe_92 n x0 x1 x2 x3 x4 x6 z0 h).symm.trans H)
theorem sJX1_isSafe_87 {l : Launch} {h0 h' : Hp} {v : Int} (h8 : nOf h0 = 148) (n : Nat) (x0 : Int) (x1 : Int) (x2 : Int) (x3 : Int) (x4 : Int) (x6 : Int) (h : Hp) {r : Int × Hp} (H : JX1_isSafe_87 n x0 x1 x2 x3 x4 x6 h = some r) (hG : gWV v h' r) : PAt l false (mi 131).1 h0 v h' 87 [(0, 5, x0), (1, 0, x1), (2, 0, x2), (3, 0, x3), (4, 0, x4), (6, 0, x6)] [] h :=
  pat_w ok_sdX1_isSafe rkX1_isSafe h8 (foX1_isSafe n) (fun v1 h1 q => by
    cases q
    exact ⟨hG.1, fun _ => hG.2⟩) (List.forall_mem_cons.mpr ⟨(fun a c h H => by
      dsimp only at H
      split at H
      · exact sJX1_isSafe_92 h8 n _ _ _ _ _ _ _ _ H hG
      · cases H), (fun q9 h9 => by cases h9)⟩) ((eJX1_isSafe_87 n x0 x1 x2 x3 x4 x6 h).symm.trans H)
theorem sJX1_isSafe_51 {l : Launch} {h0 h' : Hp} {v : Int} (h8 : nOf h0 = 148) (n : Nat) (x0 : Int) (x1 : Int) (x2 : Int) (x3 : Int) (x4 : Int) (x5 : Int) (z0 : Int) (z1 : Int) (h : Hp) {r : Int × Hp} (H : JX1_isSafe_51 n x0 x1 x2 x3 x4 x5 z0 z1 h = some r) (hG : gWV v h' r) : PAt l false (mi 131).1 h0 v h' 51 [(0, 5, x0), (1, 0, x1), (2, 0, x2), (3, 0, x3), (4, 0, x4), (5, 0, x5)] [(0, z1), (0, z0)] h :=
  pat_w ok_sdX1_isSafe rkX1_isSafe h8 (foX1_isSafe n) (fun v1 h1 q => by
    cases q
    exact ⟨hG.1, fun _ => hG.2⟩) (List.forall_mem_cons.mpr ⟨(fun a c h H => by
      dsimp only at H
      split at H
      · exact sJX1_isSafe_92 h8 n _ _ _ _ _ _ _ _ H hG
      · cases H), (List.forall_mem_cons.mpr ⟨(fun a c h H => by
      dsimp only at H
      split at H
      · exact sJX1_isSafe_87 h8 n _ _ _ _ _ _ _ H hG
      · cases H), (fun q9 h9 => by cases h9)⟩)⟩) ((eJX1_isSafe_51 n x0 x1 x2 x3 x4 x5 z0 z1 h).symm.trans H)
theorem sMX1_isSafe {l : Launch} {h0 h' : Hp} {v : Int} (h8 : nOf h0 = 148) (n : Nat) (x0 : Int) (x1 : Int) (x2 : Int) (x3 : Int) (x4 : Int) (h : Hp) {r : Int × Hp} (H : MX1_isSafe n x0 x1 x2 x3 x4 h = some r) (hG : gWV v h' r) : PAt l false (mi 131).1 h0 v h' 0 [(0, 5, x0), (1, 0, x1), (2, 0, x2), (3, 0, x3), (4, 0, x4)] [] h :=
  pat_w ok_sdX1_isSafe rkX1_isSafe h8 (foX1_isSafe n) (fun v1 h1 q => by
    cases q
    exact ⟨hG.1, fun _ => hG.2⟩) (List.forall_mem_cons.mpr ⟨(fun a c h H => by
      dsimp only at H
      split at H
      · exact sJX1_isSafe_51 h8 n _ _ _ _ _ _ _ _ _ H hG
      · cases H), (fun q9 h9 => by cases h9)⟩) ((eMX1_isSafe n x0 x1 x2 x3 x4 h).symm.trans H)
theorem sndX1_isSafe {ρ : Type} {l : Launch} (n : Nat) : SndF (ρ := ρ) l false (mi 131).1 (wX1_isSafe n) := by
    intro a h k r H ha ho hn hf
    have h8 := hf rfl
    obtain ⟨x0, x1, x2, x3, x4, rfl⟩ := len5 (show a.length = 5 from ha)
    replace H : bnd (MX1_isSafe n x0 x1 x2 x3 x4 h) (fun r h2 => k r h2) = some r := H
    obtain ⟨v2, h2, H1, H2⟩ := bnd_some H
    exact ⟨v2, h2, H2, met_mk (mok_base okX1_isSafe).1 (by decide +kernel) (Nat.le_of_ble_eq_true rfl) ho (sMX1_isSafe h8 n x0 x1 x2 x3 x4 h H1 ⟨rfl, rfl⟩), fun q => by cases q⟩
