/-! X12_run -/
def sdX12_run : SD := [(0, [(0, .iload_n 1, 1, [], 0), (1, .i2l, 1, [], 0), (2, .lconst 0, 1, [], 0), (3, .ldc2_w 383, 3, [1, 1702], 4), (6, .invokestatic 217, 3, [1, 0, 3, 81, 1561, 1, 1, 1], 0), (9, .ifCond .ne 5, 3, [], 0)]),
  (12, [(12, .iconst (-1), 1, [], 0), (13, .ireturn, 1, [], 0)]),
  (14, [(14, .aload_n 0, 1, [], 0), (15, .invokevirtual 459, 3, [0, 1, 1, 116, 1673, 16], 0), (18, .aload_n 0, 1, [], 0), (19, .invokevirtual 462, 3, [0, 2, 1, 137, 1703, 16], 0), (22, .aload_n 0, 1, [], 0), (23, .iconst 0, 1, [], 0), (24, .putfield 415, 3, [12, 52, 0, 0, 1, 1374], 0), (27, .iconst 0, 1, [], 0), (28, .istore_n 2, 1, [], 0), (29, .iconst 0, 1, [], 0), (30, .istore_n 3, 1, [], 0), (31, .iconst 0, 1, [], 0), (32, .istore 4, 2, [], 0), (34, .iconst 0, 1, [], 0), (35, .istore 5, 2, [], 0), (37, .iconst 0, 1, [], 0), (38, .istore 6, 2, [], 0), (40, .bipush (-2), 2, [], 0), (42, .istore 7, 2, [], 0), (44, .iconst 0, 1, [], 0), (45, .istore 8, 2, [], 0)]),
  (47, [(47, .aload_n 0, 1, [], 0), (48, .invokevirtual 430, 3, [1, 3, 1, 140, 1707, 16], 0), (51, .ifCond .ne 134, 3, [], 0)]),
  (54, [(54, .iload 8, 2, [], 0), (56, .sipush 3000, 3, [], 0), (59, .if_icmp .ne 6, 3, [], 0)]),
  (62, [(62, .bipush (-2), 2, [], 0), (64, .ireturn, 1, [], 0)]),
  (65, [(65, .aload_n 0, 1, [], 0), (66, .invokevirtual 443, 3, [0, 4, 1, 152, 1730, 16], 0), (69, .iinc 8 1, 3, [], 0), (72, .iload_n 2, 1, [], 0), (73, .aload_n 0, 1, [], 0), (74, .getfield 409, 3, [12, 49, 0, 0, 1371, 0], 0), (77, .invokestatic 378, 3, [1, 5, 3, 262, 1696, 0, 0], 0), (80, .istore_n 2, 1, [], 0), (81, .iload_n 3, 1, [], 0), (82, .aload_n 0, 1, [], 0), (83, .getfield 421, 3, [12, 51, 0, 0, 1373, 0], 0), (86, .iconst 1, 1, [], 0), (87, .if_icmp .ne 7, 3, [], 0)]),
  (90, [(90, .iconst 1, 1, [], 0), (91, .goto 4, 3, [], 0)]),
  (94, [(94, .iconst 0, 1, [], 0)]),
  (95, [(95, .invokestatic 446, 3, [1, 6, 3, 141, 1727, 0], 0), (98, .iadd, 1, [], 0), (99, .istore_n 3, 1, [], 0), (100, .iload 4, 2, [], 0), (102, .aload_n 0, 1, [], 0), (103, .getfield 421, 3, [12, 51, 0, 0, 1373, 0], 0), (106, .iconst (-1), 1, [], 0), (107, .if_icmp .ne 7, 3, [], 0)]),
  (110, [(110, .iconst 1, 1, [], 0), (111, .goto 4, 3, [], 0)]),
  (114, [(114, .iconst 0, 1, [], 0)]),
  (115, [(115, .invokestatic 446, 3, [1, 6, 3, 141, 1727, 0], 0), (118, .iadd, 1, [], 0), (119, .istore 4, 2, [], 0), (121, .iload 5, 2, [], 0), (123, .aload_n 0, 1, [], 0), (124, .getfield 409, 3, [12, 49, 0, 0, 1371, 0], 0), (127, .aload_n 0, 1, [], 0), (128, .getfield 74, 3, [12, 36, 532, 1, 1358, 0], 21), (131, .aload_n 0, 1, [], 0), (132, .aload_n 0, 1, [], 0), (133, .getfield 406, 3, [12, 48, 0, 0, 1370, 0], 0), (136, .invokevirtual 396, 3, [1, 7, 1, 148, 1757, 0, 16], 0), (139, .iaload, 1, [], 0), (140, .if_icmp .ne 7, 3, [], 0)]),
  (143, [(143, .iconst 1, 1, [], 0), (144, .goto 4, 3, [], 0)]),
  (147, [(147, .iconst 0, 1, [], 0)]),
  (148, [(148, .invokestatic 446, 3, [1, 6, 3, 141, 1727, 0], 0), (151, .iadd, 1, [], 0), (152, .istore 5, 2, [], 0), (154, .iload 6, 2, [], 0), (156, .aload_n 0, 1, [], 0), (157, .getfield 421, 3, [12, 51, 0, 0, 1373, 0], 0), (160, .iload 7, 2, [], 0), (162, .if_icmp .eq 7, 3, [], 0)]),
  (165, [(165, .iconst 1, 1, [], 0), (166, .goto 4, 3, [], 0)]),
  (169, [(169, .iconst 0, 1, [], 0)]),
  (170, [(170, .invokestatic 446, 3, [1, 6, 3, 141, 1727, 0], 0), (173, .iadd, 1, [], 0), (174, .istore 6, 2, [], 0), (176, .aload_n 0, 1, [], 0), (177, .getfield 421, 3, [12, 51, 0, 0, 1373, 0], 0), (180, .istore 7, 2, [], 0), (182, .goto (-135), 3, [], 0)]),
  (185, [(185, .iload_n 1, 1, [], 0), (186, .tableswitch 40 0 3 #[30, 32, 34, 37], 30, [], 0)]),
  (216, [(216, .iload_n 2, 1, [], 0), (217, .ireturn, 1, [], 0)]),
  (218, [(218, .iload_n 3, 1, [], 0), (219, .ireturn, 1, [], 0)]),
  (220, [(220, .iload 4, 2, [], 0), (222, .ireturn, 1, [], 0)]),
  (223, [(223, .iload 5, 2, [], 0), (225, .ireturn, 1, [], 0)]),
  (226, [(226, .iload 6, 2, [], 0), (228, .ireturn, 1, [], 0)])]
def JX12_run_170 (n : Nat) (bk : Int → Int → Int → Int → Int → Int → Int → Int → Hp → Option ((Int × Int × Int × Int × Int × Int × Hp) ⊕ (Int × Hp))) (x1 x2 x3 x4 x5 x8 z0 z1 : Int) (h : Hp) : Option ((Int × Int × Int × Int × Int × Int × Hp) ⊕ (Int × Hp)) :=
(bndp (MX12_truth z1) fun r1 =>
(ltt (w32 (z0 + r1)) fun y1 =>
(ltt (h 113 51) fun y2 =>
(bk x1 x2 x3 x4 x5 y1 y2 x8 h))))
def JX12_run_148 (n : Nat) (bk : Int → Int → Int → Int → Int → Int → Int → Int → Hp → Option ((Int × Int × Int × Int × Int × Int × Hp) ⊕ (Int × Hp))) (x1 x2 x3 x4 x6 x7 x8 z0 z1 : Int) (h : Hp) : Option ((Int × Int × Int × Int × Int × Int × Hp) ⊕ (Int × Hp)) :=
(bndp (MX12_truth z1) fun r1 =>
(ltt (w32 (z0 + r1)) fun y1 =>
(if (h 113 51) = x7 then
(JX12_run_170 n bk x1 x2 x3 x4 y1 x8 x6 0 h)
else
(JX12_run_170 n bk x1 x2 x3 x4 y1 x8 x6 1 h))))
def JX12_run_115 (n : Nat) (bk : Int → Int → Int → Int → Int → Int → Int → Int → Hp → Option ((Int × Int × Int × Int × Int × Int × Hp) ⊕ (Int × Hp))) (x1 x2 x3 x5 x6 x7 x8 z0 z1 : Int) (h : Hp) : Option ((Int × Int × Int × Int × Int × Int × Hp) ⊕ (Int × Hp)) :=
(bndp (MX12_truth z1) fun r1 =>
(ltt (w32 (z0 + r1)) fun y1 =>
(bndp (MX12_blockAt n (h 113 48) h) fun r2 =>
(grd (0 ≤ r2 ∧ r2 < alen 532)
(if (h 113 49) ≠ (h 134 r2) then
(JX12_run_148 n bk x1 x2 x3 y1 x6 x7 x8 x5 0 h)
else
(JX12_run_148 n bk x1 x2 x3 y1 x6 x7 x8 x5 1 h))))))
def JX12_run_95 (n : Nat) (bk : Int → Int → Int → Int → Int → Int → Int → Int → Hp → Option ((Int × Int × Int × Int × Int × Int × Hp) ⊕ (Int × Hp))) (x1 x2 x4 x5 x6 x7 x8 z0 z1 : Int) (h : Hp) : Option ((Int × Int × Int × Int × Int × Int × Hp) ⊕ (Int × Hp)) :=
(bndp (MX12_truth z1) fun r1 =>
(ltt (w32 (z0 + r1)) fun y1 =>
(if (h 113 51) ≠ (-1) then
(JX12_run_115 n bk x1 x2 y1 x5 x6 x7 x8 x4 0 h)
else
(JX12_run_115 n bk x1 x2 y1 x5 x6 x7 x8 x4 1 h))))
def BX12_run_47 (n : Nat) : Nat → Int → Int → Int → Int → Int → Int → Int → Int → Hp → Option ((Int × Int × Int × Int × Int × Int × Hp) ⊕ (Int × Hp))
  | 0, _, _, _, _, _, _, _, _, _ => none
  | f + 1, x1, x2, x3, x4, x5, x6, x7, x8, h =>
    (bndp (MX12_isDone h) fun r1 =>
    (if r1 ≠ 0 then
    (some (.inl (x1, x2, x3, x4, x5, x6, h)))
    else
    (if x8 ≠ 3000 then
    (bndh (MX12_tick n h) fun h1 =>
    (ltt (w32 (x8 + 1)) fun y1 =>
    (ltt (max x2 (h1 113 49)) fun y2 =>
    (if (h1 113 51) ≠ 1 then
    (JX12_run_95 n (BX12_run_47 n f) x1 y2 x4 x5 x6 x7 y1 x3 0 h1)
    else
    (JX12_run_95 n (BX12_run_47 n f) x1 y2 x4 x5 x6 x7 y1 x3 1 h1)))))
    else
    (some (.inr ((-2), h))))))
def JX12_run_185 (n : Nat) (x1 x2 x3 x4 x5 x6 : Int) (h : Hp) : Option (Int × Hp) :=
(if x1 = 0 then
(some (x2, h))
else
(if x1 = 1 then
(some (x3, h))
else
(if x1 = 2 then
(some (x4, h))
else
(if x1 = 3 then
(some (x5, h))
else
(some (x6, h))))))
def LX12_run_47 (n : Nat) (x1 x2 x3 x4 x5 x6 x7 x8 : Int) (h : Hp) : Option (Int × Hp) :=
(bnds (BX12_run_47 n n x1 x2 x3 x4 x5 x6 x7 x8 h) (fun (e1, e2, e3, e4, e5, e6, h1) =>
(JX12_run_185 n e1 e2 e3 e4 e5 e6 h1)) (fun e => some e))
def MX12_run (n : Nat) (x1 : Int) (h : Hp) : Option (Int × Hp) :=
(bndp (MX12_in x1 0 4) fun r1 =>
(if r1 ≠ 0 then
(bndh (MX12_laysNow n h) fun h1 =>
(bndh (MX12_begins h1) fun h2 =>
(ltt (up h2 113 52 0) fun h3 =>
(ltt 0 fun y1 =>
(ltt 0 fun y2 =>
(ltt 0 fun y3 =>
(ltt 0 fun y4 =>
(ltt 0 fun y5 =>
(ltt (-2) fun y6 =>
(ltt 0 fun y7 =>
(LX12_run_47 n x1 y1 y2 y3 y4 y5 y6 y7 h3)))))))))))
else
(some ((-1), h))))
def wX12_run {ρ : Type} (n : Nat) : FN ρ := fun a h k => match a with
  | [_, x1] => bnd (MX12_run n x1 h) (fun r h2 => k r h2)
  | _ => none
def fsX12_run (n : Nat) (ρ : Type) : List (FN ρ) := [wX12_in, wX12_laysNow n, wX12_begins, wX12_isDone, wX12_tick n, fmax, wX12_truth, wX12_blockAt n]
def KJX12_run_170 (_ : Nat) (bk : Int → Int → Int → Int → Int → Int → Int → Int → Hp → Option ((Int × Int × Int × Int × Int × Int × Hp) ⊕ (Int × Hp))) : CT ((Int × Int × Int × Int × Int × Int × Hp) ⊕ (Int × Hp)) := [(47, [(0, 16, (some 113)), (1, 0, none), (2, 0, none), (3, 0, none), (4, 0, none), (5, 0, none), (6, 0, none), (7, 0, none), (8, 0, none)], [], fun a c h => match a, c with
    | [x1, x2, x3, x4, x5, x6, x7, x8], [] => bk x1 x2 x3 x4 x5 x6 x7 x8 h
    | _, _ => none),
  (185, [(1, 0, none), (2, 0, none), (3, 0, none), (4, 0, none), (5, 0, none), (6, 0, none)], [], fun a c h => match a, c with
    | [x1, x2, x3, x4, x5, x6], [] => some (.inl (x1, x2, x3, x4, x5, x6, h))
    | _, _ => none)]
set_option maxRecDepth 100000 in
theorem eJX12_run_170 (n : Nat) (bk : Int → Int → Int → Int → Int → Int → Int → Int → Hp → Option ((Int × Int × Int × Int × Int × Int × Hp) ⊕ (Int × Hp))) (x1 : Int) (x2 : Int) (x3 : Int) (x4 : Int) (x5 : Int) (x8 : Int) (z0 : Int) (z1 : Int) (h : Hp) : JX12_run_170 n bk x1 x2 x3 x4 x5 x8 z0 z1 h =
  goAt false (kct (KJX12_run_170 n bk)) (fun v h => some (.inr (v, h))) (fsX12_run n _) sdX12_run 1000 170 [(0, 16, 113), (1, 0, x1), (2, 0, x2), (3, 0, x3), (4, 0, x4), (5, 0, x5), (8, 0, x8)] [(0, z1), (0, z0)] h := rfl
def KJX12_run_148 (n : Nat) (bk : Int → Int → Int → Int → Int → Int → Int → Int → Hp → Option ((Int × Int × Int × Int × Int × Int × Hp) ⊕ (Int × Hp))) : CT ((Int × Int × Int × Int × Int × Int × Hp) ⊕ (Int × Hp)) := [(47, [(0, 16, (some 113)), (1, 0, none), (2, 0, none), (3, 0, none), (4, 0, none), (5, 0, none), (6, 0, none), (7, 0, none), (8, 0, none)], [], fun a c h => match a, c with
    | [x1, x2, x3, x4, x5, x6, x7, x8], [] => bk x1 x2 x3 x4 x5 x6 x7 x8 h
    | _, _ => none),
  (185, [(1, 0, none), (2, 0, none), (3, 0, none), (4, 0, none), (5, 0, none), (6, 0, none)], [], fun a c h => match a, c with
    | [x1, x2, x3, x4, x5, x6], [] => some (.inl (x1, x2, x3, x4, x5, x6, h))
    | _, _ => none),
  (170, [(0, 16, (some 113)), (1, 0, none), (2, 0, none), (3, 0, none), (4, 0, none), (5, 0, none), (8, 0, none)], [(0, none), (0, none)], fun a c h => match a, c with
    | [x1, x2, x3, x4, x5, x8], [z1, z0] => JX12_run_170 n bk x1 x2 x3 x4 x5 x8 z0 z1 h
    | _, _ => none)]
set_option maxRecDepth 100000 in
theorem eJX12_run_148 (n : Nat) (bk : Int → Int → Int → Int → Int → Int → Int → Int → Hp → Option ((Int × Int × Int × Int × Int × Int × Hp) ⊕ (Int × Hp))) (x1 : Int) (x2 : Int) (x3 : Int) (x4 : Int) (x6 : Int) (x7 : Int) (x8 : Int) (z0 : Int) (z1 : Int) (h : Hp) : JX12_run_148 n bk x1 x2 x3 x4 x6 x7 x8 z0 z1 h =
  goAt false (kct (KJX12_run_148 n bk)) (fun v h => some (.inr (v, h))) (fsX12_run n _) sdX12_run 1000 148 [(0, 16, 113), (1, 0, x1), (2, 0, x2), (3, 0, x3), (4, 0, x4), (6, 0, x6), (7, 0, x7), (8, 0, x8)] [(0, z1), (0, z0)] h := rfl
def KJX12_run_115 (n : Nat) (bk : Int → Int → Int → Int → Int → Int → Int → Int → Hp → Option ((Int × Int × Int × Int × Int × Int × Hp) ⊕ (Int × Hp))) : CT ((Int × Int × Int × Int × Int × Int × Hp) ⊕ (Int × Hp)) := [(47, [(0, 16, (some 113)), (1, 0, none), (2, 0, none), (3, 0, none), (4, 0, none), (5, 0, none), (6, 0, none), (7, 0, none), (8, 0, none)], [], fun a c h => match a, c with
    | [x1, x2, x3, x4, x5, x6, x7, x8], [] => bk x1 x2 x3 x4 x5 x6 x7 x8 h
    | _, _ => none),
  (185, [(1, 0, none), (2, 0, none), (3, 0, none), (4, 0, none), (5, 0, none), (6, 0, none)], [], fun a c h => match a, c with
    | [x1, x2, x3, x4, x5, x6], [] => some (.inl (x1, x2, x3, x4, x5, x6, h))
    | _, _ => none),
  (148, [(0, 16, (some 113)), (1, 0, none), (2, 0, none), (3, 0, none), (4, 0, none), (6, 0, none), (7, 0, none), (8, 0, none)], [(0, none), (0, none)], fun a c h => match a, c with
    | [x1, x2, x3, x4, x6, x7, x8], [z1, z0] => JX12_run_148 n bk x1 x2 x3 x4 x6 x7 x8 z0 z1 h
    | _, _ => none)]
set_option maxRecDepth 100000 in
theorem eJX12_run_115 (n : Nat) (bk : Int → Int → Int → Int → Int → Int → Int → Int → Hp → Option ((Int × Int × Int × Int × Int × Int × Hp) ⊕ (Int × Hp))) (x1 : Int) (x2 : Int) (x3 : Int) (x5 : Int) (x6 : Int) (x7 : Int) (x8 : Int) (z0 : Int) (z1 : Int) (h : Hp) : JX12_run_115 n bk x1 x2 x3 x5 x6 x7 x8 z0 z1 h =
  goAt false (kct (KJX12_run_115 n bk)) (fun v h => some (.inr (v, h))) (fsX12_run n _) sdX12_run 1000 115 [(0, 16, 113), (1, 0, x1), (2, 0, x2), (3, 0, x3), (5, 0, x5), (6, 0, x6), (7, 0, x7), (8, 0, x8)] [(0, z1), (0, z0)] h := rfl
def KJX12_run_95 (n : Nat) (bk : Int → Int → Int → Int → Int → Int → Int → Int → Hp → Option ((Int × Int × Int × Int × Int × Int × Hp) ⊕ (Int × Hp))) : CT ((Int × Int × Int × Int × Int × Int × Hp) ⊕ (Int × Hp)) := [(47, [(0, 16, (some 113)), (1, 0, none), (2, 0, none), (3, 0, none), (4, 0, none), (5, 0, none), (6, 0, none), (7, 0, none), (8, 0, none)], [], fun a c h => match a, c with
    | [x1, x2, x3, x4, x5, x6, x7, x8], [] => bk x1 x2 x3 x4 x5 x6 x7 x8 h
    | _, _ => none),
  (185, [(1, 0, none), (2, 0, none), (3, 0, none), (4, 0, none), (5, 0, none), (6, 0, none)], [], fun a c h => match a, c with
    | [x1, x2, x3, x4, x5, x6], [] => some (.inl (x1, x2, x3, x4, x5, x6, h))
    | _, _ => none),
  (115, [(0, 16, (some 113)), (1, 0, none), (2, 0, none), (3, 0, none), (5, 0, none), (6, 0, none), (7, 0, none), (8, 0, none)], [(0, none), (0, none)], fun a c h => match a, c with
    | [x1, x2, x3, x5, x6, x7, x8], [z1, z0] => JX12_run_115 n bk x1 x2 x3 x5 x6 x7 x8 z0 z1 h
    | _, _ => none)]
set_option maxRecDepth 100000 in
theorem eJX12_run_95 (n : Nat) (bk : Int → Int → Int → Int → Int → Int → Int → Int → Hp → Option ((Int × Int × Int × Int × Int × Int × Hp) ⊕ (Int × Hp))) (x1 : Int) (x2 : Int) (x4 : Int) (x5 : Int) (x6 : Int) (x7 : Int) (x8 : Int) (z0 : Int) (z1 : Int) (h : Hp) : JX12_run_95 n bk x1 x2 x4 x5 x6 x7 x8 z0 z1 h =
  goAt false (kct (KJX12_run_95 n bk)) (fun v h => some (.inr (v, h))) (fsX12_run n _) sdX12_run 1000 95 [(0, 16, 113), (1, 0, x1), (2, 0, x2), (4, 0, x4), (5, 0, x5), (6, 0, x6), (7, 0, x7), (8, 0, x8)] [(0, z1), (0, z0)] h := rfl
def KBX12_run_47 (n : Nat) (bk : Int → Int → Int → Int → Int → Int → Int → Int → Hp → Option ((Int × Int × Int × Int × Int × Int × Hp) ⊕ (Int × Hp))) : CT ((Int × Int × Int × Int × Int × Int × Hp) ⊕ (Int × Hp)) := [(47, [(0, 16, (some 113)), (1, 0, none), (2, 0, none), (3, 0, none), (4, 0, none), (5, 0, none), (6, 0, none), (7, 0, none), (8, 0, none)], [], fun a c h => match a, c with
    | [x1, x2, x3, x4, x5, x6, x7, x8], [] => bk x1 x2 x3 x4 x5 x6 x7 x8 h
    | _, _ => none),
  (185, [(1, 0, none), (2, 0, none), (3, 0, none), (4, 0, none), (5, 0, none), (6, 0, none)], [], fun a c h => match a, c with
    | [x1, x2, x3, x4, x5, x6], [] => some (.inl (x1, x2, x3, x4, x5, x6, h))
    | _, _ => none),
  (95, [(0, 16, (some 113)), (1, 0, none), (2, 0, none), (4, 0, none), (5, 0, none), (6, 0, none), (7, 0, none), (8, 0, none)], [(0, none), (0, none)], fun a c h => match a, c with
    | [x1, x2, x4, x5, x6, x7, x8], [z1, z0] => JX12_run_95 n bk x1 x2 x4 x5 x6 x7 x8 z0 z1 h
    | _, _ => none)]
set_option maxRecDepth 100000 in
theorem eBX12_run_47 (n f : Nat) (x1 : Int) (x2 : Int) (x3 : Int) (x4 : Int) (x5 : Int) (x6 : Int) (x7 : Int) (x8 : Int) (h : Hp) : BX12_run_47 n (f + 1) x1 x2 x3 x4 x5 x6 x7 x8 h =
  goAt false (kct (KBX12_run_47 n (BX12_run_47 n f))) (fun v h => some (.inr (v, h))) (fsX12_run n _) sdX12_run 1000 47 [(0, 16, 113), (1, 0, x1), (2, 0, x2), (3, 0, x3), (4, 0, x4), (5, 0, x5), (6, 0, x6), (7, 0, x7), (8, 0, x8)] [] h := rfl
def KJX12_run_185 (_ : Nat) : CT (Int × Hp) := []
set_option maxRecDepth 100000 in
theorem eJX12_run_185 (n : Nat) (x1 : Int) (x2 : Int) (x3 : Int) (x4 : Int) (x5 : Int) (x6 : Int) (h : Hp) : JX12_run_185 n x1 x2 x3 x4 x5 x6 h =
  goAt false (kct (KJX12_run_185 n)) (fun v h => some ((v, h))) (fsX12_run n _) sdX12_run 1000 185 [(1, 0, x1), (2, 0, x2), (3, 0, x3), (4, 0, x4), (5, 0, x5), (6, 0, x6)] [] h := rfl
def KMX12_run (n : Nat) : CT (Int × Hp) := [(47, [(0, 16, (some 113)), (1, 0, none), (2, 0, none), (3, 0, none), (4, 0, none), (5, 0, none), (6, 0, none), (7, 0, none), (8, 0, none)], [], fun a c h => match a, c with
    | [x1, x2, x3, x4, x5, x6, x7, x8], [] => LX12_run_47 n x1 x2 x3 x4 x5 x6 x7 x8 h
    | _, _ => none)]
set_option maxRecDepth 100000 in
theorem eMX12_run (n : Nat) (x1 : Int) (h : Hp) : MX12_run n x1 h =
  goAt false (kct (KMX12_run n)) (fun v h => some ((v, h))) (fsX12_run n _) sdX12_run 1000 0 [(0, 16, 113), (1, 0, x1)] [] h := rfl
theorem okX12_run : mokb (mi 216) = true := by decide +kernel
theorem rkX12_run : rkOK 1 (mi 216).1.2.2.2.2.2.2.1 (mi 216).1.2.2.2.1 := Or.inr (Or.inl ⟨rfl, rfl, rfl⟩)
def calX12_run : List Nat := [81, 116, 137, 140, 152, 262, 141, 148]
theorem foX12_run {l : Launch} {ρ : Type} (n : Nat) : fsOK l false mi calX12_run (fsX12_run n ρ) := ⟨sndX12_in, ⟨(sndX12_laysNow n), ⟨sndX12_begins, ⟨sndX12_isDone, ⟨(sndX12_tick n), ⟨snd_mmax, ⟨sndX12_truth, ⟨(sndX12_blockAt n), trivial⟩⟩⟩⟩⟩⟩⟩⟩
theorem ok_sdX12_run : sdb (mi 216).1.2.1 (insOK mi (mi 216).1.1.cls (mi 216).1.2.2.1 (mi 216).1.2.2.2.2.1 (mi 216).1.2.2.2.2.2.1 calX12_run false 1) sdX12_run = true := by decide +kernel
def GX12_run_47 (l : Launch) (h0 : Hp) (h' : Hp) (v : Int) (_ : Hp) : ((Int × Int × Int × Int × Int × Int × Hp) ⊕ (Int × Hp)) → Prop
  | .inl (e1, e2, e3, e4, e5, e6, h1) => PAt l false (mi 216).1 h0 v h' 185 [(1, 0, e1), (2, 0, e2), (3, 0, e3), (4, 0, e4), (5, 0, e5), (6, 0, e6)] [] h1
  | .inr x => gWV v h' x
theorem sJX12_run_170 {l : Launch} {h0 h' : Hp} {v : Int} (h8 : nOf h0 = 148) (n : Nat) (bk : Int → Int → Int → Int → Int → Int → Int → Int → Hp → Option ((Int × Int × Int × Int × Int × Int × Hp) ⊕ (Int × Hp))) (hbk : ∀ (x1 : Int) (x2 : Int) (x3 : Int) (x4 : Int) (x5 : Int) (x6 : Int) (x7 : Int) (x8 : Int) (h : Hp) (r : (Int × Int × Int × Int × Int × Int × Hp) ⊕ (Int × Hp)), bk x1 x2 x3 x4 x5 x6 x7 x8 h = some r → GX12_run_47 l h0 h' v h r → PAt l false (mi 216).1 h0 v h' 47 [(0, 16, 113), (1, 0, x1), (2, 0, x2), (3, 0, x3), (4, 0, x4), (5, 0, x5), (6, 0, x6), (7, 0, x7), (8, 0, x8)] [] h) (x1 : Int) (x2 : Int) (x3 : Int) (x4 : Int) (x5 : Int) (x8 : Int) (z0 : Int) (z1 : Int) (h : Hp) {r : (Int × Int × Int × Int × Int × Int × Hp) ⊕ (Int × Hp)} (H : JX12_run_170 n bk x1 x2 x3 x4 x5 x8 z0 z1 h = some r) (hG : GX12_run_47 l h0 h' v h r) : PAt l false (mi 216).1 h0 v h' 170 [(0, 16, 113), (1, 0, x1), (2, 0, x2), (3, 0, x3), (4, 0, x4), (5, 0, x5), (8, 0, x8)] [(0, z1), (0, z0)] h :=
  pat_w ok_sdX12_run rkX12_run h8 (foX12_run n) (fun v1 h1 q => by
    cases q
    exact ⟨hG.1, fun _ => hG.2⟩) (List.forall_mem_cons.mpr ⟨(fun a c h H => by
      dsimp only at H
      split at H
      · exact hbk _ _ _ _ _ _ _ _ _ _ H hG
      · cases H), (List.forall_mem_cons.mpr ⟨(fun a c h H => by
      dsimp only at H
      split at H
      · cases H
        exact hG
      · cases H), (fun q9 h9 => by cases h9)⟩)⟩) ((eJX12_run_170 n bk x1 x2 x3 x4 x5 x8 z0 z1 h).symm.trans H)
theorem sJX12_run_148 {l : Launch} {h0 h' : Hp} {v : Int} (h8 : nOf h0 = 148) (n : Nat) (bk : Int → Int → Int → Int → Int → Int → Int → Int → Hp → Option ((Int × Int × Int × Int × Int × Int × Hp) ⊕ (Int × Hp))) (hbk : ∀ (x1 : Int) (x2 : Int) (x3 : Int) (x4 : Int) (x5 : Int) (x6 : Int) (x7 : Int) (x8 : Int) (h : Hp) (r : (Int × Int × Int × Int × Int × Int × Hp) ⊕ (Int × Hp)), bk x1 x2 x3 x4 x5 x6 x7 x8 h = some r → GX12_run_47 l h0 h' v h r → PAt l false (mi 216).1 h0 v h' 47 [(0, 16, 113), (1, 0, x1), (2, 0, x2), (3, 0, x3), (4, 0, x4), (5, 0, x5), (6, 0, x6), (7, 0, x7), (8, 0, x8)] [] h) (x1 : Int) (x2 : Int) (x3 : Int) (x4 : Int) (x6 : Int) (x7 : Int) (x8 : Int) (z0 : Int) (z1 : Int) (h : Hp) {r : (Int × Int × Int × Int × Int × Int × Hp) ⊕ (Int × Hp)} (H : JX12_run_148 n bk x1 x2 x3 x4 x6 x7 x8 z0 z1 h = some r) (hG : GX12_run_47 l h0 h' v h r) : PAt l false (mi 216).1 h0 v h' 148 [(0, 16, 113), (1, 0, x1), (2, 0, x2), (3, 0, x3), (4, 0, x4), (6, 0, x6), (7, 0, x7), (8, 0, x8)] [(0, z1), (0, z0)] h :=
  pat_w ok_sdX12_run rkX12_run h8 (foX12_run n) (fun v1 h1 q => by
    cases q
    exact ⟨hG.1, fun _ => hG.2⟩) (List.forall_mem_cons.mpr ⟨(fun a c h H => by
      dsimp only at H
      split at H
      · exact hbk _ _ _ _ _ _ _ _ _ _ H hG
      · cases H), (List.forall_mem_cons.mpr ⟨(fun a c h H => by
      dsimp only at H
      split at H
      · cases H
        exact hG
      · cases H), (List.forall_mem_cons.mpr ⟨(fun a c h H => by
      dsimp only at H
      split at H
      · exact sJX12_run_170 h8 n bk hbk _ _ _ _ _ _ _ _ _ H hG
      · cases H), (fun q9 h9 => by cases h9)⟩)⟩)⟩) ((eJX12_run_148 n bk x1 x2 x3 x4 x6 x7 x8 z0 z1 h).symm.trans H)
theorem sJX12_run_115 {l : Launch} {h0 h' : Hp} {v : Int} (h8 : nOf h0 = 148) (n : Nat) (bk : Int → Int → Int → Int → Int → Int → Int → Int → Hp → Option ((Int × Int × Int × Int × Int × Int × Hp) ⊕ (Int × Hp))) (hbk : ∀ (x1 : Int) (x2 : Int) (x3 : Int) (x4 : Int) (x5 : Int) (x6 : Int) (x7 : Int) (x8 : Int) (h : Hp) (r : (Int × Int × Int × Int × Int × Int × Hp) ⊕ (Int × Hp)), bk x1 x2 x3 x4 x5 x6 x7 x8 h = some r → GX12_run_47 l h0 h' v h r → PAt l false (mi 216).1 h0 v h' 47 [(0, 16, 113), (1, 0, x1), (2, 0, x2), (3, 0, x3), (4, 0, x4), (5, 0, x5), (6, 0, x6), (7, 0, x7), (8, 0, x8)] [] h) (x1 : Int) (x2 : Int) (x3 : Int) (x5 : Int) (x6 : Int) (x7 : Int) (x8 : Int) (z0 : Int) (z1 : Int) (h : Hp) {r : (Int × Int × Int × Int × Int × Int × Hp) ⊕ (Int × Hp)} (H : JX12_run_115 n bk x1 x2 x3 x5 x6 x7 x8 z0 z1 h = some r) (hG : GX12_run_47 l h0 h' v h r) : PAt l false (mi 216).1 h0 v h' 115 [(0, 16, 113), (1, 0, x1), (2, 0, x2), (3, 0, x3), (5, 0, x5), (6, 0, x6), (7, 0, x7), (8, 0, x8)] [(0, z1), (0, z0)] h :=
  pat_w ok_sdX12_run rkX12_run h8 (foX12_run n) (fun v1 h1 q => by
    cases q
    exact ⟨hG.1, fun _ => hG.2⟩) (List.forall_mem_cons.mpr ⟨(fun a c h H => by
      dsimp only at H
      split at H
      · exact hbk _ _ _ _ _ _ _ _ _ _ H hG
      · cases H), (List.forall_mem_cons.mpr ⟨(fun a c h H => by
      dsimp only at H
      split at H
      · cases H
        exact hG
      · cases H), (List.forall_mem_cons.mpr ⟨(fun a c h H => by
      dsimp only at H
      split at H
      · exact sJX12_run_148 h8 n bk hbk _ _ _ _ _ _ _ _ _ _ H hG
      · cases H), (fun q9 h9 => by cases h9)⟩)⟩)⟩) ((eJX12_run_115 n bk x1 x2 x3 x5 x6 x7 x8 z0 z1 h).symm.trans H)
theorem sJX12_run_95 {l : Launch} {h0 h' : Hp} {v : Int} (h8 : nOf h0 = 148) (n : Nat) (bk : Int → Int → Int → Int → Int → Int → Int → Int → Hp → Option ((Int × Int × Int × Int × Int × Int × Hp) ⊕ (Int × Hp))) (hbk : ∀ (x1 : Int) (x2 : Int) (x3 : Int) (x4 : Int) (x5 : Int) (x6 : Int) (x7 : Int) (x8 : Int) (h : Hp) (r : (Int × Int × Int × Int × Int × Int × Hp) ⊕ (Int × Hp)), bk x1 x2 x3 x4 x5 x6 x7 x8 h = some r → GX12_run_47 l h0 h' v h r → PAt l false (mi 216).1 h0 v h' 47 [(0, 16, 113), (1, 0, x1), (2, 0, x2), (3, 0, x3), (4, 0, x4), (5, 0, x5), (6, 0, x6), (7, 0, x7), (8, 0, x8)] [] h) (x1 : Int) (x2 : Int) (x4 : Int) (x5 : Int) (x6 : Int) (x7 : Int) (x8 : Int) (z0 : Int) (z1 : Int) (h : Hp) {r : (Int × Int × Int × Int × Int × Int × Hp) ⊕ (Int × Hp)} (H : JX12_run_95 n bk x1 x2 x4 x5 x6 x7 x8 z0 z1 h = some r) (hG : GX12_run_47 l h0 h' v h r) : PAt l false (mi 216).1 h0 v h' 95 [(0, 16, 113), (1, 0, x1), (2, 0, x2), (4, 0, x4), (5, 0, x5), (6, 0, x6), (7, 0, x7), (8, 0, x8)] [(0, z1), (0, z0)] h :=
  pat_w ok_sdX12_run rkX12_run h8 (foX12_run n) (fun v1 h1 q => by
    cases q
    exact ⟨hG.1, fun _ => hG.2⟩) (List.forall_mem_cons.mpr ⟨(fun a c h H => by
      dsimp only at H
      split at H
      · exact hbk _ _ _ _ _ _ _ _ _ _ H hG
      · cases H), (List.forall_mem_cons.mpr ⟨(fun a c h H => by
      dsimp only at H
      split at H
      · cases H
        exact hG
      · cases H), (List.forall_mem_cons.mpr ⟨(fun a c h H => by
      dsimp only at H
      split at H
      · exact sJX12_run_115 h8 n bk hbk _ _ _ _ _ _ _ _ _ _ H hG
      · cases H), (fun q9 h9 => by cases h9)⟩)⟩)⟩) ((eJX12_run_95 n bk x1 x2 x4 x5 x6 x7 x8 z0 z1 h).symm.trans H)
theorem sBX12_run_47 {l : Launch} {h0 h' : Hp} {v : Int} (h8 : nOf h0 = 148) (n : Nat) : ∀ (f : Nat) (x1 : Int) (x2 : Int) (x3 : Int) (x4 : Int) (x5 : Int) (x6 : Int) (x7 : Int) (x8 : Int) (h : Hp) {r : (Int × Int × Int × Int × Int × Int × Hp) ⊕ (Int × Hp)}, BX12_run_47 n f x1 x2 x3 x4 x5 x6 x7 x8 h = some r → GX12_run_47 l h0 h' v h r → PAt l false (mi 216).1 h0 v h' 47 [(0, 16, 113), (1, 0, x1), (2, 0, x2), (3, 0, x3), (4, 0, x4), (5, 0, x5), (6, 0, x6), (7, 0, x7), (8, 0, x8)] [] h := by
  intro f
  induction f with
  | zero =>
    intro x1 x2 x3 x4 x5 x6 x7 x8 h r H _
    have H2 : (none : Option ((Int × Int × Int × Int × Int × Int × Hp) ⊕ (Int × Hp))) = some r := H
    cases H2
  | succ f ih =>
    intro x1 x2 x3 x4 x5 x6 x7 x8 h r H hG
    have ihk : ∀ (x1 : Int) (x2 : Int) (x3 : Int) (x4 : Int) (x5 : Int) (x6 : Int) (x7 : Int) (x8 : Int) (h : Hp) (r : (Int × Int × Int × Int × Int × Int × Hp) ⊕ (Int × Hp)), BX12_run_47 n f x1 x2 x3 x4 x5 x6 x7 x8 h = some r → GX12_run_47 l h0 h' v h r → PAt l false (mi 216).1 h0 v h' 47 [(0, 16, 113), (1, 0, x1), (2, 0, x2), (3, 0, x3), (4, 0, x4), (5, 0, x5), (6, 0, x6), (7, 0, x7), (8, 0, x8)] [] h := fun x1 x2 x3 x4 x5 x6 x7 x8 h r9 a9 b9 => ih x1 x2 x3 x4 x5 x6 x7 x8 h a9 b9
    exact pat_w ok_sdX12_run rkX12_run h8 (foX12_run n) (fun v1 h1 q => by
    cases q
    exact ⟨hG.1, fun _ => hG.2⟩) (List.forall_mem_cons.mpr ⟨(fun a c h H => by
      dsimp only at H
      split at H
      · exact ih _ _ _ _ _ _ _ _ _ H hG
      · cases H), (List.forall_mem_cons.mpr ⟨(fun a c h H => by
      dsimp only at H
      split at H
      · cases H
        exact hG
      · cases H), (List.forall_mem_cons.mpr ⟨(fun a c h H => by
      dsimp only at H
      split at H
      · exact sJX12_run_95 h8 n (BX12_run_47 n f) ihk _ _ _ _ _ _ _ _ _ _ H hG
      · cases H), (fun q9 h9 => by cases h9)⟩)⟩)⟩) ((eBX12_run_47 n f x1 x2 x3 x4 x5 x6 x7 x8 h).symm.trans H)
theorem sJX12_run_185 {l : Launch} {h0 h' : Hp} {v : Int} (h8 : nOf h0 = 148) (n : Nat) (x1 : Int) (x2 : Int) (x3 : Int) (x4 : Int) (x5 : Int) (x6 : Int) (h : Hp) {r : Int × Hp} (H : JX12_run_185 n x1 x2 x3 x4 x5 x6 h = some r) (hG : gWV v h' r) : PAt l false (mi 216).1 h0 v h' 185 [(1, 0, x1), (2, 0, x2), (3, 0, x3), (4, 0, x4), (5, 0, x5), (6, 0, x6)] [] h :=
  pat_w ok_sdX12_run rkX12_run h8 (foX12_run n) (fun v1 h1 q => by
    cases q
    exact ⟨hG.1, fun _ => hG.2⟩) (fun q9 h9 => by cases h9) ((eJX12_run_185 n x1 x2 x3 x4 x5 x6 h).symm.trans H)
theorem sLX12_run_47 {l : Launch} {h0 h' : Hp} {v : Int} (h8 : nOf h0 = 148) (n : Nat) (x1 : Int) (x2 : Int) (x3 : Int) (x4 : Int) (x5 : Int) (x6 : Int) (x7 : Int) (x8 : Int) (h : Hp) {r : Int × Hp} (H : LX12_run_47 n x1 x2 x3 x4 x5 x6 x7 x8 h = some r) (hG : gWV v h' r) : PAt l false (mi 216).1 h0 v h' 47 [(0, 16, 113), (1, 0, x1), (2, 0, x2), (3, 0, x3), (4, 0, x4), (5, 0, x5), (6, 0, x6), (7, 0, x7), (8, 0, x8)] [] h := by
  rcases bnds_some H with ⟨e9, h2, h3⟩ | ⟨e8, h2, h3⟩
  · obtain ⟨e1, e2, e3, e4, e5, e6, h1⟩ := e9
    exact sBX12_run_47 h8 n n x1 x2 x3 x4 x5 x6 x7 x8 h h2 (sJX12_run_185 h8 n e1 e2 e3 e4 e5 e6 h1 h3 hG)
  · cases h3
    exact sBX12_run_47 h8 n n x1 x2 x3 x4 x5 x6 x7 x8 h h2 hG
theorem sMX12_run {l : Launch} {h0 h' : Hp} {v : Int} (h8 : nOf h0 = 148) (n : Nat) (x1 : Int) (h : Hp) {r : Int × Hp} (H : MX12_run n x1 h = some r) (hG : gWV v h' r) : PAt l false (mi 216).1 h0 v h' 0 [(0, 16, 113), (1, 0, x1)] [] h :=
  pat_w ok_sdX12_run rkX12_run h8 (foX12_run n) (fun v1 h1 q => by
    cases q
    exact ⟨hG.1, fun _ => hG.2⟩) (List.forall_mem_cons.mpr ⟨(fun a c h H => by
      dsimp only at H
      split at H
      · exact sLX12_run_47 h8 n _ _ _ _ _ _ _ _ _ H hG
      · cases H), (fun q9 h9 => by cases h9)⟩) ((eMX12_run n x1 h).symm.trans H)
theorem sndX12_run {ρ : Type} {l : Launch} (n : Nat) : SndF (ρ := ρ) l false (mi 216).1 (wX12_run n) := by
    intro a h k r H ha ho hn hf
    have h8 := hf rfl
    obtain ⟨x0, x1, rfl⟩ := len2 (show a.length = 2 from ha)
    have u0 := uq16 hn (ho (16, x0) (List.mem_cons_self))
    subst u0
    replace H : bnd (MX12_run n x1 h) (fun r h2 => k r h2) = some r := H
    obtain ⟨v2, h2, H1, H2⟩ := bnd_some H
    exact ⟨v2, h2, H2, met_mk (mok_base okX12_run).1 (by decide +kernel) (Nat.le_of_ble_eq_true rfl) ho (sMX12_run h8 n x1 h H1 ⟨rfl, rfl⟩), fun q => by cases q⟩
/-! X11_halt -/
def sdX11_halt : SD := [(0, [(0, .iload_n 1, 1, [], 0), (1, .ifCond .lt 10, 3, [], 0)]),
  (4, [(4, .iload_n 1, 1, [], 0), (5, .sipush 300, 3, [], 0), (8, .if_icmp .le 5, 3, [], 0)]),
  (11, [(11, .iconst (-1), 1, [], 0), (12, .ireturn, 1, [], 0)]),
  (13, [(13, .aload_n 0, 1, [], 0), (14, .getfield 61, 3, [11, 8, 12, 1, 698, 0], 65), (17, .aload_n 0, 1, [], 0), (18, .getfield 57, 3, [11, 7, 12, 1, 697, 0], 64), (21, .invokevirtual 225, 3, [0, 0, 1, 124, 1120, 12, 12], 0), (24, .aload_n 0, 1, [], 0), (25, .getfield 47, 3, [11, 5, 5, 1, 695, 0], 50), (28, .aload_n 0, 1, [], 0), (29, .getfield 61, 3, [11, 8, 12, 1, 698, 0], 65), (32, .iload_n 1, 1, [], 0), (33, .invokevirtual 228, 3, [0, 1, 1, 174, 1121, 0, 12, 5], 0), (36, .aload_n 0, 1, [], 0), (37, .getfield 47, 3, [11, 5, 5, 1, 695, 0], 50), (40, .aload_n 0, 1, [], 0), (41, .getfield 61, 3, [11, 8, 12, 1, 698, 0], 65), (44, .invokevirtual 249, 3, [1, 2, 1, 189, 1150, 12, 5], 0), (47, .pop, 1, [], 0), (48, .aload_n 0, 1, [], 0), (49, .getfield 61, 3, [11, 8, 12, 1, 698, 0], 65), (52, .getfield 200, 3, [8, 0, 0, 0, 483, 0], 0), (55, .ireturn, 1, [], 0)])]
def MX11_halt (n : Nat) (x1 : Int) (h : Hp) : Option (Int × Hp) :=
(if x1 < 0 then
(some ((-1), h))
else
(if x1 ≤ 300 then
(bndh (MX8_become 65 64 h) fun h1 =>
(bndh (MX1_goOn n 50 65 x1 h1) fun h2 =>
(bnd (MX1_brakeToRest n 50 65 h2) fun r1 h3 =>
(some ((h3 65 0), h3)))))
else
(some ((-1), h))))
def wX11_halt {ρ : Type} (n : Nat) : FN ρ := fun a h k => match a with
  | [_, x1] => bnd (MX11_halt n x1 h) (fun r h2 => k r h2)
  | _ => none
def fsX11_halt (n : Nat) (ρ : Type) : List (FN ρ) := [wX8_become, wX1_goOn n, wX1_brakeToRest n]
def KMX11_halt (_ : Nat) : CT (Int × Hp) := []
set_option maxRecDepth 100000 in
theorem eMX11_halt (n : Nat) (x1 : Int) (h : Hp) : MX11_halt n x1 h =
  goAt false (kct (KMX11_halt n)) (fun v h => some ((v, h))) (fsX11_halt n _) sdX11_halt 1000 0 [(0, 15, 0), (1, 0, x1)] [] h := rfl
theorem okX11_halt : mokb (mi 217) = true := by decide +kernel
theorem rkX11_halt : rkOK 1 (mi 217).1.2.2.2.2.2.2.1 (mi 217).1.2.2.2.1 := Or.inr (Or.inl ⟨rfl, rfl, rfl⟩)
def calX11_halt : List Nat := [124, 174, 189]
theorem foX11_halt {l : Launch} {ρ : Type} (n : Nat) : fsOK l false mi calX11_halt (fsX11_halt n ρ) := ⟨sndX8_become, ⟨(sndX1_goOn n), ⟨(sndX1_brakeToRest n), trivial⟩⟩⟩
theorem ok_sdX11_halt : sdb (mi 217).1.2.1 (insOK mi (mi 217).1.1.cls (mi 217).1.2.2.1 (mi 217).1.2.2.2.2.1 (mi 217).1.2.2.2.2.2.1 calX11_halt false 1) sdX11_halt = true := by decide +kernel
theorem sMX11_halt {l : Launch} {h0 h' : Hp} {v : Int} (h8 : nOf h0 = 148) (n : Nat) (x1 : Int) (h : Hp) {r : Int × Hp} (H : MX11_halt n x1 h = some r) (hG : gWV v h' r) : PAt l false (mi 217).1 h0 v h' 0 [(0, 15, 0), (1, 0, x1)] [] h :=
  pat_w ok_sdX11_halt rkX11_halt h8 (foX11_halt n) (fun v1 h1 q => by
    cases q
    exact ⟨hG.1, fun _ => hG.2⟩) (fun q9 h9 => by cases h9) ((eMX11_halt n x1 h).symm.trans H)
theorem sndX11_halt {ρ : Type} {l : Launch} (n : Nat) : SndF (ρ := ρ) l false (mi 217).1 (wX11_halt n) := by
    intro a h k r H ha ho hn hf
    have h8 := hf rfl
    obtain ⟨x0, x1, rfl⟩ := len2 (show a.length = 2 from ha)
    have u0 := uq15 hn (ho (15, x0) (List.mem_cons_self))
    subst u0
    replace H : bnd (MX11_halt n x1 h) (fun r h2 => k r h2) = some r := H
    obtain ⟨v2, h2, H1, H2⟩ := bnd_some H
    exact ⟨v2, h2, H2, met_mk (mok_base okX11_halt).1 (by decide +kernel) (Nat.le_of_ble_eq_true rfl) ho (sMX11_halt h8 n x1 h H1 ⟨rfl, rfl⟩), fun q => by cases q⟩
/-! X12_halt -/
def sdX12_halt : SD := [(0, [(0, .iload_n 1, 1, [], 0), (1, .i2l, 1, [], 0), (2, .lconst 0, 1, [], 0), (3, .ldc2_w 480, 3, [1, 1815], 300), (6, .invokestatic 217, 3, [1, 0, 3, 81, 1561, 1, 1, 1], 0), (9, .ifCond .ne 5, 3, [], 0)]),
  (12, [(12, .iconst (-1), 1, [], 0), (13, .ireturn, 1, [], 0)]),
  (14, [(14, .aload_n 0, 1, [], 0), (15, .iload_n 1, 1, [], 0), (16, .invokevirtual 484, 3, [0, 1, 1, 176, 1817, 0, 16], 0)]),
  (19, [(19, .aload_n 0, 1, [], 0), (20, .invokevirtual 418, 3, [1, 2, 1, 138, 1711, 16], 0), (23, .ifCond .ne 10, 3, [], 0)]),
  (26, [(26, .aload_n 0, 1, [], 0), (27, .invokevirtual 433, 3, [0, 3, 1, 147, 1734, 16], 0), (30, .goto (-11), 3, [], 0)]),
  (33, [(33, .aload_n 0, 1, [], 0), (34, .getfield 406, 3, [12, 48, 0, 0, 1370, 0], 0), (37, .ireturn, 1, [], 0)])]
def BX12_halt_19 (n : Nat) : Nat → Hp → Option (Int × Hp)
  | 0, _ => none
  | f + 1, h =>
    (bndp (MX12_isRest h) fun r1 =>
    (if r1 ≠ 0 then
    (some ((h 113 48), h))
    else
    (bndh (MX12_slows n h) fun h1 =>
    (BX12_halt_19 n f h1))))
def LX12_halt_19 (n : Nat) (h : Hp) : Option (Int × Hp) :=
(BX12_halt_19 n n h)
def MX12_halt (n : Nat) (x1 : Int) (h : Hp) : Option (Int × Hp) :=
(bndp (MX12_in x1 0 300) fun r1 =>
(if r1 ≠ 0 then
(bndh (MX12_goesOn n x1 h) fun h1 =>
(LX12_halt_19 n h1))
else
(some ((-1), h))))
def wX12_halt {ρ : Type} (n : Nat) : FN ρ := fun a h k => match a with
  | [_, x1] => bnd (MX12_halt n x1 h) (fun r h2 => k r h2)
  | _ => none
def fsX12_halt (n : Nat) (ρ : Type) : List (FN ρ) := [wX12_in, wX12_goesOn n, wX12_isRest, wX12_slows n]
def KBX12_halt_19 (_ : Nat) (bk : Hp → Option (Int × Hp)) : CT (Int × Hp) := [(19, [(0, 16, (some 113))], [], fun a c h => match a, c with
    | [], [] => bk h
    | _, _ => none)]
set_option maxRecDepth 100000 in
theorem eBX12_halt_19 (n f : Nat) (h : Hp) : BX12_halt_19 n (f + 1) h =
  goAt false (kct (KBX12_halt_19 n (BX12_halt_19 n f))) (fun v h => some ((v, h))) (fsX12_halt n _) sdX12_halt 1000 19 [(0, 16, 113)] [] h := rfl
def KMX12_halt (n : Nat) : CT (Int × Hp) := [(19, [(0, 16, (some 113))], [], fun a c h => match a, c with
    | [], [] => LX12_halt_19 n h
    | _, _ => none)]
set_option maxRecDepth 100000 in
theorem eMX12_halt (n : Nat) (x1 : Int) (h : Hp) : MX12_halt n x1 h =
  goAt false (kct (KMX12_halt n)) (fun v h => some ((v, h))) (fsX12_halt n _) sdX12_halt 1000 0 [(0, 16, 113), (1, 0, x1)] [] h := rfl
theorem okX12_halt : mokb (mi 218) = true := by decide +kernel
theorem rkX12_halt : rkOK 1 (mi 218).1.2.2.2.2.2.2.1 (mi 218).1.2.2.2.1 := Or.inr (Or.inl ⟨rfl, rfl, rfl⟩)
def calX12_halt : List Nat := [81, 176, 138, 147]
theorem foX12_halt {l : Launch} {ρ : Type} (n : Nat) : fsOK l false mi calX12_halt (fsX12_halt n ρ) := ⟨sndX12_in, ⟨(sndX12_goesOn n), ⟨sndX12_isRest, ⟨(sndX12_slows n), trivial⟩⟩⟩⟩
theorem ok_sdX12_halt : sdb (mi 218).1.2.1 (insOK mi (mi 218).1.1.cls (mi 218).1.2.2.1 (mi 218).1.2.2.2.2.1 (mi 218).1.2.2.2.2.2.1 calX12_halt false 1) sdX12_halt = true := by decide +kernel
theorem sBX12_halt_19 {l : Launch} {h0 h' : Hp} {v : Int} (h8 : nOf h0 = 148) (n : Nat) : ∀ (f : Nat)  (h : Hp) {r : Int × Hp}, BX12_halt_19 n f h = some r → gWV v h' r → PAt l false (mi 218).1 h0 v h' 19 [(0, 16, 113)] [] h := by
  intro f
  induction f with
  | zero =>
    intro h r H _
    have H2 : (none : Option (Int × Hp)) = some r := H
    cases H2
  | succ f ih =>
    intro h r H hG
    exact pat_w ok_sdX12_halt rkX12_halt h8 (foX12_halt n) (fun v1 h1 q => by
    cases q
    exact ⟨hG.1, fun _ => hG.2⟩) (List.forall_mem_cons.mpr ⟨(fun a c h H => by
      dsimp only at H
      split at H
      · exact ih _ H hG
      · cases H), (fun q9 h9 => by cases h9)⟩) ((eBX12_halt_19 n f  h).symm.trans H)
theorem sLX12_halt_19 {l : Launch} {h0 h' : Hp} {v : Int} (h8 : nOf h0 = 148) (n : Nat)  (h : Hp) {r : Int × Hp} (H : LX12_halt_19 n h = some r) (hG : gWV v h' r) : PAt l false (mi 218).1 h0 v h' 19 [(0, 16, 113)] [] h :=
  sBX12_halt_19 h8 n n h H hG
theorem sMX12_halt {l : Launch} {h0 h' : Hp} {v : Int} (h8 : nOf h0 = 148) (n : Nat) (x1 : Int) (h : Hp) {r : Int × Hp} (H : MX12_halt n x1 h = some r) (hG : gWV v h' r) : PAt l false (mi 218).1 h0 v h' 0 [(0, 16, 113), (1, 0, x1)] [] h :=
  pat_w ok_sdX12_halt rkX12_halt h8 (foX12_halt n) (fun v1 h1 q => by
    cases q
    exact ⟨hG.1, fun _ => hG.2⟩) (List.forall_mem_cons.mpr ⟨(fun a c h H => by
      dsimp only at H
      split at H
      · exact sLX12_halt_19 h8 n _ H hG
      · cases H), (fun q9 h9 => by cases h9)⟩) ((eMX12_halt n x1 h).symm.trans H)
theorem sndX12_halt {ρ : Type} {l : Launch} (n : Nat) : SndF (ρ := ρ) l false (mi 218).1 (wX12_halt n) := by
    intro a h k r H ha ho hn hf
    have h8 := hf rfl
    obtain ⟨x0, x1, rfl⟩ := len2 (show a.length = 2 from ha)
    have u0 := uq16 hn (ho (16, x0) (List.mem_cons_self))
    subst u0
    replace H : bnd (MX12_halt n x1 h) (fun r h2 => k r h2) = some r := H
    obtain ⟨v2, h2, H1, H2⟩ := bnd_some H
    exact ⟨v2, h2, H2, met_mk (mok_base okX12_halt).1 (by decide +kernel) (Nat.le_of_ble_eq_true rfl) ho (sMX12_halt h8 n x1 h H1 ⟨rfl, rfl⟩), fun q => by cases q⟩
/-! X11_due -/
def sdX11_due : SD := [(0, [(0, .iload_n 1, 1, [], 0), (1, .ifCond .lt 14, 3, [], 0)]),
  (4, [(4, .iload_n 1, 1, [], 0), (5, .aload_n 0, 1, [], 0), (6, .getfield 10, 3, [11, 2, 14, 0, 692, 0], 0), (9, .getfield 222, 3, [10, 14, 0, 0, 215, 0], 0), (12, .if_icmp .le 5, 3, [], 0)]),
  (15, [(15, .iconst (-1), 1, [], 0), (16, .ireturn, 1, [], 0)]),
  (17, [(17, .iload_n 1, 1, [], 0), (18, .aload_n 0, 1, [], 0), (19, .getfield 57, 3, [11, 7, 12, 1, 697, 0], 64), (22, .getfield 200, 3, [8, 0, 0, 0, 483, 0], 0), (25, .if_icmp .gt 5, 3, [], 0)]),
  (28, [(28, .iconst 0, 1, [], 0), (29, .ireturn, 1, [], 0)]),
  (30, [(30, .aload_n 0, 1, [], 0), (31, .getfield 57, 3, [11, 7, 12, 1, 697, 0], 64), (34, .getfield 206, 3, [8, 5, 0, 0, 497, 0], 0), (37, .ifCond .eq 6, 3, [], 0)]),
  (40, [(40, .bipush (-2), 2, [], 0), (42, .ireturn, 1, [], 0)]),
  (43, [(43, .aload_n 0, 1, [], 0), (44, .getfield 61, 3, [11, 8, 12, 1, 698, 0], 65), (47, .aload_n 0, 1, [], 0), (48, .getfield 57, 3, [11, 7, 12, 1, 697, 0], 64), (51, .invokevirtual 225, 3, [0, 0, 1, 124, 1120, 12, 12], 0), (54, .iconst 1, 1, [], 0), (55, .istore_n 2, 1, [], 0)]),
  (56, [(56, .iload_n 2, 1, [], 0), (57, .sipush 3000, 3, [], 0), (60, .if_icmp .gt 34, 3, [], 0)]),
  (63, [(63, .aload_n 0, 1, [], 0), (64, .getfield 47, 3, [11, 5, 5, 1, 695, 0], 50), (67, .aload_n 0, 1, [], 0), (68, .getfield 61, 3, [11, 8, 12, 1, 698, 0], 65), (71, .invokevirtual 196, 3, [1, 1, 1, 135, 1024, 12, 5], 0), (74, .pop, 1, [], 0), (75, .aload_n 0, 1, [], 0), (76, .getfield 61, 3, [11, 8, 12, 1, 698, 0], 65), (79, .getfield 200, 3, [8, 0, 0, 0, 483, 0], 0), (82, .iload_n 1, 1, [], 0), (83, .if_icmp .lt 5, 3, [], 0)]),
  (86, [(86, .iload_n 2, 1, [], 0), (87, .ireturn, 1, [], 0)]),
  (88, [(88, .iinc 2 1, 3, [], 0), (91, .goto (-35), 3, [], 0)]),
  (94, [(94, .bipush (-2), 2, [], 0), (96, .ireturn, 1, [], 0)])]
def BX11_due_56 (n : Nat) : Nat → Int → Int → Hp → Option (Int × Hp)
  | 0, _, _, _ => none
  | f + 1, x1, x2, h =>
    (if 3000 < x2 then
    (some ((-2), h))
    else
    (bnd (MX1_tick n 50 65 h) fun r1 h1 =>
    (if (h1 65 0) < x1 then
    (ltt (w32 (x2 + 1)) fun y1 =>
    (BX11_due_56 n f x1 y1 h1))
    else
    (some (x2, h1)))))
def LX11_due_56 (n : Nat) (x1 x2 : Int) (h : Hp) : Option (Int × Hp) :=
(BX11_due_56 n n x1 x2 h)
def MX11_due (n : Nat) (x1 : Int) (h : Hp) : Option (Int × Hp) :=
(if x1 < 0 then
(some ((-1), h))
else
(if x1 ≤ (h (h 0 2) 14) then
(if (h 64 0) < x1 then
(if (h 64 5) = 0 then
(bndh (MX8_become 65 64 h) fun h1 =>
(ltt 1 fun y1 =>
(LX11_due_56 n x1 y1 h1)))
else
(some ((-2), h)))
else
(some (0, h)))
else
(some ((-1), h))))
def wX11_due {ρ : Type} (n : Nat) : FN ρ := fun a h k => match a with
  | [_, x1] => bnd (MX11_due n x1 h) (fun r h2 => k r h2)
  | _ => none
def fsX11_due (n : Nat) (ρ : Type) : List (FN ρ) := [wX8_become, wX1_tick n]
def KBX11_due_56 (_ : Nat) (bk : Int → Int → Hp → Option (Int × Hp)) : CT (Int × Hp) := [(56, [(0, 15, (some 0)), (1, 0, none), (2, 0, none)], [], fun a c h => match a, c with
    | [x1, x2], [] => bk x1 x2 h
    | _, _ => none)]
set_option maxRecDepth 100000 in
theorem eBX11_due_56 (n f : Nat) (x1 : Int) (x2 : Int) (h : Hp) : BX11_due_56 n (f + 1) x1 x2 h =
  goAt false (kct (KBX11_due_56 n (BX11_due_56 n f))) (fun v h => some ((v, h))) (fsX11_due n _) sdX11_due 1000 56 [(0, 15, 0), (1, 0, x1), (2, 0, x2)] [] h := rfl
def KMX11_due (n : Nat) : CT (Int × Hp) := [(56, [(0, 15, (some 0)), (1, 0, none), (2, 0, none)], [], fun a c h => match a, c with
    | [x1, x2], [] => LX11_due_56 n x1 x2 h
    | _, _ => none)]
set_option maxRecDepth 100000 in
theorem eMX11_due (n : Nat) (x1 : Int) (h : Hp) : MX11_due n x1 h =
  goAt false (kct (KMX11_due n)) (fun v h => some ((v, h))) (fsX11_due n _) sdX11_due 1000 0 [(0, 15, 0), (1, 0, x1)] [] h := rfl
theorem okX11_due : mokb (mi 219) = true := by decide +kernel
theorem rkX11_due : rkOK 1 (mi 219).1.2.2.2.2.2.2.1 (mi 219).1.2.2.2.1 := Or.inr (Or.inl ⟨rfl, rfl, rfl⟩)
def calX11_due : List Nat := [124, 135]
theorem foX11_due {l : Launch} {ρ : Type} (n : Nat) : fsOK l false mi calX11_due (fsX11_due n ρ) := ⟨sndX8_become, ⟨(sndX1_tick n), trivial⟩⟩
theorem ok_sdX11_due : sdb (mi 219).1.2.1 (insOK mi (mi 219).1.1.cls (mi 219).1.2.2.1 (mi 219).1.2.2.2.2.1 (mi 219).1.2.2.2.2.2.1 calX11_due false 1) sdX11_due = true := by decide +kernel
theorem sBX11_due_56 {l : Launch} {h0 h' : Hp} {v : Int} (h8 : nOf h0 = 148) (n : Nat) : ∀ (f : Nat) (x1 : Int) (x2 : Int) (h : Hp) {r : Int × Hp}, BX11_due_56 n f x1 x2 h = some r → gWV v h' r → PAt l false (mi 219).1 h0 v h' 56 [(0, 15, 0), (1, 0, x1), (2, 0, x2)] [] h := by
  intro f
  induction f with
  | zero =>
    intro x1 x2 h r H _
    have H2 : (none : Option (Int × Hp)) = some r := H
    cases H2
  | succ f ih =>
    intro x1 x2 h r H hG
    exact pat_w ok_sdX11_due rkX11_due h8 (foX11_due n) (fun v1 h1 q => by
    cases q
    exact ⟨hG.1, fun _ => hG.2⟩) (List.forall_mem_cons.mpr ⟨(fun a c h H => by
      dsimp only at H
      split at H
      · exact ih _ _ _ H hG
      · cases H), (fun q9 h9 => by cases h9)⟩) ((eBX11_due_56 n f x1 x2 h).symm.trans H)
theorem sLX11_due_56 {l : Launch} {h0 h' : Hp} {v : Int} (h8 : nOf h0 = 148) (n : Nat) (x1 : Int) (x2 : Int) (h : Hp) {r : Int × Hp} (H : LX11_due_56 n x1 x2 h = some r) (hG : gWV v h' r) : PAt l false (mi 219).1 h0 v h' 56 [(0, 15, 0), (1, 0, x1), (2, 0, x2)] [] h :=
  sBX11_due_56 h8 n n x1 x2 h H hG
theorem sMX11_due {l : Launch} {h0 h' : Hp} {v : Int} (h8 : nOf h0 = 148) (n : Nat) (x1 : Int) (h : Hp) {r : Int × Hp} (H : MX11_due n x1 h = some r) (hG : gWV v h' r) : PAt l false (mi 219).1 h0 v h' 0 [(0, 15, 0), (1, 0, x1)] [] h :=
  pat_w ok_sdX11_due rkX11_due h8 (foX11_due n) (fun v1 h1 q => by
    cases q
    exact ⟨hG.1, fun _ => hG.2⟩) (List.forall_mem_cons.mpr ⟨(fun a c h H => by
      dsimp only at H
      split at H
      · exact sLX11_due_56 h8 n _ _ _ H hG
      · cases H), (fun q9 h9 => by cases h9)⟩) ((eMX11_due n x1 h).symm.trans H)
theorem sndX11_due {ρ : Type} {l : Launch} (n : Nat) : SndF (ρ := ρ) l false (mi 219).1 (wX11_due n) := by
    intro a h k r H ha ho hn hf
    have h8 := hf rfl
    obtain ⟨x0, x1, rfl⟩ := len2 (show a.length = 2 from ha)
    have u0 := uq15 hn (ho (15, x0) (List.mem_cons_self))
    subst u0
    replace H : bnd (MX11_due n x1 h) (fun r h2 => k r h2) = some r := H
    obtain ⟨v2, h2, H1, H2⟩ := bnd_some H
    exact ⟨v2, h2, H2, met_mk (mok_base okX11_due).1 (by decide +kernel) (Nat.le_of_ble_eq_true rfl) ho (sMX11_due h8 n x1 h H1 ⟨rfl, rfl⟩), fun q => by cases q⟩
/-! X12_due -/
def sdX12_due : SD := [(0, [(0, .iload_n 1, 1, [], 0), (1, .i2l, 1, [], 0), (2, .lconst 0, 1, [], 0), (3, .aload_n 0, 1, [], 0), (4, .invokevirtual 393, 3, [1, 0, 1, 139, 1715, 16], 0), (7, .i2l, 1, [], 0), (8, .invokestatic 217, 3, [1, 1, 3, 81, 1561, 1, 1, 1], 0), (11, .ifCond .ne 5, 3, [], 0)]),
  (14, [(14, .iconst (-1), 1, [], 0), (15, .ireturn, 1, [], 0)]),
  (16, [(16, .aload_n 0, 1, [], 0), (17, .invokevirtual 459, 3, [0, 2, 1, 116, 1673, 16], 0), (20, .aload_n 0, 1, [], 0), (21, .invokevirtual 462, 3, [0, 3, 1, 137, 1703, 16], 0), (24, .aload_n 0, 1, [], 0), (25, .getfield 406, 3, [12, 48, 0, 0, 1370, 0], 0), (28, .iload_n 1, 1, [], 0), (29, .if_icmp .lt 5, 3, [], 0)]),
  (32, [(32, .iconst 0, 1, [], 0), (33, .ireturn, 1, [], 0)]),
  (34, [(34, .aload_n 0, 1, [], 0), (35, .getfield 415, 3, [12, 52, 0, 0, 1374, 0], 0), (38, .ifCond .eq 6, 3, [], 0)]),
  (41, [(41, .bipush (-2), 2, [], 0), (43, .ireturn, 1, [], 0)]),
  (44, [(44, .iconst 1, 1, [], 0), (45, .istore_n 2, 1, [], 0)]),
  (46, [(46, .iload_n 2, 1, [], 0), (47, .sipush 3000, 3, [], 0), (50, .if_icmp .gt 23, 3, [], 0)]),
  (53, [(53, .aload_n 0, 1, [], 0), (54, .invokevirtual 443, 3, [0, 4, 1, 152, 1730, 16], 0), (57, .aload_n 0, 1, [], 0), (58, .getfield 406, 3, [12, 48, 0, 0, 1370, 0], 0), (61, .iload_n 1, 1, [], 0), (62, .if_icmp .lt 5, 3, [], 0)]),
  (65, [(65, .iload_n 2, 1, [], 0), (66, .ireturn, 1, [], 0)]),
  (67, [(67, .iinc 2 1, 3, [], 0), (70, .goto (-24), 3, [], 0)]),
  (73, [(73, .bipush (-2), 2, [], 0), (75, .ireturn, 1, [], 0)])]
def BX12_due_46 (n : Nat) : Nat → Int → Int → Hp → Option (Int × Hp)
  | 0, _, _, _ => none
  | f + 1, x1, x2, h =>
    (if 3000 < x2 then
    (some ((-2), h))
    else
    (bndh (MX12_tick n h) fun h1 =>
    (if (h1 113 48) < x1 then
    (ltt (w32 (x2 + 1)) fun y1 =>
    (BX12_due_46 n f x1 y1 h1))
    else
    (some (x2, h1)))))
def LX12_due_46 (n : Nat) (x1 x2 : Int) (h : Hp) : Option (Int × Hp) :=
(BX12_due_46 n n x1 x2 h)
def MX12_due (n : Nat) (x1 : Int) (h : Hp) : Option (Int × Hp) :=
(bndp (MX12_all h) fun r1 =>
(bndp (MX12_in x1 0 r1) fun r2 =>
(if r2 ≠ 0 then
(bndh (MX12_laysNow n h) fun h1 =>
(bndh (MX12_begins h1) fun h2 =>
(if (h2 113 48) < x1 then
(if (h2 113 52) = 0 then
(ltt 1 fun y1 =>
(LX12_due_46 n x1 y1 h2))
else
(some ((-2), h2)))
else
(some (0, h2)))))
else
(some ((-1), h)))))
def wX12_due {ρ : Type} (n : Nat) : FN ρ := fun a h k => match a with
  | [_, x1] => bnd (MX12_due n x1 h) (fun r h2 => k r h2)
  | _ => none
def fsX12_due (n : Nat) (ρ : Type) : List (FN ρ) := [wX12_all, wX12_in, wX12_laysNow n, wX12_begins, wX12_tick n]
def KBX12_due_46 (_ : Nat) (bk : Int → Int → Hp → Option (Int × Hp)) : CT (Int × Hp) := [(46, [(0, 16, (some 113)), (1, 0, none), (2, 0, none)], [], fun a c h => match a, c with
    | [x1, x2], [] => bk x1 x2 h
    | _, _ => none)]
set_option maxRecDepth 100000 in
theorem eBX12_due_46 (n f : Nat) (x1 : Int) (x2 : Int) (h : Hp) : BX12_due_46 n (f + 1) x1 x2 h =
  goAt false (kct (KBX12_due_46 n (BX12_due_46 n f))) (fun v h => some ((v, h))) (fsX12_due n _) sdX12_due 1000 46 [(0, 16, 113), (1, 0, x1), (2, 0, x2)] [] h := rfl
def KMX12_due (n : Nat) : CT (Int × Hp) := [(46, [(0, 16, (some 113)), (1, 0, none), (2, 0, none)], [], fun a c h => match a, c with
    | [x1, x2], [] => LX12_due_46 n x1 x2 h
    | _, _ => none)]
set_option maxRecDepth 100000 in
theorem eMX12_due (n : Nat) (x1 : Int) (h : Hp) : MX12_due n x1 h =
  goAt false (kct (KMX12_due n)) (fun v h => some ((v, h))) (fsX12_due n _) sdX12_due 1000 0 [(0, 16, 113), (1, 0, x1)] [] h := rfl
theorem okX12_due : mokb (mi 220) = true := by decide +kernel
theorem rkX12_due : rkOK 1 (mi 220).1.2.2.2.2.2.2.1 (mi 220).1.2.2.2.1 := Or.inr (Or.inl ⟨rfl, rfl, rfl⟩)
def calX12_due : List Nat := [139, 81, 116, 137, 152]
theorem foX12_due {l : Launch} {ρ : Type} (n : Nat) : fsOK l false mi calX12_due (fsX12_due n ρ) := ⟨sndX12_all, ⟨sndX12_in, ⟨(sndX12_laysNow n), ⟨sndX12_begins, ⟨(sndX12_tick n), trivial⟩⟩⟩⟩⟩
theorem ok_sdX12_due : sdb (mi 220).1.2.1 (insOK mi (mi 220).1.1.cls (mi 220).1.2.2.1 (mi 220).1.2.2.2.2.1 (mi 220).1.2.2.2.2.2.1 calX12_due false 1) sdX12_due = true := by decide +kernel
theorem sBX12_due_46 {l : Launch} {h0 h' : Hp} {v : Int} (h8 : nOf h0 = 148) (n : Nat) : ∀ (f : Nat) (x1 : Int) (x2 : Int) (h : Hp) {r : Int × Hp}, BX12_due_46 n f x1 x2 h = some r → gWV v h' r → PAt l false (mi 220).1 h0 v h' 46 [(0, 16, 113), (1, 0, x1), (2, 0, x2)] [] h := by
  intro f
  induction f with
  | zero =>
    intro x1 x2 h r H _
    have H2 : (none : Option (Int × Hp)) = some r := H
    cases H2
  | succ f ih =>
    intro x1 x2 h r H hG
    exact pat_w ok_sdX12_due rkX12_due h8 (foX12_due n) (fun v1 h1 q => by
    cases q
    exact ⟨hG.1, fun _ => hG.2⟩) (List.forall_mem_cons.mpr ⟨(fun a c h H => by
      dsimp only at H
      split at H
      · exact ih _ _ _ H hG
      · cases H), (fun q9 h9 => by cases h9)⟩) ((eBX12_due_46 n f x1 x2 h).symm.trans H)
theorem sLX12_due_46 {l : Launch} {h0 h' : Hp} {v : Int} (h8 : nOf h0 = 148) (n : Nat) (x1 : Int) (x2 : Int) (h : Hp) {r : Int × Hp} (H : LX12_due_46 n x1 x2 h = some r) (hG : gWV v h' r) : PAt l false (mi 220).1 h0 v h' 46 [(0, 16, 113), (1, 0, x1), (2, 0, x2)] [] h :=
  sBX12_due_46 h8 n n x1 x2 h H hG
theorem sMX12_due {l : Launch} {h0 h' : Hp} {v : Int} (h8 : nOf h0 = 148) (n : Nat) (x1 : Int) (h : Hp) {r : Int × Hp} (H : MX12_due n x1 h = some r) (hG : gWV v h' r) : PAt l false (mi 220).1 h0 v h' 0 [(0, 16, 113), (1, 0, x1)] [] h :=
  pat_w ok_sdX12_due rkX12_due h8 (foX12_due n) (fun v1 h1 q => by
    cases q
    exact ⟨hG.1, fun _ => hG.2⟩) (List.forall_mem_cons.mpr ⟨(fun a c h H => by
      dsimp only at H
      split at H
      · exact sLX12_due_46 h8 n _ _ _ H hG
      · cases H), (fun q9 h9 => by cases h9)⟩) ((eMX12_due n x1 h).symm.trans H)
theorem sndX12_due {ρ : Type} {l : Launch} (n : Nat) : SndF (ρ := ρ) l false (mi 220).1 (wX12_due n) := by
    intro a h k r H ha ho hn hf
    have h8 := hf rfl
    obtain ⟨x0, x1, rfl⟩ := len2 (show a.length = 2 from ha)
    have u0 := uq16 hn (ho (16, x0) (List.mem_cons_self))
    subst u0
    replace H : bnd (MX12_due n x1 h) (fun r h2 => k r h2) = some r := H
    obtain ⟨v2, h2, H1, H2⟩ := bnd_some H
    exact ⟨v2, h2, H2, met_mk (mok_base okX12_due).1 (by decide +kernel) (Nat.le_of_ble_eq_true rfl) ho (sMX12_due h8 n x1 h H1 ⟨rfl, rfl⟩), fun q => by cases q⟩
/-! X10_isSlowedBy -/
def sdX10_isSlowedBy : SD := [(0, [(0, .aload_n 0, 1, [], 0), (1, .iload_n 1, 1, [], 0), (2, .iload_n 2, 1, [], 0), (3, .invokevirtual 71, 3, [1, 0, 1, 44, 957, 0, 0, 14], 0), (6, .istore_n 3, 1, [], 0), (7, .iload_n 3, 1, [], 0), (8, .ifCond .eq 28, 3, [], 0)]),
  (11, [(11, .aload_n 0, 1, [], 0), (12, .iload_n 1, 1, [], 0), (13, .iload_n 3, 1, [], 0), (14, .aload_n 0, 1, [], 0), (15, .getfield 9, 3, [10, 0, 68, 1, 165, 0], 1), (18, .iload_n 2, 1, [], 0), (19, .iaload, 1, [], 0), (20, .invokevirtual 93, 3, [1, 1, 1, 45, 965, 0, 0, 0, 14], 0), (23, .aload_n 0, 1, [], 0), (24, .getfield 29, 3, [10, 5, 532, 1, 182, 0], 9), (27, .iload_n 1, 1, [], 0), (28, .iaload, 1, [], 0), (29, .if_icmp .ne 7, 3, [], 0)]),
  (32, [(32, .iconst 1, 1, [], 0), (33, .goto 4, 3, [], 0)]),
  (36, [(36, .iconst 0, 1, [], 0)]),
  (37, [(37, .ireturn, 1, [1], 0)])]
def MX10_isSlowedBy (x0 x1 x2 : Int) (h : Hp) : Option (Int) :=
(bndp (MX10_step x0 x1 x2 h) fun r1 =>
(ltt r1 fun y1 =>
(if y1 = 0 then
(some 0)
else
(grd (0 ≤ x2 ∧ x2 < alen 68)
(bndp (MX10_rateAlong x0 x1 y1 (h (x0 + 1) x2) h) fun r2 =>
(grd (0 ≤ x1 ∧ x1 < alen 532)
(if r2 ≠ (h (x0 + 9) x1) then
(some 0)
else
(some 1))))))))
def wX10_isSlowedBy {ρ : Type} : FN ρ := fun a h k => match a with
  | [x0, x1, x2] => bndp (MX10_isSlowedBy x0 x1 x2 h) (fun r => k r h)
  | _ => none
def fsX10_isSlowedBy (ρ : Type) : List (FN ρ) := [wX10_step, wX10_rateAlong]
def KMX10_isSlowedBy  : CT (Int) := []
set_option maxRecDepth 100000 in
theorem eMX10_isSlowedBy (x0 : Int) (x1 : Int) (x2 : Int) (h : Hp) : MX10_isSlowedBy x0 x1 x2 h =
  goAt false (kct (KMX10_isSlowedBy)) (fun v _ => some (v)) (fsX10_isSlowedBy _) sdX10_isSlowedBy 1000 0 [(0, 14, x0), (1, 0, x1), (2, 0, x2)] [] h := rfl
theorem okX10_isSlowedBy : mokb (mi 221) = true := by decide +kernel
theorem rkX10_isSlowedBy : rkOK 4 (mi 221).1.2.2.2.2.2.2.1 (mi 221).1.2.2.2.1 := Or.inr (Or.inr (Or.inl ⟨rfl, rfl, rfl⟩))
def calX10_isSlowedBy : List Nat := [44, 45]
theorem foX10_isSlowedBy {l : Launch} {ρ : Type} : fsOK l false mi calX10_isSlowedBy (fsX10_isSlowedBy ρ) := ⟨sndX10_step, ⟨sndX10_rateAlong, trivial⟩⟩
theorem frX10_isSlowedBy {ρ : Type} : ∀ fn ∈ fsX10_isSlowedBy ρ, RoF fn := (List.forall_mem_cons.mpr ⟨roX10_step, (List.forall_mem_cons.mpr ⟨roX10_rateAlong, (fun q9 h9 => by cases h9)⟩)⟩)
theorem ok_sdX10_isSlowedBy : sdb (mi 221).1.2.1 (insOK mi (mi 221).1.1.cls (mi 221).1.2.2.1 (mi 221).1.2.2.2.2.1 (mi 221).1.2.2.2.2.2.1 calX10_isSlowedBy false 4) sdX10_isSlowedBy = true := by decide +kernel
theorem sMX10_isSlowedBy {l : Launch} {h0 : Hp} {v : Int} (h8 : nOf h0 = 148)  (x0 : Int) (x1 : Int) (x2 : Int) (h : Hp) {r : Int} (H : MX10_isSlowedBy x0 x1 x2 h = some r) (hG : gV v r) : PAt l false (mi 221).1 h0 v h 0 [(0, 14, x0), (1, 0, x1), (2, 0, x2)] [] h :=
  pat_ro ok_sdX10_isSlowedBy rfl rkX10_isSlowedBy h8 (foX10_isSlowedBy) (frX10_isSlowedBy) (fun v1 q => by
    cases q
    exact ⟨rfl, fun _ => hG⟩) (fun q9 h9 => by cases h9) ((eMX10_isSlowedBy x0 x1 x2 h).symm.trans H)
theorem sndX10_isSlowedBy {ρ : Type} {l : Launch} : SndF (ρ := ρ) l false (mi 221).1 (wX10_isSlowedBy) := by
    intro a h k r H ha ho hn hf
    have h8 := hf rfl
    obtain ⟨x0, x1, x2, rfl⟩ := len3 (show a.length = 3 from ha)
    replace H : bndp (MX10_isSlowedBy x0 x1 x2 h) (fun r => k r h) = some r := H
    obtain ⟨v2, H1, H2⟩ := bndp_some H
    exact ⟨v2, h, H2, met_mk (mok_base okX10_isSlowedBy).1 (by decide +kernel) (Nat.le_of_ble_eq_true rfl) ho (sMX10_isSlowedBy h8 x0 x1 x2 h H1 rfl), fun q => by cases q⟩
theorem roX10_isSlowedBy {ρ : Type} : RoF (wX10_isSlowedBy : FN ρ) := fun a h k k2 hk => by
  unfold wX10_isSlowedBy
  split
  · exact bndp_ro hk
  · rfl
/-! X4_bindOf -/
def sdX4_bindOf : SD := [(0, [(0, .aload_n 0, 1, [], 0), (1, .iload_n 1, 1, [], 0), (2, .invokevirtual 86, 3, [1, 0, 1, 57, 609, 0, 8], 0), (5, .istore_n 2, 1, [], 0), (6, .iload_n 2, 1, [], 0), (7, .iconst 1, 1, [], 0), (8, .if_icmp .lt 9, 3, [], 0)]),
  (11, [(11, .iload_n 2, 1, [], 0), (12, .bipush 100, 2, [], 0), (14, .if_icmp .le 5, 3, [], 0)]),
  (17, [(17, .iconst 4, 1, [], 0), (18, .ireturn, 1, [], 0)]),
  (19, [(19, .aload_n 0, 1, [], 0), (20, .iload_n 1, 1, [], 0), (21, .invokevirtual 92, 3, [1, 1, 1, 56, 613, 0, 8], 0), (24, .aload_n 0, 1, [], 0), (25, .getfield 34, 3, [4, 0, 14, 0, 430, 0], 0), (28, .getfield 95, 3, [10, 5, 532, 1, 184, 0], 9), (31, .iload_n 1, 1, [], 0), (32, .iaload, 1, [], 0), (33, .if_icmp .gt 5, 3, [], 0)]),
  (36, [(36, .iconst 3, 1, [], 0), (37, .ireturn, 1, [], 0)]),
  (38, [(38, .aload_n 0, 1, [], 0), (39, .getfield 34, 3, [4, 0, 14, 0, 430, 0], 0), (42, .iload_n 1, 1, [], 0), (43, .iconst 0, 1, [], 0), (44, .invokevirtual 98, 3, [1, 2, 1, 221, 1205, 0, 0, 14], 0), (47, .ifCond .eq 7, 3, [], 0)]),
  (50, [(50, .iconst 0, 1, [], 0), (51, .goto 20, 3, [], 0)]),
  (54, [(54, .aload_n 0, 1, [], 0), (55, .getfield 34, 3, [4, 0, 14, 0, 430, 0], 0), (58, .iload_n 1, 1, [], 0), (59, .iconst 1, 1, [], 0), (60, .invokevirtual 98, 3, [1, 2, 1, 221, 1205, 0, 0, 14], 0), (63, .ifCond .eq 7, 3, [], 0)]),
  (66, [(66, .iconst 1, 1, [], 0), (67, .goto 4, 3, [], 0)]),
  (70, [(70, .iconst 2, 1, [], 0)]),
  (71, [(71, .ireturn, 1, [], 0)])]
def MX4_bindOf (x0 x1 : Int) (h : Hp) : Option (Int) :=
(bndp (MX4_freeLimit x0 x1 h) fun r1 =>
(ltt r1 fun y1 =>
(if y1 < 1 then
(some 4)
else
(if y1 ≤ 100 then
(bndp (MX4_fedSpeed x0 x1 h) fun r2 =>
(grd (0 ≤ x1 ∧ x1 < alen 532)
(if (h ((h x0 0) + 9) x1) < r2 then
(bndp (MX10_isSlowedBy (h x0 0) x1 0 h) fun r3 =>
(if r3 = 0 then
(bndp (MX10_isSlowedBy (h x0 0) x1 1 h) fun r4 =>
(if r4 = 0 then
(some 2)
else
(some 1)))
else
(some 0)))
else
(some 3))))
else
(some 4)))))
def wX4_bindOf {ρ : Type} : FN ρ := fun a h k => match a with
  | [x0, x1] => bndp (MX4_bindOf x0 x1 h) (fun r => k r h)
  | _ => none
def fsX4_bindOf (ρ : Type) : List (FN ρ) := [wX4_freeLimit, wX4_fedSpeed, wX10_isSlowedBy]
def KMX4_bindOf  : CT (Int) := []
set_option maxRecDepth 100000 in
theorem eMX4_bindOf (x0 : Int) (x1 : Int) (h : Hp) : MX4_bindOf x0 x1 h =
  goAt false (kct (KMX4_bindOf)) (fun v _ => some (v)) (fsX4_bindOf _) sdX4_bindOf 1000 0 [(0, 8, x0), (1, 0, x1)] [] h := rfl
theorem okX4_bindOf : mokb (mi 222) = true := by decide +kernel
theorem rkX4_bindOf : rkOK 1 (mi 222).1.2.2.2.2.2.2.1 (mi 222).1.2.2.2.1 := Or.inr (Or.inl ⟨rfl, rfl, rfl⟩)
def calX4_bindOf : List Nat := [57, 56, 221]
theorem foX4_bindOf {l : Launch} {ρ : Type} : fsOK l false mi calX4_bindOf (fsX4_bindOf ρ) := ⟨sndX4_freeLimit, ⟨sndX4_fedSpeed, ⟨sndX10_isSlowedBy, trivial⟩⟩⟩
theorem frX4_bindOf {ρ : Type} : ∀ fn ∈ fsX4_bindOf ρ, RoF fn := (List.forall_mem_cons.mpr ⟨roX4_freeLimit, (List.forall_mem_cons.mpr ⟨roX4_fedSpeed, (List.forall_mem_cons.mpr ⟨roX10_isSlowedBy, (fun q9 h9 => by cases h9)⟩)⟩)⟩)
theorem ok_sdX4_bindOf : sdb (mi 222).1.2.1 (insOK mi (mi 222).1.1.cls (mi 222).1.2.2.1 (mi 222).1.2.2.2.2.1 (mi 222).1.2.2.2.2.2.1 calX4_bindOf false 1) sdX4_bindOf = true := by decide +kernel
theorem sMX4_bindOf {l : Launch} {h0 : Hp} {v : Int} (h8 : nOf h0 = 148)  (x0 : Int) (x1 : Int) (h : Hp) {r : Int} (H : MX4_bindOf x0 x1 h = some r) (hG : gV v r) : PAt l false (mi 222).1 h0 v h 0 [(0, 8, x0), (1, 0, x1)] [] h :=
  pat_ro ok_sdX4_bindOf rfl rkX4_bindOf h8 (foX4_bindOf) (frX4_bindOf) (fun v1 q => by
    cases q
    exact ⟨rfl, fun _ => hG⟩) (fun q9 h9 => by cases h9) ((eMX4_bindOf x0 x1 h).symm.trans H)
theorem sndX4_bindOf {ρ : Type} {l : Launch} : SndF (ρ := ρ) l false (mi 222).1 (wX4_bindOf) := by
    intro a h k r H ha ho hn hf
    have h8 := hf rfl
    obtain ⟨x0, x1, rfl⟩ := len2 (show a.length = 2 from ha)
    replace H : bndp (MX4_bindOf x0 x1 h) (fun r => k r h) = some r := H
    obtain ⟨v2, H1, H2⟩ := bndp_some H
    exact ⟨v2, h, H2, met_mk (mok_base okX4_bindOf).1 (by decide +kernel) (Nat.le_of_ble_eq_true rfl) ho (sMX4_bindOf h8 x0 x1 h H1 rfl), fun q => by cases q⟩
theorem roX4_bindOf {ρ : Type} : RoF (wX4_bindOf : FN ρ) := fun a h k k2 hk => by
  unfold wX4_bindOf
  split
  · exact bndp_ro hk
  · rfl
/-! X11_binds -/
def sdX11_binds : SD := [(0, [(0, .aload_n 0, 1, [], 0), (1, .getfield 10, 3, [11, 2, 14, 0, 692, 0], 0), (4, .iload_n 1, 1, [], 0), (5, .invokevirtual 142, 3, [1, 0, 1, 43, 984, 0, 14], 0), (8, .ifCond .eq 17, 3, [], 0)]),
  (11, [(11, .aload_n 0, 1, [], 0), (12, .getfield 47, 3, [11, 5, 5, 1, 695, 0], 50), (15, .getfield 157, 3, [1, 0, 8, 1, 465, 0], 2), (18, .iload_n 1, 1, [], 0), (19, .invokevirtual 267, 3, [1, 1, 1, 222, 1201, 0, 8], 0), (22, .goto 4, 3, [], 0)]),
  (25, [(25, .iconst (-1), 1, [], 0)]),
  (26, [(26, .ireturn, 1, [], 0)])]
def MX11_binds (x1 : Int) (h : Hp) : Option (Int) :=
(bndp (MX10_has (h 0 2) x1 h) fun r1 =>
(if r1 = 0 then
(some (-1))
else
(bndp (MX4_bindOf 52 x1 h) fun r2 =>
(some r2))))
def wX11_binds {ρ : Type} : FN ρ := fun a h k => match a with
  | [_, x1] => bndp (MX11_binds x1 h) (fun r => k r h)
  | _ => none
def fsX11_binds (ρ : Type) : List (FN ρ) := [wX10_has, wX4_bindOf]
def KMX11_binds  : CT (Int) := []
set_option maxRecDepth 100000 in
theorem eMX11_binds (x1 : Int) (h : Hp) : MX11_binds x1 h =
  goAt false (kct (KMX11_binds)) (fun v _ => some (v)) (fsX11_binds _) sdX11_binds 1000 0 [(0, 15, 0), (1, 0, x1)] [] h := rfl
theorem okX11_binds : mokb (mi 223) = true := by decide +kernel
theorem rkX11_binds : rkOK 1 (mi 223).1.2.2.2.2.2.2.1 (mi 223).1.2.2.2.1 := Or.inr (Or.inl ⟨rfl, rfl, rfl⟩)
def calX11_binds : List Nat := [43, 222]
theorem foX11_binds {l : Launch} {ρ : Type} : fsOK l false mi calX11_binds (fsX11_binds ρ) := ⟨sndX10_has, ⟨sndX4_bindOf, trivial⟩⟩
theorem frX11_binds {ρ : Type} : ∀ fn ∈ fsX11_binds ρ, RoF fn := (List.forall_mem_cons.mpr ⟨roX10_has, (List.forall_mem_cons.mpr ⟨roX4_bindOf, (fun q9 h9 => by cases h9)⟩)⟩)
theorem ok_sdX11_binds : sdb (mi 223).1.2.1 (insOK mi (mi 223).1.1.cls (mi 223).1.2.2.1 (mi 223).1.2.2.2.2.1 (mi 223).1.2.2.2.2.2.1 calX11_binds false 1) sdX11_binds = true := by decide +kernel
theorem sMX11_binds {l : Launch} {h0 : Hp} {v : Int} (h8 : nOf h0 = 148)  (x1 : Int) (h : Hp) {r : Int} (H : MX11_binds x1 h = some r) (hG : gV v r) : PAt l false (mi 223).1 h0 v h 0 [(0, 15, 0), (1, 0, x1)] [] h :=
  pat_ro ok_sdX11_binds rfl rkX11_binds h8 (foX11_binds) (frX11_binds) (fun v1 q => by
    cases q
    exact ⟨rfl, fun _ => hG⟩) (fun q9 h9 => by cases h9) ((eMX11_binds x1 h).symm.trans H)
theorem sndX11_binds {ρ : Type} {l : Launch} : SndF (ρ := ρ) l false (mi 223).1 (wX11_binds) := by
    intro a h k r H ha ho hn hf
    have h8 := hf rfl
    obtain ⟨x0, x1, rfl⟩ := len2 (show a.length = 2 from ha)
    have u0 := uq15 hn (ho (15, x0) (List.mem_cons_self))
    subst u0
    replace H : bndp (MX11_binds x1 h) (fun r => k r h) = some r := H
    obtain ⟨v2, H1, H2⟩ := bndp_some H
    exact ⟨v2, h, H2, met_mk (mok_base okX11_binds).1 (by decide +kernel) (Nat.le_of_ble_eq_true rfl) ho (sMX11_binds h8 x1 h H1 rfl), fun q => by cases q⟩
theorem roX11_binds {ρ : Type} : RoF (wX11_binds : FN ρ) := fun a h k k2 hk => by
  unfold wX11_binds
  split
  · exact bndp_ro hk
  · rfl
/-! X12_binds -/
def sdX12_binds : SD := [(0, [(0, .iload_n 1, 1, [], 0), (1, .i2l, 1, [], 0), (2, .lconst 0, 1, [], 0), (3, .aload_n 0, 1, [], 0), (4, .getfield 140, 3, [12, 6, 0, 0, 1328, 0], 0), (7, .iconst 1, 1, [], 0), (8, .isub, 1, [], 0), (9, .i2l, 1, [], 0), (10, .invokestatic 217, 3, [1, 0, 3, 81, 1561, 1, 1, 1], 0), (13, .ifCond .ne 5, 3, [], 0)]),
  (16, [(16, .iconst (-1), 1, [], 0), (17, .ireturn, 1, [], 0)]),
  (18, [(18, .aload_n 0, 1, [], 0), (19, .invokevirtual 459, 3, [0, 1, 1, 116, 1673, 16], 0), (22, .aload_n 0, 1, [], 0), (23, .getfield 40, 3, [12, 15, 532, 1, 1337, 0], 10), (26, .iload_n 1, 1, [], 0), (27, .iaload, 1, [], 0), (28, .aload_n 0, 1, [], 0), (29, .getfield 158, 3, [12, 45, 0, 0, 1367, 0], 0), (32, .imul, 1, [], 0), (33, .bipush 100, 2, [], 0), (35, .idiv, 1, [], 0), (36, .istore_n 2, 1, [], 0), (37, .iload_n 2, 1, [], 0), (38, .aload_n 0, 1, [], 0), (39, .getfield 68, 3, [12, 34, 532, 1, 1356, 0], 19), (42, .iload_n 1, 1, [], 0), (43, .iaload, 1, [], 0), (44, .invokestatic 258, 3, [1, 2, 3, 261, 1596, 0, 0], 0), (47, .aload_n 0, 1, [], 0), (48, .getfield 366, 3, [12, 40, 0, 0, 1362, 0], 0), (51, .idiv, 1, [], 0), (52, .istore_n 3, 1, [], 0), (53, .iload_n 3, 1, [], 0), (54, .i2l, 1, [], 0), (55, .lconst 1, 1, [], 0), (56, .ldc2_w 359, 3, [1, 1692], 100), (59, .invokestatic 217, 3, [1, 0, 3, 81, 1561, 1, 1, 1], 0), (62, .ifCond .ne 5, 3, [], 0)]),
  (65, [(65, .iconst 4, 1, [], 0), (66, .ireturn, 1, [], 0)]),
  (67, [(67, .iload_n 2, 1, [], 0), (68, .aload_n 0, 1, [], 0), (69, .getfield 68, 3, [12, 34, 532, 1, 1356, 0], 19), (72, .iload_n 1, 1, [], 0), (73, .iaload, 1, [], 0), (74, .if_icmp .gt 5, 3, [], 0)]),
  (77, [(77, .iconst 3, 1, [], 0), (78, .ireturn, 1, [], 0)]),
  (79, [(79, .iconst 0, 1, [], 0), (80, .istore 4, 2, [], 0)]),
  (82, [(82, .aload_n 0, 1, [], 0), (83, .iload_n 1, 1, [], 0), (84, .iload 4, 2, [], 0), (86, .invokevirtual 146, 3, [1, 3, 1, 106, 1310, 0, 0, 16], 0), (89, .ifCond .eq 42, 3, [], 0)]),
  (92, [(92, .aload_n 0, 1, [], 0), (93, .getfield 15, 3, [12, 1, 84, 1, 1323, 0], 2), (96, .iload 4, 2, [], 0), (98, .iaload, 1, [], 0), (99, .i2l, 1, [], 0), (100, .aload_n 0, 1, [], 0), (101, .getfield 46, 3, [12, 17, 532, 1, 1339, 0], 12), (104, .iload_n 1, 1, [], 0), (105, .iaload, 1, [], 0), (106, .i2l, 1, [], 0), (107, .lmul, 1, [], 0), (108, .aload_n 0, 1, [], 0), (109, .iload_n 1, 1, [], 0), (110, .iload 4, 2, [], 0), (112, .invokevirtual 146, 3, [1, 3, 1, 106, 1310, 0, 0, 16], 0), (115, .invokestatic 286, 3, [1, 4, 3, 263, 1625, 0], 0), (118, .i2l, 1, [], 0), (119, .ldiv, 1, [], 0), (120, .aload_n 0, 1, [], 0), (121, .getfield 68, 3, [12, 34, 532, 1, 1356, 0], 19), (124, .iload_n 1, 1, [], 0), (125, .iaload, 1, [], 0), (126, .i2l, 1, [], 0), (127, .lcmp, 1, [], 0), (128, .ifCond .eq 9, 3, [], 0)]),
  (131, [(131, .iinc 4 1, 3, [], 0), (134, .goto (-52), 3, [], 0)]),
  (137, [(137, .iload 4, 2, [], 0), (139, .ireturn, 1, [], 0)])]
def sdX12_binds_82 : SD := [(82, [(82, .aload_n 0, 1, [], 0), (83, .iload_n 1, 1, [], 0), (84, .iload 4, 2, [], 0), (86, .invokevirtual 146, 3, [1, 3, 1, 106, 1310, 0, 0, 16], 0), (89, .ifCond .eq 42, 3, [], 0)]),
  (92, [(92, .aload_n 0, 1, [], 0), (93, .getfield 15, 3, [12, 1, 84, 1, 1323, 0], 2), (96, .iload 4, 2, [], 0), (98, .iaload, 1, [], 0), (99, .i2l, 1, [], 0), (100, .aload_n 0, 1, [], 0), (101, .getfield 46, 3, [12, 17, 532, 1, 1339, 0], 12), (104, .iload_n 1, 1, [], 0), (105, .iaload, 1, [], 0), (106, .i2l, 1, [], 0), (107, .lmul, 1, [], 0), (108, .aload_n 0, 1, [], 0), (109, .iload_n 1, 1, [], 0), (110, .iload 4, 2, [], 0), (112, .invokevirtual 146, 3, [1, 3, 1, 106, 1310, 0, 0, 16], 0), (115, .invokestatic 286, 3, [1, 4, 3, 263, 1625, 0], 0), (118, .i2l, 1, [], 0), (119, .ldiv, 1, [], 0), (120, .aload_n 0, 1, [], 0), (121, .getfield 68, 3, [12, 34, 532, 1, 1356, 0], 19), (124, .iload_n 1, 1, [], 0), (125, .iaload, 1, [], 0), (126, .i2l, 1, [], 0), (127, .lcmp, 1, [], 0), (128, .ifCond .eq 9, 3, [], 0)]),
  (131, [(131, .iinc 4 1, 3, [], 0), (134, .goto (-52), 3, [], 0)]),
  (137, [(137, .iload 4, 2, [], 0), (139, .ireturn, 1, [], 0)])]
def BX12_binds_82 (n : Nat) : Nat → Int → Int → Hp → Option (Int × Hp)
  | 0, _, _, _ => none
  | f + 1, x1, x4, h =>
    (bndp (MX12_goes x1 x4 h) fun r1 =>
    (if r1 = 0 then
    (ltt (w32 (x4 + 1)) fun y1 =>
    (BX12_binds_82 n f x1 y1 h))
    else
    (grd (0 ≤ x4 ∧ x4 < alen 84)
    (grd (0 ≤ x1 ∧ x1 < alen 532)
    (bndp (MX12_goes x1 x4 h) fun r2 =>
    (grd (¬ (jabs r2) = 0)
    (grd (0 ≤ x1 ∧ x1 < alen 532)
    (if (lcp (w64 (Int.tdiv (w64 ((h 115 x4) * (h 125 x1))) (jabs r2))) (h 132 x1)) = 0 then
    (some (x4, h))
    else
    (ltt (w32 (x4 + 1)) fun y2 =>
    (BX12_binds_82 n f x1 y2 h))))))))))
def LX12_binds_82 (n : Nat) (x1 x4 : Int) (h : Hp) : Option (Int × Hp) :=
(BX12_binds_82 n n x1 x4 h)
def MX12_binds (n : Nat) (x1 : Int) (h : Hp) : Option (Int × Hp) :=
(bndp (MX12_in x1 0 (w32 ((h 113 6) - 1))) fun r1 =>
(if r1 ≠ 0 then
(bndh (MX12_laysNow n h) fun h1 =>
(grd (0 ≤ x1 ∧ x1 < alen 532)
(grd (¬ 100 = 0)
(ltt (w32 (Int.tdiv (w32 ((h1 123 x1) * (h1 113 45))) 100)) fun y1 =>
(grd (0 ≤ x1 ∧ x1 < alen 532)
(grd (¬ (h1 113 40) = 0)
(ltt (w32 (Int.tdiv (min y1 (h1 132 x1)) (h1 113 40))) fun y2 =>
(bndp (MX12_in y2 1 100) fun r2 =>
(if r2 ≠ 0 then
(grd (0 ≤ x1 ∧ x1 < alen 532)
(if (h1 132 x1) < y1 then
(ltt 0 fun y3 =>
(LX12_binds_82 n x1 y3 h1))
else
(some (3, h1))))
else
(some (4, h1)))))))))))
else
(some ((-1), h))))
def wX12_binds {ρ : Type} (n : Nat) : FN ρ := fun a h k => match a with
  | [_, x1] => bnd (MX12_binds n x1 h) (fun r h2 => k r h2)
  | _ => none
def fsX12_binds (n : Nat) (ρ : Type) : List (FN ρ) := [wX12_in, wX12_laysNow n, fmin, wX12_goes, fabs]
def fsX12_binds_82 (n : Nat) (ρ : Type) : List (FN ρ) := [nofn, nofn, nofn, wX12_goes, fabs]
def KBX12_binds_82 (_ : Nat) (bk : Int → Int → Hp → Option (Int × Hp)) : CT (Int × Hp) := [(82, [(0, 16, (some 113)), (1, 0, none), (4, 0, none)], [], fun a c h => match a, c with
    | [x1, x4], [] => bk x1 x4 h
    | _, _ => none)]
set_option maxRecDepth 100000 in
theorem eBX12_binds_82 (n f : Nat) (x1 : Int) (x4 : Int) (h : Hp) : BX12_binds_82 n (f + 1) x1 x4 h =
  goAt false (kct (KBX12_binds_82 n (BX12_binds_82 n f))) (fun v h => some ((v, h))) (fsX12_binds_82 n _) sdX12_binds_82 1000 82 [(0, 16, 113), (1, 0, x1), (4, 0, x4)] [] h := rfl
def KMX12_binds (n : Nat) : CT (Int × Hp) := [(82, [(0, 16, (some 113)), (1, 0, none), (4, 0, none)], [], fun a c h => match a, c with
    | [x1, x4], [] => LX12_binds_82 n x1 x4 h
    | _, _ => none)]
set_option maxRecDepth 100000 in
theorem eMX12_binds (n : Nat) (x1 : Int) (h : Hp) : MX12_binds n x1 h =
  goAt false (kct (KMX12_binds n)) (fun v h => some ((v, h))) (fsX12_binds n _) sdX12_binds 1000 0 [(0, 16, 113), (1, 0, x1)] [] h := rfl
theorem okX12_binds : mokb (mi 224) = true := by decide +kernel
theorem rkX12_binds : rkOK 1 (mi 224).1.2.2.2.2.2.2.1 (mi 224).1.2.2.2.1 := Or.inr (Or.inl ⟨rfl, rfl, rfl⟩)
def calX12_binds : List Nat := [81, 116, 261, 106, 263]
theorem foX12_binds {l : Launch} {ρ : Type} (n : Nat) : fsOK l false mi calX12_binds (fsX12_binds n ρ) := ⟨sndX12_in, ⟨(sndX12_laysNow n), ⟨snd_mmin, ⟨sndX12_goes, ⟨snd_mabs, trivial⟩⟩⟩⟩⟩
theorem ok_sdX12_binds : sdb (mi 224).1.2.1 (insOK mi (mi 224).1.1.cls (mi 224).1.2.2.1 (mi 224).1.2.2.2.2.1 (mi 224).1.2.2.2.2.2.1 calX12_binds false 1) sdX12_binds = true := by decide +kernel
def calX12_binds_82 : List Nat := [0, 0, 0, 106, 263]
theorem foX12_binds_82 {l : Launch} {ρ : Type} (n : Nat) : fsOK l false mi calX12_binds_82 (fsX12_binds_82 n ρ) := ⟨snd_no, ⟨snd_no, ⟨snd_no, ⟨sndX12_goes, ⟨snd_mabs, trivial⟩⟩⟩⟩⟩
theorem frX12_binds_82 {ρ : Type} (n : Nat) : ∀ fn ∈ fsX12_binds_82 n ρ, RoF fn := (List.forall_mem_cons.mpr ⟨ro_no, (List.forall_mem_cons.mpr ⟨ro_no, (List.forall_mem_cons.mpr ⟨ro_no, (List.forall_mem_cons.mpr ⟨roX12_goes, (List.forall_mem_cons.mpr ⟨ro_mabs, (fun q9 h9 => by cases h9)⟩)⟩)⟩)⟩)⟩)
theorem ok_sdX12_binds_82 : sdb (mi 224).1.2.1 (insOK mi (mi 224).1.1.cls (mi 224).1.2.2.1 (mi 224).1.2.2.2.2.1 (mi 224).1.2.2.2.2.2.1 calX12_binds_82 false 1) sdX12_binds_82 = true := by decide +kernel
theorem sBX12_binds_82 {l : Launch} {h0 h' : Hp} {v : Int} (h8 : nOf h0 = 148) (n : Nat) (h : Hp) : ∀ (f : Nat) (x1 : Int) (x4 : Int) {r : Int × Hp}, BX12_binds_82 n f x1 x4 h = some r → gWV v h' r → PAt l false (mi 224).1 h0 v h' 82 [(0, 16, 113), (1, 0, x1), (4, 0, x4)] [] h := by
  intro f
  induction f with
  | zero =>
    intro x1 x4 r H _
    have H2 : (none : Option (Int × Hp)) = some r := H
    cases H2
  | succ f ih =>
    intro x1 x4 r H hG
    exact pat_ro ok_sdX12_binds_82 rfl rkX12_binds h8 (foX12_binds_82 n) (frX12_binds_82 n) (fun v1 q => by
    cases q
    exact ⟨hG.1, fun _ => hG.2⟩) (List.forall_mem_cons.mpr ⟨(fun a c H => by
      dsimp only at H
      split at H
      · exact ih _ _ H hG
      · cases H), (fun q9 h9 => by cases h9)⟩) ((eBX12_binds_82 n f x1 x4 h).symm.trans H)
theorem sLX12_binds_82 {l : Launch} {h0 h' : Hp} {v : Int} (h8 : nOf h0 = 148) (n : Nat) (x1 : Int) (x4 : Int) (h : Hp) {r : Int × Hp} (H : LX12_binds_82 n x1 x4 h = some r) (hG : gWV v h' r) : PAt l false (mi 224).1 h0 v h' 82 [(0, 16, 113), (1, 0, x1), (4, 0, x4)] [] h :=
  sBX12_binds_82 h8 n h n x1 x4 H hG
theorem sMX12_binds {l : Launch} {h0 h' : Hp} {v : Int} (h8 : nOf h0 = 148) (n : Nat) (x1 : Int) (h : Hp) {r : Int × Hp} (H : MX12_binds n x1 h = some r) (hG : gWV v h' r) : PAt l false (mi 224).1 h0 v h' 0 [(0, 16, 113), (1, 0, x1)] [] h :=
  pat_w ok_sdX12_binds rkX12_binds h8 (foX12_binds n) (fun v1 h1 q => by
    cases q
    exact ⟨hG.1, fun _ => hG.2⟩) (List.forall_mem_cons.mpr ⟨(fun a c h H => by
      dsimp only at H
      split at H
      · exact sLX12_binds_82 h8 n _ _ _ H hG
      · cases H), (fun q9 h9 => by cases h9)⟩) ((eMX12_binds n x1 h).symm.trans H)
theorem sndX12_binds {ρ : Type} {l : Launch} (n : Nat) : SndF (ρ := ρ) l false (mi 224).1 (wX12_binds n) := by
    intro a h k r H ha ho hn hf
    have h8 := hf rfl
    obtain ⟨x0, x1, rfl⟩ := len2 (show a.length = 2 from ha)
    have u0 := uq16 hn (ho (16, x0) (List.mem_cons_self))
    subst u0
    replace H : bnd (MX12_binds n x1 h) (fun r h2 => k r h2) = some r := H
    obtain ⟨v2, h2, H1, H2⟩ := bnd_some H
    exact ⟨v2, h2, H2, met_mk (mok_base okX12_binds).1 (by decide +kernel) (Nat.le_of_ble_eq_true rfl) ho (sMX12_binds h8 n x1 h H1 ⟨rfl, rfl⟩), fun q => by cases q⟩
/-! X11_layer -/
def sdX11_layer : SD := [(0, [(0, .iload_n 1, 1, [], 0), (1, .iconst (-1), 1, [], 0), (2, .if_icmp .ne 11, 3, [], 0)]),
  (5, [(5, .aload_n 0, 1, [], 0), (6, .getfield 40, 3, [11, 4, 11, 1, 694, 0], 39), (9, .getfield 289, 3, [7, 10, 0, 0, 382, 0], 0), (12, .ireturn, 1, [], 0)]),
  (13, [(13, .iload_n 1, 1, [], 0), (14, .ifCond .lt 14, 3, [], 0)]),
  (17, [(17, .iload_n 1, 1, [], 0), (18, .aload_n 0, 1, [], 0), (19, .getfield 40, 3, [11, 4, 11, 1, 694, 0], 39), (22, .getfield 289, 3, [7, 10, 0, 0, 382, 0], 0), (25, .if_icmp .lt 6, 3, [], 0)]),
  (28, [(28, .ldc 217, 2, [0, 1091], (-2147483648)), (30, .ireturn, 1, [], 0)]),
  (31, [(31, .iload_n 2, 1, [], 0), (32, .tableswitch 58 0 2 #[28, 38, 48], 28, [], 0)]),
  (60, [(60, .aload_n 0, 1, [], 0), (61, .getfield 40, 3, [11, 4, 11, 1, 694, 0], 39), (64, .getfield 292, 3, [7, 7, 532, 1, 376, 0], 8), (67, .iload_n 1, 1, [], 0), (68, .iaload, 1, [], 0), (69, .ireturn, 1, [], 0)]),
  (70, [(70, .aload_n 0, 1, [], 0), (71, .getfield 40, 3, [11, 4, 11, 1, 694, 0], 39), (74, .getfield 295, 3, [7, 8, 532, 1, 378, 0], 9), (77, .iload_n 1, 1, [], 0), (78, .iaload, 1, [], 0), (79, .ireturn, 1, [], 0)]),
  (80, [(80, .aload_n 0, 1, [], 0), (81, .getfield 40, 3, [11, 4, 11, 1, 694, 0], 39), (84, .getfield 298, 3, [7, 9, 532, 1, 380, 0], 10), (87, .iload_n 1, 1, [], 0), (88, .iaload, 1, [], 0), (89, .ireturn, 1, [], 0)]),
  (90, [(90, .ldc 217, 2, [0, 1091], (-2147483648)), (92, .ireturn, 1, [], 0)])]
def MX11_layer (x1 x2 : Int) (h : Hp) : Option (Int) :=
(if x1 ≠ (-1) then
(if x1 < 0 then
(some (-2147483648))
else
(if x1 < (h 39 10) then
(if x2 = 0 then
(grd (0 ≤ x1 ∧ x1 < alen 532)
(some (h 47 x1)))
else
(if x2 = 1 then
(grd (0 ≤ x1 ∧ x1 < alen 532)
(some (h 48 x1)))
else
(if x2 = 2 then
(grd (0 ≤ x1 ∧ x1 < alen 532)
(some (h 49 x1)))
else
(some (-2147483648)))))
else
(some (-2147483648))))
else
(some (h 39 10)))
def wX11_layer {ρ : Type} : FN ρ := fun a h k => match a with
  | [_, x1, x2] => bndp (MX11_layer x1 x2 h) (fun r => k r h)
  | _ => none
def fsX11_layer (ρ : Type) : List (FN ρ) := []
def KMX11_layer  : CT (Int) := []
set_option maxRecDepth 100000 in
theorem eMX11_layer (x1 : Int) (x2 : Int) (h : Hp) : MX11_layer x1 x2 h =
  goAt false (kct (KMX11_layer)) (fun v _ => some (v)) (fsX11_layer _) sdX11_layer 1000 0 [(0, 15, 0), (1, 0, x1), (2, 0, x2)] [] h := rfl
theorem okX11_layer : mokb (mi 225) = true := by decide +kernel
theorem rkX11_layer : rkOK 1 (mi 225).1.2.2.2.2.2.2.1 (mi 225).1.2.2.2.1 := Or.inr (Or.inl ⟨rfl, rfl, rfl⟩)
def calX11_layer : List Nat := []
theorem foX11_layer {l : Launch} {ρ : Type} : fsOK l false mi calX11_layer (fsX11_layer ρ) := trivial
theorem frX11_layer {ρ : Type} : ∀ fn ∈ fsX11_layer ρ, RoF fn := (fun q9 h9 => by cases h9)
theorem ok_sdX11_layer : sdb (mi 225).1.2.1 (insOK mi (mi 225).1.1.cls (mi 225).1.2.2.1 (mi 225).1.2.2.2.2.1 (mi 225).1.2.2.2.2.2.1 calX11_layer false 1) sdX11_layer = true := by decide +kernel
theorem sMX11_layer {l : Launch} {h0 : Hp} {v : Int} (h8 : nOf h0 = 148)  (x1 : Int) (x2 : Int) (h : Hp) {r : Int} (H : MX11_layer x1 x2 h = some r) (hG : gV v r) : PAt l false (mi 225).1 h0 v h 0 [(0, 15, 0), (1, 0, x1), (2, 0, x2)] [] h :=
  pat_ro ok_sdX11_layer rfl rkX11_layer h8 (foX11_layer) (frX11_layer) (fun v1 q => by
    cases q
    exact ⟨rfl, fun _ => hG⟩) (fun q9 h9 => by cases h9) ((eMX11_layer x1 x2 h).symm.trans H)
theorem sndX11_layer {ρ : Type} {l : Launch} : SndF (ρ := ρ) l false (mi 225).1 (wX11_layer) := by
    intro a h k r H ha ho hn hf
    have h8 := hf rfl
    obtain ⟨x0, x1, x2, rfl⟩ := len3 (show a.length = 3 from ha)
    have u0 := uq15 hn (ho (15, x0) (List.mem_cons_self))
    subst u0
    replace H : bndp (MX11_layer x1 x2 h) (fun r => k r h) = some r := H
    obtain ⟨v2, H1, H2⟩ := bndp_some H
    exact ⟨v2, h, H2, met_mk (mok_base okX11_layer).1 (by decide +kernel) (Nat.le_of_ble_eq_true rfl) ho (sMX11_layer h8 x1 x2 h H1 rfl), fun q => by cases q⟩
theorem roX11_layer {ρ : Type} : RoF (wX11_layer : FN ρ) := fun a h k k2 hk => by
  unfold wX11_layer
  split
  · exact bndp_ro hk
  · rfl
/-! X12_isFlat -/
def sdX12_isFlat : SD := [(0, [(0, .aload_n 0, 1, [], 0), (1, .iload_n 1, 1, [], 0), (2, .iconst 2, 1, [], 0), (3, .invokevirtual 146, 3, [1, 0, 1, 106, 1310, 0, 0, 16], 0), (6, .ifCond .ne 7, 3, [], 0)]),
  (9, [(9, .iconst 1, 1, [], 0), (10, .goto 4, 3, [], 0)]),
  (13, [(13, .iconst 0, 1, [], 0)]),
  (14, [(14, .ireturn, 1, [1], 0)])]
def MX12_isFlat (x1 : Int) (h : Hp) : Option (Int) :=
(bndp (MX12_goes x1 2 h) fun r1 =>
(if r1 ≠ 0 then
(some 0)
else
(some 1)))
def wX12_isFlat {ρ : Type} : FN ρ := fun a h k => match a with
  | [_, x1] => bndp (MX12_isFlat x1 h) (fun r => k r h)
  | _ => none
def fsX12_isFlat (ρ : Type) : List (FN ρ) := [wX12_goes]
def KMX12_isFlat  : CT (Int) := []
set_option maxRecDepth 100000 in
theorem eMX12_isFlat (x1 : Int) (h : Hp) : MX12_isFlat x1 h =
  goAt false (kct (KMX12_isFlat)) (fun v _ => some (v)) (fsX12_isFlat _) sdX12_isFlat 1000 0 [(0, 16, 113), (1, 0, x1)] [] h := rfl
theorem okX12_isFlat : mokb (mi 226) = true := by decide +kernel
theorem rkX12_isFlat : rkOK 4 (mi 226).1.2.2.2.2.2.2.1 (mi 226).1.2.2.2.1 := Or.inr (Or.inr (Or.inl ⟨rfl, rfl, rfl⟩))
def calX12_isFlat : List Nat := [106]
theorem foX12_isFlat {l : Launch} {ρ : Type} : fsOK l false mi calX12_isFlat (fsX12_isFlat ρ) := ⟨sndX12_goes, trivial⟩
theorem frX12_isFlat {ρ : Type} : ∀ fn ∈ fsX12_isFlat ρ, RoF fn := (List.forall_mem_cons.mpr ⟨roX12_goes, (fun q9 h9 => by cases h9)⟩)
theorem ok_sdX12_isFlat : sdb (mi 226).1.2.1 (insOK mi (mi 226).1.1.cls (mi 226).1.2.2.1 (mi 226).1.2.2.2.2.1 (mi 226).1.2.2.2.2.2.1 calX12_isFlat false 4) sdX12_isFlat = true := by decide +kernel
theorem sMX12_isFlat {l : Launch} {h0 : Hp} {v : Int} (h8 : nOf h0 = 148)  (x1 : Int) (h : Hp) {r : Int} (H : MX12_isFlat x1 h = some r) (hG : gV v r) : PAt l false (mi 226).1 h0 v h 0 [(0, 16, 113), (1, 0, x1)] [] h :=
  pat_ro ok_sdX12_isFlat rfl rkX12_isFlat h8 (foX12_isFlat) (frX12_isFlat) (fun v1 q => by
    cases q
    exact ⟨rfl, fun _ => hG⟩) (fun q9 h9 => by cases h9) ((eMX12_isFlat x1 h).symm.trans H)
theorem sndX12_isFlat {ρ : Type} {l : Launch} : SndF (ρ := ρ) l false (mi 226).1 (wX12_isFlat) := by
    intro a h k r H ha ho hn hf
    have h8 := hf rfl
    obtain ⟨x0, x1, rfl⟩ := len2 (show a.length = 2 from ha)
    have u0 := uq16 hn (ho (16, x0) (List.mem_cons_self))
    subst u0
    replace H : bndp (MX12_isFlat x1 h) (fun r => k r h) = some r := H
    obtain ⟨v2, H1, H2⟩ := bndp_some H
    exact ⟨v2, h, H2, met_mk (mok_base okX12_isFlat).1 (by decide +kernel) (Nat.le_of_ble_eq_true rfl) ho (sMX12_isFlat h8 x1 h H1 rfl), fun q => by cases q⟩
theorem roX12_isFlat {ρ : Type} : RoF (wX12_isFlat : FN ρ) := fun a h k k2 hk => by
  unfold wX12_isFlat
  split
  · exact bndp_ro hk
  · rfl
/-! X12_heightOf -/
def sdX12_heightOf : SD := [(0, [(0, .aload_n 0, 1, [], 0), (1, .getfield 37, 3, [12, 14, 1580, 1, 1336, 0], 9), (4, .iconst 3, 1, [], 0), (5, .iload_n 1, 1, [], 0), (6, .imul, 1, [], 0), (7, .iconst 2, 1, [], 0), (8, .iadd, 1, [], 0), (9, .iaload, 1, [], 0), (10, .ireturn, 1, [], 0)])]
def MX12_heightOf (x1 : Int) (h : Hp) : Option (Int) :=
(grd (0 ≤ (w32 ((w32 (3 * x1)) + 2)) ∧ (w32 ((w32 (3 * x1)) + 2)) < alen 1580)
(some (h 122 (w32 ((w32 (3 * x1)) + 2)))))
def wX12_heightOf {ρ : Type} : FN ρ := fun a h k => match a with
  | [_, x1] => bndp (MX12_heightOf x1 h) (fun r => k r h)
  | _ => none
def fsX12_heightOf (ρ : Type) : List (FN ρ) := []
def KMX12_heightOf  : CT (Int) := []
set_option maxRecDepth 100000 in
theorem eMX12_heightOf (x1 : Int) (h : Hp) : MX12_heightOf x1 h =
  goAt false (kct (KMX12_heightOf)) (fun v _ => some (v)) (fsX12_heightOf _) sdX12_heightOf 1000 0 [(0, 16, 113), (1, 0, x1)] [] h := rfl
theorem okX12_heightOf : mokb (mi 227) = true := by decide +kernel
theorem rkX12_heightOf : rkOK 1 (mi 227).1.2.2.2.2.2.2.1 (mi 227).1.2.2.2.1 := Or.inr (Or.inl ⟨rfl, rfl, rfl⟩)
def calX12_heightOf : List Nat := []
theorem foX12_heightOf {l : Launch} {ρ : Type} : fsOK l false mi calX12_heightOf (fsX12_heightOf ρ) := trivial
theorem frX12_heightOf {ρ : Type} : ∀ fn ∈ fsX12_heightOf ρ, RoF fn := (fun q9 h9 => by cases h9)
theorem ok_sdX12_heightOf : sdb (mi 227).1.2.1 (insOK mi (mi 227).1.1.cls (mi 227).1.2.2.1 (mi 227).1.2.2.2.2.1 (mi 227).1.2.2.2.2.2.1 calX12_heightOf false 1) sdX12_heightOf = true := by decide +kernel
theorem sMX12_heightOf {l : Launch} {h0 : Hp} {v : Int} (h8 : nOf h0 = 148)  (x1 : Int) (h : Hp) {r : Int} (H : MX12_heightOf x1 h = some r) (hG : gV v r) : PAt l false (mi 227).1 h0 v h 0 [(0, 16, 113), (1, 0, x1)] [] h :=
  pat_ro ok_sdX12_heightOf rfl rkX12_heightOf h8 (foX12_heightOf) (frX12_heightOf) (fun v1 q => by
    cases q
    exact ⟨rfl, fun _ => hG⟩) (fun q9 h9 => by cases h9) ((eMX12_heightOf x1 h).symm.trans H)
theorem sndX12_heightOf {ρ : Type} {l : Launch} : SndF (ρ := ρ) l false (mi 227).1 (wX12_heightOf) := by
    intro a h k r H ha ho hn hf
    have h8 := hf rfl
    obtain ⟨x0, x1, rfl⟩ := len2 (show a.length = 2 from ha)
    have u0 := uq16 hn (ho (16, x0) (List.mem_cons_self))
    subst u0
    replace H : bndp (MX12_heightOf x1 h) (fun r => k r h) = some r := H
    obtain ⟨v2, H1, H2⟩ := bndp_some H
    exact ⟨v2, h, H2, met_mk (mok_base okX12_heightOf).1 (by decide +kernel) (Nat.le_of_ble_eq_true rfl) ho (sMX12_heightOf h8 x1 h H1 rfl), fun q => by cases q⟩
theorem roX12_heightOf {ρ : Type} : RoF (wX12_heightOf : FN ρ) := fun a h k k2 hk => by
  unfold wX12_heightOf
  split
  · exact bndp_ro hk
  · rfl
/-! X12_laysLayers -/
def sdX12_laysLayers : SD := [(0, [(0, .iconst 0, 1, [], 0), (1, .istore_n 1, 1, [], 0), (2, .iconst 0, 1, [], 0), (3, .istore_n 2, 1, [], 0)]),
  (4, [(4, .iload_n 2, 1, [], 0), (5, .aload_n 0, 1, [], 0), (6, .getfield 140, 3, [12, 6, 0, 0, 1328, 0], 0), (9, .if_icmp .ge 73, 3, [], 0)]),
  (12, [(12, .aload_n 0, 1, [], 0), (13, .iload_n 2, 1, [], 0), (14, .invokevirtual 534, 3, [1, 0, 1, 226, 1944, 0, 16], 0), (17, .istore_n 3, 1, [], 0), (18, .iconst 0, 1, [], 0), (19, .istore 4, 2, [], 0)]),
  (21, [(21, .iload 4, 2, [], 0), (23, .iload_n 1, 1, [], 0), (24, .if_icmp .ge 34, 3, [], 0)]),
  (27, [(27, .iload_n 3, 1, [], 0), (28, .ifCond .eq 30, 3, [], 0)]),
  (31, [(31, .aload_n 0, 1, [], 0), (32, .getfield 107, 3, [12, 62, 532, 1, 1384, 0], 32), (35, .iload 4, 2, [], 0), (37, .iaload, 1, [], 0), (38, .aload_n 0, 1, [], 0), (39, .iload_n 2, 1, [], 0), (40, .invokevirtual 537, 3, [1, 1, 1, 227, 1948, 0, 16], 0), (43, .if_icmp .eq 7, 3, [], 0)]),
  (46, [(46, .iconst 1, 1, [], 0), (47, .goto 4, 3, [], 0)]),
  (50, [(50, .iconst 0, 1, [], 0)]),
  (51, [(51, .istore_n 3, 1, [], 0), (52, .iinc 4 1, 3, [], 0), (55, .goto (-34), 3, [], 0)]),
  (58, [(58, .iload_n 3, 1, [], 0), (59, .ifCond .eq 17, 3, [], 0)]),
  (62, [(62, .aload_n 0, 1, [], 0), (63, .getfield 107, 3, [12, 62, 532, 1, 1384, 0], 32), (66, .iload_n 1, 1, [], 0), (67, .aload_n 0, 1, [], 0), (68, .iload_n 2, 1, [], 0), (69, .invokevirtual 537, 3, [1, 1, 1, 227, 1948, 0, 16], 0), (72, .iastore, 1, [], 0), (73, .iinc 1 1, 3, [], 0)]),
  (76, [(76, .iinc 2 1, 3, [], 0), (79, .goto (-75), 3, [], 0)]),
  (82, [(82, .iload_n 1, 1, [], 0), (83, .ireturn, 1, [], 0)])]
def sdX12_laysLayers_21 : SD := [(21, [(21, .iload 4, 2, [], 0), (23, .iload_n 1, 1, [], 0), (24, .if_icmp .ge 34, 3, [], 0)]),
  (27, [(27, .iload_n 3, 1, [], 0), (28, .ifCond .eq 30, 3, [], 0)]),
  (31, [(31, .aload_n 0, 1, [], 0), (32, .getfield 107, 3, [12, 62, 532, 1, 1384, 0], 32), (35, .iload 4, 2, [], 0), (37, .iaload, 1, [], 0), (38, .aload_n 0, 1, [], 0), (39, .iload_n 2, 1, [], 0), (40, .invokevirtual 537, 3, [1, 1, 1, 227, 1948, 0, 16], 0), (43, .if_icmp .eq 7, 3, [], 0)]),
  (46, [(46, .iconst 1, 1, [], 0), (47, .goto 4, 3, [], 0)]),
  (50, [(50, .iconst 0, 1, [], 0)]),
  (51, [(51, .istore_n 3, 1, [], 0), (52, .iinc 4 1, 3, [], 0), (55, .goto (-34), 3, [], 0)])]
def JX12_laysLayers_51 (n : Nat) (bk : Int → Int → Int → Int → Hp → Option (Int × Int × Int)) (x1 x2 x4 z0 : Int) (h : Hp) : Option (Int × Int × Int) :=
(ltt z0 fun y1 =>
(ltt (w32 (x4 + 1)) fun y2 =>
(bk x1 x2 y1 y2 h)))
def BX12_laysLayers_21 (n : Nat) : Nat → Int → Int → Int → Int → Hp → Option (Int × Int × Int)
  | 0, _, _, _, _, _ => none
  | f + 1, x1, x2, x3, x4, h =>
    (if x1 ≤ x4 then
    (some (x1, x2, x3))
    else
    (if x3 = 0 then
    (some (x1, x2, x3))
    else
    (grd (0 ≤ x4 ∧ x4 < alen 532)
    (bndp (MX12_heightOf x2 h) fun r1 =>
    (if (h 145 x4) = r1 then
    (JX12_laysLayers_51 n (BX12_laysLayers_21 n f) x1 x2 x4 0 h)
    else
    (JX12_laysLayers_51 n (BX12_laysLayers_21 n f) x1 x2 x4 1 h))))))
def JX12_laysLayers_58 (n : Nat) (bk : Int → Int → Hp → Option (Int × Hp)) (x1 x2 x3 : Int) (h : Hp) : Option (Int × Hp) :=
(if x3 = 0 then
(ltt (w32 (x2 + 1)) fun y1 =>
(bk x1 y1 h))
else
(bndp (MX12_heightOf x2 h) fun r1 =>
(grd (0 ≤ x1 ∧ x1 < alen 532)
(ltt (up h 145 x1 r1) fun h1 =>
(ltt (w32 (x1 + 1)) fun y2 =>
(ltt (w32 (x2 + 1)) fun y3 =>
(bk y2 y3 h1)))))))
def LX12_laysLayers_21 (n : Nat) (bk : Int → Int → Hp → Option (Int × Hp)) (x1 x2 x3 x4 : Int) (h : Hp) : Option (Int × Hp) :=
(bndx (BX12_laysLayers_21 n n x1 x2 x3 x4 h) fun (e1, e2, e3) =>
(JX12_laysLayers_58 n bk e1 e2 e3 h))
def BX12_laysLayers_4 (n : Nat) : Nat → Int → Int → Hp → Option (Int × Hp)
  | 0, _, _, _ => none
  | f + 1, x1, x2, h =>
    (if (h 113 6) ≤ x2 then
    (some (x1, h))
    else
    (bndp (MX12_isFlat x2 h) fun r1 =>
    (ltt r1 fun y1 =>
    (ltt 0 fun y2 =>
    (LX12_laysLayers_21 n (BX12_laysLayers_4 n f) x1 x2 y1 y2 h)))))
def LX12_laysLayers_4 (n : Nat) (x1 x2 : Int) (h : Hp) : Option (Int × Hp) :=
(BX12_laysLayers_4 n n x1 x2 h)
def MX12_laysLayers (n : Nat) (h : Hp) : Option (Int × Hp) :=
(ltt 0 fun y1 =>
(ltt 0 fun y2 =>
(LX12_laysLayers_4 n y1 y2 h)))
def wX12_laysLayers {ρ : Type} (n : Nat) : FN ρ := fun a h k => match a with
  | [_] => bnd (MX12_laysLayers n h) (fun r h2 => k r h2)
  | _ => none
def fsX12_laysLayers (n : Nat) (ρ : Type) : List (FN ρ) := [wX12_isFlat, wX12_heightOf]
def fsX12_laysLayers_21 (n : Nat) (ρ : Type) : List (FN ρ) := [nofn, wX12_heightOf]
def KJX12_laysLayers_51 (_ : Nat) (bk : Int → Int → Int → Int → Hp → Option (Int × Int × Int)) : CT (Int × Int × Int) := [(21, [(0, 16, (some 113)), (1, 0, none), (2, 0, none), (3, 0, none), (4, 0, none)], [], fun a c h => match a, c with
    | [x1, x2, x3, x4], [] => bk x1 x2 x3 x4 h
    | _, _ => none),
  (58, [(0, 16, (some 113)), (1, 0, none), (2, 0, none), (3, 0, none)], [], fun a c _ => match a, c with
    | [x1, x2, x3], [] => some (x1, x2, x3)
    | _, _ => none)]
set_option maxRecDepth 100000 in
theorem eJX12_laysLayers_51 (n : Nat) (bk : Int → Int → Int → Int → Hp → Option (Int × Int × Int)) (x1 : Int) (x2 : Int) (x4 : Int) (z0 : Int) (h : Hp) : JX12_laysLayers_51 n bk x1 x2 x4 z0 h =
  goAt false (kct (KJX12_laysLayers_51 n bk)) (fun _ _ => none) (fsX12_laysLayers_21 n _) sdX12_laysLayers_21 1000 51 [(0, 16, 113), (1, 0, x1), (2, 0, x2), (4, 0, x4)] [(0, z0)] h := rfl
def KBX12_laysLayers_21 (n : Nat) (bk : Int → Int → Int → Int → Hp → Option (Int × Int × Int)) : CT (Int × Int × Int) := [(21, [(0, 16, (some 113)), (1, 0, none), (2, 0, none), (3, 0, none), (4, 0, none)], [], fun a c h => match a, c with
    | [x1, x2, x3, x4], [] => bk x1 x2 x3 x4 h
    | _, _ => none),
  (58, [(0, 16, (some 113)), (1, 0, none), (2, 0, none), (3, 0, none)], [], fun a c _ => match a, c with
    | [x1, x2, x3], [] => some (x1, x2, x3)
    | _, _ => none),
  (51, [(0, 16, (some 113)), (1, 0, none), (2, 0, none), (4, 0, none)], [(0, none)], fun a c h => match a, c with
    | [x1, x2, x4], [z0] => JX12_laysLayers_51 n bk x1 x2 x4 z0 h
    | _, _ => none)]
set_option maxRecDepth 100000 in
theorem eBX12_laysLayers_21 (n f : Nat) (x1 : Int) (x2 : Int) (x3 : Int) (x4 : Int) (h : Hp) : BX12_laysLayers_21 n (f + 1) x1 x2 x3 x4 h =
  goAt false (kct (KBX12_laysLayers_21 n (BX12_laysLayers_21 n f))) (fun _ _ => none) (fsX12_laysLayers_21 n _) sdX12_laysLayers_21 1000 21 [(0, 16, 113), (1, 0, x1), (2, 0, x2), (3, 0, x3), (4, 0, x4)] [] h := rfl
def KJX12_laysLayers_58 (_ : Nat) (bk : Int → Int → Hp → Option (Int × Hp)) : CT (Int × Hp) := [(4, [(0, 16, (some 113)), (1, 0, none), (2, 0, none)], [], fun a c h => match a, c with
    | [x1, x2], [] => bk x1 x2 h
    | _, _ => none)]
set_option maxRecDepth 100000 in
theorem eJX12_laysLayers_58 (n : Nat) (bk : Int → Int → Hp → Option (Int × Hp)) (x1 : Int) (x2 : Int) (x3 : Int) (h : Hp) : JX12_laysLayers_58 n bk x1 x2 x3 h =
  goAt false (kct (KJX12_laysLayers_58 n bk)) (fun v h => some ((v, h))) (fsX12_laysLayers n _) sdX12_laysLayers 1000 58 [(0, 16, 113), (1, 0, x1), (2, 0, x2), (3, 0, x3)] [] h := rfl
def KBX12_laysLayers_4 (n : Nat) (bk : Int → Int → Hp → Option (Int × Hp)) : CT (Int × Hp) := [(4, [(0, 16, (some 113)), (1, 0, none), (2, 0, none)], [], fun a c h => match a, c with
    | [x1, x2], [] => bk x1 x2 h
    | _, _ => none),
  (21, [(0, 16, (some 113)), (1, 0, none), (2, 0, none), (3, 0, none), (4, 0, none)], [], fun a c h => match a, c with
    | [x1, x2, x3, x4], [] => LX12_laysLayers_21 n bk x1 x2 x3 x4 h
    | _, _ => none)]
set_option maxRecDepth 100000 in
theorem eBX12_laysLayers_4 (n f : Nat) (x1 : Int) (x2 : Int) (h : Hp) : BX12_laysLayers_4 n (f + 1) x1 x2 h =
  goAt false (kct (KBX12_laysLayers_4 n (BX12_laysLayers_4 n f))) (fun v h => some ((v, h))) (fsX12_laysLayers n _) sdX12_laysLayers 1000 4 [(0, 16, 113), (1, 0, x1), (2, 0, x2)] [] h := rfl
def KMX12_laysLayers (n : Nat) : CT (Int × Hp) := [(4, [(0, 16, (some 113)), (1, 0, none), (2, 0, none)], [], fun a c h => match a, c with
    | [x1, x2], [] => LX12_laysLayers_4 n x1 x2 h
    | _, _ => none)]
set_option maxRecDepth 100000 in
theorem eMX12_laysLayers (n : Nat) (h : Hp) : MX12_laysLayers n h =
  goAt false (kct (KMX12_laysLayers n)) (fun v h => some ((v, h))) (fsX12_laysLayers n _) sdX12_laysLayers 1000 0 [(0, 16, 113)] [] h := rfl
theorem okX12_laysLayers : mokb (mi 228) = true := by decide +kernel
theorem rkX12_laysLayers : rkOK 1 (mi 228).1.2.2.2.2.2.2.1 (mi 228).1.2.2.2.1 := Or.inr (Or.inl ⟨rfl, rfl, rfl⟩)
def calX12_laysLayers : List Nat := [226, 227]
theorem foX12_laysLayers {l : Launch} {ρ : Type} (n : Nat) : fsOK l false mi calX12_laysLayers (fsX12_laysLayers n ρ) := ⟨sndX12_isFlat, ⟨sndX12_heightOf, trivial⟩⟩
theorem ok_sdX12_laysLayers : sdb (mi 228).1.2.1 (insOK mi (mi 228).1.1.cls (mi 228).1.2.2.1 (mi 228).1.2.2.2.2.1 (mi 228).1.2.2.2.2.2.1 calX12_laysLayers false 1) sdX12_laysLayers = true := by decide +kernel
def calX12_laysLayers_21 : List Nat := [0, 227]
theorem foX12_laysLayers_21 {l : Launch} {ρ : Type} (n : Nat) : fsOK l false mi calX12_laysLayers_21 (fsX12_laysLayers_21 n ρ) := ⟨snd_no, ⟨sndX12_heightOf, trivial⟩⟩
theorem frX12_laysLayers_21 {ρ : Type} (n : Nat) : ∀ fn ∈ fsX12_laysLayers_21 n ρ, RoF fn := (List.forall_mem_cons.mpr ⟨ro_no, (List.forall_mem_cons.mpr ⟨roX12_heightOf, (fun q9 h9 => by cases h9)⟩)⟩)
theorem ok_sdX12_laysLayers_21 : sdb (mi 228).1.2.1 (insOK mi (mi 228).1.1.cls (mi 228).1.2.2.1 (mi 228).1.2.2.2.2.1 (mi 228).1.2.2.2.2.2.1 calX12_laysLayers_21 false 1) sdX12_laysLayers_21 = true := by decide +kernel
def GX12_laysLayers_21 (l : Launch) (h0 : Hp) (h' : Hp) (v : Int) (h : Hp) : (Int × Int × Int) → Prop
  | (e1, e2, e3) => PAt l false (mi 228).1 h0 v h' 58 [(0, 16, 113), (1, 0, e1), (2, 0, e2), (3, 0, e3)] [] h
theorem sJX12_laysLayers_51 {l : Launch} {h0 h' : Hp} {v : Int} (h8 : nOf h0 = 148) (n : Nat) (bk : Int → Int → Int → Int → Hp → Option (Int × Int × Int)) {h : Hp} (hbk : ∀ (x1 : Int) (x2 : Int) (x3 : Int) (x4 : Int) (r : Int × Int × Int), bk x1 x2 x3 x4 h = some r → GX12_laysLayers_21 l h0 h' v h r → PAt l false (mi 228).1 h0 v h' 21 [(0, 16, 113), (1, 0, x1), (2, 0, x2), (3, 0, x3), (4, 0, x4)] [] h) (x1 : Int) (x2 : Int) (x4 : Int) (z0 : Int) (_ : Hp) {r : Int × Int × Int} (H : JX12_laysLayers_51 n bk x1 x2 x4 z0 h = some r) (hG : GX12_laysLayers_21 l h0 h' v h r) : PAt l false (mi 228).1 h0 v h' 51 [(0, 16, 113), (1, 0, x1), (2, 0, x2), (4, 0, x4)] [(0, z0)] h :=
  pat_ro ok_sdX12_laysLayers_21 rfl rkX12_laysLayers h8 (foX12_laysLayers_21 n) (frX12_laysLayers_21 n) (fun v1 q => by cases q) (List.forall_mem_cons.mpr ⟨(fun a c H => by
      dsimp only at H
      split at H
      · exact hbk _ _ _ _ _ H hG
      · cases H), (List.forall_mem_cons.mpr ⟨(fun a c H => by
      dsimp only at H
      split at H
      · cases H
        exact hG
      · cases H), (fun q9 h9 => by cases h9)⟩)⟩) ((eJX12_laysLayers_51 n bk x1 x2 x4 z0 h).symm.trans H)
theorem sBX12_laysLayers_21 {l : Launch} {h0 h' : Hp} {v : Int} (h8 : nOf h0 = 148) (n : Nat) (h : Hp) : ∀ (f : Nat) (x1 : Int) (x2 : Int) (x3 : Int) (x4 : Int) {r : Int × Int × Int}, BX12_laysLayers_21 n f x1 x2 x3 x4 h = some r → GX12_laysLayers_21 l h0 h' v h r → PAt l false (mi 228).1 h0 v h' 21 [(0, 16, 113), (1, 0, x1), (2, 0, x2), (3, 0, x3), (4, 0, x4)] [] h := by
  intro f
  induction f with
  | zero =>
    intro x1 x2 x3 x4 r H _
    have H2 : (none : Option (Int × Int × Int)) = some r := H
    cases H2
  | succ f ih =>
    intro x1 x2 x3 x4 r H hG
    have ihk : ∀ (x1 : Int) (x2 : Int) (x3 : Int) (x4 : Int) (r : Int × Int × Int), BX12_laysLayers_21 n f x1 x2 x3 x4 h = some r → GX12_laysLayers_21 l h0 h' v h r → PAt l false (mi 228).1 h0 v h' 21 [(0, 16, 113), (1, 0, x1), (2, 0, x2), (3, 0, x3), (4, 0, x4)] [] h := fun x1 x2 x3 x4 r9 a9 b9 => ih x1 x2 x3 x4 a9 b9
    exact pat_ro ok_sdX12_laysLayers_21 rfl rkX12_laysLayers h8 (foX12_laysLayers_21 n) (frX12_laysLayers_21 n) (fun v1 q => by cases q) (List.forall_mem_cons.mpr ⟨(fun a c H => by
      dsimp only at H
      split at H
      · exact ih _ _ _ _ H hG
      · cases H), (List.forall_mem_cons.mpr ⟨(fun a c H => by
      dsimp only at H
      split at H
      · cases H
        exact hG
      · cases H), (List.forall_mem_cons.mpr ⟨(fun a c H => by
      dsimp only at H
      split at H
      · exact sJX12_laysLayers_51 h8 n (BX12_laysLayers_21 n f) ihk _ _ _ _ h H hG
      · cases H), (fun q9 h9 => by cases h9)⟩)⟩)⟩) ((eBX12_laysLayers_21 n f x1 x2 x3 x4 h).symm.trans H)
theorem sJX12_laysLayers_58 {l : Launch} {h0 h' : Hp} {v : Int} (h8 : nOf h0 = 148) (n : Nat) (bk : Int → Int → Hp → Option (Int × Hp)) (hbk : ∀ (x1 : Int) (x2 : Int) (h : Hp) (r : Int × Hp), bk x1 x2 h = some r → gWV v h' r → PAt l false (mi 228).1 h0 v h' 4 [(0, 16, 113), (1, 0, x1), (2, 0, x2)] [] h) (x1 : Int) (x2 : Int) (x3 : Int) (h : Hp) {r : Int × Hp} (H : JX12_laysLayers_58 n bk x1 x2 x3 h = some r) (hG : gWV v h' r) : PAt l false (mi 228).1 h0 v h' 58 [(0, 16, 113), (1, 0, x1), (2, 0, x2), (3, 0, x3)] [] h :=
  pat_w ok_sdX12_laysLayers rkX12_laysLayers h8 (foX12_laysLayers n) (fun v1 h1 q => by
    cases q
    exact ⟨hG.1, fun _ => hG.2⟩) (List.forall_mem_cons.mpr ⟨(fun a c h H => by
      dsimp only at H
      split at H
      · exact hbk _ _ _ _ H hG
      · cases H), (fun q9 h9 => by cases h9)⟩) ((eJX12_laysLayers_58 n bk x1 x2 x3 h).symm.trans H)
theorem sLX12_laysLayers_21 {l : Launch} {h0 h' : Hp} {v : Int} (h8 : nOf h0 = 148) (n : Nat) (bk : Int → Int → Hp → Option (Int × Hp)) (hbk : ∀ (x1 : Int) (x2 : Int) (h : Hp) (r : Int × Hp), bk x1 x2 h = some r → gWV v h' r → PAt l false (mi 228).1 h0 v h' 4 [(0, 16, 113), (1, 0, x1), (2, 0, x2)] [] h) (x1 : Int) (x2 : Int) (x3 : Int) (x4 : Int) (h : Hp) {r : Int × Hp} (H : LX12_laysLayers_21 n bk x1 x2 x3 x4 h = some r) (hG : gWV v h' r) : PAt l false (mi 228).1 h0 v h' 21 [(0, 16, 113), (1, 0, x1), (2, 0, x2), (3, 0, x3), (4, 0, x4)] [] h := by
  obtain ⟨e9, h2, h3⟩ := bndx_some H
  obtain ⟨e1, e2, e3⟩ := e9
  exact sBX12_laysLayers_21 h8 n h n x1 x2 x3 x4 h2 (sJX12_laysLayers_58 h8 n bk hbk e1 e2 e3 h h3 hG)
theorem sBX12_laysLayers_4 {l : Launch} {h0 h' : Hp} {v : Int} (h8 : nOf h0 = 148) (n : Nat) : ∀ (f : Nat) (x1 : Int) (x2 : Int) (h : Hp) {r : Int × Hp}, BX12_laysLayers_4 n f x1 x2 h = some r → gWV v h' r → PAt l false (mi 228).1 h0 v h' 4 [(0, 16, 113), (1, 0, x1), (2, 0, x2)] [] h := by
  intro f
  induction f with
  | zero =>
    intro x1 x2 h r H _
    have H2 : (none : Option (Int × Hp)) = some r := H
    cases H2
  | succ f ih =>
    intro x1 x2 h r H hG
    have ihk : ∀ (x1 : Int) (x2 : Int) (h : Hp) (r : Int × Hp), BX12_laysLayers_4 n f x1 x2 h = some r → gWV v h' r → PAt l false (mi 228).1 h0 v h' 4 [(0, 16, 113), (1, 0, x1), (2, 0, x2)] [] h := fun x1 x2 h r9 a9 b9 => ih x1 x2 h a9 b9
    exact pat_w ok_sdX12_laysLayers rkX12_laysLayers h8 (foX12_laysLayers n) (fun v1 h1 q => by
    cases q
    exact ⟨hG.1, fun _ => hG.2⟩) (List.forall_mem_cons.mpr ⟨(fun a c h H => by
      dsimp only at H
      split at H
      · exact ih _ _ _ H hG
      · cases H), (List.forall_mem_cons.mpr ⟨(fun a c h H => by
      dsimp only at H
      split at H
      · exact sLX12_laysLayers_21 h8 n (BX12_laysLayers_4 n f) ihk _ _ _ _ _ H hG
      · cases H), (fun q9 h9 => by cases h9)⟩)⟩) ((eBX12_laysLayers_4 n f x1 x2 h).symm.trans H)
theorem sLX12_laysLayers_4 {l : Launch} {h0 h' : Hp} {v : Int} (h8 : nOf h0 = 148) (n : Nat) (x1 : Int) (x2 : Int) (h : Hp) {r : Int × Hp} (H : LX12_laysLayers_4 n x1 x2 h = some r) (hG : gWV v h' r) : PAt l false (mi 228).1 h0 v h' 4 [(0, 16, 113), (1, 0, x1), (2, 0, x2)] [] h :=
  sBX12_laysLayers_4 h8 n n x1 x2 h H hG
theorem sMX12_laysLayers {l : Launch} {h0 h' : Hp} {v : Int} (h8 : nOf h0 = 148) (n : Nat)  (h : Hp) {r : Int × Hp} (H : MX12_laysLayers n h = some r) (hG : gWV v h' r) : PAt l false (mi 228).1 h0 v h' 0 [(0, 16, 113)] [] h :=
  pat_w ok_sdX12_laysLayers rkX12_laysLayers h8 (foX12_laysLayers n) (fun v1 h1 q => by
    cases q
    exact ⟨hG.1, fun _ => hG.2⟩) (List.forall_mem_cons.mpr ⟨(fun a c h H => by
      dsimp only at H
      split at H
      · exact sLX12_laysLayers_4 h8 n _ _ _ H hG
      · cases H), (fun q9 h9 => by cases h9)⟩) ((eMX12_laysLayers n h).symm.trans H)
theorem sndX12_laysLayers {ρ : Type} {l : Launch} (n : Nat) : SndF (ρ := ρ) l false (mi 228).1 (wX12_laysLayers n) := by
    intro a h k r H ha ho hn hf
    have h8 := hf rfl
    obtain ⟨x0, rfl⟩ := len1 (show a.length = 1 from ha)
    have u0 := uq16 hn (ho (16, x0) (List.mem_cons_self))
    subst u0
    replace H : bnd (MX12_laysLayers n h) (fun r h2 => k r h2) = some r := H
    obtain ⟨v2, h2, H1, H2⟩ := bnd_some H
    exact ⟨v2, h2, H2, met_mk (mok_base okX12_laysLayers).1 (by decide +kernel) (Nat.le_of_ble_eq_true rfl) ho (sMX12_laysLayers h8 n  h H1 ⟨rfl, rfl⟩), fun q => by cases q⟩
/-! X12_layer -/
def sdX12_layer : SD := [(0, [(0, .aload_n 0, 1, [], 0), (1, .invokevirtual 540, 3, [1, 0, 1, 228, 1940, 16], 0), (4, .istore_n 3, 1, [], 0), (5, .iload_n 1, 1, [], 0), (6, .iconst (-1), 1, [], 0), (7, .if_icmp .ne 5, 3, [], 0)]),
  (10, [(10, .iload_n 3, 1, [], 0), (11, .ireturn, 1, [], 0)]),
  (12, [(12, .iload_n 1, 1, [], 0), (13, .i2l, 1, [], 0), (14, .lconst 0, 1, [], 0), (15, .iload_n 3, 1, [], 0), (16, .iconst 1, 1, [], 0), (17, .isub, 1, [], 0), (18, .i2l, 1, [], 0), (19, .invokestatic 217, 3, [1, 1, 3, 81, 1561, 1, 1, 1], 0), (22, .ifCond .eq 15, 3, [], 0)]),
  (25, [(25, .iload_n 2, 1, [], 0), (26, .i2l, 1, [], 0), (27, .lconst 0, 1, [], 0), (28, .ldc2_w 125, 3, [1, 1321], 2), (31, .invokestatic 217, 3, [1, 1, 3, 81, 1561, 1, 1, 1], 0), (34, .ifCond .ne 7, 3, [], 0)]),
  (37, [(37, .ldc_w 479, 3, [0, 1806], (-2147483648)), (40, .ireturn, 1, [], 0)]),
  (41, [(41, .iload_n 2, 1, [], 0), (42, .ifCond .ne 10, 3, [], 0)]),
  (45, [(45, .aload_n 0, 1, [], 0), (46, .getfield 107, 3, [12, 62, 532, 1, 1384, 0], 32), (49, .iload_n 1, 1, [], 0), (50, .iaload, 1, [], 0), (51, .ireturn, 1, [], 0)]),
  (52, [(52, .iconst 0, 1, [], 0), (53, .istore 4, 2, [], 0), (55, .iconst 0, 1, [], 0), (56, .istore 5, 2, [], 0)]),
  (58, [(58, .iload 5, 2, [], 0), (60, .aload_n 0, 1, [], 0), (61, .getfield 140, 3, [12, 6, 0, 0, 1328, 0], 0), (64, .if_icmp .ge 54, 3, [], 0)]),
  (67, [(67, .aload_n 0, 1, [], 0), (68, .iload 5, 2, [], 0), (70, .invokevirtual 534, 3, [1, 2, 1, 226, 1944, 0, 16], 0), (73, .ifCond .eq 39, 3, [], 0)]),
  (76, [(76, .aload_n 0, 1, [], 0), (77, .iload 5, 2, [], 0), (79, .invokevirtual 537, 3, [1, 3, 1, 227, 1948, 0, 16], 0), (82, .aload_n 0, 1, [], 0), (83, .getfield 107, 3, [12, 62, 532, 1, 1384, 0], 32), (86, .iload_n 1, 1, [], 0), (87, .iaload, 1, [], 0), (88, .if_icmp .ne 24, 3, [], 0)]),
  (91, [(91, .iload 4, 2, [], 0), (93, .iload_n 2, 1, [], 0), (94, .iconst 1, 1, [], 0), (95, .if_icmp .ne 7, 3, [], 0)]),
  (98, [(98, .iconst 1, 1, [], 0), (99, .goto 10, 3, [], 0)]),
  (102, [(102, .aload_n 0, 1, [], 0), (103, .getfield 46, 3, [12, 17, 532, 1, 1339, 0], 12), (106, .iload 5, 2, [], 0), (108, .iaload, 1, [], 0)]),
  (109, [(109, .iadd, 1, [], 0), (110, .istore 4, 2, [], 0)]),
  (112, [(112, .iinc 5 1, 3, [], 0), (115, .goto (-57), 3, [], 0)]),
  (118, [(118, .iload 4, 2, [], 0), (120, .ireturn, 1, [], 0)])]
def sdX12_layer_58 : SD := [(58, [(58, .iload 5, 2, [], 0), (60, .aload_n 0, 1, [], 0), (61, .getfield 140, 3, [12, 6, 0, 0, 1328, 0], 0), (64, .if_icmp .ge 54, 3, [], 0)]),
  (67, [(67, .aload_n 0, 1, [], 0), (68, .iload 5, 2, [], 0), (70, .invokevirtual 534, 3, [1, 2, 1, 226, 1944, 0, 16], 0), (73, .ifCond .eq 39, 3, [], 0)]),
  (76, [(76, .aload_n 0, 1, [], 0), (77, .iload 5, 2, [], 0), (79, .invokevirtual 537, 3, [1, 3, 1, 227, 1948, 0, 16], 0), (82, .aload_n 0, 1, [], 0), (83, .getfield 107, 3, [12, 62, 532, 1, 1384, 0], 32), (86, .iload_n 1, 1, [], 0), (87, .iaload, 1, [], 0), (88, .if_icmp .ne 24, 3, [], 0)]),
  (91, [(91, .iload 4, 2, [], 0), (93, .iload_n 2, 1, [], 0), (94, .iconst 1, 1, [], 0), (95, .if_icmp .ne 7, 3, [], 0)]),
  (98, [(98, .iconst 1, 1, [], 0), (99, .goto 10, 3, [], 0)]),
  (102, [(102, .aload_n 0, 1, [], 0), (103, .getfield 46, 3, [12, 17, 532, 1, 1339, 0], 12), (106, .iload 5, 2, [], 0), (108, .iaload, 1, [], 0)]),
  (109, [(109, .iadd, 1, [], 0), (110, .istore 4, 2, [], 0)]),
  (112, [(112, .iinc 5 1, 3, [], 0), (115, .goto (-57), 3, [], 0)]),
  (118, [(118, .iload 4, 2, [], 0), (120, .ireturn, 1, [], 0)])]
def BX12_layer_58 (n : Nat) : Nat → Int → Int → Int → Int → Hp → Option (Int × Hp)
  | 0, _, _, _, _, _ => none
  | f + 1, x1, x2, x4, x5, h =>
    (if (h 113 6) ≤ x5 then
    (some (x4, h))
    else
    (bndp (MX12_isFlat x5 h) fun r1 =>
    (if r1 = 0 then
    (ltt (w32 (x5 + 1)) fun y1 =>
    (BX12_layer_58 n f x1 x2 x4 y1 h))
    else
    (bndp (MX12_heightOf x5 h) fun r2 =>
    (grd (0 ≤ x1 ∧ x1 < alen 532)
    (if r2 ≠ (h 145 x1) then
    (ltt (w32 (x5 + 1)) fun y2 =>
    (BX12_layer_58 n f x1 x2 x4 y2 h))
    else
    (if x2 ≠ 1 then
    (grd (0 ≤ x5 ∧ x5 < alen 532)
    (ltt (w32 (x4 + (h 125 x5))) fun y3 =>
    (ltt (w32 (x5 + 1)) fun y4 =>
    (BX12_layer_58 n f x1 x2 y3 y4 h))))
    else
    (ltt (w32 (x4 + 1)) fun y5 =>
    (ltt (w32 (x5 + 1)) fun y6 =>
    (BX12_layer_58 n f x1 x2 y5 y6 h))))))))))
def LX12_layer_58 (n : Nat) (x1 x2 x4 x5 : Int) (h : Hp) : Option (Int × Hp) :=
(BX12_layer_58 n n x1 x2 x4 x5 h)
def MX12_layer (n : Nat) (x1 x2 : Int) (h : Hp) : Option (Int × Hp) :=
(bnd (MX12_laysLayers n h) fun r1 h1 =>
(ltt r1 fun y1 =>
(if x1 ≠ (-1) then
(bndp (MX12_in x1 0 (w32 (y1 - 1))) fun r2 =>
(if r2 = 0 then
(some ((-2147483648), h1))
else
(bndp (MX12_in x2 0 2) fun r3 =>
(if r3 ≠ 0 then
(if x2 ≠ 0 then
(ltt 0 fun y2 =>
(ltt 0 fun y3 =>
(LX12_layer_58 n x1 x2 y2 y3 h1)))
else
(grd (0 ≤ x1 ∧ x1 < alen 532)
(some ((h1 145 x1), h1))))
else
(some ((-2147483648), h1))))))
else
(some (y1, h1)))))
def wX12_layer {ρ : Type} (n : Nat) : FN ρ := fun a h k => match a with
  | [_, x1, x2] => bnd (MX12_layer n x1 x2 h) (fun r h2 => k r h2)
  | _ => none
def fsX12_layer (n : Nat) (ρ : Type) : List (FN ρ) := [wX12_laysLayers n, wX12_in, wX12_isFlat, wX12_heightOf]
def fsX12_layer_58 (n : Nat) (ρ : Type) : List (FN ρ) := [nofn, nofn, wX12_isFlat, wX12_heightOf]
def KBX12_layer_58 (_ : Nat) (bk : Int → Int → Int → Int → Hp → Option (Int × Hp)) : CT (Int × Hp) := [(58, [(0, 16, (some 113)), (1, 0, none), (2, 0, none), (4, 0, none), (5, 0, none)], [], fun a c h => match a, c with
    | [x1, x2, x4, x5], [] => bk x1 x2 x4 x5 h
    | _, _ => none)]
set_option maxRecDepth 100000 in
theorem eBX12_layer_58 (n f : Nat) (x1 : Int) (x2 : Int) (x4 : Int) (x5 : Int) (h : Hp) : BX12_layer_58 n (f + 1) x1 x2 x4 x5 h =
  goAt false (kct (KBX12_layer_58 n (BX12_layer_58 n f))) (fun v h => some ((v, h))) (fsX12_layer_58 n _) sdX12_layer_58 1000 58 [(0, 16, 113), (1, 0, x1), (2, 0, x2), (4, 0, x4), (5, 0, x5)] [] h := rfl
def KMX12_layer (n : Nat) : CT (Int × Hp) := [(58, [(0, 16, (some 113)), (1, 0, none), (2, 0, none), (4, 0, none), (5, 0, none)], [], fun a c h => match a, c with
    | [x1, x2, x4, x5], [] => LX12_layer_58 n x1 x2 x4 x5 h
    | _, _ => none)]
set_option maxRecDepth 100000 in
theorem eMX12_layer (n : Nat) (x1 : Int) (x2 : Int) (h : Hp) : MX12_layer n x1 x2 h =
  goAt false (kct (KMX12_layer n)) (fun v h => some ((v, h))) (fsX12_layer n _) sdX12_layer 1000 0 [(0, 16, 113), (1, 0, x1), (2, 0, x2)] [] h := rfl
theorem okX12_layer : mokb (mi 229) = true := by decide +kernel
theorem rkX12_layer : rkOK 1 (mi 229).1.2.2.2.2.2.2.1 (mi 229).1.2.2.2.1 := Or.inr (Or.inl ⟨rfl, rfl, rfl⟩)
def calX12_layer : List Nat := [228, 81, 226, 227]
theorem foX12_layer {l : Launch} {ρ : Type} (n : Nat) : fsOK l false mi calX12_layer (fsX12_layer n ρ) := ⟨(sndX12_laysLayers n), ⟨sndX12_in, ⟨sndX12_isFlat, ⟨sndX12_heightOf, trivial⟩⟩⟩⟩
theorem ok_sdX12_layer : sdb (mi 229).1.2.1 (insOK mi (mi 229).1.1.cls (mi 229).1.2.2.1 (mi 229).1.2.2.2.2.1 (mi 229).1.2.2.2.2.2.1 calX12_layer false 1) sdX12_layer = true := by decide +kernel
def calX12_layer_58 : List Nat := [0, 0, 226, 227]
theorem foX12_layer_58 {l : Launch} {ρ : Type} (n : Nat) : fsOK l false mi calX12_layer_58 (fsX12_layer_58 n ρ) := ⟨snd_no, ⟨snd_no, ⟨sndX12_isFlat, ⟨sndX12_heightOf, trivial⟩⟩⟩⟩
theorem frX12_layer_58 {ρ : Type} (n : Nat) : ∀ fn ∈ fsX12_layer_58 n ρ, RoF fn := (List.forall_mem_cons.mpr ⟨ro_no, (List.forall_mem_cons.mpr ⟨ro_no, (List.forall_mem_cons.mpr ⟨roX12_isFlat, (List.forall_mem_cons.mpr ⟨roX12_heightOf, (fun q9 h9 => by cases h9)⟩)⟩)⟩)⟩)
theorem ok_sdX12_layer_58 : sdb (mi 229).1.2.1 (insOK mi (mi 229).1.1.cls (mi 229).1.2.2.1 (mi 229).1.2.2.2.2.1 (mi 229).1.2.2.2.2.2.1 calX12_layer_58 false 1) sdX12_layer_58 = true := by decide +kernel
theorem sBX12_layer_58 {l : Launch} {h0 h' : Hp} {v : Int} (h8 : nOf h0 = 148) (n : Nat) (h : Hp) : ∀ (f : Nat) (x1 : Int) (x2 : Int) (x4 : Int) (x5 : Int) {r : Int × Hp}, BX12_layer_58 n f x1 x2 x4 x5 h = some r → gWV v h' r → PAt l false (mi 229).1 h0 v h' 58 [(0, 16, 113), (1, 0, x1), (2, 0, x2), (4, 0, x4), (5, 0, x5)] [] h := by
  intro f
  induction f with
  | zero =>
    intro x1 x2 x4 x5 r H _
    have H2 : (none : Option (Int × Hp)) = some r := H
    cases H2
  | succ f ih =>
    intro x1 x2 x4 x5 r H hG
    exact pat_ro ok_sdX12_layer_58 rfl rkX12_layer h8 (foX12_layer_58 n) (frX12_layer_58 n) (fun v1 q => by
    cases q
    exact ⟨hG.1, fun _ => hG.2⟩) (List.forall_mem_cons.mpr ⟨(fun a c H => by
      dsimp only at H
      split at H
      · exact ih _ _ _ _ H hG
      · cases H), (fun q9 h9 => by cases h9)⟩) ((eBX12_layer_58 n f x1 x2 x4 x5 h).symm.trans H)
theorem sLX12_layer_58 {l : Launch} {h0 h' : Hp} {v : Int} (h8 : nOf h0 = 148) (n : Nat) (x1 : Int) (x2 : Int) (x4 : Int) (x5 : Int) (h : Hp) {r : Int × Hp} (H : LX12_layer_58 n x1 x2 x4 x5 h = some r) (hG : gWV v h' r) : PAt l false (mi 229).1 h0 v h' 58 [(0, 16, 113), (1, 0, x1), (2, 0, x2), (4, 0, x4), (5, 0, x5)] [] h :=
  sBX12_layer_58 h8 n h n x1 x2 x4 x5 H hG
theorem sMX12_layer {l : Launch} {h0 h' : Hp} {v : Int} (h8 : nOf h0 = 148) (n : Nat) (x1 : Int) (x2 : Int) (h : Hp) {r : Int × Hp} (H : MX12_layer n x1 x2 h = some r) (hG : gWV v h' r) : PAt l false (mi 229).1 h0 v h' 0 [(0, 16, 113), (1, 0, x1), (2, 0, x2)] [] h :=
  pat_w ok_sdX12_layer rkX12_layer h8 (foX12_layer n) (fun v1 h1 q => by
    cases q
    exact ⟨hG.1, fun _ => hG.2⟩) (List.forall_mem_cons.mpr ⟨(fun a c h H => by
      dsimp only at H
      split at H
      · exact sLX12_layer_58 h8 n _ _ _ _ _ H hG
      · cases H), (fun q9 h9 => by cases h9)⟩) ((eMX12_layer n x1 x2 h).symm.trans H)
theorem sndX12_layer {ρ : Type} {l : Launch} (n : Nat) : SndF (ρ := ρ) l false (mi 229).1 (wX12_layer n) := by
    intro a h k r H ha ho hn hf
    have h8 := hf rfl
    obtain ⟨x0, x1, x2, rfl⟩ := len3 (show a.length = 3 from ha)
    have u0 := uq16 hn (ho (16, x0) (List.mem_cons_self))
    subst u0
    replace H : bnd (MX12_layer n x1 x2 h) (fun r h2 => k r h2) = some r := H
    obtain ⟨v2, h2, H1, H2⟩ := bnd_some H
    exact ⟨v2, h2, H2, met_mk (mok_base okX12_layer).1 (by decide +kernel) (Nat.le_of_ble_eq_true rfl) ho (sMX12_layer h8 n x1 x2 h H1 ⟨rfl, rfl⟩), fun q => by cases q⟩
/-! X11_meets -/
def sdX11_meets : SD := [(0, [(0, .iload_n 1, 1, [], 0), (1, .tableswitch 51 0 2 #[27, 35, 43], 27, [], 0)]),
  (28, [(28, .aload_n 0, 1, [], 0), (29, .getfield 40, 3, [11, 4, 11, 1, 694, 0], 39), (32, .getfield 301, 3, [7, 11, 0, 0, 384, 0], 0), (35, .ireturn, 1, [], 0)]),
  (36, [(36, .aload_n 0, 1, [], 0), (37, .getfield 40, 3, [11, 4, 11, 1, 694, 0], 39), (40, .getfield 304, 3, [7, 12, 0, 0, 386, 0], 0), (43, .ireturn, 1, [], 0)]),
  (44, [(44, .aload_n 0, 1, [], 0), (45, .getfield 40, 3, [11, 4, 11, 1, 694, 0], 39), (48, .getfield 307, 3, [7, 13, 0, 0, 388, 0], 0), (51, .ireturn, 1, [], 0)]),
  (52, [(52, .iconst (-1), 1, [], 0), (53, .ireturn, 1, [], 0)])]
def MX11_meets (x1 : Int) (h : Hp) : Option (Int) :=
(if x1 = 0 then
(some (h 39 11))
else
(if x1 = 1 then
(some (h 39 12))
else
(if x1 = 2 then
(some (h 39 13))
else
(some (-1)))))
def wX11_meets {ρ : Type} : FN ρ := fun a h k => match a with
  | [_, x1] => bndp (MX11_meets x1 h) (fun r => k r h)
  | _ => none
def fsX11_meets (ρ : Type) : List (FN ρ) := []
def KMX11_meets  : CT (Int) := []
set_option maxRecDepth 100000 in
theorem eMX11_meets (x1 : Int) (h : Hp) : MX11_meets x1 h =
  goAt false (kct (KMX11_meets)) (fun v _ => some (v)) (fsX11_meets _) sdX11_meets 1000 0 [(0, 15, 0), (1, 0, x1)] [] h := rfl
theorem okX11_meets : mokb (mi 230) = true := by decide +kernel
theorem rkX11_meets : rkOK 1 (mi 230).1.2.2.2.2.2.2.1 (mi 230).1.2.2.2.1 := Or.inr (Or.inl ⟨rfl, rfl, rfl⟩)
def calX11_meets : List Nat := []
theorem foX11_meets {l : Launch} {ρ : Type} : fsOK l false mi calX11_meets (fsX11_meets ρ) := trivial
theorem frX11_meets {ρ : Type} : ∀ fn ∈ fsX11_meets ρ, RoF fn := (fun q9 h9 => by cases h9)
theorem ok_sdX11_meets : sdb (mi 230).1.2.1 (insOK mi (mi 230).1.1.cls (mi 230).1.2.2.1 (mi 230).1.2.2.2.2.1 (mi 230).1.2.2.2.2.2.1 calX11_meets false 1) sdX11_meets = true := by decide +kernel
theorem sMX11_meets {l : Launch} {h0 : Hp} {v : Int} (h8 : nOf h0 = 148)  (x1 : Int) (h : Hp) {r : Int} (H : MX11_meets x1 h = some r) (hG : gV v r) : PAt l false (mi 230).1 h0 v h 0 [(0, 15, 0), (1, 0, x1)] [] h :=
  pat_ro ok_sdX11_meets rfl rkX11_meets h8 (foX11_meets) (frX11_meets) (fun v1 q => by
    cases q
    exact ⟨rfl, fun _ => hG⟩) (fun q9 h9 => by cases h9) ((eMX11_meets x1 h).symm.trans H)
theorem sndX11_meets {ρ : Type} {l : Launch} : SndF (ρ := ρ) l false (mi 230).1 (wX11_meets) := by
    intro a h k r H ha ho hn hf
    have h8 := hf rfl
    obtain ⟨x0, x1, rfl⟩ := len2 (show a.length = 2 from ha)
    have u0 := uq15 hn (ho (15, x0) (List.mem_cons_self))
    subst u0
    replace H : bndp (MX11_meets x1 h) (fun r => k r h) = some r := H
    obtain ⟨v2, H1, H2⟩ := bndp_some H
    exact ⟨v2, h, H2, met_mk (mok_base okX11_meets).1 (by decide +kernel) (Nat.le_of_ble_eq_true rfl) ho (sMX11_meets h8 x1 h H1 rfl), fun q => by cases q⟩
theorem roX11_meets {ρ : Type} : RoF (wX11_meets : FN ρ) := fun a h k k2 hk => by
  unfold wX11_meets
  split
  · exact bndp_ro hk
  · rfl
/-! X12_sideOf -/
def sdX12_sideOf : SD := [(0, [(0, .aload_n 0, 1, [], 0), (1, .getfield 37, 3, [12, 14, 1580, 1, 1336, 0], 9), (4, .iconst 3, 1, [], 0), (5, .iload_n 2, 1, [], 0), (6, .imul, 1, [], 0), (7, .iaload, 1, [], 0), (8, .aload_n 0, 1, [], 0), (9, .getfield 37, 3, [12, 14, 1580, 1, 1336, 0], 9), (12, .iconst 3, 1, [], 0), (13, .iload_n 1, 1, [], 0), (14, .imul, 1, [], 0), (15, .iaload, 1, [], 0), (16, .isub, 1, [], 0), (17, .i2l, 1, [], 0), (18, .lstore_n 3, 1, [], 0), (19, .aload_n 0, 1, [], 0), (20, .getfield 37, 3, [12, 14, 1580, 1, 1336, 0], 9), (23, .iconst 3, 1, [], 0), (24, .iload_n 2, 1, [], 0), (25, .imul, 1, [], 0), (26, .iconst 1, 1, [], 0), (27, .iadd, 1, [], 0), (28, .iaload, 1, [], 0), (29, .aload_n 0, 1, [], 0), (30, .getfield 37, 3, [12, 14, 1580, 1, 1336, 0], 9), (33, .iconst 3, 1, [], 0), (34, .iload_n 1, 1, [], 0), (35, .imul, 1, [], 0), (36, .iconst 1, 1, [], 0), (37, .iadd, 1, [], 0), (38, .iaload, 1, [], 0), (39, .isub, 1, [], 0), (40, .i2l, 1, [], 0), (41, .lstore 5, 2, [], 0), (43, .aload_n 0, 1, [], 0), (44, .iload_n 1, 1, [], 0), (45, .iconst 0, 1, [], 0), (46, .invokevirtual 146, 3, [1, 0, 1, 106, 1310, 0, 0, 16], 0), (49, .i2l, 1, [], 0), (50, .lload 5, 2, [], 0), (52, .lmul, 1, [], 0), (53, .aload_n 0, 1, [], 0), (54, .iload_n 1, 1, [], 0), (55, .iconst 1, 1, [], 0), (56, .invokevirtual 146, 3, [1, 0, 1, 106, 1310, 0, 0, 16], 0), (59, .i2l, 1, [], 0), (60, .lload_n 3, 1, [], 0), (61, .lmul, 1, [], 0), (62, .lsub, 1, [], 0), (63, .invokestatic 543, 3, [1, 1, 3, 266, 1968, 1], 0), (66, .ireturn, 1, [], 0)])]
def MX12_sideOf (x1 x2 : Int) (h : Hp) : Option (Int) :=
(grd (0 ≤ (w32 (3 * x2)) ∧ (w32 (3 * x2)) < alen 1580)
(grd (0 ≤ (w32 (3 * x1)) ∧ (w32 (3 * x1)) < alen 1580)
(ltt (w32 ((h 122 (w32 (3 * x2))) - (h 122 (w32 (3 * x1))))) fun y1 =>
(grd (0 ≤ (w32 ((w32 (3 * x2)) + 1)) ∧ (w32 ((w32 (3 * x2)) + 1)) < alen 1580)
(grd (0 ≤ (w32 ((w32 (3 * x1)) + 1)) ∧ (w32 ((w32 (3 * x1)) + 1)) < alen 1580)
(ltt (w32 ((h 122 (w32 ((w32 (3 * x2)) + 1))) - (h 122 (w32 ((w32 (3 * x1)) + 1))))) fun y2 =>
(bndp (MX12_goes x1 0 h) fun r1 =>
(bndp (MX12_goes x1 1 h) fun r2 =>
(some (lsgn (w64 ((w64 (r1 * y2)) - (w64 (r2 * y1))))))))))))))
def wX12_sideOf {ρ : Type} : FN ρ := fun a h k => match a with
  | [_, x1, x2] => bndp (MX12_sideOf x1 x2 h) (fun r => k r h)
  | _ => none
def fsX12_sideOf (ρ : Type) : List (FN ρ) := [wX12_goes, fsig]
def KMX12_sideOf  : CT (Int) := []
set_option maxRecDepth 100000 in
theorem eMX12_sideOf (x1 : Int) (x2 : Int) (h : Hp) : MX12_sideOf x1 x2 h =
  goAt false (kct (KMX12_sideOf)) (fun v _ => some (v)) (fsX12_sideOf _) sdX12_sideOf 1000 0 [(0, 16, 113), (1, 0, x1), (2, 0, x2)] [] h := rfl
theorem okX12_sideOf : mokb (mi 231) = true := by decide +kernel
theorem rkX12_sideOf : rkOK 1 (mi 231).1.2.2.2.2.2.2.1 (mi 231).1.2.2.2.1 := Or.inr (Or.inl ⟨rfl, rfl, rfl⟩)
def calX12_sideOf : List Nat := [106, 266]
theorem foX12_sideOf {l : Launch} {ρ : Type} : fsOK l false mi calX12_sideOf (fsX12_sideOf ρ) := ⟨sndX12_goes, ⟨snd_lsig, trivial⟩⟩
theorem frX12_sideOf {ρ : Type} : ∀ fn ∈ fsX12_sideOf ρ, RoF fn := (List.forall_mem_cons.mpr ⟨roX12_goes, (List.forall_mem_cons.mpr ⟨ro_lsig, (fun q9 h9 => by cases h9)⟩)⟩)
theorem ok_sdX12_sideOf : sdb (mi 231).1.2.1 (insOK mi (mi 231).1.1.cls (mi 231).1.2.2.1 (mi 231).1.2.2.2.2.1 (mi 231).1.2.2.2.2.2.1 calX12_sideOf false 1) sdX12_sideOf = true := by decide +kernel
theorem sMX12_sideOf {l : Launch} {h0 : Hp} {v : Int} (h8 : nOf h0 = 148)  (x1 : Int) (x2 : Int) (h : Hp) {r : Int} (H : MX12_sideOf x1 x2 h = some r) (hG : gV v r) : PAt l false (mi 231).1 h0 v h 0 [(0, 16, 113), (1, 0, x1), (2, 0, x2)] [] h :=
  pat_ro ok_sdX12_sideOf rfl rkX12_sideOf h8 (foX12_sideOf) (frX12_sideOf) (fun v1 q => by
    cases q
    exact ⟨rfl, fun _ => hG⟩) (fun q9 h9 => by cases h9) ((eMX12_sideOf x1 x2 h).symm.trans H)
theorem sndX12_sideOf {ρ : Type} {l : Launch} : SndF (ρ := ρ) l false (mi 231).1 (wX12_sideOf) := by
    intro a h k r H ha ho hn hf
    have h8 := hf rfl
    obtain ⟨x0, x1, x2, rfl⟩ := len3 (show a.length = 3 from ha)
    have u0 := uq16 hn (ho (16, x0) (List.mem_cons_self))
    subst u0
    replace H : bndp (MX12_sideOf x1 x2 h) (fun r => k r h) = some r := H
    obtain ⟨v2, H1, H2⟩ := bndp_some H
    exact ⟨v2, h, H2, met_mk (mok_base okX12_sideOf).1 (by decide +kernel) (Nat.le_of_ble_eq_true rfl) ho (sMX12_sideOf h8 x1 x2 h H1 rfl), fun q => by cases q⟩
theorem roX12_sideOf {ρ : Type} : RoF (wX12_sideOf : FN ρ) := fun a h k k2 hk => by
  unfold wX12_sideOf
  split
  · exact bndp_ro hk
  · rfl
/-! X12_isBetween -/
def sdX12_isBetween : SD := [(0, [(0, .iconst 0, 1, [], 0), (1, .istore_n 3, 1, [], 0)]),
  (2, [(2, .iload_n 3, 1, [], 0), (3, .iconst 2, 1, [], 0), (4, .if_icmp .ge 70, 3, [], 0)]),
  (7, [(7, .aload_n 0, 1, [], 0), (8, .getfield 37, 3, [12, 14, 1580, 1, 1336, 0], 9), (11, .iconst 3, 1, [], 0), (12, .iload_n 1, 1, [], 0), (13, .imul, 1, [], 0), (14, .iload_n 3, 1, [], 0), (15, .iadd, 1, [], 0), (16, .iaload, 1, [], 0), (17, .istore 4, 2, [], 0), (19, .aload_n 0, 1, [], 0), (20, .getfield 37, 3, [12, 14, 1580, 1, 1336, 0], 9), (23, .iconst 3, 1, [], 0), (24, .iload_n 1, 1, [], 0), (25, .iconst 1, 1, [], 0), (26, .iadd, 1, [], 0), (27, .imul, 1, [], 0), (28, .iload_n 3, 1, [], 0), (29, .iadd, 1, [], 0), (30, .iaload, 1, [], 0), (31, .istore 5, 2, [], 0), (33, .aload_n 0, 1, [], 0), (34, .getfield 37, 3, [12, 14, 1580, 1, 1336, 0], 9), (37, .iconst 3, 1, [], 0), (38, .iload_n 2, 1, [], 0), (39, .imul, 1, [], 0), (40, .iload_n 3, 1, [], 0), (41, .iadd, 1, [], 0), (42, .iaload, 1, [], 0), (43, .i2l, 1, [], 0), (44, .iload 4, 2, [], 0), (46, .iload 5, 2, [], 0), (48, .invokestatic 258, 3, [1, 0, 3, 261, 1596, 0, 0], 0), (51, .i2l, 1, [], 0), (52, .iload 4, 2, [], 0), (54, .iload 5, 2, [], 0), (56, .invokestatic 378, 3, [1, 1, 3, 262, 1696, 0, 0], 0), (59, .i2l, 1, [], 0), (60, .invokestatic 217, 3, [1, 2, 3, 81, 1561, 1, 1, 1], 0), (63, .ifCond .ne 5, 3, [], 0)]),
  (66, [(66, .iconst 0, 1, [], 0), (67, .ireturn, 1, [1], 0)]),
  (68, [(68, .iinc 3 1, 3, [], 0), (71, .goto (-69), 3, [], 0)]),
  (74, [(74, .iconst 1, 1, [], 0), (75, .ireturn, 1, [1], 0)])]
def BX12_isBetween_2 (n : Nat) : Nat → Int → Int → Int → Hp → Option (Int)
  | 0, _, _, _, _ => none
  | f + 1, x1, x2, x3, h =>
    (if 2 ≤ x3 then
    (some 1)
    else
    (grd (0 ≤ (w32 ((w32 (3 * x1)) + x3)) ∧ (w32 ((w32 (3 * x1)) + x3)) < alen 1580)
    (ltt (h 122 (w32 ((w32 (3 * x1)) + x3))) fun y1 =>
    (grd (0 ≤ (w32 ((w32 (3 * (w32 (x1 + 1)))) + x3)) ∧ (w32 ((w32 (3 * (w32 (x1 + 1)))) + x3)) < alen 1580)
    (ltt (h 122 (w32 ((w32 (3 * (w32 (x1 + 1)))) + x3))) fun y2 =>
    (grd (0 ≤ (w32 ((w32 (3 * x2)) + x3)) ∧ (w32 ((w32 (3 * x2)) + x3)) < alen 1580)
    (bndp (MX12_in (h 122 (w32 ((w32 (3 * x2)) + x3))) (min y1 y2) (max y1 y2)) fun r1 =>
    (if r1 ≠ 0 then
    (ltt (w32 (x3 + 1)) fun y3 =>
    (BX12_isBetween_2 n f x1 x2 y3 h))
    else
    (some 0)))))))))
def LX12_isBetween_2 (n : Nat) (x1 x2 x3 : Int) (h : Hp) : Option (Int) :=
(BX12_isBetween_2 n n x1 x2 x3 h)
def MX12_isBetween (n : Nat) (x1 x2 : Int) (h : Hp) : Option (Int) :=
(ltt 0 fun y1 =>
(LX12_isBetween_2 n x1 x2 y1 h))
def wX12_isBetween {ρ : Type} (n : Nat) : FN ρ := fun a h k => match a with
  | [_, x1, x2] => bndp (MX12_isBetween n x1 x2 h) (fun r => k r h)
  | _ => none
def fsX12_isBetween (n : Nat) (ρ : Type) : List (FN ρ) := [fmin, fmax, wX12_in]
def KBX12_isBetween_2 (_ : Nat) (bk : Int → Int → Int → Hp → Option (Int)) : CT (Int) := [(2, [(0, 16, (some 113)), (1, 0, none), (2, 0, none), (3, 0, none)], [], fun a c h => match a, c with
    | [x1, x2, x3], [] => bk x1 x2 x3 h
    | _, _ => none)]
set_option maxRecDepth 100000 in
theorem eBX12_isBetween_2 (n f : Nat) (x1 : Int) (x2 : Int) (x3 : Int) (h : Hp) : BX12_isBetween_2 n (f + 1) x1 x2 x3 h =
  goAt false (kct (KBX12_isBetween_2 n (BX12_isBetween_2 n f))) (fun v _ => some (v)) (fsX12_isBetween n _) sdX12_isBetween 1000 2 [(0, 16, 113), (1, 0, x1), (2, 0, x2), (3, 0, x3)] [] h := rfl
def KMX12_isBetween (n : Nat) : CT (Int) := [(2, [(0, 16, (some 113)), (1, 0, none), (2, 0, none), (3, 0, none)], [], fun a c h => match a, c with
    | [x1, x2, x3], [] => LX12_isBetween_2 n x1 x2 x3 h
    | _, _ => none)]
set_option maxRecDepth 100000 in
theorem eMX12_isBetween (n : Nat) (x1 : Int) (x2 : Int) (h : Hp) : MX12_isBetween n x1 x2 h =
  goAt false (kct (KMX12_isBetween n)) (fun v _ => some (v)) (fsX12_isBetween n _) sdX12_isBetween 1000 0 [(0, 16, 113), (1, 0, x1), (2, 0, x2)] [] h := rfl
theorem okX12_isBetween : mokb (mi 232) = true := by decide +kernel
theorem rkX12_isBetween : rkOK 4 (mi 232).1.2.2.2.2.2.2.1 (mi 232).1.2.2.2.1 := Or.inr (Or.inr (Or.inl ⟨rfl, rfl, rfl⟩))
def calX12_isBetween : List Nat := [261, 262, 81]
theorem foX12_isBetween {l : Launch} {ρ : Type} (n : Nat) : fsOK l false mi calX12_isBetween (fsX12_isBetween n ρ) := ⟨snd_mmin, ⟨snd_mmax, ⟨sndX12_in, trivial⟩⟩⟩
theorem frX12_isBetween {ρ : Type} (n : Nat) : ∀ fn ∈ fsX12_isBetween n ρ, RoF fn := (List.forall_mem_cons.mpr ⟨ro_mmin, (List.forall_mem_cons.mpr ⟨ro_mmax, (List.forall_mem_cons.mpr ⟨roX12_in, (fun q9 h9 => by cases h9)⟩)⟩)⟩)
theorem ok_sdX12_isBetween : sdb (mi 232).1.2.1 (insOK mi (mi 232).1.1.cls (mi 232).1.2.2.1 (mi 232).1.2.2.2.2.1 (mi 232).1.2.2.2.2.2.1 calX12_isBetween false 4) sdX12_isBetween = true := by decide +kernel
theorem sBX12_isBetween_2 {l : Launch} {h0 : Hp} {v : Int} (h8 : nOf h0 = 148) (n : Nat) (h : Hp) : ∀ (f : Nat) (x1 : Int) (x2 : Int) (x3 : Int) {r : Int}, BX12_isBetween_2 n f x1 x2 x3 h = some r → gV v r → PAt l false (mi 232).1 h0 v h 2 [(0, 16, 113), (1, 0, x1), (2, 0, x2), (3, 0, x3)] [] h := by
  intro f
  induction f with
  | zero =>
    intro x1 x2 x3 r H _
    have H2 : (none : Option (Int)) = some r := H
    cases H2
  | succ f ih =>
    intro x1 x2 x3 r H hG
    exact pat_ro ok_sdX12_isBetween rfl rkX12_isBetween h8 (foX12_isBetween n) (frX12_isBetween n) (fun v1 q => by
    cases q
    exact ⟨rfl, fun _ => hG⟩) (List.forall_mem_cons.mpr ⟨(fun a c H => by
      dsimp only at H
      split at H
      · exact ih _ _ _ H hG
      · cases H), (fun q9 h9 => by cases h9)⟩) ((eBX12_isBetween_2 n f x1 x2 x3 h).symm.trans H)
theorem sLX12_isBetween_2 {l : Launch} {h0 : Hp} {v : Int} (h8 : nOf h0 = 148) (n : Nat) (x1 : Int) (x2 : Int) (x3 : Int) (h : Hp) {r : Int} (H : LX12_isBetween_2 n x1 x2 x3 h = some r) (hG : gV v r) : PAt l false (mi 232).1 h0 v h 2 [(0, 16, 113), (1, 0, x1), (2, 0, x2), (3, 0, x3)] [] h :=
  sBX12_isBetween_2 h8 n h n x1 x2 x3 H hG
theorem sMX12_isBetween {l : Launch} {h0 : Hp} {v : Int} (h8 : nOf h0 = 148) (n : Nat) (x1 : Int) (x2 : Int) (h : Hp) {r : Int} (H : MX12_isBetween n x1 x2 h = some r) (hG : gV v r) : PAt l false (mi 232).1 h0 v h 0 [(0, 16, 113), (1, 0, x1), (2, 0, x2)] [] h :=
  pat_ro ok_sdX12_isBetween rfl rkX12_isBetween h8 (foX12_isBetween n) (frX12_isBetween n) (fun v1 q => by
    cases q
    exact ⟨rfl, fun _ => hG⟩) (List.forall_mem_cons.mpr ⟨(fun a c H => by
      dsimp only at H
      split at H
      · exact sLX12_isBetween_2 h8 n _ _ _ _ H hG
      · cases H), (fun q9 h9 => by cases h9)⟩) ((eMX12_isBetween n x1 x2 h).symm.trans H)
theorem sndX12_isBetween {ρ : Type} {l : Launch} (n : Nat) : SndF (ρ := ρ) l false (mi 232).1 (wX12_isBetween n) := by
    intro a h k r H ha ho hn hf
    have h8 := hf rfl
    obtain ⟨x0, x1, x2, rfl⟩ := len3 (show a.length = 3 from ha)
    have u0 := uq16 hn (ho (16, x0) (List.mem_cons_self))
    subst u0
    replace H : bndp (MX12_isBetween n x1 x2 h) (fun r => k r h) = some r := H
    obtain ⟨v2, H1, H2⟩ := bndp_some H
    exact ⟨v2, h, H2, met_mk (mok_base okX12_isBetween).1 (by decide +kernel) (Nat.le_of_ble_eq_true rfl) ho (sMX12_isBetween h8 n x1 x2 h H1 rfl), fun q => by cases q⟩
theorem roX12_isBetween {ρ : Type} (n : Nat) : RoF (wX12_isBetween n : FN ρ) := fun a h k k2 hk => by
  unfold wX12_isBetween
  split
  · exact bndp_ro hk
  · rfl
/-! X12_isOn -/
def sdX12_isOn : SD := [(0, [(0, .aload_n 0, 1, [], 0), (1, .iload_n 1, 1, [], 0), (2, .iload_n 2, 1, [], 0), (3, .invokevirtual 546, 3, [1, 0, 1, 231, 1964, 0, 0, 16], 0), (6, .ifCond .ne 16, 3, [], 0)]),
  (9, [(9, .aload_n 0, 1, [], 0), (10, .iload_n 1, 1, [], 0), (11, .iload_n 2, 1, [], 0), (12, .invokevirtual 549, 3, [1, 1, 1, 232, 1971, 0, 0, 16], 0), (15, .ifCond .eq 7, 3, [], 0)]),
  (18, [(18, .iconst 1, 1, [], 0), (19, .goto 4, 3, [], 0)]),
  (22, [(22, .iconst 0, 1, [], 0)]),
  (23, [(23, .ireturn, 1, [1], 0)])]
def MX12_isOn (n : Nat) (x1 x2 : Int) (h : Hp) : Option (Int) :=
(bndp (MX12_sideOf x1 x2 h) fun r1 =>
(if r1 ≠ 0 then
(some 0)
else
(bndp (MX12_isBetween n x1 x2 h) fun r2 =>
(if r2 = 0 then
(some 0)
else
(some 1)))))
def wX12_isOn {ρ : Type} (n : Nat) : FN ρ := fun a h k => match a with
  | [_, x1, x2] => bndp (MX12_isOn n x1 x2 h) (fun r => k r h)
  | _ => none
def fsX12_isOn (n : Nat) (ρ : Type) : List (FN ρ) := [wX12_sideOf, wX12_isBetween n]
def KMX12_isOn (_ : Nat) : CT (Int) := []
set_option maxRecDepth 100000 in
theorem eMX12_isOn (n : Nat) (x1 : Int) (x2 : Int) (h : Hp) : MX12_isOn n x1 x2 h =
  goAt false (kct (KMX12_isOn n)) (fun v _ => some (v)) (fsX12_isOn n _) sdX12_isOn 1000 0 [(0, 16, 113), (1, 0, x1), (2, 0, x2)] [] h := rfl
theorem okX12_isOn : mokb (mi 233) = true := by decide +kernel
theorem rkX12_isOn : rkOK 4 (mi 233).1.2.2.2.2.2.2.1 (mi 233).1.2.2.2.1 := Or.inr (Or.inr (Or.inl ⟨rfl, rfl, rfl⟩))
def calX12_isOn : List Nat := [231, 232]
theorem foX12_isOn {l : Launch} {ρ : Type} (n : Nat) : fsOK l false mi calX12_isOn (fsX12_isOn n ρ) := ⟨sndX12_sideOf, ⟨(sndX12_isBetween n), trivial⟩⟩
theorem frX12_isOn {ρ : Type} (n : Nat) : ∀ fn ∈ fsX12_isOn n ρ, RoF fn := (List.forall_mem_cons.mpr ⟨roX12_sideOf, (List.forall_mem_cons.mpr ⟨(roX12_isBetween n), (fun q9 h9 => by cases h9)⟩)⟩)
theorem ok_sdX12_isOn : sdb (mi 233).1.2.1 (insOK mi (mi 233).1.1.cls (mi 233).1.2.2.1 (mi 233).1.2.2.2.2.1 (mi 233).1.2.2.2.2.2.1 calX12_isOn false 4) sdX12_isOn = true := by decide +kernel
theorem sMX12_isOn {l : Launch} {h0 : Hp} {v : Int} (h8 : nOf h0 = 148) (n : Nat) (x1 : Int) (x2 : Int) (h : Hp) {r : Int} (H : MX12_isOn n x1 x2 h = some r) (hG : gV v r) : PAt l false (mi 233).1 h0 v h 0 [(0, 16, 113), (1, 0, x1), (2, 0, x2)] [] h :=
  pat_ro ok_sdX12_isOn rfl rkX12_isOn h8 (foX12_isOn n) (frX12_isOn n) (fun v1 q => by
    cases q
    exact ⟨rfl, fun _ => hG⟩) (fun q9 h9 => by cases h9) ((eMX12_isOn n x1 x2 h).symm.trans H)
theorem sndX12_isOn {ρ : Type} {l : Launch} (n : Nat) : SndF (ρ := ρ) l false (mi 233).1 (wX12_isOn n) := by
    intro a h k r H ha ho hn hf
    have h8 := hf rfl
    obtain ⟨x0, x1, x2, rfl⟩ := len3 (show a.length = 3 from ha)
    have u0 := uq16 hn (ho (16, x0) (List.mem_cons_self))
    subst u0
    replace H : bndp (MX12_isOn n x1 x2 h) (fun r => k r h) = some r := H
    obtain ⟨v2, H1, H2⟩ := bndp_some H
    exact ⟨v2, h, H2, met_mk (mok_base okX12_isOn).1 (by decide +kernel) (Nat.le_of_ble_eq_true rfl) ho (sMX12_isOn h8 n x1 x2 h H1 rfl), fun q => by cases q⟩
theorem roX12_isOn {ρ : Type} (n : Nat) : RoF (wX12_isOn n : FN ρ) := fun a h k k2 hk => by
  unfold wX12_isOn
  split
  · exact bndp_ro hk
  · rfl
/-! X12_doMeet -/
def sdX12_doMeet : SD := [(0, [(0, .aload_n 0, 1, [], 0), (1, .iload_n 1, 1, [], 0), (2, .invokevirtual 534, 3, [1, 0, 1, 226, 1944, 0, 16], 0), (5, .ifCond .eq 31, 3, [], 0)]),
  (8, [(8, .aload_n 0, 1, [], 0), (9, .iload_n 2, 1, [], 0), (10, .invokevirtual 534, 3, [1, 0, 1, 226, 1944, 0, 16], 0), (13, .ifCond .eq 23, 3, [], 0)]),
  (16, [(16, .aload_n 0, 1, [], 0), (17, .iload_n 1, 1, [], 0), (18, .invokevirtual 537, 3, [1, 1, 1, 227, 1948, 0, 16], 0), (21, .aload_n 0, 1, [], 0), (22, .iload_n 2, 1, [], 0), (23, .invokevirtual 537, 3, [1, 1, 1, 227, 1948, 0, 16], 0), (26, .if_icmp .ne 10, 3, [], 0)]),
  (29, [(29, .iload_n 2, 1, [], 0), (30, .iload_n 1, 1, [], 0), (31, .isub, 1, [], 0), (32, .iconst 2, 1, [], 0), (33, .if_icmp .ge 5, 3, [], 0)]),
  (36, [(36, .iconst 0, 1, [], 0), (37, .ireturn, 1, [1], 0)]),
  (38, [(38, .aload_n 0, 1, [], 0), (39, .iload_n 1, 1, [], 0), (40, .iload_n 2, 1, [], 0), (41, .invokevirtual 552, 3, [1, 2, 1, 233, 1960, 0, 0, 16], 0), (44, .ifCond .ne 34, 3, [], 0)]),
  (47, [(47, .aload_n 0, 1, [], 0), (48, .iload_n 1, 1, [], 0), (49, .iload_n 2, 1, [], 0), (50, .iconst 1, 1, [], 0), (51, .iadd, 1, [], 0), (52, .invokevirtual 552, 3, [1, 2, 1, 233, 1960, 0, 0, 16], 0), (55, .ifCond .ne 23, 3, [], 0)]),
  (58, [(58, .aload_n 0, 1, [], 0), (59, .iload_n 2, 1, [], 0), (60, .iload_n 1, 1, [], 0), (61, .invokevirtual 552, 3, [1, 2, 1, 233, 1960, 0, 0, 16], 0), (64, .ifCond .ne 14, 3, [], 0)]),
  (67, [(67, .aload_n 0, 1, [], 0), (68, .iload_n 2, 1, [], 0), (69, .iload_n 1, 1, [], 0), (70, .iconst 1, 1, [], 0), (71, .iadd, 1, [], 0), (72, .invokevirtual 552, 3, [1, 2, 1, 233, 1960, 0, 0, 16], 0), (75, .ifCond .eq 5, 3, [], 0)]),
  (78, [(78, .iconst 1, 1, [], 0), (79, .ireturn, 1, [1], 0)]),
  (80, [(80, .aload_n 0, 1, [], 0), (81, .iload_n 1, 1, [], 0), (82, .iload_n 2, 1, [], 0), (83, .invokevirtual 546, 3, [1, 3, 1, 231, 1964, 0, 0, 16], 0), (86, .aload_n 0, 1, [], 0), (87, .iload_n 1, 1, [], 0), (88, .iload_n 2, 1, [], 0), (89, .iconst 1, 1, [], 0), (90, .iadd, 1, [], 0), (91, .invokevirtual 546, 3, [1, 3, 1, 231, 1964, 0, 0, 16], 0), (94, .imul, 1, [], 0), (95, .ifCond .ge 25, 3, [], 0)]),
  (98, [(98, .aload_n 0, 1, [], 0), (99, .iload_n 2, 1, [], 0), (100, .iload_n 1, 1, [], 0), (101, .invokevirtual 546, 3, [1, 3, 1, 231, 1964, 0, 0, 16], 0), (104, .aload_n 0, 1, [], 0), (105, .iload_n 2, 1, [], 0), (106, .iload_n 1, 1, [], 0), (107, .iconst 1, 1, [], 0), (108, .iadd, 1, [], 0), (109, .invokevirtual 546, 3, [1, 3, 1, 231, 1964, 0, 0, 16], 0), (112, .imul, 1, [], 0), (113, .ifCond .ge 7, 3, [], 0)]),
  (116, [(116, .iconst 1, 1, [], 0), (117, .goto 4, 3, [], 0)]),
  (120, [(120, .iconst 0, 1, [], 0)]),
  (121, [(121, .ireturn, 1, [1], 0)])]
def MX12_doMeet (n : Nat) (x1 x2 : Int) (h : Hp) : Option (Int) :=
(bndp (MX12_isFlat x1 h) fun r1 =>
(if r1 = 0 then
(some 0)
else
(bndp (MX12_isFlat x2 h) fun r2 =>
(if r2 = 0 then
(some 0)
else
(bndp (MX12_heightOf x1 h) fun r3 =>
(bndp (MX12_heightOf x2 h) fun r4 =>
(if r3 ≠ r4 then
(some 0)
else
(if 2 ≤ (w32 (x2 - x1)) then
(bndp (MX12_isOn n x1 x2 h) fun r5 =>
(if r5 ≠ 0 then
(some 1)
else
(bndp (MX12_isOn n x1 (w32 (x2 + 1)) h) fun r6 =>
(if r6 ≠ 0 then
(some 1)
else
(bndp (MX12_isOn n x2 x1 h) fun r7 =>
(if r7 ≠ 0 then
(some 1)
else
(bndp (MX12_isOn n x2 (w32 (x1 + 1)) h) fun r8 =>
(if r8 = 0 then
(bndp (MX12_sideOf x1 x2 h) fun r9 =>
(bndp (MX12_sideOf x1 (w32 (x2 + 1)) h) fun r10 =>
(if 0 ≤ (w32 (r9 * r10)) then
(some 0)
else
(bndp (MX12_sideOf x2 x1 h) fun r11 =>
(bndp (MX12_sideOf x2 (w32 (x1 + 1)) h) fun r12 =>
(if 0 ≤ (w32 (r11 * r12)) then
(some 0)
else
(some 1)))))))
else
(some 1)))))))))
else
(some 0)))))))))
def wX12_doMeet {ρ : Type} (n : Nat) : FN ρ := fun a h k => match a with
  | [_, x1, x2] => bndp (MX12_doMeet n x1 x2 h) (fun r => k r h)
  | _ => none
def fsX12_doMeet (n : Nat) (ρ : Type) : List (FN ρ) := [wX12_isFlat, wX12_heightOf, wX12_isOn n, wX12_sideOf]
def KMX12_doMeet (_ : Nat) : CT (Int) := []
set_option maxRecDepth 100000 in
theorem eMX12_doMeet (n : Nat) (x1 : Int) (x2 : Int) (h : Hp) : MX12_doMeet n x1 x2 h =
  goAt false (kct (KMX12_doMeet n)) (fun v _ => some (v)) (fsX12_doMeet n _) sdX12_doMeet 1000 0 [(0, 16, 113), (1, 0, x1), (2, 0, x2)] [] h := rfl
theorem okX12_doMeet : mokb (mi 234) = true := by decide +kernel
theorem rkX12_doMeet : rkOK 4 (mi 234).1.2.2.2.2.2.2.1 (mi 234).1.2.2.2.1 := Or.inr (Or.inr (Or.inl ⟨rfl, rfl, rfl⟩))
def calX12_doMeet : List Nat := [226, 227, 233, 231]
theorem foX12_doMeet {l : Launch} {ρ : Type} (n : Nat) : fsOK l false mi calX12_doMeet (fsX12_doMeet n ρ) := ⟨sndX12_isFlat, ⟨sndX12_heightOf, ⟨(sndX12_isOn n), ⟨sndX12_sideOf, trivial⟩⟩⟩⟩
theorem frX12_doMeet {ρ : Type} (n : Nat) : ∀ fn ∈ fsX12_doMeet n ρ, RoF fn := (List.forall_mem_cons.mpr ⟨roX12_isFlat, (List.forall_mem_cons.mpr ⟨roX12_heightOf, (List.forall_mem_cons.mpr ⟨(roX12_isOn n), (List.forall_mem_cons.mpr ⟨roX12_sideOf, (fun q9 h9 => by cases h9)⟩)⟩)⟩)⟩)
theorem ok_sdX12_doMeet : sdb (mi 234).1.2.1 (insOK mi (mi 234).1.1.cls (mi 234).1.2.2.1 (mi 234).1.2.2.2.2.1 (mi 234).1.2.2.2.2.2.1 calX12_doMeet false 4) sdX12_doMeet = true := by decide +kernel
theorem sMX12_doMeet {l : Launch} {h0 : Hp} {v : Int} (h8 : nOf h0 = 148) (n : Nat) (x1 : Int) (x2 : Int) (h : Hp) {r : Int} (H : MX12_doMeet n x1 x2 h = some r) (hG : gV v r) : PAt l false (mi 234).1 h0 v h 0 [(0, 16, 113), (1, 0, x1), (2, 0, x2)] [] h :=
  pat_ro ok_sdX12_doMeet rfl rkX12_doMeet h8 (foX12_doMeet n) (frX12_doMeet n) (fun v1 q => by
    cases q
    exact ⟨rfl, fun _ => hG⟩) (fun q9 h9 => by cases h9) ((eMX12_doMeet n x1 x2 h).symm.trans H)
theorem sndX12_doMeet {ρ : Type} {l : Launch} (n : Nat) : SndF (ρ := ρ) l false (mi 234).1 (wX12_doMeet n) := by
    intro a h k r H ha ho hn hf
    have h8 := hf rfl
    obtain ⟨x0, x1, x2, rfl⟩ := len3 (show a.length = 3 from ha)
    have u0 := uq16 hn (ho (16, x0) (List.mem_cons_self))
    subst u0
    replace H : bndp (MX12_doMeet n x1 x2 h) (fun r => k r h) = some r := H
    obtain ⟨v2, H1, H2⟩ := bndp_some H
    exact ⟨v2, h, H2, met_mk (mok_base okX12_doMeet).1 (by decide +kernel) (Nat.le_of_ble_eq_true rfl) ho (sMX12_doMeet h8 n x1 x2 h H1 rfl), fun q => by cases q⟩
theorem roX12_doMeet {ρ : Type} (n : Nat) : RoF (wX12_doMeet n : FN ρ) := fun a h k k2 hk => by
  unfold wX12_doMeet
  split
  · exact bndp_ro hk
  · rfl
/-! X12_meets -/
def sdX12_meets : SD := [(0, [(0, .iload_n 1, 1, [], 0), (1, .i2l, 1, [], 0), (2, .lconst 0, 1, [], 0), (3, .ldc2_w 125, 3, [1, 1321], 2), (6, .invokestatic 217, 3, [1, 0, 3, 81, 1561, 1, 1, 1], 0), (9, .ifCond .ne 5, 3, [], 0)]),
  (12, [(12, .iconst (-1), 1, [], 0), (13, .ireturn, 1, [], 0)]),
  (14, [(14, .iconst 0, 1, [], 0), (15, .istore_n 2, 1, [], 0), (16, .bipush (-2), 2, [], 0), (18, .istore_n 3, 1, [], 0), (19, .bipush (-2), 2, [], 0), (21, .istore 4, 2, [], 0), (23, .iconst 0, 1, [], 0), (24, .istore 5, 2, [], 0)]),
  (26, [(26, .iload 5, 2, [], 0), (28, .aload_n 0, 1, [], 0), (29, .getfield 140, 3, [12, 6, 0, 0, 1328, 0], 0), (32, .if_icmp .ge 68, 3, [], 0)]),
  (35, [(35, .iload 5, 2, [], 0), (37, .iconst 2, 1, [], 0), (38, .iadd, 1, [], 0), (39, .istore 6, 2, [], 0)]),
  (41, [(41, .iload 6, 2, [], 0), (43, .aload_n 0, 1, [], 0), (44, .getfield 140, 3, [12, 6, 0, 0, 1328, 0], 0), (47, .if_icmp .ge 47, 3, [], 0)]),
  (50, [(50, .aload_n 0, 1, [], 0), (51, .iload 5, 2, [], 0), (53, .iload 6, 2, [], 0), (55, .invokevirtual 555, 3, [1, 1, 1, 234, 1956, 0, 0, 16], 0), (58, .ifCond .eq 30, 3, [], 0)]),
  (61, [(61, .iload_n 2, 1, [], 0), (62, .ifCond .ne 8, 3, [], 0)]),
  (65, [(65, .iload 5, 2, [], 0), (67, .goto 4, 3, [], 0)]),
  (70, [(70, .iload_n 3, 1, [], 0)]),
  (71, [(71, .istore_n 3, 1, [], 0), (72, .iload_n 2, 1, [], 0), (73, .ifCond .ne 8, 3, [], 0)]),
  (76, [(76, .iload 6, 2, [], 0), (78, .goto 5, 3, [], 0)]),
  (81, [(81, .iload 4, 2, [], 0)]),
  (83, [(83, .istore 4, 2, [], 0), (85, .iinc 2 1, 3, [], 0)]),
  (88, [(88, .iinc 6 1, 3, [], 0), (91, .goto (-50), 3, [], 0)]),
  (94, [(94, .iinc 5 1, 3, [], 0), (97, .goto (-71), 3, [], 0)]),
  (100, [(100, .iload_n 1, 1, [], 0), (101, .ifCond .ne 7, 3, [], 0)]),
  (104, [(104, .iload_n 2, 1, [], 0), (105, .goto 14, 3, [], 0)]),
  (108, [(108, .iload_n 1, 1, [], 0), (109, .iconst 1, 1, [], 0), (110, .if_icmp .ne 7, 3, [], 0)]),
  (113, [(113, .iload_n 3, 1, [], 0), (114, .goto 5, 3, [], 0)]),
  (117, [(117, .iload 4, 2, [], 0)]),
  (119, [(119, .ireturn, 1, [], 0)])]
def JX12_meets_71 (n : Nat) (bk : Int → Int → Int → Int → Int → Int → Hp → Option (Int × Int × Int × Int × Int)) (x1 x2 x4 x5 x6 z0 : Int) (h : Hp) : Option (Int × Int × Int × Int × Int) :=
(ltt z0 fun y1 =>
(if x2 ≠ 0 then
(ltt x4 fun y2 =>
(ltt (w32 (x2 + 1)) fun y3 =>
(ltt (w32 (x6 + 1)) fun y4 =>
(bk x1 y3 y1 y2 x5 y4 h))))
else
(ltt x6 fun y5 =>
(ltt (w32 (x2 + 1)) fun y6 =>
(ltt (w32 (x6 + 1)) fun y7 =>
(bk x1 y6 y1 y5 x5 y7 h))))))
def BX12_meets_41 (n : Nat) : Nat → Int → Int → Int → Int → Int → Int → Hp → Option (Int × Int × Int × Int × Int)
  | 0, _, _, _, _, _, _, _ => none
  | f + 1, x1, x2, x3, x4, x5, x6, h =>
    (if (h 113 6) ≤ x6 then
    (some (x1, x2, x3, x4, x5))
    else
    (bndp (MX12_doMeet n x5 x6 h) fun r1 =>
    (if r1 = 0 then
    (ltt (w32 (x6 + 1)) fun y1 =>
    (BX12_meets_41 n f x1 x2 x3 x4 x5 y1 h))
    else
    (if x2 ≠ 0 then
    (JX12_meets_71 n (BX12_meets_41 n f) x1 x2 x4 x5 x6 x3 h)
    else
    (JX12_meets_71 n (BX12_meets_41 n f) x1 x2 x4 x5 x6 x5 h)))))
def JX12_meets_94 (n : Nat) (bk : Int → Int → Int → Int → Int → Hp → Option (Int × Int × Int × Int)) (x1 x2 x3 x4 x5 : Int) (h : Hp) : Option (Int × Int × Int × Int) :=
(ltt (w32 (x5 + 1)) fun y1 =>
(bk x1 x2 x3 x4 y1 h))
def LX12_meets_41 (n : Nat) (bk : Int → Int → Int → Int → Int → Hp → Option (Int × Int × Int × Int)) (x1 x2 x3 x4 x5 x6 : Int) (h : Hp) : Option (Int × Int × Int × Int) :=
(bndx (BX12_meets_41 n n x1 x2 x3 x4 x5 x6 h) fun (e1, e2, e3, e4, e5) =>
(JX12_meets_94 n bk e1 e2 e3 e4 e5 h))
def BX12_meets_26 (n : Nat) : Nat → Int → Int → Int → Int → Int → Hp → Option (Int × Int × Int × Int)
  | 0, _, _, _, _, _, _ => none
  | f + 1, x1, x2, x3, x4, x5, h =>
    (if (h 113 6) ≤ x5 then
    (some (x1, x2, x3, x4))
    else
    (ltt (w32 (x5 + 2)) fun y1 =>
    (LX12_meets_41 n (BX12_meets_26 n f) x1 x2 x3 x4 x5 y1 h)))
def JX12_meets_100 (n : Nat) (x1 x2 x3 x4 : Int) (h : Hp) : Option (Int) :=
(if x1 ≠ 0 then
(if x1 ≠ 1 then
(some x4)
else
(some x3))
else
(some x2))
def LX12_meets_26 (n : Nat) (x1 x2 x3 x4 x5 : Int) (h : Hp) : Option (Int) :=
(bndx (BX12_meets_26 n n x1 x2 x3 x4 x5 h) fun (e1, e2, e3, e4) =>
(JX12_meets_100 n e1 e2 e3 e4 h))
def MX12_meets (n : Nat) (x1 : Int) (h : Hp) : Option (Int) :=
(bndp (MX12_in x1 0 2) fun r1 =>
(if r1 ≠ 0 then
(ltt 0 fun y1 =>
(ltt (-2) fun y2 =>
(ltt (-2) fun y3 =>
(ltt 0 fun y4 =>
(LX12_meets_26 n x1 y1 y2 y3 y4 h)))))
else
(some (-1))))
def wX12_meets {ρ : Type} (n : Nat) : FN ρ := fun a h k => match a with
  | [_, x1] => bndp (MX12_meets n x1 h) (fun r => k r h)
  | _ => none
def fsX12_meets (n : Nat) (ρ : Type) : List (FN ρ) := [wX12_in, wX12_doMeet n]
def KJX12_meets_71 (_ : Nat) (bk : Int → Int → Int → Int → Int → Int → Hp → Option (Int × Int × Int × Int × Int)) : CT (Int × Int × Int × Int × Int) := [(41, [(0, 16, (some 113)), (1, 0, none), (2, 0, none), (3, 0, none), (4, 0, none), (5, 0, none), (6, 0, none)], [], fun a c h => match a, c with
    | [x1, x2, x3, x4, x5, x6], [] => bk x1 x2 x3 x4 x5 x6 h
    | _, _ => none),
  (94, [(0, 16, (some 113)), (1, 0, none), (2, 0, none), (3, 0, none), (4, 0, none), (5, 0, none)], [], fun a c _ => match a, c with
    | [x1, x2, x3, x4, x5], [] => some (x1, x2, x3, x4, x5)
    | _, _ => none)]
set_option maxRecDepth 100000 in
theorem eJX12_meets_71 (n : Nat) (bk : Int → Int → Int → Int → Int → Int → Hp → Option (Int × Int × Int × Int × Int)) (x1 : Int) (x2 : Int) (x4 : Int) (x5 : Int) (x6 : Int) (z0 : Int) (h : Hp) : JX12_meets_71 n bk x1 x2 x4 x5 x6 z0 h =
  goAt false (kct (KJX12_meets_71 n bk)) (fun _ _ => none) (fsX12_meets n _) sdX12_meets 1000 71 [(0, 16, 113), (1, 0, x1), (2, 0, x2), (4, 0, x4), (5, 0, x5), (6, 0, x6)] [(0, z0)] h := rfl
def KBX12_meets_41 (n : Nat) (bk : Int → Int → Int → Int → Int → Int → Hp → Option (Int × Int × Int × Int × Int)) : CT (Int × Int × Int × Int × Int) := [(41, [(0, 16, (some 113)), (1, 0, none), (2, 0, none), (3, 0, none), (4, 0, none), (5, 0, none), (6, 0, none)], [], fun a c h => match a, c with
    | [x1, x2, x3, x4, x5, x6], [] => bk x1 x2 x3 x4 x5 x6 h
    | _, _ => none),
  (94, [(0, 16, (some 113)), (1, 0, none), (2, 0, none), (3, 0, none), (4, 0, none), (5, 0, none)], [], fun a c _ => match a, c with
    | [x1, x2, x3, x4, x5], [] => some (x1, x2, x3, x4, x5)
    | _, _ => none),
  (71, [(0, 16, (some 113)), (1, 0, none), (2, 0, none), (4, 0, none), (5, 0, none), (6, 0, none)], [(0, none)], fun a c h => match a, c with
    | [x1, x2, x4, x5, x6], [z0] => JX12_meets_71 n bk x1 x2 x4 x5 x6 z0 h
    | _, _ => none)]
set_option maxRecDepth 100000 in
theorem eBX12_meets_41 (n f : Nat) (x1 : Int) (x2 : Int) (x3 : Int) (x4 : Int) (x5 : Int) (x6 : Int) (h : Hp) : BX12_meets_41 n (f + 1) x1 x2 x3 x4 x5 x6 h =
  goAt false (kct (KBX12_meets_41 n (BX12_meets_41 n f))) (fun _ _ => none) (fsX12_meets n _) sdX12_meets 1000 41 [(0, 16, 113), (1, 0, x1), (2, 0, x2), (3, 0, x3), (4, 0, x4), (5, 0, x5), (6, 0, x6)] [] h := rfl
def KJX12_meets_94 (_ : Nat) (bk : Int → Int → Int → Int → Int → Hp → Option (Int × Int × Int × Int)) : CT (Int × Int × Int × Int) := [(26, [(0, 16, (some 113)), (1, 0, none), (2, 0, none), (3, 0, none), (4, 0, none), (5, 0, none)], [], fun a c h => match a, c with
    | [x1, x2, x3, x4, x5], [] => bk x1 x2 x3 x4 x5 h
    | _, _ => none),
  (100, [(1, 0, none), (2, 0, none), (3, 0, none), (4, 0, none)], [], fun a c _ => match a, c with
    | [x1, x2, x3, x4], [] => some (x1, x2, x3, x4)
    | _, _ => none)]
set_option maxRecDepth 100000 in
theorem eJX12_meets_94 (n : Nat) (bk : Int → Int → Int → Int → Int → Hp → Option (Int × Int × Int × Int)) (x1 : Int) (x2 : Int) (x3 : Int) (x4 : Int) (x5 : Int) (h : Hp) : JX12_meets_94 n bk x1 x2 x3 x4 x5 h =
  goAt false (kct (KJX12_meets_94 n bk)) (fun _ _ => none) (fsX12_meets n _) sdX12_meets 1000 94 [(0, 16, 113), (1, 0, x1), (2, 0, x2), (3, 0, x3), (4, 0, x4), (5, 0, x5)] [] h := rfl
def KBX12_meets_26 (n : Nat) (bk : Int → Int → Int → Int → Int → Hp → Option (Int × Int × Int × Int)) : CT (Int × Int × Int × Int) := [(26, [(0, 16, (some 113)), (1, 0, none), (2, 0, none), (3, 0, none), (4, 0, none), (5, 0, none)], [], fun a c h => match a, c with
    | [x1, x2, x3, x4, x5], [] => bk x1 x2 x3 x4 x5 h
    | _, _ => none),
  (100, [(1, 0, none), (2, 0, none), (3, 0, none), (4, 0, none)], [], fun a c _ => match a, c with
    | [x1, x2, x3, x4], [] => some (x1, x2, x3, x4)
    | _, _ => none),
  (41, [(0, 16, (some 113)), (1, 0, none), (2, 0, none), (3, 0, none), (4, 0, none), (5, 0, none), (6, 0, none)], [], fun a c h => match a, c with
    | [x1, x2, x3, x4, x5, x6], [] => LX12_meets_41 n bk x1 x2 x3 x4 x5 x6 h
    | _, _ => none)]
set_option maxRecDepth 100000 in
theorem eBX12_meets_26 (n f : Nat) (x1 : Int) (x2 : Int) (x3 : Int) (x4 : Int) (x5 : Int) (h : Hp) : BX12_meets_26 n (f + 1) x1 x2 x3 x4 x5 h =
  goAt false (kct (KBX12_meets_26 n (BX12_meets_26 n f))) (fun _ _ => none) (fsX12_meets n _) sdX12_meets 1000 26 [(0, 16, 113), (1, 0, x1), (2, 0, x2), (3, 0, x3), (4, 0, x4), (5, 0, x5)] [] h := rfl
def KJX12_meets_100 (_ : Nat) : CT (Int) := []
set_option maxRecDepth 100000 in
theorem eJX12_meets_100 (n : Nat) (x1 : Int) (x2 : Int) (x3 : Int) (x4 : Int) (h : Hp) : JX12_meets_100 n x1 x2 x3 x4 h =
  goAt false (kct (KJX12_meets_100 n)) (fun v _ => some (v)) (fsX12_meets n _) sdX12_meets 1000 100 [(1, 0, x1), (2, 0, x2), (3, 0, x3), (4, 0, x4)] [] h := rfl
def KMX12_meets (n : Nat) : CT (Int) := [(26, [(0, 16, (some 113)), (1, 0, none), (2, 0, none), (3, 0, none), (4, 0, none), (5, 0, none)], [], fun a c h => match a, c with
    | [x1, x2, x3, x4, x5], [] => LX12_meets_26 n x1 x2 x3 x4 x5 h
    | _, _ => none)]
set_option maxRecDepth 100000 in
theorem eMX12_meets (n : Nat) (x1 : Int) (h : Hp) : MX12_meets n x1 h =
  goAt false (kct (KMX12_meets n)) (fun v _ => some (v)) (fsX12_meets n _) sdX12_meets 1000 0 [(0, 16, 113), (1, 0, x1)] [] h := rfl
theorem okX12_meets : mokb (mi 235) = true := by decide +kernel
theorem rkX12_meets : rkOK 1 (mi 235).1.2.2.2.2.2.2.1 (mi 235).1.2.2.2.1 := Or.inr (Or.inl ⟨rfl, rfl, rfl⟩)
def calX12_meets : List Nat := [81, 234]
theorem foX12_meets {l : Launch} {ρ : Type} (n : Nat) : fsOK l false mi calX12_meets (fsX12_meets n ρ) := ⟨sndX12_in, ⟨(sndX12_doMeet n), trivial⟩⟩
theorem frX12_meets {ρ : Type} (n : Nat) : ∀ fn ∈ fsX12_meets n ρ, RoF fn := (List.forall_mem_cons.mpr ⟨roX12_in, (List.forall_mem_cons.mpr ⟨(roX12_doMeet n), (fun q9 h9 => by cases h9)⟩)⟩)
theorem ok_sdX12_meets : sdb (mi 235).1.2.1 (insOK mi (mi 235).1.1.cls (mi 235).1.2.2.1 (mi 235).1.2.2.2.2.1 (mi 235).1.2.2.2.2.2.1 calX12_meets false 1) sdX12_meets = true := by decide +kernel
def GX12_meets_41 (l : Launch) (h0 : Hp) (_ : Hp) (v : Int) (h : Hp) : (Int × Int × Int × Int × Int) → Prop
  | (e1, e2, e3, e4, e5) => PAt l false (mi 235).1 h0 v h 94 [(0, 16, 113), (1, 0, e1), (2, 0, e2), (3, 0, e3), (4, 0, e4), (5, 0, e5)] [] h
def GX12_meets_26 (l : Launch) (h0 : Hp) (_ : Hp) (v : Int) (h : Hp) : (Int × Int × Int × Int) → Prop
  | (e1, e2, e3, e4) => PAt l false (mi 235).1 h0 v h 100 [(1, 0, e1), (2, 0, e2), (3, 0, e3), (4, 0, e4)] [] h
theorem sJX12_meets_71 {l : Launch} {h0 : Hp} {v : Int} (h8 : nOf h0 = 148) (n : Nat) (bk : Int → Int → Int → Int → Int → Int → Hp → Option (Int × Int × Int × Int × Int)) {h : Hp} (hbk : ∀ (x1 : Int) (x2 : Int) (x3 : Int) (x4 : Int) (x5 : Int) (x6 : Int) (r : Int × Int × Int × Int × Int), bk x1 x2 x3 x4 x5 x6 h = some r → GX12_meets_41 l h0 h v h r → PAt l false (mi 235).1 h0 v h 41 [(0, 16, 113), (1, 0, x1), (2, 0, x2), (3, 0, x3), (4, 0, x4), (5, 0, x5), (6, 0, x6)] [] h) (x1 : Int) (x2 : Int) (x4 : Int) (x5 : Int) (x6 : Int) (z0 : Int) (_ : Hp) {r : Int × Int × Int × Int × Int} (H : JX12_meets_71 n bk x1 x2 x4 x5 x6 z0 h = some r) (hG : GX12_meets_41 l h0 h v h r) : PAt l false (mi 235).1 h0 v h 71 [(0, 16, 113), (1, 0, x1), (2, 0, x2), (4, 0, x4), (5, 0, x5), (6, 0, x6)] [(0, z0)] h :=
  pat_ro ok_sdX12_meets rfl rkX12_meets h8 (foX12_meets n) (frX12_meets n) (fun v1 q => by cases q) (List.forall_mem_cons.mpr ⟨(fun a c H => by
      dsimp only at H
      split at H
      · exact hbk _ _ _ _ _ _ _ H hG
      · cases H), (List.forall_mem_cons.mpr ⟨(fun a c H => by
      dsimp only at H
      split at H
      · cases H
        exact hG
      · cases H), (fun q9 h9 => by cases h9)⟩)⟩) ((eJX12_meets_71 n bk x1 x2 x4 x5 x6 z0 h).symm.trans H)
theorem sBX12_meets_41 {l : Launch} {h0 : Hp} {v : Int} (h8 : nOf h0 = 148) (n : Nat) (h : Hp) : ∀ (f : Nat) (x1 : Int) (x2 : Int) (x3 : Int) (x4 : Int) (x5 : Int) (x6 : Int) {r : Int × Int × Int × Int × Int}, BX12_meets_41 n f x1 x2 x3 x4 x5 x6 h = some r → GX12_meets_41 l h0 h v h r → PAt l false (mi 235).1 h0 v h 41 [(0, 16, 113), (1, 0, x1), (2, 0, x2), (3, 0, x3), (4, 0, x4), (5, 0, x5), (6, 0, x6)] [] h := by
  intro f
  induction f with
  | zero =>
    intro x1 x2 x3 x4 x5 x6 r H _
    have H2 : (none : Option (Int × Int × Int × Int × Int)) = some r := H
    cases H2
  | succ f ih =>
    intro x1 x2 x3 x4 x5 x6 r H hG
    have ihk : ∀ (x1 : Int) (x2 : Int) (x3 : Int) (x4 : Int) (x5 : Int) (x6 : Int) (r : Int × Int × Int × Int × Int), BX12_meets_41 n f x1 x2 x3 x4 x5 x6 h = some r → GX12_meets_41 l h0 h v h r → PAt l false (mi 235).1 h0 v h 41 [(0, 16, 113), (1, 0, x1), (2, 0, x2), (3, 0, x3), (4, 0, x4), (5, 0, x5), (6, 0, x6)] [] h := fun x1 x2 x3 x4 x5 x6 r9 a9 b9 => ih x1 x2 x3 x4 x5 x6 a9 b9
    exact pat_ro ok_sdX12_meets rfl rkX12_meets h8 (foX12_meets n) (frX12_meets n) (fun v1 q => by cases q) (List.forall_mem_cons.mpr ⟨(fun a c H => by
      dsimp only at H
      split at H
      · exact ih _ _ _ _ _ _ H hG
      · cases H), (List.forall_mem_cons.mpr ⟨(fun a c H => by
      dsimp only at H
      split at H
      · cases H
        exact hG
      · cases H), (List.forall_mem_cons.mpr ⟨(fun a c H => by
      dsimp only at H
      split at H
      · exact sJX12_meets_71 h8 n (BX12_meets_41 n f) ihk _ _ _ _ _ _ h H hG
      · cases H), (fun q9 h9 => by cases h9)⟩)⟩)⟩) ((eBX12_meets_41 n f x1 x2 x3 x4 x5 x6 h).symm.trans H)
theorem sJX12_meets_94 {l : Launch} {h0 : Hp} {v : Int} (h8 : nOf h0 = 148) (n : Nat) (bk : Int → Int → Int → Int → Int → Hp → Option (Int × Int × Int × Int)) {h : Hp} (hbk : ∀ (x1 : Int) (x2 : Int) (x3 : Int) (x4 : Int) (x5 : Int) (r : Int × Int × Int × Int), bk x1 x2 x3 x4 x5 h = some r → GX12_meets_26 l h0 h v h r → PAt l false (mi 235).1 h0 v h 26 [(0, 16, 113), (1, 0, x1), (2, 0, x2), (3, 0, x3), (4, 0, x4), (5, 0, x5)] [] h) (x1 : Int) (x2 : Int) (x3 : Int) (x4 : Int) (x5 : Int) (_ : Hp) {r : Int × Int × Int × Int} (H : JX12_meets_94 n bk x1 x2 x3 x4 x5 h = some r) (hG : GX12_meets_26 l h0 h v h r) : PAt l false (mi 235).1 h0 v h 94 [(0, 16, 113), (1, 0, x1), (2, 0, x2), (3, 0, x3), (4, 0, x4), (5, 0, x5)] [] h :=
  pat_ro ok_sdX12_meets rfl rkX12_meets h8 (foX12_meets n) (frX12_meets n) (fun v1 q => by cases q) (List.forall_mem_cons.mpr ⟨(fun a c H => by
      dsimp only at H
      split at H
      · exact hbk _ _ _ _ _ _ H hG
      · cases H), (List.forall_mem_cons.mpr ⟨(fun a c H => by
      dsimp only at H
      split at H
      · cases H
        exact hG
      · cases H), (fun q9 h9 => by cases h9)⟩)⟩) ((eJX12_meets_94 n bk x1 x2 x3 x4 x5 h).symm.trans H)
theorem sLX12_meets_41 {l : Launch} {h0 : Hp} {v : Int} (h8 : nOf h0 = 148) (n : Nat) (bk : Int → Int → Int → Int → Int → Hp → Option (Int × Int × Int × Int)) {h : Hp} (hbk : ∀ (x1 : Int) (x2 : Int) (x3 : Int) (x4 : Int) (x5 : Int) (r : Int × Int × Int × Int), bk x1 x2 x3 x4 x5 h = some r → GX12_meets_26 l h0 h v h r → PAt l false (mi 235).1 h0 v h 26 [(0, 16, 113), (1, 0, x1), (2, 0, x2), (3, 0, x3), (4, 0, x4), (5, 0, x5)] [] h) (x1 : Int) (x2 : Int) (x3 : Int) (x4 : Int) (x5 : Int) (x6 : Int) (_ : Hp) {r : Int × Int × Int × Int} (H : LX12_meets_41 n bk x1 x2 x3 x4 x5 x6 h = some r) (hG : GX12_meets_26 l h0 h v h r) : PAt l false (mi 235).1 h0 v h 41 [(0, 16, 113), (1, 0, x1), (2, 0, x2), (3, 0, x3), (4, 0, x4), (5, 0, x5), (6, 0, x6)] [] h := by
  obtain ⟨e9, h2, h3⟩ := bndx_some H
  obtain ⟨e1, e2, e3, e4, e5⟩ := e9
  exact sBX12_meets_41 h8 n h n x1 x2 x3 x4 x5 x6 h2 (sJX12_meets_94 h8 n bk hbk e1 e2 e3 e4 e5 h h3 hG)
theorem sBX12_meets_26 {l : Launch} {h0 : Hp} {v : Int} (h8 : nOf h0 = 148) (n : Nat) (h : Hp) : ∀ (f : Nat) (x1 : Int) (x2 : Int) (x3 : Int) (x4 : Int) (x5 : Int) {r : Int × Int × Int × Int}, BX12_meets_26 n f x1 x2 x3 x4 x5 h = some r → GX12_meets_26 l h0 h v h r → PAt l false (mi 235).1 h0 v h 26 [(0, 16, 113), (1, 0, x1), (2, 0, x2), (3, 0, x3), (4, 0, x4), (5, 0, x5)] [] h := by
  intro f
  induction f with
  | zero =>
    intro x1 x2 x3 x4 x5 r H _
    have H2 : (none : Option (Int × Int × Int × Int)) = some r := H
    cases H2
  | succ f ih =>
    intro x1 x2 x3 x4 x5 r H hG
    have ihk : ∀ (x1 : Int) (x2 : Int) (x3 : Int) (x4 : Int) (x5 : Int) (r : Int × Int × Int × Int), BX12_meets_26 n f x1 x2 x3 x4 x5 h = some r → GX12_meets_26 l h0 h v h r → PAt l false (mi 235).1 h0 v h 26 [(0, 16, 113), (1, 0, x1), (2, 0, x2), (3, 0, x3), (4, 0, x4), (5, 0, x5)] [] h := fun x1 x2 x3 x4 x5 r9 a9 b9 => ih x1 x2 x3 x4 x5 a9 b9
    exact pat_ro ok_sdX12_meets rfl rkX12_meets h8 (foX12_meets n) (frX12_meets n) (fun v1 q => by cases q) (List.forall_mem_cons.mpr ⟨(fun a c H => by
      dsimp only at H
      split at H
      · exact ih _ _ _ _ _ H hG
      · cases H), (List.forall_mem_cons.mpr ⟨(fun a c H => by
      dsimp only at H
      split at H
      · cases H
        exact hG
      · cases H), (List.forall_mem_cons.mpr ⟨(fun a c H => by
      dsimp only at H
      split at H
      · exact sLX12_meets_41 h8 n (BX12_meets_26 n f) ihk _ _ _ _ _ _ h H hG
      · cases H), (fun q9 h9 => by cases h9)⟩)⟩)⟩) ((eBX12_meets_26 n f x1 x2 x3 x4 x5 h).symm.trans H)
theorem sJX12_meets_100 {l : Launch} {h0 : Hp} {v : Int} (h8 : nOf h0 = 148) (n : Nat) (x1 : Int) (x2 : Int) (x3 : Int) (x4 : Int) (h : Hp) {r : Int} (H : JX12_meets_100 n x1 x2 x3 x4 h = some r) (hG : gV v r) : PAt l false (mi 235).1 h0 v h 100 [(1, 0, x1), (2, 0, x2), (3, 0, x3), (4, 0, x4)] [] h :=
  pat_ro ok_sdX12_meets rfl rkX12_meets h8 (foX12_meets n) (frX12_meets n) (fun v1 q => by
    cases q
    exact ⟨rfl, fun _ => hG⟩) (fun q9 h9 => by cases h9) ((eJX12_meets_100 n x1 x2 x3 x4 h).symm.trans H)
theorem sLX12_meets_26 {l : Launch} {h0 : Hp} {v : Int} (h8 : nOf h0 = 148) (n : Nat) (x1 : Int) (x2 : Int) (x3 : Int) (x4 : Int) (x5 : Int) (h : Hp) {r : Int} (H : LX12_meets_26 n x1 x2 x3 x4 x5 h = some r) (hG : gV v r) : PAt l false (mi 235).1 h0 v h 26 [(0, 16, 113), (1, 0, x1), (2, 0, x2), (3, 0, x3), (4, 0, x4), (5, 0, x5)] [] h := by
  obtain ⟨e9, h2, h3⟩ := bndx_some H
  obtain ⟨e1, e2, e3, e4⟩ := e9
  exact sBX12_meets_26 h8 n h n x1 x2 x3 x4 x5 h2 (sJX12_meets_100 h8 n e1 e2 e3 e4 h h3 hG)
theorem sMX12_meets {l : Launch} {h0 : Hp} {v : Int} (h8 : nOf h0 = 148) (n : Nat) (x1 : Int) (h : Hp) {r : Int} (H : MX12_meets n x1 h = some r) (hG : gV v r) : PAt l false (mi 235).1 h0 v h 0 [(0, 16, 113), (1, 0, x1)] [] h :=
  pat_ro ok_sdX12_meets rfl rkX12_meets h8 (foX12_meets n) (frX12_meets n) (fun v1 q => by
    cases q
    exact ⟨rfl, fun _ => hG⟩) (List.forall_mem_cons.mpr ⟨(fun a c H => by
      dsimp only at H
      split at H
      · exact sLX12_meets_26 h8 n _ _ _ _ _ _ H hG
      · cases H), (fun q9 h9 => by cases h9)⟩) ((eMX12_meets n x1 h).symm.trans H)
theorem sndX12_meets {ρ : Type} {l : Launch} (n : Nat) : SndF (ρ := ρ) l false (mi 235).1 (wX12_meets n) := by
    intro a h k r H ha ho hn hf
    have h8 := hf rfl
    obtain ⟨x0, x1, rfl⟩ := len2 (show a.length = 2 from ha)
    have u0 := uq16 hn (ho (16, x0) (List.mem_cons_self))
    subst u0
    replace H : bndp (MX12_meets n x1 h) (fun r => k r h) = some r := H
    obtain ⟨v2, H1, H2⟩ := bndp_some H
    exact ⟨v2, h, H2, met_mk (mok_base okX12_meets).1 (by decide +kernel) (Nat.le_of_ble_eq_true rfl) ho (sMX12_meets h8 n x1 h H1 rfl), fun q => by cases q⟩
theorem roX12_meets {ρ : Type} (n : Nat) : RoF (wX12_meets n : FN ρ) := fun a h k k2 hk => by
  unfold wX12_meets
  split
  · exact bndp_ro hk
  · rfl
/-! X7_edge -/
def sdX7_edge : SD := [(0, [(0, .iload_n 1, 1, [], 0), (1, .invokestatic 118, 3, [1, 0, 4, 30, 1242, 0], 0), (4, .ifCond .ne 6, 3, [], 0)]),
  (7, [(7, .ldc 122, 2, [0, 1243], (-2147483648)), (9, .ireturn, 1, [], 0)]),
  (10, [(10, .aload_n 0, 1, [], 0), (11, .getfield 11, 3, [7, 1, 50, 1, 363, 0], 1), (14, .iload_n 1, 1, [], 0), (15, .aaload, 1, [], 0), (16, .iconst 0, 1, [], 0), (17, .iaload, 1, [], 0), (18, .istore_n 3, 1, [], 0), (19, .iconst 1, 1, [], 0), (20, .istore 4, 2, [], 0)]),
  (22, [(22, .iload 4, 2, [], 0), (24, .aload_n 0, 1, [], 0), (25, .getfield 51, 3, [7, 4, 0, 0, 368, 0], 0), (28, .if_icmp .ge 40, 3, [], 0)]),
  (31, [(31, .aload_n 0, 1, [], 0), (32, .getfield 11, 3, [7, 1, 50, 1, 363, 0], 1), (35, .iload_n 1, 1, [], 0), (36, .aaload, 1, [], 0), (37, .iload 4, 2, [], 0), (39, .iaload, 1, [], 0), (40, .istore 5, 2, [], 0), (42, .iload_n 2, 1, [], 0), (43, .ifCond .eq 12, 3, [], 0)]),
  (46, [(46, .iload_n 3, 1, [], 0), (47, .iload 5, 2, [], 0), (49, .invokestatic 115, 3, [1, 1, 3, 262, 673, 0, 0], 0), (52, .goto 9, 3, [], 0)]),
  (55, [(55, .iload_n 3, 1, [], 0), (56, .iload 5, 2, [], 0), (58, .invokestatic 88, 3, [1, 2, 3, 261, 656, 0, 0], 0)]),
  (61, [(61, .istore_n 3, 1, [], 0), (62, .iinc 4 1, 3, [], 0), (65, .goto (-43), 3, [], 0)]),
  (68, [(68, .iload_n 3, 1, [], 0), (69, .ireturn, 1, [], 0)])]
def JX7_edge_61 (n : Nat) (bk : Int → Int → Int → Int → Hp → Option (Int)) (x1 x2 x4 z0 : Int) (h : Hp) : Option (Int) :=
(ltt z0 fun y1 =>
(ltt (w32 (x4 + 1)) fun y2 =>
(bk x1 x2 y1 y2 h)))
def BX7_edge_22 (n : Nat) : Nat → Int → Int → Int → Int → Hp → Option (Int)
  | 0, _, _, _, _, _ => none
  | f + 1, x1, x2, x3, x4, h =>
    (if (h 39 4) ≤ x4 then
    (some x3)
    else
    (grd (0 ≤ x1 ∧ x1 < alen 50)
    (grd (0 ≤ x4 ∧ x4 < alen 540)
    (ltt (h (41 + x1) x4) fun y1 =>
    (if x2 = 0 then
    (JX7_edge_61 n (BX7_edge_22 n f) x1 x2 x4 (min x3 y1) h)
    else
    (JX7_edge_61 n (BX7_edge_22 n f) x1 x2 x4 (max x3 y1) h))))))
def LX7_edge_22 (n : Nat) (x1 x2 x3 x4 : Int) (h : Hp) : Option (Int) :=
(BX7_edge_22 n n x1 x2 x3 x4 h)
def MX7_edge (n : Nat) (x1 x2 : Int) (h : Hp) : Option (Int) :=
(bndp (MX11_isAxis x1) fun r1 =>
(if r1 ≠ 0 then
(grd (0 ≤ x1 ∧ x1 < alen 50)
(grd (0 ≤ 0 ∧ 0 < alen 540)
(ltt (h (41 + x1) 0) fun y1 =>
(ltt 1 fun y2 =>
(LX7_edge_22 n x1 x2 y1 y2 h)))))
else
(some (-2147483648))))
def wX7_edge {ρ : Type} (n : Nat) : FN ρ := fun a h k => match a with
  | [_, x1, x2] => bndp (MX7_edge n x1 x2 h) (fun r => k r h)
  | _ => none
def fsX7_edge (n : Nat) (ρ : Type) : List (FN ρ) := [wX11_isAxis, fmax, fmin]
def KJX7_edge_61 (_ : Nat) (bk : Int → Int → Int → Int → Hp → Option (Int)) : CT (Int) := [(22, [(0, 11, (some 39)), (1, 0, none), (2, 0, none), (3, 0, none), (4, 0, none)], [], fun a c h => match a, c with
    | [x1, x2, x3, x4], [] => bk x1 x2 x3 x4 h
    | _, _ => none)]
set_option maxRecDepth 100000 in
theorem eJX7_edge_61 (n : Nat) (bk : Int → Int → Int → Int → Hp → Option (Int)) (x1 : Int) (x2 : Int) (x4 : Int) (z0 : Int) (h : Hp) : JX7_edge_61 n bk x1 x2 x4 z0 h =
  goAt false (kct (KJX7_edge_61 n bk)) (fun v _ => some (v)) (fsX7_edge n _) sdX7_edge 1000 61 [(0, 11, 39), (1, 0, x1), (2, 0, x2), (4, 0, x4)] [(0, z0)] h := rfl
def KBX7_edge_22 (n : Nat) (bk : Int → Int → Int → Int → Hp → Option (Int)) : CT (Int) := [(22, [(0, 11, (some 39)), (1, 0, none), (2, 0, none), (3, 0, none), (4, 0, none)], [], fun a c h => match a, c with
    | [x1, x2, x3, x4], [] => bk x1 x2 x3 x4 h
    | _, _ => none),
  (61, [(0, 11, (some 39)), (1, 0, none), (2, 0, none), (4, 0, none)], [(0, none)], fun a c h => match a, c with
    | [x1, x2, x4], [z0] => JX7_edge_61 n bk x1 x2 x4 z0 h
    | _, _ => none)]
set_option maxRecDepth 100000 in
theorem eBX7_edge_22 (n f : Nat) (x1 : Int) (x2 : Int) (x3 : Int) (x4 : Int) (h : Hp) : BX7_edge_22 n (f + 1) x1 x2 x3 x4 h =
  goAt false (kct (KBX7_edge_22 n (BX7_edge_22 n f))) (fun v _ => some (v)) (fsX7_edge n _) sdX7_edge 1000 22 [(0, 11, 39), (1, 0, x1), (2, 0, x2), (3, 0, x3), (4, 0, x4)] [] h := rfl
def KMX7_edge (n : Nat) : CT (Int) := [(22, [(0, 11, (some 39)), (1, 0, none), (2, 0, none), (3, 0, none), (4, 0, none)], [], fun a c h => match a, c with
    | [x1, x2, x3, x4], [] => LX7_edge_22 n x1 x2 x3 x4 h
    | _, _ => none)]
set_option maxRecDepth 100000 in
theorem eMX7_edge (n : Nat) (x1 : Int) (x2 : Int) (h : Hp) : MX7_edge n x1 x2 h =
  goAt false (kct (KMX7_edge n)) (fun v _ => some (v)) (fsX7_edge n _) sdX7_edge 1000 0 [(0, 11, 39), (1, 0, x1), (2, 0, x2)] [] h := rfl
theorem okX7_edge : mokb (mi 236) = true := by decide +kernel
theorem rkX7_edge : rkOK 1 (mi 236).1.2.2.2.2.2.2.1 (mi 236).1.2.2.2.1 := Or.inr (Or.inl ⟨rfl, rfl, rfl⟩)
def calX7_edge : List Nat := [30, 262, 261]
theorem foX7_edge {l : Launch} {ρ : Type} (n : Nat) : fsOK l false mi calX7_edge (fsX7_edge n ρ) := ⟨sndX11_isAxis, ⟨snd_mmax, ⟨snd_mmin, trivial⟩⟩⟩
theorem frX7_edge {ρ : Type} (n : Nat) : ∀ fn ∈ fsX7_edge n ρ, RoF fn := (List.forall_mem_cons.mpr ⟨roX11_isAxis, (List.forall_mem_cons.mpr ⟨ro_mmax, (List.forall_mem_cons.mpr ⟨ro_mmin, (fun q9 h9 => by cases h9)⟩)⟩)⟩)
theorem ok_sdX7_edge : sdb (mi 236).1.2.1 (insOK mi (mi 236).1.1.cls (mi 236).1.2.2.1 (mi 236).1.2.2.2.2.1 (mi 236).1.2.2.2.2.2.1 calX7_edge false 1) sdX7_edge = true := by decide +kernel
theorem sJX7_edge_61 {l : Launch} {h0 : Hp} {v : Int} (h8 : nOf h0 = 148) (n : Nat) (bk : Int → Int → Int → Int → Hp → Option (Int)) {h : Hp} (hbk : ∀ (x1 : Int) (x2 : Int) (x3 : Int) (x4 : Int) (r : Int), bk x1 x2 x3 x4 h = some r → gV v r → PAt l false (mi 236).1 h0 v h 22 [(0, 11, 39), (1, 0, x1), (2, 0, x2), (3, 0, x3), (4, 0, x4)] [] h) (x1 : Int) (x2 : Int) (x4 : Int) (z0 : Int) (_ : Hp) {r : Int} (H : JX7_edge_61 n bk x1 x2 x4 z0 h = some r) (hG : gV v r) : PAt l false (mi 236).1 h0 v h 61 [(0, 11, 39), (1, 0, x1), (2, 0, x2), (4, 0, x4)] [(0, z0)] h :=
  pat_ro ok_sdX7_edge rfl rkX7_edge h8 (foX7_edge n) (frX7_edge n) (fun v1 q => by
    cases q
    exact ⟨rfl, fun _ => hG⟩) (List.forall_mem_cons.mpr ⟨(fun a c H => by
      dsimp only at H
      split at H
      · exact hbk _ _ _ _ _ H hG
      · cases H), (fun q9 h9 => by cases h9)⟩) ((eJX7_edge_61 n bk x1 x2 x4 z0 h).symm.trans H)
theorem sBX7_edge_22 {l : Launch} {h0 : Hp} {v : Int} (h8 : nOf h0 = 148) (n : Nat) (h : Hp) : ∀ (f : Nat) (x1 : Int) (x2 : Int) (x3 : Int) (x4 : Int) {r : Int}, BX7_edge_22 n f x1 x2 x3 x4 h = some r → gV v r → PAt l false (mi 236).1 h0 v h 22 [(0, 11, 39), (1, 0, x1), (2, 0, x2), (3, 0, x3), (4, 0, x4)] [] h := by
  intro f
  induction f with
  | zero =>
    intro x1 x2 x3 x4 r H _
    have H2 : (none : Option (Int)) = some r := H
    cases H2
  | succ f ih =>
    intro x1 x2 x3 x4 r H hG
    have ihk : ∀ (x1 : Int) (x2 : Int) (x3 : Int) (x4 : Int) (r : Int), BX7_edge_22 n f x1 x2 x3 x4 h = some r → gV v r → PAt l false (mi 236).1 h0 v h 22 [(0, 11, 39), (1, 0, x1), (2, 0, x2), (3, 0, x3), (4, 0, x4)] [] h := fun x1 x2 x3 x4 r9 a9 b9 => ih x1 x2 x3 x4 a9 b9
    exact pat_ro ok_sdX7_edge rfl rkX7_edge h8 (foX7_edge n) (frX7_edge n) (fun v1 q => by
    cases q
    exact ⟨rfl, fun _ => hG⟩) (List.forall_mem_cons.mpr ⟨(fun a c H => by
      dsimp only at H
      split at H
      · exact ih _ _ _ _ H hG
      · cases H), (List.forall_mem_cons.mpr ⟨(fun a c H => by
      dsimp only at H
      split at H
      · exact sJX7_edge_61 h8 n (BX7_edge_22 n f) ihk _ _ _ _ h H hG
      · cases H), (fun q9 h9 => by cases h9)⟩)⟩) ((eBX7_edge_22 n f x1 x2 x3 x4 h).symm.trans H)
theorem sLX7_edge_22 {l : Launch} {h0 : Hp} {v : Int} (h8 : nOf h0 = 148) (n : Nat) (x1 : Int) (x2 : Int) (x3 : Int) (x4 : Int) (h : Hp) {r : Int} (H : LX7_edge_22 n x1 x2 x3 x4 h = some r) (hG : gV v r) : PAt l false (mi 236).1 h0 v h 22 [(0, 11, 39), (1, 0, x1), (2, 0, x2), (3, 0, x3), (4, 0, x4)] [] h :=
  sBX7_edge_22 h8 n h n x1 x2 x3 x4 H hG
theorem sMX7_edge {l : Launch} {h0 : Hp} {v : Int} (h8 : nOf h0 = 148) (n : Nat) (x1 : Int) (x2 : Int) (h : Hp) {r : Int} (H : MX7_edge n x1 x2 h = some r) (hG : gV v r) : PAt l false (mi 236).1 h0 v h 0 [(0, 11, 39), (1, 0, x1), (2, 0, x2)] [] h :=
  pat_ro ok_sdX7_edge rfl rkX7_edge h8 (foX7_edge n) (frX7_edge n) (fun v1 q => by
    cases q
    exact ⟨rfl, fun _ => hG⟩) (List.forall_mem_cons.mpr ⟨(fun a c H => by
      dsimp only at H
      split at H
      · exact sLX7_edge_22 h8 n _ _ _ _ _ H hG
      · cases H), (fun q9 h9 => by cases h9)⟩) ((eMX7_edge n x1 x2 h).symm.trans H)
theorem sndX7_edge {ρ : Type} {l : Launch} (n : Nat) : SndF (ρ := ρ) l false (mi 236).1 (wX7_edge n) := by
    intro a h k r H ha ho hn hf
    have h8 := hf rfl
    obtain ⟨x0, x1, x2, rfl⟩ := len3 (show a.length = 3 from ha)
    have u0 := uq11 hn (ho (11, x0) (List.mem_cons_self))
    subst u0
    replace H : bndp (MX7_edge n x1 x2 h) (fun r => k r h) = some r := H
    obtain ⟨v2, H1, H2⟩ := bndp_some H
    exact ⟨v2, h, H2, met_mk (mok_base okX7_edge).1 (by decide +kernel) (Nat.le_of_ble_eq_true rfl) ho (sMX7_edge h8 n x1 x2 h H1 rfl), fun q => by cases q⟩
theorem roX7_edge {ρ : Type} (n : Nat) : RoF (wX7_edge n : FN ρ) := fun a h k k2 hk => by
  unfold wX7_edge
  split
  · exact bndp_ro hk
  · rfl
/-! X11_box -/
def sdX11_box : SD := [(0, [(0, .iload_n 1, 1, [], 0), (1, .invokestatic 214, 3, [1, 0, 3, 30, 1090, 0], 0), (4, .ifCond .eq 22, 3, [], 0)]),
  (7, [(7, .iload_n 2, 1, [], 0), (8, .ifCond .lt 18, 3, [], 0)]),
  (11, [(11, .iload_n 2, 1, [], 0), (12, .iconst 1, 1, [], 0), (13, .if_icmp .gt 13, 3, [], 0)]),
  (16, [(16, .aload_n 0, 1, [], 0), (17, .getfield 40, 3, [11, 4, 11, 1, 694, 0], 39), (20, .getfield 270, 3, [7, 4, 0, 0, 369, 0], 0), (23, .ifCond .ne 6, 3, [], 0)]),
  (26, [(26, .ldc 217, 2, [0, 1091], (-2147483648)), (28, .ireturn, 1, [], 0)]),
  (29, [(29, .aload_n 0, 1, [], 0), (30, .getfield 40, 3, [11, 4, 11, 1, 694, 0], 39), (33, .iload_n 1, 1, [], 0), (34, .iload_n 2, 1, [], 0), (35, .iconst 1, 1, [], 0), (36, .if_icmp .ne 7, 3, [], 0)]),
  (39, [(39, .iconst 1, 1, [], 0), (40, .goto 4, 3, [], 0)]),
  (43, [(43, .iconst 0, 1, [], 0)]),
  (44, [(44, .invokevirtual 310, 3, [1, 1, 1, 236, 1238, 0, 0, 11], 0), (47, .ireturn, 1, [], 0)])]
def MX11_box (n : Nat) (x1 x2 : Int) (h : Hp) : Option (Int) :=
(bndp (MX11_isAxis x1) fun r1 =>
(if r1 = 0 then
(some (-2147483648))
else
(if x2 < 0 then
(some (-2147483648))
else
(if 1 < x2 then
(some (-2147483648))
else
(if (h 39 4) ≠ 0 then
(if x2 ≠ 1 then
(bndp (MX7_edge n x1 0 h) fun r2 =>
(some r2))
else
(bndp (MX7_edge n x1 1 h) fun r3 =>
(some r3)))
else
(some (-2147483648)))))))
def wX11_box {ρ : Type} (n : Nat) : FN ρ := fun a h k => match a with
  | [_, x1, x2] => bndp (MX11_box n x1 x2 h) (fun r => k r h)
  | _ => none
def fsX11_box (n : Nat) (ρ : Type) : List (FN ρ) := [wX11_isAxis, wX7_edge n]
def KMX11_box (_ : Nat) : CT (Int) := []
set_option maxRecDepth 100000 in
theorem eMX11_box (n : Nat) (x1 : Int) (x2 : Int) (h : Hp) : MX11_box n x1 x2 h =
  goAt false (kct (KMX11_box n)) (fun v _ => some (v)) (fsX11_box n _) sdX11_box 1000 0 [(0, 15, 0), (1, 0, x1), (2, 0, x2)] [] h := rfl
theorem okX11_box : mokb (mi 237) = true := by decide +kernel
theorem rkX11_box : rkOK 1 (mi 237).1.2.2.2.2.2.2.1 (mi 237).1.2.2.2.1 := Or.inr (Or.inl ⟨rfl, rfl, rfl⟩)
def calX11_box : List Nat := [30, 236]
theorem foX11_box {l : Launch} {ρ : Type} (n : Nat) : fsOK l false mi calX11_box (fsX11_box n ρ) := ⟨sndX11_isAxis, ⟨(sndX7_edge n), trivial⟩⟩
theorem frX11_box {ρ : Type} (n : Nat) : ∀ fn ∈ fsX11_box n ρ, RoF fn := (List.forall_mem_cons.mpr ⟨roX11_isAxis, (List.forall_mem_cons.mpr ⟨(roX7_edge n), (fun q9 h9 => by cases h9)⟩)⟩)
theorem ok_sdX11_box : sdb (mi 237).1.2.1 (insOK mi (mi 237).1.1.cls (mi 237).1.2.2.1 (mi 237).1.2.2.2.2.1 (mi 237).1.2.2.2.2.2.1 calX11_box false 1) sdX11_box = true := by decide +kernel
theorem sMX11_box {l : Launch} {h0 : Hp} {v : Int} (h8 : nOf h0 = 148) (n : Nat) (x1 : Int) (x2 : Int) (h : Hp) {r : Int} (H : MX11_box n x1 x2 h = some r) (hG : gV v r) : PAt l false (mi 237).1 h0 v h 0 [(0, 15, 0), (1, 0, x1), (2, 0, x2)] [] h :=
  pat_ro ok_sdX11_box rfl rkX11_box h8 (foX11_box n) (frX11_box n) (fun v1 q => by
    cases q
    exact ⟨rfl, fun _ => hG⟩) (fun q9 h9 => by cases h9) ((eMX11_box n x1 x2 h).symm.trans H)
theorem sndX11_box {ρ : Type} {l : Launch} (n : Nat) : SndF (ρ := ρ) l false (mi 237).1 (wX11_box n) := by
    intro a h k r H ha ho hn hf
    have h8 := hf rfl
    obtain ⟨x0, x1, x2, rfl⟩ := len3 (show a.length = 3 from ha)
    have u0 := uq15 hn (ho (15, x0) (List.mem_cons_self))
    subst u0
    replace H : bndp (MX11_box n x1 x2 h) (fun r => k r h) = some r := H
    obtain ⟨v2, H1, H2⟩ := bndp_some H
    exact ⟨v2, h, H2, met_mk (mok_base okX11_box).1 (by decide +kernel) (Nat.le_of_ble_eq_true rfl) ho (sMX11_box h8 n x1 x2 h H1 rfl), fun q => by cases q⟩
theorem roX11_box {ρ : Type} (n : Nat) : RoF (wX11_box n : FN ρ) := fun a h k k2 hk => by
  unfold wX11_box
  split
  · exact bndp_ro hk
  · rfl
/-! X12_box -/
def sdX12_box : SD := [(0, [(0, .aload_n 0, 1, [], 0), (1, .invokevirtual 520, 3, [0, 0, 1, 203, 1887, 16], 0), (4, .iload_n 1, 1, [], 0), (5, .i2l, 1, [], 0), (6, .lconst 0, 1, [], 0), (7, .ldc2_w 125, 3, [1, 1321], 2), (10, .invokestatic 217, 3, [1, 1, 3, 81, 1561, 1, 1, 1], 0), (13, .ifCond .eq 20, 3, [], 0)]),
  (16, [(16, .iload_n 2, 1, [], 0), (17, .i2l, 1, [], 0), (18, .lconst 0, 1, [], 0), (19, .lconst 1, 1, [], 0), (20, .invokestatic 217, 3, [1, 1, 3, 81, 1561, 1, 1, 1], 0), (23, .ifCond .eq 10, 3, [], 0)]),
  (26, [(26, .aload_n 0, 1, [], 0), (27, .getfield 514, 3, [12, 59, 0, 0, 1381, 0], 0), (30, .ifCond .ne 7, 3, [], 0)]),
  (33, [(33, .ldc_w 479, 3, [0, 1806], (-2147483648)), (36, .ireturn, 1, [], 0)]),
  (37, [(37, .aload_n 0, 1, [], 0), (38, .getfield 37, 3, [12, 14, 1580, 1, 1336, 0], 9), (41, .iconst 3, 1, [], 0), (42, .aload_n 0, 1, [], 0), (43, .getfield 95, 3, [12, 57, 540, 1, 1379, 0], 28), (46, .iconst 0, 1, [], 0), (47, .iaload, 1, [], 0), (48, .imul, 1, [], 0), (49, .iload_n 1, 1, [], 0), (50, .iadd, 1, [], 0), (51, .iaload, 1, [], 0), (52, .istore_n 3, 1, [], 0), (53, .iconst 1, 1, [], 0), (54, .istore 4, 2, [], 0)]),
  (56, [(56, .iload 4, 2, [], 0), (58, .aload_n 0, 1, [], 0), (59, .getfield 514, 3, [12, 59, 0, 0, 1381, 0], 0), (62, .if_icmp .ge 47, 3, [], 0)]),
  (65, [(65, .aload_n 0, 1, [], 0), (66, .getfield 37, 3, [12, 14, 1580, 1, 1336, 0], 9), (69, .iconst 3, 1, [], 0), (70, .aload_n 0, 1, [], 0), (71, .getfield 95, 3, [12, 57, 540, 1, 1379, 0], 28), (74, .iload 4, 2, [], 0), (76, .iaload, 1, [], 0), (77, .imul, 1, [], 0), (78, .iload_n 1, 1, [], 0), (79, .iadd, 1, [], 0), (80, .iaload, 1, [], 0), (81, .istore 5, 2, [], 0), (83, .iload_n 2, 1, [], 0), (84, .ifCond .ne 12, 3, [], 0)]),
  (87, [(87, .iload_n 3, 1, [], 0), (88, .iload 5, 2, [], 0), (90, .invokestatic 258, 3, [1, 2, 3, 261, 1596, 0, 0], 0), (93, .goto 9, 3, [], 0)]),
  (96, [(96, .iload_n 3, 1, [], 0), (97, .iload 5, 2, [], 0), (99, .invokestatic 378, 3, [1, 3, 3, 262, 1696, 0, 0], 0)]),
  (102, [(102, .istore_n 3, 1, [], 0), (103, .iinc 4 1, 3, [], 0), (106, .goto (-50), 3, [], 0)]),
  (109, [(109, .iload_n 3, 1, [], 0), (110, .ireturn, 1, [], 0)])]
def sdX12_box_56 : SD := [(56, [(56, .iload 4, 2, [], 0), (58, .aload_n 0, 1, [], 0), (59, .getfield 514, 3, [12, 59, 0, 0, 1381, 0], 0), (62, .if_icmp .ge 47, 3, [], 0)]),
  (65, [(65, .aload_n 0, 1, [], 0), (66, .getfield 37, 3, [12, 14, 1580, 1, 1336, 0], 9), (69, .iconst 3, 1, [], 0), (70, .aload_n 0, 1, [], 0), (71, .getfield 95, 3, [12, 57, 540, 1, 1379, 0], 28), (74, .iload 4, 2, [], 0), (76, .iaload, 1, [], 0), (77, .imul, 1, [], 0), (78, .iload_n 1, 1, [], 0), (79, .iadd, 1, [], 0), (80, .iaload, 1, [], 0), (81, .istore 5, 2, [], 0), (83, .iload_n 2, 1, [], 0), (84, .ifCond .ne 12, 3, [], 0)]),
  (87, [(87, .iload_n 3, 1, [], 0), (88, .iload 5, 2, [], 0), (90, .invokestatic 258, 3, [1, 2, 3, 261, 1596, 0, 0], 0), (93, .goto 9, 3, [], 0)]),
  (96, [(96, .iload_n 3, 1, [], 0), (97, .iload 5, 2, [], 0), (99, .invokestatic 378, 3, [1, 3, 3, 262, 1696, 0, 0], 0)]),
  (102, [(102, .istore_n 3, 1, [], 0), (103, .iinc 4 1, 3, [], 0), (106, .goto (-50), 3, [], 0)]),
  (109, [(109, .iload_n 3, 1, [], 0), (110, .ireturn, 1, [], 0)])]
def JX12_box_102 (n : Nat) (bk : Int → Int → Int → Int → Hp → Option (Int × Hp)) (x1 x2 x4 z0 : Int) (h : Hp) : Option (Int × Hp) :=
(ltt z0 fun y1 =>
(ltt (w32 (x4 + 1)) fun y2 =>
(bk x1 x2 y1 y2 h)))
def BX12_box_56 (n : Nat) : Nat → Int → Int → Int → Int → Hp → Option (Int × Hp)
  | 0, _, _, _, _, _ => none
  | f + 1, x1, x2, x3, x4, h =>
    (if (h 113 59) ≤ x4 then
    (some (x3, h))
    else
    (grd (0 ≤ x4 ∧ x4 < alen 540)
    (grd (0 ≤ (w32 ((w32 (3 * (h 141 x4))) + x1)) ∧ (w32 ((w32 (3 * (h 141 x4))) + x1)) < alen 1580)
    (ltt (h 122 (w32 ((w32 (3 * (h 141 x4))) + x1))) fun y1 =>
    (if x2 ≠ 0 then
    (JX12_box_102 n (BX12_box_56 n f) x1 x2 x4 (max x3 y1) h)
    else
    (JX12_box_102 n (BX12_box_56 n f) x1 x2 x4 (min x3 y1) h))))))
def LX12_box_56 (n : Nat) (x1 x2 x3 x4 : Int) (h : Hp) : Option (Int × Hp) :=
(BX12_box_56 n n x1 x2 x3 x4 h)
def MX12_box (n : Nat) (x1 x2 : Int) (h : Hp) : Option (Int × Hp) :=
(bndh (MX12_laysSpots n h) fun h1 =>
(bndp (MX12_in x1 0 2) fun r1 =>
(if r1 = 0 then
(some ((-2147483648), h1))
else
(bndp (MX12_in x2 0 1) fun r2 =>
(if r2 = 0 then
(some ((-2147483648), h1))
else
(if (h1 113 59) ≠ 0 then
(grd (0 ≤ 0 ∧ 0 < alen 540)
(grd (0 ≤ (w32 ((w32 (3 * (h1 141 0))) + x1)) ∧ (w32 ((w32 (3 * (h1 141 0))) + x1)) < alen 1580)
(ltt (h1 122 (w32 ((w32 (3 * (h1 141 0))) + x1))) fun y1 =>
(ltt 1 fun y2 =>
(LX12_box_56 n x1 x2 y1 y2 h1)))))
else
(some ((-2147483648), h1))))))))
def wX12_box {ρ : Type} (n : Nat) : FN ρ := fun a h k => match a with
  | [_, x1, x2] => bnd (MX12_box n x1 x2 h) (fun r h2 => k r h2)
  | _ => none
def fsX12_box (n : Nat) (ρ : Type) : List (FN ρ) := [wX12_laysSpots n, wX12_in, fmin, fmax]
def fsX12_box_56 (n : Nat) (ρ : Type) : List (FN ρ) := [nofn, nofn, fmin, fmax]
def KJX12_box_102 (_ : Nat) (bk : Int → Int → Int → Int → Hp → Option (Int × Hp)) : CT (Int × Hp) := [(56, [(0, 16, (some 113)), (1, 0, none), (2, 0, none), (3, 0, none), (4, 0, none)], [], fun a c h => match a, c with
    | [x1, x2, x3, x4], [] => bk x1 x2 x3 x4 h
    | _, _ => none)]
set_option maxRecDepth 100000 in
theorem eJX12_box_102 (n : Nat) (bk : Int → Int → Int → Int → Hp → Option (Int × Hp)) (x1 : Int) (x2 : Int) (x4 : Int) (z0 : Int) (h : Hp) : JX12_box_102 n bk x1 x2 x4 z0 h =
  goAt false (kct (KJX12_box_102 n bk)) (fun v h => some ((v, h))) (fsX12_box_56 n _) sdX12_box_56 1000 102 [(0, 16, 113), (1, 0, x1), (2, 0, x2), (4, 0, x4)] [(0, z0)] h := rfl
def KBX12_box_56 (n : Nat) (bk : Int → Int → Int → Int → Hp → Option (Int × Hp)) : CT (Int × Hp) := [(56, [(0, 16, (some 113)), (1, 0, none), (2, 0, none), (3, 0, none), (4, 0, none)], [], fun a c h => match a, c with
    | [x1, x2, x3, x4], [] => bk x1 x2 x3 x4 h
    | _, _ => none),
  (102, [(0, 16, (some 113)), (1, 0, none), (2, 0, none), (4, 0, none)], [(0, none)], fun a c h => match a, c with
    | [x1, x2, x4], [z0] => JX12_box_102 n bk x1 x2 x4 z0 h
    | _, _ => none)]
set_option maxRecDepth 100000 in
theorem eBX12_box_56 (n f : Nat) (x1 : Int) (x2 : Int) (x3 : Int) (x4 : Int) (h : Hp) : BX12_box_56 n (f + 1) x1 x2 x3 x4 h =
  goAt false (kct (KBX12_box_56 n (BX12_box_56 n f))) (fun v h => some ((v, h))) (fsX12_box_56 n _) sdX12_box_56 1000 56 [(0, 16, 113), (1, 0, x1), (2, 0, x2), (3, 0, x3), (4, 0, x4)] [] h := rfl
def KMX12_box (n : Nat) : CT (Int × Hp) := [(56, [(0, 16, (some 113)), (1, 0, none), (2, 0, none), (3, 0, none), (4, 0, none)], [], fun a c h => match a, c with
    | [x1, x2, x3, x4], [] => LX12_box_56 n x1 x2 x3 x4 h
    | _, _ => none)]
set_option maxRecDepth 100000 in
theorem eMX12_box (n : Nat) (x1 : Int) (x2 : Int) (h : Hp) : MX12_box n x1 x2 h =
  goAt false (kct (KMX12_box n)) (fun v h => some ((v, h))) (fsX12_box n _) sdX12_box 1000 0 [(0, 16, 113), (1, 0, x1), (2, 0, x2)] [] h := rfl
theorem okX12_box : mokb (mi 238) = true := by decide +kernel
theorem rkX12_box : rkOK 1 (mi 238).1.2.2.2.2.2.2.1 (mi 238).1.2.2.2.1 := Or.inr (Or.inl ⟨rfl, rfl, rfl⟩)
def calX12_box : List Nat := [203, 81, 261, 262]
theorem foX12_box {l : Launch} {ρ : Type} (n : Nat) : fsOK l false mi calX12_box (fsX12_box n ρ) := ⟨(sndX12_laysSpots n), ⟨sndX12_in, ⟨snd_mmin, ⟨snd_mmax, trivial⟩⟩⟩⟩
theorem ok_sdX12_box : sdb (mi 238).1.2.1 (insOK mi (mi 238).1.1.cls (mi 238).1.2.2.1 (mi 238).1.2.2.2.2.1 (mi 238).1.2.2.2.2.2.1 calX12_box false 1) sdX12_box = true := by decide +kernel
def calX12_box_56 : List Nat := [0, 0, 261, 262]
theorem foX12_box_56 {l : Launch} {ρ : Type} (n : Nat) : fsOK l false mi calX12_box_56 (fsX12_box_56 n ρ) := ⟨snd_no, ⟨snd_no, ⟨snd_mmin, ⟨snd_mmax, trivial⟩⟩⟩⟩
theorem frX12_box_56 {ρ : Type} (n : Nat) : ∀ fn ∈ fsX12_box_56 n ρ, RoF fn := (List.forall_mem_cons.mpr ⟨ro_no, (List.forall_mem_cons.mpr ⟨ro_no, (List.forall_mem_cons.mpr ⟨ro_mmin, (List.forall_mem_cons.mpr ⟨ro_mmax, (fun q9 h9 => by cases h9)⟩)⟩)⟩)⟩)
theorem ok_sdX12_box_56 : sdb (mi 238).1.2.1 (insOK mi (mi 238).1.1.cls (mi 238).1.2.2.1 (mi 238).1.2.2.2.2.1 (mi 238).1.2.2.2.2.2.1 calX12_box_56 false 1) sdX12_box_56 = true := by decide +kernel
theorem sJX12_box_102 {l : Launch} {h0 h' : Hp} {v : Int} (h8 : nOf h0 = 148) (n : Nat) (bk : Int → Int → Int → Int → Hp → Option (Int × Hp)) {h : Hp} (hbk : ∀ (x1 : Int) (x2 : Int) (x3 : Int) (x4 : Int) (r : Int × Hp), bk x1 x2 x3 x4 h = some r → gWV v h' r → PAt l false (mi 238).1 h0 v h' 56 [(0, 16, 113), (1, 0, x1), (2, 0, x2), (3, 0, x3), (4, 0, x4)] [] h) (x1 : Int) (x2 : Int) (x4 : Int) (z0 : Int) (_ : Hp) {r : Int × Hp} (H : JX12_box_102 n bk x1 x2 x4 z0 h = some r) (hG : gWV v h' r) : PAt l false (mi 238).1 h0 v h' 102 [(0, 16, 113), (1, 0, x1), (2, 0, x2), (4, 0, x4)] [(0, z0)] h :=
  pat_ro ok_sdX12_box_56 rfl rkX12_box h8 (foX12_box_56 n) (frX12_box_56 n) (fun v1 q => by
    cases q
    exact ⟨hG.1, fun _ => hG.2⟩) (List.forall_mem_cons.mpr ⟨(fun a c H => by
      dsimp only at H
      split at H
      · exact hbk _ _ _ _ _ H hG
      · cases H), (fun q9 h9 => by cases h9)⟩) ((eJX12_box_102 n bk x1 x2 x4 z0 h).symm.trans H)
theorem sBX12_box_56 {l : Launch} {h0 h' : Hp} {v : Int} (h8 : nOf h0 = 148) (n : Nat) (h : Hp) : ∀ (f : Nat) (x1 : Int) (x2 : Int) (x3 : Int) (x4 : Int) {r : Int × Hp}, BX12_box_56 n f x1 x2 x3 x4 h = some r → gWV v h' r → PAt l false (mi 238).1 h0 v h' 56 [(0, 16, 113), (1, 0, x1), (2, 0, x2), (3, 0, x3), (4, 0, x4)] [] h := by
  intro f
  induction f with
  | zero =>
    intro x1 x2 x3 x4 r H _
    have H2 : (none : Option (Int × Hp)) = some r := H
    cases H2
  | succ f ih =>
    intro x1 x2 x3 x4 r H hG
    have ihk : ∀ (x1 : Int) (x2 : Int) (x3 : Int) (x4 : Int) (r : Int × Hp), BX12_box_56 n f x1 x2 x3 x4 h = some r → gWV v h' r → PAt l false (mi 238).1 h0 v h' 56 [(0, 16, 113), (1, 0, x1), (2, 0, x2), (3, 0, x3), (4, 0, x4)] [] h := fun x1 x2 x3 x4 r9 a9 b9 => ih x1 x2 x3 x4 a9 b9
    exact pat_ro ok_sdX12_box_56 rfl rkX12_box h8 (foX12_box_56 n) (frX12_box_56 n) (fun v1 q => by
    cases q
    exact ⟨hG.1, fun _ => hG.2⟩) (List.forall_mem_cons.mpr ⟨(fun a c H => by
      dsimp only at H
      split at H
      · exact ih _ _ _ _ H hG
      · cases H), (List.forall_mem_cons.mpr ⟨(fun a c H => by
      dsimp only at H
      split at H
      · exact sJX12_box_102 h8 n (BX12_box_56 n f) ihk _ _ _ _ h H hG
      · cases H), (fun q9 h9 => by cases h9)⟩)⟩) ((eBX12_box_56 n f x1 x2 x3 x4 h).symm.trans H)
theorem sLX12_box_56 {l : Launch} {h0 h' : Hp} {v : Int} (h8 : nOf h0 = 148) (n : Nat) (x1 : Int) (x2 : Int) (x3 : Int) (x4 : Int) (h : Hp) {r : Int × Hp} (H : LX12_box_56 n x1 x2 x3 x4 h = some r) (hG : gWV v h' r) : PAt l false (mi 238).1 h0 v h' 56 [(0, 16, 113), (1, 0, x1), (2, 0, x2), (3, 0, x3), (4, 0, x4)] [] h :=
  sBX12_box_56 h8 n h n x1 x2 x3 x4 H hG
theorem sMX12_box {l : Launch} {h0 h' : Hp} {v : Int} (h8 : nOf h0 = 148) (n : Nat) (x1 : Int) (x2 : Int) (h : Hp) {r : Int × Hp} (H : MX12_box n x1 x2 h = some r) (hG : gWV v h' r) : PAt l false (mi 238).1 h0 v h' 0 [(0, 16, 113), (1, 0, x1), (2, 0, x2)] [] h :=
  pat_w ok_sdX12_box rkX12_box h8 (foX12_box n) (fun v1 h1 q => by
    cases q
    exact ⟨hG.1, fun _ => hG.2⟩) (List.forall_mem_cons.mpr ⟨(fun a c h H => by
      dsimp only at H
      split at H
      · exact sLX12_box_56 h8 n _ _ _ _ _ H hG
      · cases H), (fun q9 h9 => by cases h9)⟩) ((eMX12_box n x1 x2 h).symm.trans H)
theorem sndX12_box {ρ : Type} {l : Launch} (n : Nat) : SndF (ρ := ρ) l false (mi 238).1 (wX12_box n) := by
    intro a h k r H ha ho hn hf
    have h8 := hf rfl
    obtain ⟨x0, x1, x2, rfl⟩ := len3 (show a.length = 3 from ha)
    have u0 := uq16 hn (ho (16, x0) (List.mem_cons_self))
    subst u0
    replace H : bnd (MX12_box n x1 x2 h) (fun r h2 => k r h2) = some r := H
    obtain ⟨v2, h2, H1, H2⟩ := bnd_some H
    exact ⟨v2, h2, H2, met_mk (mok_base okX12_box).1 (by decide +kernel) (Nat.le_of_ble_eq_true rfl) ho (sMX12_box h8 n x1 x2 h H1 ⟨rfl, rfl⟩), fun q => by cases q⟩
/-! X7_squareTo -/
def sdX7_squareTo : SD := [(0, [(0, .iload_n 1, 1, [], 0), (1, .ifCond .lt 9, 3, [], 0)]),
  (4, [(4, .iload_n 1, 1, [], 0), (5, .bipush 64, 2, [], 0), (7, .if_icmp .le 5, 3, [], 0)]),
  (10, [(10, .lconst 0, 1, [], 0), (11, .lreturn, 1, [], 0)]),
  (12, [(12, .aload_n 0, 1, [], 0), (13, .getfield 11, 3, [7, 1, 50, 1, 363, 0], 1), (16, .iconst 0, 1, [], 0), (17, .aaload, 1, [], 0), (18, .iload_n 1, 1, [], 0), (19, .iaload, 1, [], 0), (20, .iload_n 2, 1, [], 0), (21, .isub, 1, [], 0), (22, .i2l, 1, [], 0), (23, .invokestatic 127, 3, [2, 0, 4, 32, 1257, 1], 0), (26, .aload_n 0, 1, [], 0), (27, .getfield 11, 3, [7, 1, 50, 1, 363, 0], 1), (30, .iconst 1, 1, [], 0), (31, .aaload, 1, [], 0), (32, .iload_n 1, 1, [], 0), (33, .iaload, 1, [], 0), (34, .iload_n 3, 1, [], 0), (35, .isub, 1, [], 0), (36, .i2l, 1, [], 0), (37, .invokestatic 127, 3, [2, 0, 4, 32, 1257, 1], 0), (40, .ladd, 1, [], 0), (41, .aload_n 0, 1, [], 0), (42, .getfield 11, 3, [7, 1, 50, 1, 363, 0], 1), (45, .iconst 2, 1, [], 0), (46, .aaload, 1, [], 0), (47, .iload_n 1, 1, [], 0), (48, .iaload, 1, [], 0), (49, .iload 4, 2, [], 0), (51, .isub, 1, [], 0), (52, .i2l, 1, [], 0), (53, .invokestatic 127, 3, [2, 0, 4, 32, 1257, 1], 0), (56, .ladd, 1, [], 0), (57, .lreturn, 1, [], 0)])]
def MX7_squareTo (x1 x2 x3 x4 : Int) (h : Hp) : Option (Int) :=
(if x1 < 0 then
(some 0)
else
(if x1 ≤ 64 then
(grd (0 ≤ 0 ∧ 0 < alen 50)
(grd (0 ≤ x1 ∧ x1 < alen 540)
(bndp (MX11_square (w32 ((h (41 + 0) x1) - x2))) fun r1 =>
(grd (0 ≤ 1 ∧ 1 < alen 50)
(grd (0 ≤ x1 ∧ x1 < alen 540)
(bndp (MX11_square (w32 ((h (41 + 1) x1) - x3))) fun r2 =>
(grd (0 ≤ 2 ∧ 2 < alen 50)
(grd (0 ≤ x1 ∧ x1 < alen 540)
(bndp (MX11_square (w32 ((h (41 + 2) x1) - x4))) fun r3 =>
(some (w64 ((w64 (r1 + r2)) + r3))))))))))))
else
(some 0)))
def wX7_squareTo {ρ : Type} : FN ρ := fun a h k => match a with
  | [_, x1, x2, x3, x4] => bndp (MX7_squareTo x1 x2 x3 x4 h) (fun r => k r h)
  | _ => none
def fsX7_squareTo (ρ : Type) : List (FN ρ) := [wX11_square]
def KMX7_squareTo  : CT (Int) := []
set_option maxRecDepth 100000 in
theorem eMX7_squareTo (x1 : Int) (x2 : Int) (x3 : Int) (x4 : Int) (h : Hp) : MX7_squareTo x1 x2 x3 x4 h =
  goAt false (kct (KMX7_squareTo)) (fun v _ => some (v)) (fsX7_squareTo _) sdX7_squareTo 1000 0 [(0, 11, 39), (1, 0, x1), (2, 0, x2), (3, 0, x3), (4, 0, x4)] [] h := rfl
theorem okX7_squareTo : mokb (mi 239) = true := by decide +kernel
theorem rkX7_squareTo : rkOK 2 (mi 239).1.2.2.2.2.2.2.1 (mi 239).1.2.2.2.1 := Or.inr (Or.inr (Or.inr (Or.inl ⟨rfl, rfl, rfl⟩)))
def calX7_squareTo : List Nat := [32]
theorem foX7_squareTo {l : Launch} {ρ : Type} : fsOK l false mi calX7_squareTo (fsX7_squareTo ρ) := ⟨sndX11_square, trivial⟩
theorem frX7_squareTo {ρ : Type} : ∀ fn ∈ fsX7_squareTo ρ, RoF fn := (List.forall_mem_cons.mpr ⟨roX11_square, (fun q9 h9 => by cases h9)⟩)
theorem ok_sdX7_squareTo : sdb (mi 239).1.2.1 (insOK mi (mi 239).1.1.cls (mi 239).1.2.2.1 (mi 239).1.2.2.2.2.1 (mi 239).1.2.2.2.2.2.1 calX7_squareTo false 2) sdX7_squareTo = true := by decide +kernel
theorem sMX7_squareTo {l : Launch} {h0 : Hp} {v : Int} (h8 : nOf h0 = 148)  (x1 : Int) (x2 : Int) (x3 : Int) (x4 : Int) (h : Hp) {r : Int} (H : MX7_squareTo x1 x2 x3 x4 h = some r) (hG : gV v r) : PAt l false (mi 239).1 h0 v h 0 [(0, 11, 39), (1, 0, x1), (2, 0, x2), (3, 0, x3), (4, 0, x4)] [] h :=
  pat_ro ok_sdX7_squareTo rfl rkX7_squareTo h8 (foX7_squareTo) (frX7_squareTo) (fun v1 q => by
    cases q
    exact ⟨rfl, fun _ => hG⟩) (fun q9 h9 => by cases h9) ((eMX7_squareTo x1 x2 x3 x4 h).symm.trans H)
theorem sndX7_squareTo {ρ : Type} {l : Launch} : SndF (ρ := ρ) l false (mi 239).1 (wX7_squareTo) := by
    intro a h k r H ha ho hn hf
    have h8 := hf rfl
    obtain ⟨x0, x1, x2, x3, x4, rfl⟩ := len5 (show a.length = 5 from ha)
    have u0 := uq11 hn (ho (11, x0) (List.mem_cons_self))
    subst u0
    replace H : bndp (MX7_squareTo x1 x2 x3 x4 h) (fun r => k r h) = some r := H
    obtain ⟨v2, H1, H2⟩ := bndp_some H
    exact ⟨v2, h, H2, met_mk (mok_base okX7_squareTo).1 (by decide +kernel) (Nat.le_of_ble_eq_true rfl) ho (sMX7_squareTo h8 x1 x2 x3 x4 h H1 rfl), fun q => by cases q⟩
theorem roX7_squareTo {ρ : Type} : RoF (wX7_squareTo : FN ρ) := fun a h k k2 hk => by
  unfold wX7_squareTo
  split
  · exact bndp_ro hk
  · rfl
