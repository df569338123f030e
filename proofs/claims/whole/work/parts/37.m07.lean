/-! X11_where -/
def sdX11_where : SD := [(0, [(0, .iload_n 1, 1, [], 0), (1, .invokestatic 214, 3, [1, 0, 3, 30, 1090, 0], 0), (4, .ifCond .ne 6, 3, [], 0)]),
  (7, [(7, .ldc 217, 2, [0, 1091], (-2147483648)), (9, .ireturn, 1, [], 0)]),
  (10, [(10, .aload_n 0, 1, [], 0), (11, .getfield 47, 3, [11, 5, 5, 1, 695, 0], 50), (14, .getfield 157, 3, [1, 0, 8, 1, 465, 0], 2), (17, .aload_n 0, 1, [], 0), (18, .getfield 57, 3, [11, 7, 12, 1, 697, 0], 64), (21, .getfield 200, 3, [8, 0, 0, 0, 483, 0], 0), (24, .iload_n 1, 1, [], 0), (25, .invokevirtual 218, 3, [1, 1, 1, 167, 1092, 0, 0, 8], 0), (28, .ireturn, 1, [], 0)])]
def MX11_where (n : Nat) (x1 : Int) (h : Hp) : Option (Int) :=
(bndp (MX11_isAxis x1) fun r1 =>
(if r1 ≠ 0 then
(bndp (MX4_placeAt n 52 (h 64 0) x1 h) fun r2 =>
(some r2))
else
(some (-2147483648))))
def wX11_where {ρ : Type} (n : Nat) : FN ρ := fun a h k => match a with
  | [_, x1] => bndp (MX11_where n x1 h) (fun r => k r h)
  | _ => none
def fsX11_where (n : Nat) (ρ : Type) : List (FN ρ) := [wX11_isAxis, wX4_placeAt n]
def KMX11_where (_ : Nat) : CT (Int) := []
set_option maxRecDepth 100000 in
theorem eMX11_where (n : Nat) (x1 : Int) (h : Hp) : MX11_where n x1 h =
  goAt false (kct (KMX11_where n)) (fun v _ => some (v)) (fsX11_where n _) sdX11_where 1000 0 [(0, 15, 0), (1, 0, x1)] [] h := rfl
theorem okX11_where : mokb (mi 168) = true := by decide +kernel
theorem rkX11_where : rkOK 1 (mi 168).1.2.2.2.2.2.2.1 (mi 168).1.2.2.2.1 := Or.inr (Or.inl ⟨rfl, rfl, rfl⟩)
def calX11_where : List Nat := [30, 167]
theorem foX11_where {l : Launch} {ρ : Type} (n : Nat) : fsOK l false mi calX11_where (fsX11_where n ρ) := ⟨sndX11_isAxis, ⟨(sndX4_placeAt n), trivial⟩⟩
theorem frX11_where {ρ : Type} (n : Nat) : ∀ fn ∈ fsX11_where n ρ, RoF fn := (List.forall_mem_cons.mpr ⟨roX11_isAxis, (List.forall_mem_cons.mpr ⟨(roX4_placeAt n), (fun q9 h9 => by cases h9)⟩)⟩)
theorem ok_sdX11_where : sdb (mi 168).1.2.1 (insOK mi (mi 168).1.1.cls (mi 168).1.2.2.1 (mi 168).1.2.2.2.2.1 (mi 168).1.2.2.2.2.2.1 calX11_where false 1) sdX11_where = true := by decide +kernel
theorem sMX11_where {l : Launch} {h0 : Hp} {v : Int} (h8 : nOf h0 = 148) (n : Nat) (x1 : Int) (h : Hp) {r : Int} (H : MX11_where n x1 h = some r) (hG : gV v r) : PAt l false (mi 168).1 h0 v h 0 [(0, 15, 0), (1, 0, x1)] [] h :=
  pat_ro ok_sdX11_where rfl rkX11_where h8 (foX11_where n) (frX11_where n) (fun v1 q => by
    cases q
    exact ⟨rfl, fun _ => hG⟩) (fun q9 h9 => by cases h9) ((eMX11_where n x1 h).symm.trans H)
theorem sndX11_where {ρ : Type} {l : Launch} (n : Nat) : SndF (ρ := ρ) l false (mi 168).1 (wX11_where n) := by
    intro a h k r H ha ho hn hf
    have h8 := hf rfl
    obtain ⟨x0, x1, rfl⟩ := len2 (show a.length = 2 from ha)
    have u0 := uq15 hn (ho (15, x0) (List.mem_cons_self))
    subst u0
    replace H : bndp (MX11_where n x1 h) (fun r => k r h) = some r := H
    obtain ⟨v2, H1, H2⟩ := bndp_some H
    exact ⟨v2, h, H2, met_mk (mok_base okX11_where).1 (by decide +kernel) (Nat.le_of_ble_eq_true rfl) ho (sMX11_where h8 n x1 h H1 rfl), fun q => by cases q⟩
theorem roX11_where {ρ : Type} (n : Nat) : RoF (wX11_where n : FN ρ) := fun a h k k2 hk => by
  unfold wX11_where
  split
  · exact bndp_ro hk
  · rfl
/-! X12_cornerAt -/
def sdX12_cornerAt : SD := [(0, [(0, .iconst 0, 1, [], 0), (1, .istore_n 2, 1, [], 0)]),
  (2, [(2, .iload_n 2, 1, [], 0), (3, .iconst 1, 1, [], 0), (4, .iadd, 1, [], 0), (5, .aload_n 0, 1, [], 0), (6, .getfield 140, 3, [12, 6, 0, 0, 1328, 0], 0), (9, .if_icmp .ge 42, 3, [], 0)]),
  (12, [(12, .aload_n 0, 1, [], 0), (13, .getfield 80, 3, [12, 38, 532, 1, 1360, 0], 23), (16, .iload_n 2, 1, [], 0), (17, .iaload, 1, [], 0), (18, .ifCond .le 27, 3, [], 0)]),
  (21, [(21, .iload_n 1, 1, [], 0), (22, .aload_n 0, 1, [], 0), (23, .getfield 49, 3, [12, 18, 540, 1, 1340, 0], 13), (26, .iload_n 2, 1, [], 0), (27, .iconst 1, 1, [], 0), (28, .iadd, 1, [], 0), (29, .iaload, 1, [], 0), (30, .isub, 1, [], 0), (31, .invokestatic 286, 3, [1, 0, 3, 263, 1625, 0], 0), (34, .aload_n 0, 1, [], 0), (35, .getfield 80, 3, [12, 38, 532, 1, 1360, 0], 23), (38, .iload_n 2, 1, [], 0), (39, .iaload, 1, [], 0), (40, .if_icmp .gt 5, 3, [], 0)]),
  (43, [(43, .iload_n 2, 1, [], 0), (44, .ireturn, 1, [], 0)]),
  (45, [(45, .iinc 2 1, 3, [], 0), (48, .goto (-46), 3, [], 0)]),
  (51, [(51, .iconst (-1), 1, [], 0), (52, .ireturn, 1, [], 0)])]
def BX12_cornerAt_2 (n : Nat) : Nat → Int → Int → Hp → Option (Int)
  | 0, _, _, _ => none
  | f + 1, x1, x2, h =>
    (if (h 113 6) ≤ (w32 (x2 + 1)) then
    (some (-1))
    else
    (grd (0 ≤ x2 ∧ x2 < alen 532)
    (if (h 136 x2) ≤ 0 then
    (ltt (w32 (x2 + 1)) fun y1 =>
    (BX12_cornerAt_2 n f x1 y1 h))
    else
    (grd (0 ≤ (w32 (x2 + 1)) ∧ (w32 (x2 + 1)) < alen 540)
    (grd (0 ≤ x2 ∧ x2 < alen 532)
    (if (h 136 x2) < (jabs (w32 (x1 - (h 126 (w32 (x2 + 1)))))) then
    (ltt (w32 (x2 + 1)) fun y2 =>
    (BX12_cornerAt_2 n f x1 y2 h))
    else
    (some x2)))))))
def LX12_cornerAt_2 (n : Nat) (x1 x2 : Int) (h : Hp) : Option (Int) :=
(BX12_cornerAt_2 n n x1 x2 h)
def MX12_cornerAt (n : Nat) (x1 : Int) (h : Hp) : Option (Int) :=
(ltt 0 fun y1 =>
(LX12_cornerAt_2 n x1 y1 h))
def wX12_cornerAt {ρ : Type} (n : Nat) : FN ρ := fun a h k => match a with
  | [_, x1] => bndp (MX12_cornerAt n x1 h) (fun r => k r h)
  | _ => none
def fsX12_cornerAt (n : Nat) (ρ : Type) : List (FN ρ) := [fabs]
def KBX12_cornerAt_2 (_ : Nat) (bk : Int → Int → Hp → Option (Int)) : CT (Int) := [(2, [(0, 16, (some 113)), (1, 0, none), (2, 0, none)], [], fun a c h => match a, c with
    | [x1, x2], [] => bk x1 x2 h
    | _, _ => none)]
set_option maxRecDepth 100000 in
theorem eBX12_cornerAt_2 (n f : Nat) (x1 : Int) (x2 : Int) (h : Hp) : BX12_cornerAt_2 n (f + 1) x1 x2 h =
  goAt false (kct (KBX12_cornerAt_2 n (BX12_cornerAt_2 n f))) (fun v _ => some (v)) (fsX12_cornerAt n _) sdX12_cornerAt 1000 2 [(0, 16, 113), (1, 0, x1), (2, 0, x2)] [] h := rfl
def KMX12_cornerAt (n : Nat) : CT (Int) := [(2, [(0, 16, (some 113)), (1, 0, none), (2, 0, none)], [], fun a c h => match a, c with
    | [x1, x2], [] => LX12_cornerAt_2 n x1 x2 h
    | _, _ => none)]
set_option maxRecDepth 100000 in
theorem eMX12_cornerAt (n : Nat) (x1 : Int) (h : Hp) : MX12_cornerAt n x1 h =
  goAt false (kct (KMX12_cornerAt n)) (fun v _ => some (v)) (fsX12_cornerAt n _) sdX12_cornerAt 1000 0 [(0, 16, 113), (1, 0, x1)] [] h := rfl
theorem okX12_cornerAt : mokb (mi 169) = true := by decide +kernel
theorem rkX12_cornerAt : rkOK 1 (mi 169).1.2.2.2.2.2.2.1 (mi 169).1.2.2.2.1 := Or.inr (Or.inl ⟨rfl, rfl, rfl⟩)
def calX12_cornerAt : List Nat := [263]
theorem foX12_cornerAt {l : Launch} {ρ : Type} (n : Nat) : fsOK l false mi calX12_cornerAt (fsX12_cornerAt n ρ) := ⟨snd_mabs, trivial⟩
theorem frX12_cornerAt {ρ : Type} (n : Nat) : ∀ fn ∈ fsX12_cornerAt n ρ, RoF fn := (List.forall_mem_cons.mpr ⟨ro_mabs, (fun q9 h9 => by cases h9)⟩)
theorem ok_sdX12_cornerAt : sdb (mi 169).1.2.1 (insOK mi (mi 169).1.1.cls (mi 169).1.2.2.1 (mi 169).1.2.2.2.2.1 (mi 169).1.2.2.2.2.2.1 calX12_cornerAt false 1) sdX12_cornerAt = true := by decide +kernel
theorem sBX12_cornerAt_2 {l : Launch} {h0 : Hp} {v : Int} (h8 : nOf h0 = 148) (n : Nat) (h : Hp) : ∀ (f : Nat) (x1 : Int) (x2 : Int) {r : Int}, BX12_cornerAt_2 n f x1 x2 h = some r → gV v r → PAt l false (mi 169).1 h0 v h 2 [(0, 16, 113), (1, 0, x1), (2, 0, x2)] [] h := by
  intro f
  induction f with
  | zero =>
    intro x1 x2 r H _
    have H2 : (none : Option (Int)) = some r := H
    cases H2
  | succ f ih =>
    intro x1 x2 r H hG
    exact pat_ro ok_sdX12_cornerAt rfl rkX12_cornerAt h8 (foX12_cornerAt n) (frX12_cornerAt n) (fun v1 q => by
    cases q
    exact ⟨rfl, fun _ => hG⟩) (List.forall_mem_cons.mpr ⟨(fun a c H => by
      dsimp only at H
      split at H
      · exact ih _ _ H hG
      · cases H), (fun q9 h9 => by cases h9)⟩) ((eBX12_cornerAt_2 n f x1 x2 h).symm.trans H)
theorem sLX12_cornerAt_2 {l : Launch} {h0 : Hp} {v : Int} (h8 : nOf h0 = 148) (n : Nat) (x1 : Int) (x2 : Int) (h : Hp) {r : Int} (H : LX12_cornerAt_2 n x1 x2 h = some r) (hG : gV v r) : PAt l false (mi 169).1 h0 v h 2 [(0, 16, 113), (1, 0, x1), (2, 0, x2)] [] h :=
  sBX12_cornerAt_2 h8 n h n x1 x2 H hG
theorem sMX12_cornerAt {l : Launch} {h0 : Hp} {v : Int} (h8 : nOf h0 = 148) (n : Nat) (x1 : Int) (h : Hp) {r : Int} (H : MX12_cornerAt n x1 h = some r) (hG : gV v r) : PAt l false (mi 169).1 h0 v h 0 [(0, 16, 113), (1, 0, x1)] [] h :=
  pat_ro ok_sdX12_cornerAt rfl rkX12_cornerAt h8 (foX12_cornerAt n) (frX12_cornerAt n) (fun v1 q => by
    cases q
    exact ⟨rfl, fun _ => hG⟩) (List.forall_mem_cons.mpr ⟨(fun a c H => by
      dsimp only at H
      split at H
      · exact sLX12_cornerAt_2 h8 n _ _ _ H hG
      · cases H), (fun q9 h9 => by cases h9)⟩) ((eMX12_cornerAt n x1 h).symm.trans H)
theorem sndX12_cornerAt {ρ : Type} {l : Launch} (n : Nat) : SndF (ρ := ρ) l false (mi 169).1 (wX12_cornerAt n) := by
    intro a h k r H ha ho hn hf
    have h8 := hf rfl
    obtain ⟨x0, x1, rfl⟩ := len2 (show a.length = 2 from ha)
    have u0 := uq16 hn (ho (16, x0) (List.mem_cons_self))
    subst u0
    replace H : bndp (MX12_cornerAt n x1 h) (fun r => k r h) = some r := H
    obtain ⟨v2, H1, H2⟩ := bndp_some H
    exact ⟨v2, h, H2, met_mk (mok_base okX12_cornerAt).1 (by decide +kernel) (Nat.le_of_ble_eq_true rfl) ho (sMX12_cornerAt h8 n x1 h H1 rfl), fun q => by cases q⟩
theorem roX12_cornerAt {ρ : Type} (n : Nat) : RoF (wX12_cornerAt n : FN ρ) := fun a h k k2 hk => by
  unfold wX12_cornerAt
  split
  · exact bndp_ro hk
  · rfl
/-! X12_placeAt -/
def sdX12_placeAt : SD := [(0, [(0, .aload_n 0, 1, [], 0), (1, .getfield 140, 3, [12, 6, 0, 0, 1328, 0], 0), (4, .ifCond .ne 5, 3, [], 0)]),
  (7, [(7, .iconst 0, 1, [], 0), (8, .ireturn, 1, [], 0)]),
  (9, [(9, .aload_n 0, 1, [], 0), (10, .invokevirtual 459, 3, [0, 0, 1, 116, 1673, 16], 0), (13, .aload_n 0, 1, [], 0), (14, .iload_n 1, 1, [], 0), (15, .invokevirtual 473, 3, [1, 1, 1, 169, 1802, 0, 16], 0), (18, .istore_n 3, 1, [], 0), (19, .iload_n 3, 1, [], 0), (20, .iconst (-1), 1, [], 0), (21, .if_icmp .ne 52, 3, [], 0)]),
  (24, [(24, .aload_n 0, 1, [], 0), (25, .iload_n 1, 1, [], 0), (26, .invokevirtual 396, 3, [1, 2, 1, 148, 1757, 0, 16], 0), (29, .istore 4, 2, [], 0), (31, .aload_n 0, 1, [], 0), (32, .getfield 37, 3, [12, 14, 1580, 1, 1336, 0], 9), (35, .iconst 3, 1, [], 0), (36, .iload 4, 2, [], 0), (38, .imul, 1, [], 0), (39, .iload_n 2, 1, [], 0), (40, .iadd, 1, [], 0), (41, .iaload, 1, [], 0), (42, .aload_n 0, 1, [], 0), (43, .iload 4, 2, [], 0), (45, .iload_n 2, 1, [], 0), (46, .invokevirtual 146, 3, [1, 3, 1, 106, 1310, 0, 0, 16], 0), (49, .i2l, 1, [], 0), (50, .iload_n 1, 1, [], 0), (51, .aload_n 0, 1, [], 0), (52, .getfield 49, 3, [12, 18, 540, 1, 1340, 0], 13), (55, .iload 4, 2, [], 0), (57, .iaload, 1, [], 0), (58, .isub, 1, [], 0), (59, .i2l, 1, [], 0), (60, .lmul, 1, [], 0), (61, .aload_n 0, 1, [], 0), (62, .getfield 46, 3, [12, 17, 532, 1, 1339, 0], 12), (65, .iload 4, 2, [], 0), (67, .iaload, 1, [], 0), (68, .i2l, 1, [], 0), (69, .ldiv, 1, [], 0), (70, .l2i, 1, [], 0), (71, .iadd, 1, [], 0), (72, .ireturn, 1, [], 0)]),
  (73, [(73, .aload_n 0, 1, [], 0), (74, .getfield 80, 3, [12, 38, 532, 1, 1360, 0], 23), (77, .iload_n 3, 1, [], 0), (78, .iaload, 1, [], 0), (79, .i2l, 1, [], 0), (80, .lstore 4, 2, [], 0), (82, .aload_n 0, 1, [], 0), (83, .getfield 37, 3, [12, 14, 1580, 1, 1336, 0], 9), (86, .iconst 3, 1, [], 0), (87, .iload_n 3, 1, [], 0), (88, .iconst 1, 1, [], 0), (89, .iadd, 1, [], 0), (90, .imul, 1, [], 0), (91, .iload_n 2, 1, [], 0), (92, .iadd, 1, [], 0), (93, .iaload, 1, [], 0), (94, .i2l, 1, [], 0), (95, .lstore 6, 2, [], 0), (97, .lload 6, 2, [], 0), (99, .aload_n 0, 1, [], 0), (100, .iload_n 3, 1, [], 0), (101, .iload_n 2, 1, [], 0), (102, .invokevirtual 146, 3, [1, 3, 1, 106, 1310, 0, 0, 16], 0), (105, .i2l, 1, [], 0), (106, .lload 4, 2, [], 0), (108, .lmul, 1, [], 0), (109, .aload_n 0, 1, [], 0), (110, .getfield 46, 3, [12, 17, 532, 1, 1339, 0], 12), (113, .iload_n 3, 1, [], 0), (114, .iaload, 1, [], 0), (115, .i2l, 1, [], 0), (116, .ldiv, 1, [], 0), (117, .lsub, 1, [], 0), (118, .lstore 8, 2, [], 0), (120, .lload 6, 2, [], 0), (122, .aload_n 0, 1, [], 0), (123, .iload_n 3, 1, [], 0), (124, .iconst 1, 1, [], 0), (125, .iadd, 1, [], 0), (126, .iload_n 2, 1, [], 0), (127, .invokevirtual 146, 3, [1, 3, 1, 106, 1310, 0, 0, 16], 0), (130, .i2l, 1, [], 0), (131, .lload 4, 2, [], 0), (133, .lmul, 1, [], 0), (134, .aload_n 0, 1, [], 0), (135, .getfield 46, 3, [12, 17, 532, 1, 1339, 0], 12), (138, .iload_n 3, 1, [], 0), (139, .iconst 1, 1, [], 0), (140, .iadd, 1, [], 0), (141, .iaload, 1, [], 0), (142, .i2l, 1, [], 0), (143, .ldiv, 1, [], 0), (144, .ladd, 1, [], 0), (145, .lstore 10, 2, [], 0), (147, .iload_n 1, 1, [], 0), (148, .aload_n 0, 1, [], 0), (149, .getfield 49, 3, [12, 18, 540, 1, 1340, 0], 13), (152, .iload_n 3, 1, [], 0), (153, .iconst 1, 1, [], 0), (154, .iadd, 1, [], 0), (155, .iaload, 1, [], 0), (156, .isub, 1, [], 0), (157, .i2l, 1, [], 0), (158, .lload 4, 2, [], 0), (160, .ladd, 1, [], 0), (161, .lstore 12, 2, [], 0), (163, .ldc2_w 125, 3, [1, 1321], 2), (166, .lload 4, 2, [], 0), (168, .lmul, 1, [], 0), (169, .lload 12, 2, [], 0), (171, .lsub, 1, [], 0), (172, .lstore 14, 2, [], 0), (174, .lload 8, 2, [], 0), (176, .lload 14, 2, [], 0), (178, .lmul, 1, [], 0), (179, .lload 14, 2, [], 0), (181, .lmul, 1, [], 0), (182, .lload 6, 2, [], 0), (184, .ldc2_w 125, 3, [1, 1321], 2), (187, .lmul, 1, [], 0), (188, .lload 12, 2, [], 0), (190, .lmul, 1, [], 0), (191, .lload 14, 2, [], 0), (193, .lmul, 1, [], 0), (194, .ladd, 1, [], 0), (195, .lload 10, 2, [], 0), (197, .lload 12, 2, [], 0), (199, .lmul, 1, [], 0), (200, .lload 12, 2, [], 0), (202, .lmul, 1, [], 0), (203, .ladd, 1, [], 0), (204, .ldc2_w 383, 3, [1, 1702], 4), (207, .lload 4, 2, [], 0), (209, .lmul, 1, [], 0), (210, .lload 4, 2, [], 0), (212, .lmul, 1, [], 0), (213, .ldiv, 1, [], 0), (214, .l2i, 1, [], 0), (215, .ireturn, 1, [], 0)])]
def MX12_placeAt (n : Nat) (x1 x2 : Int) (h : Hp) : Option (Int × Hp) :=
(if (h 113 6) ≠ 0 then
(bndh (MX12_laysNow n h) fun h1 =>
(bndp (MX12_cornerAt n x1 h1) fun r1 =>
(ltt r1 fun y1 =>
(if y1 ≠ (-1) then
(grd (0 ≤ y1 ∧ y1 < alen 532)
(ltt (h1 136 y1) fun y2 =>
(grd (0 ≤ (w32 ((w32 (3 * (w32 (y1 + 1)))) + x2)) ∧ (w32 ((w32 (3 * (w32 (y1 + 1)))) + x2)) < alen 1580)
(ltt (h1 122 (w32 ((w32 (3 * (w32 (y1 + 1)))) + x2))) fun y3 =>
(bndp (MX12_goes y1 x2 h1) fun r2 =>
(grd (0 ≤ y1 ∧ y1 < alen 532)
(grd (¬ (h1 125 y1) = 0)
(ltt (w64 (y3 - (w64 (Int.tdiv (w64 (r2 * y2)) (h1 125 y1))))) fun y4 =>
(bndp (MX12_goes (w32 (y1 + 1)) x2 h1) fun r3 =>
(grd (0 ≤ (w32 (y1 + 1)) ∧ (w32 (y1 + 1)) < alen 532)
(grd (¬ (h1 125 (w32 (y1 + 1))) = 0)
(ltt (w64 (y3 + (w64 (Int.tdiv (w64 (r3 * y2)) (h1 125 (w32 (y1 + 1))))))) fun y5 =>
(grd (0 ≤ (w32 (y1 + 1)) ∧ (w32 (y1 + 1)) < alen 540)
(ltt (w64 ((w32 (x1 - (h1 126 (w32 (y1 + 1))))) + y2)) fun y6 =>
(ltt (w64 ((w64 (2 * y2)) - y6)) fun y7 =>
(grd (¬ (w64 ((w64 (4 * y2)) * y2)) = 0)
(some ((w32 (w64 (Int.tdiv (w64 ((w64 ((w64 ((w64 (y4 * y7)) * y7)) + (w64 ((w64 ((w64 (y3 * 2)) * y6)) * y7)))) + (w64 ((w64 (y5 * y6)) * y6)))) (w64 ((w64 (4 * y2)) * y2))))), h1))))))))))))))))))
else
(bndp (MX12_blockAt n x1 h1) fun r4 =>
(ltt r4 fun y8 =>
(grd (0 ≤ (w32 ((w32 (3 * y8)) + x2)) ∧ (w32 ((w32 (3 * y8)) + x2)) < alen 1580)
(bndp (MX12_goes y8 x2 h1) fun r5 =>
(grd (0 ≤ y8 ∧ y8 < alen 540)
(grd (0 ≤ y8 ∧ y8 < alen 532)
(grd (¬ (h1 125 y8) = 0)
(some ((w32 ((h1 122 (w32 ((w32 (3 * y8)) + x2))) + (w32 (w64 (Int.tdiv (w64 (r5 * (w32 (x1 - (h1 126 y8))))) (h1 125 y8)))))), h1)))))))))))))
else
(some (0, h)))
def wX12_placeAt {ρ : Type} (n : Nat) : FN ρ := fun a h k => match a with
  | [_, x1, x2] => bnd (MX12_placeAt n x1 x2 h) (fun r h2 => k r h2)
  | _ => none
def fsX12_placeAt (n : Nat) (ρ : Type) : List (FN ρ) := [wX12_laysNow n, wX12_cornerAt n, wX12_blockAt n, wX12_goes]
def KMX12_placeAt (_ : Nat) : CT (Int × Hp) := []
set_option maxRecDepth 100000 in
theorem eMX12_placeAt (n : Nat) (x1 : Int) (x2 : Int) (h : Hp) : MX12_placeAt n x1 x2 h =
  goAt false (kct (KMX12_placeAt n)) (fun v h => some ((v, h))) (fsX12_placeAt n _) sdX12_placeAt 1000 0 [(0, 16, 113), (1, 0, x1), (2, 0, x2)] [] h := rfl
theorem okX12_placeAt : mokb (mi 170) = true := by decide +kernel
theorem rkX12_placeAt : rkOK 1 (mi 170).1.2.2.2.2.2.2.1 (mi 170).1.2.2.2.1 := Or.inr (Or.inl ⟨rfl, rfl, rfl⟩)
def calX12_placeAt : List Nat := [116, 169, 148, 106]
theorem foX12_placeAt {l : Launch} {ρ : Type} (n : Nat) : fsOK l false mi calX12_placeAt (fsX12_placeAt n ρ) := ⟨(sndX12_laysNow n), ⟨(sndX12_cornerAt n), ⟨(sndX12_blockAt n), ⟨sndX12_goes, trivial⟩⟩⟩⟩
theorem ok_sdX12_placeAt : sdb (mi 170).1.2.1 (insOK mi (mi 170).1.1.cls (mi 170).1.2.2.1 (mi 170).1.2.2.2.2.1 (mi 170).1.2.2.2.2.2.1 calX12_placeAt false 1) sdX12_placeAt = true := by decide +kernel
theorem sMX12_placeAt {l : Launch} {h0 h' : Hp} {v : Int} (h8 : nOf h0 = 148) (n : Nat) (x1 : Int) (x2 : Int) (h : Hp) {r : Int × Hp} (H : MX12_placeAt n x1 x2 h = some r) (hG : gWV v h' r) : PAt l false (mi 170).1 h0 v h' 0 [(0, 16, 113), (1, 0, x1), (2, 0, x2)] [] h :=
  pat_w ok_sdX12_placeAt rkX12_placeAt h8 (foX12_placeAt n) (fun v1 h1 q => by
    cases q
    exact ⟨hG.1, fun _ => hG.2⟩) (fun q9 h9 => by cases h9) ((eMX12_placeAt n x1 x2 h).symm.trans H)
theorem sndX12_placeAt {ρ : Type} {l : Launch} (n : Nat) : SndF (ρ := ρ) l false (mi 170).1 (wX12_placeAt n) := by
    intro a h k r H ha ho hn hf
    have h8 := hf rfl
    obtain ⟨x0, x1, x2, rfl⟩ := len3 (show a.length = 3 from ha)
    have u0 := uq16 hn (ho (16, x0) (List.mem_cons_self))
    subst u0
    replace H : bnd (MX12_placeAt n x1 x2 h) (fun r h2 => k r h2) = some r := H
    obtain ⟨v2, h2, H1, H2⟩ := bnd_some H
    exact ⟨v2, h2, H2, met_mk (mok_base okX12_placeAt).1 (by decide +kernel) (Nat.le_of_ble_eq_true rfl) ho (sMX12_placeAt h8 n x1 x2 h H1 ⟨rfl, rfl⟩), fun q => by cases q⟩
/-! X12_where -/
def sdX12_where : SD := [(0, [(0, .iload_n 1, 1, [], 0), (1, .i2l, 1, [], 0), (2, .lconst 0, 1, [], 0), (3, .ldc2_w 125, 3, [1, 1321], 2), (6, .invokestatic 217, 3, [1, 0, 3, 81, 1561, 1, 1, 1], 0), (9, .ifCond .eq 15, 3, [], 0)]),
  (12, [(12, .aload_n 0, 1, [], 0), (13, .aload_n 0, 1, [], 0), (14, .getfield 165, 3, [12, 42, 0, 0, 1364, 0], 0), (17, .iload_n 1, 1, [], 0), (18, .invokevirtual 476, 3, [1, 1, 1, 170, 1798, 0, 0, 16], 0), (21, .goto 6, 3, [], 0)]),
  (24, [(24, .ldc_w 479, 3, [0, 1806], (-2147483648))]),
  (27, [(27, .ireturn, 1, [], 0)])]
def MX12_where (n : Nat) (x1 : Int) (h : Hp) : Option (Int × Hp) :=
(bndp (MX12_in x1 0 2) fun r1 =>
(if r1 = 0 then
(some ((-2147483648), h))
else
(bnd (MX12_placeAt n (h 113 42) x1 h) fun r2 h1 =>
(some (r2, h1)))))
def wX12_where {ρ : Type} (n : Nat) : FN ρ := fun a h k => match a with
  | [_, x1] => bnd (MX12_where n x1 h) (fun r h2 => k r h2)
  | _ => none
def fsX12_where (n : Nat) (ρ : Type) : List (FN ρ) := [wX12_in, wX12_placeAt n]
def KMX12_where (_ : Nat) : CT (Int × Hp) := []
set_option maxRecDepth 100000 in
theorem eMX12_where (n : Nat) (x1 : Int) (h : Hp) : MX12_where n x1 h =
  goAt false (kct (KMX12_where n)) (fun v h => some ((v, h))) (fsX12_where n _) sdX12_where 1000 0 [(0, 16, 113), (1, 0, x1)] [] h := rfl
theorem okX12_where : mokb (mi 171) = true := by decide +kernel
theorem rkX12_where : rkOK 1 (mi 171).1.2.2.2.2.2.2.1 (mi 171).1.2.2.2.1 := Or.inr (Or.inl ⟨rfl, rfl, rfl⟩)
def calX12_where : List Nat := [81, 170]
theorem foX12_where {l : Launch} {ρ : Type} (n : Nat) : fsOK l false mi calX12_where (fsX12_where n ρ) := ⟨sndX12_in, ⟨(sndX12_placeAt n), trivial⟩⟩
theorem ok_sdX12_where : sdb (mi 171).1.2.1 (insOK mi (mi 171).1.1.cls (mi 171).1.2.2.1 (mi 171).1.2.2.2.2.1 (mi 171).1.2.2.2.2.2.1 calX12_where false 1) sdX12_where = true := by decide +kernel
theorem sMX12_where {l : Launch} {h0 h' : Hp} {v : Int} (h8 : nOf h0 = 148) (n : Nat) (x1 : Int) (h : Hp) {r : Int × Hp} (H : MX12_where n x1 h = some r) (hG : gWV v h' r) : PAt l false (mi 171).1 h0 v h' 0 [(0, 16, 113), (1, 0, x1)] [] h :=
  pat_w ok_sdX12_where rkX12_where h8 (foX12_where n) (fun v1 h1 q => by
    cases q
    exact ⟨hG.1, fun _ => hG.2⟩) (fun q9 h9 => by cases h9) ((eMX12_where n x1 h).symm.trans H)
theorem sndX12_where {ρ : Type} {l : Launch} (n : Nat) : SndF (ρ := ρ) l false (mi 171).1 (wX12_where n) := by
    intro a h k r H ha ho hn hf
    have h8 := hf rfl
    obtain ⟨x0, x1, rfl⟩ := len2 (show a.length = 2 from ha)
    have u0 := uq16 hn (ho (16, x0) (List.mem_cons_self))
    subst u0
    replace H : bnd (MX12_where n x1 h) (fun r h2 => k r h2) = some r := H
    obtain ⟨v2, h2, H1, H2⟩ := bnd_some H
    exact ⟨v2, h2, H2, met_mk (mok_base okX12_where).1 (by decide +kernel) (Nat.le_of_ble_eq_true rfl) ho (sMX12_where h8 n x1 h H1 ⟨rfl, rfl⟩), fun q => by cases q⟩
/-! X11_place -/
def sdX11_place : SD := [(0, [(0, .iload_n 2, 1, [], 0), (1, .invokestatic 214, 3, [1, 0, 3, 30, 1090, 0], 0), (4, .ifCond .eq 18, 3, [], 0)]),
  (7, [(7, .iload_n 1, 1, [], 0), (8, .ifCond .lt 14, 3, [], 0)]),
  (11, [(11, .iload_n 1, 1, [], 0), (12, .aload_n 0, 1, [], 0), (13, .getfield 10, 3, [11, 2, 14, 0, 692, 0], 0), (16, .getfield 222, 3, [10, 14, 0, 0, 215, 0], 0), (19, .if_icmp .le 6, 3, [], 0)]),
  (22, [(22, .ldc 217, 2, [0, 1091], (-2147483648)), (24, .ireturn, 1, [], 0)]),
  (25, [(25, .aload_n 0, 1, [], 0), (26, .getfield 47, 3, [11, 5, 5, 1, 695, 0], 50), (29, .getfield 157, 3, [1, 0, 8, 1, 465, 0], 2), (32, .iload_n 1, 1, [], 0), (33, .iload_n 2, 1, [], 0), (34, .invokevirtual 218, 3, [1, 1, 1, 167, 1092, 0, 0, 8], 0), (37, .ireturn, 1, [], 0)])]
def MX11_place (n : Nat) (x1 x2 : Int) (h : Hp) : Option (Int) :=
(bndp (MX11_isAxis x2) fun r1 =>
(if r1 = 0 then
(some (-2147483648))
else
(if x1 < 0 then
(some (-2147483648))
else
(if x1 ≤ (h (h 0 2) 14) then
(bndp (MX4_placeAt n 52 x1 x2 h) fun r2 =>
(some r2))
else
(some (-2147483648))))))
def wX11_place {ρ : Type} (n : Nat) : FN ρ := fun a h k => match a with
  | [_, x1, x2] => bndp (MX11_place n x1 x2 h) (fun r => k r h)
  | _ => none
def fsX11_place (n : Nat) (ρ : Type) : List (FN ρ) := [wX11_isAxis, wX4_placeAt n]
def KMX11_place (_ : Nat) : CT (Int) := []
set_option maxRecDepth 100000 in
theorem eMX11_place (n : Nat) (x1 : Int) (x2 : Int) (h : Hp) : MX11_place n x1 x2 h =
  goAt false (kct (KMX11_place n)) (fun v _ => some (v)) (fsX11_place n _) sdX11_place 1000 0 [(0, 15, 0), (1, 0, x1), (2, 0, x2)] [] h := rfl
theorem okX11_place : mokb (mi 172) = true := by decide +kernel
theorem rkX11_place : rkOK 1 (mi 172).1.2.2.2.2.2.2.1 (mi 172).1.2.2.2.1 := Or.inr (Or.inl ⟨rfl, rfl, rfl⟩)
def calX11_place : List Nat := [30, 167]
theorem foX11_place {l : Launch} {ρ : Type} (n : Nat) : fsOK l false mi calX11_place (fsX11_place n ρ) := ⟨sndX11_isAxis, ⟨(sndX4_placeAt n), trivial⟩⟩
theorem frX11_place {ρ : Type} (n : Nat) : ∀ fn ∈ fsX11_place n ρ, RoF fn := (List.forall_mem_cons.mpr ⟨roX11_isAxis, (List.forall_mem_cons.mpr ⟨(roX4_placeAt n), (fun q9 h9 => by cases h9)⟩)⟩)
theorem ok_sdX11_place : sdb (mi 172).1.2.1 (insOK mi (mi 172).1.1.cls (mi 172).1.2.2.1 (mi 172).1.2.2.2.2.1 (mi 172).1.2.2.2.2.2.1 calX11_place false 1) sdX11_place = true := by decide +kernel
theorem sMX11_place {l : Launch} {h0 : Hp} {v : Int} (h8 : nOf h0 = 148) (n : Nat) (x1 : Int) (x2 : Int) (h : Hp) {r : Int} (H : MX11_place n x1 x2 h = some r) (hG : gV v r) : PAt l false (mi 172).1 h0 v h 0 [(0, 15, 0), (1, 0, x1), (2, 0, x2)] [] h :=
  pat_ro ok_sdX11_place rfl rkX11_place h8 (foX11_place n) (frX11_place n) (fun v1 q => by
    cases q
    exact ⟨rfl, fun _ => hG⟩) (fun q9 h9 => by cases h9) ((eMX11_place n x1 x2 h).symm.trans H)
theorem sndX11_place {ρ : Type} {l : Launch} (n : Nat) : SndF (ρ := ρ) l false (mi 172).1 (wX11_place n) := by
    intro a h k r H ha ho hn hf
    have h8 := hf rfl
    obtain ⟨x0, x1, x2, rfl⟩ := len3 (show a.length = 3 from ha)
    have u0 := uq15 hn (ho (15, x0) (List.mem_cons_self))
    subst u0
    replace H : bndp (MX11_place n x1 x2 h) (fun r => k r h) = some r := H
    obtain ⟨v2, H1, H2⟩ := bndp_some H
    exact ⟨v2, h, H2, met_mk (mok_base okX11_place).1 (by decide +kernel) (Nat.le_of_ble_eq_true rfl) ho (sMX11_place h8 n x1 x2 h H1 rfl), fun q => by cases q⟩
theorem roX11_place {ρ : Type} (n : Nat) : RoF (wX11_place n : FN ρ) := fun a h k k2 hk => by
  unfold wX11_place
  split
  · exact bndp_ro hk
  · rfl
/-! X12_place -/
def sdX12_place : SD := [(0, [(0, .iload_n 1, 1, [], 0), (1, .i2l, 1, [], 0), (2, .lconst 0, 1, [], 0), (3, .aload_n 0, 1, [], 0), (4, .invokevirtual 393, 3, [1, 0, 1, 139, 1715, 16], 0), (7, .i2l, 1, [], 0), (8, .invokestatic 217, 3, [1, 1, 3, 81, 1561, 1, 1, 1], 0), (11, .ifCond .eq 24, 3, [], 0)]),
  (14, [(14, .iload_n 2, 1, [], 0), (15, .i2l, 1, [], 0), (16, .lconst 0, 1, [], 0), (17, .ldc2_w 125, 3, [1, 1321], 2), (20, .invokestatic 217, 3, [1, 1, 3, 81, 1561, 1, 1, 1], 0), (23, .ifCond .eq 12, 3, [], 0)]),
  (26, [(26, .aload_n 0, 1, [], 0), (27, .iload_n 1, 1, [], 0), (28, .iload_n 2, 1, [], 0), (29, .invokevirtual 476, 3, [1, 2, 1, 170, 1798, 0, 0, 16], 0), (32, .goto 6, 3, [], 0)]),
  (35, [(35, .ldc_w 479, 3, [0, 1806], (-2147483648))]),
  (38, [(38, .ireturn, 1, [], 0)])]
def MX12_place (n : Nat) (x1 x2 : Int) (h : Hp) : Option (Int × Hp) :=
(bndp (MX12_all h) fun r1 =>
(bndp (MX12_in x1 0 r1) fun r2 =>
(if r2 = 0 then
(some ((-2147483648), h))
else
(bndp (MX12_in x2 0 2) fun r3 =>
(if r3 = 0 then
(some ((-2147483648), h))
else
(bnd (MX12_placeAt n x1 x2 h) fun r4 h1 =>
(some (r4, h1))))))))
def wX12_place {ρ : Type} (n : Nat) : FN ρ := fun a h k => match a with
  | [_, x1, x2] => bnd (MX12_place n x1 x2 h) (fun r h2 => k r h2)
  | _ => none
def fsX12_place (n : Nat) (ρ : Type) : List (FN ρ) := [wX12_all, wX12_in, wX12_placeAt n]
def KMX12_place (_ : Nat) : CT (Int × Hp) := []
set_option maxRecDepth 100000 in
theorem eMX12_place (n : Nat) (x1 : Int) (x2 : Int) (h : Hp) : MX12_place n x1 x2 h =
  goAt false (kct (KMX12_place n)) (fun v h => some ((v, h))) (fsX12_place n _) sdX12_place 1000 0 [(0, 16, 113), (1, 0, x1), (2, 0, x2)] [] h := rfl
theorem okX12_place : mokb (mi 173) = true := by decide +kernel
theorem rkX12_place : rkOK 1 (mi 173).1.2.2.2.2.2.2.1 (mi 173).1.2.2.2.1 := Or.inr (Or.inl ⟨rfl, rfl, rfl⟩)
def calX12_place : List Nat := [139, 81, 170]
theorem foX12_place {l : Launch} {ρ : Type} (n : Nat) : fsOK l false mi calX12_place (fsX12_place n ρ) := ⟨sndX12_all, ⟨sndX12_in, ⟨(sndX12_placeAt n), trivial⟩⟩⟩
theorem ok_sdX12_place : sdb (mi 173).1.2.1 (insOK mi (mi 173).1.1.cls (mi 173).1.2.2.1 (mi 173).1.2.2.2.2.1 (mi 173).1.2.2.2.2.2.1 calX12_place false 1) sdX12_place = true := by decide +kernel
theorem sMX12_place {l : Launch} {h0 h' : Hp} {v : Int} (h8 : nOf h0 = 148) (n : Nat) (x1 : Int) (x2 : Int) (h : Hp) {r : Int × Hp} (H : MX12_place n x1 x2 h = some r) (hG : gWV v h' r) : PAt l false (mi 173).1 h0 v h' 0 [(0, 16, 113), (1, 0, x1), (2, 0, x2)] [] h :=
  pat_w ok_sdX12_place rkX12_place h8 (foX12_place n) (fun v1 h1 q => by
    cases q
    exact ⟨hG.1, fun _ => hG.2⟩) (fun q9 h9 => by cases h9) ((eMX12_place n x1 x2 h).symm.trans H)
theorem sndX12_place {ρ : Type} {l : Launch} (n : Nat) : SndF (ρ := ρ) l false (mi 173).1 (wX12_place n) := by
    intro a h k r H ha ho hn hf
    have h8 := hf rfl
    obtain ⟨x0, x1, x2, rfl⟩ := len3 (show a.length = 3 from ha)
    have u0 := uq16 hn (ho (16, x0) (List.mem_cons_self))
    subst u0
    replace H : bnd (MX12_place n x1 x2 h) (fun r h2 => k r h2) = some r := H
    obtain ⟨v2, h2, H1, H2⟩ := bnd_some H
    exact ⟨v2, h2, H2, met_mk (mok_base okX12_place).1 (by decide +kernel) (Nat.le_of_ble_eq_true rfl) ho (sMX12_place h8 n x1 x2 h H1 ⟨rfl, rfl⟩), fun q => by cases q⟩
/-! X1_goOn -/
def sdX1_goOn : SD := [(0, [(0, .iconst 0, 1, [], 0), (1, .istore_n 3, 1, [], 0)]),
  (2, [(2, .iload_n 3, 1, [], 0), (3, .iload_n 2, 1, [], 0), (4, .if_icmp .ge 23, 3, [], 0)]),
  (7, [(7, .aload_n 0, 1, [], 0), (8, .aload_n 1, 1, [], 0), (9, .invokevirtual 124, 3, [1, 0, 1, 123, 1125, 12, 5], 0), (12, .ifCond .ne 15, 3, [], 0)]),
  (15, [(15, .aload_n 0, 1, [], 0), (16, .aload_n 1, 1, [], 0), (17, .invokevirtual 128, 3, [1, 1, 1, 135, 1126, 12, 5], 0), (20, .pop, 1, [], 0), (21, .iinc 3 1, 3, [], 0), (24, .goto (-22), 3, [], 0)]),
  (27, [(27, .return_, 1, [], 0)])]
def BX1_goOn_2 (n : Nat) : Nat → Int → Int → Int → Int → Hp → Option (Hp)
  | 0, _, _, _, _, _ => none
  | f + 1, x0, x1, x2, x3, h =>
    (if x2 ≤ x3 then
    (some h)
    else
    (bndp (MX1_isDone x0 x1 h) fun r1 =>
    (if r1 ≠ 0 then
    (some h)
    else
    (bnd (MX1_tick n x0 x1 h) fun r2 h1 =>
    (ltt (w32 (x3 + 1)) fun y1 =>
    (BX1_goOn_2 n f x0 x1 x2 y1 h1))))))
def LX1_goOn_2 (n : Nat) (x0 x1 x2 x3 : Int) (h : Hp) : Option (Hp) :=
(BX1_goOn_2 n n x0 x1 x2 x3 h)
def MX1_goOn (n : Nat) (x0 x1 x2 : Int) (h : Hp) : Option (Hp) :=
(ltt 0 fun y1 =>
(LX1_goOn_2 n x0 x1 x2 y1 h))
def wX1_goOn {ρ : Type} (n : Nat) : FN ρ := fun a h k => match a with
  | [x0, x1, x2] => bndh (MX1_goOn n x0 x1 x2 h) (fun h2 => k 0 h2)
  | _ => none
def fsX1_goOn (n : Nat) (ρ : Type) : List (FN ρ) := [wX1_isDone, wX1_tick n]
def KBX1_goOn_2 (_ : Nat) (bk : Int → Int → Int → Int → Hp → Option (Hp)) : CT (Hp) := [(2, [(0, 5, none), (1, 12, none), (2, 0, none), (3, 0, none)], [], fun a c h => match a, c with
    | [x0, x1, x2, x3], [] => bk x0 x1 x2 x3 h
    | _, _ => none)]
set_option maxRecDepth 100000 in
theorem eBX1_goOn_2 (n f : Nat) (x0 : Int) (x1 : Int) (x2 : Int) (x3 : Int) (h : Hp) : BX1_goOn_2 n (f + 1) x0 x1 x2 x3 h =
  goAt false (kct (KBX1_goOn_2 n (BX1_goOn_2 n f))) (fun _ h => some (h)) (fsX1_goOn n _) sdX1_goOn 1000 2 [(0, 5, x0), (1, 12, x1), (2, 0, x2), (3, 0, x3)] [] h := rfl
def KMX1_goOn (n : Nat) : CT (Hp) := [(2, [(0, 5, none), (1, 12, none), (2, 0, none), (3, 0, none)], [], fun a c h => match a, c with
    | [x0, x1, x2, x3], [] => LX1_goOn_2 n x0 x1 x2 x3 h
    | _, _ => none)]
set_option maxRecDepth 100000 in
theorem eMX1_goOn (n : Nat) (x0 : Int) (x1 : Int) (x2 : Int) (h : Hp) : MX1_goOn n x0 x1 x2 h =
  goAt false (kct (KMX1_goOn n)) (fun _ h => some (h)) (fsX1_goOn n _) sdX1_goOn 1000 0 [(0, 5, x0), (1, 12, x1), (2, 0, x2)] [] h := rfl
theorem okX1_goOn : mokb (mi 174) = true := by decide +kernel
theorem rkX1_goOn : rkOK 0 (mi 174).1.2.2.2.2.2.2.1 (mi 174).1.2.2.2.1 := Or.inl ⟨rfl, rfl, rfl⟩
def calX1_goOn : List Nat := [123, 135]
theorem foX1_goOn {l : Launch} {ρ : Type} (n : Nat) : fsOK l false mi calX1_goOn (fsX1_goOn n ρ) := ⟨sndX1_isDone, ⟨(sndX1_tick n), trivial⟩⟩
theorem ok_sdX1_goOn : sdb (mi 174).1.2.1 (insOK mi (mi 174).1.1.cls (mi 174).1.2.2.1 (mi 174).1.2.2.2.2.1 (mi 174).1.2.2.2.2.2.1 calX1_goOn false 0) sdX1_goOn = true := by decide +kernel
theorem sBX1_goOn_2 {l : Launch} {h0 h' : Hp} {v : Int} (h8 : nOf h0 = 148) (n : Nat) : ∀ (f : Nat) (x0 : Int) (x1 : Int) (x2 : Int) (x3 : Int) (h : Hp) {r : Hp}, BX1_goOn_2 n f x0 x1 x2 x3 h = some r → gW h' r → PAt l false (mi 174).1 h0 v h' 2 [(0, 5, x0), (1, 12, x1), (2, 0, x2), (3, 0, x3)] [] h := by
  intro f
  induction f with
  | zero =>
    intro x0 x1 x2 x3 h r H _
    have H2 : (none : Option (Hp)) = some r := H
    cases H2
  | succ f ih =>
    intro x0 x1 x2 x3 h r H hG
    exact pat_w ok_sdX1_goOn rkX1_goOn h8 (foX1_goOn n) (fun v1 h1 q => by
    cases q
    exact ⟨hG, fun q9 => absurd rfl q9⟩) (List.forall_mem_cons.mpr ⟨(fun a c h H => by
      dsimp only at H
      split at H
      · exact ih _ _ _ _ _ H hG
      · cases H), (fun q9 h9 => by cases h9)⟩) ((eBX1_goOn_2 n f x0 x1 x2 x3 h).symm.trans H)
theorem sLX1_goOn_2 {l : Launch} {h0 h' : Hp} {v : Int} (h8 : nOf h0 = 148) (n : Nat) (x0 : Int) (x1 : Int) (x2 : Int) (x3 : Int) (h : Hp) {r : Hp} (H : LX1_goOn_2 n x0 x1 x2 x3 h = some r) (hG : gW h' r) : PAt l false (mi 174).1 h0 v h' 2 [(0, 5, x0), (1, 12, x1), (2, 0, x2), (3, 0, x3)] [] h :=
  sBX1_goOn_2 h8 n n x0 x1 x2 x3 h H hG
theorem sMX1_goOn {l : Launch} {h0 h' : Hp} {v : Int} (h8 : nOf h0 = 148) (n : Nat) (x0 : Int) (x1 : Int) (x2 : Int) (h : Hp) {r : Hp} (H : MX1_goOn n x0 x1 x2 h = some r) (hG : gW h' r) : PAt l false (mi 174).1 h0 v h' 0 [(0, 5, x0), (1, 12, x1), (2, 0, x2)] [] h :=
  pat_w ok_sdX1_goOn rkX1_goOn h8 (foX1_goOn n) (fun v1 h1 q => by
    cases q
    exact ⟨hG, fun q9 => absurd rfl q9⟩) (List.forall_mem_cons.mpr ⟨(fun a c h H => by
      dsimp only at H
      split at H
      · exact sLX1_goOn_2 h8 n _ _ _ _ _ H hG
      · cases H), (fun q9 h9 => by cases h9)⟩) ((eMX1_goOn n x0 x1 x2 h).symm.trans H)
theorem sndX1_goOn {ρ : Type} {l : Launch} (n : Nat) : SndF (ρ := ρ) l false (mi 174).1 (wX1_goOn n) := by
    intro a h k r H ha ho hn hf
    have h8 := hf rfl
    obtain ⟨x0, x1, x2, rfl⟩ := len3 (show a.length = 3 from ha)
    replace H : bndh (MX1_goOn n x0 x1 x2 h) (fun h2 => k 0 h2) = some r := H
    obtain ⟨h2, H1, H2⟩ := bndh_some H
    exact ⟨0, h2, H2, met_mk (mok_base okX1_goOn).1 (by decide +kernel) (Nat.le_of_ble_eq_true rfl) ho (sMX1_goOn h8 n x0 x1 x2 h H1 rfl), fun q => by cases q⟩
/-! X11_ahead -/
def sdX11_ahead : SD := [(0, [(0, .iload_n 1, 1, [], 0), (1, .ifCond .lt 19, 3, [], 0)]),
  (4, [(4, .iload_n 1, 1, [], 0), (5, .sipush 300, 3, [], 0), (8, .if_icmp .gt 12, 3, [], 0)]),
  (11, [(11, .iload_n 2, 1, [], 0), (12, .ifCond .lt 8, 3, [], 0)]),
  (15, [(15, .iload_n 2, 1, [], 0), (16, .iconst 3, 1, [], 0), (17, .if_icmp .le 6, 3, [], 0)]),
  (20, [(20, .ldc 217, 2, [0, 1091], (-2147483648)), (22, .ireturn, 1, [], 0)]),
  (23, [(23, .aload_n 0, 1, [], 0), (24, .getfield 61, 3, [11, 8, 12, 1, 698, 0], 65), (27, .aload_n 0, 1, [], 0), (28, .getfield 57, 3, [11, 7, 12, 1, 697, 0], 64), (31, .invokevirtual 225, 3, [0, 0, 1, 124, 1120, 12, 12], 0), (34, .aload_n 0, 1, [], 0), (35, .getfield 47, 3, [11, 5, 5, 1, 695, 0], 50), (38, .aload_n 0, 1, [], 0), (39, .getfield 61, 3, [11, 8, 12, 1, 698, 0], 65), (42, .iload_n 1, 1, [], 0), (43, .invokevirtual 228, 3, [0, 1, 1, 174, 1121, 0, 12, 5], 0), (46, .iload_n 2, 1, [], 0), (47, .tableswitch 49 0 2 #[25, 33, 41], 25, [], 0)]),
  (72, [(72, .aload_n 0, 1, [], 0), (73, .getfield 61, 3, [11, 8, 12, 1, 698, 0], 65), (76, .getfield 200, 3, [8, 0, 0, 0, 483, 0], 0), (79, .ireturn, 1, [], 0)]),
  (80, [(80, .aload_n 0, 1, [], 0), (81, .getfield 61, 3, [11, 8, 12, 1, 698, 0], 65), (84, .getfield 232, 3, [8, 1, 0, 0, 486, 0], 0), (87, .ireturn, 1, [], 0)]),
  (88, [(88, .aload_n 0, 1, [], 0), (89, .getfield 61, 3, [11, 8, 12, 1, 698, 0], 65), (92, .getfield 235, 3, [8, 2, 0, 0, 489, 0], 0), (95, .ireturn, 1, [], 0)]),
  (96, [(96, .aload_n 0, 1, [], 0), (97, .getfield 61, 3, [11, 8, 12, 1, 698, 0], 65), (100, .getfield 238, 3, [8, 3, 0, 0, 492, 0], 0), (103, .ireturn, 1, [], 0)])]
def MX11_ahead (n : Nat) (x1 x2 : Int) (h : Hp) : Option (Int × Hp) :=
(if x1 < 0 then
(some ((-2147483648), h))
else
(if 300 < x1 then
(some ((-2147483648), h))
else
(if x2 < 0 then
(some ((-2147483648), h))
else
(if x2 ≤ 3 then
(bndh (MX8_become 65 64 h) fun h1 =>
(bndh (MX1_goOn n 50 65 x1 h1) fun h2 =>
(if x2 = 0 then
(some ((h2 65 0), h2))
else
(if x2 = 1 then
(some ((h2 65 1), h2))
else
(if x2 = 2 then
(some ((h2 65 2), h2))
else
(some ((h2 65 3), h2)))))))
else
(some ((-2147483648), h))))))
def wX11_ahead {ρ : Type} (n : Nat) : FN ρ := fun a h k => match a with
  | [_, x1, x2] => bnd (MX11_ahead n x1 x2 h) (fun r h2 => k r h2)
  | _ => none
def fsX11_ahead (n : Nat) (ρ : Type) : List (FN ρ) := [wX8_become, wX1_goOn n]
def KMX11_ahead (_ : Nat) : CT (Int × Hp) := []
set_option maxRecDepth 100000 in
theorem eMX11_ahead (n : Nat) (x1 : Int) (x2 : Int) (h : Hp) : MX11_ahead n x1 x2 h =
  goAt false (kct (KMX11_ahead n)) (fun v h => some ((v, h))) (fsX11_ahead n _) sdX11_ahead 1000 0 [(0, 15, 0), (1, 0, x1), (2, 0, x2)] [] h := rfl
theorem okX11_ahead : mokb (mi 175) = true := by decide +kernel
theorem rkX11_ahead : rkOK 1 (mi 175).1.2.2.2.2.2.2.1 (mi 175).1.2.2.2.1 := Or.inr (Or.inl ⟨rfl, rfl, rfl⟩)
def calX11_ahead : List Nat := [124, 174]
theorem foX11_ahead {l : Launch} {ρ : Type} (n : Nat) : fsOK l false mi calX11_ahead (fsX11_ahead n ρ) := ⟨sndX8_become, ⟨(sndX1_goOn n), trivial⟩⟩
theorem ok_sdX11_ahead : sdb (mi 175).1.2.1 (insOK mi (mi 175).1.1.cls (mi 175).1.2.2.1 (mi 175).1.2.2.2.2.1 (mi 175).1.2.2.2.2.2.1 calX11_ahead false 1) sdX11_ahead = true := by decide +kernel
theorem sMX11_ahead {l : Launch} {h0 h' : Hp} {v : Int} (h8 : nOf h0 = 148) (n : Nat) (x1 : Int) (x2 : Int) (h : Hp) {r : Int × Hp} (H : MX11_ahead n x1 x2 h = some r) (hG : gWV v h' r) : PAt l false (mi 175).1 h0 v h' 0 [(0, 15, 0), (1, 0, x1), (2, 0, x2)] [] h :=
  pat_w ok_sdX11_ahead rkX11_ahead h8 (foX11_ahead n) (fun v1 h1 q => by
    cases q
    exact ⟨hG.1, fun _ => hG.2⟩) (fun q9 h9 => by cases h9) ((eMX11_ahead n x1 x2 h).symm.trans H)
theorem sndX11_ahead {ρ : Type} {l : Launch} (n : Nat) : SndF (ρ := ρ) l false (mi 175).1 (wX11_ahead n) := by
    intro a h k r H ha ho hn hf
    have h8 := hf rfl
    obtain ⟨x0, x1, x2, rfl⟩ := len3 (show a.length = 3 from ha)
    have u0 := uq15 hn (ho (15, x0) (List.mem_cons_self))
    subst u0
    replace H : bnd (MX11_ahead n x1 x2 h) (fun r h2 => k r h2) = some r := H
    obtain ⟨v2, h2, H1, H2⟩ := bnd_some H
    exact ⟨v2, h2, H2, met_mk (mok_base okX11_ahead).1 (by decide +kernel) (Nat.le_of_ble_eq_true rfl) ho (sMX11_ahead h8 n x1 x2 h H1 ⟨rfl, rfl⟩), fun q => by cases q⟩
/-! X12_goesOn -/
def sdX12_goesOn : SD := [(0, [(0, .aload_n 0, 1, [], 0), (1, .invokevirtual 459, 3, [0, 0, 1, 116, 1673, 16], 0), (4, .aload_n 0, 1, [], 0), (5, .invokevirtual 462, 3, [0, 1, 1, 137, 1703, 16], 0), (8, .iconst 0, 1, [], 0), (9, .istore_n 2, 1, [], 0)]),
  (10, [(10, .iload_n 2, 1, [], 0), (11, .iload_n 1, 1, [], 0), (12, .if_icmp .ge 13, 3, [], 0)]),
  (15, [(15, .aload_n 0, 1, [], 0), (16, .invokevirtual 443, 3, [0, 2, 1, 152, 1730, 16], 0), (19, .iinc 2 1, 3, [], 0), (22, .goto (-12), 3, [], 0)]),
  (25, [(25, .return_, 1, [], 0)])]
def BX12_goesOn_10 (n : Nat) : Nat → Int → Int → Hp → Option (Hp)
  | 0, _, _, _ => none
  | f + 1, x1, x2, h =>
    (if x1 ≤ x2 then
    (some h)
    else
    (bndh (MX12_tick n h) fun h1 =>
    (ltt (w32 (x2 + 1)) fun y1 =>
    (BX12_goesOn_10 n f x1 y1 h1))))
def LX12_goesOn_10 (n : Nat) (x1 x2 : Int) (h : Hp) : Option (Hp) :=
(BX12_goesOn_10 n n x1 x2 h)
def MX12_goesOn (n : Nat) (x1 : Int) (h : Hp) : Option (Hp) :=
(bndh (MX12_laysNow n h) fun h1 =>
(bndh (MX12_begins h1) fun h2 =>
(ltt 0 fun y1 =>
(LX12_goesOn_10 n x1 y1 h2))))
def wX12_goesOn {ρ : Type} (n : Nat) : FN ρ := fun a h k => match a with
  | [_, x1] => bndh (MX12_goesOn n x1 h) (fun h2 => k 0 h2)
  | _ => none
def fsX12_goesOn (n : Nat) (ρ : Type) : List (FN ρ) := [wX12_laysNow n, wX12_begins, wX12_tick n]
def KBX12_goesOn_10 (_ : Nat) (bk : Int → Int → Hp → Option (Hp)) : CT (Hp) := [(10, [(0, 16, (some 113)), (1, 0, none), (2, 0, none)], [], fun a c h => match a, c with
    | [x1, x2], [] => bk x1 x2 h
    | _, _ => none)]
set_option maxRecDepth 100000 in
theorem eBX12_goesOn_10 (n f : Nat) (x1 : Int) (x2 : Int) (h : Hp) : BX12_goesOn_10 n (f + 1) x1 x2 h =
  goAt false (kct (KBX12_goesOn_10 n (BX12_goesOn_10 n f))) (fun _ h => some (h)) (fsX12_goesOn n _) sdX12_goesOn 1000 10 [(0, 16, 113), (1, 0, x1), (2, 0, x2)] [] h := rfl
def KMX12_goesOn (n : Nat) : CT (Hp) := [(10, [(0, 16, (some 113)), (1, 0, none), (2, 0, none)], [], fun a c h => match a, c with
    | [x1, x2], [] => LX12_goesOn_10 n x1 x2 h
    | _, _ => none)]
set_option maxRecDepth 100000 in
theorem eMX12_goesOn (n : Nat) (x1 : Int) (h : Hp) : MX12_goesOn n x1 h =
  goAt false (kct (KMX12_goesOn n)) (fun _ h => some (h)) (fsX12_goesOn n _) sdX12_goesOn 1000 0 [(0, 16, 113), (1, 0, x1)] [] h := rfl
theorem okX12_goesOn : mokb (mi 176) = true := by decide +kernel
theorem rkX12_goesOn : rkOK 0 (mi 176).1.2.2.2.2.2.2.1 (mi 176).1.2.2.2.1 := Or.inl ⟨rfl, rfl, rfl⟩
def calX12_goesOn : List Nat := [116, 137, 152]
theorem foX12_goesOn {l : Launch} {ρ : Type} (n : Nat) : fsOK l false mi calX12_goesOn (fsX12_goesOn n ρ) := ⟨(sndX12_laysNow n), ⟨sndX12_begins, ⟨(sndX12_tick n), trivial⟩⟩⟩
theorem ok_sdX12_goesOn : sdb (mi 176).1.2.1 (insOK mi (mi 176).1.1.cls (mi 176).1.2.2.1 (mi 176).1.2.2.2.2.1 (mi 176).1.2.2.2.2.2.1 calX12_goesOn false 0) sdX12_goesOn = true := by decide +kernel
theorem sBX12_goesOn_10 {l : Launch} {h0 h' : Hp} {v : Int} (h8 : nOf h0 = 148) (n : Nat) : ∀ (f : Nat) (x1 : Int) (x2 : Int) (h : Hp) {r : Hp}, BX12_goesOn_10 n f x1 x2 h = some r → gW h' r → PAt l false (mi 176).1 h0 v h' 10 [(0, 16, 113), (1, 0, x1), (2, 0, x2)] [] h := by
  intro f
  induction f with
  | zero =>
    intro x1 x2 h r H _
    have H2 : (none : Option (Hp)) = some r := H
    cases H2
  | succ f ih =>
    intro x1 x2 h r H hG
    exact pat_w ok_sdX12_goesOn rkX12_goesOn h8 (foX12_goesOn n) (fun v1 h1 q => by
    cases q
    exact ⟨hG, fun q9 => absurd rfl q9⟩) (List.forall_mem_cons.mpr ⟨(fun a c h H => by
      dsimp only at H
      split at H
      · exact ih _ _ _ H hG
      · cases H), (fun q9 h9 => by cases h9)⟩) ((eBX12_goesOn_10 n f x1 x2 h).symm.trans H)
theorem sLX12_goesOn_10 {l : Launch} {h0 h' : Hp} {v : Int} (h8 : nOf h0 = 148) (n : Nat) (x1 : Int) (x2 : Int) (h : Hp) {r : Hp} (H : LX12_goesOn_10 n x1 x2 h = some r) (hG : gW h' r) : PAt l false (mi 176).1 h0 v h' 10 [(0, 16, 113), (1, 0, x1), (2, 0, x2)] [] h :=
  sBX12_goesOn_10 h8 n n x1 x2 h H hG
theorem sMX12_goesOn {l : Launch} {h0 h' : Hp} {v : Int} (h8 : nOf h0 = 148) (n : Nat) (x1 : Int) (h : Hp) {r : Hp} (H : MX12_goesOn n x1 h = some r) (hG : gW h' r) : PAt l false (mi 176).1 h0 v h' 0 [(0, 16, 113), (1, 0, x1)] [] h :=
  pat_w ok_sdX12_goesOn rkX12_goesOn h8 (foX12_goesOn n) (fun v1 h1 q => by
    cases q
    exact ⟨hG, fun q9 => absurd rfl q9⟩) (List.forall_mem_cons.mpr ⟨(fun a c h H => by
      dsimp only at H
      split at H
      · exact sLX12_goesOn_10 h8 n _ _ _ H hG
      · cases H), (fun q9 h9 => by cases h9)⟩) ((eMX12_goesOn n x1 h).symm.trans H)
theorem sndX12_goesOn {ρ : Type} {l : Launch} (n : Nat) : SndF (ρ := ρ) l false (mi 176).1 (wX12_goesOn n) := by
    intro a h k r H ha ho hn hf
    have h8 := hf rfl
    obtain ⟨x0, x1, rfl⟩ := len2 (show a.length = 2 from ha)
    have u0 := uq16 hn (ho (16, x0) (List.mem_cons_self))
    subst u0
    replace H : bndh (MX12_goesOn n x1 h) (fun h2 => k 0 h2) = some r := H
    obtain ⟨h2, H1, H2⟩ := bndh_some H
    exact ⟨0, h2, H2, met_mk (mok_base okX12_goesOn).1 (by decide +kernel) (Nat.le_of_ble_eq_true rfl) ho (sMX12_goesOn h8 n x1 h H1 rfl), fun q => by cases q⟩
/-! X12_ahead -/
def sdX12_ahead : SD := [(0, [(0, .iload_n 1, 1, [], 0), (1, .i2l, 1, [], 0), (2, .lconst 0, 1, [], 0), (3, .ldc2_w 480, 3, [1, 1815], 300), (6, .invokestatic 217, 3, [1, 0, 3, 81, 1561, 1, 1, 1], 0), (9, .ifCond .eq 15, 3, [], 0)]),
  (12, [(12, .iload_n 2, 1, [], 0), (13, .i2l, 1, [], 0), (14, .lconst 0, 1, [], 0), (15, .ldc2_w 482, 3, [1, 1816], 3), (18, .invokestatic 217, 3, [1, 0, 3, 81, 1561, 1, 1, 1], 0), (21, .ifCond .ne 7, 3, [], 0)]),
  (24, [(24, .ldc_w 479, 3, [0, 1806], (-2147483648)), (27, .ireturn, 1, [], 0)]),
  (28, [(28, .aload_n 0, 1, [], 0), (29, .iload_n 1, 1, [], 0), (30, .invokevirtual 484, 3, [0, 1, 1, 176, 1817, 0, 16], 0), (33, .iload_n 2, 1, [], 0), (34, .ifCond .ne 10, 3, [], 0)]),
  (37, [(37, .aload_n 0, 1, [], 0), (38, .getfield 406, 3, [12, 48, 0, 0, 1370, 0], 0), (41, .goto 35, 3, [], 0)]),
  (44, [(44, .iload_n 2, 1, [], 0), (45, .iconst 1, 1, [], 0), (46, .if_icmp .ne 10, 3, [], 0)]),
  (49, [(49, .aload_n 0, 1, [], 0), (50, .getfield 409, 3, [12, 49, 0, 0, 1371, 0], 0), (53, .goto 23, 3, [], 0)]),
  (56, [(56, .iload_n 2, 1, [], 0), (57, .iconst 2, 1, [], 0), (58, .if_icmp .ne 10, 3, [], 0)]),
  (61, [(61, .aload_n 0, 1, [], 0), (62, .getfield 412, 3, [12, 50, 0, 0, 1372, 0], 0), (65, .goto 11, 3, [], 0)]),
  (68, [(68, .aload_n 0, 1, [], 0), (69, .aload_n 0, 1, [], 0), (70, .getfield 406, 3, [12, 48, 0, 0, 1370, 0], 0), (73, .invokevirtual 396, 3, [1, 2, 1, 148, 1757, 0, 16], 0)]),
  (76, [(76, .ireturn, 1, [], 0)])]
def MX12_ahead (n : Nat) (x1 x2 : Int) (h : Hp) : Option (Int × Hp) :=
(bndp (MX12_in x1 0 300) fun r1 =>
(if r1 = 0 then
(some ((-2147483648), h))
else
(bndp (MX12_in x2 0 3) fun r2 =>
(if r2 ≠ 0 then
(bndh (MX12_goesOn n x1 h) fun h1 =>
(if x2 ≠ 0 then
(if x2 ≠ 1 then
(if x2 ≠ 2 then
(bndp (MX12_blockAt n (h1 113 48) h1) fun r3 =>
(some (r3, h1)))
else
(some ((h1 113 50), h1)))
else
(some ((h1 113 49), h1)))
else
(some ((h1 113 48), h1))))
else
(some ((-2147483648), h))))))
def wX12_ahead {ρ : Type} (n : Nat) : FN ρ := fun a h k => match a with
  | [_, x1, x2] => bnd (MX12_ahead n x1 x2 h) (fun r h2 => k r h2)
  | _ => none
def fsX12_ahead (n : Nat) (ρ : Type) : List (FN ρ) := [wX12_in, wX12_goesOn n, wX12_blockAt n]
def KMX12_ahead (_ : Nat) : CT (Int × Hp) := []
set_option maxRecDepth 100000 in
theorem eMX12_ahead (n : Nat) (x1 : Int) (x2 : Int) (h : Hp) : MX12_ahead n x1 x2 h =
  goAt false (kct (KMX12_ahead n)) (fun v h => some ((v, h))) (fsX12_ahead n _) sdX12_ahead 1000 0 [(0, 16, 113), (1, 0, x1), (2, 0, x2)] [] h := rfl
theorem okX12_ahead : mokb (mi 177) = true := by decide +kernel
theorem rkX12_ahead : rkOK 1 (mi 177).1.2.2.2.2.2.2.1 (mi 177).1.2.2.2.1 := Or.inr (Or.inl ⟨rfl, rfl, rfl⟩)
def calX12_ahead : List Nat := [81, 176, 148]
theorem foX12_ahead {l : Launch} {ρ : Type} (n : Nat) : fsOK l false mi calX12_ahead (fsX12_ahead n ρ) := ⟨sndX12_in, ⟨(sndX12_goesOn n), ⟨(sndX12_blockAt n), trivial⟩⟩⟩
theorem ok_sdX12_ahead : sdb (mi 177).1.2.1 (insOK mi (mi 177).1.1.cls (mi 177).1.2.2.1 (mi 177).1.2.2.2.2.1 (mi 177).1.2.2.2.2.2.1 calX12_ahead false 1) sdX12_ahead = true := by decide +kernel
theorem sMX12_ahead {l : Launch} {h0 h' : Hp} {v : Int} (h8 : nOf h0 = 148) (n : Nat) (x1 : Int) (x2 : Int) (h : Hp) {r : Int × Hp} (H : MX12_ahead n x1 x2 h = some r) (hG : gWV v h' r) : PAt l false (mi 177).1 h0 v h' 0 [(0, 16, 113), (1, 0, x1), (2, 0, x2)] [] h :=
  pat_w ok_sdX12_ahead rkX12_ahead h8 (foX12_ahead n) (fun v1 h1 q => by
    cases q
    exact ⟨hG.1, fun _ => hG.2⟩) (fun q9 h9 => by cases h9) ((eMX12_ahead n x1 x2 h).symm.trans H)
theorem sndX12_ahead {ρ : Type} {l : Launch} (n : Nat) : SndF (ρ := ρ) l false (mi 177).1 (wX12_ahead n) := by
    intro a h k r H ha ho hn hf
    have h8 := hf rfl
    obtain ⟨x0, x1, x2, rfl⟩ := len3 (show a.length = 3 from ha)
    have u0 := uq16 hn (ho (16, x0) (List.mem_cons_self))
    subst u0
    replace H : bnd (MX12_ahead n x1 x2 h) (fun r h2 => k r h2) = some r := H
    obtain ⟨v2, h2, H1, H2⟩ := bnd_some H
    exact ⟨v2, h2, H2, met_mk (mok_base okX12_ahead).1 (by decide +kernel) (Nat.le_of_ble_eq_true rfl) ho (sMX12_ahead h8 n x1 x2 h H1 ⟨rfl, rfl⟩), fun q => by cases q⟩
/-! X1_ticksToEnd -/
def sdX1_ticksToEnd : SD := [(0, [(0, .iconst 0, 1, [], 0), (1, .istore_n 3, 1, [], 0)]),
  (2, [(2, .iload_n 3, 1, [], 0), (3, .iload_n 2, 1, [], 0), (4, .if_icmp .gt 25, 3, [], 0)]),
  (7, [(7, .aload_n 0, 1, [], 0), (8, .aload_n 1, 1, [], 0), (9, .invokevirtual 124, 3, [1, 0, 1, 123, 1125, 12, 5], 0), (12, .ifCond .eq 5, 3, [], 0)]),
  (15, [(15, .iload_n 3, 1, [], 0), (16, .ireturn, 1, [], 0)]),
  (17, [(17, .aload_n 0, 1, [], 0), (18, .aload_n 1, 1, [], 0), (19, .invokevirtual 128, 3, [1, 1, 1, 135, 1126, 12, 5], 0), (22, .pop, 1, [], 0), (23, .iinc 3 1, 3, [], 0), (26, .goto (-24), 3, [], 0)]),
  (29, [(29, .bipush (-2), 2, [], 0), (31, .ireturn, 1, [], 0)])]
def BX1_ticksToEnd_2 (n : Nat) : Nat → Int → Int → Int → Int → Hp → Option (Int × Hp)
  | 0, _, _, _, _, _ => none
  | f + 1, x0, x1, x2, x3, h =>
    (if x2 < x3 then
    (some ((-2), h))
    else
    (bndp (MX1_isDone x0 x1 h) fun r1 =>
    (if r1 = 0 then
    (bnd (MX1_tick n x0 x1 h) fun r2 h1 =>
    (ltt (w32 (x3 + 1)) fun y1 =>
    (BX1_ticksToEnd_2 n f x0 x1 x2 y1 h1)))
    else
    (some (x3, h)))))
def LX1_ticksToEnd_2 (n : Nat) (x0 x1 x2 x3 : Int) (h : Hp) : Option (Int × Hp) :=
(BX1_ticksToEnd_2 n n x0 x1 x2 x3 h)
def MX1_ticksToEnd (n : Nat) (x0 x1 x2 : Int) (h : Hp) : Option (Int × Hp) :=
(ltt 0 fun y1 =>
(LX1_ticksToEnd_2 n x0 x1 x2 y1 h))
def wX1_ticksToEnd {ρ : Type} (n : Nat) : FN ρ := fun a h k => match a with
  | [x0, x1, x2] => bnd (MX1_ticksToEnd n x0 x1 x2 h) (fun r h2 => k r h2)
  | _ => none
def fsX1_ticksToEnd (n : Nat) (ρ : Type) : List (FN ρ) := [wX1_isDone, wX1_tick n]
def KBX1_ticksToEnd_2 (_ : Nat) (bk : Int → Int → Int → Int → Hp → Option (Int × Hp)) : CT (Int × Hp) := [(2, [(0, 5, none), (1, 12, none), (2, 0, none), (3, 0, none)], [], fun a c h => match a, c with
    | [x0, x1, x2, x3], [] => bk x0 x1 x2 x3 h
    | _, _ => none)]
set_option maxRecDepth 100000 in
theorem eBX1_ticksToEnd_2 (n f : Nat) (x0 : Int) (x1 : Int) (x2 : Int) (x3 : Int) (h : Hp) : BX1_ticksToEnd_2 n (f + 1) x0 x1 x2 x3 h =
  goAt false (kct (KBX1_ticksToEnd_2 n (BX1_ticksToEnd_2 n f))) (fun v h => some ((v, h))) (fsX1_ticksToEnd n _) sdX1_ticksToEnd 1000 2 [(0, 5, x0), (1, 12, x1), (2, 0, x2), (3, 0, x3)] [] h := rfl
def KMX1_ticksToEnd (n : Nat) : CT (Int × Hp) := [(2, [(0, 5, none), (1, 12, none), (2, 0, none), (3, 0, none)], [], fun a c h => match a, c with
    | [x0, x1, x2, x3], [] => LX1_ticksToEnd_2 n x0 x1 x2 x3 h
    | _, _ => none)]
set_option maxRecDepth 100000 in
theorem eMX1_ticksToEnd (n : Nat) (x0 : Int) (x1 : Int) (x2 : Int) (h : Hp) : MX1_ticksToEnd n x0 x1 x2 h =
  goAt false (kct (KMX1_ticksToEnd n)) (fun v h => some ((v, h))) (fsX1_ticksToEnd n _) sdX1_ticksToEnd 1000 0 [(0, 5, x0), (1, 12, x1), (2, 0, x2)] [] h := rfl
theorem okX1_ticksToEnd : mokb (mi 178) = true := by decide +kernel
theorem rkX1_ticksToEnd : rkOK 1 (mi 178).1.2.2.2.2.2.2.1 (mi 178).1.2.2.2.1 := Or.inr (Or.inl ⟨rfl, rfl, rfl⟩)
def calX1_ticksToEnd : List Nat := [123, 135]
theorem foX1_ticksToEnd {l : Launch} {ρ : Type} (n : Nat) : fsOK l false mi calX1_ticksToEnd (fsX1_ticksToEnd n ρ) := ⟨sndX1_isDone, ⟨(sndX1_tick n), trivial⟩⟩
theorem ok_sdX1_ticksToEnd : sdb (mi 178).1.2.1 (insOK mi (mi 178).1.1.cls (mi 178).1.2.2.1 (mi 178).1.2.2.2.2.1 (mi 178).1.2.2.2.2.2.1 calX1_ticksToEnd false 1) sdX1_ticksToEnd = true := by decide +kernel
theorem sBX1_ticksToEnd_2 {l : Launch} {h0 h' : Hp} {v : Int} (h8 : nOf h0 = 148) (n : Nat) : ∀ (f : Nat) (x0 : Int) (x1 : Int) (x2 : Int) (x3 : Int) (h : Hp) {r : Int × Hp}, BX1_ticksToEnd_2 n f x0 x1 x2 x3 h = some r → gWV v h' r → PAt l false (mi 178).1 h0 v h' 2 [(0, 5, x0), (1, 12, x1), (2, 0, x2), (3, 0, x3)] [] h := by
  intro f
  induction f with
  | zero =>
    intro x0 x1 x2 x3 h r H _
    have H2 : (none : Option (Int × Hp)) = some r := H
    cases H2
  | succ f ih =>
    intro x0 x1 x2 x3 h r H hG
    exact pat_w ok_sdX1_ticksToEnd rkX1_ticksToEnd h8 (foX1_ticksToEnd n) (fun v1 h1 q => by
    cases q
    exact ⟨hG.1, fun _ => hG.2⟩) (List.forall_mem_cons.mpr ⟨(fun a c h H => by
      dsimp only at H
      split at H
      · exact ih _ _ _ _ _ H hG
      · cases H), (fun q9 h9 => by cases h9)⟩) ((eBX1_ticksToEnd_2 n f x0 x1 x2 x3 h).symm.trans H)
theorem sLX1_ticksToEnd_2 {l : Launch} {h0 h' : Hp} {v : Int} (h8 : nOf h0 = 148) (n : Nat) (x0 : Int) (x1 : Int) (x2 : Int) (x3 : Int) (h : Hp) {r : Int × Hp} (H : LX1_ticksToEnd_2 n x0 x1 x2 x3 h = some r) (hG : gWV v h' r) : PAt l false (mi 178).1 h0 v h' 2 [(0, 5, x0), (1, 12, x1), (2, 0, x2), (3, 0, x3)] [] h :=
  sBX1_ticksToEnd_2 h8 n n x0 x1 x2 x3 h H hG
theorem sMX1_ticksToEnd {l : Launch} {h0 h' : Hp} {v : Int} (h8 : nOf h0 = 148) (n : Nat) (x0 : Int) (x1 : Int) (x2 : Int) (h : Hp) {r : Int × Hp} (H : MX1_ticksToEnd n x0 x1 x2 h = some r) (hG : gWV v h' r) : PAt l false (mi 178).1 h0 v h' 0 [(0, 5, x0), (1, 12, x1), (2, 0, x2)] [] h :=
  pat_w ok_sdX1_ticksToEnd rkX1_ticksToEnd h8 (foX1_ticksToEnd n) (fun v1 h1 q => by
    cases q
    exact ⟨hG.1, fun _ => hG.2⟩) (List.forall_mem_cons.mpr ⟨(fun a c h H => by
      dsimp only at H
      split at H
      · exact sLX1_ticksToEnd_2 h8 n _ _ _ _ _ H hG
      · cases H), (fun q9 h9 => by cases h9)⟩) ((eMX1_ticksToEnd n x0 x1 x2 h).symm.trans H)
theorem sndX1_ticksToEnd {ρ : Type} {l : Launch} (n : Nat) : SndF (ρ := ρ) l false (mi 178).1 (wX1_ticksToEnd n) := by
    intro a h k r H ha ho hn hf
    have h8 := hf rfl
    obtain ⟨x0, x1, x2, rfl⟩ := len3 (show a.length = 3 from ha)
    replace H : bnd (MX1_ticksToEnd n x0 x1 x2 h) (fun r h2 => k r h2) = some r := H
    obtain ⟨v2, h2, H1, H2⟩ := bnd_some H
    exact ⟨v2, h2, H2, met_mk (mok_base okX1_ticksToEnd).1 (by decide +kernel) (Nat.le_of_ble_eq_true rfl) ho (sMX1_ticksToEnd h8 n x0 x1 x2 h H1 ⟨rfl, rfl⟩), fun q => by cases q⟩
/-! X11_till -/
def sdX11_till : SD := [(0, [(0, .aload_n 0, 1, [], 0), (1, .getfield 47, 3, [11, 5, 5, 1, 695, 0], 50), (4, .aload_n 0, 1, [], 0), (5, .getfield 57, 3, [11, 7, 12, 1, 697, 0], 64), (8, .invokevirtual 188, 3, [1, 0, 1, 123, 1007, 12, 5], 0), (11, .ifCond .eq 5, 3, [], 0)]),
  (14, [(14, .iconst 0, 1, [], 0), (15, .ireturn, 1, [], 0)]),
  (16, [(16, .aload_n 0, 1, [], 0), (17, .getfield 57, 3, [11, 7, 12, 1, 697, 0], 64), (20, .getfield 206, 3, [8, 5, 0, 0, 497, 0], 0), (23, .ifCond .eq 6, 3, [], 0)]),
  (26, [(26, .bipush (-2), 2, [], 0), (28, .ireturn, 1, [], 0)]),
  (29, [(29, .aload_n 0, 1, [], 0), (30, .getfield 61, 3, [11, 8, 12, 1, 698, 0], 65), (33, .aload_n 0, 1, [], 0), (34, .getfield 57, 3, [11, 7, 12, 1, 697, 0], 64), (37, .invokevirtual 225, 3, [0, 1, 1, 124, 1120, 12, 12], 0), (40, .aload_n 0, 1, [], 0), (41, .getfield 47, 3, [11, 5, 5, 1, 695, 0], 50), (44, .aload_n 0, 1, [], 0), (45, .getfield 61, 3, [11, 8, 12, 1, 698, 0], 65), (48, .sipush 3000, 3, [], 0), (51, .invokevirtual 241, 3, [1, 2, 1, 178, 1131, 0, 12, 5], 0), (54, .ireturn, 1, [], 0)])]
def MX11_till (n : Nat) (h : Hp) : Option (Int × Hp) :=
(bndp (MX1_isDone 50 64 h) fun r1 =>
(if r1 = 0 then
(if (h 64 5) = 0 then
(bndh (MX8_become 65 64 h) fun h1 =>
(bnd (MX1_ticksToEnd n 50 65 3000 h1) fun r2 h2 =>
(some (r2, h2))))
else
(some ((-2), h)))
else
(some (0, h))))
def wX11_till {ρ : Type} (n : Nat) : FN ρ := fun a h k => match a with
  | [_] => bnd (MX11_till n h) (fun r h2 => k r h2)
  | _ => none
def fsX11_till (n : Nat) (ρ : Type) : List (FN ρ) := [wX1_isDone, wX8_become, wX1_ticksToEnd n]
def KMX11_till (_ : Nat) : CT (Int × Hp) := []
set_option maxRecDepth 100000 in
theorem eMX11_till (n : Nat) (h : Hp) : MX11_till n h =
  goAt false (kct (KMX11_till n)) (fun v h => some ((v, h))) (fsX11_till n _) sdX11_till 1000 0 [(0, 15, 0)] [] h := rfl
theorem okX11_till : mokb (mi 179) = true := by decide +kernel
theorem rkX11_till : rkOK 1 (mi 179).1.2.2.2.2.2.2.1 (mi 179).1.2.2.2.1 := Or.inr (Or.inl ⟨rfl, rfl, rfl⟩)
def calX11_till : List Nat := [123, 124, 178]
theorem foX11_till {l : Launch} {ρ : Type} (n : Nat) : fsOK l false mi calX11_till (fsX11_till n ρ) := ⟨sndX1_isDone, ⟨sndX8_become, ⟨(sndX1_ticksToEnd n), trivial⟩⟩⟩
theorem ok_sdX11_till : sdb (mi 179).1.2.1 (insOK mi (mi 179).1.1.cls (mi 179).1.2.2.1 (mi 179).1.2.2.2.2.1 (mi 179).1.2.2.2.2.2.1 calX11_till false 1) sdX11_till = true := by decide +kernel
theorem sMX11_till {l : Launch} {h0 h' : Hp} {v : Int} (h8 : nOf h0 = 148) (n : Nat)  (h : Hp) {r : Int × Hp} (H : MX11_till n h = some r) (hG : gWV v h' r) : PAt l false (mi 179).1 h0 v h' 0 [(0, 15, 0)] [] h :=
  pat_w ok_sdX11_till rkX11_till h8 (foX11_till n) (fun v1 h1 q => by
    cases q
    exact ⟨hG.1, fun _ => hG.2⟩) (fun q9 h9 => by cases h9) ((eMX11_till n h).symm.trans H)
theorem sndX11_till {ρ : Type} {l : Launch} (n : Nat) : SndF (ρ := ρ) l false (mi 179).1 (wX11_till n) := by
    intro a h k r H ha ho hn hf
    have h8 := hf rfl
    obtain ⟨x0, rfl⟩ := len1 (show a.length = 1 from ha)
    have u0 := uq15 hn (ho (15, x0) (List.mem_cons_self))
    subst u0
    replace H : bnd (MX11_till n h) (fun r h2 => k r h2) = some r := H
    obtain ⟨v2, h2, H1, H2⟩ := bnd_some H
    exact ⟨v2, h2, H2, met_mk (mok_base okX11_till).1 (by decide +kernel) (Nat.le_of_ble_eq_true rfl) ho (sMX11_till h8 n  h H1 ⟨rfl, rfl⟩), fun q => by cases q⟩
/-! X12_tillDone_ -/
def sdX12_tillDone_ : SD := [(0, [(0, .iconst 0, 1, [], 0), (1, .istore_n 2, 1, [], 0)]),
  (2, [(2, .aload_n 0, 1, [], 0), (3, .invokevirtual 430, 3, [1, 0, 1, 140, 1707, 16], 0), (6, .ifCond .ne 35, 3, [], 0)]),
  (9, [(9, .iload_n 2, 1, [], 0), (10, .iload_n 1, 1, [], 0), (11, .if_icmp .eq 17, 3, [], 0)]),
  (14, [(14, .aload_n 0, 1, [], 0), (15, .getfield 415, 3, [12, 52, 0, 0, 1374, 0], 0), (18, .ifCond .eq 13, 3, [], 0)]),
  (21, [(21, .aload_n 0, 1, [], 0), (22, .invokevirtual 418, 3, [1, 1, 1, 138, 1711, 16], 0), (25, .ifCond .eq 6, 3, [], 0)]),
  (28, [(28, .bipush (-2), 2, [], 0), (30, .ireturn, 1, [], 0)]),
  (31, [(31, .aload_n 0, 1, [], 0), (32, .invokevirtual 443, 3, [0, 2, 1, 152, 1730, 16], 0), (35, .iinc 2 1, 3, [], 0), (38, .goto (-36), 3, [], 0)]),
  (41, [(41, .iload_n 2, 1, [], 0), (42, .ireturn, 1, [], 0)])]
def JX12_tillDone__31 (n : Nat) (bk : Int → Int → Hp → Option (Int × Hp)) (x1 x2 : Int) (h : Hp) : Option (Int × Hp) :=
(bndh (MX12_tick n h) fun h1 =>
(ltt (w32 (x2 + 1)) fun y1 =>
(bk x1 y1 h1)))
def BX12_tillDone__2 (n : Nat) : Nat → Int → Int → Hp → Option (Int × Hp)
  | 0, _, _, _ => none
  | f + 1, x1, x2, h =>
    (bndp (MX12_isDone h) fun r1 =>
    (if r1 ≠ 0 then
    (some (x2, h))
    else
    (if x2 = x1 then
    (some ((-2), h))
    else
    (if (h 113 52) = 0 then
    (JX12_tillDone__31 n (BX12_tillDone__2 n f) x1 x2 h)
    else
    (bndp (MX12_isRest h) fun r2 =>
    (if r2 = 0 then
    (JX12_tillDone__31 n (BX12_tillDone__2 n f) x1 x2 h)
    else
    (some ((-2), h))))))))
def LX12_tillDone__2 (n : Nat) (x1 x2 : Int) (h : Hp) : Option (Int × Hp) :=
(BX12_tillDone__2 n n x1 x2 h)
def MX12_tillDone_ (n : Nat) (x1 : Int) (h : Hp) : Option (Int × Hp) :=
(ltt 0 fun y1 =>
(LX12_tillDone__2 n x1 y1 h))
def wX12_tillDone_ {ρ : Type} (n : Nat) : FN ρ := fun a h k => match a with
  | [_, x1] => bnd (MX12_tillDone_ n x1 h) (fun r h2 => k r h2)
  | _ => none
def fsX12_tillDone_ (n : Nat) (ρ : Type) : List (FN ρ) := [wX12_isDone, wX12_isRest, wX12_tick n]
def KJX12_tillDone__31 (_ : Nat) (bk : Int → Int → Hp → Option (Int × Hp)) : CT (Int × Hp) := [(2, [(0, 16, (some 113)), (1, 0, none), (2, 0, none)], [], fun a c h => match a, c with
    | [x1, x2], [] => bk x1 x2 h
    | _, _ => none)]
set_option maxRecDepth 100000 in
theorem eJX12_tillDone__31 (n : Nat) (bk : Int → Int → Hp → Option (Int × Hp)) (x1 : Int) (x2 : Int) (h : Hp) : JX12_tillDone__31 n bk x1 x2 h =
  goAt false (kct (KJX12_tillDone__31 n bk)) (fun v h => some ((v, h))) (fsX12_tillDone_ n _) sdX12_tillDone_ 1000 31 [(0, 16, 113), (1, 0, x1), (2, 0, x2)] [] h := rfl
def KBX12_tillDone__2 (n : Nat) (bk : Int → Int → Hp → Option (Int × Hp)) : CT (Int × Hp) := [(2, [(0, 16, (some 113)), (1, 0, none), (2, 0, none)], [], fun a c h => match a, c with
    | [x1, x2], [] => bk x1 x2 h
    | _, _ => none),
  (31, [(0, 16, (some 113)), (1, 0, none), (2, 0, none)], [], fun a c h => match a, c with
    | [x1, x2], [] => JX12_tillDone__31 n bk x1 x2 h
    | _, _ => none)]
set_option maxRecDepth 100000 in
theorem eBX12_tillDone__2 (n f : Nat) (x1 : Int) (x2 : Int) (h : Hp) : BX12_tillDone__2 n (f + 1) x1 x2 h =
  goAt false (kct (KBX12_tillDone__2 n (BX12_tillDone__2 n f))) (fun v h => some ((v, h))) (fsX12_tillDone_ n _) sdX12_tillDone_ 1000 2 [(0, 16, 113), (1, 0, x1), (2, 0, x2)] [] h := rfl
def KMX12_tillDone_ (n : Nat) : CT (Int × Hp) := [(2, [(0, 16, (some 113)), (1, 0, none), (2, 0, none)], [], fun a c h => match a, c with
    | [x1, x2], [] => LX12_tillDone__2 n x1 x2 h
    | _, _ => none)]
set_option maxRecDepth 100000 in
theorem eMX12_tillDone_ (n : Nat) (x1 : Int) (h : Hp) : MX12_tillDone_ n x1 h =
  goAt false (kct (KMX12_tillDone_ n)) (fun v h => some ((v, h))) (fsX12_tillDone_ n _) sdX12_tillDone_ 1000 0 [(0, 16, 113), (1, 0, x1)] [] h := rfl
theorem okX12_tillDone_ : mokb (mi 180) = true := by decide +kernel
theorem rkX12_tillDone_ : rkOK 1 (mi 180).1.2.2.2.2.2.2.1 (mi 180).1.2.2.2.1 := Or.inr (Or.inl ⟨rfl, rfl, rfl⟩)
def calX12_tillDone_ : List Nat := [140, 138, 152]
theorem foX12_tillDone_ {l : Launch} {ρ : Type} (n : Nat) : fsOK l false mi calX12_tillDone_ (fsX12_tillDone_ n ρ) := ⟨sndX12_isDone, ⟨sndX12_isRest, ⟨(sndX12_tick n), trivial⟩⟩⟩
theorem ok_sdX12_tillDone_ : sdb (mi 180).1.2.1 (insOK mi (mi 180).1.1.cls (mi 180).1.2.2.1 (mi 180).1.2.2.2.2.1 (mi 180).1.2.2.2.2.2.1 calX12_tillDone_ false 1) sdX12_tillDone_ = true := by decide +kernel
theorem sJX12_tillDone__31 {l : Launch} {h0 h' : Hp} {v : Int} (h8 : nOf h0 = 148) (n : Nat) (bk : Int → Int → Hp → Option (Int × Hp)) (hbk : ∀ (x1 : Int) (x2 : Int) (h : Hp) (r : Int × Hp), bk x1 x2 h = some r → gWV v h' r → PAt l false (mi 180).1 h0 v h' 2 [(0, 16, 113), (1, 0, x1), (2, 0, x2)] [] h) (x1 : Int) (x2 : Int) (h : Hp) {r : Int × Hp} (H : JX12_tillDone__31 n bk x1 x2 h = some r) (hG : gWV v h' r) : PAt l false (mi 180).1 h0 v h' 31 [(0, 16, 113), (1, 0, x1), (2, 0, x2)] [] h :=
  pat_w ok_sdX12_tillDone_ rkX12_tillDone_ h8 (foX12_tillDone_ n) (fun v1 h1 q => by
    cases q
    exact ⟨hG.1, fun _ => hG.2⟩) (List.forall_mem_cons.mpr ⟨(fun a c h H => by
      dsimp only at H
      split at H
      · exact hbk _ _ _ _ H hG
      · cases H), (fun q9 h9 => by cases h9)⟩) ((eJX12_tillDone__31 n bk x1 x2 h).symm.trans H)
theorem sBX12_tillDone__2 {l : Launch} {h0 h' : Hp} {v : Int} (h8 : nOf h0 = 148) (n : Nat) : ∀ (f : Nat) (x1 : Int) (x2 : Int) (h : Hp) {r : Int × Hp}, BX12_tillDone__2 n f x1 x2 h = some r → gWV v h' r → PAt l false (mi 180).1 h0 v h' 2 [(0, 16, 113), (1, 0, x1), (2, 0, x2)] [] h := by
  intro f
  induction f with
  | zero =>
    intro x1 x2 h r H _
    have H2 : (none : Option (Int × Hp)) = some r := H
    cases H2
  | succ f ih =>
    intro x1 x2 h r H hG
    have ihk : ∀ (x1 : Int) (x2 : Int) (h : Hp) (r : Int × Hp), BX12_tillDone__2 n f x1 x2 h = some r → gWV v h' r → PAt l false (mi 180).1 h0 v h' 2 [(0, 16, 113), (1, 0, x1), (2, 0, x2)] [] h := fun x1 x2 h r9 a9 b9 => ih x1 x2 h a9 b9
    exact pat_w ok_sdX12_tillDone_ rkX12_tillDone_ h8 (foX12_tillDone_ n) (fun v1 h1 q => by
    cases q
    exact ⟨hG.1, fun _ => hG.2⟩) (List.forall_mem_cons.mpr ⟨(fun a c h H => by
      dsimp only at H
      split at H
      · exact ih _ _ _ H hG
      · cases H), (List.forall_mem_cons.mpr ⟨(fun a c h H => by
      dsimp only at H
      split at H
      · exact sJX12_tillDone__31 h8 n (BX12_tillDone__2 n f) ihk _ _ _ H hG
      · cases H), (fun q9 h9 => by cases h9)⟩)⟩) ((eBX12_tillDone__2 n f x1 x2 h).symm.trans H)
theorem sLX12_tillDone__2 {l : Launch} {h0 h' : Hp} {v : Int} (h8 : nOf h0 = 148) (n : Nat) (x1 : Int) (x2 : Int) (h : Hp) {r : Int × Hp} (H : LX12_tillDone__2 n x1 x2 h = some r) (hG : gWV v h' r) : PAt l false (mi 180).1 h0 v h' 2 [(0, 16, 113), (1, 0, x1), (2, 0, x2)] [] h :=
  sBX12_tillDone__2 h8 n n x1 x2 h H hG
theorem sMX12_tillDone_ {l : Launch} {h0 h' : Hp} {v : Int} (h8 : nOf h0 = 148) (n : Nat) (x1 : Int) (h : Hp) {r : Int × Hp} (H : MX12_tillDone_ n x1 h = some r) (hG : gWV v h' r) : PAt l false (mi 180).1 h0 v h' 0 [(0, 16, 113), (1, 0, x1)] [] h :=
  pat_w ok_sdX12_tillDone_ rkX12_tillDone_ h8 (foX12_tillDone_ n) (fun v1 h1 q => by
    cases q
    exact ⟨hG.1, fun _ => hG.2⟩) (List.forall_mem_cons.mpr ⟨(fun a c h H => by
      dsimp only at H
      split at H
      · exact sLX12_tillDone__2 h8 n _ _ _ H hG
      · cases H), (fun q9 h9 => by cases h9)⟩) ((eMX12_tillDone_ n x1 h).symm.trans H)
theorem sndX12_tillDone_ {ρ : Type} {l : Launch} (n : Nat) : SndF (ρ := ρ) l false (mi 180).1 (wX12_tillDone_ n) := by
    intro a h k r H ha ho hn hf
    have h8 := hf rfl
    obtain ⟨x0, x1, rfl⟩ := len2 (show a.length = 2 from ha)
    have u0 := uq16 hn (ho (16, x0) (List.mem_cons_self))
    subst u0
    replace H : bnd (MX12_tillDone_ n x1 h) (fun r h2 => k r h2) = some r := H
    obtain ⟨v2, h2, H1, H2⟩ := bnd_some H
    exact ⟨v2, h2, H2, met_mk (mok_base okX12_tillDone_).1 (by decide +kernel) (Nat.le_of_ble_eq_true rfl) ho (sMX12_tillDone_ h8 n x1 h H1 ⟨rfl, rfl⟩), fun q => by cases q⟩
/-! X12_tillDone -/
def sdX12_tillDone : SD := [(0, [(0, .aload_n 0, 1, [], 0), (1, .sipush 3000, 3, [], 0), (4, .invokevirtual 440, 3, [1, 0, 1, 180, 1829, 0, 16], 0), (7, .ireturn, 1, [], 0)])]
def MX12_tillDone (n : Nat) (h : Hp) : Option (Int × Hp) :=
(bnd (MX12_tillDone_ n 3000 h) fun r1 h1 =>
(some (r1, h1)))
def wX12_tillDone {ρ : Type} (n : Nat) : FN ρ := fun a h k => match a with
  | [_] => bnd (MX12_tillDone n h) (fun r h2 => k r h2)
  | _ => none
def fsX12_tillDone (n : Nat) (ρ : Type) : List (FN ρ) := [wX12_tillDone_ n]
def KMX12_tillDone (_ : Nat) : CT (Int × Hp) := []
set_option maxRecDepth 100000 in
theorem eMX12_tillDone (n : Nat) (h : Hp) : MX12_tillDone n h =
  goAt false (kct (KMX12_tillDone n)) (fun v h => some ((v, h))) (fsX12_tillDone n _) sdX12_tillDone 1000 0 [(0, 16, 113)] [] h := rfl
theorem okX12_tillDone : mokb (mi 181) = true := by decide +kernel
theorem rkX12_tillDone : rkOK 1 (mi 181).1.2.2.2.2.2.2.1 (mi 181).1.2.2.2.1 := Or.inr (Or.inl ⟨rfl, rfl, rfl⟩)
def calX12_tillDone : List Nat := [180]
theorem foX12_tillDone {l : Launch} {ρ : Type} (n : Nat) : fsOK l false mi calX12_tillDone (fsX12_tillDone n ρ) := ⟨(sndX12_tillDone_ n), trivial⟩
theorem ok_sdX12_tillDone : sdb (mi 181).1.2.1 (insOK mi (mi 181).1.1.cls (mi 181).1.2.2.1 (mi 181).1.2.2.2.2.1 (mi 181).1.2.2.2.2.2.1 calX12_tillDone false 1) sdX12_tillDone = true := by decide +kernel
theorem sMX12_tillDone {l : Launch} {h0 h' : Hp} {v : Int} (h8 : nOf h0 = 148) (n : Nat)  (h : Hp) {r : Int × Hp} (H : MX12_tillDone n h = some r) (hG : gWV v h' r) : PAt l false (mi 181).1 h0 v h' 0 [(0, 16, 113)] [] h :=
  pat_w ok_sdX12_tillDone rkX12_tillDone h8 (foX12_tillDone n) (fun v1 h1 q => by
    cases q
    exact ⟨hG.1, fun _ => hG.2⟩) (fun q9 h9 => by cases h9) ((eMX12_tillDone n h).symm.trans H)
theorem sndX12_tillDone {ρ : Type} {l : Launch} (n : Nat) : SndF (ρ := ρ) l false (mi 181).1 (wX12_tillDone n) := by
    intro a h k r H ha ho hn hf
    have h8 := hf rfl
    obtain ⟨x0, rfl⟩ := len1 (show a.length = 1 from ha)
    have u0 := uq16 hn (ho (16, x0) (List.mem_cons_self))
    subst u0
    replace H : bnd (MX12_tillDone n h) (fun r h2 => k r h2) = some r := H
    obtain ⟨v2, h2, H1, H2⟩ := bnd_some H
    exact ⟨v2, h2, H2, met_mk (mok_base okX12_tillDone).1 (by decide +kernel) (Nat.le_of_ble_eq_true rfl) ho (sMX12_tillDone h8 n  h H1 ⟨rfl, rfl⟩), fun q => by cases q⟩
/-! X12_till -/
def sdX12_till : SD := [(0, [(0, .aload_n 0, 1, [], 0), (1, .invokevirtual 459, 3, [0, 0, 1, 116, 1673, 16], 0), (4, .aload_n 0, 1, [], 0), (5, .invokevirtual 462, 3, [0, 1, 1, 137, 1703, 16], 0), (8, .aload_n 0, 1, [], 0), (9, .getfield 415, 3, [12, 52, 0, 0, 1374, 0], 0), (12, .ifCond .eq 15, 3, [], 0)]),
  (15, [(15, .aload_n 0, 1, [], 0), (16, .invokevirtual 430, 3, [1, 2, 1, 140, 1707, 16], 0), (19, .ifCond .ne 8, 3, [], 0)]),
  (22, [(22, .bipush (-2), 2, [], 0), (24, .goto 7, 3, [], 0)]),
  (27, [(27, .aload_n 0, 1, [], 0), (28, .invokevirtual 487, 3, [1, 3, 1, 181, 1825, 16], 0)]),
  (31, [(31, .ireturn, 1, [], 0)])]
def MX12_till (n : Nat) (h : Hp) : Option (Int × Hp) :=
(bndh (MX12_laysNow n h) fun h1 =>
(bndh (MX12_begins h1) fun h2 =>
(if (h2 113 52) = 0 then
(bnd (MX12_tillDone n h2) fun r1 h3 =>
(some (r1, h3)))
else
(bndp (MX12_isDone h2) fun r2 =>
(if r2 ≠ 0 then
(bnd (MX12_tillDone n h2) fun r3 h4 =>
(some (r3, h4)))
else
(some ((-2), h2)))))))
def wX12_till {ρ : Type} (n : Nat) : FN ρ := fun a h k => match a with
  | [_] => bnd (MX12_till n h) (fun r h2 => k r h2)
  | _ => none
def fsX12_till (n : Nat) (ρ : Type) : List (FN ρ) := [wX12_laysNow n, wX12_begins, wX12_isDone, wX12_tillDone n]
def KMX12_till (_ : Nat) : CT (Int × Hp) := []
set_option maxRecDepth 100000 in
theorem eMX12_till (n : Nat) (h : Hp) : MX12_till n h =
  goAt false (kct (KMX12_till n)) (fun v h => some ((v, h))) (fsX12_till n _) sdX12_till 1000 0 [(0, 16, 113)] [] h := rfl
theorem okX12_till : mokb (mi 182) = true := by decide +kernel
theorem rkX12_till : rkOK 1 (mi 182).1.2.2.2.2.2.2.1 (mi 182).1.2.2.2.1 := Or.inr (Or.inl ⟨rfl, rfl, rfl⟩)
def calX12_till : List Nat := [116, 137, 140, 181]
theorem foX12_till {l : Launch} {ρ : Type} (n : Nat) : fsOK l false mi calX12_till (fsX12_till n ρ) := ⟨(sndX12_laysNow n), ⟨sndX12_begins, ⟨sndX12_isDone, ⟨(sndX12_tillDone n), trivial⟩⟩⟩⟩
theorem ok_sdX12_till : sdb (mi 182).1.2.1 (insOK mi (mi 182).1.1.cls (mi 182).1.2.2.1 (mi 182).1.2.2.2.2.1 (mi 182).1.2.2.2.2.2.1 calX12_till false 1) sdX12_till = true := by decide +kernel
theorem sMX12_till {l : Launch} {h0 h' : Hp} {v : Int} (h8 : nOf h0 = 148) (n : Nat)  (h : Hp) {r : Int × Hp} (H : MX12_till n h = some r) (hG : gWV v h' r) : PAt l false (mi 182).1 h0 v h' 0 [(0, 16, 113)] [] h :=
  pat_w ok_sdX12_till rkX12_till h8 (foX12_till n) (fun v1 h1 q => by
    cases q
    exact ⟨hG.1, fun _ => hG.2⟩) (fun q9 h9 => by cases h9) ((eMX12_till n h).symm.trans H)
theorem sndX12_till {ρ : Type} {l : Launch} (n : Nat) : SndF (ρ := ρ) l false (mi 182).1 (wX12_till n) := by
    intro a h k r H ha ho hn hf
    have h8 := hf rfl
    obtain ⟨x0, rfl⟩ := len1 (show a.length = 1 from ha)
    have u0 := uq16 hn (ho (16, x0) (List.mem_cons_self))
    subst u0
    replace H : bnd (MX12_till n h) (fun r h2 => k r h2) = some r := H
    obtain ⟨v2, h2, H1, H2⟩ := bnd_some H
    exact ⟨v2, h2, H2, met_mk (mok_base okX12_till).1 (by decide +kernel) (Nat.le_of_ble_eq_true rfl) ho (sMX12_till h8 n  h H1 ⟨rfl, rfl⟩), fun q => by cases q⟩
/-! X11_canTry -/
def sdX11_canTry : SD := [(0, [(0, .iload_n 0, 1, [], 0), (1, .tableswitch 79 0 2 #[27, 44, 61], 27, [], 0)]),
  (28, [(28, .iload_n 1, 1, [], 0), (29, .ifCond .lt 14, 3, [], 0)]),
  (32, [(32, .iload_n 1, 1, [], 0), (33, .sipush 2000, 3, [], 0), (36, .if_icmp .gt 7, 3, [], 0)]),
  (39, [(39, .iconst 1, 1, [], 0), (40, .goto 4, 3, [], 0)]),
  (43, [(43, .iconst 0, 1, [], 0)]),
  (44, [(44, .ireturn, 1, [1], 0)]),
  (45, [(45, .iload_n 1, 1, [], 0), (46, .iconst 1, 1, [], 0), (47, .if_icmp .lt 13, 3, [], 0)]),
  (50, [(50, .iload_n 1, 1, [], 0), (51, .bipush 50, 2, [], 0), (53, .if_icmp .gt 7, 3, [], 0)]),
  (56, [(56, .iconst 1, 1, [], 0), (57, .goto 4, 3, [], 0)]),
  (60, [(60, .iconst 0, 1, [], 0)]),
  (61, [(61, .ireturn, 1, [1], 0)]),
  (62, [(62, .iload_n 1, 1, [], 0), (63, .iconst 1, 1, [], 0), (64, .if_icmp .lt 14, 3, [], 0)]),
  (67, [(67, .iload_n 1, 1, [], 0), (68, .sipush 200, 3, [], 0), (71, .if_icmp .gt 7, 3, [], 0)]),
  (74, [(74, .iconst 1, 1, [], 0), (75, .goto 4, 3, [], 0)]),
  (78, [(78, .iconst 0, 1, [], 0)]),
  (79, [(79, .ireturn, 1, [1], 0)]),
  (80, [(80, .iconst 0, 1, [], 0), (81, .ireturn, 1, [1], 0)])]
def MX11_canTry (x0 x1 : Int) : Option (Int) :=
(if x0 = 0 then
(if x1 < 0 then
(some 0)
else
(if 2000 < x1 then
(some 0)
else
(some 1)))
else
(if x0 = 1 then
(if x1 < 1 then
(some 0)
else
(if 50 < x1 then
(some 0)
else
(some 1)))
else
(if x0 = 2 then
(if x1 < 1 then
(some 0)
else
(if 200 < x1 then
(some 0)
else
(some 1)))
else
(some 0))))
def wX11_canTry {ρ : Type} : FN ρ := fun a h k => match a with
  | [x0, x1] => bndp (MX11_canTry x0 x1) (fun r => k r h)
  | _ => none
def fsX11_canTry (ρ : Type) : List (FN ρ) := []
def KMX11_canTry  : CT (Int) := []
set_option maxRecDepth 100000 in
theorem eMX11_canTry (x0 : Int) (x1 : Int) (h : Hp) : MX11_canTry x0 x1 =
  goAt false (kct (KMX11_canTry)) (fun v _ => some (v)) (fsX11_canTry _) sdX11_canTry 1000 0 [(0, 0, x0), (1, 0, x1)] [] h := rfl
theorem okX11_canTry : mokb (mi 183) = true := by decide +kernel
theorem rkX11_canTry : rkOK 4 (mi 183).1.2.2.2.2.2.2.1 (mi 183).1.2.2.2.1 := Or.inr (Or.inr (Or.inl ⟨rfl, rfl, rfl⟩))
def calX11_canTry : List Nat := []
theorem foX11_canTry {l : Launch} {ρ : Type} : fsOK l false mi calX11_canTry (fsX11_canTry ρ) := trivial
theorem frX11_canTry {ρ : Type} : ∀ fn ∈ fsX11_canTry ρ, RoF fn := (fun q9 h9 => by cases h9)
theorem ok_sdX11_canTry : sdb (mi 183).1.2.1 (insOK mi (mi 183).1.1.cls (mi 183).1.2.2.1 (mi 183).1.2.2.2.2.1 (mi 183).1.2.2.2.2.2.1 calX11_canTry false 4) sdX11_canTry = true := by decide +kernel
theorem sMX11_canTry {l : Launch} {h0 : Hp} {v : Int} (h8 : nOf h0 = 148)  (x0 : Int) (x1 : Int) (h : Hp) {r : Int} (H : MX11_canTry x0 x1 = some r) (hG : gV v r) : PAt l false (mi 183).1 h0 v h 0 [(0, 0, x0), (1, 0, x1)] [] h :=
  pat_ro ok_sdX11_canTry rfl rkX11_canTry h8 (foX11_canTry) (frX11_canTry) (fun v1 q => by
    cases q
    exact ⟨rfl, fun _ => hG⟩) (fun q9 h9 => by cases h9) ((eMX11_canTry x0 x1 h).symm.trans H)
theorem sndX11_canTry {ρ : Type} {l : Launch} : SndF (ρ := ρ) l false (mi 183).1 (wX11_canTry) := by
    intro a h k r H ha ho hn hf
    have h8 := hf rfl
    obtain ⟨x0, x1, rfl⟩ := len2 (show a.length = 2 from ha)
    replace H : bndp (MX11_canTry x0 x1) (fun r => k r h) = some r := H
    obtain ⟨v2, H1, H2⟩ := bndp_some H
    exact ⟨v2, h, H2, met_mk (mok_base okX11_canTry).1 (by decide +kernel) (Nat.le_of_ble_eq_true rfl) ho (sMX11_canTry h8 x0 x1 h H1 rfl), fun q => by cases q⟩
theorem roX11_canTry {ρ : Type} : RoF (wX11_canTry : FN ρ) := fun a h k k2 hk => by
  unfold wX11_canTry
  split
  · exact bndp_ro hk
  · rfl
/-! X11_tried -/
def sdX11_tried : SD := [(0, [(0, .iload_n 1, 1, [], 0), (1, .iload_n 2, 1, [], 0), (2, .invokestatic 245, 3, [1, 0, 3, 183, 1139, 0, 0], 0), (5, .ifCond .ne 5, 3, [], 0)]),
  (8, [(8, .iconst (-1), 1, [], 0), (9, .ireturn, 1, [], 0)]),
  (10, [(10, .iload_n 1, 1, [], 0), (11, .ifCond .ne 7, 3, [], 0)]),
  (14, [(14, .iload_n 2, 1, [], 0), (15, .goto 10, 3, [], 0)]),
  (18, [(18, .aload_n 0, 1, [], 0), (19, .getfield 10, 3, [11, 2, 14, 0, 692, 0], 0), (22, .getfield 115, 3, [10, 10, 0, 0, 198, 0], 0)]),
  (25, [(25, .istore_n 3, 1, [], 0), (26, .iload_n 1, 1, [], 0), (27, .iconst 1, 1, [], 0), (28, .if_icmp .ne 7, 3, [], 0)]),
  (31, [(31, .iload_n 2, 1, [], 0), (32, .goto 10, 3, [], 0)]),
  (35, [(35, .aload_n 0, 1, [], 0), (36, .getfield 10, 3, [11, 2, 14, 0, 692, 0], 0), (39, .getfield 118, 3, [10, 9, 0, 0, 194, 0], 0)]),
  (42, [(42, .istore 4, 2, [], 0), (44, .iload_n 1, 1, [], 0), (45, .iconst 2, 1, [], 0), (46, .if_icmp .ne 7, 3, [], 0)]),
  (49, [(49, .iload_n 2, 1, [], 0), (50, .goto 10, 3, [], 0)]),
  (53, [(53, .aload_n 0, 1, [], 0), (54, .getfield 57, 3, [11, 7, 12, 1, 697, 0], 64), (57, .getfield 203, 3, [8, 4, 0, 0, 494, 0], 0)]),
  (60, [(60, .istore 5, 2, [], 0), (62, .aload_n 0, 1, [], 0), (63, .getfield 51, 3, [11, 6, 5, 1, 696, 0], 57), (66, .aload_n 0, 1, [], 0), (67, .getfield 10, 3, [11, 2, 14, 0, 692, 0], 0), (70, .iload_n 3, 1, [], 0), (71, .iload 4, 2, [], 0), (73, .invokevirtual 121, 3, [0, 1, 1, 55, 567, 0, 0, 14, 5], 0), (76, .aload_n 0, 1, [], 0), (77, .getfield 51, 3, [11, 6, 5, 1, 696, 0], 57), (80, .iload 5, 2, [], 0), (82, .invokevirtual 125, 3, [1, 2, 1, 59, 601, 0, 5], 0), (85, .pop, 1, [], 0), (86, .aload_n 0, 1, [], 0), (87, .getfield 61, 3, [11, 8, 12, 1, 698, 0], 65), (90, .aload_n 0, 1, [], 0), (91, .getfield 10, 3, [11, 2, 14, 0, 692, 0], 0), (94, .iload 5, 2, [], 0), (96, .invokevirtual 132, 3, [0, 3, 1, 73, 678, 0, 14, 12], 0), (99, .aload_n 0, 1, [], 0), (100, .getfield 51, 3, [11, 6, 5, 1, 696, 0], 57), (103, .aload_n 0, 1, [], 0), (104, .getfield 61, 3, [11, 8, 12, 1, 698, 0], 65), (107, .sipush 3000, 3, [], 0), (110, .invokevirtual 241, 3, [1, 4, 1, 178, 1131, 0, 12, 5], 0), (113, .ireturn, 1, [], 0)])]
def JX11_tried_60 (n : Nat) (x3 x4 z0 : Int) (h : Hp) : Option (Int × Hp) :=
(ltt z0 fun y1 =>
(bndh (MX1_settle n 57 (h 0 2) x3 x4 h) fun h1 =>
(bnd (MX1_grant n 57 y1 h1) fun r1 h2 =>
(bndh (MX8_begin n 65 (h2 0 2) y1 h2) fun h3 =>
(bnd (MX1_ticksToEnd n 57 65 3000 h3) fun r2 h4 =>
(some (r2, h4)))))))
def JX11_tried_42 (n : Nat) (x1 x2 x3 z0 : Int) (h : Hp) : Option (Int × Hp) :=
(ltt z0 fun y1 =>
(if x1 ≠ 2 then
(JX11_tried_60 n x3 y1 (h 64 4) h)
else
(JX11_tried_60 n x3 y1 x2 h)))
def JX11_tried_25 (n : Nat) (x1 x2 z0 : Int) (h : Hp) : Option (Int × Hp) :=
(ltt z0 fun y1 =>
(if x1 ≠ 1 then
(JX11_tried_42 n x1 x2 y1 (h (h 0 2) 9) h)
else
(JX11_tried_42 n x1 x2 y1 x2 h)))
def MX11_tried (n : Nat) (x1 x2 : Int) (h : Hp) : Option (Int × Hp) :=
(bndp (MX11_canTry x1 x2) fun r1 =>
(if r1 ≠ 0 then
(if x1 ≠ 0 then
(JX11_tried_25 n x1 x2 (h (h 0 2) 10) h)
else
(JX11_tried_25 n x1 x2 x2 h))
else
(some ((-1), h))))
def wX11_tried {ρ : Type} (n : Nat) : FN ρ := fun a h k => match a with
  | [_, x1, x2] => bnd (MX11_tried n x1 x2 h) (fun r h2 => k r h2)
  | _ => none
def fsX11_tried (n : Nat) (ρ : Type) : List (FN ρ) := [wX11_canTry, wX1_settle n, wX1_grant n, wX8_begin n, wX1_ticksToEnd n]
def KJX11_tried_60 (_ : Nat) : CT (Int × Hp) := []
set_option maxRecDepth 100000 in
theorem eJX11_tried_60 (n : Nat) (x3 : Int) (x4 : Int) (z0 : Int) (h : Hp) : JX11_tried_60 n x3 x4 z0 h =
  goAt false (kct (KJX11_tried_60 n)) (fun v h => some ((v, h))) (fsX11_tried n _) sdX11_tried 1000 60 [(0, 15, 0), (3, 0, x3), (4, 0, x4)] [(0, z0)] h := rfl
def KJX11_tried_42 (n : Nat) : CT (Int × Hp) := [(60, [(0, 15, (some 0)), (3, 0, none), (4, 0, none)], [(0, none)], fun a c h => match a, c with
    | [x3, x4], [z0] => JX11_tried_60 n x3 x4 z0 h
    | _, _ => none)]
set_option maxRecDepth 100000 in
theorem eJX11_tried_42 (n : Nat) (x1 : Int) (x2 : Int) (x3 : Int) (z0 : Int) (h : Hp) : JX11_tried_42 n x1 x2 x3 z0 h =
  goAt false (kct (KJX11_tried_42 n)) (fun v h => some ((v, h))) (fsX11_tried n _) sdX11_tried 1000 42 [(0, 15, 0), (1, 0, x1), (2, 0, x2), (3, 0, x3)] [(0, z0)] h := rfl
def KJX11_tried_25 (n : Nat) : CT (Int × Hp) := [(42, [(0, 15, (some 0)), (1, 0, none), (2, 0, none), (3, 0, none)], [(0, none)], fun a c h => match a, c with
    | [x1, x2, x3], [z0] => JX11_tried_42 n x1 x2 x3 z0 h
    | _, _ => none)]
set_option maxRecDepth 100000 in
theorem eJX11_tried_25 (n : Nat) (x1 : Int) (x2 : Int) (z0 : Int) (h : Hp) : JX11_tried_25 n x1 x2 z0 h =
  goAt false (kct (KJX11_tried_25 n)) (fun v h => some ((v, h))) (fsX11_tried n _) sdX11_tried 1000 25 [(0, 15, 0), (1, 0, x1), (2, 0, x2)] [(0, z0)] h := rfl
def KMX11_tried (n : Nat) : CT (Int × Hp) := [(25, [(0, 15, (some 0)), (1, 0, none), (2, 0, none)], [(0, none)], fun a c h => match a, c with
    | [x1, x2], [z0] => JX11_tried_25 n x1 x2 z0 h
    | _, _ => none)]
set_option maxRecDepth 100000 in
theorem eMX11_tried (n : Nat) (x1 : Int) (x2 : Int) (h : Hp) : MX11_tried n x1 x2 h =
  goAt false (kct (KMX11_tried n)) (fun v h => some ((v, h))) (fsX11_tried n _) sdX11_tried 1000 0 [(0, 15, 0), (1, 0, x1), (2, 0, x2)] [] h := rfl
theorem okX11_tried : mokb (mi 184) = true := by decide +kernel
theorem rkX11_tried : rkOK 1 (mi 184).1.2.2.2.2.2.2.1 (mi 184).1.2.2.2.1 := Or.inr (Or.inl ⟨rfl, rfl, rfl⟩)
def calX11_tried : List Nat := [183, 55, 59, 73, 178]
theorem foX11_tried {l : Launch} {ρ : Type} (n : Nat) : fsOK l false mi calX11_tried (fsX11_tried n ρ) := ⟨sndX11_canTry, ⟨(sndX1_settle n), ⟨(sndX1_grant n), ⟨(sndX8_begin n), ⟨(sndX1_ticksToEnd n), trivial⟩⟩⟩⟩⟩
theorem ok_sdX11_tried : sdb (mi 184).1.2.1 (insOK mi (mi 184).1.1.cls (mi 184).1.2.2.1 (mi 184).1.2.2.2.2.1 (mi 184).1.2.2.2.2.2.1 calX11_tried false 1) sdX11_tried = true := by decide +kernel
theorem sJX11_tried_60 {l : Launch} {h0 h' : Hp} {v : Int} (h8 : nOf h0 = 148) (n : Nat) (x3 : Int) (x4 : Int) (z0 : Int) (h : Hp) {r : Int × Hp} (H : JX11_tried_60 n x3 x4 z0 h = some r) (hG : gWV v h' r) : PAt l false (mi 184).1 h0 v h' 60 [(0, 15, 0), (3, 0, x3), (4, 0, x4)] [(0, z0)] h :=
  pat_w ok_sdX11_tried rkX11_tried h8 (foX11_tried n) (fun v1 h1 q => by
    cases q
    exact ⟨hG.1, fun _ => hG.2⟩) (fun q9 h9 => by cases h9) ((eJX11_tried_60 n x3 x4 z0 h).symm.trans H)
theorem sJX11_tried_42 {l : Launch} {h0 h' : Hp} {v : Int} (h8 : nOf h0 = 148) (n : Nat) (x1 : Int) (x2 : Int) (x3 : Int) (z0 : Int) (h : Hp) {r : Int × Hp} (H : JX11_tried_42 n x1 x2 x3 z0 h = some r) (hG : gWV v h' r) : PAt l false (mi 184).1 h0 v h' 42 [(0, 15, 0), (1, 0, x1), (2, 0, x2), (3, 0, x3)] [(0, z0)] h :=
  pat_w ok_sdX11_tried rkX11_tried h8 (foX11_tried n) (fun v1 h1 q => by
    cases q
    exact ⟨hG.1, fun _ => hG.2⟩) (List.forall_mem_cons.mpr ⟨(fun a c h H => by
      dsimp only at H
      split at H
      · exact sJX11_tried_60 h8 n _ _ _ _ H hG
      · cases H), (fun q9 h9 => by cases h9)⟩) ((eJX11_tried_42 n x1 x2 x3 z0 h).symm.trans H)
theorem sJX11_tried_25 {l : Launch} {h0 h' : Hp} {v : Int} (h8 : nOf h0 = 148) (n : Nat) (x1 : Int) (x2 : Int) (z0 : Int) (h : Hp) {r : Int × Hp} (H : JX11_tried_25 n x1 x2 z0 h = some r) (hG : gWV v h' r) : PAt l false (mi 184).1 h0 v h' 25 [(0, 15, 0), (1, 0, x1), (2, 0, x2)] [(0, z0)] h :=
  pat_w ok_sdX11_tried rkX11_tried h8 (foX11_tried n) (fun v1 h1 q => by
    cases q
    exact ⟨hG.1, fun _ => hG.2⟩) (List.forall_mem_cons.mpr ⟨(fun a c h H => by
      dsimp only at H
      split at H
      · exact sJX11_tried_42 h8 n _ _ _ _ _ H hG
      · cases H), (fun q9 h9 => by cases h9)⟩) ((eJX11_tried_25 n x1 x2 z0 h).symm.trans H)
theorem sMX11_tried {l : Launch} {h0 h' : Hp} {v : Int} (h8 : nOf h0 = 148) (n : Nat) (x1 : Int) (x2 : Int) (h : Hp) {r : Int × Hp} (H : MX11_tried n x1 x2 h = some r) (hG : gWV v h' r) : PAt l false (mi 184).1 h0 v h' 0 [(0, 15, 0), (1, 0, x1), (2, 0, x2)] [] h :=
  pat_w ok_sdX11_tried rkX11_tried h8 (foX11_tried n) (fun v1 h1 q => by
    cases q
    exact ⟨hG.1, fun _ => hG.2⟩) (List.forall_mem_cons.mpr ⟨(fun a c h H => by
      dsimp only at H
      split at H
      · exact sJX11_tried_25 h8 n _ _ _ _ H hG
      · cases H), (fun q9 h9 => by cases h9)⟩) ((eMX11_tried n x1 x2 h).symm.trans H)
theorem sndX11_tried {ρ : Type} {l : Launch} (n : Nat) : SndF (ρ := ρ) l false (mi 184).1 (wX11_tried n) := by
    intro a h k r H ha ho hn hf
    have h8 := hf rfl
    obtain ⟨x0, x1, x2, rfl⟩ := len3 (show a.length = 3 from ha)
    have u0 := uq15 hn (ho (15, x0) (List.mem_cons_self))
    subst u0
    replace H : bnd (MX11_tried n x1 x2 h) (fun r h2 => k r h2) = some r := H
    obtain ⟨v2, h2, H1, H2⟩ := bnd_some H
    exact ⟨v2, h2, H2, met_mk (mok_base okX11_tried).1 (by decide +kernel) (Nat.le_of_ble_eq_true rfl) ho (sMX11_tried h8 n x1 x2 h H1 ⟨rfl, rfl⟩), fun q => by cases q⟩
/-! X12_tillFromBegin -/
def sdX12_tillFromBegin : SD := [(0, [(0, .aload_n 0, 1, [], 0), (1, .iconst 0, 1, [], 0), (2, .putfield 406, 3, [12, 48, 0, 0, 0, 1370], 0), (5, .aload_n 0, 1, [], 0), (6, .iconst 0, 1, [], 0), (7, .putfield 409, 3, [12, 49, 0, 0, 0, 1371], 0), (10, .aload_n 0, 1, [], 0), (11, .iconst 0, 1, [], 0), (12, .putfield 412, 3, [12, 50, 0, 0, 0, 1372], 0), (15, .aload_n 0, 1, [], 0), (16, .iconst 0, 1, [], 0), (17, .putfield 415, 3, [12, 52, 0, 0, 1, 1374], 0), (20, .aload_n 0, 1, [], 0), (21, .invokevirtual 487, 3, [1, 0, 1, 181, 1825, 16], 0), (24, .ireturn, 1, [], 0)])]
def MX12_tillFromBegin (n : Nat) (h : Hp) : Option (Int × Hp) :=
(ltt (up h 113 48 0) fun h1 =>
(ltt (up h1 113 49 0) fun h2 =>
(ltt (up h2 113 50 0) fun h3 =>
(ltt (up h3 113 52 0) fun h4 =>
(bnd (MX12_tillDone n h4) fun r1 h5 =>
(some (r1, h5)))))))
def wX12_tillFromBegin {ρ : Type} (n : Nat) : FN ρ := fun a h k => match a with
  | [_] => bnd (MX12_tillFromBegin n h) (fun r h2 => k r h2)
  | _ => none
def fsX12_tillFromBegin (n : Nat) (ρ : Type) : List (FN ρ) := [wX12_tillDone n]
def KMX12_tillFromBegin (_ : Nat) : CT (Int × Hp) := []
set_option maxRecDepth 100000 in
theorem eMX12_tillFromBegin (n : Nat) (h : Hp) : MX12_tillFromBegin n h =
  goAt false (kct (KMX12_tillFromBegin n)) (fun v h => some ((v, h))) (fsX12_tillFromBegin n _) sdX12_tillFromBegin 1000 0 [(0, 16, 113)] [] h := rfl
theorem okX12_tillFromBegin : mokb (mi 185) = true := by decide +kernel
theorem rkX12_tillFromBegin : rkOK 1 (mi 185).1.2.2.2.2.2.2.1 (mi 185).1.2.2.2.1 := Or.inr (Or.inl ⟨rfl, rfl, rfl⟩)
def calX12_tillFromBegin : List Nat := [181]
theorem foX12_tillFromBegin {l : Launch} {ρ : Type} (n : Nat) : fsOK l false mi calX12_tillFromBegin (fsX12_tillFromBegin n ρ) := ⟨(sndX12_tillDone n), trivial⟩
theorem ok_sdX12_tillFromBegin : sdb (mi 185).1.2.1 (insOK mi (mi 185).1.1.cls (mi 185).1.2.2.1 (mi 185).1.2.2.2.2.1 (mi 185).1.2.2.2.2.2.1 calX12_tillFromBegin false 1) sdX12_tillFromBegin = true := by decide +kernel
theorem sMX12_tillFromBegin {l : Launch} {h0 h' : Hp} {v : Int} (h8 : nOf h0 = 148) (n : Nat)  (h : Hp) {r : Int × Hp} (H : MX12_tillFromBegin n h = some r) (hG : gWV v h' r) : PAt l false (mi 185).1 h0 v h' 0 [(0, 16, 113)] [] h :=
  pat_w ok_sdX12_tillFromBegin rkX12_tillFromBegin h8 (foX12_tillFromBegin n) (fun v1 h1 q => by
    cases q
    exact ⟨hG.1, fun _ => hG.2⟩) (fun q9 h9 => by cases h9) ((eMX12_tillFromBegin n h).symm.trans H)
theorem sndX12_tillFromBegin {ρ : Type} {l : Launch} (n : Nat) : SndF (ρ := ρ) l false (mi 185).1 (wX12_tillFromBegin n) := by
    intro a h k r H ha ho hn hf
    have h8 := hf rfl
    obtain ⟨x0, rfl⟩ := len1 (show a.length = 1 from ha)
    have u0 := uq16 hn (ho (16, x0) (List.mem_cons_self))
    subst u0
    replace H : bnd (MX12_tillFromBegin n h) (fun r h2 => k r h2) = some r := H
    obtain ⟨v2, h2, H1, H2⟩ := bnd_some H
    exact ⟨v2, h2, H2, met_mk (mok_base okX12_tillFromBegin).1 (by decide +kernel) (Nat.le_of_ble_eq_true rfl) ho (sMX12_tillFromBegin h8 n  h H1 ⟨rfl, rfl⟩), fun q => by cases q⟩
/-! X12_tried -/
def sdX12_tried : SD := [(0, [(0, .iload_n 1, 1, [], 0), (1, .tableswitch 135 0 2 #[27, 62, 97], 27, [], 0)]),
  (28, [(28, .iload_n 2, 1, [], 0), (29, .i2l, 1, [], 0), (30, .lconst 0, 1, [], 0), (31, .ldc2_w 489, 3, [1, 1837], 2000), (34, .invokestatic 217, 3, [1, 0, 3, 81, 1561, 1, 1, 1], 0), (37, .ifCond .ne 5, 3, [], 0)]),
  (40, [(40, .iconst (-1), 1, [], 0), (41, .ireturn, 1, [], 0)]),
  (42, [(42, .aload_n 0, 1, [], 0), (43, .iload_n 2, 1, [], 0), (44, .aload_n 0, 1, [], 0), (45, .getfield 15, 3, [12, 1, 84, 1, 1323, 0], 2), (48, .bipush 6, 2, [], 0), (50, .iaload, 1, [], 0), (51, .aload_n 0, 1, [], 0), (52, .getfield 158, 3, [12, 45, 0, 0, 1367, 0], 0), (55, .invokevirtual 385, 3, [0, 1, 1, 115, 1677, 0, 0, 0, 16], 0), (58, .aload_n 0, 1, [], 0), (59, .invokevirtual 491, 3, [1, 2, 1, 185, 1838, 16], 0), (62, .ireturn, 1, [], 0)]),
  (63, [(63, .iload_n 2, 1, [], 0), (64, .i2l, 1, [], 0), (65, .lconst 1, 1, [], 0), (66, .ldc2_w 494, 3, [1, 1842], 50), (69, .invokestatic 217, 3, [1, 0, 3, 81, 1561, 1, 1, 1], 0), (72, .ifCond .ne 5, 3, [], 0)]),
  (75, [(75, .iconst (-1), 1, [], 0), (76, .ireturn, 1, [], 0)]),
  (77, [(77, .aload_n 0, 1, [], 0), (78, .aload_n 0, 1, [], 0), (79, .getfield 15, 3, [12, 1, 84, 1, 1323, 0], 2), (82, .bipush 7, 2, [], 0), (84, .iaload, 1, [], 0), (85, .iload_n 2, 1, [], 0), (86, .aload_n 0, 1, [], 0), (87, .getfield 158, 3, [12, 45, 0, 0, 1367, 0], 0), (90, .invokevirtual 385, 3, [0, 1, 1, 115, 1677, 0, 0, 0, 16], 0), (93, .aload_n 0, 1, [], 0), (94, .invokevirtual 491, 3, [1, 2, 1, 185, 1838, 16], 0), (97, .ireturn, 1, [], 0)]),
  (98, [(98, .iload_n 2, 1, [], 0), (99, .i2l, 1, [], 0), (100, .lconst 1, 1, [], 0), (101, .ldc2_w 468, 3, [1, 1769], 200), (104, .invokestatic 217, 3, [1, 0, 3, 81, 1561, 1, 1, 1], 0), (107, .ifCond .ne 5, 3, [], 0)]),
  (110, [(110, .iconst (-1), 1, [], 0), (111, .ireturn, 1, [], 0)]),
  (112, [(112, .aload_n 0, 1, [], 0), (113, .aload_n 0, 1, [], 0), (114, .getfield 15, 3, [12, 1, 84, 1, 1323, 0], 2), (117, .bipush 7, 2, [], 0), (119, .iaload, 1, [], 0), (120, .aload_n 0, 1, [], 0), (121, .getfield 15, 3, [12, 1, 84, 1, 1323, 0], 2), (124, .bipush 6, 2, [], 0), (126, .iaload, 1, [], 0), (127, .iload_n 2, 1, [], 0), (128, .invokevirtual 385, 3, [0, 1, 1, 115, 1677, 0, 0, 0, 16], 0), (131, .aload_n 0, 1, [], 0), (132, .invokevirtual 491, 3, [1, 2, 1, 185, 1838, 16], 0), (135, .ireturn, 1, [], 0)]),
  (136, [(136, .iconst (-1), 1, [], 0), (137, .ireturn, 1, [], 0)])]
def MX12_tried (n : Nat) (x1 x2 : Int) (h : Hp) : Option (Int × Hp) :=
(if x1 = 0 then
(bndp (MX12_in x2 0 2000) fun r5 =>
(if r5 ≠ 0 then
(grd (0 ≤ 6 ∧ 6 < alen 84)
(bndh (MX12_lays n x2 (h 115 6) (h 113 45) h) fun h5 =>
(bnd (MX12_tillFromBegin n h5) fun r6 h6 =>
(some (r6, h6)))))
else
(some ((-1), h))))
else
(if x1 = 1 then
(bndp (MX12_in x2 1 50) fun r3 =>
(if r3 ≠ 0 then
(grd (0 ≤ 7 ∧ 7 < alen 84)
(bndh (MX12_lays n (h 115 7) x2 (h 113 45) h) fun h3 =>
(bnd (MX12_tillFromBegin n h3) fun r4 h4 =>
(some (r4, h4)))))
else
(some ((-1), h))))
else
(if x1 = 2 then
(bndp (MX12_in x2 1 200) fun r1 =>
(if r1 ≠ 0 then
(grd (0 ≤ 7 ∧ 7 < alen 84)
(grd (0 ≤ 6 ∧ 6 < alen 84)
(bndh (MX12_lays n (h 115 7) (h 115 6) x2 h) fun h1 =>
(bnd (MX12_tillFromBegin n h1) fun r2 h2 =>
(some (r2, h2))))))
else
(some ((-1), h))))
else
(some ((-1), h)))))
def wX12_tried {ρ : Type} (n : Nat) : FN ρ := fun a h k => match a with
  | [_, x1, x2] => bnd (MX12_tried n x1 x2 h) (fun r h2 => k r h2)
  | _ => none
def fsX12_tried (n : Nat) (ρ : Type) : List (FN ρ) := [wX12_in, wX12_lays n, wX12_tillFromBegin n]
def KMX12_tried (_ : Nat) : CT (Int × Hp) := []
set_option maxRecDepth 100000 in
theorem eMX12_tried (n : Nat) (x1 : Int) (x2 : Int) (h : Hp) : MX12_tried n x1 x2 h =
  goAt false (kct (KMX12_tried n)) (fun v h => some ((v, h))) (fsX12_tried n _) sdX12_tried 1000 0 [(0, 16, 113), (1, 0, x1), (2, 0, x2)] [] h := rfl
theorem okX12_tried : mokb (mi 186) = true := by decide +kernel
theorem rkX12_tried : rkOK 1 (mi 186).1.2.2.2.2.2.2.1 (mi 186).1.2.2.2.1 := Or.inr (Or.inl ⟨rfl, rfl, rfl⟩)
def calX12_tried : List Nat := [81, 115, 185]
theorem foX12_tried {l : Launch} {ρ : Type} (n : Nat) : fsOK l false mi calX12_tried (fsX12_tried n ρ) := ⟨sndX12_in, ⟨(sndX12_lays n), ⟨(sndX12_tillFromBegin n), trivial⟩⟩⟩
theorem ok_sdX12_tried : sdb (mi 186).1.2.1 (insOK mi (mi 186).1.1.cls (mi 186).1.2.2.1 (mi 186).1.2.2.2.2.1 (mi 186).1.2.2.2.2.2.1 calX12_tried false 1) sdX12_tried = true := by decide +kernel
theorem sMX12_tried {l : Launch} {h0 h' : Hp} {v : Int} (h8 : nOf h0 = 148) (n : Nat) (x1 : Int) (x2 : Int) (h : Hp) {r : Int × Hp} (H : MX12_tried n x1 x2 h = some r) (hG : gWV v h' r) : PAt l false (mi 186).1 h0 v h' 0 [(0, 16, 113), (1, 0, x1), (2, 0, x2)] [] h :=
  pat_w ok_sdX12_tried rkX12_tried h8 (foX12_tried n) (fun v1 h1 q => by
    cases q
    exact ⟨hG.1, fun _ => hG.2⟩) (fun q9 h9 => by cases h9) ((eMX12_tried n x1 x2 h).symm.trans H)
theorem sndX12_tried {ρ : Type} {l : Launch} (n : Nat) : SndF (ρ := ρ) l false (mi 186).1 (wX12_tried n) := by
    intro a h k r H ha ho hn hf
    have h8 := hf rfl
    obtain ⟨x0, x1, x2, rfl⟩ := len3 (show a.length = 3 from ha)
    have u0 := uq16 hn (ho (16, x0) (List.mem_cons_self))
    subst u0
    replace H : bnd (MX12_tried n x1 x2 h) (fun r h2 => k r h2) = some r := H
    obtain ⟨v2, h2, H1, H2⟩ := bnd_some H
    exact ⟨v2, h2, H2, met_mk (mok_base okX12_tried).1 (by decide +kernel) (Nat.le_of_ble_eq_true rfl) ho (sMX12_tried h8 n x1 x2 h H1 ⟨rfl, rfl⟩), fun q => by cases q⟩
/-! X11_slowest -/
def sdX11_slowest : SD := [(0, [(0, .iload_n 1, 1, [], 0), (1, .ifCond .lt 10, 3, [], 0)]),
  (4, [(4, .iload_n 1, 1, [], 0), (5, .sipush 3000, 3, [], 0), (8, .if_icmp .le 5, 3, [], 0)]),
  (11, [(11, .iconst (-1), 1, [], 0), (12, .ireturn, 1, [], 0)]),
  (13, [(13, .aload_n 0, 1, [], 0), (14, .getfield 51, 3, [11, 6, 5, 1, 696, 0], 57), (17, .aload_n 0, 1, [], 0), (18, .getfield 10, 3, [11, 2, 14, 0, 692, 0], 0), (21, .aload_n 0, 1, [], 0), (22, .getfield 10, 3, [11, 2, 14, 0, 692, 0], 0), (25, .getfield 115, 3, [10, 10, 0, 0, 198, 0], 0), (28, .aload_n 0, 1, [], 0), (29, .getfield 10, 3, [11, 2, 14, 0, 692, 0], 0), (32, .getfield 118, 3, [10, 9, 0, 0, 194, 0], 0), (35, .invokevirtual 121, 3, [0, 0, 1, 55, 567, 0, 0, 14, 5], 0), (38, .bipush 10, 2, [], 0), (40, .istore_n 2, 1, [], 0)]),
  (41, [(41, .iload_n 2, 1, [], 0), (42, .sipush 200, 3, [], 0), (45, .if_icmp .gt 66, 3, [], 0)]),
  (48, [(48, .aload_n 0, 1, [], 0), (49, .getfield 51, 3, [11, 6, 5, 1, 696, 0], 57), (52, .iload_n 2, 1, [], 0), (53, .invokevirtual 125, 3, [1, 1, 1, 59, 601, 0, 5], 0), (56, .istore_n 3, 1, [], 0), (57, .iload_n 2, 1, [], 0), (58, .bipush 10, 2, [], 0), (60, .if_icmp .eq 7, 3, [], 0)]),
  (63, [(63, .iload_n 3, 1, [], 0), (64, .ifCond .eq 41, 3, [], 0)]),
  (67, [(67, .aload_n 0, 1, [], 0), (68, .getfield 61, 3, [11, 8, 12, 1, 698, 0], 65), (71, .aload_n 0, 1, [], 0), (72, .getfield 57, 3, [11, 7, 12, 1, 697, 0], 64), (75, .invokevirtual 225, 3, [0, 2, 1, 124, 1120, 12, 12], 0), (78, .aload_n 0, 1, [], 0), (79, .getfield 61, 3, [11, 8, 12, 1, 698, 0], 65), (82, .iconst 0, 1, [], 0), (83, .putfield 206, 3, [8, 5, 0, 0, 1, 497], 0), (86, .aload_n 0, 1, [], 0), (87, .getfield 51, 3, [11, 6, 5, 1, 696, 0], 57), (90, .aload_n 0, 1, [], 0), (91, .getfield 61, 3, [11, 8, 12, 1, 698, 0], 65), (94, .iload_n 1, 1, [], 0), (95, .invokevirtual 241, 3, [1, 3, 1, 178, 1131, 0, 12, 5], 0), (98, .bipush (-2), 2, [], 0), (100, .if_icmp .eq 5, 3, [], 0)]),
  (103, [(103, .iload_n 2, 1, [], 0), (104, .ireturn, 1, [], 0)]),
  (105, [(105, .iinc 2 10, 3, [], 0), (108, .goto (-67), 3, [], 0)]),
  (111, [(111, .bipush (-2), 2, [], 0), (113, .ireturn, 1, [], 0)])]
def JX11_slowest_67 (n : Nat) (bk : Int → Int → Hp → Option (Int × Hp)) (x1 x2 : Int) (h : Hp) : Option (Int × Hp) :=
(bndh (MX8_become 65 64 h) fun h1 =>
(ltt (up h1 65 5 0) fun h2 =>
(bnd (MX1_ticksToEnd n 57 65 x1 h2) fun r1 h3 =>
(if r1 = (-2) then
(ltt (w32 (x2 + 10)) fun y1 =>
(bk x1 y1 h3))
else
(some (x2, h3))))))
def BX11_slowest_41 (n : Nat) : Nat → Int → Int → Hp → Option (Int × Hp)
  | 0, _, _, _ => none
  | f + 1, x1, x2, h =>
    (if 200 < x2 then
    (some ((-2), h))
    else
    (bnd (MX1_grant n 57 x2 h) fun r1 h1 =>
    (ltt r1 fun y1 =>
    (if x2 = 10 then
    (JX11_slowest_67 n (BX11_slowest_41 n f) x1 x2 h1)
    else
    (if y1 = 0 then
    (ltt (w32 (x2 + 10)) fun y2 =>
    (BX11_slowest_41 n f x1 y2 h1))
    else
    (JX11_slowest_67 n (BX11_slowest_41 n f) x1 x2 h1))))))
def LX11_slowest_41 (n : Nat) (x1 x2 : Int) (h : Hp) : Option (Int × Hp) :=
(BX11_slowest_41 n n x1 x2 h)
def MX11_slowest (n : Nat) (x1 : Int) (h : Hp) : Option (Int × Hp) :=
(if x1 < 0 then
(some ((-1), h))
else
(if x1 ≤ 3000 then
(bndh (MX1_settle n 57 (h 0 2) (h (h 0 2) 10) (h (h 0 2) 9) h) fun h1 =>
(ltt 10 fun y1 =>
(LX11_slowest_41 n x1 y1 h1)))
else
(some ((-1), h))))
def wX11_slowest {ρ : Type} (n : Nat) : FN ρ := fun a h k => match a with
  | [_, x1] => bnd (MX11_slowest n x1 h) (fun r h2 => k r h2)
  | _ => none
def fsX11_slowest (n : Nat) (ρ : Type) : List (FN ρ) := [wX1_settle n, wX1_grant n, wX8_become, wX1_ticksToEnd n]
def KJX11_slowest_67 (_ : Nat) (bk : Int → Int → Hp → Option (Int × Hp)) : CT (Int × Hp) := [(41, [(0, 15, (some 0)), (1, 0, none), (2, 0, none)], [], fun a c h => match a, c with
    | [x1, x2], [] => bk x1 x2 h
    | _, _ => none)]
set_option maxRecDepth 100000 in
theorem eJX11_slowest_67 (n : Nat) (bk : Int → Int → Hp → Option (Int × Hp)) (x1 : Int) (x2 : Int) (h : Hp) : JX11_slowest_67 n bk x1 x2 h =
  goAt false (kct (KJX11_slowest_67 n bk)) (fun v h => some ((v, h))) (fsX11_slowest n _) sdX11_slowest 1000 67 [(0, 15, 0), (1, 0, x1), (2, 0, x2)] [] h := rfl
def KBX11_slowest_41 (n : Nat) (bk : Int → Int → Hp → Option (Int × Hp)) : CT (Int × Hp) := [(41, [(0, 15, (some 0)), (1, 0, none), (2, 0, none)], [], fun a c h => match a, c with
    | [x1, x2], [] => bk x1 x2 h
    | _, _ => none),
  (67, [(0, 15, (some 0)), (1, 0, none), (2, 0, none)], [], fun a c h => match a, c with
    | [x1, x2], [] => JX11_slowest_67 n bk x1 x2 h
    | _, _ => none)]
set_option maxRecDepth 100000 in
theorem eBX11_slowest_41 (n f : Nat) (x1 : Int) (x2 : Int) (h : Hp) : BX11_slowest_41 n (f + 1) x1 x2 h =
  goAt false (kct (KBX11_slowest_41 n (BX11_slowest_41 n f))) (fun v h => some ((v, h))) (fsX11_slowest n _) sdX11_slowest 1000 41 [(0, 15, 0), (1, 0, x1), (2, 0, x2)] [] h := rfl
def KMX11_slowest (n : Nat) : CT (Int × Hp) := [(41, [(0, 15, (some 0)), (1, 0, none), (2, 0, none)], [], fun a c h => match a, c with
    | [x1, x2], [] => LX11_slowest_41 n x1 x2 h
    | _, _ => none)]
set_option maxRecDepth 100000 in
theorem eMX11_slowest (n : Nat) (x1 : Int) (h : Hp) : MX11_slowest n x1 h =
  goAt false (kct (KMX11_slowest n)) (fun v h => some ((v, h))) (fsX11_slowest n _) sdX11_slowest 1000 0 [(0, 15, 0), (1, 0, x1)] [] h := rfl
theorem okX11_slowest : mokb (mi 187) = true := by decide +kernel
theorem rkX11_slowest : rkOK 1 (mi 187).1.2.2.2.2.2.2.1 (mi 187).1.2.2.2.1 := Or.inr (Or.inl ⟨rfl, rfl, rfl⟩)
def calX11_slowest : List Nat := [55, 59, 124, 178]
theorem foX11_slowest {l : Launch} {ρ : Type} (n : Nat) : fsOK l false mi calX11_slowest (fsX11_slowest n ρ) := ⟨(sndX1_settle n), ⟨(sndX1_grant n), ⟨sndX8_become, ⟨(sndX1_ticksToEnd n), trivial⟩⟩⟩⟩
theorem ok_sdX11_slowest : sdb (mi 187).1.2.1 (insOK mi (mi 187).1.1.cls (mi 187).1.2.2.1 (mi 187).1.2.2.2.2.1 (mi 187).1.2.2.2.2.2.1 calX11_slowest false 1) sdX11_slowest = true := by decide +kernel
theorem sJX11_slowest_67 {l : Launch} {h0 h' : Hp} {v : Int} (h8 : nOf h0 = 148) (n : Nat) (bk : Int → Int → Hp → Option (Int × Hp)) (hbk : ∀ (x1 : Int) (x2 : Int) (h : Hp) (r : Int × Hp), bk x1 x2 h = some r → gWV v h' r → PAt l false (mi 187).1 h0 v h' 41 [(0, 15, 0), (1, 0, x1), (2, 0, x2)] [] h) (x1 : Int) (x2 : Int) (h : Hp) {r : Int × Hp} (H : JX11_slowest_67 n bk x1 x2 h = some r) (hG : gWV v h' r) : PAt l false (mi 187).1 h0 v h' 67 [(0, 15, 0), (1, 0, x1), (2, 0, x2)] [] h :=
  pat_w ok_sdX11_slowest rkX11_slowest h8 (foX11_slowest n) (fun v1 h1 q => by
    cases q
    exact ⟨hG.1, fun _ => hG.2⟩) (List.forall_mem_cons.mpr ⟨(fun a c h H => by
      dsimp only at H
      split at H
      · exact hbk _ _ _ _ H hG
      · cases H), (fun q9 h9 => by cases h9)⟩) ((eJX11_slowest_67 n bk x1 x2 h).symm.trans H)
theorem sBX11_slowest_41 {l : Launch} {h0 h' : Hp} {v : Int} (h8 : nOf h0 = 148) (n : Nat) : ∀ (f : Nat) (x1 : Int) (x2 : Int) (h : Hp) {r : Int × Hp}, BX11_slowest_41 n f x1 x2 h = some r → gWV v h' r → PAt l false (mi 187).1 h0 v h' 41 [(0, 15, 0), (1, 0, x1), (2, 0, x2)] [] h := by
  intro f
  induction f with
  | zero =>
    intro x1 x2 h r H _
    have H2 : (none : Option (Int × Hp)) = some r := H
    cases H2
  | succ f ih =>
    intro x1 x2 h r H hG
    have ihk : ∀ (x1 : Int) (x2 : Int) (h : Hp) (r : Int × Hp), BX11_slowest_41 n f x1 x2 h = some r → gWV v h' r → PAt l false (mi 187).1 h0 v h' 41 [(0, 15, 0), (1, 0, x1), (2, 0, x2)] [] h := fun x1 x2 h r9 a9 b9 => ih x1 x2 h a9 b9
    exact pat_w ok_sdX11_slowest rkX11_slowest h8 (foX11_slowest n) (fun v1 h1 q => by
    cases q
    exact ⟨hG.1, fun _ => hG.2⟩) (List.forall_mem_cons.mpr ⟨(fun a c h H => by
      dsimp only at H
      split at H
      · exact ih _ _ _ H hG
      · cases H), (List.forall_mem_cons.mpr ⟨(fun a c h H => by
      dsimp only at H
      split at H
      · exact sJX11_slowest_67 h8 n (BX11_slowest_41 n f) ihk _ _ _ H hG
      · cases H), (fun q9 h9 => by cases h9)⟩)⟩) ((eBX11_slowest_41 n f x1 x2 h).symm.trans H)
theorem sLX11_slowest_41 {l : Launch} {h0 h' : Hp} {v : Int} (h8 : nOf h0 = 148) (n : Nat) (x1 : Int) (x2 : Int) (h : Hp) {r : Int × Hp} (H : LX11_slowest_41 n x1 x2 h = some r) (hG : gWV v h' r) : PAt l false (mi 187).1 h0 v h' 41 [(0, 15, 0), (1, 0, x1), (2, 0, x2)] [] h :=
  sBX11_slowest_41 h8 n n x1 x2 h H hG
theorem sMX11_slowest {l : Launch} {h0 h' : Hp} {v : Int} (h8 : nOf h0 = 148) (n : Nat) (x1 : Int) (h : Hp) {r : Int × Hp} (H : MX11_slowest n x1 h = some r) (hG : gWV v h' r) : PAt l false (mi 187).1 h0 v h' 0 [(0, 15, 0), (1, 0, x1)] [] h :=
  pat_w ok_sdX11_slowest rkX11_slowest h8 (foX11_slowest n) (fun v1 h1 q => by
    cases q
    exact ⟨hG.1, fun _ => hG.2⟩) (List.forall_mem_cons.mpr ⟨(fun a c h H => by
      dsimp only at H
      split at H
      · exact sLX11_slowest_41 h8 n _ _ _ H hG
      · cases H), (fun q9 h9 => by cases h9)⟩) ((eMX11_slowest n x1 h).symm.trans H)
theorem sndX11_slowest {ρ : Type} {l : Launch} (n : Nat) : SndF (ρ := ρ) l false (mi 187).1 (wX11_slowest n) := by
    intro a h k r H ha ho hn hf
    have h8 := hf rfl
    obtain ⟨x0, x1, rfl⟩ := len2 (show a.length = 2 from ha)
    have u0 := uq15 hn (ho (15, x0) (List.mem_cons_self))
    subst u0
    replace H : bnd (MX11_slowest n x1 h) (fun r h2 => k r h2) = some r := H
    obtain ⟨v2, h2, H1, H2⟩ := bnd_some H
    exact ⟨v2, h2, H2, met_mk (mok_base okX11_slowest).1 (by decide +kernel) (Nat.le_of_ble_eq_true rfl) ho (sMX11_slowest h8 n x1 h H1 ⟨rfl, rfl⟩), fun q => by cases q⟩
/-! X12_slowest -/
def sdX12_slowest : SD := [(0, [(0, .iload_n 1, 1, [], 0), (1, .i2l, 1, [], 0), (2, .lconst 0, 1, [], 0), (3, .ldc2_w 496, 3, [1, 1847], 3000), (6, .invokestatic 217, 3, [1, 0, 3, 81, 1561, 1, 1, 1], 0), (9, .ifCond .ne 5, 3, [], 0)]),
  (12, [(12, .iconst (-1), 1, [], 0), (13, .ireturn, 1, [], 0)]),
  (14, [(14, .bipush 10, 2, [], 0), (16, .istore_n 2, 1, [], 0)]),
  (17, [(17, .iload_n 2, 1, [], 0), (18, .sipush 200, 3, [], 0), (21, .if_icmp .gt 47, 3, [], 0)]),
  (24, [(24, .aload_n 0, 1, [], 0), (25, .aload_n 0, 1, [], 0), (26, .getfield 15, 3, [12, 1, 84, 1, 1323, 0], 2), (29, .bipush 7, 2, [], 0), (31, .iaload, 1, [], 0), (32, .aload_n 0, 1, [], 0), (33, .getfield 15, 3, [12, 1, 84, 1, 1323, 0], 2), (36, .bipush 6, 2, [], 0), (38, .iaload, 1, [], 0), (39, .iload_n 2, 1, [], 0), (40, .invokevirtual 385, 3, [0, 1, 1, 115, 1677, 0, 0, 0, 16], 0), (43, .aload_n 0, 1, [], 0), (44, .invokevirtual 462, 3, [0, 2, 1, 137, 1703, 16], 0), (47, .aload_n 0, 1, [], 0), (48, .iconst 0, 1, [], 0), (49, .putfield 415, 3, [12, 52, 0, 0, 1, 1374], 0), (52, .aload_n 0, 1, [], 0), (53, .iload_n 1, 1, [], 0), (54, .invokevirtual 440, 3, [1, 3, 1, 180, 1829, 0, 16], 0), (57, .ifCond .lt 5, 3, [], 0)]),
  (60, [(60, .iload_n 2, 1, [], 0), (61, .ireturn, 1, [], 0)]),
  (62, [(62, .iinc 2 10, 3, [], 0), (65, .goto (-48), 3, [], 0)]),
  (68, [(68, .bipush (-2), 2, [], 0), (70, .ireturn, 1, [], 0)])]
def BX12_slowest_17 (n : Nat) : Nat → Int → Int → Hp → Option (Int × Hp)
  | 0, _, _, _ => none
  | f + 1, x1, x2, h =>
    (if 200 < x2 then
    (some ((-2), h))
    else
    (grd (0 ≤ 7 ∧ 7 < alen 84)
    (grd (0 ≤ 6 ∧ 6 < alen 84)
    (bndh (MX12_lays n (h 115 7) (h 115 6) x2 h) fun h1 =>
    (bndh (MX12_begins h1) fun h2 =>
    (ltt (up h2 113 52 0) fun h3 =>
    (bnd (MX12_tillDone_ n x1 h3) fun r1 h4 =>
    (if r1 < 0 then
    (ltt (w32 (x2 + 10)) fun y1 =>
    (BX12_slowest_17 n f x1 y1 h4))
    else
    (some (x2, h4))))))))))
def LX12_slowest_17 (n : Nat) (x1 x2 : Int) (h : Hp) : Option (Int × Hp) :=
(BX12_slowest_17 n n x1 x2 h)
def MX12_slowest (n : Nat) (x1 : Int) (h : Hp) : Option (Int × Hp) :=
(bndp (MX12_in x1 0 3000) fun r1 =>
(if r1 ≠ 0 then
(ltt 10 fun y1 =>
(LX12_slowest_17 n x1 y1 h))
else
(some ((-1), h))))
def wX12_slowest {ρ : Type} (n : Nat) : FN ρ := fun a h k => match a with
  | [_, x1] => bnd (MX12_slowest n x1 h) (fun r h2 => k r h2)
  | _ => none
def fsX12_slowest (n : Nat) (ρ : Type) : List (FN ρ) := [wX12_in, wX12_lays n, wX12_begins, wX12_tillDone_ n]
def KBX12_slowest_17 (_ : Nat) (bk : Int → Int → Hp → Option (Int × Hp)) : CT (Int × Hp) := [(17, [(0, 16, (some 113)), (1, 0, none), (2, 0, none)], [], fun a c h => match a, c with
    | [x1, x2], [] => bk x1 x2 h
    | _, _ => none)]
set_option maxRecDepth 100000 in
theorem eBX12_slowest_17 (n f : Nat) (x1 : Int) (x2 : Int) (h : Hp) : BX12_slowest_17 n (f + 1) x1 x2 h =
  goAt false (kct (KBX12_slowest_17 n (BX12_slowest_17 n f))) (fun v h => some ((v, h))) (fsX12_slowest n _) sdX12_slowest 1000 17 [(0, 16, 113), (1, 0, x1), (2, 0, x2)] [] h := rfl
def KMX12_slowest (n : Nat) : CT (Int × Hp) := [(17, [(0, 16, (some 113)), (1, 0, none), (2, 0, none)], [], fun a c h => match a, c with
    | [x1, x2], [] => LX12_slowest_17 n x1 x2 h
    | _, _ => none)]
set_option maxRecDepth 100000 in
theorem eMX12_slowest (n : Nat) (x1 : Int) (h : Hp) : MX12_slowest n x1 h =
  goAt false (kct (KMX12_slowest n)) (fun v h => some ((v, h))) (fsX12_slowest n _) sdX12_slowest 1000 0 [(0, 16, 113), (1, 0, x1)] [] h := rfl
theorem okX12_slowest : mokb (mi 188) = true := by decide +kernel
theorem rkX12_slowest : rkOK 1 (mi 188).1.2.2.2.2.2.2.1 (mi 188).1.2.2.2.1 := Or.inr (Or.inl ⟨rfl, rfl, rfl⟩)
def calX12_slowest : List Nat := [81, 115, 137, 180]
theorem foX12_slowest {l : Launch} {ρ : Type} (n : Nat) : fsOK l false mi calX12_slowest (fsX12_slowest n ρ) := ⟨sndX12_in, ⟨(sndX12_lays n), ⟨sndX12_begins, ⟨(sndX12_tillDone_ n), trivial⟩⟩⟩⟩
theorem ok_sdX12_slowest : sdb (mi 188).1.2.1 (insOK mi (mi 188).1.1.cls (mi 188).1.2.2.1 (mi 188).1.2.2.2.2.1 (mi 188).1.2.2.2.2.2.1 calX12_slowest false 1) sdX12_slowest = true := by decide +kernel
theorem sBX12_slowest_17 {l : Launch} {h0 h' : Hp} {v : Int} (h8 : nOf h0 = 148) (n : Nat) : ∀ (f : Nat) (x1 : Int) (x2 : Int) (h : Hp) {r : Int × Hp}, BX12_slowest_17 n f x1 x2 h = some r → gWV v h' r → PAt l false (mi 188).1 h0 v h' 17 [(0, 16, 113), (1, 0, x1), (2, 0, x2)] [] h := by
  intro f
  induction f with
  | zero =>
    intro x1 x2 h r H _
    have H2 : (none : Option (Int × Hp)) = some r := H
    cases H2
  | succ f ih =>
    intro x1 x2 h r H hG
    exact pat_w ok_sdX12_slowest rkX12_slowest h8 (foX12_slowest n) (fun v1 h1 q => by
    cases q
    exact ⟨hG.1, fun _ => hG.2⟩) (List.forall_mem_cons.mpr ⟨(fun a c h H => by
      dsimp only at H
      split at H
      · exact ih _ _ _ H hG
      · cases H), (fun q9 h9 => by cases h9)⟩) ((eBX12_slowest_17 n f x1 x2 h).symm.trans H)
theorem sLX12_slowest_17 {l : Launch} {h0 h' : Hp} {v : Int} (h8 : nOf h0 = 148) (n : Nat) (x1 : Int) (x2 : Int) (h : Hp) {r : Int × Hp} (H : LX12_slowest_17 n x1 x2 h = some r) (hG : gWV v h' r) : PAt l false (mi 188).1 h0 v h' 17 [(0, 16, 113), (1, 0, x1), (2, 0, x2)] [] h :=
  sBX12_slowest_17 h8 n n x1 x2 h H hG
theorem sMX12_slowest {l : Launch} {h0 h' : Hp} {v : Int} (h8 : nOf h0 = 148) (n : Nat) (x1 : Int) (h : Hp) {r : Int × Hp} (H : MX12_slowest n x1 h = some r) (hG : gWV v h' r) : PAt l false (mi 188).1 h0 v h' 0 [(0, 16, 113), (1, 0, x1)] [] h :=
  pat_w ok_sdX12_slowest rkX12_slowest h8 (foX12_slowest n) (fun v1 h1 q => by
    cases q
    exact ⟨hG.1, fun _ => hG.2⟩) (List.forall_mem_cons.mpr ⟨(fun a c h H => by
      dsimp only at H
      split at H
      · exact sLX12_slowest_17 h8 n _ _ _ H hG
      · cases H), (fun q9 h9 => by cases h9)⟩) ((eMX12_slowest n x1 h).symm.trans H)
theorem sndX12_slowest {ρ : Type} {l : Launch} (n : Nat) : SndF (ρ := ρ) l false (mi 188).1 (wX12_slowest n) := by
    intro a h k r H ha ho hn hf
    have h8 := hf rfl
    obtain ⟨x0, x1, rfl⟩ := len2 (show a.length = 2 from ha)
    have u0 := uq16 hn (ho (16, x0) (List.mem_cons_self))
    subst u0
    replace H : bnd (MX12_slowest n x1 h) (fun r h2 => k r h2) = some r := H
    obtain ⟨v2, h2, H1, H2⟩ := bnd_some H
    exact ⟨v2, h2, H2, met_mk (mok_base okX12_slowest).1 (by decide +kernel) (Nat.le_of_ble_eq_true rfl) ho (sMX12_slowest h8 n x1 h H1 ⟨rfl, rfl⟩), fun q => by cases q⟩
/-! X1_brakeToRest -/
def sdX1_brakeToRest : SD := [(0, [(0, .iconst 0, 1, [], 0), (1, .istore_n 2, 1, [], 0)]),
  (2, [(2, .iload_n 2, 1, [], 0), (3, .sipush 1000, 3, [], 0), (6, .if_icmp .ge 36, 3, [], 0)]),
  (9, [(9, .aload_n 1, 1, [], 0), (10, .invokevirtual 39, 3, [1, 0, 1, 122, 1011, 12], 0), (13, .ifCond .eq 5, 3, [], 0)]),
  (16, [(16, .iload_n 2, 1, [], 0), (17, .ireturn, 1, [], 0)]),
  (18, [(18, .aload_n 0, 1, [], 0), (19, .aload_n 1, 1, [], 0), (20, .aload_n 0, 1, [], 0), (21, .aload_n 1, 1, [], 0), (22, .getfield 63, 3, [8, 1, 0, 0, 485, 0], 0), (25, .aload_n 1, 1, [], 0), (26, .getfield 84, 3, [8, 2, 0, 0, 488, 0], 0), (29, .invokevirtual 87, 3, [1, 1, 1, 128, 1049, 0, 0, 5], 0), (32, .invokevirtual 76, 3, [1, 2, 1, 133, 1058, 0, 12, 5], 0), (35, .pop, 1, [], 0), (36, .iinc 2 1, 3, [], 0), (39, .goto (-37), 3, [], 0)]),
  (42, [(42, .sipush 1000, 3, [], 0), (45, .ireturn, 1, [], 0)])]
def BX1_brakeToRest_2 (n : Nat) : Nat → Int → Int → Int → Hp → Option (Int × Hp)
  | 0, _, _, _, _ => none
  | f + 1, x0, x1, x2, h =>
    (if 1000 ≤ x2 then
    (some (1000, h))
    else
    (bndp (MX8_rests x1 h) fun r1 =>
    (if r1 = 0 then
    (bndp (MX1_brake x0 (h x1 1) (h x1 2) h) fun r2 =>
    (bnd (MX1_go n x0 x1 r2 h) fun r3 h1 =>
    (ltt (w32 (x2 + 1)) fun y1 =>
    (BX1_brakeToRest_2 n f x0 x1 y1 h1))))
    else
    (some (x2, h)))))
def LX1_brakeToRest_2 (n : Nat) (x0 x1 x2 : Int) (h : Hp) : Option (Int × Hp) :=
(BX1_brakeToRest_2 n n x0 x1 x2 h)
def MX1_brakeToRest (n : Nat) (x0 x1 : Int) (h : Hp) : Option (Int × Hp) :=
(ltt 0 fun y1 =>
(LX1_brakeToRest_2 n x0 x1 y1 h))
def wX1_brakeToRest {ρ : Type} (n : Nat) : FN ρ := fun a h k => match a with
  | [x0, x1] => bnd (MX1_brakeToRest n x0 x1 h) (fun r h2 => k r h2)
  | _ => none
def fsX1_brakeToRest (n : Nat) (ρ : Type) : List (FN ρ) := [wX8_rests, wX1_brake, wX1_go n]
def KBX1_brakeToRest_2 (_ : Nat) (bk : Int → Int → Int → Hp → Option (Int × Hp)) : CT (Int × Hp) := [(2, [(0, 5, none), (1, 12, none), (2, 0, none)], [], fun a c h => match a, c with
    | [x0, x1, x2], [] => bk x0 x1 x2 h
    | _, _ => none)]
set_option maxRecDepth 100000 in
theorem eBX1_brakeToRest_2 (n f : Nat) (x0 : Int) (x1 : Int) (x2 : Int) (h : Hp) : BX1_brakeToRest_2 n (f + 1) x0 x1 x2 h =
  goAt false (kct (KBX1_brakeToRest_2 n (BX1_brakeToRest_2 n f))) (fun v h => some ((v, h))) (fsX1_brakeToRest n _) sdX1_brakeToRest 1000 2 [(0, 5, x0), (1, 12, x1), (2, 0, x2)] [] h := rfl
def KMX1_brakeToRest (n : Nat) : CT (Int × Hp) := [(2, [(0, 5, none), (1, 12, none), (2, 0, none)], [], fun a c h => match a, c with
    | [x0, x1, x2], [] => LX1_brakeToRest_2 n x0 x1 x2 h
    | _, _ => none)]
set_option maxRecDepth 100000 in
theorem eMX1_brakeToRest (n : Nat) (x0 : Int) (x1 : Int) (h : Hp) : MX1_brakeToRest n x0 x1 h =
  goAt false (kct (KMX1_brakeToRest n)) (fun v h => some ((v, h))) (fsX1_brakeToRest n _) sdX1_brakeToRest 1000 0 [(0, 5, x0), (1, 12, x1)] [] h := rfl
theorem okX1_brakeToRest : mokb (mi 189) = true := by decide +kernel
theorem rkX1_brakeToRest : rkOK 1 (mi 189).1.2.2.2.2.2.2.1 (mi 189).1.2.2.2.1 := Or.inr (Or.inl ⟨rfl, rfl, rfl⟩)
def calX1_brakeToRest : List Nat := [122, 128, 133]
theorem foX1_brakeToRest {l : Launch} {ρ : Type} (n : Nat) : fsOK l false mi calX1_brakeToRest (fsX1_brakeToRest n ρ) := ⟨sndX8_rests, ⟨sndX1_brake, ⟨(sndX1_go n), trivial⟩⟩⟩
theorem ok_sdX1_brakeToRest : sdb (mi 189).1.2.1 (insOK mi (mi 189).1.1.cls (mi 189).1.2.2.1 (mi 189).1.2.2.2.2.1 (mi 189).1.2.2.2.2.2.1 calX1_brakeToRest false 1) sdX1_brakeToRest = true := by decide +kernel
theorem sBX1_brakeToRest_2 {l : Launch} {h0 h' : Hp} {v : Int} (h8 : nOf h0 = 148) (n : Nat) : ∀ (f : Nat) (x0 : Int) (x1 : Int) (x2 : Int) (h : Hp) {r : Int × Hp}, BX1_brakeToRest_2 n f x0 x1 x2 h = some r → gWV v h' r → PAt l false (mi 189).1 h0 v h' 2 [(0, 5, x0), (1, 12, x1), (2, 0, x2)] [] h := by
  intro f
  induction f with
  | zero =>
    intro x0 x1 x2 h r H _
    have H2 : (none : Option (Int × Hp)) = some r := H
    cases H2
  | succ f ih =>
    intro x0 x1 x2 h r H hG
    exact pat_w ok_sdX1_brakeToRest rkX1_brakeToRest h8 (foX1_brakeToRest n) (fun v1 h1 q => by
    cases q
    exact ⟨hG.1, fun _ => hG.2⟩) (List.forall_mem_cons.mpr ⟨(fun a c h H => by
      dsimp only at H
      split at H
      · exact ih _ _ _ _ H hG
      · cases H), (fun q9 h9 => by cases h9)⟩) ((eBX1_brakeToRest_2 n f x0 x1 x2 h).symm.trans H)
theorem sLX1_brakeToRest_2 {l : Launch} {h0 h' : Hp} {v : Int} (h8 : nOf h0 = 148) (n : Nat) (x0 : Int) (x1 : Int) (x2 : Int) (h : Hp) {r : Int × Hp} (H : LX1_brakeToRest_2 n x0 x1 x2 h = some r) (hG : gWV v h' r) : PAt l false (mi 189).1 h0 v h' 2 [(0, 5, x0), (1, 12, x1), (2, 0, x2)] [] h :=
  sBX1_brakeToRest_2 h8 n n x0 x1 x2 h H hG
theorem sMX1_brakeToRest {l : Launch} {h0 h' : Hp} {v : Int} (h8 : nOf h0 = 148) (n : Nat) (x0 : Int) (x1 : Int) (h : Hp) {r : Int × Hp} (H : MX1_brakeToRest n x0 x1 h = some r) (hG : gWV v h' r) : PAt l false (mi 189).1 h0 v h' 0 [(0, 5, x0), (1, 12, x1)] [] h :=
  pat_w ok_sdX1_brakeToRest rkX1_brakeToRest h8 (foX1_brakeToRest n) (fun v1 h1 q => by
    cases q
    exact ⟨hG.1, fun _ => hG.2⟩) (List.forall_mem_cons.mpr ⟨(fun a c h H => by
      dsimp only at H
      split at H
      · exact sLX1_brakeToRest_2 h8 n _ _ _ _ H hG
      · cases H), (fun q9 h9 => by cases h9)⟩) ((eMX1_brakeToRest n x0 x1 h).symm.trans H)
theorem sndX1_brakeToRest {ρ : Type} {l : Launch} (n : Nat) : SndF (ρ := ρ) l false (mi 189).1 (wX1_brakeToRest n) := by
    intro a h k r H ha ho hn hf
    have h8 := hf rfl
    obtain ⟨x0, x1, rfl⟩ := len2 (show a.length = 2 from ha)
    replace H : bnd (MX1_brakeToRest n x0 x1 h) (fun r h2 => k r h2) = some r := H
    obtain ⟨v2, h2, H1, H2⟩ := bnd_some H
    exact ⟨v2, h2, H2, met_mk (mok_base okX1_brakeToRest).1 (by decide +kernel) (Nat.le_of_ble_eq_true rfl) ho (sMX1_brakeToRest h8 n x0 x1 h H1 ⟨rfl, rfl⟩), fun q => by cases q⟩
/-! X11_brakes -/
def sdX11_brakes : SD := [(0, [(0, .iload_n 1, 1, [], 0), (1, .ifCond .eq 10, 3, [], 0)]),
  (4, [(4, .iload_n 1, 1, [], 0), (5, .iconst 1, 1, [], 0), (6, .if_icmp .eq 5, 3, [], 0)]),
  (9, [(9, .iconst (-1), 1, [], 0), (10, .ireturn, 1, [], 0)]),
  (11, [(11, .aload_n 0, 1, [], 0), (12, .getfield 61, 3, [11, 8, 12, 1, 698, 0], 65), (15, .aload_n 0, 1, [], 0), (16, .getfield 57, 3, [11, 7, 12, 1, 697, 0], 64), (19, .invokevirtual 225, 3, [0, 0, 1, 124, 1120, 12, 12], 0), (22, .aload_n 0, 1, [], 0), (23, .getfield 47, 3, [11, 5, 5, 1, 695, 0], 50), (26, .aload_n 0, 1, [], 0), (27, .getfield 61, 3, [11, 8, 12, 1, 698, 0], 65), (30, .invokevirtual 249, 3, [1, 1, 1, 189, 1150, 12, 5], 0), (33, .istore_n 2, 1, [], 0), (34, .iload_n 1, 1, [], 0), (35, .ifCond .ne 7, 3, [], 0)]),
  (38, [(38, .iload_n 2, 1, [], 0), (39, .goto 18, 3, [], 0)]),
  (42, [(42, .aload_n 0, 1, [], 0), (43, .getfield 61, 3, [11, 8, 12, 1, 698, 0], 65), (46, .getfield 200, 3, [8, 0, 0, 0, 483, 0], 0), (49, .aload_n 0, 1, [], 0), (50, .getfield 57, 3, [11, 7, 12, 1, 697, 0], 64), (53, .getfield 200, 3, [8, 0, 0, 0, 483, 0], 0), (56, .isub, 1, [], 0)]),
  (57, [(57, .ireturn, 1, [], 0)])]
def JX11_brakes_11 (n : Nat) (x1 : Int) (h : Hp) : Option (Int × Hp) :=
(bndh (MX8_become 65 64 h) fun h1 =>
(bnd (MX1_brakeToRest n 50 65 h1) fun r1 h2 =>
(ltt r1 fun y1 =>
(if x1 ≠ 0 then
(some ((w32 ((h2 65 0) - (h2 64 0))), h2))
else
(some (y1, h2))))))
def MX11_brakes (n : Nat) (x1 : Int) (h : Hp) : Option (Int × Hp) :=
(if x1 = 0 then
(JX11_brakes_11 n x1 h)
else
(if x1 = 1 then
(JX11_brakes_11 n x1 h)
else
(some ((-1), h))))
def wX11_brakes {ρ : Type} (n : Nat) : FN ρ := fun a h k => match a with
  | [_, x1] => bnd (MX11_brakes n x1 h) (fun r h2 => k r h2)
  | _ => none
def fsX11_brakes (n : Nat) (ρ : Type) : List (FN ρ) := [wX8_become, wX1_brakeToRest n]
def KJX11_brakes_11 (_ : Nat) : CT (Int × Hp) := []
set_option maxRecDepth 100000 in
theorem eJX11_brakes_11 (n : Nat) (x1 : Int) (h : Hp) : JX11_brakes_11 n x1 h =
  goAt false (kct (KJX11_brakes_11 n)) (fun v h => some ((v, h))) (fsX11_brakes n _) sdX11_brakes 1000 11 [(0, 15, 0), (1, 0, x1)] [] h := rfl
def KMX11_brakes (n : Nat) : CT (Int × Hp) := [(11, [(0, 15, (some 0)), (1, 0, none)], [], fun a c h => match a, c with
    | [x1], [] => JX11_brakes_11 n x1 h
    | _, _ => none)]
set_option maxRecDepth 100000 in
theorem eMX11_brakes (n : Nat) (x1 : Int) (h : Hp) : MX11_brakes n x1 h =
  goAt false (kct (KMX11_brakes n)) (fun v h => some ((v, h))) (fsX11_brakes n _) sdX11_brakes 1000 0 [(0, 15, 0), (1, 0, x1)] [] h := rfl
theorem okX11_brakes : mokb (mi 190) = true := by decide +kernel
theorem rkX11_brakes : rkOK 1 (mi 190).1.2.2.2.2.2.2.1 (mi 190).1.2.2.2.1 := Or.inr (Or.inl ⟨rfl, rfl, rfl⟩)
def calX11_brakes : List Nat := [124, 189]
theorem foX11_brakes {l : Launch} {ρ : Type} (n : Nat) : fsOK l false mi calX11_brakes (fsX11_brakes n ρ) := ⟨sndX8_become, ⟨(sndX1_brakeToRest n), trivial⟩⟩
theorem ok_sdX11_brakes : sdb (mi 190).1.2.1 (insOK mi (mi 190).1.1.cls (mi 190).1.2.2.1 (mi 190).1.2.2.2.2.1 (mi 190).1.2.2.2.2.2.1 calX11_brakes false 1) sdX11_brakes = true := by decide +kernel
theorem sJX11_brakes_11 {l : Launch} {h0 h' : Hp} {v : Int} (h8 : nOf h0 = 148) (n : Nat) (x1 : Int) (h : Hp) {r : Int × Hp} (H : JX11_brakes_11 n x1 h = some r) (hG : gWV v h' r) : PAt l false (mi 190).1 h0 v h' 11 [(0, 15, 0), (1, 0, x1)] [] h :=
  pat_w ok_sdX11_brakes rkX11_brakes h8 (foX11_brakes n) (fun v1 h1 q => by
    cases q
    exact ⟨hG.1, fun _ => hG.2⟩) (fun q9 h9 => by cases h9) ((eJX11_brakes_11 n x1 h).symm.trans H)
theorem sMX11_brakes {l : Launch} {h0 h' : Hp} {v : Int} (h8 : nOf h0 = 148) (n : Nat) (x1 : Int) (h : Hp) {r : Int × Hp} (H : MX11_brakes n x1 h = some r) (hG : gWV v h' r) : PAt l false (mi 190).1 h0 v h' 0 [(0, 15, 0), (1, 0, x1)] [] h :=
  pat_w ok_sdX11_brakes rkX11_brakes h8 (foX11_brakes n) (fun v1 h1 q => by
    cases q
    exact ⟨hG.1, fun _ => hG.2⟩) (List.forall_mem_cons.mpr ⟨(fun a c h H => by
      dsimp only at H
      split at H
      · exact sJX11_brakes_11 h8 n _ _ H hG
      · cases H), (fun q9 h9 => by cases h9)⟩) ((eMX11_brakes n x1 h).symm.trans H)
theorem sndX11_brakes {ρ : Type} {l : Launch} (n : Nat) : SndF (ρ := ρ) l false (mi 190).1 (wX11_brakes n) := by
    intro a h k r H ha ho hn hf
    have h8 := hf rfl
    obtain ⟨x0, x1, rfl⟩ := len2 (show a.length = 2 from ha)
    have u0 := uq15 hn (ho (15, x0) (List.mem_cons_self))
    subst u0
    replace H : bnd (MX11_brakes n x1 h) (fun r h2 => k r h2) = some r := H
    obtain ⟨v2, h2, H1, H2⟩ := bnd_some H
    exact ⟨v2, h2, H2, met_mk (mok_base okX11_brakes).1 (by decide +kernel) (Nat.le_of_ble_eq_true rfl) ho (sMX11_brakes h8 n x1 h H1 ⟨rfl, rfl⟩), fun q => by cases q⟩
/-! X12_brakes -/
def sdX12_brakes : SD := [(0, [(0, .iload_n 1, 1, [], 0), (1, .i2l, 1, [], 0), (2, .lconst 0, 1, [], 0), (3, .lconst 1, 1, [], 0), (4, .invokestatic 217, 3, [1, 0, 3, 81, 1561, 1, 1, 1], 0), (7, .ifCond .ne 5, 3, [], 0)]),
  (10, [(10, .iconst (-1), 1, [], 0), (11, .ireturn, 1, [], 0)]),
  (12, [(12, .aload_n 0, 1, [], 0), (13, .invokevirtual 459, 3, [0, 1, 1, 116, 1673, 16], 0), (16, .aload_n 0, 1, [], 0), (17, .invokevirtual 462, 3, [0, 2, 1, 137, 1703, 16], 0), (20, .iconst 0, 1, [], 0), (21, .istore_n 2, 1, [], 0)]),
  (22, [(22, .aload_n 0, 1, [], 0), (23, .invokevirtual 418, 3, [1, 3, 1, 138, 1711, 16], 0), (26, .ifCond .ne 13, 3, [], 0)]),
  (29, [(29, .aload_n 0, 1, [], 0), (30, .invokevirtual 433, 3, [0, 4, 1, 147, 1734, 16], 0), (33, .iinc 2 1, 3, [], 0), (36, .goto (-14), 3, [], 0)]),
  (39, [(39, .iload_n 1, 1, [], 0), (40, .ifCond .ne 7, 3, [], 0)]),
  (43, [(43, .iload_n 2, 1, [], 0), (44, .goto 12, 3, [], 0)]),
  (47, [(47, .aload_n 0, 1, [], 0), (48, .getfield 406, 3, [12, 48, 0, 0, 1370, 0], 0), (51, .aload_n 0, 1, [], 0), (52, .getfield 165, 3, [12, 42, 0, 0, 1364, 0], 0), (55, .isub, 1, [], 0)]),
  (56, [(56, .ireturn, 1, [], 0)])]
def BX12_brakes_22 (n : Nat) : Nat → Int → Int → Hp → Option (Int × Int × Hp)
  | 0, _, _, _ => none
  | f + 1, x1, x2, h =>
    (bndp (MX12_isRest h) fun r1 =>
    (if r1 ≠ 0 then
    (some (x1, x2, h))
    else
    (bndh (MX12_slows n h) fun h1 =>
    (ltt (w32 (x2 + 1)) fun y1 =>
    (BX12_brakes_22 n f x1 y1 h1)))))
def JX12_brakes_39 (n : Nat) (x1 x2 : Int) (h : Hp) : Option (Int × Hp) :=
(if x1 ≠ 0 then
(some ((w32 ((h 113 48) - (h 113 42))), h))
else
(some (x2, h)))
def LX12_brakes_22 (n : Nat) (x1 x2 : Int) (h : Hp) : Option (Int × Hp) :=
(bndx (BX12_brakes_22 n n x1 x2 h) fun (e1, e2, h1) =>
(JX12_brakes_39 n e1 e2 h1))
def MX12_brakes (n : Nat) (x1 : Int) (h : Hp) : Option (Int × Hp) :=
(bndp (MX12_in x1 0 1) fun r1 =>
(if r1 ≠ 0 then
(bndh (MX12_laysNow n h) fun h1 =>
(bndh (MX12_begins h1) fun h2 =>
(ltt 0 fun y1 =>
(LX12_brakes_22 n x1 y1 h2))))
else
(some ((-1), h))))
def wX12_brakes {ρ : Type} (n : Nat) : FN ρ := fun a h k => match a with
  | [_, x1] => bnd (MX12_brakes n x1 h) (fun r h2 => k r h2)
  | _ => none
def fsX12_brakes (n : Nat) (ρ : Type) : List (FN ρ) := [wX12_in, wX12_laysNow n, wX12_begins, wX12_isRest, wX12_slows n]
def KBX12_brakes_22 (_ : Nat) (bk : Int → Int → Hp → Option (Int × Int × Hp)) : CT (Int × Int × Hp) := [(22, [(0, 16, (some 113)), (1, 0, none), (2, 0, none)], [], fun a c h => match a, c with
    | [x1, x2], [] => bk x1 x2 h
    | _, _ => none),
  (39, [(0, 16, (some 113)), (1, 0, none), (2, 0, none)], [], fun a c h => match a, c with
    | [x1, x2], [] => some (x1, x2, h)
    | _, _ => none)]
set_option maxRecDepth 100000 in
theorem eBX12_brakes_22 (n f : Nat) (x1 : Int) (x2 : Int) (h : Hp) : BX12_brakes_22 n (f + 1) x1 x2 h =
  goAt false (kct (KBX12_brakes_22 n (BX12_brakes_22 n f))) (fun _ _ => none) (fsX12_brakes n _) sdX12_brakes 1000 22 [(0, 16, 113), (1, 0, x1), (2, 0, x2)] [] h := rfl
def KJX12_brakes_39 (_ : Nat) : CT (Int × Hp) := []
set_option maxRecDepth 100000 in
theorem eJX12_brakes_39 (n : Nat) (x1 : Int) (x2 : Int) (h : Hp) : JX12_brakes_39 n x1 x2 h =
  goAt false (kct (KJX12_brakes_39 n)) (fun v h => some ((v, h))) (fsX12_brakes n _) sdX12_brakes 1000 39 [(0, 16, 113), (1, 0, x1), (2, 0, x2)] [] h := rfl
def KMX12_brakes (n : Nat) : CT (Int × Hp) := [(22, [(0, 16, (some 113)), (1, 0, none), (2, 0, none)], [], fun a c h => match a, c with
    | [x1, x2], [] => LX12_brakes_22 n x1 x2 h
    | _, _ => none)]
set_option maxRecDepth 100000 in
theorem eMX12_brakes (n : Nat) (x1 : Int) (h : Hp) : MX12_brakes n x1 h =
  goAt false (kct (KMX12_brakes n)) (fun v h => some ((v, h))) (fsX12_brakes n _) sdX12_brakes 1000 0 [(0, 16, 113), (1, 0, x1)] [] h := rfl
theorem okX12_brakes : mokb (mi 191) = true := by decide +kernel
theorem rkX12_brakes : rkOK 1 (mi 191).1.2.2.2.2.2.2.1 (mi 191).1.2.2.2.1 := Or.inr (Or.inl ⟨rfl, rfl, rfl⟩)
def calX12_brakes : List Nat := [81, 116, 137, 138, 147]
theorem foX12_brakes {l : Launch} {ρ : Type} (n : Nat) : fsOK l false mi calX12_brakes (fsX12_brakes n ρ) := ⟨sndX12_in, ⟨(sndX12_laysNow n), ⟨sndX12_begins, ⟨sndX12_isRest, ⟨(sndX12_slows n), trivial⟩⟩⟩⟩⟩
theorem ok_sdX12_brakes : sdb (mi 191).1.2.1 (insOK mi (mi 191).1.1.cls (mi 191).1.2.2.1 (mi 191).1.2.2.2.2.1 (mi 191).1.2.2.2.2.2.1 calX12_brakes false 1) sdX12_brakes = true := by decide +kernel
def GX12_brakes_22 (l : Launch) (h0 : Hp) (h' : Hp) (v : Int) (_ : Hp) : (Int × Int × Hp) → Prop
  | (e1, e2, h1) => PAt l false (mi 191).1 h0 v h' 39 [(0, 16, 113), (1, 0, e1), (2, 0, e2)] [] h1
theorem sBX12_brakes_22 {l : Launch} {h0 h' : Hp} {v : Int} (h8 : nOf h0 = 148) (n : Nat) : ∀ (f : Nat) (x1 : Int) (x2 : Int) (h : Hp) {r : Int × Int × Hp}, BX12_brakes_22 n f x1 x2 h = some r → GX12_brakes_22 l h0 h' v h r → PAt l false (mi 191).1 h0 v h' 22 [(0, 16, 113), (1, 0, x1), (2, 0, x2)] [] h := by
  intro f
  induction f with
  | zero =>
    intro x1 x2 h r H _
    have H2 : (none : Option (Int × Int × Hp)) = some r := H
    cases H2
  | succ f ih =>
    intro x1 x2 h r H hG
    exact pat_w ok_sdX12_brakes rkX12_brakes h8 (foX12_brakes n) (fun v1 h1 q => by cases q) (List.forall_mem_cons.mpr ⟨(fun a c h H => by
      dsimp only at H
      split at H
      · exact ih _ _ _ H hG
      · cases H), (List.forall_mem_cons.mpr ⟨(fun a c h H => by
      dsimp only at H
      split at H
      · cases H
        exact hG
      · cases H), (fun q9 h9 => by cases h9)⟩)⟩) ((eBX12_brakes_22 n f x1 x2 h).symm.trans H)
theorem sJX12_brakes_39 {l : Launch} {h0 h' : Hp} {v : Int} (h8 : nOf h0 = 148) (n : Nat) (x1 : Int) (x2 : Int) (h : Hp) {r : Int × Hp} (H : JX12_brakes_39 n x1 x2 h = some r) (hG : gWV v h' r) : PAt l false (mi 191).1 h0 v h' 39 [(0, 16, 113), (1, 0, x1), (2, 0, x2)] [] h :=
  pat_w ok_sdX12_brakes rkX12_brakes h8 (foX12_brakes n) (fun v1 h1 q => by
    cases q
    exact ⟨hG.1, fun _ => hG.2⟩) (fun q9 h9 => by cases h9) ((eJX12_brakes_39 n x1 x2 h).symm.trans H)
theorem sLX12_brakes_22 {l : Launch} {h0 h' : Hp} {v : Int} (h8 : nOf h0 = 148) (n : Nat) (x1 : Int) (x2 : Int) (h : Hp) {r : Int × Hp} (H : LX12_brakes_22 n x1 x2 h = some r) (hG : gWV v h' r) : PAt l false (mi 191).1 h0 v h' 22 [(0, 16, 113), (1, 0, x1), (2, 0, x2)] [] h := by
  obtain ⟨e9, h2, h3⟩ := bndx_some H
  obtain ⟨e1, e2, h1⟩ := e9
  exact sBX12_brakes_22 h8 n n x1 x2 h h2 (sJX12_brakes_39 h8 n e1 e2 h1 h3 hG)
theorem sMX12_brakes {l : Launch} {h0 h' : Hp} {v : Int} (h8 : nOf h0 = 148) (n : Nat) (x1 : Int) (h : Hp) {r : Int × Hp} (H : MX12_brakes n x1 h = some r) (hG : gWV v h' r) : PAt l false (mi 191).1 h0 v h' 0 [(0, 16, 113), (1, 0, x1)] [] h :=
  pat_w ok_sdX12_brakes rkX12_brakes h8 (foX12_brakes n) (fun v1 h1 q => by
    cases q
    exact ⟨hG.1, fun _ => hG.2⟩) (List.forall_mem_cons.mpr ⟨(fun a c h H => by
      dsimp only at H
      split at H
      · exact sLX12_brakes_22 h8 n _ _ _ H hG
      · cases H), (fun q9 h9 => by cases h9)⟩) ((eMX12_brakes n x1 h).symm.trans H)
theorem sndX12_brakes {ρ : Type} {l : Launch} (n : Nat) : SndF (ρ := ρ) l false (mi 191).1 (wX12_brakes n) := by
    intro a h k r H ha ho hn hf
    have h8 := hf rfl
    obtain ⟨x0, x1, rfl⟩ := len2 (show a.length = 2 from ha)
    have u0 := uq16 hn (ho (16, x0) (List.mem_cons_self))
    subst u0
    replace H : bnd (MX12_brakes n x1 h) (fun r h2 => k r h2) = some r := H
    obtain ⟨v2, h2, H1, H2⟩ := bnd_some H
    exact ⟨v2, h2, H2, met_mk (mok_base okX12_brakes).1 (by decide +kernel) (Nat.le_of_ble_eq_true rfl) ho (sMX12_brakes h8 n x1 h H1 ⟨rfl, rfl⟩), fun q => by cases q⟩
