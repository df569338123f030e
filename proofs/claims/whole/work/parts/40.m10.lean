/-! X7_nearest -/
def sdX7_nearest : SD := [(0, [(0, .iconst 0, 1, [], 0), (1, .istore 4, 2, [], 0), (3, .iconst 1, 1, [], 0), (4, .istore 5, 2, [], 0)]),
  (6, [(6, .iload 5, 2, [], 0), (8, .aload_n 0, 1, [], 0), (9, .getfield 51, 3, [7, 4, 0, 0, 368, 0], 0), (12, .if_icmp .ge 35, 3, [], 0)]),
  (15, [(15, .aload_n 0, 1, [], 0), (16, .iload 5, 2, [], 0), (18, .iload_n 1, 1, [], 0), (19, .iload_n 2, 1, [], 0), (20, .iload_n 3, 1, [], 0), (21, .invokevirtual 123, 3, [2, 0, 1, 239, 1253, 0, 0, 0, 0, 11], 0), (24, .aload_n 0, 1, [], 0), (25, .iload 4, 2, [], 0), (27, .iload_n 1, 1, [], 0), (28, .iload_n 2, 1, [], 0), (29, .iload_n 3, 1, [], 0), (30, .invokevirtual 123, 3, [2, 0, 1, 239, 1253, 0, 0, 0, 0, 11], 0), (33, .lcmp, 1, [], 0), (34, .ifCond .ge 7, 3, [], 0)]),
  (37, [(37, .iload 5, 2, [], 0), (39, .istore 4, 2, [], 0)]),
  (41, [(41, .iinc 5 1, 3, [], 0), (44, .goto (-38), 3, [], 0)]),
  (47, [(47, .iload 4, 2, [], 0), (49, .ireturn, 1, [], 0)])]
def BX7_nearest_6 (n : Nat) : Nat → Int → Int → Int → Int → Int → Hp → Option (Int)
  | 0, _, _, _, _, _, _ => none
  | f + 1, x1, x2, x3, x4, x5, h =>
    (if (h 39 4) ≤ x5 then
    (some x4)
    else
    (bndp (MX7_squareTo x5 x1 x2 x3 h) fun r1 =>
    (bndp (MX7_squareTo x4 x1 x2 x3 h) fun r2 =>
    (if 0 ≤ (lcp r1 r2) then
    (ltt (w32 (x5 + 1)) fun y1 =>
    (BX7_nearest_6 n f x1 x2 x3 x4 y1 h))
    else
    (ltt x5 fun y2 =>
    (ltt (w32 (x5 + 1)) fun y3 =>
    (BX7_nearest_6 n f x1 x2 x3 y2 y3 h)))))))
def LX7_nearest_6 (n : Nat) (x1 x2 x3 x4 x5 : Int) (h : Hp) : Option (Int) :=
(BX7_nearest_6 n n x1 x2 x3 x4 x5 h)
def MX7_nearest (n : Nat) (x1 x2 x3 : Int) (h : Hp) : Option (Int) :=
(ltt 0 fun y1 =>
(ltt 1 fun y2 =>
(LX7_nearest_6 n x1 x2 x3 y1 y2 h)))
def wX7_nearest {ρ : Type} (n : Nat) : FN ρ := fun a h k => match a with
  | [_, x1, x2, x3] => bndp (MX7_nearest n x1 x2 x3 h) (fun r => k r h)
  | _ => none
def fsX7_nearest (n : Nat) (ρ : Type) : List (FN ρ) := [wX7_squareTo]
def KBX7_nearest_6 (_ : Nat) (bk : Int → Int → Int → Int → Int → Hp → Option (Int)) : CT (Int) := [(6, [(0, 11, (some 39)), (1, 0, none), (2, 0, none), (3, 0, none), (4, 0, none), (5, 0, none)], [], fun a c h => match a, c with
    | [x1, x2, x3, x4, x5], [] => bk x1 x2 x3 x4 x5 h
    | _, _ => none)]
set_option maxRecDepth 100000 in
theorem eBX7_nearest_6 (n f : Nat) (x1 : Int) (x2 : Int) (x3 : Int) (x4 : Int) (x5 : Int) (h : Hp) : BX7_nearest_6 n (f + 1) x1 x2 x3 x4 x5 h =
  goAt false (kct (KBX7_nearest_6 n (BX7_nearest_6 n f))) (fun v _ => some (v)) (fsX7_nearest n _) sdX7_nearest 1000 6 [(0, 11, 39), (1, 0, x1), (2, 0, x2), (3, 0, x3), (4, 0, x4), (5, 0, x5)] [] h := rfl
def KMX7_nearest (n : Nat) : CT (Int) := [(6, [(0, 11, (some 39)), (1, 0, none), (2, 0, none), (3, 0, none), (4, 0, none), (5, 0, none)], [], fun a c h => match a, c with
    | [x1, x2, x3, x4, x5], [] => LX7_nearest_6 n x1 x2 x3 x4 x5 h
    | _, _ => none)]
set_option maxRecDepth 100000 in
theorem eMX7_nearest (n : Nat) (x1 : Int) (x2 : Int) (x3 : Int) (h : Hp) : MX7_nearest n x1 x2 x3 h =
  goAt false (kct (KMX7_nearest n)) (fun v _ => some (v)) (fsX7_nearest n _) sdX7_nearest 1000 0 [(0, 11, 39), (1, 0, x1), (2, 0, x2), (3, 0, x3)] [] h := rfl
theorem okX7_nearest : mokb (mi 240) = true := by decide +kernel
theorem rkX7_nearest : rkOK 1 (mi 240).1.2.2.2.2.2.2.1 (mi 240).1.2.2.2.1 := Or.inr (Or.inl ⟨rfl, rfl, rfl⟩)
def calX7_nearest : List Nat := [239]
theorem foX7_nearest {l : Launch} {ρ : Type} (n : Nat) : fsOK l false mi calX7_nearest (fsX7_nearest n ρ) := ⟨sndX7_squareTo, trivial⟩
theorem frX7_nearest {ρ : Type} (n : Nat) : ∀ fn ∈ fsX7_nearest n ρ, RoF fn := (List.forall_mem_cons.mpr ⟨roX7_squareTo, (fun q9 h9 => by cases h9)⟩)
theorem ok_sdX7_nearest : sdb (mi 240).1.2.1 (insOK mi (mi 240).1.1.cls (mi 240).1.2.2.1 (mi 240).1.2.2.2.2.1 (mi 240).1.2.2.2.2.2.1 calX7_nearest false 1) sdX7_nearest = true := by decide +kernel
theorem sBX7_nearest_6 {l : Launch} {h0 : Hp} {v : Int} (h8 : nOf h0 = 148) (n : Nat) (h : Hp) : ∀ (f : Nat) (x1 : Int) (x2 : Int) (x3 : Int) (x4 : Int) (x5 : Int) {r : Int}, BX7_nearest_6 n f x1 x2 x3 x4 x5 h = some r → gV v r → PAt l false (mi 240).1 h0 v h 6 [(0, 11, 39), (1, 0, x1), (2, 0, x2), (3, 0, x3), (4, 0, x4), (5, 0, x5)] [] h := by
  intro f
  induction f with
  | zero =>
    intro x1 x2 x3 x4 x5 r H _
    have H2 : (none : Option (Int)) = some r := H
    cases H2
  | succ f ih =>
    intro x1 x2 x3 x4 x5 r H hG
    exact pat_ro ok_sdX7_nearest rfl rkX7_nearest h8 (foX7_nearest n) (frX7_nearest n) (fun v1 q => by
    cases q
    exact ⟨rfl, fun _ => hG⟩) (List.forall_mem_cons.mpr ⟨(fun a c H => by
      dsimp only at H
      split at H
      · exact ih _ _ _ _ _ H hG
      · cases H), (fun q9 h9 => by cases h9)⟩) ((eBX7_nearest_6 n f x1 x2 x3 x4 x5 h).symm.trans H)
theorem sLX7_nearest_6 {l : Launch} {h0 : Hp} {v : Int} (h8 : nOf h0 = 148) (n : Nat) (x1 : Int) (x2 : Int) (x3 : Int) (x4 : Int) (x5 : Int) (h : Hp) {r : Int} (H : LX7_nearest_6 n x1 x2 x3 x4 x5 h = some r) (hG : gV v r) : PAt l false (mi 240).1 h0 v h 6 [(0, 11, 39), (1, 0, x1), (2, 0, x2), (3, 0, x3), (4, 0, x4), (5, 0, x5)] [] h :=
  sBX7_nearest_6 h8 n h n x1 x2 x3 x4 x5 H hG
theorem sMX7_nearest {l : Launch} {h0 : Hp} {v : Int} (h8 : nOf h0 = 148) (n : Nat) (x1 : Int) (x2 : Int) (x3 : Int) (h : Hp) {r : Int} (H : MX7_nearest n x1 x2 x3 h = some r) (hG : gV v r) : PAt l false (mi 240).1 h0 v h 0 [(0, 11, 39), (1, 0, x1), (2, 0, x2), (3, 0, x3)] [] h :=
  pat_ro ok_sdX7_nearest rfl rkX7_nearest h8 (foX7_nearest n) (frX7_nearest n) (fun v1 q => by
    cases q
    exact ⟨rfl, fun _ => hG⟩) (List.forall_mem_cons.mpr ⟨(fun a c H => by
      dsimp only at H
      split at H
      · exact sLX7_nearest_6 h8 n _ _ _ _ _ _ H hG
      · cases H), (fun q9 h9 => by cases h9)⟩) ((eMX7_nearest n x1 x2 x3 h).symm.trans H)
theorem sndX7_nearest {ρ : Type} {l : Launch} (n : Nat) : SndF (ρ := ρ) l false (mi 240).1 (wX7_nearest n) := by
    intro a h k r H ha ho hn hf
    have h8 := hf rfl
    obtain ⟨x0, x1, x2, x3, rfl⟩ := len4 (show a.length = 4 from ha)
    have u0 := uq11 hn (ho (11, x0) (List.mem_cons_self))
    subst u0
    replace H : bndp (MX7_nearest n x1 x2 x3 h) (fun r => k r h) = some r := H
    obtain ⟨v2, H1, H2⟩ := bndp_some H
    exact ⟨v2, h, H2, met_mk (mok_base okX7_nearest).1 (by decide +kernel) (Nat.le_of_ble_eq_true rfl) ho (sMX7_nearest h8 n x1 x2 x3 h H1 rfl), fun q => by cases q⟩
theorem roX7_nearest {ρ : Type} (n : Nat) : RoF (wX7_nearest n : FN ρ) := fun a h k k2 hk => by
  unfold wX7_nearest
  split
  · exact bndp_ro hk
  · rfl
/-! X11_near -/
def sdX11_near : SD := [(0, [(0, .iload_n 1, 1, [], 0), (1, .invokestatic 314, 3, [1, 0, 3, 40, 1248, 0], 0), (4, .ifCond .ne 38, 3, [], 0)]),
  (7, [(7, .iload_n 2, 1, [], 0), (8, .invokestatic 314, 3, [1, 0, 3, 40, 1248, 0], 0), (11, .ifCond .ne 31, 3, [], 0)]),
  (14, [(14, .iload_n 3, 1, [], 0), (15, .invokestatic 314, 3, [1, 0, 3, 40, 1248, 0], 0), (18, .ifCond .ne 24, 3, [], 0)]),
  (21, [(21, .iload 4, 2, [], 0), (23, .ifCond .lt 19, 3, [], 0)]),
  (26, [(26, .iload 4, 2, [], 0), (28, .iconst 1, 1, [], 0), (29, .if_icmp .gt 13, 3, [], 0)]),
  (32, [(32, .aload_n 0, 1, [], 0), (33, .getfield 40, 3, [11, 4, 11, 1, 694, 0], 39), (36, .getfield 270, 3, [7, 4, 0, 0, 369, 0], 0), (39, .ifCond .ne 5, 3, [], 0)]),
  (42, [(42, .iconst (-1), 1, [], 0), (43, .ireturn, 1, [], 0)]),
  (44, [(44, .aload_n 0, 1, [], 0), (45, .getfield 40, 3, [11, 4, 11, 1, 694, 0], 39), (48, .iload_n 1, 1, [], 0), (49, .iload_n 2, 1, [], 0), (50, .iload_n 3, 1, [], 0), (51, .invokevirtual 317, 3, [1, 1, 1, 240, 1249, 0, 0, 0, 11], 0), (54, .istore 5, 2, [], 0), (56, .iload 4, 2, [], 0), (58, .ifCond .ne 8, 3, [], 0)]),
  (61, [(61, .iload 5, 2, [], 0), (63, .goto 18, 3, [], 0)]),
  (66, [(66, .aload_n 0, 1, [], 0), (67, .getfield 40, 3, [11, 4, 11, 1, 694, 0], 39), (70, .iload 5, 2, [], 0), (72, .iload_n 1, 1, [], 0), (73, .iload_n 2, 1, [], 0), (74, .iload_n 3, 1, [], 0), (75, .invokevirtual 320, 3, [2, 2, 1, 239, 1258, 0, 0, 0, 0, 11], 0), (78, .invokestatic 324, 3, [1, 3, 3, 33, 1259, 1], 0)]),
  (81, [(81, .ireturn, 1, [], 0)])]
def MX11_near (n : Nat) (x1 x2 x3 x4 : Int) (h : Hp) : Option (Int) :=
(bndp (MX11_isBeyond x1) fun r1 =>
(if r1 ≠ 0 then
(some (-1))
else
(bndp (MX11_isBeyond x2) fun r2 =>
(if r2 ≠ 0 then
(some (-1))
else
(bndp (MX11_isBeyond x3) fun r3 =>
(if r3 ≠ 0 then
(some (-1))
else
(if x4 < 0 then
(some (-1))
else
(if 1 < x4 then
(some (-1))
else
(if (h 39 4) ≠ 0 then
(bndp (MX7_nearest n x1 x2 x3 h) fun r4 =>
(ltt r4 fun y1 =>
(if x4 ≠ 0 then
(bndp (MX7_squareTo y1 x1 x2 x3 h) fun r5 =>
(bndp (MX11_root n r5) fun r6 =>
(some r6)))
else
(some y1))))
else
(some (-1)))))))))))
def wX11_near {ρ : Type} (n : Nat) : FN ρ := fun a h k => match a with
  | [_, x1, x2, x3, x4] => bndp (MX11_near n x1 x2 x3 x4 h) (fun r => k r h)
  | _ => none
def fsX11_near (n : Nat) (ρ : Type) : List (FN ρ) := [wX11_isBeyond, wX7_nearest n, wX7_squareTo, wX11_root n]
def KMX11_near (_ : Nat) : CT (Int) := []
set_option maxRecDepth 100000 in
theorem eMX11_near (n : Nat) (x1 : Int) (x2 : Int) (x3 : Int) (x4 : Int) (h : Hp) : MX11_near n x1 x2 x3 x4 h =
  goAt false (kct (KMX11_near n)) (fun v _ => some (v)) (fsX11_near n _) sdX11_near 1000 0 [(0, 15, 0), (1, 0, x1), (2, 0, x2), (3, 0, x3), (4, 0, x4)] [] h := rfl
theorem okX11_near : mokb (mi 241) = true := by decide +kernel
theorem rkX11_near : rkOK 1 (mi 241).1.2.2.2.2.2.2.1 (mi 241).1.2.2.2.1 := Or.inr (Or.inl ⟨rfl, rfl, rfl⟩)
def calX11_near : List Nat := [40, 240, 239, 33]
theorem foX11_near {l : Launch} {ρ : Type} (n : Nat) : fsOK l false mi calX11_near (fsX11_near n ρ) := ⟨sndX11_isBeyond, ⟨(sndX7_nearest n), ⟨sndX7_squareTo, ⟨(sndX11_root n), trivial⟩⟩⟩⟩
theorem frX11_near {ρ : Type} (n : Nat) : ∀ fn ∈ fsX11_near n ρ, RoF fn := (List.forall_mem_cons.mpr ⟨roX11_isBeyond, (List.forall_mem_cons.mpr ⟨(roX7_nearest n), (List.forall_mem_cons.mpr ⟨roX7_squareTo, (List.forall_mem_cons.mpr ⟨(roX11_root n), (fun q9 h9 => by cases h9)⟩)⟩)⟩)⟩)
theorem ok_sdX11_near : sdb (mi 241).1.2.1 (insOK mi (mi 241).1.1.cls (mi 241).1.2.2.1 (mi 241).1.2.2.2.2.1 (mi 241).1.2.2.2.2.2.1 calX11_near false 1) sdX11_near = true := by decide +kernel
theorem sMX11_near {l : Launch} {h0 : Hp} {v : Int} (h8 : nOf h0 = 148) (n : Nat) (x1 : Int) (x2 : Int) (x3 : Int) (x4 : Int) (h : Hp) {r : Int} (H : MX11_near n x1 x2 x3 x4 h = some r) (hG : gV v r) : PAt l false (mi 241).1 h0 v h 0 [(0, 15, 0), (1, 0, x1), (2, 0, x2), (3, 0, x3), (4, 0, x4)] [] h :=
  pat_ro ok_sdX11_near rfl rkX11_near h8 (foX11_near n) (frX11_near n) (fun v1 q => by
    cases q
    exact ⟨rfl, fun _ => hG⟩) (fun q9 h9 => by cases h9) ((eMX11_near n x1 x2 x3 x4 h).symm.trans H)
theorem sndX11_near {ρ : Type} {l : Launch} (n : Nat) : SndF (ρ := ρ) l false (mi 241).1 (wX11_near n) := by
    intro a h k r H ha ho hn hf
    have h8 := hf rfl
    obtain ⟨x0, x1, x2, x3, x4, rfl⟩ := len5 (show a.length = 5 from ha)
    have u0 := uq15 hn (ho (15, x0) (List.mem_cons_self))
    subst u0
    replace H : bndp (MX11_near n x1 x2 x3 x4 h) (fun r => k r h) = some r := H
    obtain ⟨v2, H1, H2⟩ := bndp_some H
    exact ⟨v2, h, H2, met_mk (mok_base okX11_near).1 (by decide +kernel) (Nat.le_of_ble_eq_true rfl) ho (sMX11_near h8 n x1 x2 x3 x4 h H1 rfl), fun q => by cases q⟩
theorem roX11_near {ρ : Type} (n : Nat) : RoF (wX11_near n : FN ρ) := fun a h k k2 hk => by
  unfold wX11_near
  split
  · exact bndp_ro hk
  · rfl
/-! X12_near -/
def sdX12_near : SD := [(0, [(0, .aload_n 0, 1, [], 0), (1, .invokevirtual 520, 3, [0, 0, 1, 203, 1887, 16], 0), (4, .aload_n 0, 1, [], 0), (5, .getfield 514, 3, [12, 59, 0, 0, 1381, 0], 0), (8, .ifCond .eq 56, 3, [], 0)]),
  (11, [(11, .iload 4, 2, [], 0), (13, .i2l, 1, [], 0), (14, .lconst 0, 1, [], 0), (15, .lconst 1, 1, [], 0), (16, .invokestatic 217, 3, [1, 1, 3, 81, 1561, 1, 1, 1], 0), (19, .ifCond .eq 45, 3, [], 0)]),
  (22, [(22, .iload_n 1, 1, [], 0), (23, .i2l, 1, [], 0), (24, .ldc2_w 276, 3, [1, 1619], (-100000)), (27, .ldc2_w 278, 3, [1, 1620], 100000), (30, .invokestatic 217, 3, [1, 1, 3, 81, 1561, 1, 1, 1], 0), (33, .ifCond .eq 31, 3, [], 0)]),
  (36, [(36, .iload_n 2, 1, [], 0), (37, .i2l, 1, [], 0), (38, .ldc2_w 276, 3, [1, 1619], (-100000)), (41, .ldc2_w 278, 3, [1, 1620], 100000), (44, .invokestatic 217, 3, [1, 1, 3, 81, 1561, 1, 1, 1], 0), (47, .ifCond .eq 17, 3, [], 0)]),
  (50, [(50, .iload_n 3, 1, [], 0), (51, .i2l, 1, [], 0), (52, .ldc2_w 276, 3, [1, 1619], (-100000)), (55, .ldc2_w 278, 3, [1, 1620], 100000), (58, .invokestatic 217, 3, [1, 1, 3, 81, 1561, 1, 1, 1], 0), (61, .ifCond .ne 5, 3, [], 0)]),
  (64, [(64, .iconst (-1), 1, [], 0), (65, .ireturn, 1, [], 0)]),
  (66, [(66, .iconst (-1), 1, [], 0), (67, .istore 5, 2, [], 0), (69, .lconst 0, 1, [], 0), (70, .lstore 6, 2, [], 0), (72, .iconst 0, 1, [], 0), (73, .istore 8, 2, [], 0)]),
  (75, [(75, .iload 8, 2, [], 0), (77, .aload_n 0, 1, [], 0), (78, .getfield 514, 3, [12, 59, 0, 0, 1381, 0], 0), (81, .if_icmp .ge 89, 3, [], 0)]),
  (84, [(84, .iconst 3, 1, [], 0), (85, .aload_n 0, 1, [], 0), (86, .getfield 95, 3, [12, 57, 540, 1, 1379, 0], 28), (89, .iload 8, 2, [], 0), (91, .iaload, 1, [], 0), (92, .imul, 1, [], 0), (93, .istore 9, 2, [], 0), (95, .aload_n 0, 1, [], 0), (96, .getfield 37, 3, [12, 14, 1580, 1, 1336, 0], 9), (99, .iload 9, 2, [], 0), (101, .iaload, 1, [], 0), (102, .iload_n 1, 1, [], 0), (103, .isub, 1, [], 0), (104, .i2l, 1, [], 0), (105, .invokestatic 150, 3, [2, 2, 3, 92, 1314, 1], 0), (108, .aload_n 0, 1, [], 0), (109, .getfield 37, 3, [12, 14, 1580, 1, 1336, 0], 9), (112, .iload 9, 2, [], 0), (114, .iconst 1, 1, [], 0), (115, .iadd, 1, [], 0), (116, .iaload, 1, [], 0), (117, .iload_n 2, 1, [], 0), (118, .isub, 1, [], 0), (119, .i2l, 1, [], 0), (120, .invokestatic 150, 3, [2, 2, 3, 92, 1314, 1], 0), (123, .ladd, 1, [], 0), (124, .aload_n 0, 1, [], 0), (125, .getfield 37, 3, [12, 14, 1580, 1, 1336, 0], 9), (128, .iload 9, 2, [], 0), (130, .iconst 2, 1, [], 0), (131, .iadd, 1, [], 0), (132, .iaload, 1, [], 0), (133, .iload_n 3, 1, [], 0), (134, .isub, 1, [], 0), (135, .i2l, 1, [], 0), (136, .invokestatic 150, 3, [2, 2, 3, 92, 1314, 1], 0), (139, .ladd, 1, [], 0), (140, .lstore 10, 2, [], 0), (142, .iload 5, 2, [], 0), (144, .iconst (-1), 1, [], 0), (145, .if_icmp .eq 11, 3, [], 0)]),
  (148, [(148, .lload 10, 2, [], 0), (150, .lload 6, 2, [], 0), (152, .lcmp, 1, [], 0), (153, .ifCond .ge 11, 3, [], 0)]),
  (156, [(156, .iload 8, 2, [], 0), (158, .istore 5, 2, [], 0), (160, .lload 10, 2, [], 0), (162, .lstore 6, 2, [], 0)]),
  (164, [(164, .iinc 8 1, 3, [], 0), (167, .goto (-92), 3, [], 0)]),
  (170, [(170, .iload 4, 2, [], 0), (172, .ifCond .ne 8, 3, [], 0)]),
  (175, [(175, .iload 5, 2, [], 0), (177, .goto 8, 3, [], 0)]),
  (180, [(180, .lload 6, 2, [], 0), (182, .invokestatic 154, 3, [1, 3, 3, 93, 1317, 1], 0)]),
  (185, [(185, .ireturn, 1, [], 0)])]
def sdX12_near_75 : SD := [(75, [(75, .iload 8, 2, [], 0), (77, .aload_n 0, 1, [], 0), (78, .getfield 514, 3, [12, 59, 0, 0, 1381, 0], 0), (81, .if_icmp .ge 89, 3, [], 0)]),
  (84, [(84, .iconst 3, 1, [], 0), (85, .aload_n 0, 1, [], 0), (86, .getfield 95, 3, [12, 57, 540, 1, 1379, 0], 28), (89, .iload 8, 2, [], 0), (91, .iaload, 1, [], 0), (92, .imul, 1, [], 0), (93, .istore 9, 2, [], 0), (95, .aload_n 0, 1, [], 0), (96, .getfield 37, 3, [12, 14, 1580, 1, 1336, 0], 9), (99, .iload 9, 2, [], 0), (101, .iaload, 1, [], 0), (102, .iload_n 1, 1, [], 0), (103, .isub, 1, [], 0), (104, .i2l, 1, [], 0), (105, .invokestatic 150, 3, [2, 2, 3, 92, 1314, 1], 0), (108, .aload_n 0, 1, [], 0), (109, .getfield 37, 3, [12, 14, 1580, 1, 1336, 0], 9), (112, .iload 9, 2, [], 0), (114, .iconst 1, 1, [], 0), (115, .iadd, 1, [], 0), (116, .iaload, 1, [], 0), (117, .iload_n 2, 1, [], 0), (118, .isub, 1, [], 0), (119, .i2l, 1, [], 0), (120, .invokestatic 150, 3, [2, 2, 3, 92, 1314, 1], 0), (123, .ladd, 1, [], 0), (124, .aload_n 0, 1, [], 0), (125, .getfield 37, 3, [12, 14, 1580, 1, 1336, 0], 9), (128, .iload 9, 2, [], 0), (130, .iconst 2, 1, [], 0), (131, .iadd, 1, [], 0), (132, .iaload, 1, [], 0), (133, .iload_n 3, 1, [], 0), (134, .isub, 1, [], 0), (135, .i2l, 1, [], 0), (136, .invokestatic 150, 3, [2, 2, 3, 92, 1314, 1], 0), (139, .ladd, 1, [], 0), (140, .lstore 10, 2, [], 0), (142, .iload 5, 2, [], 0), (144, .iconst (-1), 1, [], 0), (145, .if_icmp .eq 11, 3, [], 0)]),
  (148, [(148, .lload 10, 2, [], 0), (150, .lload 6, 2, [], 0), (152, .lcmp, 1, [], 0), (153, .ifCond .ge 11, 3, [], 0)]),
  (156, [(156, .iload 8, 2, [], 0), (158, .istore 5, 2, [], 0), (160, .lload 10, 2, [], 0), (162, .lstore 6, 2, [], 0)]),
  (164, [(164, .iinc 8 1, 3, [], 0), (167, .goto (-92), 3, [], 0)])]
def JX12_near_156 (n : Nat) (bk : Int → Int → Int → Int → Int → Int → Int → Hp → Option (Int × Int × Int)) (x1 x2 x3 x4 x8 x10 : Int) (h : Hp) : Option (Int × Int × Int) :=
(ltt x8 fun y1 =>
(ltt x10 fun y2 =>
(ltt (w32 (x8 + 1)) fun y3 =>
(bk x1 x2 x3 x4 y1 y2 y3 h))))
def BX12_near_75 (n : Nat) : Nat → Int → Int → Int → Int → Int → Int → Int → Hp → Option (Int × Int × Int)
  | 0, _, _, _, _, _, _, _, _ => none
  | f + 1, x1, x2, x3, x4, x5, x6, x8, h =>
    (if (h 113 59) ≤ x8 then
    (some (x4, x5, x6))
    else
    (grd (0 ≤ x8 ∧ x8 < alen 540)
    (ltt (w32 (3 * (h 141 x8))) fun y1 =>
    (grd (0 ≤ y1 ∧ y1 < alen 1580)
    (bndp (MX12_square (w32 ((h 122 y1) - x1))) fun r1 =>
    (grd (0 ≤ (w32 (y1 + 1)) ∧ (w32 (y1 + 1)) < alen 1580)
    (bndp (MX12_square (w32 ((h 122 (w32 (y1 + 1))) - x2))) fun r2 =>
    (grd (0 ≤ (w32 (y1 + 2)) ∧ (w32 (y1 + 2)) < alen 1580)
    (bndp (MX12_square (w32 ((h 122 (w32 (y1 + 2))) - x3))) fun r3 =>
    (ltt (w64 ((w64 (r1 + r2)) + r3)) fun y2 =>
    (if x5 = (-1) then
    (JX12_near_156 n (BX12_near_75 n f) x1 x2 x3 x4 x8 y2 h)
    else
    (if 0 ≤ (lcp y2 x6) then
    (ltt (w32 (x8 + 1)) fun y3 =>
    (BX12_near_75 n f x1 x2 x3 x4 x5 x6 y3 h))
    else
    (JX12_near_156 n (BX12_near_75 n f) x1 x2 x3 x4 x8 y2 h)))))))))))))
def JX12_near_170 (n : Nat) (x4 x5 x6 : Int) (h : Hp) : Option (Int × Hp) :=
(if x4 ≠ 0 then
(bndp (MX12_root n x6) fun r1 =>
(some (r1, h)))
else
(some (x5, h)))
def LX12_near_75 (n : Nat) (x1 x2 x3 x4 x5 x6 x8 : Int) (h : Hp) : Option (Int × Hp) :=
(bndx (BX12_near_75 n n x1 x2 x3 x4 x5 x6 x8 h) fun (e4, e5, e6) =>
(JX12_near_170 n e4 e5 e6 h))
def MX12_near (n : Nat) (x1 x2 x3 x4 : Int) (h : Hp) : Option (Int × Hp) :=
(bndh (MX12_laysSpots n h) fun h1 =>
(if (h1 113 59) = 0 then
(some ((-1), h1))
else
(bndp (MX12_in x4 0 1) fun r1 =>
(if r1 = 0 then
(some ((-1), h1))
else
(bndp (MX12_in x1 (-100000) 100000) fun r2 =>
(if r2 = 0 then
(some ((-1), h1))
else
(bndp (MX12_in x2 (-100000) 100000) fun r3 =>
(if r3 = 0 then
(some ((-1), h1))
else
(bndp (MX12_in x3 (-100000) 100000) fun r4 =>
(if r4 ≠ 0 then
(ltt (-1) fun y1 =>
(ltt 0 fun y2 =>
(ltt 0 fun y3 =>
(LX12_near_75 n x1 x2 x3 x4 y1 y2 y3 h1))))
else
(some ((-1), h1))))))))))))
def wX12_near {ρ : Type} (n : Nat) : FN ρ := fun a h k => match a with
  | [_, x1, x2, x3, x4] => bnd (MX12_near n x1 x2 x3 x4 h) (fun r h2 => k r h2)
  | _ => none
def fsX12_near (n : Nat) (ρ : Type) : List (FN ρ) := [wX12_laysSpots n, wX12_in, wX12_square, wX12_root n]
def fsX12_near_75 (n : Nat) (ρ : Type) : List (FN ρ) := [nofn, nofn, wX12_square, nofn]
def KJX12_near_156 (_ : Nat) (bk : Int → Int → Int → Int → Int → Int → Int → Hp → Option (Int × Int × Int)) : CT (Int × Int × Int) := [(75, [(0, 16, (some 113)), (1, 0, none), (2, 0, none), (3, 0, none), (4, 0, none), (5, 0, none), (6, 1, none), (8, 0, none)], [], fun a c h => match a, c with
    | [x1, x2, x3, x4, x5, x6, x8], [] => bk x1 x2 x3 x4 x5 x6 x8 h
    | _, _ => none),
  (170, [(4, 0, none), (5, 0, none), (6, 1, none)], [], fun a c _ => match a, c with
    | [x4, x5, x6], [] => some (x4, x5, x6)
    | _, _ => none)]
set_option maxRecDepth 100000 in
theorem eJX12_near_156 (n : Nat) (bk : Int → Int → Int → Int → Int → Int → Int → Hp → Option (Int × Int × Int)) (x1 : Int) (x2 : Int) (x3 : Int) (x4 : Int) (x8 : Int) (x10 : Int) (h : Hp) : JX12_near_156 n bk x1 x2 x3 x4 x8 x10 h =
  goAt false (kct (KJX12_near_156 n bk)) (fun _ _ => none) (fsX12_near_75 n _) sdX12_near_75 1000 156 [(0, 16, 113), (1, 0, x1), (2, 0, x2), (3, 0, x3), (4, 0, x4), (8, 0, x8), (10, 1, x10)] [] h := rfl
def KBX12_near_75 (n : Nat) (bk : Int → Int → Int → Int → Int → Int → Int → Hp → Option (Int × Int × Int)) : CT (Int × Int × Int) := [(75, [(0, 16, (some 113)), (1, 0, none), (2, 0, none), (3, 0, none), (4, 0, none), (5, 0, none), (6, 1, none), (8, 0, none)], [], fun a c h => match a, c with
    | [x1, x2, x3, x4, x5, x6, x8], [] => bk x1 x2 x3 x4 x5 x6 x8 h
    | _, _ => none),
  (170, [(4, 0, none), (5, 0, none), (6, 1, none)], [], fun a c _ => match a, c with
    | [x4, x5, x6], [] => some (x4, x5, x6)
    | _, _ => none),
  (156, [(0, 16, (some 113)), (1, 0, none), (2, 0, none), (3, 0, none), (4, 0, none), (8, 0, none), (10, 1, none)], [], fun a c h => match a, c with
    | [x1, x2, x3, x4, x8, x10], [] => JX12_near_156 n bk x1 x2 x3 x4 x8 x10 h
    | _, _ => none)]
set_option maxRecDepth 100000 in
theorem eBX12_near_75 (n f : Nat) (x1 : Int) (x2 : Int) (x3 : Int) (x4 : Int) (x5 : Int) (x6 : Int) (x8 : Int) (h : Hp) : BX12_near_75 n (f + 1) x1 x2 x3 x4 x5 x6 x8 h =
  goAt false (kct (KBX12_near_75 n (BX12_near_75 n f))) (fun _ _ => none) (fsX12_near_75 n _) sdX12_near_75 1000 75 [(0, 16, 113), (1, 0, x1), (2, 0, x2), (3, 0, x3), (4, 0, x4), (5, 0, x5), (6, 1, x6), (8, 0, x8)] [] h := rfl
def KJX12_near_170 (_ : Nat) : CT (Int × Hp) := []
set_option maxRecDepth 100000 in
theorem eJX12_near_170 (n : Nat) (x4 : Int) (x5 : Int) (x6 : Int) (h : Hp) : JX12_near_170 n x4 x5 x6 h =
  goAt false (kct (KJX12_near_170 n)) (fun v h => some ((v, h))) (fsX12_near n _) sdX12_near 1000 170 [(4, 0, x4), (5, 0, x5), (6, 1, x6)] [] h := rfl
def KMX12_near (n : Nat) : CT (Int × Hp) := [(75, [(0, 16, (some 113)), (1, 0, none), (2, 0, none), (3, 0, none), (4, 0, none), (5, 0, none), (6, 1, none), (8, 0, none)], [], fun a c h => match a, c with
    | [x1, x2, x3, x4, x5, x6, x8], [] => LX12_near_75 n x1 x2 x3 x4 x5 x6 x8 h
    | _, _ => none)]
set_option maxRecDepth 100000 in
theorem eMX12_near (n : Nat) (x1 : Int) (x2 : Int) (x3 : Int) (x4 : Int) (h : Hp) : MX12_near n x1 x2 x3 x4 h =
  goAt false (kct (KMX12_near n)) (fun v h => some ((v, h))) (fsX12_near n _) sdX12_near 1000 0 [(0, 16, 113), (1, 0, x1), (2, 0, x2), (3, 0, x3), (4, 0, x4)] [] h := rfl
theorem okX12_near : mokb (mi 242) = true := by decide +kernel
theorem rkX12_near : rkOK 1 (mi 242).1.2.2.2.2.2.2.1 (mi 242).1.2.2.2.1 := Or.inr (Or.inl ⟨rfl, rfl, rfl⟩)
def calX12_near : List Nat := [203, 81, 92, 93]
theorem foX12_near {l : Launch} {ρ : Type} (n : Nat) : fsOK l false mi calX12_near (fsX12_near n ρ) := ⟨(sndX12_laysSpots n), ⟨sndX12_in, ⟨sndX12_square, ⟨(sndX12_root n), trivial⟩⟩⟩⟩
theorem ok_sdX12_near : sdb (mi 242).1.2.1 (insOK mi (mi 242).1.1.cls (mi 242).1.2.2.1 (mi 242).1.2.2.2.2.1 (mi 242).1.2.2.2.2.2.1 calX12_near false 1) sdX12_near = true := by decide +kernel
def calX12_near_75 : List Nat := [0, 0, 92, 0]
theorem foX12_near_75 {l : Launch} {ρ : Type} (n : Nat) : fsOK l false mi calX12_near_75 (fsX12_near_75 n ρ) := ⟨snd_no, ⟨snd_no, ⟨sndX12_square, ⟨snd_no, trivial⟩⟩⟩⟩
theorem frX12_near_75 {ρ : Type} (n : Nat) : ∀ fn ∈ fsX12_near_75 n ρ, RoF fn := (List.forall_mem_cons.mpr ⟨ro_no, (List.forall_mem_cons.mpr ⟨ro_no, (List.forall_mem_cons.mpr ⟨roX12_square, (List.forall_mem_cons.mpr ⟨ro_no, (fun q9 h9 => by cases h9)⟩)⟩)⟩)⟩)
theorem ok_sdX12_near_75 : sdb (mi 242).1.2.1 (insOK mi (mi 242).1.1.cls (mi 242).1.2.2.1 (mi 242).1.2.2.2.2.1 (mi 242).1.2.2.2.2.2.1 calX12_near_75 false 1) sdX12_near_75 = true := by decide +kernel
def GX12_near_75 (l : Launch) (h0 : Hp) (h' : Hp) (v : Int) (h : Hp) : (Int × Int × Int) → Prop
  | (e4, e5, e6) => PAt l false (mi 242).1 h0 v h' 170 [(4, 0, e4), (5, 0, e5), (6, 1, e6)] [] h
theorem sJX12_near_156 {l : Launch} {h0 h' : Hp} {v : Int} (h8 : nOf h0 = 148) (n : Nat) (bk : Int → Int → Int → Int → Int → Int → Int → Hp → Option (Int × Int × Int)) {h : Hp} (hbk : ∀ (x1 : Int) (x2 : Int) (x3 : Int) (x4 : Int) (x5 : Int) (x6 : Int) (x8 : Int) (r : Int × Int × Int), bk x1 x2 x3 x4 x5 x6 x8 h = some r → GX12_near_75 l h0 h' v h r → PAt l false (mi 242).1 h0 v h' 75 [(0, 16, 113), (1, 0, x1), (2, 0, x2), (3, 0, x3), (4, 0, x4), (5, 0, x5), (6, 1, x6), (8, 0, x8)] [] h) (x1 : Int) (x2 : Int) (x3 : Int) (x4 : Int) (x8 : Int) (x10 : Int) (_ : Hp) {r : Int × Int × Int} (H : JX12_near_156 n bk x1 x2 x3 x4 x8 x10 h = some r) (hG : GX12_near_75 l h0 h' v h r) : PAt l false (mi 242).1 h0 v h' 156 [(0, 16, 113), (1, 0, x1), (2, 0, x2), (3, 0, x3), (4, 0, x4), (8, 0, x8), (10, 1, x10)] [] h :=
  pat_ro ok_sdX12_near_75 rfl rkX12_near h8 (foX12_near_75 n) (frX12_near_75 n) (fun v1 q => by cases q) (List.forall_mem_cons.mpr ⟨(fun a c H => by
      dsimp only at H
      split at H
      · exact hbk _ _ _ _ _ _ _ _ H hG
      · cases H), (List.forall_mem_cons.mpr ⟨(fun a c H => by
      dsimp only at H
      split at H
      · cases H
        exact hG
      · cases H), (fun q9 h9 => by cases h9)⟩)⟩) ((eJX12_near_156 n bk x1 x2 x3 x4 x8 x10 h).symm.trans H)
theorem sBX12_near_75 {l : Launch} {h0 h' : Hp} {v : Int} (h8 : nOf h0 = 148) (n : Nat) (h : Hp) : ∀ (f : Nat) (x1 : Int) (x2 : Int) (x3 : Int) (x4 : Int) (x5 : Int) (x6 : Int) (x8 : Int) {r : Int × Int × Int}, BX12_near_75 n f x1 x2 x3 x4 x5 x6 x8 h = some r → GX12_near_75 l h0 h' v h r → PAt l false (mi 242).1 h0 v h' 75 [(0, 16, 113), (1, 0, x1), (2, 0, x2), (3, 0, x3), (4, 0, x4), (5, 0, x5), (6, 1, x6), (8, 0, x8)] [] h := by
  intro f
  induction f with
  | zero =>
    intro x1 x2 x3 x4 x5 x6 x8 r H _
    have H2 : (none : Option (Int × Int × Int)) = some r := H
    cases H2
  | succ f ih =>
    intro x1 x2 x3 x4 x5 x6 x8 r H hG
    have ihk : ∀ (x1 : Int) (x2 : Int) (x3 : Int) (x4 : Int) (x5 : Int) (x6 : Int) (x8 : Int) (r : Int × Int × Int), BX12_near_75 n f x1 x2 x3 x4 x5 x6 x8 h = some r → GX12_near_75 l h0 h' v h r → PAt l false (mi 242).1 h0 v h' 75 [(0, 16, 113), (1, 0, x1), (2, 0, x2), (3, 0, x3), (4, 0, x4), (5, 0, x5), (6, 1, x6), (8, 0, x8)] [] h := fun x1 x2 x3 x4 x5 x6 x8 r9 a9 b9 => ih x1 x2 x3 x4 x5 x6 x8 a9 b9
    exact pat_ro ok_sdX12_near_75 rfl rkX12_near h8 (foX12_near_75 n) (frX12_near_75 n) (fun v1 q => by cases q) (List.forall_mem_cons.mpr ⟨(fun a c H => by
      dsimp only at H
      split at H
      · exact ih _ _ _ _ _ _ _ H hG
      · cases H), (List.forall_mem_cons.mpr ⟨(fun a c H => by
      dsimp only at H
      split at H
      · cases H
        exact hG
      · cases H), (List.forall_mem_cons.mpr ⟨(fun a c H => by
      dsimp only at H
      split at H
      · exact sJX12_near_156 h8 n (BX12_near_75 n f) ihk _ _ _ _ _ _ h H hG
      · cases H), (fun q9 h9 => by cases h9)⟩)⟩)⟩) ((eBX12_near_75 n f x1 x2 x3 x4 x5 x6 x8 h).symm.trans H)
theorem sJX12_near_170 {l : Launch} {h0 h' : Hp} {v : Int} (h8 : nOf h0 = 148) (n : Nat) (x4 : Int) (x5 : Int) (x6 : Int) (h : Hp) {r : Int × Hp} (H : JX12_near_170 n x4 x5 x6 h = some r) (hG : gWV v h' r) : PAt l false (mi 242).1 h0 v h' 170 [(4, 0, x4), (5, 0, x5), (6, 1, x6)] [] h :=
  pat_w ok_sdX12_near rkX12_near h8 (foX12_near n) (fun v1 h1 q => by
    cases q
    exact ⟨hG.1, fun _ => hG.2⟩) (fun q9 h9 => by cases h9) ((eJX12_near_170 n x4 x5 x6 h).symm.trans H)
theorem sLX12_near_75 {l : Launch} {h0 h' : Hp} {v : Int} (h8 : nOf h0 = 148) (n : Nat) (x1 : Int) (x2 : Int) (x3 : Int) (x4 : Int) (x5 : Int) (x6 : Int) (x8 : Int) (h : Hp) {r : Int × Hp} (H : LX12_near_75 n x1 x2 x3 x4 x5 x6 x8 h = some r) (hG : gWV v h' r) : PAt l false (mi 242).1 h0 v h' 75 [(0, 16, 113), (1, 0, x1), (2, 0, x2), (3, 0, x3), (4, 0, x4), (5, 0, x5), (6, 1, x6), (8, 0, x8)] [] h := by
  obtain ⟨e9, h2, h3⟩ := bndx_some H
  obtain ⟨e4, e5, e6⟩ := e9
  exact sBX12_near_75 h8 n h n x1 x2 x3 x4 x5 x6 x8 h2 (sJX12_near_170 h8 n e4 e5 e6 h h3 hG)
theorem sMX12_near {l : Launch} {h0 h' : Hp} {v : Int} (h8 : nOf h0 = 148) (n : Nat) (x1 : Int) (x2 : Int) (x3 : Int) (x4 : Int) (h : Hp) {r : Int × Hp} (H : MX12_near n x1 x2 x3 x4 h = some r) (hG : gWV v h' r) : PAt l false (mi 242).1 h0 v h' 0 [(0, 16, 113), (1, 0, x1), (2, 0, x2), (3, 0, x3), (4, 0, x4)] [] h :=
  pat_w ok_sdX12_near rkX12_near h8 (foX12_near n) (fun v1 h1 q => by
    cases q
    exact ⟨hG.1, fun _ => hG.2⟩) (List.forall_mem_cons.mpr ⟨(fun a c h H => by
      dsimp only at H
      split at H
      · exact sLX12_near_75 h8 n _ _ _ _ _ _ _ _ H hG
      · cases H), (fun q9 h9 => by cases h9)⟩) ((eMX12_near n x1 x2 x3 x4 h).symm.trans H)
theorem sndX12_near {ρ : Type} {l : Launch} (n : Nat) : SndF (ρ := ρ) l false (mi 242).1 (wX12_near n) := by
    intro a h k r H ha ho hn hf
    have h8 := hf rfl
    obtain ⟨x0, x1, x2, x3, x4, rfl⟩ := len5 (show a.length = 5 from ha)
    have u0 := uq16 hn (ho (16, x0) (List.mem_cons_self))
    subst u0
    replace H : bnd (MX12_near n x1 x2 x3 x4 h) (fun r h2 => k r h2) = some r := H
    obtain ⟨v2, h2, H1, H2⟩ := bnd_some H
    exact ⟨v2, h2, H2, met_mk (mok_base okX12_near).1 (by decide +kernel) (Nat.le_of_ble_eq_true rfl) ho (sMX12_near h8 n x1 x2 x3 x4 h H1 ⟨rfl, rfl⟩), fun q => by cases q⟩
/-! X2_take -/
def sdX2_take : SD := [(0, [(0, .aload_n 0, 1, [], 0), (1, .iconst 0, 1, [], 0), (2, .putfield 16, 3, [2, 1, 0, 0, 0, 544], 0), (5, .iconst 0, 1, [], 0), (6, .istore_n 2, 1, [], 0)]),
  (7, [(7, .iload_n 2, 1, [], 0), (8, .aload_n 1, 1, [], 0), (9, .getfield 20, 3, [7, 0, 14, 0, 362, 1], 0), (12, .getfield 26, 3, [10, 11, 0, 0, 200, 0], 0), (15, .if_icmp .ge 90, 3, [], 0)]),
  (18, [(18, .aload_n 1, 1, [], 0), (19, .getfield 31, 3, [7, 5, 532, 1, 371, 0], 7), (22, .iload_n 2, 1, [], 0), (23, .iaload, 1, [], 0), (24, .iload_n 2, 1, [], 0), (25, .if_icmp .ne 74, 3, [], 0)]),
  (28, [(28, .iconst 0, 1, [], 0), (29, .istore_n 3, 1, [], 0)]),
  (30, [(30, .iload_n 3, 1, [], 0), (31, .iconst 3, 1, [], 0), (32, .if_icmp .ge 57, 3, [], 0)]),
  (35, [(35, .aload_n 0, 1, [], 0), (36, .getfield 11, 3, [2, 0, 74, 1, 543, 0], 1), (39, .iload_n 3, 1, [], 0), (40, .aaload, 1, [], 0), (41, .aload_n 0, 1, [], 0), (42, .getfield 16, 3, [2, 1, 0, 0, 544, 0], 0), (45, .aload_n 1, 1, [], 0), (46, .getfield 20, 3, [7, 0, 14, 0, 362, 1], 0), (49, .getfield 35, 3, [10, 1, 50, 1, 168, 0], 2), (52, .iload_n 3, 1, [], 0), (53, .aaload, 1, [], 0), (54, .iload_n 2, 1, [], 0), (55, .iaload, 1, [], 0), (56, .iastore, 1, [], 0), (57, .aload_n 0, 1, [], 0), (58, .getfield 11, 3, [2, 0, 74, 1, 543, 0], 1), (61, .iconst 3, 1, [], 0), (62, .iload_n 3, 1, [], 0), (63, .iadd, 1, [], 0), (64, .aaload, 1, [], 0), (65, .aload_n 0, 1, [], 0), (66, .getfield 16, 3, [2, 1, 0, 0, 544, 0], 0), (69, .aload_n 1, 1, [], 0), (70, .getfield 20, 3, [7, 0, 14, 0, 362, 1], 0), (73, .getfield 35, 3, [10, 1, 50, 1, 168, 0], 2), (76, .iload_n 3, 1, [], 0), (77, .aaload, 1, [], 0), (78, .iload_n 2, 1, [], 0), (79, .iconst 1, 1, [], 0), (80, .iadd, 1, [], 0), (81, .iaload, 1, [], 0), (82, .iastore, 1, [], 0), (83, .iinc 3 1, 3, [], 0), (86, .goto (-56), 3, [], 0)]),
  (89, [(89, .aload_n 0, 1, [], 0), (90, .dup, 1, [], 0), (91, .getfield 16, 3, [2, 1, 0, 0, 544, 0], 0), (94, .iconst 1, 1, [], 0), (95, .iadd, 1, [], 0), (96, .putfield 16, 3, [2, 1, 0, 0, 0, 544], 0)]),
  (99, [(99, .iinc 2 1, 3, [], 0), (102, .goto (-95), 3, [], 0)]),
  (105, [(105, .aload_n 0, 1, [], 0), (106, .getfield 16, 3, [2, 1, 0, 0, 544, 0], 0), (109, .ireturn, 1, [], 0)])]
def BX2_take_30 (n : Nat) : Nat → Int → Int → Int → Hp → Option (Int × Int × Hp)
  | 0, _, _, _, _ => none
  | f + 1, x0, x2, x3, h =>
    (if 3 ≤ x3 then
    (some (x0, x2, h))
    else
    (grd (0 ≤ x3 ∧ x3 < alen 74)
    (grd (0 ≤ x3 ∧ x3 < alen 50)
    (grd (0 ≤ x2 ∧ x2 < alen 540)
    (grd (0 ≤ (h x0 1) ∧ (h x0 1) < alen 532)
    (ltt (up h ((x0 + 1) + 1 + x3) (h x0 1) (h (((h 39 0) + 2) + 1 + x3) x2)) fun h1 =>
    (grd (0 ≤ (w32 (3 + x3)) ∧ (w32 (3 + x3)) < alen 74)
    (grd (0 ≤ x3 ∧ x3 < alen 50)
    (grd (0 ≤ (w32 (x2 + 1)) ∧ (w32 (x2 + 1)) < alen 540)
    (grd (0 ≤ (h1 x0 1) ∧ (h1 x0 1) < alen 532)
    (ltt (up h1 ((x0 + 1) + 1 + (w32 (3 + x3))) (h1 x0 1) (h1 (((h1 39 0) + 2) + 1 + x3) (w32 (x2 + 1)))) fun h2 =>
    (ltt (w32 (x3 + 1)) fun y1 =>
    (BX2_take_30 n f x0 x2 y1 h2)))))))))))))
def JX2_take_89 (n : Nat) (bk : Int → Int → Hp → Option (Int × Hp)) (x0 x2 : Int) (h : Hp) : Option (Int × Hp) :=
(ltt (up h x0 1 (w32 ((h x0 1) + 1))) fun h1 =>
(ltt (w32 (x2 + 1)) fun y1 =>
(bk x0 y1 h1)))
def LX2_take_30 (n : Nat) (bk : Int → Int → Hp → Option (Int × Hp)) (x0 x2 x3 : Int) (h : Hp) : Option (Int × Hp) :=
(bndx (BX2_take_30 n n x0 x2 x3 h) fun (e0, e2, h1) =>
(JX2_take_89 n bk e0 e2 h1))
def BX2_take_7 (n : Nat) : Nat → Int → Int → Hp → Option (Int × Hp)
  | 0, _, _, _ => none
  | f + 1, x0, x2, h =>
    (if (h (h 39 0) 11) ≤ x2 then
    (some ((h x0 1), h))
    else
    (grd (0 ≤ x2 ∧ x2 < alen 532)
    (if (h 46 x2) ≠ x2 then
    (ltt (w32 (x2 + 1)) fun y1 =>
    (BX2_take_7 n f x0 y1 h))
    else
    (ltt 0 fun y2 =>
    (LX2_take_30 n (BX2_take_7 n f) x0 x2 y2 h)))))
def LX2_take_7 (n : Nat) (x0 x2 : Int) (h : Hp) : Option (Int × Hp) :=
(BX2_take_7 n n x0 x2 h)
def MX2_take (n : Nat) (x0 : Int) (h : Hp) : Option (Int × Hp) :=
(ltt (up h x0 1 0) fun h1 =>
(ltt 0 fun y1 =>
(LX2_take_7 n x0 y1 h1)))
def wX2_take {ρ : Type} (n : Nat) : FN ρ := fun a h k => match a with
  | [x0, _] => bnd (MX2_take n x0 h) (fun r h2 => k r h2)
  | _ => none
def fsX2_take (n : Nat) (ρ : Type) : List (FN ρ) := []
def KBX2_take_30 (_ : Nat) (bk : Int → Int → Int → Hp → Option (Int × Int × Hp)) : CT (Int × Int × Hp) := [(30, [(0, 6, none), (1, 11, (some 39)), (2, 0, none), (3, 0, none)], [], fun a c h => match a, c with
    | [x0, x2, x3], [] => bk x0 x2 x3 h
    | _, _ => none),
  (89, [(0, 6, none), (1, 11, (some 39)), (2, 0, none)], [], fun a c h => match a, c with
    | [x0, x2], [] => some (x0, x2, h)
    | _, _ => none)]
set_option maxRecDepth 100000 in
theorem eBX2_take_30 (n f : Nat) (x0 : Int) (x2 : Int) (x3 : Int) (h : Hp) : BX2_take_30 n (f + 1) x0 x2 x3 h =
  goAt false (kct (KBX2_take_30 n (BX2_take_30 n f))) (fun _ _ => none) (fsX2_take n _) sdX2_take 1000 30 [(0, 6, x0), (1, 11, 39), (2, 0, x2), (3, 0, x3)] [] h := rfl
def KJX2_take_89 (_ : Nat) (bk : Int → Int → Hp → Option (Int × Hp)) : CT (Int × Hp) := [(7, [(0, 6, none), (1, 11, (some 39)), (2, 0, none)], [], fun a c h => match a, c with
    | [x0, x2], [] => bk x0 x2 h
    | _, _ => none)]
set_option maxRecDepth 100000 in
theorem eJX2_take_89 (n : Nat) (bk : Int → Int → Hp → Option (Int × Hp)) (x0 : Int) (x2 : Int) (h : Hp) : JX2_take_89 n bk x0 x2 h =
  goAt false (kct (KJX2_take_89 n bk)) (fun v h => some ((v, h))) (fsX2_take n _) sdX2_take 1000 89 [(0, 6, x0), (1, 11, 39), (2, 0, x2)] [] h := rfl
def KBX2_take_7 (n : Nat) (bk : Int → Int → Hp → Option (Int × Hp)) : CT (Int × Hp) := [(7, [(0, 6, none), (1, 11, (some 39)), (2, 0, none)], [], fun a c h => match a, c with
    | [x0, x2], [] => bk x0 x2 h
    | _, _ => none),
  (30, [(0, 6, none), (1, 11, (some 39)), (2, 0, none), (3, 0, none)], [], fun a c h => match a, c with
    | [x0, x2, x3], [] => LX2_take_30 n bk x0 x2 x3 h
    | _, _ => none)]
set_option maxRecDepth 100000 in
theorem eBX2_take_7 (n f : Nat) (x0 : Int) (x2 : Int) (h : Hp) : BX2_take_7 n (f + 1) x0 x2 h =
  goAt false (kct (KBX2_take_7 n (BX2_take_7 n f))) (fun v h => some ((v, h))) (fsX2_take n _) sdX2_take 1000 7 [(0, 6, x0), (1, 11, 39), (2, 0, x2)] [] h := rfl
def KMX2_take (n : Nat) : CT (Int × Hp) := [(7, [(0, 6, none), (1, 11, (some 39)), (2, 0, none)], [], fun a c h => match a, c with
    | [x0, x2], [] => LX2_take_7 n x0 x2 h
    | _, _ => none)]
set_option maxRecDepth 100000 in
theorem eMX2_take (n : Nat) (x0 : Int) (h : Hp) : MX2_take n x0 h =
  goAt false (kct (KMX2_take n)) (fun v h => some ((v, h))) (fsX2_take n _) sdX2_take 1000 0 [(0, 6, x0), (1, 11, 39)] [] h := rfl
theorem okX2_take : mokb (mi 243) = true := by decide +kernel
theorem rkX2_take : rkOK 1 (mi 243).1.2.2.2.2.2.2.1 (mi 243).1.2.2.2.1 := Or.inr (Or.inl ⟨rfl, rfl, rfl⟩)
def calX2_take : List Nat := []
theorem foX2_take {l : Launch} {ρ : Type} (n : Nat) : fsOK l false mi calX2_take (fsX2_take n ρ) := trivial
theorem ok_sdX2_take : sdb (mi 243).1.2.1 (insOK mi (mi 243).1.1.cls (mi 243).1.2.2.1 (mi 243).1.2.2.2.2.1 (mi 243).1.2.2.2.2.2.1 calX2_take false 1) sdX2_take = true := by decide +kernel
def GX2_take_30 (l : Launch) (h0 : Hp) (h' : Hp) (v : Int) (_ : Hp) : (Int × Int × Hp) → Prop
  | (e0, e2, h1) => PAt l false (mi 243).1 h0 v h' 89 [(0, 6, e0), (1, 11, 39), (2, 0, e2)] [] h1
theorem sBX2_take_30 {l : Launch} {h0 h' : Hp} {v : Int} (h8 : nOf h0 = 148) (n : Nat) : ∀ (f : Nat) (x0 : Int) (x2 : Int) (x3 : Int) (h : Hp) {r : Int × Int × Hp}, BX2_take_30 n f x0 x2 x3 h = some r → GX2_take_30 l h0 h' v h r → PAt l false (mi 243).1 h0 v h' 30 [(0, 6, x0), (1, 11, 39), (2, 0, x2), (3, 0, x3)] [] h := by
  intro f
  induction f with
  | zero =>
    intro x0 x2 x3 h r H _
    have H2 : (none : Option (Int × Int × Hp)) = some r := H
    cases H2
  | succ f ih =>
    intro x0 x2 x3 h r H hG
    exact pat_w ok_sdX2_take rkX2_take h8 (foX2_take n) (fun v1 h1 q => by cases q) (List.forall_mem_cons.mpr ⟨(fun a c h H => by
      dsimp only at H
      split at H
      · exact ih _ _ _ _ H hG
      · cases H), (List.forall_mem_cons.mpr ⟨(fun a c h H => by
      dsimp only at H
      split at H
      · cases H
        exact hG
      · cases H), (fun q9 h9 => by cases h9)⟩)⟩) ((eBX2_take_30 n f x0 x2 x3 h).symm.trans H)
theorem sJX2_take_89 {l : Launch} {h0 h' : Hp} {v : Int} (h8 : nOf h0 = 148) (n : Nat) (bk : Int → Int → Hp → Option (Int × Hp)) (hbk : ∀ (x0 : Int) (x2 : Int) (h : Hp) (r : Int × Hp), bk x0 x2 h = some r → gWV v h' r → PAt l false (mi 243).1 h0 v h' 7 [(0, 6, x0), (1, 11, 39), (2, 0, x2)] [] h) (x0 : Int) (x2 : Int) (h : Hp) {r : Int × Hp} (H : JX2_take_89 n bk x0 x2 h = some r) (hG : gWV v h' r) : PAt l false (mi 243).1 h0 v h' 89 [(0, 6, x0), (1, 11, 39), (2, 0, x2)] [] h :=
  pat_w ok_sdX2_take rkX2_take h8 (foX2_take n) (fun v1 h1 q => by
    cases q
    exact ⟨hG.1, fun _ => hG.2⟩) (List.forall_mem_cons.mpr ⟨(fun a c h H => by
      dsimp only at H
      split at H
      · exact hbk _ _ _ _ H hG
      · cases H), (fun q9 h9 => by cases h9)⟩) ((eJX2_take_89 n bk x0 x2 h).symm.trans H)
theorem sLX2_take_30 {l : Launch} {h0 h' : Hp} {v : Int} (h8 : nOf h0 = 148) (n : Nat) (bk : Int → Int → Hp → Option (Int × Hp)) (hbk : ∀ (x0 : Int) (x2 : Int) (h : Hp) (r : Int × Hp), bk x0 x2 h = some r → gWV v h' r → PAt l false (mi 243).1 h0 v h' 7 [(0, 6, x0), (1, 11, 39), (2, 0, x2)] [] h) (x0 : Int) (x2 : Int) (x3 : Int) (h : Hp) {r : Int × Hp} (H : LX2_take_30 n bk x0 x2 x3 h = some r) (hG : gWV v h' r) : PAt l false (mi 243).1 h0 v h' 30 [(0, 6, x0), (1, 11, 39), (2, 0, x2), (3, 0, x3)] [] h := by
  obtain ⟨e9, h2, h3⟩ := bndx_some H
  obtain ⟨e0, e2, h1⟩ := e9
  exact sBX2_take_30 h8 n n x0 x2 x3 h h2 (sJX2_take_89 h8 n bk hbk e0 e2 h1 h3 hG)
theorem sBX2_take_7 {l : Launch} {h0 h' : Hp} {v : Int} (h8 : nOf h0 = 148) (n : Nat) : ∀ (f : Nat) (x0 : Int) (x2 : Int) (h : Hp) {r : Int × Hp}, BX2_take_7 n f x0 x2 h = some r → gWV v h' r → PAt l false (mi 243).1 h0 v h' 7 [(0, 6, x0), (1, 11, 39), (2, 0, x2)] [] h := by
  intro f
  induction f with
  | zero =>
    intro x0 x2 h r H _
    have H2 : (none : Option (Int × Hp)) = some r := H
    cases H2
  | succ f ih =>
    intro x0 x2 h r H hG
    have ihk : ∀ (x0 : Int) (x2 : Int) (h : Hp) (r : Int × Hp), BX2_take_7 n f x0 x2 h = some r → gWV v h' r → PAt l false (mi 243).1 h0 v h' 7 [(0, 6, x0), (1, 11, 39), (2, 0, x2)] [] h := fun x0 x2 h r9 a9 b9 => ih x0 x2 h a9 b9
    exact pat_w ok_sdX2_take rkX2_take h8 (foX2_take n) (fun v1 h1 q => by
    cases q
    exact ⟨hG.1, fun _ => hG.2⟩) (List.forall_mem_cons.mpr ⟨(fun a c h H => by
      dsimp only at H
      split at H
      · exact ih _ _ _ H hG
      · cases H), (List.forall_mem_cons.mpr ⟨(fun a c h H => by
      dsimp only at H
      split at H
      · exact sLX2_take_30 h8 n (BX2_take_7 n f) ihk _ _ _ _ H hG
      · cases H), (fun q9 h9 => by cases h9)⟩)⟩) ((eBX2_take_7 n f x0 x2 h).symm.trans H)
theorem sLX2_take_7 {l : Launch} {h0 h' : Hp} {v : Int} (h8 : nOf h0 = 148) (n : Nat) (x0 : Int) (x2 : Int) (h : Hp) {r : Int × Hp} (H : LX2_take_7 n x0 x2 h = some r) (hG : gWV v h' r) : PAt l false (mi 243).1 h0 v h' 7 [(0, 6, x0), (1, 11, 39), (2, 0, x2)] [] h :=
  sBX2_take_7 h8 n n x0 x2 h H hG
theorem sMX2_take {l : Launch} {h0 h' : Hp} {v : Int} (h8 : nOf h0 = 148) (n : Nat) (x0 : Int) (h : Hp) {r : Int × Hp} (H : MX2_take n x0 h = some r) (hG : gWV v h' r) : PAt l false (mi 243).1 h0 v h' 0 [(0, 6, x0), (1, 11, 39)] [] h :=
  pat_w ok_sdX2_take rkX2_take h8 (foX2_take n) (fun v1 h1 q => by
    cases q
    exact ⟨hG.1, fun _ => hG.2⟩) (List.forall_mem_cons.mpr ⟨(fun a c h H => by
      dsimp only at H
      split at H
      · exact sLX2_take_7 h8 n _ _ _ H hG
      · cases H), (fun q9 h9 => by cases h9)⟩) ((eMX2_take n x0 h).symm.trans H)
theorem sndX2_take {ρ : Type} {l : Launch} (n : Nat) : SndF (ρ := ρ) l false (mi 243).1 (wX2_take n) := by
    intro a h k r H ha ho hn hf
    have h8 := hf rfl
    obtain ⟨x0, x1, rfl⟩ := len2 (show a.length = 2 from ha)
    have u1 := uq11 hn (ho (11, x1) (List.mem_cons_of_mem _ List.mem_cons_self))
    subst u1
    replace H : bnd (MX2_take n x0 h) (fun r h2 => k r h2) = some r := H
    obtain ⟨v2, h2, H1, H2⟩ := bnd_some H
    exact ⟨v2, h2, H2, met_mk (mok_base okX2_take).1 (by decide +kernel) (Nat.le_of_ble_eq_true rfl) ho (sMX2_take h8 n x0 h H1 ⟨rfl, rfl⟩), fun q => by cases q⟩
/-! X11_keep -/
def sdX11_keep : SD := [(0, [(0, .iload_n 1, 1, [], 0), (1, .ifCond .lt 8, 3, [], 0)]),
  (4, [(4, .iload_n 1, 1, [], 0), (5, .iconst 2, 1, [], 0), (6, .if_icmp .lt 5, 3, [], 0)]),
  (9, [(9, .iconst (-1), 1, [], 0), (10, .ireturn, 1, [], 0)]),
  (11, [(11, .aload_n 0, 1, [], 0), (12, .getfield 81, 3, [11, 12, 41, 1, 702, 0], 93), (15, .iload_n 1, 1, [], 0), (16, .aaload, 1, [], 0), (17, .aload_n 0, 1, [], 0), (18, .getfield 40, 3, [11, 4, 11, 1, 694, 0], 39), (21, .invokevirtual 328, 3, [1, 0, 1, 243, 1264, 11, 6], 0), (24, .ireturn, 1, [], 0)])]
def MX11_keep (n : Nat) (x1 : Int) (h : Hp) : Option (Int × Hp) :=
(if x1 < 0 then
(some ((-1), h))
else
(if x1 < 2 then
(grd (0 ≤ x1 ∧ x1 < alen 41)
(bnd (MX2_take n (94 + 8 * x1) h) fun r1 h1 =>
(some (r1, h1))))
else
(some ((-1), h))))
def wX11_keep {ρ : Type} (n : Nat) : FN ρ := fun a h k => match a with
  | [_, x1] => bnd (MX11_keep n x1 h) (fun r h2 => k r h2)
  | _ => none
def fsX11_keep (n : Nat) (ρ : Type) : List (FN ρ) := [wX2_take n]
def KMX11_keep (_ : Nat) : CT (Int × Hp) := []
set_option maxRecDepth 100000 in
theorem eMX11_keep (n : Nat) (x1 : Int) (h : Hp) : MX11_keep n x1 h =
  goAt false (kct (KMX11_keep n)) (fun v h => some ((v, h))) (fsX11_keep n _) sdX11_keep 1000 0 [(0, 15, 0), (1, 0, x1)] [] h := rfl
theorem okX11_keep : mokb (mi 244) = true := by decide +kernel
theorem rkX11_keep : rkOK 1 (mi 244).1.2.2.2.2.2.2.1 (mi 244).1.2.2.2.1 := Or.inr (Or.inl ⟨rfl, rfl, rfl⟩)
def calX11_keep : List Nat := [243]
theorem foX11_keep {l : Launch} {ρ : Type} (n : Nat) : fsOK l false mi calX11_keep (fsX11_keep n ρ) := ⟨(sndX2_take n), trivial⟩
theorem ok_sdX11_keep : sdb (mi 244).1.2.1 (insOK mi (mi 244).1.1.cls (mi 244).1.2.2.1 (mi 244).1.2.2.2.2.1 (mi 244).1.2.2.2.2.2.1 calX11_keep false 1) sdX11_keep = true := by decide +kernel
theorem sMX11_keep {l : Launch} {h0 h' : Hp} {v : Int} (h8 : nOf h0 = 148) (n : Nat) (x1 : Int) (h : Hp) {r : Int × Hp} (H : MX11_keep n x1 h = some r) (hG : gWV v h' r) : PAt l false (mi 244).1 h0 v h' 0 [(0, 15, 0), (1, 0, x1)] [] h :=
  pat_w ok_sdX11_keep rkX11_keep h8 (foX11_keep n) (fun v1 h1 q => by
    cases q
    exact ⟨hG.1, fun _ => hG.2⟩) (fun q9 h9 => by cases h9) ((eMX11_keep n x1 h).symm.trans H)
theorem sndX11_keep {ρ : Type} {l : Launch} (n : Nat) : SndF (ρ := ρ) l false (mi 244).1 (wX11_keep n) := by
    intro a h k r H ha ho hn hf
    have h8 := hf rfl
    obtain ⟨x0, x1, rfl⟩ := len2 (show a.length = 2 from ha)
    have u0 := uq15 hn (ho (15, x0) (List.mem_cons_self))
    subst u0
    replace H : bnd (MX11_keep n x1 h) (fun r h2 => k r h2) = some r := H
    obtain ⟨v2, h2, H1, H2⟩ := bnd_some H
    exact ⟨v2, h2, H2, met_mk (mok_base okX11_keep).1 (by decide +kernel) (Nat.le_of_ble_eq_true rfl) ho (sMX11_keep h8 n x1 h H1 ⟨rfl, rfl⟩), fun q => by cases q⟩
/-! X12_keep -/
def sdX12_keep : SD := [(0, [(0, .iload_n 1, 1, [], 0), (1, .i2l, 1, [], 0), (2, .lconst 0, 1, [], 0), (3, .lconst 1, 1, [], 0), (4, .invokestatic 217, 3, [1, 0, 3, 81, 1561, 1, 1, 1], 0), (7, .ifCond .ne 5, 3, [], 0)]),
  (10, [(10, .iconst (-1), 1, [], 0), (11, .ireturn, 1, [], 0)]),
  (12, [(12, .iconst 0, 1, [], 0), (13, .istore_n 2, 1, [], 0), (14, .iconst 0, 1, [], 0), (15, .istore_n 3, 1, [], 0)]),
  (16, [(16, .iload_n 3, 1, [], 0), (17, .aload_n 0, 1, [], 0), (18, .getfield 140, 3, [12, 6, 0, 0, 1328, 0], 0), (21, .if_icmp .ge 65, 3, [], 0)]),
  (24, [(24, .aload_n 0, 1, [], 0), (25, .iload_n 3, 1, [], 0), (26, .invokevirtual 528, 3, [1, 1, 1, 211, 1916, 0, 16], 0), (29, .iload_n 3, 1, [], 0), (30, .if_icmp .ne 50, 3, [], 0)]),
  (33, [(33, .iconst 0, 1, [], 0), (34, .istore 4, 2, [], 0)]),
  (36, [(36, .iload 4, 2, [], 0), (38, .bipush 6, 2, [], 0), (40, .if_icmp .ge 37, 3, [], 0)]),
  (43, [(43, .aload_n 0, 1, [], 0), (44, .getfield 101, 3, [12, 60, 6164, 1, 1382, 0], 30), (47, .bipush 6, 2, [], 0), (49, .bipush 64, 2, [], 0), (51, .iload_n 1, 1, [], 0), (52, .imul, 1, [], 0), (53, .iload_n 2, 1, [], 0), (54, .iadd, 1, [], 0), (55, .imul, 1, [], 0), (56, .iload 4, 2, [], 0), (58, .iadd, 1, [], 0), (59, .aload_n 0, 1, [], 0), (60, .getfield 37, 3, [12, 14, 1580, 1, 1336, 0], 9), (63, .iconst 3, 1, [], 0), (64, .iload_n 3, 1, [], 0), (65, .imul, 1, [], 0), (66, .iload 4, 2, [], 0), (68, .iadd, 1, [], 0), (69, .iaload, 1, [], 0), (70, .iastore, 1, [], 0), (71, .iinc 4 1, 3, [], 0), (74, .goto (-38), 3, [], 0)]),
  (77, [(77, .iinc 2 1, 3, [], 0)]),
  (80, [(80, .iinc 3 1, 3, [], 0), (83, .goto (-67), 3, [], 0)]),
  (86, [(86, .aload_n 0, 1, [], 0), (87, .getfield 104, 3, [12, 61, 36, 1, 1383, 0], 31), (90, .iload_n 1, 1, [], 0), (91, .iload_n 2, 1, [], 0), (92, .iastore, 1, [], 0), (93, .iload_n 2, 1, [], 0), (94, .ireturn, 1, [], 0)])]
def BX12_keep_36 (n : Nat) : Nat → Int → Int → Int → Int → Hp → Option (Int × Int × Int × Hp)
  | 0, _, _, _, _, _ => none
  | f + 1, x1, x2, x3, x4, h =>
    (if 6 ≤ x4 then
    (some (x1, x2, x3, h))
    else
    (grd (0 ≤ (w32 ((w32 (3 * x3)) + x4)) ∧ (w32 ((w32 (3 * x3)) + x4)) < alen 1580)
    (grd (0 ≤ (w32 ((w32 (6 * (w32 ((w32 (64 * x1)) + x2)))) + x4)) ∧ (w32 ((w32 (6 * (w32 ((w32 (64 * x1)) + x2)))) + x4)) < alen 6164)
    (ltt (up h 143 (w32 ((w32 (6 * (w32 ((w32 (64 * x1)) + x2)))) + x4)) (h 122 (w32 ((w32 (3 * x3)) + x4)))) fun h1 =>
    (ltt (w32 (x4 + 1)) fun y1 =>
    (BX12_keep_36 n f x1 x2 x3 y1 h1))))))
def JX12_keep_77 (n : Nat) (bk : Int → Int → Int → Hp → Option (Int × Hp)) (x1 x2 x3 : Int) (h : Hp) : Option (Int × Hp) :=
(ltt (w32 (x2 + 1)) fun y1 =>
(ltt (w32 (x3 + 1)) fun y2 =>
(bk x1 y1 y2 h)))
def LX12_keep_36 (n : Nat) (bk : Int → Int → Int → Hp → Option (Int × Hp)) (x1 x2 x3 x4 : Int) (h : Hp) : Option (Int × Hp) :=
(bndx (BX12_keep_36 n n x1 x2 x3 x4 h) fun (e1, e2, e3, h1) =>
(JX12_keep_77 n bk e1 e2 e3 h1))
def BX12_keep_16 (n : Nat) : Nat → Int → Int → Int → Hp → Option (Int × Hp)
  | 0, _, _, _, _ => none
  | f + 1, x1, x2, x3, h =>
    (if (h 113 6) ≤ x3 then
    (grd (0 ≤ x1 ∧ x1 < alen 36)
    (ltt (up h 144 x1 x2) fun h1 =>
    (some (x2, h1))))
    else
    (bndp (MX12_firstLike n x3 h) fun r1 =>
    (if r1 ≠ x3 then
    (ltt (w32 (x3 + 1)) fun y1 =>
    (BX12_keep_16 n f x1 x2 y1 h))
    else
    (ltt 0 fun y2 =>
    (LX12_keep_36 n (BX12_keep_16 n f) x1 x2 x3 y2 h)))))
def LX12_keep_16 (n : Nat) (x1 x2 x3 : Int) (h : Hp) : Option (Int × Hp) :=
(BX12_keep_16 n n x1 x2 x3 h)
def MX12_keep (n : Nat) (x1 : Int) (h : Hp) : Option (Int × Hp) :=
(bndp (MX12_in x1 0 1) fun r1 =>
(if r1 ≠ 0 then
(ltt 0 fun y1 =>
(ltt 0 fun y2 =>
(LX12_keep_16 n x1 y1 y2 h)))
else
(some ((-1), h))))
def wX12_keep {ρ : Type} (n : Nat) : FN ρ := fun a h k => match a with
  | [_, x1] => bnd (MX12_keep n x1 h) (fun r h2 => k r h2)
  | _ => none
def fsX12_keep (n : Nat) (ρ : Type) : List (FN ρ) := [wX12_in, wX12_firstLike n]
def KBX12_keep_36 (_ : Nat) (bk : Int → Int → Int → Int → Hp → Option (Int × Int × Int × Hp)) : CT (Int × Int × Int × Hp) := [(36, [(0, 16, (some 113)), (1, 0, none), (2, 0, none), (3, 0, none), (4, 0, none)], [], fun a c h => match a, c with
    | [x1, x2, x3, x4], [] => bk x1 x2 x3 x4 h
    | _, _ => none),
  (77, [(0, 16, (some 113)), (1, 0, none), (2, 0, none), (3, 0, none)], [], fun a c h => match a, c with
    | [x1, x2, x3], [] => some (x1, x2, x3, h)
    | _, _ => none)]
set_option maxRecDepth 100000 in
theorem eBX12_keep_36 (n f : Nat) (x1 : Int) (x2 : Int) (x3 : Int) (x4 : Int) (h : Hp) : BX12_keep_36 n (f + 1) x1 x2 x3 x4 h =
  goAt false (kct (KBX12_keep_36 n (BX12_keep_36 n f))) (fun _ _ => none) (fsX12_keep n _) sdX12_keep 1000 36 [(0, 16, 113), (1, 0, x1), (2, 0, x2), (3, 0, x3), (4, 0, x4)] [] h := rfl
def KJX12_keep_77 (_ : Nat) (bk : Int → Int → Int → Hp → Option (Int × Hp)) : CT (Int × Hp) := [(16, [(0, 16, (some 113)), (1, 0, none), (2, 0, none), (3, 0, none)], [], fun a c h => match a, c with
    | [x1, x2, x3], [] => bk x1 x2 x3 h
    | _, _ => none)]
set_option maxRecDepth 100000 in
theorem eJX12_keep_77 (n : Nat) (bk : Int → Int → Int → Hp → Option (Int × Hp)) (x1 : Int) (x2 : Int) (x3 : Int) (h : Hp) : JX12_keep_77 n bk x1 x2 x3 h =
  goAt false (kct (KJX12_keep_77 n bk)) (fun v h => some ((v, h))) (fsX12_keep n _) sdX12_keep 1000 77 [(0, 16, 113), (1, 0, x1), (2, 0, x2), (3, 0, x3)] [] h := rfl
def KBX12_keep_16 (n : Nat) (bk : Int → Int → Int → Hp → Option (Int × Hp)) : CT (Int × Hp) := [(16, [(0, 16, (some 113)), (1, 0, none), (2, 0, none), (3, 0, none)], [], fun a c h => match a, c with
    | [x1, x2, x3], [] => bk x1 x2 x3 h
    | _, _ => none),
  (36, [(0, 16, (some 113)), (1, 0, none), (2, 0, none), (3, 0, none), (4, 0, none)], [], fun a c h => match a, c with
    | [x1, x2, x3, x4], [] => LX12_keep_36 n bk x1 x2 x3 x4 h
    | _, _ => none)]
set_option maxRecDepth 100000 in
theorem eBX12_keep_16 (n f : Nat) (x1 : Int) (x2 : Int) (x3 : Int) (h : Hp) : BX12_keep_16 n (f + 1) x1 x2 x3 h =
  goAt false (kct (KBX12_keep_16 n (BX12_keep_16 n f))) (fun v h => some ((v, h))) (fsX12_keep n _) sdX12_keep 1000 16 [(0, 16, 113), (1, 0, x1), (2, 0, x2), (3, 0, x3)] [] h := rfl
def KMX12_keep (n : Nat) : CT (Int × Hp) := [(16, [(0, 16, (some 113)), (1, 0, none), (2, 0, none), (3, 0, none)], [], fun a c h => match a, c with
    | [x1, x2, x3], [] => LX12_keep_16 n x1 x2 x3 h
    | _, _ => none)]
set_option maxRecDepth 100000 in
theorem eMX12_keep (n : Nat) (x1 : Int) (h : Hp) : MX12_keep n x1 h =
  goAt false (kct (KMX12_keep n)) (fun v h => some ((v, h))) (fsX12_keep n _) sdX12_keep 1000 0 [(0, 16, 113), (1, 0, x1)] [] h := rfl
theorem okX12_keep : mokb (mi 245) = true := by decide +kernel
theorem rkX12_keep : rkOK 1 (mi 245).1.2.2.2.2.2.2.1 (mi 245).1.2.2.2.1 := Or.inr (Or.inl ⟨rfl, rfl, rfl⟩)
def calX12_keep : List Nat := [81, 211]
theorem foX12_keep {l : Launch} {ρ : Type} (n : Nat) : fsOK l false mi calX12_keep (fsX12_keep n ρ) := ⟨sndX12_in, ⟨(sndX12_firstLike n), trivial⟩⟩
theorem ok_sdX12_keep : sdb (mi 245).1.2.1 (insOK mi (mi 245).1.1.cls (mi 245).1.2.2.1 (mi 245).1.2.2.2.2.1 (mi 245).1.2.2.2.2.2.1 calX12_keep false 1) sdX12_keep = true := by decide +kernel
def GX12_keep_36 (l : Launch) (h0 : Hp) (h' : Hp) (v : Int) (_ : Hp) : (Int × Int × Int × Hp) → Prop
  | (e1, e2, e3, h1) => PAt l false (mi 245).1 h0 v h' 77 [(0, 16, 113), (1, 0, e1), (2, 0, e2), (3, 0, e3)] [] h1
theorem sBX12_keep_36 {l : Launch} {h0 h' : Hp} {v : Int} (h8 : nOf h0 = 148) (n : Nat) : ∀ (f : Nat) (x1 : Int) (x2 : Int) (x3 : Int) (x4 : Int) (h : Hp) {r : Int × Int × Int × Hp}, BX12_keep_36 n f x1 x2 x3 x4 h = some r → GX12_keep_36 l h0 h' v h r → PAt l false (mi 245).1 h0 v h' 36 [(0, 16, 113), (1, 0, x1), (2, 0, x2), (3, 0, x3), (4, 0, x4)] [] h := by
  intro f
  induction f with
  | zero =>
    intro x1 x2 x3 x4 h r H _
    have H2 : (none : Option (Int × Int × Int × Hp)) = some r := H
    cases H2
  | succ f ih =>
    intro x1 x2 x3 x4 h r H hG
    exact pat_w ok_sdX12_keep rkX12_keep h8 (foX12_keep n) (fun v1 h1 q => by cases q) (List.forall_mem_cons.mpr ⟨(fun a c h H => by
      dsimp only at H
      split at H
      · exact ih _ _ _ _ _ H hG
      · cases H), (List.forall_mem_cons.mpr ⟨(fun a c h H => by
      dsimp only at H
      split at H
      · cases H
        exact hG
      · cases H), (fun q9 h9 => by cases h9)⟩)⟩) ((eBX12_keep_36 n f x1 x2 x3 x4 h).symm.trans H)
theorem sJX12_keep_77 {l : Launch} {h0 h' : Hp} {v : Int} (h8 : nOf h0 = 148) (n : Nat) (bk : Int → Int → Int → Hp → Option (Int × Hp)) (hbk : ∀ (x1 : Int) (x2 : Int) (x3 : Int) (h : Hp) (r : Int × Hp), bk x1 x2 x3 h = some r → gWV v h' r → PAt l false (mi 245).1 h0 v h' 16 [(0, 16, 113), (1, 0, x1), (2, 0, x2), (3, 0, x3)] [] h) (x1 : Int) (x2 : Int) (x3 : Int) (h : Hp) {r : Int × Hp} (H : JX12_keep_77 n bk x1 x2 x3 h = some r) (hG : gWV v h' r) : PAt l false (mi 245).1 h0 v h' 77 [(0, 16, 113), (1, 0, x1), (2, 0, x2), (3, 0, x3)] [] h :=
  pat_w ok_sdX12_keep rkX12_keep h8 (foX12_keep n) (fun v1 h1 q => by
    cases q
    exact ⟨hG.1, fun _ => hG.2⟩) (List.forall_mem_cons.mpr ⟨(fun a c h H => by
      dsimp only at H
      split at H
      · exact hbk _ _ _ _ _ H hG
      · cases H), (fun q9 h9 => by cases h9)⟩) ((eJX12_keep_77 n bk x1 x2 x3 h).symm.trans H)
theorem sLX12_keep_36 {l : Launch} {h0 h' : Hp} {v : Int} (h8 : nOf h0 = 148) (n : Nat) (bk : Int → Int → Int → Hp → Option (Int × Hp)) (hbk : ∀ (x1 : Int) (x2 : Int) (x3 : Int) (h : Hp) (r : Int × Hp), bk x1 x2 x3 h = some r → gWV v h' r → PAt l false (mi 245).1 h0 v h' 16 [(0, 16, 113), (1, 0, x1), (2, 0, x2), (3, 0, x3)] [] h) (x1 : Int) (x2 : Int) (x3 : Int) (x4 : Int) (h : Hp) {r : Int × Hp} (H : LX12_keep_36 n bk x1 x2 x3 x4 h = some r) (hG : gWV v h' r) : PAt l false (mi 245).1 h0 v h' 36 [(0, 16, 113), (1, 0, x1), (2, 0, x2), (3, 0, x3), (4, 0, x4)] [] h := by
  obtain ⟨e9, h2, h3⟩ := bndx_some H
  obtain ⟨e1, e2, e3, h1⟩ := e9
  exact sBX12_keep_36 h8 n n x1 x2 x3 x4 h h2 (sJX12_keep_77 h8 n bk hbk e1 e2 e3 h1 h3 hG)
theorem sBX12_keep_16 {l : Launch} {h0 h' : Hp} {v : Int} (h8 : nOf h0 = 148) (n : Nat) : ∀ (f : Nat) (x1 : Int) (x2 : Int) (x3 : Int) (h : Hp) {r : Int × Hp}, BX12_keep_16 n f x1 x2 x3 h = some r → gWV v h' r → PAt l false (mi 245).1 h0 v h' 16 [(0, 16, 113), (1, 0, x1), (2, 0, x2), (3, 0, x3)] [] h := by
  intro f
  induction f with
  | zero =>
    intro x1 x2 x3 h r H _
    have H2 : (none : Option (Int × Hp)) = some r := H
    cases H2
  | succ f ih =>
    intro x1 x2 x3 h r H hG
    have ihk : ∀ (x1 : Int) (x2 : Int) (x3 : Int) (h : Hp) (r : Int × Hp), BX12_keep_16 n f x1 x2 x3 h = some r → gWV v h' r → PAt l false (mi 245).1 h0 v h' 16 [(0, 16, 113), (1, 0, x1), (2, 0, x2), (3, 0, x3)] [] h := fun x1 x2 x3 h r9 a9 b9 => ih x1 x2 x3 h a9 b9
    exact pat_w ok_sdX12_keep rkX12_keep h8 (foX12_keep n) (fun v1 h1 q => by
    cases q
    exact ⟨hG.1, fun _ => hG.2⟩) (List.forall_mem_cons.mpr ⟨(fun a c h H => by
      dsimp only at H
      split at H
      · exact ih _ _ _ _ H hG
      · cases H), (List.forall_mem_cons.mpr ⟨(fun a c h H => by
      dsimp only at H
      split at H
      · exact sLX12_keep_36 h8 n (BX12_keep_16 n f) ihk _ _ _ _ _ H hG
      · cases H), (fun q9 h9 => by cases h9)⟩)⟩) ((eBX12_keep_16 n f x1 x2 x3 h).symm.trans H)
theorem sLX12_keep_16 {l : Launch} {h0 h' : Hp} {v : Int} (h8 : nOf h0 = 148) (n : Nat) (x1 : Int) (x2 : Int) (x3 : Int) (h : Hp) {r : Int × Hp} (H : LX12_keep_16 n x1 x2 x3 h = some r) (hG : gWV v h' r) : PAt l false (mi 245).1 h0 v h' 16 [(0, 16, 113), (1, 0, x1), (2, 0, x2), (3, 0, x3)] [] h :=
  sBX12_keep_16 h8 n n x1 x2 x3 h H hG
theorem sMX12_keep {l : Launch} {h0 h' : Hp} {v : Int} (h8 : nOf h0 = 148) (n : Nat) (x1 : Int) (h : Hp) {r : Int × Hp} (H : MX12_keep n x1 h = some r) (hG : gWV v h' r) : PAt l false (mi 245).1 h0 v h' 0 [(0, 16, 113), (1, 0, x1)] [] h :=
  pat_w ok_sdX12_keep rkX12_keep h8 (foX12_keep n) (fun v1 h1 q => by
    cases q
    exact ⟨hG.1, fun _ => hG.2⟩) (List.forall_mem_cons.mpr ⟨(fun a c h H => by
      dsimp only at H
      split at H
      · exact sLX12_keep_16 h8 n _ _ _ _ H hG
      · cases H), (fun q9 h9 => by cases h9)⟩) ((eMX12_keep n x1 h).symm.trans H)
theorem sndX12_keep {ρ : Type} {l : Launch} (n : Nat) : SndF (ρ := ρ) l false (mi 245).1 (wX12_keep n) := by
    intro a h k r H ha ho hn hf
    have h8 := hf rfl
    obtain ⟨x0, x1, rfl⟩ := len2 (show a.length = 2 from ha)
    have u0 := uq16 hn (ho (16, x0) (List.mem_cons_self))
    subst u0
    replace H : bnd (MX12_keep n x1 h) (fun r h2 => k r h2) = some r := H
    obtain ⟨v2, h2, H1, H2⟩ := bnd_some H
    exact ⟨v2, h2, H2, met_mk (mok_base okX12_keep).1 (by decide +kernel) (Nat.le_of_ble_eq_true rfl) ho (sMX12_keep h8 n x1 h H1 ⟨rfl, rfl⟩), fun q => by cases q⟩
/-! X2_isEnd -/
def sdX2_isEnd : SD := [(0, [(0, .aload_n 0, 1, [], 0), (1, .getfield 11, 3, [2, 0, 74, 1, 543, 0], 1), (4, .iload_n 2, 1, [], 0), (5, .aaload, 1, [], 0), (6, .iload_n 1, 1, [], 0), (7, .iaload, 1, [], 0), (8, .aload_n 3, 1, [], 0), (9, .getfield 35, 3, [10, 1, 50, 1, 168, 0], 2), (12, .iconst 0, 1, [], 0), (13, .aaload, 1, [], 0), (14, .iload 4, 2, [], 0), (16, .iaload, 1, [], 0), (17, .if_icmp .ne 51, 3, [], 0)]),
  (20, [(20, .aload_n 0, 1, [], 0), (21, .getfield 11, 3, [2, 0, 74, 1, 543, 0], 1), (24, .iload_n 2, 1, [], 0), (25, .iconst 1, 1, [], 0), (26, .iadd, 1, [], 0), (27, .aaload, 1, [], 0), (28, .iload_n 1, 1, [], 0), (29, .iaload, 1, [], 0), (30, .aload_n 3, 1, [], 0), (31, .getfield 35, 3, [10, 1, 50, 1, 168, 0], 2), (34, .iconst 1, 1, [], 0), (35, .aaload, 1, [], 0), (36, .iload 4, 2, [], 0), (38, .iaload, 1, [], 0), (39, .if_icmp .ne 29, 3, [], 0)]),
  (42, [(42, .aload_n 0, 1, [], 0), (43, .getfield 11, 3, [2, 0, 74, 1, 543, 0], 1), (46, .iload_n 2, 1, [], 0), (47, .iconst 2, 1, [], 0), (48, .iadd, 1, [], 0), (49, .aaload, 1, [], 0), (50, .iload_n 1, 1, [], 0), (51, .iaload, 1, [], 0), (52, .aload_n 3, 1, [], 0), (53, .getfield 35, 3, [10, 1, 50, 1, 168, 0], 2), (56, .iconst 2, 1, [], 0), (57, .aaload, 1, [], 0), (58, .iload 4, 2, [], 0), (60, .iaload, 1, [], 0), (61, .if_icmp .ne 7, 3, [], 0)]),
  (64, [(64, .iconst 1, 1, [], 0), (65, .goto 4, 3, [], 0)]),
  (68, [(68, .iconst 0, 1, [], 0)]),
  (69, [(69, .ireturn, 1, [1], 0)])]
def MX2_isEnd (x0 x1 x2 x3 x4 : Int) (h : Hp) : Option (Int) :=
(grd (0 ≤ x2 ∧ x2 < alen 74)
(grd (0 ≤ x1 ∧ x1 < alen 532)
(grd (0 ≤ 0 ∧ 0 < alen 50)
(grd (0 ≤ x4 ∧ x4 < alen 540)
(if (h ((x0 + 1) + 1 + x2) x1) ≠ (h ((x3 + 2) + 1 + 0) x4) then
(some 0)
else
(grd (0 ≤ (w32 (x2 + 1)) ∧ (w32 (x2 + 1)) < alen 74)
(grd (0 ≤ x1 ∧ x1 < alen 532)
(grd (0 ≤ 1 ∧ 1 < alen 50)
(grd (0 ≤ x4 ∧ x4 < alen 540)
(if (h ((x0 + 1) + 1 + (w32 (x2 + 1))) x1) ≠ (h ((x3 + 2) + 1 + 1) x4) then
(some 0)
else
(grd (0 ≤ (w32 (x2 + 2)) ∧ (w32 (x2 + 2)) < alen 74)
(grd (0 ≤ x1 ∧ x1 < alen 532)
(grd (0 ≤ 2 ∧ 2 < alen 50)
(grd (0 ≤ x4 ∧ x4 < alen 540)
(if (h ((x0 + 1) + 1 + (w32 (x2 + 2))) x1) ≠ (h ((x3 + 2) + 1 + 2) x4) then
(some 0)
else
(some 1))))))))))))))))
def wX2_isEnd {ρ : Type} : FN ρ := fun a h k => match a with
  | [x0, x1, x2, x3, x4] => bndp (MX2_isEnd x0 x1 x2 x3 x4 h) (fun r => k r h)
  | _ => none
def fsX2_isEnd (ρ : Type) : List (FN ρ) := []
def KMX2_isEnd  : CT (Int) := []
set_option maxRecDepth 100000 in
theorem eMX2_isEnd (x0 : Int) (x1 : Int) (x2 : Int) (x3 : Int) (x4 : Int) (h : Hp) : MX2_isEnd x0 x1 x2 x3 x4 h =
  goAt false (kct (KMX2_isEnd)) (fun v _ => some (v)) (fsX2_isEnd _) sdX2_isEnd 1000 0 [(0, 6, x0), (1, 0, x1), (2, 0, x2), (3, 14, x3), (4, 0, x4)] [] h := rfl
theorem okX2_isEnd : mokb (mi 246) = true := by decide +kernel
theorem rkX2_isEnd : rkOK 4 (mi 246).1.2.2.2.2.2.2.1 (mi 246).1.2.2.2.1 := Or.inr (Or.inr (Or.inl ⟨rfl, rfl, rfl⟩))
def calX2_isEnd : List Nat := []
theorem foX2_isEnd {l : Launch} {ρ : Type} : fsOK l false mi calX2_isEnd (fsX2_isEnd ρ) := trivial
theorem frX2_isEnd {ρ : Type} : ∀ fn ∈ fsX2_isEnd ρ, RoF fn := (fun q9 h9 => by cases h9)
theorem ok_sdX2_isEnd : sdb (mi 246).1.2.1 (insOK mi (mi 246).1.1.cls (mi 246).1.2.2.1 (mi 246).1.2.2.2.2.1 (mi 246).1.2.2.2.2.2.1 calX2_isEnd false 4) sdX2_isEnd = true := by decide +kernel
theorem sMX2_isEnd {l : Launch} {h0 : Hp} {v : Int} (h8 : nOf h0 = 148)  (x0 : Int) (x1 : Int) (x2 : Int) (x3 : Int) (x4 : Int) (h : Hp) {r : Int} (H : MX2_isEnd x0 x1 x2 x3 x4 h = some r) (hG : gV v r) : PAt l false (mi 246).1 h0 v h 0 [(0, 6, x0), (1, 0, x1), (2, 0, x2), (3, 14, x3), (4, 0, x4)] [] h :=
  pat_ro ok_sdX2_isEnd rfl rkX2_isEnd h8 (foX2_isEnd) (frX2_isEnd) (fun v1 q => by
    cases q
    exact ⟨rfl, fun _ => hG⟩) (fun q9 h9 => by cases h9) ((eMX2_isEnd x0 x1 x2 x3 x4 h).symm.trans H)
theorem sndX2_isEnd {ρ : Type} {l : Launch} : SndF (ρ := ρ) l false (mi 246).1 (wX2_isEnd) := by
    intro a h k r H ha ho hn hf
    have h8 := hf rfl
    obtain ⟨x0, x1, x2, x3, x4, rfl⟩ := len5 (show a.length = 5 from ha)
    replace H : bndp (MX2_isEnd x0 x1 x2 x3 x4 h) (fun r => k r h) = some r := H
    obtain ⟨v2, H1, H2⟩ := bndp_some H
    exact ⟨v2, h, H2, met_mk (mok_base okX2_isEnd).1 (by decide +kernel) (Nat.le_of_ble_eq_true rfl) ho (sMX2_isEnd h8 x0 x1 x2 x3 x4 h H1 rfl), fun q => by cases q⟩
theorem roX2_isEnd {ρ : Type} : RoF (wX2_isEnd : FN ρ) := fun a h k k2 hk => by
  unfold wX2_isEnd
  split
  · exact bndp_ro hk
  · rfl
/-! X2_holds -/
def sdX2_holds : SD := [(0, [(0, .iconst 0, 1, [], 0), (1, .istore_n 3, 1, [], 0)]),
  (2, [(2, .iload_n 3, 1, [], 0), (3, .aload_n 0, 1, [], 0), (4, .getfield 16, 3, [2, 1, 0, 0, 544, 0], 0), (7, .if_icmp .ge 59, 3, [], 0)]),
  (10, [(10, .aload_n 0, 1, [], 0), (11, .iload_n 3, 1, [], 0), (12, .iconst 0, 1, [], 0), (13, .aload_n 1, 1, [], 0), (14, .iload_n 2, 1, [], 0), (15, .invokevirtual 42, 3, [1, 0, 1, 246, 1280, 0, 14, 0, 0, 6], 0), (18, .ifCond .eq 16, 3, [], 0)]),
  (21, [(21, .aload_n 0, 1, [], 0), (22, .iload_n 3, 1, [], 0), (23, .iconst 3, 1, [], 0), (24, .aload_n 1, 1, [], 0), (25, .iload_n 2, 1, [], 0), (26, .iconst 1, 1, [], 0), (27, .iadd, 1, [], 0), (28, .invokevirtual 42, 3, [1, 0, 1, 246, 1280, 0, 14, 0, 0, 6], 0), (31, .ifCond .ne 27, 3, [], 0)]),
  (34, [(34, .aload_n 0, 1, [], 0), (35, .iload_n 3, 1, [], 0), (36, .iconst 0, 1, [], 0), (37, .aload_n 1, 1, [], 0), (38, .iload_n 2, 1, [], 0), (39, .iconst 1, 1, [], 0), (40, .iadd, 1, [], 0), (41, .invokevirtual 42, 3, [1, 0, 1, 246, 1280, 0, 14, 0, 0, 6], 0), (44, .ifCond .eq 16, 3, [], 0)]),
  (47, [(47, .aload_n 0, 1, [], 0), (48, .iload_n 3, 1, [], 0), (49, .iconst 3, 1, [], 0), (50, .aload_n 1, 1, [], 0), (51, .iload_n 2, 1, [], 0), (52, .invokevirtual 42, 3, [1, 0, 1, 246, 1280, 0, 14, 0, 0, 6], 0), (55, .ifCond .eq 5, 3, [], 0)]),
  (58, [(58, .iconst 1, 1, [], 0), (59, .ireturn, 1, [1], 0)]),
  (60, [(60, .iinc 3 1, 3, [], 0), (63, .goto (-61), 3, [], 0)]),
  (66, [(66, .iconst 0, 1, [], 0), (67, .ireturn, 1, [1], 0)])]
def JX2_holds_34 (n : Nat) (bk : Int → Int → Int → Int → Hp → Option (Int)) (x0 x1 x2 x3 : Int) (h : Hp) : Option (Int) :=
(bndp (MX2_isEnd x0 x3 0 x1 (w32 (x2 + 1)) h) fun r1 =>
(if r1 = 0 then
(ltt (w32 (x3 + 1)) fun y1 =>
(bk x0 x1 x2 y1 h))
else
(bndp (MX2_isEnd x0 x3 3 x1 x2 h) fun r2 =>
(if r2 = 0 then
(ltt (w32 (x3 + 1)) fun y2 =>
(bk x0 x1 x2 y2 h))
else
(some 1)))))
def BX2_holds_2 (n : Nat) : Nat → Int → Int → Int → Int → Hp → Option (Int)
  | 0, _, _, _, _, _ => none
  | f + 1, x0, x1, x2, x3, h =>
    (if (h x0 1) ≤ x3 then
    (some 0)
    else
    (bndp (MX2_isEnd x0 x3 0 x1 x2 h) fun r1 =>
    (if r1 = 0 then
    (JX2_holds_34 n (BX2_holds_2 n f) x0 x1 x2 x3 h)
    else
    (bndp (MX2_isEnd x0 x3 3 x1 (w32 (x2 + 1)) h) fun r2 =>
    (if r2 ≠ 0 then
    (some 1)
    else
    (JX2_holds_34 n (BX2_holds_2 n f) x0 x1 x2 x3 h))))))
def LX2_holds_2 (n : Nat) (x0 x1 x2 x3 : Int) (h : Hp) : Option (Int) :=
(BX2_holds_2 n n x0 x1 x2 x3 h)
def MX2_holds (n : Nat) (x0 x1 x2 : Int) (h : Hp) : Option (Int) :=
(ltt 0 fun y1 =>
(LX2_holds_2 n x0 x1 x2 y1 h))
def wX2_holds {ρ : Type} (n : Nat) : FN ρ := fun a h k => match a with
  | [x0, x1, x2] => bndp (MX2_holds n x0 x1 x2 h) (fun r => k r h)
  | _ => none
def fsX2_holds (n : Nat) (ρ : Type) : List (FN ρ) := [wX2_isEnd]
def KJX2_holds_34 (_ : Nat) (bk : Int → Int → Int → Int → Hp → Option (Int)) : CT (Int) := [(2, [(0, 6, none), (1, 14, none), (2, 0, none), (3, 0, none)], [], fun a c h => match a, c with
    | [x0, x1, x2, x3], [] => bk x0 x1 x2 x3 h
    | _, _ => none)]
set_option maxRecDepth 100000 in
theorem eJX2_holds_34 (n : Nat) (bk : Int → Int → Int → Int → Hp → Option (Int)) (x0 : Int) (x1 : Int) (x2 : Int) (x3 : Int) (h : Hp) : JX2_holds_34 n bk x0 x1 x2 x3 h =
  goAt false (kct (KJX2_holds_34 n bk)) (fun v _ => some (v)) (fsX2_holds n _) sdX2_holds 1000 34 [(0, 6, x0), (1, 14, x1), (2, 0, x2), (3, 0, x3)] [] h := rfl
def KBX2_holds_2 (n : Nat) (bk : Int → Int → Int → Int → Hp → Option (Int)) : CT (Int) := [(2, [(0, 6, none), (1, 14, none), (2, 0, none), (3, 0, none)], [], fun a c h => match a, c with
    | [x0, x1, x2, x3], [] => bk x0 x1 x2 x3 h
    | _, _ => none),
  (34, [(0, 6, none), (1, 14, none), (2, 0, none), (3, 0, none)], [], fun a c h => match a, c with
    | [x0, x1, x2, x3], [] => JX2_holds_34 n bk x0 x1 x2 x3 h
    | _, _ => none)]
set_option maxRecDepth 100000 in
theorem eBX2_holds_2 (n f : Nat) (x0 : Int) (x1 : Int) (x2 : Int) (x3 : Int) (h : Hp) : BX2_holds_2 n (f + 1) x0 x1 x2 x3 h =
  goAt false (kct (KBX2_holds_2 n (BX2_holds_2 n f))) (fun v _ => some (v)) (fsX2_holds n _) sdX2_holds 1000 2 [(0, 6, x0), (1, 14, x1), (2, 0, x2), (3, 0, x3)] [] h := rfl
def KMX2_holds (n : Nat) : CT (Int) := [(2, [(0, 6, none), (1, 14, none), (2, 0, none), (3, 0, none)], [], fun a c h => match a, c with
    | [x0, x1, x2, x3], [] => LX2_holds_2 n x0 x1 x2 x3 h
    | _, _ => none)]
set_option maxRecDepth 100000 in
theorem eMX2_holds (n : Nat) (x0 : Int) (x1 : Int) (x2 : Int) (h : Hp) : MX2_holds n x0 x1 x2 h =
  goAt false (kct (KMX2_holds n)) (fun v _ => some (v)) (fsX2_holds n _) sdX2_holds 1000 0 [(0, 6, x0), (1, 14, x1), (2, 0, x2)] [] h := rfl
theorem okX2_holds : mokb (mi 247) = true := by decide +kernel
theorem rkX2_holds : rkOK 4 (mi 247).1.2.2.2.2.2.2.1 (mi 247).1.2.2.2.1 := Or.inr (Or.inr (Or.inl ⟨rfl, rfl, rfl⟩))
def calX2_holds : List Nat := [246]
theorem foX2_holds {l : Launch} {ρ : Type} (n : Nat) : fsOK l false mi calX2_holds (fsX2_holds n ρ) := ⟨sndX2_isEnd, trivial⟩
theorem frX2_holds {ρ : Type} (n : Nat) : ∀ fn ∈ fsX2_holds n ρ, RoF fn := (List.forall_mem_cons.mpr ⟨roX2_isEnd, (fun q9 h9 => by cases h9)⟩)
theorem ok_sdX2_holds : sdb (mi 247).1.2.1 (insOK mi (mi 247).1.1.cls (mi 247).1.2.2.1 (mi 247).1.2.2.2.2.1 (mi 247).1.2.2.2.2.2.1 calX2_holds false 4) sdX2_holds = true := by decide +kernel
theorem sJX2_holds_34 {l : Launch} {h0 : Hp} {v : Int} (h8 : nOf h0 = 148) (n : Nat) (bk : Int → Int → Int → Int → Hp → Option (Int)) {h : Hp} (hbk : ∀ (x0 : Int) (x1 : Int) (x2 : Int) (x3 : Int) (r : Int), bk x0 x1 x2 x3 h = some r → gV v r → PAt l false (mi 247).1 h0 v h 2 [(0, 6, x0), (1, 14, x1), (2, 0, x2), (3, 0, x3)] [] h) (x0 : Int) (x1 : Int) (x2 : Int) (x3 : Int) (_ : Hp) {r : Int} (H : JX2_holds_34 n bk x0 x1 x2 x3 h = some r) (hG : gV v r) : PAt l false (mi 247).1 h0 v h 34 [(0, 6, x0), (1, 14, x1), (2, 0, x2), (3, 0, x3)] [] h :=
  pat_ro ok_sdX2_holds rfl rkX2_holds h8 (foX2_holds n) (frX2_holds n) (fun v1 q => by
    cases q
    exact ⟨rfl, fun _ => hG⟩) (List.forall_mem_cons.mpr ⟨(fun a c H => by
      dsimp only at H
      split at H
      · exact hbk _ _ _ _ _ H hG
      · cases H), (fun q9 h9 => by cases h9)⟩) ((eJX2_holds_34 n bk x0 x1 x2 x3 h).symm.trans H)
theorem sBX2_holds_2 {l : Launch} {h0 : Hp} {v : Int} (h8 : nOf h0 = 148) (n : Nat) (h : Hp) : ∀ (f : Nat) (x0 : Int) (x1 : Int) (x2 : Int) (x3 : Int) {r : Int}, BX2_holds_2 n f x0 x1 x2 x3 h = some r → gV v r → PAt l false (mi 247).1 h0 v h 2 [(0, 6, x0), (1, 14, x1), (2, 0, x2), (3, 0, x3)] [] h := by
  intro f
  induction f with
  | zero =>
    intro x0 x1 x2 x3 r H _
    have H2 : (none : Option (Int)) = some r := H
    cases H2
  | succ f ih =>
    intro x0 x1 x2 x3 r H hG
    have ihk : ∀ (x0 : Int) (x1 : Int) (x2 : Int) (x3 : Int) (r : Int), BX2_holds_2 n f x0 x1 x2 x3 h = some r → gV v r → PAt l false (mi 247).1 h0 v h 2 [(0, 6, x0), (1, 14, x1), (2, 0, x2), (3, 0, x3)] [] h := fun x0 x1 x2 x3 r9 a9 b9 => ih x0 x1 x2 x3 a9 b9
    exact pat_ro ok_sdX2_holds rfl rkX2_holds h8 (foX2_holds n) (frX2_holds n) (fun v1 q => by
    cases q
    exact ⟨rfl, fun _ => hG⟩) (List.forall_mem_cons.mpr ⟨(fun a c H => by
      dsimp only at H
      split at H
      · exact ih _ _ _ _ H hG
      · cases H), (List.forall_mem_cons.mpr ⟨(fun a c H => by
      dsimp only at H
      split at H
      · exact sJX2_holds_34 h8 n (BX2_holds_2 n f) ihk _ _ _ _ h H hG
      · cases H), (fun q9 h9 => by cases h9)⟩)⟩) ((eBX2_holds_2 n f x0 x1 x2 x3 h).symm.trans H)
theorem sLX2_holds_2 {l : Launch} {h0 : Hp} {v : Int} (h8 : nOf h0 = 148) (n : Nat) (x0 : Int) (x1 : Int) (x2 : Int) (x3 : Int) (h : Hp) {r : Int} (H : LX2_holds_2 n x0 x1 x2 x3 h = some r) (hG : gV v r) : PAt l false (mi 247).1 h0 v h 2 [(0, 6, x0), (1, 14, x1), (2, 0, x2), (3, 0, x3)] [] h :=
  sBX2_holds_2 h8 n h n x0 x1 x2 x3 H hG
theorem sMX2_holds {l : Launch} {h0 : Hp} {v : Int} (h8 : nOf h0 = 148) (n : Nat) (x0 : Int) (x1 : Int) (x2 : Int) (h : Hp) {r : Int} (H : MX2_holds n x0 x1 x2 h = some r) (hG : gV v r) : PAt l false (mi 247).1 h0 v h 0 [(0, 6, x0), (1, 14, x1), (2, 0, x2)] [] h :=
  pat_ro ok_sdX2_holds rfl rkX2_holds h8 (foX2_holds n) (frX2_holds n) (fun v1 q => by
    cases q
    exact ⟨rfl, fun _ => hG⟩) (List.forall_mem_cons.mpr ⟨(fun a c H => by
      dsimp only at H
      split at H
      · exact sLX2_holds_2 h8 n _ _ _ _ _ H hG
      · cases H), (fun q9 h9 => by cases h9)⟩) ((eMX2_holds n x0 x1 x2 h).symm.trans H)
theorem sndX2_holds {ρ : Type} {l : Launch} (n : Nat) : SndF (ρ := ρ) l false (mi 247).1 (wX2_holds n) := by
    intro a h k r H ha ho hn hf
    have h8 := hf rfl
    obtain ⟨x0, x1, x2, rfl⟩ := len3 (show a.length = 3 from ha)
    replace H : bndp (MX2_holds n x0 x1 x2 h) (fun r => k r h) = some r := H
    obtain ⟨v2, H1, H2⟩ := bndp_some H
    exact ⟨v2, h, H2, met_mk (mok_base okX2_holds).1 (by decide +kernel) (Nat.le_of_ble_eq_true rfl) ho (sMX2_holds h8 n x0 x1 x2 h H1 rfl), fun q => by cases q⟩
theorem roX2_holds {ρ : Type} (n : Nat) : RoF (wX2_holds n : FN ρ) := fun a h k k2 hk => by
  unfold wX2_holds
  split
  · exact bndp_ro hk
  · rfl
/-! X2_alike -/
def sdX2_alike : SD := [(0, [(0, .aload_n 0, 1, [], 0), (1, .getfield 16, 3, [2, 1, 0, 0, 544, 0], 0), (4, .bipush (-2), 2, [], 0), (6, .if_icmp .ne 6, 3, [], 0)]),
  (9, [(9, .bipush (-2), 2, [], 0), (11, .ireturn, 1, [], 0)]),
  (12, [(12, .iconst 0, 1, [], 0), (13, .istore_n 2, 1, [], 0), (14, .iconst 0, 1, [], 0), (15, .istore_n 3, 1, [], 0)]),
  (16, [(16, .iload_n 3, 1, [], 0), (17, .aload_n 1, 1, [], 0), (18, .getfield 20, 3, [7, 0, 14, 0, 362, 1], 0), (21, .getfield 26, 3, [10, 11, 0, 0, 200, 0], 0), (24, .if_icmp .ge 34, 3, [], 0)]),
  (27, [(27, .aload_n 1, 1, [], 0), (28, .getfield 31, 3, [7, 5, 532, 1, 371, 0], 7), (31, .iload_n 3, 1, [], 0), (32, .iaload, 1, [], 0), (33, .iload_n 3, 1, [], 0), (34, .if_icmp .ne 18, 3, [], 0)]),
  (37, [(37, .aload_n 0, 1, [], 0), (38, .aload_n 1, 1, [], 0), (39, .getfield 20, 3, [7, 0, 14, 0, 362, 1], 0), (42, .iload_n 3, 1, [], 0), (43, .invokevirtual 38, 3, [1, 0, 1, 247, 1276, 0, 14, 6], 0), (46, .ifCond .eq 6, 3, [], 0)]),
  (49, [(49, .iinc 2 1, 3, [], 0)]),
  (52, [(52, .iinc 3 1, 3, [], 0), (55, .goto (-39), 3, [], 0)]),
  (58, [(58, .iload_n 2, 1, [], 0), (59, .ireturn, 1, [], 0)])]
def BX2_alike_16 (n : Nat) : Nat → Int → Int → Int → Hp → Option (Int)
  | 0, _, _, _, _ => none
  | f + 1, x0, x2, x3, h =>
    (if (h (h 39 0) 11) ≤ x3 then
    (some x2)
    else
    (grd (0 ≤ x3 ∧ x3 < alen 532)
    (if (h 46 x3) ≠ x3 then
    (ltt (w32 (x3 + 1)) fun y1 =>
    (BX2_alike_16 n f x0 x2 y1 h))
    else
    (bndp (MX2_holds n x0 (h 39 0) x3 h) fun r1 =>
    (if r1 = 0 then
    (ltt (w32 (x3 + 1)) fun y2 =>
    (BX2_alike_16 n f x0 x2 y2 h))
    else
    (ltt (w32 (x2 + 1)) fun y3 =>
    (ltt (w32 (x3 + 1)) fun y4 =>
    (BX2_alike_16 n f x0 y3 y4 h))))))))
def LX2_alike_16 (n : Nat) (x0 x2 x3 : Int) (h : Hp) : Option (Int) :=
(BX2_alike_16 n n x0 x2 x3 h)
def MX2_alike (n : Nat) (x0 : Int) (h : Hp) : Option (Int) :=
(if (h x0 1) ≠ (-2) then
(ltt 0 fun y1 =>
(ltt 0 fun y2 =>
(LX2_alike_16 n x0 y1 y2 h)))
else
(some (-2)))
def wX2_alike {ρ : Type} (n : Nat) : FN ρ := fun a h k => match a with
  | [x0, _] => bndp (MX2_alike n x0 h) (fun r => k r h)
  | _ => none
def fsX2_alike (n : Nat) (ρ : Type) : List (FN ρ) := [wX2_holds n]
def KBX2_alike_16 (_ : Nat) (bk : Int → Int → Int → Hp → Option (Int)) : CT (Int) := [(16, [(0, 6, none), (1, 11, (some 39)), (2, 0, none), (3, 0, none)], [], fun a c h => match a, c with
    | [x0, x2, x3], [] => bk x0 x2 x3 h
    | _, _ => none)]
set_option maxRecDepth 100000 in
theorem eBX2_alike_16 (n f : Nat) (x0 : Int) (x2 : Int) (x3 : Int) (h : Hp) : BX2_alike_16 n (f + 1) x0 x2 x3 h =
  goAt false (kct (KBX2_alike_16 n (BX2_alike_16 n f))) (fun v _ => some (v)) (fsX2_alike n _) sdX2_alike 1000 16 [(0, 6, x0), (1, 11, 39), (2, 0, x2), (3, 0, x3)] [] h := rfl
def KMX2_alike (n : Nat) : CT (Int) := [(16, [(0, 6, none), (1, 11, (some 39)), (2, 0, none), (3, 0, none)], [], fun a c h => match a, c with
    | [x0, x2, x3], [] => LX2_alike_16 n x0 x2 x3 h
    | _, _ => none)]
set_option maxRecDepth 100000 in
theorem eMX2_alike (n : Nat) (x0 : Int) (h : Hp) : MX2_alike n x0 h =
  goAt false (kct (KMX2_alike n)) (fun v _ => some (v)) (fsX2_alike n _) sdX2_alike 1000 0 [(0, 6, x0), (1, 11, 39)] [] h := rfl
theorem okX2_alike : mokb (mi 248) = true := by decide +kernel
theorem rkX2_alike : rkOK 1 (mi 248).1.2.2.2.2.2.2.1 (mi 248).1.2.2.2.1 := Or.inr (Or.inl ⟨rfl, rfl, rfl⟩)
def calX2_alike : List Nat := [247]
theorem foX2_alike {l : Launch} {ρ : Type} (n : Nat) : fsOK l false mi calX2_alike (fsX2_alike n ρ) := ⟨(sndX2_holds n), trivial⟩
theorem frX2_alike {ρ : Type} (n : Nat) : ∀ fn ∈ fsX2_alike n ρ, RoF fn := (List.forall_mem_cons.mpr ⟨(roX2_holds n), (fun q9 h9 => by cases h9)⟩)
theorem ok_sdX2_alike : sdb (mi 248).1.2.1 (insOK mi (mi 248).1.1.cls (mi 248).1.2.2.1 (mi 248).1.2.2.2.2.1 (mi 248).1.2.2.2.2.2.1 calX2_alike false 1) sdX2_alike = true := by decide +kernel
theorem sBX2_alike_16 {l : Launch} {h0 : Hp} {v : Int} (h8 : nOf h0 = 148) (n : Nat) (h : Hp) : ∀ (f : Nat) (x0 : Int) (x2 : Int) (x3 : Int) {r : Int}, BX2_alike_16 n f x0 x2 x3 h = some r → gV v r → PAt l false (mi 248).1 h0 v h 16 [(0, 6, x0), (1, 11, 39), (2, 0, x2), (3, 0, x3)] [] h := by
  intro f
  induction f with
  | zero =>
    intro x0 x2 x3 r H _
    have H2 : (none : Option (Int)) = some r := H
    cases H2
  | succ f ih =>
    intro x0 x2 x3 r H hG
    exact pat_ro ok_sdX2_alike rfl rkX2_alike h8 (foX2_alike n) (frX2_alike n) (fun v1 q => by
    cases q
    exact ⟨rfl, fun _ => hG⟩) (List.forall_mem_cons.mpr ⟨(fun a c H => by
      dsimp only at H
      split at H
      · exact ih _ _ _ H hG
      · cases H), (fun q9 h9 => by cases h9)⟩) ((eBX2_alike_16 n f x0 x2 x3 h).symm.trans H)
theorem sLX2_alike_16 {l : Launch} {h0 : Hp} {v : Int} (h8 : nOf h0 = 148) (n : Nat) (x0 : Int) (x2 : Int) (x3 : Int) (h : Hp) {r : Int} (H : LX2_alike_16 n x0 x2 x3 h = some r) (hG : gV v r) : PAt l false (mi 248).1 h0 v h 16 [(0, 6, x0), (1, 11, 39), (2, 0, x2), (3, 0, x3)] [] h :=
  sBX2_alike_16 h8 n h n x0 x2 x3 H hG
theorem sMX2_alike {l : Launch} {h0 : Hp} {v : Int} (h8 : nOf h0 = 148) (n : Nat) (x0 : Int) (h : Hp) {r : Int} (H : MX2_alike n x0 h = some r) (hG : gV v r) : PAt l false (mi 248).1 h0 v h 0 [(0, 6, x0), (1, 11, 39)] [] h :=
  pat_ro ok_sdX2_alike rfl rkX2_alike h8 (foX2_alike n) (frX2_alike n) (fun v1 q => by
    cases q
    exact ⟨rfl, fun _ => hG⟩) (List.forall_mem_cons.mpr ⟨(fun a c H => by
      dsimp only at H
      split at H
      · exact sLX2_alike_16 h8 n _ _ _ _ H hG
      · cases H), (fun q9 h9 => by cases h9)⟩) ((eMX2_alike n x0 h).symm.trans H)
theorem sndX2_alike {ρ : Type} {l : Launch} (n : Nat) : SndF (ρ := ρ) l false (mi 248).1 (wX2_alike n) := by
    intro a h k r H ha ho hn hf
    have h8 := hf rfl
    obtain ⟨x0, x1, rfl⟩ := len2 (show a.length = 2 from ha)
    have u1 := uq11 hn (ho (11, x1) (List.mem_cons_of_mem _ List.mem_cons_self))
    subst u1
    replace H : bndp (MX2_alike n x0 h) (fun r => k r h) = some r := H
    obtain ⟨v2, H1, H2⟩ := bndp_some H
    exact ⟨v2, h, H2, met_mk (mok_base okX2_alike).1 (by decide +kernel) (Nat.le_of_ble_eq_true rfl) ho (sMX2_alike h8 n x0 h H1 rfl), fun q => by cases q⟩
theorem roX2_alike {ρ : Type} (n : Nat) : RoF (wX2_alike n : FN ρ) := fun a h k k2 hk => by
  unfold wX2_alike
  split
  · exact bndp_ro hk
  · rfl
/-! X11_common -/
def sdX11_common : SD := [(0, [(0, .iload_n 1, 1, [], 0), (1, .ifCond .lt 8, 3, [], 0)]),
  (4, [(4, .iload_n 1, 1, [], 0), (5, .iconst 2, 1, [], 0), (6, .if_icmp .lt 5, 3, [], 0)]),
  (9, [(9, .iconst (-1), 1, [], 0), (10, .ireturn, 1, [], 0)]),
  (11, [(11, .aload_n 0, 1, [], 0), (12, .getfield 81, 3, [11, 12, 41, 1, 702, 0], 93), (15, .iload_n 1, 1, [], 0), (16, .aaload, 1, [], 0), (17, .aload_n 0, 1, [], 0), (18, .getfield 40, 3, [11, 4, 11, 1, 694, 0], 39), (21, .invokevirtual 332, 3, [1, 0, 1, 248, 1272, 11, 6], 0), (24, .ireturn, 1, [], 0)])]
def MX11_common (n : Nat) (x1 : Int) (h : Hp) : Option (Int) :=
(if x1 < 0 then
(some (-1))
else
(if x1 < 2 then
(grd (0 ≤ x1 ∧ x1 < alen 41)
(bndp (MX2_alike n (94 + 8 * x1) h) fun r1 =>
(some r1)))
else
(some (-1))))
def wX11_common {ρ : Type} (n : Nat) : FN ρ := fun a h k => match a with
  | [_, x1] => bndp (MX11_common n x1 h) (fun r => k r h)
  | _ => none
def fsX11_common (n : Nat) (ρ : Type) : List (FN ρ) := [wX2_alike n]
def KMX11_common (_ : Nat) : CT (Int) := []
set_option maxRecDepth 100000 in
theorem eMX11_common (n : Nat) (x1 : Int) (h : Hp) : MX11_common n x1 h =
  goAt false (kct (KMX11_common n)) (fun v _ => some (v)) (fsX11_common n _) sdX11_common 1000 0 [(0, 15, 0), (1, 0, x1)] [] h := rfl
theorem okX11_common : mokb (mi 249) = true := by decide +kernel
theorem rkX11_common : rkOK 1 (mi 249).1.2.2.2.2.2.2.1 (mi 249).1.2.2.2.1 := Or.inr (Or.inl ⟨rfl, rfl, rfl⟩)
def calX11_common : List Nat := [248]
theorem foX11_common {l : Launch} {ρ : Type} (n : Nat) : fsOK l false mi calX11_common (fsX11_common n ρ) := ⟨(sndX2_alike n), trivial⟩
theorem frX11_common {ρ : Type} (n : Nat) : ∀ fn ∈ fsX11_common n ρ, RoF fn := (List.forall_mem_cons.mpr ⟨(roX2_alike n), (fun q9 h9 => by cases h9)⟩)
theorem ok_sdX11_common : sdb (mi 249).1.2.1 (insOK mi (mi 249).1.1.cls (mi 249).1.2.2.1 (mi 249).1.2.2.2.2.1 (mi 249).1.2.2.2.2.2.1 calX11_common false 1) sdX11_common = true := by decide +kernel
theorem sMX11_common {l : Launch} {h0 : Hp} {v : Int} (h8 : nOf h0 = 148) (n : Nat) (x1 : Int) (h : Hp) {r : Int} (H : MX11_common n x1 h = some r) (hG : gV v r) : PAt l false (mi 249).1 h0 v h 0 [(0, 15, 0), (1, 0, x1)] [] h :=
  pat_ro ok_sdX11_common rfl rkX11_common h8 (foX11_common n) (frX11_common n) (fun v1 q => by
    cases q
    exact ⟨rfl, fun _ => hG⟩) (fun q9 h9 => by cases h9) ((eMX11_common n x1 h).symm.trans H)
theorem sndX11_common {ρ : Type} {l : Launch} (n : Nat) : SndF (ρ := ρ) l false (mi 249).1 (wX11_common n) := by
    intro a h k r H ha ho hn hf
    have h8 := hf rfl
    obtain ⟨x0, x1, rfl⟩ := len2 (show a.length = 2 from ha)
    have u0 := uq15 hn (ho (15, x0) (List.mem_cons_self))
    subst u0
    replace H : bndp (MX11_common n x1 h) (fun r => k r h) = some r := H
    obtain ⟨v2, H1, H2⟩ := bndp_some H
    exact ⟨v2, h, H2, met_mk (mok_base okX11_common).1 (by decide +kernel) (Nat.le_of_ble_eq_true rfl) ho (sMX11_common h8 n x1 h H1 rfl), fun q => by cases q⟩
theorem roX11_common {ρ : Type} (n : Nat) : RoF (wX11_common n : FN ρ) := fun a h k k2 hk => by
  unfold wX11_common
  split
  · exact bndp_ro hk
  · rfl
/-! X12_isKept -/
def sdX12_isKept : SD := [(0, [(0, .iconst 0, 1, [], 0), (1, .istore 4, 2, [], 0)]),
  (3, [(3, .iload 4, 2, [], 0), (5, .bipush 6, 2, [], 0), (7, .if_icmp .ge 39, 3, [], 0)]),
  (10, [(10, .aload_n 0, 1, [], 0), (11, .getfield 101, 3, [12, 60, 6164, 1, 1382, 0], 30), (14, .iload_n 2, 1, [], 0), (15, .iload 4, 2, [], 0), (17, .iadd, 1, [], 0), (18, .iaload, 1, [], 0), (19, .aload_n 0, 1, [], 0), (20, .getfield 37, 3, [12, 14, 1580, 1, 1336, 0], 9), (23, .iconst 3, 1, [], 0), (24, .iload_n 1, 1, [], 0), (25, .imul, 1, [], 0), (26, .iload 4, 2, [], 0), (28, .iload_n 3, 1, [], 0), (29, .iadd, 1, [], 0), (30, .bipush 6, 2, [], 0), (32, .irem, 1, [], 0), (33, .iadd, 1, [], 0), (34, .iaload, 1, [], 0), (35, .if_icmp .eq 5, 3, [], 0)]),
  (38, [(38, .iconst 0, 1, [], 0), (39, .ireturn, 1, [1], 0)]),
  (40, [(40, .iinc 4 1, 3, [], 0), (43, .goto (-40), 3, [], 0)]),
  (46, [(46, .iconst 1, 1, [], 0), (47, .ireturn, 1, [1], 0)])]
def BX12_isKept_3 (n : Nat) : Nat → Int → Int → Int → Int → Hp → Option (Int)
  | 0, _, _, _, _, _ => none
  | f + 1, x1, x2, x3, x4, h =>
    (if 6 ≤ x4 then
    (some 1)
    else
    (grd (0 ≤ (w32 (x2 + x4)) ∧ (w32 (x2 + x4)) < alen 6164)
    (grd (¬ 6 = 0)
    (grd (0 ≤ (w32 ((w32 (3 * x1)) + (w32 ((w32 (x4 + x3)) - (w32 ((w32 (Int.tdiv (w32 (x4 + x3)) 6)) * 6)))))) ∧ (w32 ((w32 (3 * x1)) + (w32 ((w32 (x4 + x3)) - (w32 ((w32 (Int.tdiv (w32 (x4 + x3)) 6)) * 6)))))) < alen 1580)
    (if (h 143 (w32 (x2 + x4))) = (h 122 (w32 ((w32 (3 * x1)) + (w32 ((w32 (x4 + x3)) - (w32 ((w32 (Int.tdiv (w32 (x4 + x3)) 6)) * 6))))))) then
    (ltt (w32 (x4 + 1)) fun y1 =>
    (BX12_isKept_3 n f x1 x2 x3 y1 h))
    else
    (some 0))))))
def LX12_isKept_3 (n : Nat) (x1 x2 x3 x4 : Int) (h : Hp) : Option (Int) :=
(BX12_isKept_3 n n x1 x2 x3 x4 h)
def MX12_isKept (n : Nat) (x1 x2 x3 : Int) (h : Hp) : Option (Int) :=
(ltt 0 fun y1 =>
(LX12_isKept_3 n x1 x2 x3 y1 h))
def wX12_isKept {ρ : Type} (n : Nat) : FN ρ := fun a h k => match a with
  | [_, x1, x2, x3] => bndp (MX12_isKept n x1 x2 x3 h) (fun r => k r h)
  | _ => none
def fsX12_isKept (n : Nat) (ρ : Type) : List (FN ρ) := []
def KBX12_isKept_3 (_ : Nat) (bk : Int → Int → Int → Int → Hp → Option (Int)) : CT (Int) := [(3, [(0, 16, (some 113)), (1, 0, none), (2, 0, none), (3, 0, none), (4, 0, none)], [], fun a c h => match a, c with
    | [x1, x2, x3, x4], [] => bk x1 x2 x3 x4 h
    | _, _ => none)]
set_option maxRecDepth 100000 in
theorem eBX12_isKept_3 (n f : Nat) (x1 : Int) (x2 : Int) (x3 : Int) (x4 : Int) (h : Hp) : BX12_isKept_3 n (f + 1) x1 x2 x3 x4 h =
  goAt false (kct (KBX12_isKept_3 n (BX12_isKept_3 n f))) (fun v _ => some (v)) (fsX12_isKept n _) sdX12_isKept 1000 3 [(0, 16, 113), (1, 0, x1), (2, 0, x2), (3, 0, x3), (4, 0, x4)] [] h := rfl
def KMX12_isKept (n : Nat) : CT (Int) := [(3, [(0, 16, (some 113)), (1, 0, none), (2, 0, none), (3, 0, none), (4, 0, none)], [], fun a c h => match a, c with
    | [x1, x2, x3, x4], [] => LX12_isKept_3 n x1 x2 x3 x4 h
    | _, _ => none)]
set_option maxRecDepth 100000 in
theorem eMX12_isKept (n : Nat) (x1 : Int) (x2 : Int) (x3 : Int) (h : Hp) : MX12_isKept n x1 x2 x3 h =
  goAt false (kct (KMX12_isKept n)) (fun v _ => some (v)) (fsX12_isKept n _) sdX12_isKept 1000 0 [(0, 16, 113), (1, 0, x1), (2, 0, x2), (3, 0, x3)] [] h := rfl
theorem okX12_isKept : mokb (mi 250) = true := by decide +kernel
theorem rkX12_isKept : rkOK 4 (mi 250).1.2.2.2.2.2.2.1 (mi 250).1.2.2.2.1 := Or.inr (Or.inr (Or.inl ⟨rfl, rfl, rfl⟩))
def calX12_isKept : List Nat := []
theorem foX12_isKept {l : Launch} {ρ : Type} (n : Nat) : fsOK l false mi calX12_isKept (fsX12_isKept n ρ) := trivial
theorem frX12_isKept {ρ : Type} (n : Nat) : ∀ fn ∈ fsX12_isKept n ρ, RoF fn := (fun q9 h9 => by cases h9)
theorem ok_sdX12_isKept : sdb (mi 250).1.2.1 (insOK mi (mi 250).1.1.cls (mi 250).1.2.2.1 (mi 250).1.2.2.2.2.1 (mi 250).1.2.2.2.2.2.1 calX12_isKept false 4) sdX12_isKept = true := by decide +kernel
theorem sBX12_isKept_3 {l : Launch} {h0 : Hp} {v : Int} (h8 : nOf h0 = 148) (n : Nat) (h : Hp) : ∀ (f : Nat) (x1 : Int) (x2 : Int) (x3 : Int) (x4 : Int) {r : Int}, BX12_isKept_3 n f x1 x2 x3 x4 h = some r → gV v r → PAt l false (mi 250).1 h0 v h 3 [(0, 16, 113), (1, 0, x1), (2, 0, x2), (3, 0, x3), (4, 0, x4)] [] h := by
  intro f
  induction f with
  | zero =>
    intro x1 x2 x3 x4 r H _
    have H2 : (none : Option (Int)) = some r := H
    cases H2
  | succ f ih =>
    intro x1 x2 x3 x4 r H hG
    exact pat_ro ok_sdX12_isKept rfl rkX12_isKept h8 (foX12_isKept n) (frX12_isKept n) (fun v1 q => by
    cases q
    exact ⟨rfl, fun _ => hG⟩) (List.forall_mem_cons.mpr ⟨(fun a c H => by
      dsimp only at H
      split at H
      · exact ih _ _ _ _ H hG
      · cases H), (fun q9 h9 => by cases h9)⟩) ((eBX12_isKept_3 n f x1 x2 x3 x4 h).symm.trans H)
theorem sLX12_isKept_3 {l : Launch} {h0 : Hp} {v : Int} (h8 : nOf h0 = 148) (n : Nat) (x1 : Int) (x2 : Int) (x3 : Int) (x4 : Int) (h : Hp) {r : Int} (H : LX12_isKept_3 n x1 x2 x3 x4 h = some r) (hG : gV v r) : PAt l false (mi 250).1 h0 v h 3 [(0, 16, 113), (1, 0, x1), (2, 0, x2), (3, 0, x3), (4, 0, x4)] [] h :=
  sBX12_isKept_3 h8 n h n x1 x2 x3 x4 H hG
theorem sMX12_isKept {l : Launch} {h0 : Hp} {v : Int} (h8 : nOf h0 = 148) (n : Nat) (x1 : Int) (x2 : Int) (x3 : Int) (h : Hp) {r : Int} (H : MX12_isKept n x1 x2 x3 h = some r) (hG : gV v r) : PAt l false (mi 250).1 h0 v h 0 [(0, 16, 113), (1, 0, x1), (2, 0, x2), (3, 0, x3)] [] h :=
  pat_ro ok_sdX12_isKept rfl rkX12_isKept h8 (foX12_isKept n) (frX12_isKept n) (fun v1 q => by
    cases q
    exact ⟨rfl, fun _ => hG⟩) (List.forall_mem_cons.mpr ⟨(fun a c H => by
      dsimp only at H
      split at H
      · exact sLX12_isKept_3 h8 n _ _ _ _ _ H hG
      · cases H), (fun q9 h9 => by cases h9)⟩) ((eMX12_isKept n x1 x2 x3 h).symm.trans H)
theorem sndX12_isKept {ρ : Type} {l : Launch} (n : Nat) : SndF (ρ := ρ) l false (mi 250).1 (wX12_isKept n) := by
    intro a h k r H ha ho hn hf
    have h8 := hf rfl
    obtain ⟨x0, x1, x2, x3, rfl⟩ := len4 (show a.length = 4 from ha)
    have u0 := uq16 hn (ho (16, x0) (List.mem_cons_self))
    subst u0
    replace H : bndp (MX12_isKept n x1 x2 x3 h) (fun r => k r h) = some r := H
    obtain ⟨v2, H1, H2⟩ := bndp_some H
    exact ⟨v2, h, H2, met_mk (mok_base okX12_isKept).1 (by decide +kernel) (Nat.le_of_ble_eq_true rfl) ho (sMX12_isKept h8 n x1 x2 x3 h H1 rfl), fun q => by cases q⟩
theorem roX12_isKept {ρ : Type} (n : Nat) : RoF (wX12_isKept n : FN ρ) := fun a h k k2 hk => by
  unfold wX12_isKept
  split
  · exact bndp_ro hk
  · rfl
/-! X12_common -/
def sdX12_common : SD := [(0, [(0, .iload_n 1, 1, [], 0), (1, .i2l, 1, [], 0), (2, .lconst 0, 1, [], 0), (3, .lconst 1, 1, [], 0), (4, .invokestatic 217, 3, [1, 0, 3, 81, 1561, 1, 1, 1], 0), (7, .ifCond .ne 5, 3, [], 0)]),
  (10, [(10, .iconst (-1), 1, [], 0), (11, .ireturn, 1, [], 0)]),
  (12, [(12, .aload_n 0, 1, [], 0), (13, .getfield 104, 3, [12, 61, 36, 1, 1383, 0], 31), (16, .iload_n 1, 1, [], 0), (17, .iaload, 1, [], 0), (18, .iconst (-1), 1, [], 0), (19, .if_icmp .ne 6, 3, [], 0)]),
  (22, [(22, .bipush (-2), 2, [], 0), (24, .ireturn, 1, [], 0)]),
  (25, [(25, .iconst 0, 1, [], 0), (26, .istore_n 2, 1, [], 0), (27, .iconst 0, 1, [], 0), (28, .istore_n 3, 1, [], 0)]),
  (29, [(29, .iload_n 3, 1, [], 0), (30, .aload_n 0, 1, [], 0), (31, .getfield 140, 3, [12, 6, 0, 0, 1328, 0], 0), (34, .if_icmp .ge 95, 3, [], 0)]),
  (37, [(37, .iconst 0, 1, [], 0), (38, .istore 4, 2, [], 0), (40, .iconst 0, 1, [], 0), (41, .istore 5, 2, [], 0)]),
  (43, [(43, .iload 5, 2, [], 0), (45, .aload_n 0, 1, [], 0), (46, .getfield 104, 3, [12, 61, 36, 1, 1383, 0], 31), (49, .iload_n 1, 1, [], 0), (50, .iaload, 1, [], 0), (51, .if_icmp .ge 64, 3, [], 0)]),
  (54, [(54, .aload_n 0, 1, [], 0), (55, .iload_n 3, 1, [], 0), (56, .invokevirtual 528, 3, [1, 1, 1, 211, 1916, 0, 16], 0), (59, .iload_n 3, 1, [], 0), (60, .if_icmp .ne 55, 3, [], 0)]),
  (63, [(63, .bipush 6, 2, [], 0), (65, .bipush 64, 2, [], 0), (67, .iload_n 1, 1, [], 0), (68, .imul, 1, [], 0), (69, .iload 5, 2, [], 0), (71, .iadd, 1, [], 0), (72, .imul, 1, [], 0), (73, .istore 6, 2, [], 0), (75, .iload 4, 2, [], 0), (77, .ifCond .ne 25, 3, [], 0)]),
  (80, [(80, .aload_n 0, 1, [], 0), (81, .iload_n 3, 1, [], 0), (82, .iload 6, 2, [], 0), (84, .iconst 0, 1, [], 0), (85, .invokevirtual 531, 3, [1, 2, 1, 250, 1932, 0, 0, 0, 16], 0), (88, .ifCond .ne 14, 3, [], 0)]),
  (91, [(91, .aload_n 0, 1, [], 0), (92, .iload_n 3, 1, [], 0), (93, .iload 6, 2, [], 0), (95, .iconst 3, 1, [], 0), (96, .invokevirtual 531, 3, [1, 2, 1, 250, 1932, 0, 0, 0, 16], 0), (99, .ifCond .eq 7, 3, [], 0)]),
  (102, [(102, .iconst 1, 1, [], 0), (103, .goto 4, 3, [], 0)]),
  (106, [(106, .iconst 0, 1, [], 0)]),
  (107, [(107, .istore 4, 2, [], 0), (109, .iinc 5 1, 3, [], 0), (112, .goto (-69), 3, [], 0)]),
  (115, [(115, .iload_n 2, 1, [], 0), (116, .iload 4, 2, [], 0), (118, .invokestatic 446, 3, [1, 3, 3, 141, 1727, 0], 0), (121, .iadd, 1, [], 0), (122, .istore_n 2, 1, [], 0), (123, .iinc 3 1, 3, [], 0), (126, .goto (-97), 3, [], 0)]),
  (129, [(129, .iload_n 2, 1, [], 0), (130, .ireturn, 1, [], 0)])]
def JX12_common_107 (n : Nat) (bk : Int → Int → Int → Int → Int → Hp → Option (Int × Int × Int × Int)) (x1 x2 x3 x5 z0 : Int) (h : Hp) : Option (Int × Int × Int × Int) :=
(ltt z0 fun y1 =>
(ltt (w32 (x5 + 1)) fun y2 =>
(bk x1 x2 x3 y1 y2 h)))
def JX12_common_102 (n : Nat) (bk : Int → Int → Int → Int → Int → Hp → Option (Int × Int × Int × Int)) (x1 x2 x3 x5 : Int) (h : Hp) : Option (Int × Int × Int × Int) :=
(JX12_common_107 n bk x1 x2 x3 x5 1 h)
def BX12_common_43 (n : Nat) : Nat → Int → Int → Int → Int → Int → Hp → Option (Int × Int × Int × Int)
  | 0, _, _, _, _, _, _ => none
  | f + 1, x1, x2, x3, x4, x5, h =>
    (grd (0 ≤ x1 ∧ x1 < alen 36)
    (if (h 144 x1) ≤ x5 then
    (some (x1, x2, x3, x4))
    else
    (bndp (MX12_firstLike n x3 h) fun r1 =>
    (if r1 ≠ x3 then
    (some (x1, x2, x3, x4))
    else
    (ltt (w32 (6 * (w32 ((w32 (64 * x1)) + x5)))) fun y1 =>
    (if x4 ≠ 0 then
    (JX12_common_102 n (BX12_common_43 n f) x1 x2 x3 x5 h)
    else
    (bndp (MX12_isKept n x3 y1 0 h) fun r2 =>
    (if r2 ≠ 0 then
    (JX12_common_102 n (BX12_common_43 n f) x1 x2 x3 x5 h)
    else
    (bndp (MX12_isKept n x3 y1 3 h) fun r3 =>
    (if r3 = 0 then
    (JX12_common_107 n (BX12_common_43 n f) x1 x2 x3 x5 0 h)
    else
    (JX12_common_102 n (BX12_common_43 n f) x1 x2 x3 x5 h)))))))))))
def JX12_common_115 (n : Nat) (bk : Int → Int → Int → Hp → Option (Int)) (x1 x2 x3 x4 : Int) (h : Hp) : Option (Int) :=
(bndp (MX12_truth x4) fun r1 =>
(ltt (w32 (x2 + r1)) fun y1 =>
(ltt (w32 (x3 + 1)) fun y2 =>
(bk x1 y1 y2 h))))
def LX12_common_43 (n : Nat) (bk : Int → Int → Int → Hp → Option (Int)) (x1 x2 x3 x4 x5 : Int) (h : Hp) : Option (Int) :=
(bndx (BX12_common_43 n n x1 x2 x3 x4 x5 h) fun (e1, e2, e3, e4) =>
(JX12_common_115 n bk e1 e2 e3 e4 h))
def BX12_common_29 (n : Nat) : Nat → Int → Int → Int → Hp → Option (Int)
  | 0, _, _, _, _ => none
  | f + 1, x1, x2, x3, h =>
    (if (h 113 6) ≤ x3 then
    (some x2)
    else
    (ltt 0 fun y1 =>
    (ltt 0 fun y2 =>
    (LX12_common_43 n (BX12_common_29 n f) x1 x2 x3 y1 y2 h))))
def LX12_common_29 (n : Nat) (x1 x2 x3 : Int) (h : Hp) : Option (Int) :=
(BX12_common_29 n n x1 x2 x3 h)
def MX12_common (n : Nat) (x1 : Int) (h : Hp) : Option (Int) :=
(bndp (MX12_in x1 0 1) fun r1 =>
(if r1 ≠ 0 then
(grd (0 ≤ x1 ∧ x1 < alen 36)
(if (h 144 x1) ≠ (-1) then
(ltt 0 fun y1 =>
(ltt 0 fun y2 =>
(LX12_common_29 n x1 y1 y2 h)))
else
(some (-2))))
else
(some (-1))))
def wX12_common {ρ : Type} (n : Nat) : FN ρ := fun a h k => match a with
  | [_, x1] => bndp (MX12_common n x1 h) (fun r => k r h)
  | _ => none
def fsX12_common (n : Nat) (ρ : Type) : List (FN ρ) := [wX12_in, wX12_firstLike n, wX12_isKept n, wX12_truth]
def KJX12_common_107 (_ : Nat) (bk : Int → Int → Int → Int → Int → Hp → Option (Int × Int × Int × Int)) : CT (Int × Int × Int × Int) := [(43, [(0, 16, (some 113)), (1, 0, none), (2, 0, none), (3, 0, none), (4, 0, none), (5, 0, none)], [], fun a c h => match a, c with
    | [x1, x2, x3, x4, x5], [] => bk x1 x2 x3 x4 x5 h
    | _, _ => none),
  (115, [(0, 16, (some 113)), (1, 0, none), (2, 0, none), (3, 0, none), (4, 0, none)], [], fun a c _ => match a, c with
    | [x1, x2, x3, x4], [] => some (x1, x2, x3, x4)
    | _, _ => none)]
set_option maxRecDepth 100000 in
theorem eJX12_common_107 (n : Nat) (bk : Int → Int → Int → Int → Int → Hp → Option (Int × Int × Int × Int)) (x1 : Int) (x2 : Int) (x3 : Int) (x5 : Int) (z0 : Int) (h : Hp) : JX12_common_107 n bk x1 x2 x3 x5 z0 h =
  goAt false (kct (KJX12_common_107 n bk)) (fun _ _ => none) (fsX12_common n _) sdX12_common 1000 107 [(0, 16, 113), (1, 0, x1), (2, 0, x2), (3, 0, x3), (5, 0, x5)] [(0, z0)] h := rfl
def KJX12_common_102 (n : Nat) (bk : Int → Int → Int → Int → Int → Hp → Option (Int × Int × Int × Int)) : CT (Int × Int × Int × Int) := [(43, [(0, 16, (some 113)), (1, 0, none), (2, 0, none), (3, 0, none), (4, 0, none), (5, 0, none)], [], fun a c h => match a, c with
    | [x1, x2, x3, x4, x5], [] => bk x1 x2 x3 x4 x5 h
    | _, _ => none),
  (115, [(0, 16, (some 113)), (1, 0, none), (2, 0, none), (3, 0, none), (4, 0, none)], [], fun a c _ => match a, c with
    | [x1, x2, x3, x4], [] => some (x1, x2, x3, x4)
    | _, _ => none),
  (107, [(0, 16, (some 113)), (1, 0, none), (2, 0, none), (3, 0, none), (5, 0, none)], [(0, none)], fun a c h => match a, c with
    | [x1, x2, x3, x5], [z0] => JX12_common_107 n bk x1 x2 x3 x5 z0 h
    | _, _ => none)]
set_option maxRecDepth 100000 in
theorem eJX12_common_102 (n : Nat) (bk : Int → Int → Int → Int → Int → Hp → Option (Int × Int × Int × Int)) (x1 : Int) (x2 : Int) (x3 : Int) (x5 : Int) (h : Hp) : JX12_common_102 n bk x1 x2 x3 x5 h =
  goAt false (kct (KJX12_common_102 n bk)) (fun _ _ => none) (fsX12_common n _) sdX12_common 1000 102 [(0, 16, 113), (1, 0, x1), (2, 0, x2), (3, 0, x3), (5, 0, x5)] [] h := rfl
def KBX12_common_43 (n : Nat) (bk : Int → Int → Int → Int → Int → Hp → Option (Int × Int × Int × Int)) : CT (Int × Int × Int × Int) := [(43, [(0, 16, (some 113)), (1, 0, none), (2, 0, none), (3, 0, none), (4, 0, none), (5, 0, none)], [], fun a c h => match a, c with
    | [x1, x2, x3, x4, x5], [] => bk x1 x2 x3 x4 x5 h
    | _, _ => none),
  (115, [(0, 16, (some 113)), (1, 0, none), (2, 0, none), (3, 0, none), (4, 0, none)], [], fun a c _ => match a, c with
    | [x1, x2, x3, x4], [] => some (x1, x2, x3, x4)
    | _, _ => none),
  (107, [(0, 16, (some 113)), (1, 0, none), (2, 0, none), (3, 0, none), (5, 0, none)], [(0, none)], fun a c h => match a, c with
    | [x1, x2, x3, x5], [z0] => JX12_common_107 n bk x1 x2 x3 x5 z0 h
    | _, _ => none),
  (102, [(0, 16, (some 113)), (1, 0, none), (2, 0, none), (3, 0, none), (5, 0, none)], [], fun a c h => match a, c with
    | [x1, x2, x3, x5], [] => JX12_common_102 n bk x1 x2 x3 x5 h
    | _, _ => none)]
set_option maxRecDepth 100000 in
theorem eBX12_common_43 (n f : Nat) (x1 : Int) (x2 : Int) (x3 : Int) (x4 : Int) (x5 : Int) (h : Hp) : BX12_common_43 n (f + 1) x1 x2 x3 x4 x5 h =
  goAt false (kct (KBX12_common_43 n (BX12_common_43 n f))) (fun _ _ => none) (fsX12_common n _) sdX12_common 1000 43 [(0, 16, 113), (1, 0, x1), (2, 0, x2), (3, 0, x3), (4, 0, x4), (5, 0, x5)] [] h := rfl
def KJX12_common_115 (_ : Nat) (bk : Int → Int → Int → Hp → Option (Int)) : CT (Int) := [(29, [(0, 16, (some 113)), (1, 0, none), (2, 0, none), (3, 0, none)], [], fun a c h => match a, c with
    | [x1, x2, x3], [] => bk x1 x2 x3 h
    | _, _ => none)]
set_option maxRecDepth 100000 in
theorem eJX12_common_115 (n : Nat) (bk : Int → Int → Int → Hp → Option (Int)) (x1 : Int) (x2 : Int) (x3 : Int) (x4 : Int) (h : Hp) : JX12_common_115 n bk x1 x2 x3 x4 h =
  goAt false (kct (KJX12_common_115 n bk)) (fun v _ => some (v)) (fsX12_common n _) sdX12_common 1000 115 [(0, 16, 113), (1, 0, x1), (2, 0, x2), (3, 0, x3), (4, 0, x4)] [] h := rfl
def KBX12_common_29 (n : Nat) (bk : Int → Int → Int → Hp → Option (Int)) : CT (Int) := [(29, [(0, 16, (some 113)), (1, 0, none), (2, 0, none), (3, 0, none)], [], fun a c h => match a, c with
    | [x1, x2, x3], [] => bk x1 x2 x3 h
    | _, _ => none),
  (43, [(0, 16, (some 113)), (1, 0, none), (2, 0, none), (3, 0, none), (4, 0, none), (5, 0, none)], [], fun a c h => match a, c with
    | [x1, x2, x3, x4, x5], [] => LX12_common_43 n bk x1 x2 x3 x4 x5 h
    | _, _ => none)]
set_option maxRecDepth 100000 in
theorem eBX12_common_29 (n f : Nat) (x1 : Int) (x2 : Int) (x3 : Int) (h : Hp) : BX12_common_29 n (f + 1) x1 x2 x3 h =
  goAt false (kct (KBX12_common_29 n (BX12_common_29 n f))) (fun v _ => some (v)) (fsX12_common n _) sdX12_common 1000 29 [(0, 16, 113), (1, 0, x1), (2, 0, x2), (3, 0, x3)] [] h := rfl
def KMX12_common (n : Nat) : CT (Int) := [(29, [(0, 16, (some 113)), (1, 0, none), (2, 0, none), (3, 0, none)], [], fun a c h => match a, c with
    | [x1, x2, x3], [] => LX12_common_29 n x1 x2 x3 h
    | _, _ => none)]
set_option maxRecDepth 100000 in
theorem eMX12_common (n : Nat) (x1 : Int) (h : Hp) : MX12_common n x1 h =
  goAt false (kct (KMX12_common n)) (fun v _ => some (v)) (fsX12_common n _) sdX12_common 1000 0 [(0, 16, 113), (1, 0, x1)] [] h := rfl
theorem okX12_common : mokb (mi 251) = true := by decide +kernel
theorem rkX12_common : rkOK 1 (mi 251).1.2.2.2.2.2.2.1 (mi 251).1.2.2.2.1 := Or.inr (Or.inl ⟨rfl, rfl, rfl⟩)
def calX12_common : List Nat := [81, 211, 250, 141]
theorem foX12_common {l : Launch} {ρ : Type} (n : Nat) : fsOK l false mi calX12_common (fsX12_common n ρ) := ⟨sndX12_in, ⟨(sndX12_firstLike n), ⟨(sndX12_isKept n), ⟨sndX12_truth, trivial⟩⟩⟩⟩
theorem frX12_common {ρ : Type} (n : Nat) : ∀ fn ∈ fsX12_common n ρ, RoF fn := (List.forall_mem_cons.mpr ⟨roX12_in, (List.forall_mem_cons.mpr ⟨(roX12_firstLike n), (List.forall_mem_cons.mpr ⟨(roX12_isKept n), (List.forall_mem_cons.mpr ⟨roX12_truth, (fun q9 h9 => by cases h9)⟩)⟩)⟩)⟩)
theorem ok_sdX12_common : sdb (mi 251).1.2.1 (insOK mi (mi 251).1.1.cls (mi 251).1.2.2.1 (mi 251).1.2.2.2.2.1 (mi 251).1.2.2.2.2.2.1 calX12_common false 1) sdX12_common = true := by decide +kernel
def GX12_common_43 (l : Launch) (h0 : Hp) (_ : Hp) (v : Int) (h : Hp) : (Int × Int × Int × Int) → Prop
  | (e1, e2, e3, e4) => PAt l false (mi 251).1 h0 v h 115 [(0, 16, 113), (1, 0, e1), (2, 0, e2), (3, 0, e3), (4, 0, e4)] [] h
theorem sJX12_common_107 {l : Launch} {h0 : Hp} {v : Int} (h8 : nOf h0 = 148) (n : Nat) (bk : Int → Int → Int → Int → Int → Hp → Option (Int × Int × Int × Int)) {h : Hp} (hbk : ∀ (x1 : Int) (x2 : Int) (x3 : Int) (x4 : Int) (x5 : Int) (r : Int × Int × Int × Int), bk x1 x2 x3 x4 x5 h = some r → GX12_common_43 l h0 h v h r → PAt l false (mi 251).1 h0 v h 43 [(0, 16, 113), (1, 0, x1), (2, 0, x2), (3, 0, x3), (4, 0, x4), (5, 0, x5)] [] h) (x1 : Int) (x2 : Int) (x3 : Int) (x5 : Int) (z0 : Int) (_ : Hp) {r : Int × Int × Int × Int} (H : JX12_common_107 n bk x1 x2 x3 x5 z0 h = some r) (hG : GX12_common_43 l h0 h v h r) : PAt l false (mi 251).1 h0 v h 107 [(0, 16, 113), (1, 0, x1), (2, 0, x2), (3, 0, x3), (5, 0, x5)] [(0, z0)] h :=
  pat_ro ok_sdX12_common rfl rkX12_common h8 (foX12_common n) (frX12_common n) (fun v1 q => by cases q) (List.forall_mem_cons.mpr ⟨(fun a c H => by
      dsimp only at H
      split at H
      · exact hbk _ _ _ _ _ _ H hG
      · cases H), (List.forall_mem_cons.mpr ⟨(fun a c H => by
      dsimp only at H
      split at H
      · cases H
        exact hG
      · cases H), (fun q9 h9 => by cases h9)⟩)⟩) ((eJX12_common_107 n bk x1 x2 x3 x5 z0 h).symm.trans H)
theorem sJX12_common_102 {l : Launch} {h0 : Hp} {v : Int} (h8 : nOf h0 = 148) (n : Nat) (bk : Int → Int → Int → Int → Int → Hp → Option (Int × Int × Int × Int)) {h : Hp} (hbk : ∀ (x1 : Int) (x2 : Int) (x3 : Int) (x4 : Int) (x5 : Int) (r : Int × Int × Int × Int), bk x1 x2 x3 x4 x5 h = some r → GX12_common_43 l h0 h v h r → PAt l false (mi 251).1 h0 v h 43 [(0, 16, 113), (1, 0, x1), (2, 0, x2), (3, 0, x3), (4, 0, x4), (5, 0, x5)] [] h) (x1 : Int) (x2 : Int) (x3 : Int) (x5 : Int) (_ : Hp) {r : Int × Int × Int × Int} (H : JX12_common_102 n bk x1 x2 x3 x5 h = some r) (hG : GX12_common_43 l h0 h v h r) : PAt l false (mi 251).1 h0 v h 102 [(0, 16, 113), (1, 0, x1), (2, 0, x2), (3, 0, x3), (5, 0, x5)] [] h :=
  pat_ro ok_sdX12_common rfl rkX12_common h8 (foX12_common n) (frX12_common n) (fun v1 q => by cases q) (List.forall_mem_cons.mpr ⟨(fun a c H => by
      dsimp only at H
      split at H
      · exact hbk _ _ _ _ _ _ H hG
      · cases H), (List.forall_mem_cons.mpr ⟨(fun a c H => by
      dsimp only at H
      split at H
      · cases H
        exact hG
      · cases H), (List.forall_mem_cons.mpr ⟨(fun a c H => by
      dsimp only at H
      split at H
      · exact sJX12_common_107 h8 n bk hbk _ _ _ _ _ h H hG
      · cases H), (fun q9 h9 => by cases h9)⟩)⟩)⟩) ((eJX12_common_102 n bk x1 x2 x3 x5 h).symm.trans H)
theorem sBX12_common_43 {l : Launch} {h0 : Hp} {v : Int} (h8 : nOf h0 = 148) (n : Nat) (h : Hp) : ∀ (f : Nat) (x1 : Int) (x2 : Int) (x3 : Int) (x4 : Int) (x5 : Int) {r : Int × Int × Int × Int}, BX12_common_43 n f x1 x2 x3 x4 x5 h = some r → GX12_common_43 l h0 h v h r → PAt l false (mi 251).1 h0 v h 43 [(0, 16, 113), (1, 0, x1), (2, 0, x2), (3, 0, x3), (4, 0, x4), (5, 0, x5)] [] h := by
  intro f
  induction f with
  | zero =>
    intro x1 x2 x3 x4 x5 r H _
    have H2 : (none : Option (Int × Int × Int × Int)) = some r := H
    cases H2
  | succ f ih =>
    intro x1 x2 x3 x4 x5 r H hG
    have ihk : ∀ (x1 : Int) (x2 : Int) (x3 : Int) (x4 : Int) (x5 : Int) (r : Int × Int × Int × Int), BX12_common_43 n f x1 x2 x3 x4 x5 h = some r → GX12_common_43 l h0 h v h r → PAt l false (mi 251).1 h0 v h 43 [(0, 16, 113), (1, 0, x1), (2, 0, x2), (3, 0, x3), (4, 0, x4), (5, 0, x5)] [] h := fun x1 x2 x3 x4 x5 r9 a9 b9 => ih x1 x2 x3 x4 x5 a9 b9
    exact pat_ro ok_sdX12_common rfl rkX12_common h8 (foX12_common n) (frX12_common n) (fun v1 q => by cases q) (List.forall_mem_cons.mpr ⟨(fun a c H => by
      dsimp only at H
      split at H
      · exact ih _ _ _ _ _ H hG
      · cases H), (List.forall_mem_cons.mpr ⟨(fun a c H => by
      dsimp only at H
      split at H
      · cases H
        exact hG
      · cases H), (List.forall_mem_cons.mpr ⟨(fun a c H => by
      dsimp only at H
      split at H
      · exact sJX12_common_107 h8 n (BX12_common_43 n f) ihk _ _ _ _ _ h H hG
      · cases H), (List.forall_mem_cons.mpr ⟨(fun a c H => by
      dsimp only at H
      split at H
      · exact sJX12_common_102 h8 n (BX12_common_43 n f) ihk _ _ _ _ h H hG
      · cases H), (fun q9 h9 => by cases h9)⟩)⟩)⟩)⟩) ((eBX12_common_43 n f x1 x2 x3 x4 x5 h).symm.trans H)
theorem sJX12_common_115 {l : Launch} {h0 : Hp} {v : Int} (h8 : nOf h0 = 148) (n : Nat) (bk : Int → Int → Int → Hp → Option (Int)) {h : Hp} (hbk : ∀ (x1 : Int) (x2 : Int) (x3 : Int) (r : Int), bk x1 x2 x3 h = some r → gV v r → PAt l false (mi 251).1 h0 v h 29 [(0, 16, 113), (1, 0, x1), (2, 0, x2), (3, 0, x3)] [] h) (x1 : Int) (x2 : Int) (x3 : Int) (x4 : Int) (_ : Hp) {r : Int} (H : JX12_common_115 n bk x1 x2 x3 x4 h = some r) (hG : gV v r) : PAt l false (mi 251).1 h0 v h 115 [(0, 16, 113), (1, 0, x1), (2, 0, x2), (3, 0, x3), (4, 0, x4)] [] h :=
  pat_ro ok_sdX12_common rfl rkX12_common h8 (foX12_common n) (frX12_common n) (fun v1 q => by
    cases q
    exact ⟨rfl, fun _ => hG⟩) (List.forall_mem_cons.mpr ⟨(fun a c H => by
      dsimp only at H
      split at H
      · exact hbk _ _ _ _ H hG
      · cases H), (fun q9 h9 => by cases h9)⟩) ((eJX12_common_115 n bk x1 x2 x3 x4 h).symm.trans H)
theorem sLX12_common_43 {l : Launch} {h0 : Hp} {v : Int} (h8 : nOf h0 = 148) (n : Nat) (bk : Int → Int → Int → Hp → Option (Int)) {h : Hp} (hbk : ∀ (x1 : Int) (x2 : Int) (x3 : Int) (r : Int), bk x1 x2 x3 h = some r → gV v r → PAt l false (mi 251).1 h0 v h 29 [(0, 16, 113), (1, 0, x1), (2, 0, x2), (3, 0, x3)] [] h) (x1 : Int) (x2 : Int) (x3 : Int) (x4 : Int) (x5 : Int) (_ : Hp) {r : Int} (H : LX12_common_43 n bk x1 x2 x3 x4 x5 h = some r) (hG : gV v r) : PAt l false (mi 251).1 h0 v h 43 [(0, 16, 113), (1, 0, x1), (2, 0, x2), (3, 0, x3), (4, 0, x4), (5, 0, x5)] [] h := by
  obtain ⟨e9, h2, h3⟩ := bndx_some H
  obtain ⟨e1, e2, e3, e4⟩ := e9
  exact sBX12_common_43 h8 n h n x1 x2 x3 x4 x5 h2 (sJX12_common_115 h8 n bk hbk e1 e2 e3 e4 h h3 hG)
theorem sBX12_common_29 {l : Launch} {h0 : Hp} {v : Int} (h8 : nOf h0 = 148) (n : Nat) (h : Hp) : ∀ (f : Nat) (x1 : Int) (x2 : Int) (x3 : Int) {r : Int}, BX12_common_29 n f x1 x2 x3 h = some r → gV v r → PAt l false (mi 251).1 h0 v h 29 [(0, 16, 113), (1, 0, x1), (2, 0, x2), (3, 0, x3)] [] h := by
  intro f
  induction f with
  | zero =>
    intro x1 x2 x3 r H _
    have H2 : (none : Option (Int)) = some r := H
    cases H2
  | succ f ih =>
    intro x1 x2 x3 r H hG
    have ihk : ∀ (x1 : Int) (x2 : Int) (x3 : Int) (r : Int), BX12_common_29 n f x1 x2 x3 h = some r → gV v r → PAt l false (mi 251).1 h0 v h 29 [(0, 16, 113), (1, 0, x1), (2, 0, x2), (3, 0, x3)] [] h := fun x1 x2 x3 r9 a9 b9 => ih x1 x2 x3 a9 b9
    exact pat_ro ok_sdX12_common rfl rkX12_common h8 (foX12_common n) (frX12_common n) (fun v1 q => by
    cases q
    exact ⟨rfl, fun _ => hG⟩) (List.forall_mem_cons.mpr ⟨(fun a c H => by
      dsimp only at H
      split at H
      · exact ih _ _ _ H hG
      · cases H), (List.forall_mem_cons.mpr ⟨(fun a c H => by
      dsimp only at H
      split at H
      · exact sLX12_common_43 h8 n (BX12_common_29 n f) ihk _ _ _ _ _ h H hG
      · cases H), (fun q9 h9 => by cases h9)⟩)⟩) ((eBX12_common_29 n f x1 x2 x3 h).symm.trans H)
theorem sLX12_common_29 {l : Launch} {h0 : Hp} {v : Int} (h8 : nOf h0 = 148) (n : Nat) (x1 : Int) (x2 : Int) (x3 : Int) (h : Hp) {r : Int} (H : LX12_common_29 n x1 x2 x3 h = some r) (hG : gV v r) : PAt l false (mi 251).1 h0 v h 29 [(0, 16, 113), (1, 0, x1), (2, 0, x2), (3, 0, x3)] [] h :=
  sBX12_common_29 h8 n h n x1 x2 x3 H hG
theorem sMX12_common {l : Launch} {h0 : Hp} {v : Int} (h8 : nOf h0 = 148) (n : Nat) (x1 : Int) (h : Hp) {r : Int} (H : MX12_common n x1 h = some r) (hG : gV v r) : PAt l false (mi 251).1 h0 v h 0 [(0, 16, 113), (1, 0, x1)] [] h :=
  pat_ro ok_sdX12_common rfl rkX12_common h8 (foX12_common n) (frX12_common n) (fun v1 q => by
    cases q
    exact ⟨rfl, fun _ => hG⟩) (List.forall_mem_cons.mpr ⟨(fun a c H => by
      dsimp only at H
      split at H
      · exact sLX12_common_29 h8 n _ _ _ _ H hG
      · cases H), (fun q9 h9 => by cases h9)⟩) ((eMX12_common n x1 h).symm.trans H)
theorem sndX12_common {ρ : Type} {l : Launch} (n : Nat) : SndF (ρ := ρ) l false (mi 251).1 (wX12_common n) := by
    intro a h k r H ha ho hn hf
    have h8 := hf rfl
    obtain ⟨x0, x1, rfl⟩ := len2 (show a.length = 2 from ha)
    have u0 := uq16 hn (ho (16, x0) (List.mem_cons_self))
    subst u0
    replace H : bndp (MX12_common n x1 h) (fun r => k r h) = some r := H
    obtain ⟨v2, H1, H2⟩ := bndp_some H
    exact ⟨v2, h, H2, met_mk (mok_base okX12_common).1 (by decide +kernel) (Nat.le_of_ble_eq_true rfl) ho (sMX12_common h8 n x1 h H1 rfl), fun q => by cases q⟩
theorem roX12_common {ρ : Type} (n : Nat) : RoF (wX12_common n : FN ρ) := fun a h k k2 hk => by
  unfold wX12_common
  split
  · exact bndp_ro hk
  · rfl
/-! X11_image -/
def sdX11_image : SD := [(0, [(0, .iload_n 1, 1, [], 0), (1, .ifCond .lt 8, 3, [], 0)]),
  (4, [(4, .iload_n 1, 1, [], 0), (5, .iconst 3, 1, [], 0), (6, .if_icmp .lt 5, 3, [], 0)]),
  (9, [(9, .iconst (-1), 1, [], 0), (10, .ireturn, 1, [], 0)]),
  (11, [(11, .aload_n 0, 1, [], 0), (12, .getfield 71, 3, [11, 10, 48, 1, 700, 0], 88), (15, .iload_n 1, 1, [], 0), (16, .aaload, 1, [], 0), (17, .aload_n 0, 1, [], 0), (18, .getfield 57, 3, [11, 7, 12, 1, 697, 0], 64), (21, .invokevirtual 225, 3, [0, 0, 1, 124, 1120, 12, 12], 0), (24, .aload_n 0, 1, [], 0), (25, .getfield 75, 3, [11, 11, 46, 1, 701, 0], 92), (28, .iload_n 1, 1, [], 0), (29, .iconst 1, 1, [], 0), (30, .bastore, 1, [], 0), (31, .aload_n 0, 1, [], 0), (32, .getfield 57, 3, [11, 7, 12, 1, 697, 0], 64), (35, .getfield 200, 3, [8, 0, 0, 0, 483, 0], 0), (38, .ireturn, 1, [], 0)])]
def MX11_image (x1 : Int) (h : Hp) : Option (Int × Hp) :=
(if x1 < 0 then
(some ((-1), h))
else
(if x1 < 3 then
(grd (0 ≤ x1 ∧ x1 < alen 48)
(bndh (MX8_become (89 + x1) 64 h) fun h1 =>
(grd (0 ≤ x1 ∧ x1 < alen 46)
(ltt (up h1 92 x1 (1 % 2)) fun h2 =>
(some ((h2 64 0), h2))))))
else
(some ((-1), h))))
def wX11_image {ρ : Type} : FN ρ := fun a h k => match a with
  | [_, x1] => bnd (MX11_image x1 h) (fun r h2 => k r h2)
  | _ => none
def fsX11_image (ρ : Type) : List (FN ρ) := [wX8_become]
def KMX11_image  : CT (Int × Hp) := []
set_option maxRecDepth 100000 in
theorem eMX11_image (x1 : Int) (h : Hp) : MX11_image x1 h =
  goAt false (kct (KMX11_image)) (fun v h => some ((v, h))) (fsX11_image _) sdX11_image 1000 0 [(0, 15, 0), (1, 0, x1)] [] h := rfl
theorem okX11_image : mokb (mi 252) = true := by decide +kernel
theorem rkX11_image : rkOK 1 (mi 252).1.2.2.2.2.2.2.1 (mi 252).1.2.2.2.1 := Or.inr (Or.inl ⟨rfl, rfl, rfl⟩)
def calX11_image : List Nat := [124]
theorem foX11_image {l : Launch} {ρ : Type} : fsOK l false mi calX11_image (fsX11_image ρ) := ⟨sndX8_become, trivial⟩
theorem ok_sdX11_image : sdb (mi 252).1.2.1 (insOK mi (mi 252).1.1.cls (mi 252).1.2.2.1 (mi 252).1.2.2.2.2.1 (mi 252).1.2.2.2.2.2.1 calX11_image false 1) sdX11_image = true := by decide +kernel
theorem sMX11_image {l : Launch} {h0 h' : Hp} {v : Int} (h8 : nOf h0 = 148)  (x1 : Int) (h : Hp) {r : Int × Hp} (H : MX11_image x1 h = some r) (hG : gWV v h' r) : PAt l false (mi 252).1 h0 v h' 0 [(0, 15, 0), (1, 0, x1)] [] h :=
  pat_w ok_sdX11_image rkX11_image h8 (foX11_image) (fun v1 h1 q => by
    cases q
    exact ⟨hG.1, fun _ => hG.2⟩) (fun q9 h9 => by cases h9) ((eMX11_image x1 h).symm.trans H)
theorem sndX11_image {ρ : Type} {l : Launch} : SndF (ρ := ρ) l false (mi 252).1 (wX11_image) := by
    intro a h k r H ha ho hn hf
    have h8 := hf rfl
    obtain ⟨x0, x1, rfl⟩ := len2 (show a.length = 2 from ha)
    have u0 := uq15 hn (ho (15, x0) (List.mem_cons_self))
    subst u0
    replace H : bnd (MX11_image x1 h) (fun r h2 => k r h2) = some r := H
    obtain ⟨v2, h2, H1, H2⟩ := bnd_some H
    exact ⟨v2, h2, H2, met_mk (mok_base okX11_image).1 (by decide +kernel) (Nat.le_of_ble_eq_true rfl) ho (sMX11_image h8 x1 h H1 ⟨rfl, rfl⟩), fun q => by cases q⟩
/-! X12_keepsIn_v2 -/
def sdX12_keepsIn_v2 : SD := [(0, [(0, .aload_n 1, 1, [], 0), (1, .iload_n 2, 1, [], 0), (2, .aload_n 0, 1, [], 0), (3, .getfield 165, 3, [12, 42, 0, 0, 1364, 0], 0), (6, .iastore, 1, [], 0), (7, .aload_n 1, 1, [], 0), (8, .iload_n 2, 1, [], 0), (9, .iconst 1, 1, [], 0), (10, .iadd, 1, [], 0), (11, .aload_n 0, 1, [], 0), (12, .getfield 168, 3, [12, 43, 0, 0, 1365, 0], 0), (15, .iastore, 1, [], 0), (16, .aload_n 1, 1, [], 0), (17, .iload_n 2, 1, [], 0), (18, .iconst 2, 1, [], 0), (19, .iadd, 1, [], 0), (20, .aload_n 0, 1, [], 0), (21, .getfield 171, 3, [12, 44, 0, 0, 1366, 0], 0), (24, .iastore, 1, [], 0), (25, .aload_n 1, 1, [], 0), (26, .iload_n 2, 1, [], 0), (27, .iconst 3, 1, [], 0), (28, .iadd, 1, [], 0), (29, .aload_n 0, 1, [], 0), (30, .getfield 158, 3, [12, 45, 0, 0, 1367, 0], 0), (33, .iastore, 1, [], 0), (34, .aload_n 1, 1, [], 0), (35, .iload_n 2, 1, [], 0), (36, .iconst 4, 1, [], 0), (37, .iadd, 1, [], 0), (38, .aload_n 0, 1, [], 0), (39, .getfield 161, 3, [12, 47, 0, 0, 1369, 0], 0), (42, .invokestatic 446, 3, [1, 0, 3, 141, 1727, 0], 0), (45, .iastore, 1, [], 0), (46, .aload_n 1, 1, [], 0), (47, .iload_n 2, 1, [], 0), (48, .iconst 5, 1, [], 0), (49, .iadd, 1, [], 0), (50, .aload_n 0, 1, [], 0), (51, .getfield 174, 3, [12, 46, 0, 0, 1368, 0], 0), (54, .iastore, 1, [], 0), (55, .return_, 1, [], 0)])]
def MX12_keepsIn_v2 (x2 : Int) (h : Hp) : Option (Hp) :=
(grd (0 ≤ x2 ∧ x2 < alen 164)
(ltt (up h 146 x2 (h 113 42)) fun h1 =>
(grd (0 ≤ (w32 (x2 + 1)) ∧ (w32 (x2 + 1)) < alen 164)
(ltt (up h1 146 (w32 (x2 + 1)) (h1 113 43)) fun h2 =>
(grd (0 ≤ (w32 (x2 + 2)) ∧ (w32 (x2 + 2)) < alen 164)
(ltt (up h2 146 (w32 (x2 + 2)) (h2 113 44)) fun h3 =>
(grd (0 ≤ (w32 (x2 + 3)) ∧ (w32 (x2 + 3)) < alen 164)
(ltt (up h3 146 (w32 (x2 + 3)) (h3 113 45)) fun h4 =>
(bndp (MX12_truth (h4 113 47)) fun r1 =>
(grd (0 ≤ (w32 (x2 + 4)) ∧ (w32 (x2 + 4)) < alen 164)
(ltt (up h4 146 (w32 (x2 + 4)) r1) fun h5 =>
(grd (0 ≤ (w32 (x2 + 5)) ∧ (w32 (x2 + 5)) < alen 164)
(ltt (up h5 146 (w32 (x2 + 5)) (h5 113 46)) fun h6 =>
(some h6))))))))))))))
def wX12_keepsIn_v2 {ρ : Type} : FN ρ := fun a h k => match a with
  | [_, _, x2] => bndh (MX12_keepsIn_v2 x2 h) (fun h2 => k 0 h2)
  | _ => none
def fsX12_keepsIn_v2 (ρ : Type) : List (FN ρ) := [wX12_truth]
def KMX12_keepsIn_v2  : CT (Hp) := []
set_option maxRecDepth 100000 in
theorem eMX12_keepsIn_v2 (x2 : Int) (h : Hp) : MX12_keepsIn_v2 x2 h =
  goAt false (kct (KMX12_keepsIn_v2)) (fun _ h => some (h)) (fsX12_keepsIn_v2 _) sdX12_keepsIn_v2 1000 0 [(0, 16, 113), (1, 164, 146), (2, 0, x2)] [] h := rfl
theorem okX12_keepsIn_v2 : mokb (mi 253) = true := by decide +kernel
theorem rkX12_keepsIn_v2 : rkOK 0 (mi 253).1.2.2.2.2.2.2.1 (mi 253).1.2.2.2.1 := Or.inl ⟨rfl, rfl, rfl⟩
def calX12_keepsIn_v2 : List Nat := [141]
theorem foX12_keepsIn_v2 {l : Launch} {ρ : Type} : fsOK l false mi calX12_keepsIn_v2 (fsX12_keepsIn_v2 ρ) := ⟨sndX12_truth, trivial⟩
theorem ok_sdX12_keepsIn_v2 : sdb (mi 253).1.2.1 (insOK mi (mi 253).1.1.cls (mi 253).1.2.2.1 (mi 253).1.2.2.2.2.1 (mi 253).1.2.2.2.2.2.1 calX12_keepsIn_v2 false 0) sdX12_keepsIn_v2 = true := by decide +kernel
theorem sMX12_keepsIn_v2 {l : Launch} {h0 h' : Hp} {v : Int} (h8 : nOf h0 = 148)  (x2 : Int) (h : Hp) {r : Hp} (H : MX12_keepsIn_v2 x2 h = some r) (hG : gW h' r) : PAt l false (mi 253).1 h0 v h' 0 [(0, 16, 113), (1, 164, 146), (2, 0, x2)] [] h :=
  pat_w ok_sdX12_keepsIn_v2 rkX12_keepsIn_v2 h8 (foX12_keepsIn_v2) (fun v1 h1 q => by
    cases q
    exact ⟨hG, fun q9 => absurd rfl q9⟩) (fun q9 h9 => by cases h9) ((eMX12_keepsIn_v2 x2 h).symm.trans H)
theorem sndX12_keepsIn_v2 {ρ : Type} {l : Launch} : SndF (ρ := ρ) l false (mi 253).1 (wX12_keepsIn_v2) := by
    intro a h k r H ha ho hn hf
    have h8 := hf rfl
    obtain ⟨x0, x1, x2, rfl⟩ := len3 (show a.length = 3 from ha)
    have u0 := uq16 hn (ho (16, x0) (List.mem_cons_self))
    subst u0
    have u1 := uq164 hn (ho (164, x1) (List.mem_cons_of_mem _ List.mem_cons_self))
    subst u1
    replace H : bndh (MX12_keepsIn_v2 x2 h) (fun h2 => k 0 h2) = some r := H
    obtain ⟨h2, H1, H2⟩ := bndh_some H
    exact ⟨0, h2, H2, met_mk (mok_base okX12_keepsIn_v2).1 (by decide +kernel) (Nat.le_of_ble_eq_true rfl) ho (sMX12_keepsIn_v2 h8 x2 h H1 rfl), fun q => by cases q⟩
/-! X12_image -/
def sdX12_image : SD := [(0, [(0, .iload_n 1, 1, [], 0), (1, .i2l, 1, [], 0), (2, .lconst 0, 1, [], 0), (3, .ldc2_w 125, 3, [1, 1321], 2), (6, .invokestatic 217, 3, [1, 0, 3, 81, 1561, 1, 1, 1], 0), (9, .ifCond .ne 5, 3, [], 0)]),
  (12, [(12, .iconst (-1), 1, [], 0), (13, .ireturn, 1, [], 0)]),
  (14, [(14, .aload_n 0, 1, [], 0), (15, .aload_n 0, 1, [], 0), (16, .getfield 110, 3, [12, 63, 164, 1, 1385, 0], 33), (19, .bipush 6, 2, [], 0), (21, .iload_n 1, 1, [], 0), (22, .imul, 1, [], 0), (23, .invokevirtual 450, 3, [0, 1, 1, 253, 1723, 0, 164, 16], 0), (26, .aload_n 0, 1, [], 0), (27, .getfield 113, 3, [12, 64, 46, 1, 1386, 0], 34), (30, .iload_n 1, 1, [], 0), (31, .iconst 1, 1, [], 0), (32, .bastore, 1, [], 0), (33, .aload_n 0, 1, [], 0), (34, .getfield 165, 3, [12, 42, 0, 0, 1364, 0], 0), (37, .ireturn, 1, [], 0)])]
def MX12_image (x1 : Int) (h : Hp) : Option (Int × Hp) :=
(bndp (MX12_in x1 0 2) fun r1 =>
(if r1 ≠ 0 then
(bndh (MX12_keepsIn_v2 (w32 (6 * x1)) h) fun h1 =>
(grd (0 ≤ x1 ∧ x1 < alen 46)
(ltt (up h1 147 x1 (1 % 2)) fun h2 =>
(some ((h2 113 42), h2)))))
else
(some ((-1), h))))
def wX12_image {ρ : Type} : FN ρ := fun a h k => match a with
  | [_, x1] => bnd (MX12_image x1 h) (fun r h2 => k r h2)
  | _ => none
def fsX12_image (ρ : Type) : List (FN ρ) := [wX12_in, wX12_keepsIn_v2]
def KMX12_image  : CT (Int × Hp) := []
set_option maxRecDepth 100000 in
theorem eMX12_image (x1 : Int) (h : Hp) : MX12_image x1 h =
  goAt false (kct (KMX12_image)) (fun v h => some ((v, h))) (fsX12_image _) sdX12_image 1000 0 [(0, 16, 113), (1, 0, x1)] [] h := rfl
theorem okX12_image : mokb (mi 254) = true := by decide +kernel
theorem rkX12_image : rkOK 1 (mi 254).1.2.2.2.2.2.2.1 (mi 254).1.2.2.2.1 := Or.inr (Or.inl ⟨rfl, rfl, rfl⟩)
def calX12_image : List Nat := [81, 253]
theorem foX12_image {l : Launch} {ρ : Type} : fsOK l false mi calX12_image (fsX12_image ρ) := ⟨sndX12_in, ⟨sndX12_keepsIn_v2, trivial⟩⟩
theorem ok_sdX12_image : sdb (mi 254).1.2.1 (insOK mi (mi 254).1.1.cls (mi 254).1.2.2.1 (mi 254).1.2.2.2.2.1 (mi 254).1.2.2.2.2.2.1 calX12_image false 1) sdX12_image = true := by decide +kernel
theorem sMX12_image {l : Launch} {h0 h' : Hp} {v : Int} (h8 : nOf h0 = 148)  (x1 : Int) (h : Hp) {r : Int × Hp} (H : MX12_image x1 h = some r) (hG : gWV v h' r) : PAt l false (mi 254).1 h0 v h' 0 [(0, 16, 113), (1, 0, x1)] [] h :=
  pat_w ok_sdX12_image rkX12_image h8 (foX12_image) (fun v1 h1 q => by
    cases q
    exact ⟨hG.1, fun _ => hG.2⟩) (fun q9 h9 => by cases h9) ((eMX12_image x1 h).symm.trans H)
theorem sndX12_image {ρ : Type} {l : Launch} : SndF (ρ := ρ) l false (mi 254).1 (wX12_image) := by
    intro a h k r H ha ho hn hf
    have h8 := hf rfl
    obtain ⟨x0, x1, rfl⟩ := len2 (show a.length = 2 from ha)
    have u0 := uq16 hn (ho (16, x0) (List.mem_cons_self))
    subst u0
    replace H : bnd (MX12_image x1 h) (fun r h2 => k r h2) = some r := H
    obtain ⟨v2, h2, H1, H2⟩ := bnd_some H
    exact ⟨v2, h2, H2, met_mk (mok_base okX12_image).1 (by decide +kernel) (Nat.le_of_ble_eq_true rfl) ho (sMX12_image h8 x1 h H1 ⟨rfl, rfl⟩), fun q => by cases q⟩
/-! X11_back -/
def sdX11_back : SD := [(0, [(0, .iload_n 1, 1, [], 0), (1, .ifCond .lt 17, 3, [], 0)]),
  (4, [(4, .iload_n 1, 1, [], 0), (5, .iconst 3, 1, [], 0), (6, .if_icmp .ge 12, 3, [], 0)]),
  (9, [(9, .aload_n 0, 1, [], 0), (10, .getfield 75, 3, [11, 11, 46, 1, 701, 0], 92), (13, .iload_n 1, 1, [], 0), (14, .baload, 1, [], 0), (15, .ifCond .ne 5, 3, [], 0)]),
  (18, [(18, .iconst (-1), 1, [], 0), (19, .ireturn, 1, [], 0)]),
  (20, [(20, .aload_n 0, 1, [], 0), (21, .getfield 57, 3, [11, 7, 12, 1, 697, 0], 64), (24, .aload_n 0, 1, [], 0), (25, .getfield 71, 3, [11, 10, 48, 1, 700, 0], 88), (28, .iload_n 1, 1, [], 0), (29, .aaload, 1, [], 0), (30, .invokevirtual 225, 3, [0, 0, 1, 124, 1120, 12, 12], 0), (33, .aload_n 0, 1, [], 0), (34, .getfield 47, 3, [11, 5, 5, 1, 695, 0], 50), (37, .aload_n 0, 1, [], 0), (38, .getfield 57, 3, [11, 7, 12, 1, 697, 0], 64), (41, .getfield 203, 3, [8, 4, 0, 0, 494, 0], 0), (44, .invokevirtual 125, 3, [1, 1, 1, 59, 601, 0, 5], 0), (47, .pop, 1, [], 0), (48, .aload_n 0, 1, [], 0), (49, .getfield 67, 3, [11, 9, 9, 1, 699, 0], 66), (52, .invokevirtual 139, 3, [0, 2, 1, 74, 686, 9], 0), (55, .aload_n 0, 1, [], 0), (56, .getfield 57, 3, [11, 7, 12, 1, 697, 0], 64), (59, .getfield 200, 3, [8, 0, 0, 0, 483, 0], 0), (62, .ireturn, 1, [], 0)])]
def MX11_back (n : Nat) (x1 : Int) (h : Hp) : Option (Int × Hp) :=
(if x1 < 0 then
(some ((-1), h))
else
(if 3 ≤ x1 then
(some ((-1), h))
else
(grd (0 ≤ x1 ∧ x1 < alen 46)
(if (h 92 x1) ≠ 0 then
(grd (0 ≤ x1 ∧ x1 < alen 48)
(bndh (MX8_become 64 (89 + x1) h) fun h1 =>
(bnd (MX1_grant n 50 (h1 64 4) h1) fun r1 h2 =>
(bndh (MX5_forget h2) fun h3 =>
(some ((h3 64 0), h3))))))
else
(some ((-1), h))))))
def wX11_back {ρ : Type} (n : Nat) : FN ρ := fun a h k => match a with
  | [_, x1] => bnd (MX11_back n x1 h) (fun r h2 => k r h2)
  | _ => none
def fsX11_back (n : Nat) (ρ : Type) : List (FN ρ) := [wX8_become, wX1_grant n, wX5_forget]
def KMX11_back (_ : Nat) : CT (Int × Hp) := []
set_option maxRecDepth 100000 in
theorem eMX11_back (n : Nat) (x1 : Int) (h : Hp) : MX11_back n x1 h =
  goAt false (kct (KMX11_back n)) (fun v h => some ((v, h))) (fsX11_back n _) sdX11_back 1000 0 [(0, 15, 0), (1, 0, x1)] [] h := rfl
theorem okX11_back : mokb (mi 255) = true := by decide +kernel
theorem rkX11_back : rkOK 1 (mi 255).1.2.2.2.2.2.2.1 (mi 255).1.2.2.2.1 := Or.inr (Or.inl ⟨rfl, rfl, rfl⟩)
def calX11_back : List Nat := [124, 59, 74]
theorem foX11_back {l : Launch} {ρ : Type} (n : Nat) : fsOK l false mi calX11_back (fsX11_back n ρ) := ⟨sndX8_become, ⟨(sndX1_grant n), ⟨sndX5_forget, trivial⟩⟩⟩
theorem ok_sdX11_back : sdb (mi 255).1.2.1 (insOK mi (mi 255).1.1.cls (mi 255).1.2.2.1 (mi 255).1.2.2.2.2.1 (mi 255).1.2.2.2.2.2.1 calX11_back false 1) sdX11_back = true := by decide +kernel
theorem sMX11_back {l : Launch} {h0 h' : Hp} {v : Int} (h8 : nOf h0 = 148) (n : Nat) (x1 : Int) (h : Hp) {r : Int × Hp} (H : MX11_back n x1 h = some r) (hG : gWV v h' r) : PAt l false (mi 255).1 h0 v h' 0 [(0, 15, 0), (1, 0, x1)] [] h :=
  pat_w ok_sdX11_back rkX11_back h8 (foX11_back n) (fun v1 h1 q => by
    cases q
    exact ⟨hG.1, fun _ => hG.2⟩) (fun q9 h9 => by cases h9) ((eMX11_back n x1 h).symm.trans H)
theorem sndX11_back {ρ : Type} {l : Launch} (n : Nat) : SndF (ρ := ρ) l false (mi 255).1 (wX11_back n) := by
    intro a h k r H ha ho hn hf
    have h8 := hf rfl
    obtain ⟨x0, x1, rfl⟩ := len2 (show a.length = 2 from ha)
    have u0 := uq15 hn (ho (15, x0) (List.mem_cons_self))
    subst u0
    replace H : bnd (MX11_back n x1 h) (fun r h2 => k r h2) = some r := H
    obtain ⟨v2, h2, H1, H2⟩ := bnd_some H
    exact ⟨v2, h2, H2, met_mk (mok_base okX11_back).1 (by decide +kernel) (Nat.le_of_ble_eq_true rfl) ho (sMX11_back h8 n x1 h H1 ⟨rfl, rfl⟩), fun q => by cases q⟩
/-! X12_laysFrom_v2 -/
def sdX12_laysFrom_v2 : SD := [(0, [(0, .aload_n 0, 1, [], 0), (1, .aload_n 1, 1, [], 0), (2, .iload_n 2, 1, [], 0), (3, .iaload, 1, [], 0), (4, .putfield 165, 3, [12, 42, 0, 0, 0, 1364], 0), (7, .aload_n 0, 1, [], 0), (8, .aload_n 1, 1, [], 0), (9, .iload_n 2, 1, [], 0), (10, .iconst 1, 1, [], 0), (11, .iadd, 1, [], 0), (12, .iaload, 1, [], 0), (13, .putfield 168, 3, [12, 43, 0, 0, 0, 1365], 0), (16, .aload_n 0, 1, [], 0), (17, .aload_n 1, 1, [], 0), (18, .iload_n 2, 1, [], 0), (19, .iconst 2, 1, [], 0), (20, .iadd, 1, [], 0), (21, .iaload, 1, [], 0), (22, .putfield 171, 3, [12, 44, 0, 0, 0, 1366], 0), (25, .aload_n 0, 1, [], 0), (26, .aload_n 1, 1, [], 0), (27, .iload_n 2, 1, [], 0), (28, .iconst 3, 1, [], 0), (29, .iadd, 1, [], 0), (30, .iaload, 1, [], 0), (31, .putfield 158, 3, [12, 45, 0, 0, 0, 1367], 0), (34, .aload_n 0, 1, [], 0), (35, .aload_n 1, 1, [], 0), (36, .iload_n 2, 1, [], 0), (37, .iconst 4, 1, [], 0), (38, .iadd, 1, [], 0), (39, .iaload, 1, [], 0), (40, .iconst 1, 1, [], 0), (41, .if_icmp .ne 7, 3, [], 0)]),
  (44, [(44, .iconst 1, 1, [], 0), (45, .goto 4, 3, [], 0)]),
  (48, [(48, .iconst 0, 1, [], 0)]),
  (49, [(49, .putfield 161, 3, [12, 47, 0, 0, 1, 1369], 0), (52, .aload_n 0, 1, [], 0), (53, .aload_n 1, 1, [], 0), (54, .iload_n 2, 1, [], 0), (55, .iconst 5, 1, [], 0), (56, .iadd, 1, [], 0), (57, .iaload, 1, [], 0), (58, .putfield 174, 3, [12, 46, 0, 0, 0, 1368], 0), (61, .return_, 1, [], 0)])]
def JX12_laysFrom_v2_49 (x2 z1 : Int) (h : Hp) : Option (Hp) :=
(grd (z1 = 0 ∨ z1 = 1)
(ltt (up h 113 47 z1) fun h1 =>
(grd (0 ≤ (w32 (x2 + 5)) ∧ (w32 (x2 + 5)) < alen 164)
(ltt (up h1 113 46 (h1 146 (w32 (x2 + 5)))) fun h2 =>
(some h2)))))
def MX12_laysFrom_v2 (x2 : Int) (h : Hp) : Option (Hp) :=
(grd (0 ≤ x2 ∧ x2 < alen 164)
(ltt (up h 113 42 (h 146 x2)) fun h1 =>
(grd (0 ≤ (w32 (x2 + 1)) ∧ (w32 (x2 + 1)) < alen 164)
(ltt (up h1 113 43 (h1 146 (w32 (x2 + 1)))) fun h2 =>
(grd (0 ≤ (w32 (x2 + 2)) ∧ (w32 (x2 + 2)) < alen 164)
(ltt (up h2 113 44 (h2 146 (w32 (x2 + 2)))) fun h3 =>
(grd (0 ≤ (w32 (x2 + 3)) ∧ (w32 (x2 + 3)) < alen 164)
(ltt (up h3 113 45 (h3 146 (w32 (x2 + 3)))) fun h4 =>
(grd (0 ≤ (w32 (x2 + 4)) ∧ (w32 (x2 + 4)) < alen 164)
(if (h4 146 (w32 (x2 + 4))) ≠ 1 then
(JX12_laysFrom_v2_49 x2 0 h4)
else
(JX12_laysFrom_v2_49 x2 1 h4)))))))))))
def wX12_laysFrom_v2 {ρ : Type} : FN ρ := fun a h k => match a with
  | [_, _, x2] => bndh (MX12_laysFrom_v2 x2 h) (fun h2 => k 0 h2)
  | _ => none
def fsX12_laysFrom_v2 (ρ : Type) : List (FN ρ) := []
def KJX12_laysFrom_v2_49  : CT (Hp) := []
set_option maxRecDepth 100000 in
theorem eJX12_laysFrom_v2_49 (x2 : Int) (z1 : Int) (h : Hp) : JX12_laysFrom_v2_49 x2 z1 h =
  goAt false (kct (KJX12_laysFrom_v2_49)) (fun _ h => some (h)) (fsX12_laysFrom_v2 _) sdX12_laysFrom_v2 1000 49 [(0, 16, 113), (1, 164, 146), (2, 0, x2)] [(0, z1), (16, 113)] h := rfl
def KMX12_laysFrom_v2  : CT (Hp) := [(49, [(0, 16, (some 113)), (1, 164, (some 146)), (2, 0, none)], [(0, none), (16, (some 113))], fun a c h => match a, c with
    | [x2], [z1] => JX12_laysFrom_v2_49 x2 z1 h
    | _, _ => none)]
set_option maxRecDepth 100000 in
theorem eMX12_laysFrom_v2 (x2 : Int) (h : Hp) : MX12_laysFrom_v2 x2 h =
  goAt false (kct (KMX12_laysFrom_v2)) (fun _ h => some (h)) (fsX12_laysFrom_v2 _) sdX12_laysFrom_v2 1000 0 [(0, 16, 113), (1, 164, 146), (2, 0, x2)] [] h := rfl
theorem okX12_laysFrom_v2 : mokb (mi 256) = true := by decide +kernel
theorem rkX12_laysFrom_v2 : rkOK 0 (mi 256).1.2.2.2.2.2.2.1 (mi 256).1.2.2.2.1 := Or.inl ⟨rfl, rfl, rfl⟩
def calX12_laysFrom_v2 : List Nat := []
theorem foX12_laysFrom_v2 {l : Launch} {ρ : Type} : fsOK l false mi calX12_laysFrom_v2 (fsX12_laysFrom_v2 ρ) := trivial
theorem ok_sdX12_laysFrom_v2 : sdb (mi 256).1.2.1 (insOK mi (mi 256).1.1.cls (mi 256).1.2.2.1 (mi 256).1.2.2.2.2.1 (mi 256).1.2.2.2.2.2.1 calX12_laysFrom_v2 false 0) sdX12_laysFrom_v2 = true := by decide +kernel
theorem sJX12_laysFrom_v2_49 {l : Launch} {h0 h' : Hp} {v : Int} (h8 : nOf h0 = 148)  (x2 : Int) (z1 : Int) (h : Hp) {r : Hp} (H : JX12_laysFrom_v2_49 x2 z1 h = some r) (hG : gW h' r) : PAt l false (mi 256).1 h0 v h' 49 [(0, 16, 113), (1, 164, 146), (2, 0, x2)] [(0, z1), (16, 113)] h :=
  pat_w ok_sdX12_laysFrom_v2 rkX12_laysFrom_v2 h8 (foX12_laysFrom_v2) (fun v1 h1 q => by
    cases q
    exact ⟨hG, fun q9 => absurd rfl q9⟩) (fun q9 h9 => by cases h9) ((eJX12_laysFrom_v2_49 x2 z1 h).symm.trans H)
theorem sMX12_laysFrom_v2 {l : Launch} {h0 h' : Hp} {v : Int} (h8 : nOf h0 = 148)  (x2 : Int) (h : Hp) {r : Hp} (H : MX12_laysFrom_v2 x2 h = some r) (hG : gW h' r) : PAt l false (mi 256).1 h0 v h' 0 [(0, 16, 113), (1, 164, 146), (2, 0, x2)] [] h :=
  pat_w ok_sdX12_laysFrom_v2 rkX12_laysFrom_v2 h8 (foX12_laysFrom_v2) (fun v1 h1 q => by
    cases q
    exact ⟨hG, fun q9 => absurd rfl q9⟩) (List.forall_mem_cons.mpr ⟨(fun a c h H => by
      dsimp only at H
      split at H
      · exact sJX12_laysFrom_v2_49 h8 _ _ _ H hG
      · cases H), (fun q9 h9 => by cases h9)⟩) ((eMX12_laysFrom_v2 x2 h).symm.trans H)
theorem sndX12_laysFrom_v2 {ρ : Type} {l : Launch} : SndF (ρ := ρ) l false (mi 256).1 (wX12_laysFrom_v2) := by
    intro a h k r H ha ho hn hf
    have h8 := hf rfl
    obtain ⟨x0, x1, x2, rfl⟩ := len3 (show a.length = 3 from ha)
    have u0 := uq16 hn (ho (16, x0) (List.mem_cons_self))
    subst u0
    have u1 := uq164 hn (ho (164, x1) (List.mem_cons_of_mem _ List.mem_cons_self))
    subst u1
    replace H : bndh (MX12_laysFrom_v2 x2 h) (fun h2 => k 0 h2) = some r := H
    obtain ⟨h2, H1, H2⟩ := bndh_some H
    exact ⟨0, h2, H2, met_mk (mok_base okX12_laysFrom_v2).1 (by decide +kernel) (Nat.le_of_ble_eq_true rfl) ho (sMX12_laysFrom_v2 h8 x2 h H1 rfl), fun q => by cases q⟩
/-! X12_back -/
def sdX12_back : SD := [(0, [(0, .iload_n 1, 1, [], 0), (1, .i2l, 1, [], 0), (2, .lconst 0, 1, [], 0), (3, .ldc2_w 125, 3, [1, 1321], 2), (6, .invokestatic 217, 3, [1, 0, 3, 81, 1561, 1, 1, 1], 0), (9, .ifCond .eq 12, 3, [], 0)]),
  (12, [(12, .aload_n 0, 1, [], 0), (13, .getfield 113, 3, [12, 64, 46, 1, 1386, 0], 34), (16, .iload_n 1, 1, [], 0), (17, .baload, 1, [], 0), (18, .ifCond .ne 5, 3, [], 0)]),
  (21, [(21, .iconst (-1), 1, [], 0), (22, .ireturn, 1, [], 0)]),
  (23, [(23, .aload_n 0, 1, [], 0), (24, .aload_n 0, 1, [], 0), (25, .getfield 110, 3, [12, 63, 164, 1, 1385, 0], 33), (28, .bipush 6, 2, [], 0), (30, .iload_n 1, 1, [], 0), (31, .imul, 1, [], 0), (32, .invokevirtual 454, 3, [0, 1, 1, 256, 1664, 0, 164, 16], 0), (35, .aload_n 0, 1, [], 0), (36, .iconst 0, 1, [], 0), (37, .putfield 177, 3, [12, 54, 0, 0, 0, 1376], 0), (40, .aload_n 0, 1, [], 0), (41, .getfield 165, 3, [12, 42, 0, 0, 1364, 0], 0), (44, .ireturn, 1, [], 0)])]
def MX12_back (x1 : Int) (h : Hp) : Option (Int × Hp) :=
(bndp (MX12_in x1 0 2) fun r1 =>
(if r1 = 0 then
(some ((-1), h))
else
(grd (0 ≤ x1 ∧ x1 < alen 46)
(if (h 147 x1) ≠ 0 then
(bndh (MX12_laysFrom_v2 (w32 (6 * x1)) h) fun h1 =>
(ltt (up h1 113 54 0) fun h2 =>
(some ((h2 113 42), h2))))
else
(some ((-1), h))))))
def wX12_back {ρ : Type} : FN ρ := fun a h k => match a with
  | [_, x1] => bnd (MX12_back x1 h) (fun r h2 => k r h2)
  | _ => none
def fsX12_back (ρ : Type) : List (FN ρ) := [wX12_in, wX12_laysFrom_v2]
def KMX12_back  : CT (Int × Hp) := []
set_option maxRecDepth 100000 in
theorem eMX12_back (x1 : Int) (h : Hp) : MX12_back x1 h =
  goAt false (kct (KMX12_back)) (fun v h => some ((v, h))) (fsX12_back _) sdX12_back 1000 0 [(0, 16, 113), (1, 0, x1)] [] h := rfl
theorem okX12_back : mokb (mi 257) = true := by decide +kernel
theorem rkX12_back : rkOK 1 (mi 257).1.2.2.2.2.2.2.1 (mi 257).1.2.2.2.1 := Or.inr (Or.inl ⟨rfl, rfl, rfl⟩)
def calX12_back : List Nat := [81, 256]
theorem foX12_back {l : Launch} {ρ : Type} : fsOK l false mi calX12_back (fsX12_back ρ) := ⟨sndX12_in, ⟨sndX12_laysFrom_v2, trivial⟩⟩
theorem ok_sdX12_back : sdb (mi 257).1.2.1 (insOK mi (mi 257).1.1.cls (mi 257).1.2.2.1 (mi 257).1.2.2.2.2.1 (mi 257).1.2.2.2.2.2.1 calX12_back false 1) sdX12_back = true := by decide +kernel
theorem sMX12_back {l : Launch} {h0 h' : Hp} {v : Int} (h8 : nOf h0 = 148)  (x1 : Int) (h : Hp) {r : Int × Hp} (H : MX12_back x1 h = some r) (hG : gWV v h' r) : PAt l false (mi 257).1 h0 v h' 0 [(0, 16, 113), (1, 0, x1)] [] h :=
  pat_w ok_sdX12_back rkX12_back h8 (foX12_back) (fun v1 h1 q => by
    cases q
    exact ⟨hG.1, fun _ => hG.2⟩) (fun q9 h9 => by cases h9) ((eMX12_back x1 h).symm.trans H)
theorem sndX12_back {ρ : Type} {l : Launch} : SndF (ρ := ρ) l false (mi 257).1 (wX12_back) := by
    intro a h k r H ha ho hn hf
    have h8 := hf rfl
    obtain ⟨x0, x1, rfl⟩ := len2 (show a.length = 2 from ha)
    have u0 := uq16 hn (ho (16, x0) (List.mem_cons_self))
    subst u0
    replace H : bnd (MX12_back x1 h) (fun r h2 => k r h2) = some r := H
    obtain ⟨v2, h2, H1, H2⟩ := bnd_some H
    exact ⟨v2, h2, H2, met_mk (mok_base okX12_back).1 (by decide +kernel) (Nat.le_of_ble_eq_true rfl) ho (sMX12_back h8 x1 h H1 ⟨rfl, rfl⟩), fun q => by cases q⟩
/-! X11_count -/
def sdX11_count : SD := [(0, [(0, .iload_n 1, 1, [], 0), (1, .tableswitch 218 0 15 #[79, 87, 95, 103, 111, 119, 127, 135, 143, 151, 167, 178, 186, 194, 202, 210], 79, [], 0)]),
  (80, [(80, .aload_n 0, 1, [], 0), (81, .getfield 10, 3, [11, 2, 14, 0, 692, 0], 0), (84, .getfield 112, 3, [10, 11, 0, 0, 204, 0], 0), (87, .ireturn, 1, [], 0)]),
  (88, [(88, .aload_n 0, 1, [], 0), (89, .getfield 10, 3, [11, 2, 14, 0, 692, 0], 0), (92, .getfield 335, 3, [10, 12, 0, 0, 209, 0], 0), (95, .ireturn, 1, [], 0)]),
  (96, [(96, .aload_n 0, 1, [], 0), (97, .getfield 10, 3, [11, 2, 14, 0, 692, 0], 0), (100, .getfield 338, 3, [10, 13, 0, 0, 212, 0], 0), (103, .ireturn, 1, [], 0)]),
  (104, [(104, .aload_n 0, 1, [], 0), (105, .getfield 10, 3, [11, 2, 14, 0, 692, 0], 0), (108, .getfield 222, 3, [10, 14, 0, 0, 215, 0], 0), (111, .ireturn, 1, [], 0)]),
  (112, [(112, .aload_n 0, 1, [], 0), (113, .getfield 57, 3, [11, 7, 12, 1, 697, 0], 64), (116, .getfield 200, 3, [8, 0, 0, 0, 483, 0], 0), (119, .ireturn, 1, [], 0)]),
  (120, [(120, .aload_n 0, 1, [], 0), (121, .getfield 57, 3, [11, 7, 12, 1, 697, 0], 64), (124, .getfield 232, 3, [8, 1, 0, 0, 486, 0], 0), (127, .ireturn, 1, [], 0)]),
  (128, [(128, .aload_n 0, 1, [], 0), (129, .getfield 57, 3, [11, 7, 12, 1, 697, 0], 64), (132, .getfield 235, 3, [8, 2, 0, 0, 489, 0], 0), (135, .ireturn, 1, [], 0)]),
  (136, [(136, .aload_n 0, 1, [], 0), (137, .getfield 57, 3, [11, 7, 12, 1, 697, 0], 64), (140, .getfield 238, 3, [8, 3, 0, 0, 492, 0], 0), (143, .ireturn, 1, [], 0)]),
  (144, [(144, .aload_n 0, 1, [], 0), (145, .getfield 57, 3, [11, 7, 12, 1, 697, 0], 64), (148, .getfield 203, 3, [8, 4, 0, 0, 494, 0], 0), (151, .ireturn, 1, [], 0)]),
  (152, [(152, .aload_n 0, 1, [], 0), (153, .getfield 57, 3, [11, 7, 12, 1, 697, 0], 64), (156, .getfield 206, 3, [8, 5, 0, 0, 497, 0], 0), (159, .ifCond .eq 7, 3, [], 0)]),
  (162, [(162, .iconst 1, 1, [], 0), (163, .goto 4, 3, [], 0)]),
  (166, [(166, .iconst 0, 1, [], 0)]),
  (167, [(167, .ireturn, 1, [], 0)]),
  (168, [(168, .aload_n 0, 1, [], 0), (169, .getfield 47, 3, [11, 5, 5, 1, 695, 0], 50), (172, .getfield 157, 3, [1, 0, 8, 1, 465, 0], 2), (175, .getfield 341, 3, [4, 3, 0, 0, 437, 0], 0), (178, .ireturn, 1, [], 0)]),
  (179, [(179, .aload_n 0, 1, [], 0), (180, .getfield 10, 3, [11, 2, 14, 0, 692, 0], 0), (183, .getfield 118, 3, [10, 9, 0, 0, 194, 0], 0), (186, .ireturn, 1, [], 0)]),
  (187, [(187, .aload_n 0, 1, [], 0), (188, .getfield 10, 3, [11, 2, 14, 0, 692, 0], 0), (191, .getfield 115, 3, [10, 10, 0, 0, 198, 0], 0), (194, .ireturn, 1, [], 0)]),
  (195, [(195, .aload_n 0, 1, [], 0), (196, .getfield 67, 3, [11, 9, 9, 1, 699, 0], 66), (199, .getfield 210, 3, [5, 2, 0, 0, 527, 0], 0), (202, .ireturn, 1, [], 0)]),
  (203, [(203, .aload_n 0, 1, [], 0), (204, .getfield 22, 3, [11, 0, 13, 1, 690, 0], 27), (207, .getfield 100, 3, [9, 1, 0, 0, 255, 0], 0), (210, .ireturn, 1, [], 0)]),
  (211, [(211, .aload_n 0, 1, [], 0), (212, .getfield 57, 3, [11, 7, 12, 1, 697, 0], 64), (215, .getfield 136, 3, [8, 6, 0, 0, 499, 0], 0), (218, .ireturn, 1, [], 0)]),
  (219, [(219, .iconst (-1), 1, [], 0), (220, .ireturn, 1, [], 0)])]
def MX11_count (x1 : Int) (h : Hp) : Option (Int) :=
(if x1 = 0 then
(some (h (h 0 2) 11))
else
(if x1 = 1 then
(some (h (h 0 2) 12))
else
(if x1 = 2 then
(some (h (h 0 2) 13))
else
(if x1 = 3 then
(some (h (h 0 2) 14))
else
(if x1 = 4 then
(some (h 64 0))
else
(if x1 = 5 then
(some (h 64 1))
else
(if x1 = 6 then
(some (h 64 2))
else
(if x1 = 7 then
(some (h 64 3))
else
(if x1 = 8 then
(some (h 64 4))
else
(if x1 = 9 then
(if (h 64 5) = 0 then
(some 0)
else
(some 1))
else
(if x1 = 10 then
(some (h 52 3))
else
(if x1 = 11 then
(some (h (h 0 2) 9))
else
(if x1 = 12 then
(some (h (h 0 2) 10))
else
(if x1 = 13 then
(some (h 66 2))
else
(if x1 = 14 then
(some (h 27 1))
else
(if x1 = 15 then
(some (h 64 6))
else
(some (-1))))))))))))))))))
def wX11_count {ρ : Type} : FN ρ := fun a h k => match a with
  | [_, x1] => bndp (MX11_count x1 h) (fun r => k r h)
  | _ => none
def fsX11_count (ρ : Type) : List (FN ρ) := []
def KMX11_count  : CT (Int) := []
set_option maxRecDepth 100000 in
theorem eMX11_count (x1 : Int) (h : Hp) : MX11_count x1 h =
  goAt false (kct (KMX11_count)) (fun v _ => some (v)) (fsX11_count _) sdX11_count 1000 0 [(0, 15, 0), (1, 0, x1)] [] h := rfl
theorem okX11_count : mokb (mi 258) = true := by decide +kernel
theorem rkX11_count : rkOK 1 (mi 258).1.2.2.2.2.2.2.1 (mi 258).1.2.2.2.1 := Or.inr (Or.inl ⟨rfl, rfl, rfl⟩)
def calX11_count : List Nat := []
theorem foX11_count {l : Launch} {ρ : Type} : fsOK l false mi calX11_count (fsX11_count ρ) := trivial
theorem frX11_count {ρ : Type} : ∀ fn ∈ fsX11_count ρ, RoF fn := (fun q9 h9 => by cases h9)
theorem ok_sdX11_count : sdb (mi 258).1.2.1 (insOK mi (mi 258).1.1.cls (mi 258).1.2.2.1 (mi 258).1.2.2.2.2.1 (mi 258).1.2.2.2.2.2.1 calX11_count false 1) sdX11_count = true := by decide +kernel
theorem sMX11_count {l : Launch} {h0 : Hp} {v : Int} (h8 : nOf h0 = 148)  (x1 : Int) (h : Hp) {r : Int} (H : MX11_count x1 h = some r) (hG : gV v r) : PAt l false (mi 258).1 h0 v h 0 [(0, 15, 0), (1, 0, x1)] [] h :=
  pat_ro ok_sdX11_count rfl rkX11_count h8 (foX11_count) (frX11_count) (fun v1 q => by
    cases q
    exact ⟨rfl, fun _ => hG⟩) (fun q9 h9 => by cases h9) ((eMX11_count x1 h).symm.trans H)
theorem sndX11_count {ρ : Type} {l : Launch} : SndF (ρ := ρ) l false (mi 258).1 (wX11_count) := by
    intro a h k r H ha ho hn hf
    have h8 := hf rfl
    obtain ⟨x0, x1, rfl⟩ := len2 (show a.length = 2 from ha)
    have u0 := uq15 hn (ho (15, x0) (List.mem_cons_self))
    subst u0
    replace H : bndp (MX11_count x1 h) (fun r => k r h) = some r := H
    obtain ⟨v2, H1, H2⟩ := bndp_some H
    exact ⟨v2, h, H2, met_mk (mok_base okX11_count).1 (by decide +kernel) (Nat.le_of_ble_eq_true rfl) ho (sMX11_count h8 x1 h H1 rfl), fun q => by cases q⟩
theorem roX11_count {ρ : Type} : RoF (wX11_count : FN ρ) := fun a h k k2 hk => by
  unfold wX11_count
  split
  · exact bndp_ro hk
  · rfl
/-! X12_count -/
def sdX12_count : SD := [(0, [(0, .aload_n 0, 1, [], 0), (1, .invokevirtual 459, 3, [0, 0, 1, 116, 1673, 16], 0), (4, .iload_n 1, 1, [], 0), (5, .tableswitch 172 0 15 #[79, 84, 89, 94, 99, 104, 109, 114, 123, 128, 136, 141, 149, 157, 162, 167], 79, [], 0)]),
  (84, [(84, .aload_n 0, 1, [], 0), (85, .getfield 140, 3, [12, 6, 0, 0, 1328, 0], 0), (88, .ireturn, 1, [], 0)]),
  (89, [(89, .aload_n 0, 1, [], 0), (90, .getfield 137, 3, [12, 5, 0, 0, 1327, 0], 0), (93, .ireturn, 1, [], 0)]),
  (94, [(94, .aload_n 0, 1, [], 0), (95, .getfield 143, 3, [12, 7, 0, 0, 1329, 0], 0), (98, .ireturn, 1, [], 0)]),
  (99, [(99, .aload_n 0, 1, [], 0), (100, .invokevirtual 393, 3, [1, 1, 1, 139, 1715, 16], 0), (103, .ireturn, 1, [], 0)]),
  (104, [(104, .aload_n 0, 1, [], 0), (105, .getfield 165, 3, [12, 42, 0, 0, 1364, 0], 0), (108, .ireturn, 1, [], 0)]),
  (109, [(109, .aload_n 0, 1, [], 0), (110, .getfield 168, 3, [12, 43, 0, 0, 1365, 0], 0), (113, .ireturn, 1, [], 0)]),
  (114, [(114, .aload_n 0, 1, [], 0), (115, .getfield 171, 3, [12, 44, 0, 0, 1366, 0], 0), (118, .ireturn, 1, [], 0)]),
  (119, [(119, .aload_n 0, 1, [], 0), (120, .aload_n 0, 1, [], 0), (121, .getfield 165, 3, [12, 42, 0, 0, 1364, 0], 0), (124, .invokevirtual 396, 3, [1, 2, 1, 148, 1757, 0, 16], 0), (127, .ireturn, 1, [], 0)]),
  (128, [(128, .aload_n 0, 1, [], 0), (129, .getfield 158, 3, [12, 45, 0, 0, 1367, 0], 0), (132, .ireturn, 1, [], 0)]),
  (133, [(133, .aload_n 0, 1, [], 0), (134, .getfield 161, 3, [12, 47, 0, 0, 1369, 0], 0), (137, .invokestatic 446, 3, [1, 3, 3, 141, 1727, 0], 0), (140, .ireturn, 1, [], 0)]),
  (141, [(141, .aload_n 0, 1, [], 0), (142, .getfield 369, 3, [12, 41, 0, 0, 1363, 0], 0), (145, .ireturn, 1, [], 0)]),
  (146, [(146, .aload_n 0, 1, [], 0), (147, .getfield 15, 3, [12, 1, 84, 1, 1323, 0], 2), (150, .bipush 6, 2, [], 0), (152, .iaload, 1, [], 0), (153, .ireturn, 1, [], 0)]),
  (154, [(154, .aload_n 0, 1, [], 0), (155, .getfield 15, 3, [12, 1, 84, 1, 1323, 0], 2), (158, .bipush 7, 2, [], 0), (160, .iaload, 1, [], 0), (161, .ireturn, 1, [], 0)]),
  (162, [(162, .aload_n 0, 1, [], 0), (163, .getfield 177, 3, [12, 54, 0, 0, 1376, 0], 0), (166, .ireturn, 1, [], 0)]),
  (167, [(167, .aload_n 0, 1, [], 0), (168, .getfield 180, 3, [12, 20, 0, 0, 1342, 0], 0), (171, .ireturn, 1, [], 0)]),
  (172, [(172, .aload_n 0, 1, [], 0), (173, .getfield 174, 3, [12, 46, 0, 0, 1368, 0], 0), (176, .ireturn, 1, [], 0)]),
  (177, [(177, .iconst (-1), 1, [], 0), (178, .ireturn, 1, [], 0)])]
def MX12_count (n : Nat) (x1 : Int) (h : Hp) : Option (Int × Hp) :=
(bndh (MX12_laysNow n h) fun h1 =>
(if x1 = 0 then
(some ((h1 113 6), h1))
else
(if x1 = 1 then
(some ((h1 113 5), h1))
else
(if x1 = 2 then
(some ((h1 113 7), h1))
else
(if x1 = 3 then
(bndp (MX12_all h1) fun r3 =>
(some (r3, h1)))
else
(if x1 = 4 then
(some ((h1 113 42), h1))
else
(if x1 = 5 then
(some ((h1 113 43), h1))
else
(if x1 = 6 then
(some ((h1 113 44), h1))
else
(if x1 = 7 then
(bndp (MX12_blockAt n (h1 113 42) h1) fun r2 =>
(some (r2, h1)))
else
(if x1 = 8 then
(some ((h1 113 45), h1))
else
(if x1 = 9 then
(bndp (MX12_truth (h1 113 47)) fun r1 =>
(some (r1, h1)))
else
(if x1 = 10 then
(some ((h1 113 41), h1))
else
(if x1 = 11 then
(grd (0 ≤ 6 ∧ 6 < alen 84)
(some ((h1 115 6), h1)))
else
(if x1 = 12 then
(grd (0 ≤ 7 ∧ 7 < alen 84)
(some ((h1 115 7), h1)))
else
(if x1 = 13 then
(some ((h1 113 54), h1))
else
(if x1 = 14 then
(some ((h1 113 20), h1))
else
(if x1 = 15 then
(some ((h1 113 46), h1))
else
(some ((-1), h1)))))))))))))))))))
def wX12_count {ρ : Type} (n : Nat) : FN ρ := fun a h k => match a with
  | [_, x1] => bnd (MX12_count n x1 h) (fun r h2 => k r h2)
  | _ => none
def fsX12_count (n : Nat) (ρ : Type) : List (FN ρ) := [wX12_laysNow n, wX12_all, wX12_blockAt n, wX12_truth]
def KMX12_count (_ : Nat) : CT (Int × Hp) := []
set_option maxRecDepth 100000 in
theorem eMX12_count (n : Nat) (x1 : Int) (h : Hp) : MX12_count n x1 h =
  goAt false (kct (KMX12_count n)) (fun v h => some ((v, h))) (fsX12_count n _) sdX12_count 1000 0 [(0, 16, 113), (1, 0, x1)] [] h := rfl
theorem okX12_count : mokb (mi 259) = true := by decide +kernel
theorem rkX12_count : rkOK 1 (mi 259).1.2.2.2.2.2.2.1 (mi 259).1.2.2.2.1 := Or.inr (Or.inl ⟨rfl, rfl, rfl⟩)
def calX12_count : List Nat := [116, 139, 148, 141]
theorem foX12_count {l : Launch} {ρ : Type} (n : Nat) : fsOK l false mi calX12_count (fsX12_count n ρ) := ⟨(sndX12_laysNow n), ⟨sndX12_all, ⟨(sndX12_blockAt n), ⟨sndX12_truth, trivial⟩⟩⟩⟩
theorem ok_sdX12_count : sdb (mi 259).1.2.1 (insOK mi (mi 259).1.1.cls (mi 259).1.2.2.1 (mi 259).1.2.2.2.2.1 (mi 259).1.2.2.2.2.2.1 calX12_count false 1) sdX12_count = true := by decide +kernel
theorem sMX12_count {l : Launch} {h0 h' : Hp} {v : Int} (h8 : nOf h0 = 148) (n : Nat) (x1 : Int) (h : Hp) {r : Int × Hp} (H : MX12_count n x1 h = some r) (hG : gWV v h' r) : PAt l false (mi 259).1 h0 v h' 0 [(0, 16, 113), (1, 0, x1)] [] h :=
  pat_w ok_sdX12_count rkX12_count h8 (foX12_count n) (fun v1 h1 q => by
    cases q
    exact ⟨hG.1, fun _ => hG.2⟩) (fun q9 h9 => by cases h9) ((eMX12_count n x1 h).symm.trans H)
theorem sndX12_count {ρ : Type} {l : Launch} (n : Nat) : SndF (ρ := ρ) l false (mi 259).1 (wX12_count n) := by
    intro a h k r H ha ho hn hf
    have h8 := hf rfl
    obtain ⟨x0, x1, rfl⟩ := len2 (show a.length = 2 from ha)
    have u0 := uq16 hn (ho (16, x0) (List.mem_cons_self))
    subst u0
    replace H : bnd (MX12_count n x1 h) (fun r h2 => k r h2) = some r := H
    obtain ⟨v2, h2, H1, H2⟩ := bnd_some H
    exact ⟨v2, h2, H2, met_mk (mok_base okX12_count).1 (by decide +kernel) (Nat.le_of_ble_eq_true rfl) ho (sMX12_count h8 n x1 h H1 ⟨rfl, rfl⟩), fun q => by cases q⟩
