/-! X11_corner -/
def sdX11_corner : SD := [(0, [(0, .aload_n 0, 1, [], 0), (1, .getfield 10, 3, [11, 2, 14, 0, 692, 0], 0), (4, .iload_n 1, 1, [], 0), (5, .invokevirtual 176, 3, [1, 0, 1, 119, 999, 0, 14], 0), (8, .ifCond .ne 5, 3, [], 0)]),
  (11, [(11, .iconst (-1), 1, [], 0), (12, .ireturn, 1, [], 0)]),
  (13, [(13, .iload_n 2, 1, [], 0), (14, .tableswitch 62 0 2 #[26, 36, 49], 26, [], 0)]),
  (40, [(40, .aload_n 0, 1, [], 0), (41, .getfield 10, 3, [11, 2, 14, 0, 692, 0], 0), (44, .getfield 179, 3, [10, 8, 532, 1, 192, 0], 12), (47, .iload_n 1, 1, [], 0), (48, .iaload, 1, [], 0), (49, .ireturn, 1, [], 0)]),
  (50, [(50, .aload_n 0, 1, [], 0), (51, .getfield 47, 3, [11, 5, 5, 1, 695, 0], 50), (54, .getfield 157, 3, [1, 0, 8, 1, 465, 0], 2), (57, .getfield 182, 3, [4, 5, 532, 1, 442, 0], 2), (60, .iload_n 1, 1, [], 0), (61, .iaload, 1, [], 0), (62, .ireturn, 1, [], 0)]),
  (63, [(63, .aload_n 0, 1, [], 0), (64, .getfield 47, 3, [11, 5, 5, 1, 695, 0], 50), (67, .getfield 157, 3, [1, 0, 8, 1, 465, 0], 2), (70, .getfield 185, 3, [4, 6, 532, 1, 444, 0], 3), (73, .iload_n 1, 1, [], 0), (74, .iaload, 1, [], 0), (75, .ireturn, 1, [], 0)]),
  (76, [(76, .iconst (-1), 1, [], 0), (77, .ireturn, 1, [], 0)])]
def MX11_corner (x1 x2 : Int) (h : Hp) : Option (Int) :=
(bndp (MX10_hasCorner (h 0 2) x1 h) fun r1 =>
(if r1 ≠ 0 then
(if x2 = 0 then
(grd (0 ≤ x1 ∧ x1 < alen 532)
(some (h ((h 0 2) + 12) x1)))
else
(if x2 = 1 then
(grd (0 ≤ x1 ∧ x1 < alen 532)
(some (h 54 x1)))
else
(if x2 = 2 then
(grd (0 ≤ x1 ∧ x1 < alen 532)
(some (h 55 x1)))
else
(some (-1)))))
else
(some (-1))))
def wX11_corner {ρ : Type} : FN ρ := fun a h k => match a with
  | [_, x1, x2] => bndp (MX11_corner x1 x2 h) (fun r => k r h)
  | _ => none
def fsX11_corner (ρ : Type) : List (FN ρ) := [wX10_hasCorner]
def KMX11_corner  : CT (Int) := []
set_option maxRecDepth 100000 in
theorem eMX11_corner (x1 : Int) (x2 : Int) (h : Hp) : MX11_corner x1 x2 h =
  goAt false (kct (KMX11_corner)) (fun v _ => some (v)) (fsX11_corner _) sdX11_corner 1000 0 [(0, 15, 0), (1, 0, x1), (2, 0, x2)] [] h := rfl
theorem okX11_corner : mokb (mi 120) = true := by decide +kernel
theorem rkX11_corner : rkOK 1 (mi 120).1.2.2.2.2.2.2.1 (mi 120).1.2.2.2.1 := Or.inr (Or.inl ⟨rfl, rfl, rfl⟩)
def calX11_corner : List Nat := [119]
theorem foX11_corner {l : Launch} {ρ : Type} : fsOK l false mi calX11_corner (fsX11_corner ρ) := ⟨sndX10_hasCorner, trivial⟩
theorem frX11_corner {ρ : Type} : ∀ fn ∈ fsX11_corner ρ, RoF fn := (List.forall_mem_cons.mpr ⟨roX10_hasCorner, (fun q9 h9 => by cases h9)⟩)
theorem ok_sdX11_corner : sdb (mi 120).1.2.1 (insOK mi (mi 120).1.1.cls (mi 120).1.2.2.1 (mi 120).1.2.2.2.2.1 (mi 120).1.2.2.2.2.2.1 calX11_corner false 1) sdX11_corner = true := by decide +kernel
theorem sMX11_corner {l : Launch} {h0 : Hp} {v : Int} (h8 : nOf h0 = 148)  (x1 : Int) (x2 : Int) (h : Hp) {r : Int} (H : MX11_corner x1 x2 h = some r) (hG : gV v r) : PAt l false (mi 120).1 h0 v h 0 [(0, 15, 0), (1, 0, x1), (2, 0, x2)] [] h :=
  pat_ro ok_sdX11_corner rfl rkX11_corner h8 (foX11_corner) (frX11_corner) (fun v1 q => by
    cases q
    exact ⟨rfl, fun _ => hG⟩) (fun q9 h9 => by cases h9) ((eMX11_corner x1 x2 h).symm.trans H)
theorem sndX11_corner {ρ : Type} {l : Launch} : SndF (ρ := ρ) l false (mi 120).1 (wX11_corner) := by
    intro a h k r H ha ho hn hf
    have h8 := hf rfl
    obtain ⟨x0, x1, x2, rfl⟩ := len3 (show a.length = 3 from ha)
    have u0 := uq15 hn (ho (15, x0) (List.mem_cons_self))
    subst u0
    replace H : bndp (MX11_corner x1 x2 h) (fun r => k r h) = some r := H
    obtain ⟨v2, H1, H2⟩ := bndp_some H
    exact ⟨v2, h, H2, met_mk (mok_base okX11_corner).1 (by decide +kernel) (Nat.le_of_ble_eq_true rfl) ho (sMX11_corner h8 x1 x2 h H1 rfl), fun q => by cases q⟩
theorem roX11_corner {ρ : Type} : RoF (wX11_corner : FN ρ) := fun a h k k2 hk => by
  unfold wX11_corner
  split
  · exact bndp_ro hk
  · rfl
/-! X12_corner -/
def sdX12_corner : SD := [(0, [(0, .iload_n 1, 1, [], 0), (1, .i2l, 1, [], 0), (2, .lconst 0, 1, [], 0), (3, .aload_n 0, 1, [], 0), (4, .getfield 140, 3, [12, 6, 0, 0, 1328, 0], 0), (7, .iconst 2, 1, [], 0), (8, .isub, 1, [], 0), (9, .i2l, 1, [], 0), (10, .invokestatic 217, 3, [1, 0, 3, 81, 1561, 1, 1, 1], 0), (13, .ifCond .ne 5, 3, [], 0)]),
  (16, [(16, .iconst (-1), 1, [], 0), (17, .ireturn, 1, [], 0)]),
  (18, [(18, .aload_n 0, 1, [], 0), (19, .invokevirtual 459, 3, [0, 1, 1, 116, 1673, 16], 0), (22, .iload_n 2, 1, [], 0), (23, .tableswitch 46 0 2 #[25, 32, 39], 25, [], 0)]),
  (48, [(48, .aload_n 0, 1, [], 0), (49, .getfield 77, 3, [12, 37, 532, 1, 1359, 0], 22), (52, .iload_n 1, 1, [], 0), (53, .iaload, 1, [], 0), (54, .ireturn, 1, [], 0)]),
  (55, [(55, .aload_n 0, 1, [], 0), (56, .getfield 80, 3, [12, 38, 532, 1, 1360, 0], 23), (59, .iload_n 1, 1, [], 0), (60, .iaload, 1, [], 0), (61, .ireturn, 1, [], 0)]),
  (62, [(62, .aload_n 0, 1, [], 0), (63, .getfield 83, 3, [12, 39, 532, 1, 1361, 0], 24), (66, .iload_n 1, 1, [], 0), (67, .iaload, 1, [], 0), (68, .ireturn, 1, [], 0)]),
  (69, [(69, .iconst (-1), 1, [], 0), (70, .ireturn, 1, [], 0)])]
def MX12_corner (n : Nat) (x1 x2 : Int) (h : Hp) : Option (Int × Hp) :=
(bndp (MX12_in x1 0 (w32 ((h 113 6) - 2))) fun r1 =>
(if r1 ≠ 0 then
(bndh (MX12_laysNow n h) fun h1 =>
(if x2 = 0 then
(grd (0 ≤ x1 ∧ x1 < alen 532)
(some ((h1 135 x1), h1)))
else
(if x2 = 1 then
(grd (0 ≤ x1 ∧ x1 < alen 532)
(some ((h1 136 x1), h1)))
else
(if x2 = 2 then
(grd (0 ≤ x1 ∧ x1 < alen 532)
(some ((h1 137 x1), h1)))
else
(some ((-1), h1))))))
else
(some ((-1), h))))
def wX12_corner {ρ : Type} (n : Nat) : FN ρ := fun a h k => match a with
  | [_, x1, x2] => bnd (MX12_corner n x1 x2 h) (fun r h2 => k r h2)
  | _ => none
def fsX12_corner (n : Nat) (ρ : Type) : List (FN ρ) := [wX12_in, wX12_laysNow n]
def KMX12_corner (_ : Nat) : CT (Int × Hp) := []
set_option maxRecDepth 100000 in
theorem eMX12_corner (n : Nat) (x1 : Int) (x2 : Int) (h : Hp) : MX12_corner n x1 x2 h =
  goAt false (kct (KMX12_corner n)) (fun v h => some ((v, h))) (fsX12_corner n _) sdX12_corner 1000 0 [(0, 16, 113), (1, 0, x1), (2, 0, x2)] [] h := rfl
theorem okX12_corner : mokb (mi 121) = true := by decide +kernel
theorem rkX12_corner : rkOK 1 (mi 121).1.2.2.2.2.2.2.1 (mi 121).1.2.2.2.1 := Or.inr (Or.inl ⟨rfl, rfl, rfl⟩)
def calX12_corner : List Nat := [81, 116]
theorem foX12_corner {l : Launch} {ρ : Type} (n : Nat) : fsOK l false mi calX12_corner (fsX12_corner n ρ) := ⟨sndX12_in, ⟨(sndX12_laysNow n), trivial⟩⟩
theorem ok_sdX12_corner : sdb (mi 121).1.2.1 (insOK mi (mi 121).1.1.cls (mi 121).1.2.2.1 (mi 121).1.2.2.2.2.1 (mi 121).1.2.2.2.2.2.1 calX12_corner false 1) sdX12_corner = true := by decide +kernel
theorem sMX12_corner {l : Launch} {h0 h' : Hp} {v : Int} (h8 : nOf h0 = 148) (n : Nat) (x1 : Int) (x2 : Int) (h : Hp) {r : Int × Hp} (H : MX12_corner n x1 x2 h = some r) (hG : gWV v h' r) : PAt l false (mi 121).1 h0 v h' 0 [(0, 16, 113), (1, 0, x1), (2, 0, x2)] [] h :=
  pat_w ok_sdX12_corner rkX12_corner h8 (foX12_corner n) (fun v1 h1 q => by
    cases q
    exact ⟨hG.1, fun _ => hG.2⟩) (fun q9 h9 => by cases h9) ((eMX12_corner n x1 x2 h).symm.trans H)
theorem sndX12_corner {ρ : Type} {l : Launch} (n : Nat) : SndF (ρ := ρ) l false (mi 121).1 (wX12_corner n) := by
    intro a h k r H ha ho hn hf
    have h8 := hf rfl
    obtain ⟨x0, x1, x2, rfl⟩ := len3 (show a.length = 3 from ha)
    have u0 := uq16 hn (ho (16, x0) (List.mem_cons_self))
    subst u0
    replace H : bnd (MX12_corner n x1 x2 h) (fun r h2 => k r h2) = some r := H
    obtain ⟨v2, h2, H1, H2⟩ := bnd_some H
    exact ⟨v2, h2, H2, met_mk (mok_base okX12_corner).1 (by decide +kernel) (Nat.le_of_ble_eq_true rfl) ho (sMX12_corner h8 n x1 x2 h H1 ⟨rfl, rfl⟩), fun q => by cases q⟩
/-! X8_rests -/
def sdX8_rests : SD := [(0, [(0, .aload_n 0, 1, [], 0), (1, .getfield 21, 3, [8, 1, 0, 0, 484, 0], 0), (4, .ifCond .ne 14, 3, [], 0)]),
  (7, [(7, .aload_n 0, 1, [], 0), (8, .getfield 24, 3, [8, 2, 0, 0, 487, 0], 0), (11, .ifCond .ne 7, 3, [], 0)]),
  (14, [(14, .iconst 1, 1, [], 0), (15, .goto 4, 3, [], 0)]),
  (18, [(18, .iconst 0, 1, [], 0)]),
  (19, [(19, .ireturn, 1, [1], 0)])]
def MX8_rests (x0 : Int) (h : Hp) : Option (Int) :=
(if (h x0 1) ≠ 0 then
(some 0)
else
(if (h x0 2) ≠ 0 then
(some 0)
else
(some 1)))
def wX8_rests {ρ : Type} : FN ρ := fun a h k => match a with
  | [x0] => bndp (MX8_rests x0 h) (fun r => k r h)
  | _ => none
def fsX8_rests (ρ : Type) : List (FN ρ) := []
def KMX8_rests  : CT (Int) := []
set_option maxRecDepth 100000 in
theorem eMX8_rests (x0 : Int) (h : Hp) : MX8_rests x0 h =
  goAt false (kct (KMX8_rests)) (fun v _ => some (v)) (fsX8_rests _) sdX8_rests 1000 0 [(0, 12, x0)] [] h := rfl
theorem okX8_rests : mokb (mi 122) = true := by decide +kernel
theorem rkX8_rests : rkOK 4 (mi 122).1.2.2.2.2.2.2.1 (mi 122).1.2.2.2.1 := Or.inr (Or.inr (Or.inl ⟨rfl, rfl, rfl⟩))
def calX8_rests : List Nat := []
theorem foX8_rests {l : Launch} {ρ : Type} : fsOK l false mi calX8_rests (fsX8_rests ρ) := trivial
theorem frX8_rests {ρ : Type} : ∀ fn ∈ fsX8_rests ρ, RoF fn := (fun q9 h9 => by cases h9)
theorem ok_sdX8_rests : sdb (mi 122).1.2.1 (insOK mi (mi 122).1.1.cls (mi 122).1.2.2.1 (mi 122).1.2.2.2.2.1 (mi 122).1.2.2.2.2.2.1 calX8_rests false 4) sdX8_rests = true := by decide +kernel
theorem sMX8_rests {l : Launch} {h0 : Hp} {v : Int} (h8 : nOf h0 = 148)  (x0 : Int) (h : Hp) {r : Int} (H : MX8_rests x0 h = some r) (hG : gV v r) : PAt l false (mi 122).1 h0 v h 0 [(0, 12, x0)] [] h :=
  pat_ro ok_sdX8_rests rfl rkX8_rests h8 (foX8_rests) (frX8_rests) (fun v1 q => by
    cases q
    exact ⟨rfl, fun _ => hG⟩) (fun q9 h9 => by cases h9) ((eMX8_rests x0 h).symm.trans H)
theorem sndX8_rests {ρ : Type} {l : Launch} : SndF (ρ := ρ) l false (mi 122).1 (wX8_rests) := by
    intro a h k r H ha ho hn hf
    have h8 := hf rfl
    obtain ⟨x0, rfl⟩ := len1 (show a.length = 1 from ha)
    replace H : bndp (MX8_rests x0 h) (fun r => k r h) = some r := H
    obtain ⟨v2, H1, H2⟩ := bndp_some H
    exact ⟨v2, h, H2, met_mk (mok_base okX8_rests).1 (by decide +kernel) (Nat.le_of_ble_eq_true rfl) ho (sMX8_rests h8 x0 h H1 rfl), fun q => by cases q⟩
theorem roX8_rests {ρ : Type} : RoF (wX8_rests : FN ρ) := fun a h k k2 hk => by
  unfold wX8_rests
  split
  · exact bndp_ro hk
  · rfl
/-! X1_isDone -/
def sdX1_isDone : SD := [(0, [(0, .aload_n 1, 1, [], 0), (1, .invokevirtual 39, 3, [1, 0, 1, 122, 1011, 12], 0), (4, .ifCond .eq 24, 3, [], 0)]),
  (7, [(7, .aload_n 1, 1, [], 0), (8, .getfield 45, 3, [8, 0, 0, 0, 482, 0], 0), (11, .aload_n 0, 1, [], 0), (12, .getfield 24, 3, [1, 0, 8, 1, 464, 0], 2), (15, .getfield 48, 3, [4, 0, 14, 0, 431, 0], 0), (18, .getfield 52, 3, [10, 14, 0, 0, 214, 0], 0), (21, .if_icmp .lt 7, 3, [], 0)]),
  (24, [(24, .iconst 1, 1, [], 0), (25, .goto 4, 3, [], 0)]),
  (28, [(28, .iconst 0, 1, [], 0)]),
  (29, [(29, .ireturn, 1, [1], 0)])]
def MX1_isDone (x0 x1 : Int) (h : Hp) : Option (Int) :=
(bndp (MX8_rests x1 h) fun r1 =>
(if r1 = 0 then
(some 0)
else
(if (h x1 0) < (h (h (x0 + 2) 0) 14) then
(some 0)
else
(some 1))))
def wX1_isDone {ρ : Type} : FN ρ := fun a h k => match a with
  | [x0, x1] => bndp (MX1_isDone x0 x1 h) (fun r => k r h)
  | _ => none
def fsX1_isDone (ρ : Type) : List (FN ρ) := [wX8_rests]
def KMX1_isDone  : CT (Int) := []
set_option maxRecDepth 100000 in
theorem eMX1_isDone (x0 : Int) (x1 : Int) (h : Hp) : MX1_isDone x0 x1 h =
  goAt false (kct (KMX1_isDone)) (fun v _ => some (v)) (fsX1_isDone _) sdX1_isDone 1000 0 [(0, 5, x0), (1, 12, x1)] [] h := rfl
theorem okX1_isDone : mokb (mi 123) = true := by decide +kernel
theorem rkX1_isDone : rkOK 4 (mi 123).1.2.2.2.2.2.2.1 (mi 123).1.2.2.2.1 := Or.inr (Or.inr (Or.inl ⟨rfl, rfl, rfl⟩))
def calX1_isDone : List Nat := [122]
theorem foX1_isDone {l : Launch} {ρ : Type} : fsOK l false mi calX1_isDone (fsX1_isDone ρ) := ⟨sndX8_rests, trivial⟩
theorem frX1_isDone {ρ : Type} : ∀ fn ∈ fsX1_isDone ρ, RoF fn := (List.forall_mem_cons.mpr ⟨roX8_rests, (fun q9 h9 => by cases h9)⟩)
theorem ok_sdX1_isDone : sdb (mi 123).1.2.1 (insOK mi (mi 123).1.1.cls (mi 123).1.2.2.1 (mi 123).1.2.2.2.2.1 (mi 123).1.2.2.2.2.2.1 calX1_isDone false 4) sdX1_isDone = true := by decide +kernel
theorem sMX1_isDone {l : Launch} {h0 : Hp} {v : Int} (h8 : nOf h0 = 148)  (x0 : Int) (x1 : Int) (h : Hp) {r : Int} (H : MX1_isDone x0 x1 h = some r) (hG : gV v r) : PAt l false (mi 123).1 h0 v h 0 [(0, 5, x0), (1, 12, x1)] [] h :=
  pat_ro ok_sdX1_isDone rfl rkX1_isDone h8 (foX1_isDone) (frX1_isDone) (fun v1 q => by
    cases q
    exact ⟨rfl, fun _ => hG⟩) (fun q9 h9 => by cases h9) ((eMX1_isDone x0 x1 h).symm.trans H)
theorem sndX1_isDone {ρ : Type} {l : Launch} : SndF (ρ := ρ) l false (mi 123).1 (wX1_isDone) := by
    intro a h k r H ha ho hn hf
    have h8 := hf rfl
    obtain ⟨x0, x1, rfl⟩ := len2 (show a.length = 2 from ha)
    replace H : bndp (MX1_isDone x0 x1 h) (fun r => k r h) = some r := H
    obtain ⟨v2, H1, H2⟩ := bndp_some H
    exact ⟨v2, h, H2, met_mk (mok_base okX1_isDone).1 (by decide +kernel) (Nat.le_of_ble_eq_true rfl) ho (sMX1_isDone h8 x0 x1 h H1 rfl), fun q => by cases q⟩
theorem roX1_isDone {ρ : Type} : RoF (wX1_isDone : FN ρ) := fun a h k k2 hk => by
  unfold wX1_isDone
  split
  · exact bndp_ro hk
  · rfl
/-! X8_become -/
def sdX8_become : SD := [(0, [(0, .aload_n 0, 1, [], 0), (1, .aload_n 1, 1, [], 0), (2, .getfield 18, 3, [8, 0, 0, 0, 481, 0], 0), (5, .putfield 18, 3, [8, 0, 0, 0, 0, 481], 0), (8, .aload_n 0, 1, [], 0), (9, .aload_n 1, 1, [], 0), (10, .getfield 21, 3, [8, 1, 0, 0, 484, 0], 0), (13, .putfield 21, 3, [8, 1, 0, 0, 0, 484], 0), (16, .aload_n 0, 1, [], 0), (17, .aload_n 1, 1, [], 0), (18, .getfield 24, 3, [8, 2, 0, 0, 487, 0], 0), (21, .putfield 24, 3, [8, 2, 0, 0, 0, 487], 0), (24, .aload_n 0, 1, [], 0), (25, .aload_n 1, 1, [], 0), (26, .getfield 9, 3, [8, 3, 0, 0, 490, 0], 0), (29, .putfield 9, 3, [8, 3, 0, 0, 0, 490], 0), (32, .aload_n 0, 1, [], 0), (33, .aload_n 1, 1, [], 0), (34, .getfield 15, 3, [8, 4, 0, 0, 493, 0], 0), (37, .putfield 15, 3, [8, 4, 0, 0, 0, 493], 0), (40, .aload_n 0, 1, [], 0), (41, .aload_n 1, 1, [], 0), (42, .getfield 33, 3, [8, 5, 0, 0, 495, 0], 0), (45, .putfield 33, 3, [8, 5, 0, 0, 1, 495], 0), (48, .aload_n 0, 1, [], 0), (49, .aload_n 1, 1, [], 0), (50, .getfield 37, 3, [8, 6, 0, 0, 498, 0], 0), (53, .putfield 37, 3, [8, 6, 0, 0, 0, 498], 0), (56, .return_, 1, [], 0)])]
def MX8_become (x0 x1 : Int) (h : Hp) : Option (Hp) :=
(ltt (up h x0 0 (h x1 0)) fun h1 =>
(ltt (up h1 x0 1 (h1 x1 1)) fun h2 =>
(ltt (up h2 x0 2 (h2 x1 2)) fun h3 =>
(ltt (up h3 x0 3 (h3 x1 3)) fun h4 =>
(ltt (up h4 x0 4 (h4 x1 4)) fun h5 =>
(grd ((h5 x1 5) = 0 ∨ (h5 x1 5) = 1)
(ltt (up h5 x0 5 (h5 x1 5)) fun h6 =>
(ltt (up h6 x0 6 (h6 x1 6)) fun h7 =>
(some h7)))))))))
def wX8_become {ρ : Type} : FN ρ := fun a h k => match a with
  | [x0, x1] => bndh (MX8_become x0 x1 h) (fun h2 => k 0 h2)
  | _ => none
def fsX8_become (ρ : Type) : List (FN ρ) := []
def KMX8_become  : CT (Hp) := []
set_option maxRecDepth 100000 in
theorem eMX8_become (x0 : Int) (x1 : Int) (h : Hp) : MX8_become x0 x1 h =
  goAt false (kct (KMX8_become)) (fun _ h => some (h)) (fsX8_become _) sdX8_become 1000 0 [(0, 12, x0), (1, 12, x1)] [] h := rfl
theorem okX8_become : mokb (mi 124) = true := by decide +kernel
theorem rkX8_become : rkOK 0 (mi 124).1.2.2.2.2.2.2.1 (mi 124).1.2.2.2.1 := Or.inl ⟨rfl, rfl, rfl⟩
def calX8_become : List Nat := []
theorem foX8_become {l : Launch} {ρ : Type} : fsOK l false mi calX8_become (fsX8_become ρ) := trivial
theorem ok_sdX8_become : sdb (mi 124).1.2.1 (insOK mi (mi 124).1.1.cls (mi 124).1.2.2.1 (mi 124).1.2.2.2.2.1 (mi 124).1.2.2.2.2.2.1 calX8_become false 0) sdX8_become = true := by decide +kernel
theorem sMX8_become {l : Launch} {h0 h' : Hp} {v : Int} (h8 : nOf h0 = 148)  (x0 : Int) (x1 : Int) (h : Hp) {r : Hp} (H : MX8_become x0 x1 h = some r) (hG : gW h' r) : PAt l false (mi 124).1 h0 v h' 0 [(0, 12, x0), (1, 12, x1)] [] h :=
  pat_w ok_sdX8_become rkX8_become h8 (foX8_become) (fun v1 h1 q => by
    cases q
    exact ⟨hG, fun q9 => absurd rfl q9⟩) (fun q9 h9 => by cases h9) ((eMX8_become x0 x1 h).symm.trans H)
theorem sndX8_become {ρ : Type} {l : Launch} : SndF (ρ := ρ) l false (mi 124).1 (wX8_become) := by
    intro a h k r H ha ho hn hf
    have h8 := hf rfl
    obtain ⟨x0, x1, rfl⟩ := len2 (show a.length = 2 from ha)
    replace H : bndh (MX8_become x0 x1 h) (fun h2 => k 0 h2) = some r := H
    obtain ⟨h2, H1, H2⟩ := bndh_some H
    exact ⟨0, h2, H2, met_mk (mok_base okX8_become).1 (by decide +kernel) (Nat.le_of_ble_eq_true rfl) ho (sMX8_become h8 x0 x1 h H1 rfl), fun q => by cases q⟩
/-! X5_note -/
def sdX5_note : SD := [(0, [(0, .aload_n 0, 1, [], 0), (1, .getfield 16, 3, [5, 1, 0, 0, 525, 0], 0), (4, .ifCond .lt 12, 3, [], 0)]),
  (7, [(7, .aload_n 0, 1, [], 0), (8, .getfield 16, 3, [5, 1, 0, 0, 525, 0], 0), (11, .bipush 20, 2, [], 0), (13, .if_icmp .lt 4, 3, [], 0)]),
  (16, [(16, .return_, 1, [], 0)]),
  (17, [(17, .aload_n 0, 1, [], 0), (18, .getfield 11, 3, [5, 0, 184, 1, 524, 0], 1), (21, .aload_n 0, 1, [], 0), (22, .getfield 16, 3, [5, 1, 0, 0, 525, 0], 0), (25, .aaload, 1, [], 0), (26, .aload_n 1, 1, [], 0), (27, .invokevirtual 20, 3, [0, 0, 1, 124, 1019, 12, 12], 0), (30, .aload_n 0, 1, [], 0), (31, .aload_n 0, 1, [], 0), (32, .getfield 16, 3, [5, 1, 0, 0, 525, 0], 0), (35, .iconst 1, 1, [], 0), (36, .iadd, 1, [], 0), (37, .bipush 20, 2, [], 0), (39, .if_icmp .ne 7, 3, [], 0)]),
  (42, [(42, .iconst 0, 1, [], 0), (43, .goto 9, 3, [], 0)]),
  (46, [(46, .aload_n 0, 1, [], 0), (47, .getfield 16, 3, [5, 1, 0, 0, 525, 0], 0), (50, .iconst 1, 1, [], 0), (51, .iadd, 1, [], 0)]),
  (52, [(52, .putfield 16, 3, [5, 1, 0, 0, 0, 525], 0), (55, .aload_n 0, 1, [], 0), (56, .bipush 20, 2, [], 0), (58, .aload_n 0, 1, [], 0), (59, .getfield 24, 3, [5, 2, 0, 0, 526, 0], 0), (62, .iconst 1, 1, [], 0), (63, .iadd, 1, [], 0), (64, .invokestatic 27, 3, [1, 1, 3, 261, 1023, 0, 0], 0), (67, .putfield 24, 3, [5, 2, 0, 0, 0, 526], 0), (70, .return_, 1, [], 0)])]
def JX5_note_52 (z1 : Int) (h : Hp) : Option (Hp) :=
(ltt (up h 66 1 z1) fun h1 =>
(ltt (up h1 66 2 (min 20 (w32 ((h1 66 2) + 1)))) fun h2 =>
(some h2)))
def MX5_note (x1 : Int) (h : Hp) : Option (Hp) :=
(if (h 66 1) < 0 then
(some h)
else
(if (h 66 1) < 20 then
(grd (0 ≤ (h 66 1) ∧ (h 66 1) < alen 184)
(bndh (MX8_become (68 + (h 66 1)) x1 h) fun h1 =>
(if (w32 ((h1 66 1) + 1)) ≠ 20 then
(JX5_note_52 (w32 ((h1 66 1) + 1)) h1)
else
(JX5_note_52 0 h1))))
else
(some h)))
def wX5_note {ρ : Type} : FN ρ := fun a h k => match a with
  | [_, x1] => bndh (MX5_note x1 h) (fun h2 => k 0 h2)
  | _ => none
def fsX5_note (ρ : Type) : List (FN ρ) := [wX8_become, fmin]
def KJX5_note_52  : CT (Hp) := []
set_option maxRecDepth 100000 in
theorem eJX5_note_52 (z1 : Int) (h : Hp) : JX5_note_52 z1 h =
  goAt false (kct (KJX5_note_52)) (fun _ h => some (h)) (fsX5_note _) sdX5_note 1000 52 [(0, 9, 66)] [(0, z1), (9, 66)] h := rfl
def KMX5_note  : CT (Hp) := [(52, [(0, 9, (some 66))], [(0, none), (9, (some 66))], fun a c h => match a, c with
    | [], [z1] => JX5_note_52 z1 h
    | _, _ => none)]
set_option maxRecDepth 100000 in
theorem eMX5_note (x1 : Int) (h : Hp) : MX5_note x1 h =
  goAt false (kct (KMX5_note)) (fun _ h => some (h)) (fsX5_note _) sdX5_note 1000 0 [(0, 9, 66), (1, 12, x1)] [] h := rfl
theorem okX5_note : mokb (mi 125) = true := by decide +kernel
theorem rkX5_note : rkOK 0 (mi 125).1.2.2.2.2.2.2.1 (mi 125).1.2.2.2.1 := Or.inl ⟨rfl, rfl, rfl⟩
def calX5_note : List Nat := [124, 261]
theorem foX5_note {l : Launch} {ρ : Type} : fsOK l false mi calX5_note (fsX5_note ρ) := ⟨sndX8_become, ⟨snd_mmin, trivial⟩⟩
theorem ok_sdX5_note : sdb (mi 125).1.2.1 (insOK mi (mi 125).1.1.cls (mi 125).1.2.2.1 (mi 125).1.2.2.2.2.1 (mi 125).1.2.2.2.2.2.1 calX5_note false 0) sdX5_note = true := by decide +kernel
theorem sJX5_note_52 {l : Launch} {h0 h' : Hp} {v : Int} (h8 : nOf h0 = 148)  (z1 : Int) (h : Hp) {r : Hp} (H : JX5_note_52 z1 h = some r) (hG : gW h' r) : PAt l false (mi 125).1 h0 v h' 52 [(0, 9, 66)] [(0, z1), (9, 66)] h :=
  pat_w ok_sdX5_note rkX5_note h8 (foX5_note) (fun v1 h1 q => by
    cases q
    exact ⟨hG, fun q9 => absurd rfl q9⟩) (fun q9 h9 => by cases h9) ((eJX5_note_52 z1 h).symm.trans H)
theorem sMX5_note {l : Launch} {h0 h' : Hp} {v : Int} (h8 : nOf h0 = 148)  (x1 : Int) (h : Hp) {r : Hp} (H : MX5_note x1 h = some r) (hG : gW h' r) : PAt l false (mi 125).1 h0 v h' 0 [(0, 9, 66), (1, 12, x1)] [] h :=
  pat_w ok_sdX5_note rkX5_note h8 (foX5_note) (fun v1 h1 q => by
    cases q
    exact ⟨hG, fun q9 => absurd rfl q9⟩) (List.forall_mem_cons.mpr ⟨(fun a c h H => by
      dsimp only at H
      split at H
      · exact sJX5_note_52 h8 _ _ H hG
      · cases H), (fun q9 h9 => by cases h9)⟩) ((eMX5_note x1 h).symm.trans H)
theorem sndX5_note {ρ : Type} {l : Launch} : SndF (ρ := ρ) l false (mi 125).1 (wX5_note) := by
    intro a h k r H ha ho hn hf
    have h8 := hf rfl
    obtain ⟨x0, x1, rfl⟩ := len2 (show a.length = 2 from ha)
    have u0 := uq9 hn (ho (9, x0) (List.mem_cons_self))
    subst u0
    replace H : bndh (MX5_note x1 h) (fun h2 => k 0 h2) = some r := H
    obtain ⟨h2, H1, H2⟩ := bndh_some H
    exact ⟨0, h2, H2, met_mk (mok_base okX5_note).1 (by decide +kernel) (Nat.le_of_ble_eq_true rfl) ho (sMX5_note h8 x1 h H1 rfl), fun q => by cases q⟩
/-! X1_bears -/
def sdX1_bears : SD := [(0, [(0, .iload_n 2, 1, [], 0), (1, .aload_n 0, 1, [], 0), (2, .getfield 24, 3, [1, 0, 8, 1, 464, 0], 2), (5, .getfield 32, 3, [4, 3, 0, 0, 436, 0], 0), (8, .ineg, 1, [], 0), (9, .if_icmp .lt 26, 3, [], 0)]),
  (12, [(12, .iload_n 1, 1, [], 0), (13, .ifCond .lt 22, 3, [], 0)]),
  (16, [(16, .iload_n 2, 1, [], 0), (17, .ifCond .ge 14, 3, [], 0)]),
  (20, [(20, .iconst 2, 1, [], 0), (21, .iload_n 1, 1, [], 0), (22, .imul, 1, [], 0), (23, .iload_n 2, 1, [], 0), (24, .iload_n 2, 1, [], 0), (25, .iconst 1, 1, [], 0), (26, .iadd, 1, [], 0), (27, .imul, 1, [], 0), (28, .if_icmp .lt 7, 3, [], 0)]),
  (31, [(31, .iconst 1, 1, [], 0), (32, .goto 4, 3, [], 0)]),
  (35, [(35, .iconst 0, 1, [], 0)]),
  (36, [(36, .ireturn, 1, [1], 0)])]
def MX1_bears (x0 x1 x2 : Int) (h : Hp) : Option (Int) :=
(if x2 < (w32 (-(h (x0 + 2) 3))) then
(some 0)
else
(if x1 < 0 then
(some 0)
else
(if 0 ≤ x2 then
(some 1)
else
(if (w32 (2 * x1)) < (w32 (x2 * (w32 (x2 + 1)))) then
(some 0)
else
(some 1)))))
def wX1_bears {ρ : Type} : FN ρ := fun a h k => match a with
  | [x0, x1, x2] => bndp (MX1_bears x0 x1 x2 h) (fun r => k r h)
  | _ => none
def fsX1_bears (ρ : Type) : List (FN ρ) := []
def KMX1_bears  : CT (Int) := []
set_option maxRecDepth 100000 in
theorem eMX1_bears (x0 : Int) (x1 : Int) (x2 : Int) (h : Hp) : MX1_bears x0 x1 x2 h =
  goAt false (kct (KMX1_bears)) (fun v _ => some (v)) (fsX1_bears _) sdX1_bears 1000 0 [(0, 5, x0), (1, 0, x1), (2, 0, x2)] [] h := rfl
theorem okX1_bears : mokb (mi 126) = true := by decide +kernel
theorem rkX1_bears : rkOK 4 (mi 126).1.2.2.2.2.2.2.1 (mi 126).1.2.2.2.1 := Or.inr (Or.inr (Or.inl ⟨rfl, rfl, rfl⟩))
def calX1_bears : List Nat := []
theorem foX1_bears {l : Launch} {ρ : Type} : fsOK l false mi calX1_bears (fsX1_bears ρ) := trivial
theorem frX1_bears {ρ : Type} : ∀ fn ∈ fsX1_bears ρ, RoF fn := (fun q9 h9 => by cases h9)
theorem ok_sdX1_bears : sdb (mi 126).1.2.1 (insOK mi (mi 126).1.1.cls (mi 126).1.2.2.1 (mi 126).1.2.2.2.2.1 (mi 126).1.2.2.2.2.2.1 calX1_bears false 4) sdX1_bears = true := by decide +kernel
theorem sMX1_bears {l : Launch} {h0 : Hp} {v : Int} (h8 : nOf h0 = 148)  (x0 : Int) (x1 : Int) (x2 : Int) (h : Hp) {r : Int} (H : MX1_bears x0 x1 x2 h = some r) (hG : gV v r) : PAt l false (mi 126).1 h0 v h 0 [(0, 5, x0), (1, 0, x1), (2, 0, x2)] [] h :=
  pat_ro ok_sdX1_bears rfl rkX1_bears h8 (foX1_bears) (frX1_bears) (fun v1 q => by
    cases q
    exact ⟨rfl, fun _ => hG⟩) (fun q9 h9 => by cases h9) ((eMX1_bears x0 x1 x2 h).symm.trans H)
theorem sndX1_bears {ρ : Type} {l : Launch} : SndF (ρ := ρ) l false (mi 126).1 (wX1_bears) := by
    intro a h k r H ha ho hn hf
    have h8 := hf rfl
    obtain ⟨x0, x1, x2, rfl⟩ := len3 (show a.length = 3 from ha)
    replace H : bndp (MX1_bears x0 x1 x2 h) (fun r => k r h) = some r := H
    obtain ⟨v2, H1, H2⟩ := bndp_some H
    exact ⟨v2, h, H2, met_mk (mok_base okX1_bears).1 (by decide +kernel) (Nat.le_of_ble_eq_true rfl) ho (sMX1_bears h8 x0 x1 x2 h H1 rfl), fun q => by cases q⟩
theorem roX1_bears {ρ : Type} : RoF (wX1_bears : FN ρ) := fun a h k k2 hk => by
  unfold wX1_bears
  split
  · exact bndp_ro hk
  · rfl
/-! X1_reached -/
def sdX1_reached : SD := [(0, [(0, .iload_n 2, 1, [], 0), (1, .aload_n 0, 1, [], 0), (2, .getfield 24, 3, [1, 0, 8, 1, 464, 0], 2), (5, .getfield 48, 3, [4, 0, 14, 0, 431, 0], 0), (8, .getfield 52, 3, [10, 14, 0, 0, 214, 0], 0), (11, .if_icmp .gt 30, 3, [], 0)]),
  (14, [(14, .aload_n 0, 1, [], 0), (15, .getfield 24, 3, [1, 0, 8, 1, 464, 0], 2), (18, .getfield 48, 3, [4, 0, 14, 0, 431, 0], 0), (21, .iload_n 1, 1, [], 0), (22, .invokevirtual 60, 3, [1, 0, 1, 43, 1040, 0, 14], 0), (25, .ifCond .eq 16, 3, [], 0)]),
  (28, [(28, .iload_n 3, 1, [], 0), (29, .aload_n 0, 1, [], 0), (30, .getfield 24, 3, [1, 0, 8, 1, 464, 0], 2), (33, .getfield 66, 3, [4, 4, 532, 1, 439, 0], 1), (36, .iload_n 1, 1, [], 0), (37, .iaload, 1, [], 0), (38, .if_icmp .le 5, 3, [], 0)]),
  (41, [(41, .iconst (-1), 1, [], 0), (42, .ireturn, 1, [], 0)]),
  (43, [(43, .iload_n 1, 1, [], 0), (44, .istore 4, 2, [], 0)]),
  (46, [(46, .iload 4, 2, [], 0), (48, .iconst 1, 1, [], 0), (49, .iadd, 1, [], 0), (50, .aload_n 0, 1, [], 0), (51, .getfield 24, 3, [1, 0, 8, 1, 464, 0], 2), (54, .getfield 48, 3, [4, 0, 14, 0, 431, 0], 0), (57, .getfield 94, 3, [10, 11, 0, 0, 205, 0], 0), (60, .if_icmp .ge 58, 3, [], 0)]),
  (63, [(63, .iload_n 2, 1, [], 0), (64, .aload_n 0, 1, [], 0), (65, .getfield 24, 3, [1, 0, 8, 1, 464, 0], 2), (68, .getfield 48, 3, [4, 0, 14, 0, 431, 0], 0), (71, .getfield 97, 3, [10, 3, 532, 1, 177, 0], 7), (74, .iload 4, 2, [], 0), (76, .iaload, 1, [], 0), (77, .if_icmp .lt 41, 3, [], 0)]),
  (80, [(80, .iload_n 3, 1, [], 0), (81, .aload_n 0, 1, [], 0), (82, .getfield 24, 3, [1, 0, 8, 1, 464, 0], 2), (85, .getfield 112, 3, [4, 6, 532, 1, 445, 0], 3), (88, .iload 4, 2, [], 0), (90, .iaload, 1, [], 0), (91, .if_icmp .gt 19, 3, [], 0)]),
  (94, [(94, .iload_n 3, 1, [], 0), (95, .aload_n 0, 1, [], 0), (96, .getfield 24, 3, [1, 0, 8, 1, 464, 0], 2), (99, .getfield 66, 3, [4, 4, 532, 1, 439, 0], 1), (102, .iload 4, 2, [], 0), (104, .iconst 1, 1, [], 0), (105, .iadd, 1, [], 0), (106, .iaload, 1, [], 0), (107, .if_icmp .le 5, 3, [], 0)]),
  (110, [(110, .iconst (-1), 1, [], 0), (111, .ireturn, 1, [], 0)]),
  (112, [(112, .iinc 4 1, 3, [], 0), (115, .goto (-69), 3, [], 0)]),
  (118, [(118, .iload 4, 2, [], 0), (120, .ireturn, 1, [], 0)])]
def BX1_reached_46 (n : Nat) : Nat → Int → Int → Int → Int → Hp → Option (Int)
  | 0, _, _, _, _, _ => none
  | f + 1, x0, x2, x3, x4, h =>
    (if (h (h (x0 + 2) 0) 11) ≤ (w32 (x4 + 1)) then
    (some x4)
    else
    (grd (0 ≤ x4 ∧ x4 < alen 532)
    (if x2 < (h ((h (x0 + 2) 0) + 7) x4) then
    (some x4)
    else
    (grd (0 ≤ x4 ∧ x4 < alen 532)
    (if (h ((x0 + 2) + 3) x4) < x3 then
    (some (-1))
    else
    (grd (0 ≤ (w32 (x4 + 1)) ∧ (w32 (x4 + 1)) < alen 532)
    (if x3 ≤ (h ((x0 + 2) + 1) (w32 (x4 + 1))) then
    (ltt (w32 (x4 + 1)) fun y1 =>
    (BX1_reached_46 n f x0 x2 x3 y1 h))
    else
    (some (-1)))))))))
def LX1_reached_46 (n : Nat) (x0 x2 x3 x4 : Int) (h : Hp) : Option (Int) :=
(BX1_reached_46 n n x0 x2 x3 x4 h)
def MX1_reached (n : Nat) (x0 x1 x2 x3 : Int) (h : Hp) : Option (Int) :=
(if (h (h (x0 + 2) 0) 14) < x2 then
(some (-1))
else
(bndp (MX10_has (h (x0 + 2) 0) x1 h) fun r1 =>
(if r1 = 0 then
(some (-1))
else
(grd (0 ≤ x1 ∧ x1 < alen 532)
(if x3 ≤ (h ((x0 + 2) + 1) x1) then
(ltt x1 fun y1 =>
(LX1_reached_46 n x0 x2 x3 y1 h))
else
(some (-1)))))))
def wX1_reached {ρ : Type} (n : Nat) : FN ρ := fun a h k => match a with
  | [x0, x1, x2, x3] => bndp (MX1_reached n x0 x1 x2 x3 h) (fun r => k r h)
  | _ => none
def fsX1_reached (n : Nat) (ρ : Type) : List (FN ρ) := [wX10_has]
def KBX1_reached_46 (_ : Nat) (bk : Int → Int → Int → Int → Hp → Option (Int)) : CT (Int) := [(46, [(0, 5, none), (2, 0, none), (3, 0, none), (4, 0, none)], [], fun a c h => match a, c with
    | [x0, x2, x3, x4], [] => bk x0 x2 x3 x4 h
    | _, _ => none)]
set_option maxRecDepth 100000 in
theorem eBX1_reached_46 (n f : Nat) (x0 : Int) (x2 : Int) (x3 : Int) (x4 : Int) (h : Hp) : BX1_reached_46 n (f + 1) x0 x2 x3 x4 h =
  goAt false (kct (KBX1_reached_46 n (BX1_reached_46 n f))) (fun v _ => some (v)) (fsX1_reached n _) sdX1_reached 1000 46 [(0, 5, x0), (2, 0, x2), (3, 0, x3), (4, 0, x4)] [] h := rfl
def KMX1_reached (n : Nat) : CT (Int) := [(46, [(0, 5, none), (2, 0, none), (3, 0, none), (4, 0, none)], [], fun a c h => match a, c with
    | [x0, x2, x3, x4], [] => LX1_reached_46 n x0 x2 x3 x4 h
    | _, _ => none)]
set_option maxRecDepth 100000 in
theorem eMX1_reached (n : Nat) (x0 : Int) (x1 : Int) (x2 : Int) (x3 : Int) (h : Hp) : MX1_reached n x0 x1 x2 x3 h =
  goAt false (kct (KMX1_reached n)) (fun v _ => some (v)) (fsX1_reached n _) sdX1_reached 1000 0 [(0, 5, x0), (1, 0, x1), (2, 0, x2), (3, 0, x3)] [] h := rfl
theorem okX1_reached : mokb (mi 127) = true := by decide +kernel
theorem rkX1_reached : rkOK 1 (mi 127).1.2.2.2.2.2.2.1 (mi 127).1.2.2.2.1 := Or.inr (Or.inl ⟨rfl, rfl, rfl⟩)
def calX1_reached : List Nat := [43]
theorem foX1_reached {l : Launch} {ρ : Type} (n : Nat) : fsOK l false mi calX1_reached (fsX1_reached n ρ) := ⟨sndX10_has, trivial⟩
theorem frX1_reached {ρ : Type} (n : Nat) : ∀ fn ∈ fsX1_reached n ρ, RoF fn := (List.forall_mem_cons.mpr ⟨roX10_has, (fun q9 h9 => by cases h9)⟩)
theorem ok_sdX1_reached : sdb (mi 127).1.2.1 (insOK mi (mi 127).1.1.cls (mi 127).1.2.2.1 (mi 127).1.2.2.2.2.1 (mi 127).1.2.2.2.2.2.1 calX1_reached false 1) sdX1_reached = true := by decide +kernel
theorem sBX1_reached_46 {l : Launch} {h0 : Hp} {v : Int} (h8 : nOf h0 = 148) (n : Nat) (h : Hp) : ∀ (f : Nat) (x0 : Int) (x2 : Int) (x3 : Int) (x4 : Int) {r : Int}, BX1_reached_46 n f x0 x2 x3 x4 h = some r → gV v r → PAt l false (mi 127).1 h0 v h 46 [(0, 5, x0), (2, 0, x2), (3, 0, x3), (4, 0, x4)] [] h := by
  intro f
  induction f with
  | zero =>
    intro x0 x2 x3 x4 r H _
    have H2 : (none : Option (Int)) = some r := H
    cases H2
  | succ f ih =>
    intro x0 x2 x3 x4 r H hG
    exact pat_ro ok_sdX1_reached rfl rkX1_reached h8 (foX1_reached n) (frX1_reached n) (fun v1 q => by
    cases q
    exact ⟨rfl, fun _ => hG⟩) (List.forall_mem_cons.mpr ⟨(fun a c H => by
      dsimp only at H
      split at H
      · exact ih _ _ _ _ H hG
      · cases H), (fun q9 h9 => by cases h9)⟩) ((eBX1_reached_46 n f x0 x2 x3 x4 h).symm.trans H)
theorem sLX1_reached_46 {l : Launch} {h0 : Hp} {v : Int} (h8 : nOf h0 = 148) (n : Nat) (x0 : Int) (x2 : Int) (x3 : Int) (x4 : Int) (h : Hp) {r : Int} (H : LX1_reached_46 n x0 x2 x3 x4 h = some r) (hG : gV v r) : PAt l false (mi 127).1 h0 v h 46 [(0, 5, x0), (2, 0, x2), (3, 0, x3), (4, 0, x4)] [] h :=
  sBX1_reached_46 h8 n h n x0 x2 x3 x4 H hG
theorem sMX1_reached {l : Launch} {h0 : Hp} {v : Int} (h8 : nOf h0 = 148) (n : Nat) (x0 : Int) (x1 : Int) (x2 : Int) (x3 : Int) (h : Hp) {r : Int} (H : MX1_reached n x0 x1 x2 x3 h = some r) (hG : gV v r) : PAt l false (mi 127).1 h0 v h 0 [(0, 5, x0), (1, 0, x1), (2, 0, x2), (3, 0, x3)] [] h :=
  pat_ro ok_sdX1_reached rfl rkX1_reached h8 (foX1_reached n) (frX1_reached n) (fun v1 q => by
    cases q
    exact ⟨rfl, fun _ => hG⟩) (List.forall_mem_cons.mpr ⟨(fun a c H => by
      dsimp only at H
      split at H
      · exact sLX1_reached_46 h8 n _ _ _ _ _ H hG
      · cases H), (fun q9 h9 => by cases h9)⟩) ((eMX1_reached n x0 x1 x2 x3 h).symm.trans H)
theorem sndX1_reached {ρ : Type} {l : Launch} (n : Nat) : SndF (ρ := ρ) l false (mi 127).1 (wX1_reached n) := by
    intro a h k r H ha ho hn hf
    have h8 := hf rfl
    obtain ⟨x0, x1, x2, x3, rfl⟩ := len4 (show a.length = 4 from ha)
    replace H : bndp (MX1_reached n x0 x1 x2 x3 h) (fun r => k r h) = some r := H
    obtain ⟨v2, H1, H2⟩ := bndp_some H
    exact ⟨v2, h, H2, met_mk (mok_base okX1_reached).1 (by decide +kernel) (Nat.le_of_ble_eq_true rfl) ho (sMX1_reached h8 n x0 x1 x2 x3 h H1 rfl), fun q => by cases q⟩
theorem roX1_reached {ρ : Type} (n : Nat) : RoF (wX1_reached n : FN ρ) := fun a h k k2 hk => by
  unfold wX1_reached
  split
  · exact bndp_ro hk
  · rfl
/-! X1_brake -/
def sdX1_brake : SD := [(0, [(0, .aload_n 0, 1, [], 0), (1, .iload_n 1, 1, [], 0), (2, .iload_n 2, 1, [], 0), (3, .iadd, 1, [], 0), (4, .iconst 1, 1, [], 0), (5, .isub, 1, [], 0), (6, .iload_n 2, 1, [], 0), (7, .iconst 1, 1, [], 0), (8, .isub, 1, [], 0), (9, .invokevirtual 100, 3, [1, 0, 1, 126, 1032, 0, 0, 5], 0), (12, .ifCond .eq 7, 3, [], 0)]),
  (15, [(15, .iconst (-1), 1, [], 0), (16, .goto 19, 3, [], 0)]),
  (19, [(19, .aload_n 0, 1, [], 0), (20, .iload_n 1, 1, [], 0), (21, .iload_n 2, 1, [], 0), (22, .iadd, 1, [], 0), (23, .iload_n 2, 1, [], 0), (24, .invokevirtual 100, 3, [1, 0, 1, 126, 1032, 0, 0, 5], 0), (27, .ifCond .eq 7, 3, [], 0)]),
  (30, [(30, .iconst 0, 1, [], 0), (31, .goto 4, 3, [], 0)]),
  (34, [(34, .iconst 1, 1, [], 0)]),
  (35, [(35, .ireturn, 1, [], 0)])]
def MX1_brake (x0 x1 x2 : Int) (h : Hp) : Option (Int) :=
(bndp (MX1_bears x0 (w32 ((w32 (x1 + x2)) - 1)) (w32 (x2 - 1)) h) fun r1 =>
(if r1 = 0 then
(bndp (MX1_bears x0 (w32 (x1 + x2)) x2 h) fun r2 =>
(if r2 = 0 then
(some 1)
else
(some 0)))
else
(some (-1))))
def wX1_brake {ρ : Type} : FN ρ := fun a h k => match a with
  | [x0, x1, x2] => bndp (MX1_brake x0 x1 x2 h) (fun r => k r h)
  | _ => none
def fsX1_brake (ρ : Type) : List (FN ρ) := [wX1_bears]
def KMX1_brake  : CT (Int) := []
set_option maxRecDepth 100000 in
theorem eMX1_brake (x0 : Int) (x1 : Int) (x2 : Int) (h : Hp) : MX1_brake x0 x1 x2 h =
  goAt false (kct (KMX1_brake)) (fun v _ => some (v)) (fsX1_brake _) sdX1_brake 1000 0 [(0, 5, x0), (1, 0, x1), (2, 0, x2)] [] h := rfl
theorem okX1_brake : mokb (mi 128) = true := by decide +kernel
theorem rkX1_brake : rkOK 1 (mi 128).1.2.2.2.2.2.2.1 (mi 128).1.2.2.2.1 := Or.inr (Or.inl ⟨rfl, rfl, rfl⟩)
def calX1_brake : List Nat := [126]
theorem foX1_brake {l : Launch} {ρ : Type} : fsOK l false mi calX1_brake (fsX1_brake ρ) := ⟨sndX1_bears, trivial⟩
theorem frX1_brake {ρ : Type} : ∀ fn ∈ fsX1_brake ρ, RoF fn := (List.forall_mem_cons.mpr ⟨roX1_bears, (fun q9 h9 => by cases h9)⟩)
theorem ok_sdX1_brake : sdb (mi 128).1.2.1 (insOK mi (mi 128).1.1.cls (mi 128).1.2.2.1 (mi 128).1.2.2.2.2.1 (mi 128).1.2.2.2.2.2.1 calX1_brake false 1) sdX1_brake = true := by decide +kernel
theorem sMX1_brake {l : Launch} {h0 : Hp} {v : Int} (h8 : nOf h0 = 148)  (x0 : Int) (x1 : Int) (x2 : Int) (h : Hp) {r : Int} (H : MX1_brake x0 x1 x2 h = some r) (hG : gV v r) : PAt l false (mi 128).1 h0 v h 0 [(0, 5, x0), (1, 0, x1), (2, 0, x2)] [] h :=
  pat_ro ok_sdX1_brake rfl rkX1_brake h8 (foX1_brake) (frX1_brake) (fun v1 q => by
    cases q
    exact ⟨rfl, fun _ => hG⟩) (fun q9 h9 => by cases h9) ((eMX1_brake x0 x1 x2 h).symm.trans H)
theorem sndX1_brake {ρ : Type} {l : Launch} : SndF (ρ := ρ) l false (mi 128).1 (wX1_brake) := by
    intro a h k r H ha ho hn hf
    have h8 := hf rfl
    obtain ⟨x0, x1, x2, rfl⟩ := len3 (show a.length = 3 from ha)
    replace H : bndp (MX1_brake x0 x1 x2 h) (fun r => k r h) = some r := H
    obtain ⟨v2, H1, H2⟩ := bndp_some H
    exact ⟨v2, h, H2, met_mk (mok_base okX1_brake).1 (by decide +kernel) (Nat.le_of_ble_eq_true rfl) ho (sMX1_brake h8 x0 x1 x2 h H1 rfl), fun q => by cases q⟩
theorem roX1_brake {ρ : Type} : RoF (wX1_brake : FN ρ) := fun a h k k2 hk => by
  unfold wX1_brake
  split
  · exact bndp_ro hk
  · rfl
/-! X1_farness -/
def sdX1_farness : SD := [(0, [(0, .iload_n 2, 1, [], 0), (1, .bipush 12, 2, [], 0), (3, .iadd, 1, [], 0), (4, .bipush 101, 2, [], 0), (6, .imul, 1, [], 0), (7, .iload_n 1, 1, [], 0), (8, .iadd, 1, [], 0), (9, .istore_n 3, 1, [], 0), (10, .iload_n 1, 1, [], 0), (11, .ifCond .lt 22, 3, [], 0)]),
  (14, [(14, .iload_n 1, 1, [], 0), (15, .bipush 101, 2, [], 0), (17, .if_icmp .ge 16, 3, [], 0)]),
  (20, [(20, .iload_n 3, 1, [], 0), (21, .ifCond .lt 12, 3, [], 0)]),
  (24, [(24, .iload_n 3, 1, [], 0), (25, .aload_n 0, 1, [], 0), (26, .getfield 13, 3, [1, 1, 20220, 1, 466, 0], 1), (29, .arraylength, 1, [], 0), (30, .if_icmp .lt 5, 3, [], 0)]),
  (33, [(33, .iconst 0, 1, [], 0), (34, .ireturn, 1, [], 0)]),
  (35, [(35, .aload_n 0, 1, [], 0), (36, .getfield 13, 3, [1, 1, 20220, 1, 466, 0], 1), (39, .iload_n 3, 1, [], 0), (40, .iaload, 1, [], 0), (41, .iconst 1, 1, [], 0), (42, .isub, 1, [], 0), (43, .istore 4, 2, [], 0), (45, .iload 4, 2, [], 0), (47, .ifCond .ge 60, 3, [], 0)]),
  (50, [(50, .iconst 0, 1, [], 0), (51, .istore 4, 2, [], 0), (53, .iconst 0, 1, [], 0), (54, .istore 5, 2, [], 0)]),
  (56, [(56, .iload 5, 2, [], 0), (58, .sipush 1000, 3, [], 0), (61, .if_icmp .ge 36, 3, [], 0)]),
  (64, [(64, .iload_n 1, 1, [], 0), (65, .ifCond .ne 7, 3, [], 0)]),
  (68, [(68, .iload_n 2, 1, [], 0), (69, .ifCond .eq 28, 3, [], 0)]),
  (72, [(72, .iload_n 2, 1, [], 0), (73, .aload_n 0, 1, [], 0), (74, .iload_n 1, 1, [], 0), (75, .iload_n 2, 1, [], 0), (76, .invokevirtual 87, 3, [1, 0, 1, 128, 1049, 0, 0, 5], 0), (79, .iadd, 1, [], 0), (80, .istore_n 2, 1, [], 0), (81, .iload_n 1, 1, [], 0), (82, .iload_n 2, 1, [], 0), (83, .iadd, 1, [], 0), (84, .istore_n 1, 1, [], 0), (85, .iload 4, 2, [], 0), (87, .iload_n 1, 1, [], 0), (88, .iadd, 1, [], 0), (89, .istore 4, 2, [], 0), (91, .iinc 5 1, 3, [], 0), (94, .goto (-38), 3, [], 0)]),
  (97, [(97, .aload_n 0, 1, [], 0), (98, .getfield 13, 3, [1, 1, 20220, 1, 466, 0], 1), (101, .iload_n 3, 1, [], 0), (102, .iload 4, 2, [], 0), (104, .iconst 1, 1, [], 0), (105, .iadd, 1, [], 0), (106, .iastore, 1, [], 0)]),
  (107, [(107, .iload 4, 2, [], 0), (109, .ireturn, 1, [], 0)])]
def sdX1_farness_56 : SD := [(56, [(56, .iload 5, 2, [], 0), (58, .sipush 1000, 3, [], 0), (61, .if_icmp .ge 36, 3, [], 0)]),
  (64, [(64, .iload_n 1, 1, [], 0), (65, .ifCond .ne 7, 3, [], 0)]),
  (68, [(68, .iload_n 2, 1, [], 0), (69, .ifCond .eq 28, 3, [], 0)]),
  (72, [(72, .iload_n 2, 1, [], 0), (73, .aload_n 0, 1, [], 0), (74, .iload_n 1, 1, [], 0), (75, .iload_n 2, 1, [], 0), (76, .invokevirtual 87, 3, [1, 0, 1, 128, 1049, 0, 0, 5], 0), (79, .iadd, 1, [], 0), (80, .istore_n 2, 1, [], 0), (81, .iload_n 1, 1, [], 0), (82, .iload_n 2, 1, [], 0), (83, .iadd, 1, [], 0), (84, .istore_n 1, 1, [], 0), (85, .iload 4, 2, [], 0), (87, .iload_n 1, 1, [], 0), (88, .iadd, 1, [], 0), (89, .istore 4, 2, [], 0), (91, .iinc 5 1, 3, [], 0), (94, .goto (-38), 3, [], 0)])]
def JX1_farness_72 (n : Nat) (bk : Int → Int → Int → Int → Int → Int → Hp → Option (Int × Int × Int)) (x0 x1 x2 x3 x4 x5 : Int) (h : Hp) : Option (Int × Int × Int) :=
(bndp (MX1_brake x0 x1 x2 h) fun r1 =>
(ltt (w32 (x2 + r1)) fun y1 =>
(ltt (w32 (x1 + y1)) fun y2 =>
(ltt (w32 (x4 + y2)) fun y3 =>
(ltt (w32 (x5 + 1)) fun y4 =>
(bk x0 y2 y1 x3 y3 y4 h))))))
def BX1_farness_56 (n : Nat) : Nat → Int → Int → Int → Int → Int → Int → Hp → Option (Int × Int × Int)
  | 0, _, _, _, _, _, _, _ => none
  | f + 1, x0, x1, x2, x3, x4, x5, h =>
    (if 1000 ≤ x5 then
    (some (x0, x3, x4))
    else
    (if x1 ≠ 0 then
    (JX1_farness_72 n (BX1_farness_56 n f) x0 x1 x2 x3 x4 x5 h)
    else
    (if x2 = 0 then
    (some (x0, x3, x4))
    else
    (JX1_farness_72 n (BX1_farness_56 n f) x0 x1 x2 x3 x4 x5 h))))
def JX1_farness_97 (n : Nat) (x0 x3 x4 : Int) (h : Hp) : Option (Int × Hp) :=
(grd (0 ≤ x3 ∧ x3 < alen 20220)
(ltt (up h (x0 + 1) x3 (w32 (x4 + 1))) fun h1 =>
(some (x4, h1))))
def LX1_farness_56 (n : Nat) (x0 x1 x2 x3 x4 x5 : Int) (h : Hp) : Option (Int × Hp) :=
(bndx (BX1_farness_56 n n x0 x1 x2 x3 x4 x5 h) fun (e0, e3, e4) =>
(JX1_farness_97 n e0 e3 e4 h))
def MX1_farness (n : Nat) (x0 x1 x2 : Int) (h : Hp) : Option (Int × Hp) :=
(ltt (w32 ((w32 ((w32 (x2 + 12)) * 101)) + x1)) fun y1 =>
(if x1 < 0 then
(some (0, h))
else
(if 101 ≤ x1 then
(some (0, h))
else
(if y1 < 0 then
(some (0, h))
else
(if y1 < (alen 20220) then
(grd (0 ≤ y1 ∧ y1 < alen 20220)
(ltt (w32 ((h (x0 + 1) y1) - 1)) fun y2 =>
(if 0 ≤ y2 then
(some (y2, h))
else
(ltt 0 fun y3 =>
(ltt 0 fun y4 =>
(LX1_farness_56 n x0 x1 x2 y1 y3 y4 h))))))
else
(some (0, h)))))))
def wX1_farness {ρ : Type} (n : Nat) : FN ρ := fun a h k => match a with
  | [x0, x1, x2] => bnd (MX1_farness n x0 x1 x2 h) (fun r h2 => k r h2)
  | _ => none
def fsX1_farness (n : Nat) (ρ : Type) : List (FN ρ) := [wX1_brake]
def fsX1_farness_56 (n : Nat) (ρ : Type) : List (FN ρ) := [wX1_brake]
def KJX1_farness_72 (_ : Nat) (bk : Int → Int → Int → Int → Int → Int → Hp → Option (Int × Int × Int)) : CT (Int × Int × Int) := [(56, [(0, 5, none), (1, 0, none), (2, 0, none), (3, 0, none), (4, 0, none), (5, 0, none)], [], fun a c h => match a, c with
    | [x0, x1, x2, x3, x4, x5], [] => bk x0 x1 x2 x3 x4 x5 h
    | _, _ => none),
  (97, [(0, 5, none), (3, 0, none), (4, 0, none)], [], fun a c _ => match a, c with
    | [x0, x3, x4], [] => some (x0, x3, x4)
    | _, _ => none)]
set_option maxRecDepth 100000 in
theorem eJX1_farness_72 (n : Nat) (bk : Int → Int → Int → Int → Int → Int → Hp → Option (Int × Int × Int)) (x0 : Int) (x1 : Int) (x2 : Int) (x3 : Int) (x4 : Int) (x5 : Int) (h : Hp) : JX1_farness_72 n bk x0 x1 x2 x3 x4 x5 h =
  goAt false (kct (KJX1_farness_72 n bk)) (fun _ _ => none) (fsX1_farness_56 n _) sdX1_farness_56 1000 72 [(0, 5, x0), (1, 0, x1), (2, 0, x2), (3, 0, x3), (4, 0, x4), (5, 0, x5)] [] h := rfl
def KBX1_farness_56 (n : Nat) (bk : Int → Int → Int → Int → Int → Int → Hp → Option (Int × Int × Int)) : CT (Int × Int × Int) := [(56, [(0, 5, none), (1, 0, none), (2, 0, none), (3, 0, none), (4, 0, none), (5, 0, none)], [], fun a c h => match a, c with
    | [x0, x1, x2, x3, x4, x5], [] => bk x0 x1 x2 x3 x4 x5 h
    | _, _ => none),
  (97, [(0, 5, none), (3, 0, none), (4, 0, none)], [], fun a c _ => match a, c with
    | [x0, x3, x4], [] => some (x0, x3, x4)
    | _, _ => none),
  (72, [(0, 5, none), (1, 0, none), (2, 0, none), (3, 0, none), (4, 0, none), (5, 0, none)], [], fun a c h => match a, c with
    | [x0, x1, x2, x3, x4, x5], [] => JX1_farness_72 n bk x0 x1 x2 x3 x4 x5 h
    | _, _ => none)]
set_option maxRecDepth 100000 in
theorem eBX1_farness_56 (n f : Nat) (x0 : Int) (x1 : Int) (x2 : Int) (x3 : Int) (x4 : Int) (x5 : Int) (h : Hp) : BX1_farness_56 n (f + 1) x0 x1 x2 x3 x4 x5 h =
  goAt false (kct (KBX1_farness_56 n (BX1_farness_56 n f))) (fun _ _ => none) (fsX1_farness_56 n _) sdX1_farness_56 1000 56 [(0, 5, x0), (1, 0, x1), (2, 0, x2), (3, 0, x3), (4, 0, x4), (5, 0, x5)] [] h := rfl
def KJX1_farness_97 (_ : Nat) : CT (Int × Hp) := []
set_option maxRecDepth 100000 in
theorem eJX1_farness_97 (n : Nat) (x0 : Int) (x3 : Int) (x4 : Int) (h : Hp) : JX1_farness_97 n x0 x3 x4 h =
  goAt false (kct (KJX1_farness_97 n)) (fun v h => some ((v, h))) (fsX1_farness n _) sdX1_farness 1000 97 [(0, 5, x0), (3, 0, x3), (4, 0, x4)] [] h := rfl
def KMX1_farness (n : Nat) : CT (Int × Hp) := [(56, [(0, 5, none), (1, 0, none), (2, 0, none), (3, 0, none), (4, 0, none), (5, 0, none)], [], fun a c h => match a, c with
    | [x0, x1, x2, x3, x4, x5], [] => LX1_farness_56 n x0 x1 x2 x3 x4 x5 h
    | _, _ => none)]
set_option maxRecDepth 100000 in
theorem eMX1_farness (n : Nat) (x0 : Int) (x1 : Int) (x2 : Int) (h : Hp) : MX1_farness n x0 x1 x2 h =
  goAt false (kct (KMX1_farness n)) (fun v h => some ((v, h))) (fsX1_farness n _) sdX1_farness 1000 0 [(0, 5, x0), (1, 0, x1), (2, 0, x2)] [] h := rfl
theorem okX1_farness : mokb (mi 129) = true := by decide +kernel
theorem rkX1_farness : rkOK 1 (mi 129).1.2.2.2.2.2.2.1 (mi 129).1.2.2.2.1 := Or.inr (Or.inl ⟨rfl, rfl, rfl⟩)
def calX1_farness : List Nat := [128]
theorem foX1_farness {l : Launch} {ρ : Type} (n : Nat) : fsOK l false mi calX1_farness (fsX1_farness n ρ) := ⟨sndX1_brake, trivial⟩
theorem ok_sdX1_farness : sdb (mi 129).1.2.1 (insOK mi (mi 129).1.1.cls (mi 129).1.2.2.1 (mi 129).1.2.2.2.2.1 (mi 129).1.2.2.2.2.2.1 calX1_farness false 1) sdX1_farness = true := by decide +kernel
def calX1_farness_56 : List Nat := [128]
theorem foX1_farness_56 {l : Launch} {ρ : Type} (n : Nat) : fsOK l false mi calX1_farness_56 (fsX1_farness_56 n ρ) := ⟨sndX1_brake, trivial⟩
theorem frX1_farness_56 {ρ : Type} (n : Nat) : ∀ fn ∈ fsX1_farness_56 n ρ, RoF fn := (List.forall_mem_cons.mpr ⟨roX1_brake, (fun q9 h9 => by cases h9)⟩)
theorem ok_sdX1_farness_56 : sdb (mi 129).1.2.1 (insOK mi (mi 129).1.1.cls (mi 129).1.2.2.1 (mi 129).1.2.2.2.2.1 (mi 129).1.2.2.2.2.2.1 calX1_farness_56 false 1) sdX1_farness_56 = true := by decide +kernel
def GX1_farness_56 (l : Launch) (h0 : Hp) (h' : Hp) (v : Int) (h : Hp) : (Int × Int × Int) → Prop
  | (e0, e3, e4) => PAt l false (mi 129).1 h0 v h' 97 [(0, 5, e0), (3, 0, e3), (4, 0, e4)] [] h
theorem sJX1_farness_72 {l : Launch} {h0 h' : Hp} {v : Int} (h8 : nOf h0 = 148) (n : Nat) (bk : Int → Int → Int → Int → Int → Int → Hp → Option (Int × Int × Int)) {h : Hp} (hbk : ∀ (x0 : Int) (x1 : Int) (x2 : Int) (x3 : Int) (x4 : Int) (x5 : Int) (r : Int × Int × Int), bk x0 x1 x2 x3 x4 x5 h = some r → GX1_farness_56 l h0 h' v h r → PAt l false (mi 129).1 h0 v h' 56 [(0, 5, x0), (1, 0, x1), (2, 0, x2), (3, 0, x3), (4, 0, x4), (5, 0, x5)] [] h) (x0 : Int) (x1 : Int) (x2 : Int) (x3 : Int) (x4 : Int) (x5 : Int) (_ : Hp) {r : Int × Int × Int} (H : JX1_farness_72 n bk x0 x1 x2 x3 x4 x5 h = some r) (hG : GX1_farness_56 l h0 h' v h r) : PAt l false (mi 129).1 h0 v h' 72 [(0, 5, x0), (1, 0, x1), (2, 0, x2), (3, 0, x3), (4, 0, x4), (5, 0, x5)] [] h :=
  pat_ro ok_sdX1_farness_56 rfl rkX1_farness h8 (foX1_farness_56 n) (frX1_farness_56 n) (fun v1 q => by cases q) (List.forall_mem_cons.mpr ⟨(fun a c H => by
      dsimp only at H
      split at H
      · exact hbk _ _ _ _ _ _ _ H hG
      · cases H), (List.forall_mem_cons.mpr ⟨(fun a c H => by
      dsimp only at H
      split at H
      · cases H
        exact hG
      · cases H), (fun q9 h9 => by cases h9)⟩)⟩) ((eJX1_farness_72 n bk x0 x1 x2 x3 x4 x5 h).symm.trans H)
theorem sBX1_farness_56 {l : Launch} {h0 h' : Hp} {v : Int} (h8 : nOf h0 = 148) (n : Nat) (h : Hp) : ∀ (f : Nat) (x0 : Int) (x1 : Int) (x2 : Int) (x3 : Int) (x4 : Int) (x5 : Int) {r : Int × Int × Int}, BX1_farness_56 n f x0 x1 x2 x3 x4 x5 h = some r → GX1_farness_56 l h0 h' v h r → PAt l false (mi 129).1 h0 v h' 56 [(0, 5, x0), (1, 0, x1), (2, 0, x2), (3, 0, x3), (4, 0, x4), (5, 0, x5)] [] h := by
  intro f
  induction f with
  | zero =>
    intro x0 x1 x2 x3 x4 x5 r H _
    have H2 : (none : Option (Int × Int × Int)) = some r := H
    cases H2
  | succ f ih =>
    intro x0 x1 x2 x3 x4 x5 r H hG
    have ihk : ∀ (x0 : Int) (x1 : Int) (x2 : Int) (x3 : Int) (x4 : Int) (x5 : Int) (r : Int × Int × Int), BX1_farness_56 n f x0 x1 x2 x3 x4 x5 h = some r → GX1_farness_56 l h0 h' v h r → PAt l false (mi 129).1 h0 v h' 56 [(0, 5, x0), (1, 0, x1), (2, 0, x2), (3, 0, x3), (4, 0, x4), (5, 0, x5)] [] h := fun x0 x1 x2 x3 x4 x5 r9 a9 b9 => ih x0 x1 x2 x3 x4 x5 a9 b9
    exact pat_ro ok_sdX1_farness_56 rfl rkX1_farness h8 (foX1_farness_56 n) (frX1_farness_56 n) (fun v1 q => by cases q) (List.forall_mem_cons.mpr ⟨(fun a c H => by
      dsimp only at H
      split at H
      · exact ih _ _ _ _ _ _ H hG
      · cases H), (List.forall_mem_cons.mpr ⟨(fun a c H => by
      dsimp only at H
      split at H
      · cases H
        exact hG
      · cases H), (List.forall_mem_cons.mpr ⟨(fun a c H => by
      dsimp only at H
      split at H
      · exact sJX1_farness_72 h8 n (BX1_farness_56 n f) ihk _ _ _ _ _ _ h H hG
      · cases H), (fun q9 h9 => by cases h9)⟩)⟩)⟩) ((eBX1_farness_56 n f x0 x1 x2 x3 x4 x5 h).symm.trans H)
theorem sJX1_farness_97 {l : Launch} {h0 h' : Hp} {v : Int} (h8 : nOf h0 = 148) (n : Nat) (x0 : Int) (x3 : Int) (x4 : Int) (h : Hp) {r : Int × Hp} (H : JX1_farness_97 n x0 x3 x4 h = some r) (hG : gWV v h' r) : PAt l false (mi 129).1 h0 v h' 97 [(0, 5, x0), (3, 0, x3), (4, 0, x4)] [] h :=
  pat_w ok_sdX1_farness rkX1_farness h8 (foX1_farness n) (fun v1 h1 q => by
    cases q
    exact ⟨hG.1, fun _ => hG.2⟩) (fun q9 h9 => by cases h9) ((eJX1_farness_97 n x0 x3 x4 h).symm.trans H)
theorem sLX1_farness_56 {l : Launch} {h0 h' : Hp} {v : Int} (h8 : nOf h0 = 148) (n : Nat) (x0 : Int) (x1 : Int) (x2 : Int) (x3 : Int) (x4 : Int) (x5 : Int) (h : Hp) {r : Int × Hp} (H : LX1_farness_56 n x0 x1 x2 x3 x4 x5 h = some r) (hG : gWV v h' r) : PAt l false (mi 129).1 h0 v h' 56 [(0, 5, x0), (1, 0, x1), (2, 0, x2), (3, 0, x3), (4, 0, x4), (5, 0, x5)] [] h := by
  obtain ⟨e9, h2, h3⟩ := bndx_some H
  obtain ⟨e0, e3, e4⟩ := e9
  exact sBX1_farness_56 h8 n h n x0 x1 x2 x3 x4 x5 h2 (sJX1_farness_97 h8 n e0 e3 e4 h h3 hG)
theorem sMX1_farness {l : Launch} {h0 h' : Hp} {v : Int} (h8 : nOf h0 = 148) (n : Nat) (x0 : Int) (x1 : Int) (x2 : Int) (h : Hp) {r : Int × Hp} (H : MX1_farness n x0 x1 x2 h = some r) (hG : gWV v h' r) : PAt l false (mi 129).1 h0 v h' 0 [(0, 5, x0), (1, 0, x1), (2, 0, x2)] [] h :=
  pat_w ok_sdX1_farness rkX1_farness h8 (foX1_farness n) (fun v1 h1 q => by
    cases q
    exact ⟨hG.1, fun _ => hG.2⟩) (List.forall_mem_cons.mpr ⟨(fun a c h H => by
      dsimp only at H
      split at H
      · exact sLX1_farness_56 h8 n _ _ _ _ _ _ _ H hG
      · cases H), (fun q9 h9 => by cases h9)⟩) ((eMX1_farness n x0 x1 x2 h).symm.trans H)
theorem sndX1_farness {ρ : Type} {l : Launch} (n : Nat) : SndF (ρ := ρ) l false (mi 129).1 (wX1_farness n) := by
    intro a h k r H ha ho hn hf
    have h8 := hf rfl
    obtain ⟨x0, x1, x2, rfl⟩ := len3 (show a.length = 3 from ha)
    replace H : bnd (MX1_farness n x0 x1 x2 h) (fun r h2 => k r h2) = some r := H
    obtain ⟨v2, h2, H1, H2⟩ := bnd_some H
    exact ⟨v2, h2, H2, met_mk (mok_base okX1_farness).1 (by decide +kernel) (Nat.le_of_ble_eq_true rfl) ho (sMX1_farness h8 n x0 x1 x2 h H1 ⟨rfl, rfl⟩), fun q => by cases q⟩
/-! X1_brakesBear -/
def sdX1_brakesBear : SD := [(0, [(0, .iconst 0, 1, [], 0), (1, .istore 5, 2, [], 0)]),
  (3, [(3, .iload 5, 2, [], 0), (5, .sipush 1000, 3, [], 0), (8, .if_icmp .ge 62, 3, [], 0)]),
  (11, [(11, .iload_n 2, 1, [], 0), (12, .ifCond .ne 9, 3, [], 0)]),
  (15, [(15, .iload_n 3, 1, [], 0), (16, .ifCond .ne 5, 3, [], 0)]),
  (19, [(19, .iconst 1, 1, [], 0), (20, .ireturn, 1, [1], 0)]),
  (21, [(21, .iload_n 3, 1, [], 0), (22, .aload_n 0, 1, [], 0), (23, .iload_n 2, 1, [], 0), (24, .iload_n 3, 1, [], 0), (25, .invokevirtual 87, 3, [1, 0, 1, 128, 1049, 0, 0, 5], 0), (28, .iadd, 1, [], 0), (29, .istore_n 3, 1, [], 0), (30, .iload_n 2, 1, [], 0), (31, .iload_n 3, 1, [], 0), (32, .iadd, 1, [], 0), (33, .istore_n 2, 1, [], 0), (34, .iload_n 1, 1, [], 0), (35, .iload_n 2, 1, [], 0), (36, .aload_n 0, 1, [], 0), (37, .getfield 24, 3, [1, 0, 8, 1, 464, 0], 2), (40, .getfield 91, 3, [4, 1, 0, 0, 433, 0], 0), (43, .imul, 1, [], 0), (44, .iadd, 1, [], 0), (45, .istore_n 1, 1, [], 0), (46, .aload_n 0, 1, [], 0), (47, .iload 4, 2, [], 0), (49, .iload_n 1, 1, [], 0), (50, .iload_n 2, 1, [], 0), (51, .invokevirtual 104, 3, [1, 1, 1, 127, 1036, 0, 0, 0, 5], 0), (54, .istore 4, 2, [], 0), (56, .iload 4, 2, [], 0), (58, .iconst (-1), 1, [], 0), (59, .if_icmp .ne 5, 3, [], 0)]),
  (62, [(62, .iconst 0, 1, [], 0), (63, .ireturn, 1, [1], 0)]),
  (64, [(64, .iinc 5 1, 3, [], 0), (67, .goto (-64), 3, [], 0)]),
  (70, [(70, .iconst 0, 1, [], 0), (71, .ireturn, 1, [1], 0)])]
def JX1_brakesBear_21 (n : Nat) (bk : Int → Int → Int → Int → Int → Int → Hp → Option (Int)) (x0 x1 x2 x3 x4 x5 : Int) (h : Hp) : Option (Int) :=
(bndp (MX1_brake x0 x2 x3 h) fun r1 =>
(ltt (w32 (x3 + r1)) fun y1 =>
(ltt (w32 (x2 + y1)) fun y2 =>
(ltt (w32 (x1 + (w32 (y2 * (h (x0 + 2) 1))))) fun y3 =>
(bndp (MX1_reached n x0 x4 y3 y2 h) fun r2 =>
(ltt r2 fun y4 =>
(if y4 ≠ (-1) then
(ltt (w32 (x5 + 1)) fun y5 =>
(bk x0 y3 y2 y1 y4 y5 h))
else
(some 0))))))))
def BX1_brakesBear_3 (n : Nat) : Nat → Int → Int → Int → Int → Int → Int → Hp → Option (Int)
  | 0, _, _, _, _, _, _, _ => none
  | f + 1, x0, x1, x2, x3, x4, x5, h =>
    (if 1000 ≤ x5 then
    (some 0)
    else
    (if x2 ≠ 0 then
    (JX1_brakesBear_21 n (BX1_brakesBear_3 n f) x0 x1 x2 x3 x4 x5 h)
    else
    (if x3 ≠ 0 then
    (JX1_brakesBear_21 n (BX1_brakesBear_3 n f) x0 x1 x2 x3 x4 x5 h)
    else
    (some 1))))
def LX1_brakesBear_3 (n : Nat) (x0 x1 x2 x3 x4 x5 : Int) (h : Hp) : Option (Int) :=
(BX1_brakesBear_3 n n x0 x1 x2 x3 x4 x5 h)
def MX1_brakesBear (n : Nat) (x0 x1 x2 x3 x4 : Int) (h : Hp) : Option (Int) :=
(ltt 0 fun y1 =>
(LX1_brakesBear_3 n x0 x1 x2 x3 x4 y1 h))
def wX1_brakesBear {ρ : Type} (n : Nat) : FN ρ := fun a h k => match a with
  | [x0, x1, x2, x3, x4] => bndp (MX1_brakesBear n x0 x1 x2 x3 x4 h) (fun r => k r h)
  | _ => none
def fsX1_brakesBear (n : Nat) (ρ : Type) : List (FN ρ) := [wX1_brake, wX1_reached n]
def KJX1_brakesBear_21 (_ : Nat) (bk : Int → Int → Int → Int → Int → Int → Hp → Option (Int)) : CT (Int) := [(3, [(0, 5, none), (1, 0, none), (2, 0, none), (3, 0, none), (4, 0, none), (5, 0, none)], [], fun a c h => match a, c with
    | [x0, x1, x2, x3, x4, x5], [] => bk x0 x1 x2 x3 x4 x5 h
    | _, _ => none)]
set_option maxRecDepth 100000 in
theorem eJX1_brakesBear_21 (n : Nat) (bk : Int → Int → Int → Int → Int → Int → Hp → Option (Int)) (x0 : Int) (x1 : Int) (x2 : Int) (x3 : Int) (x4 : Int) (x5 : Int) (h : Hp) : JX1_brakesBear_21 n bk x0 x1 x2 x3 x4 x5 h =
  goAt false (kct (KJX1_brakesBear_21 n bk)) (fun v _ => some (v)) (fsX1_brakesBear n _) sdX1_brakesBear 1000 21 [(0, 5, x0), (1, 0, x1), (2, 0, x2), (3, 0, x3), (4, 0, x4), (5, 0, x5)] [] h := rfl
def KBX1_brakesBear_3 (n : Nat) (bk : Int → Int → Int → Int → Int → Int → Hp → Option (Int)) : CT (Int) := [(3, [(0, 5, none), (1, 0, none), (2, 0, none), (3, 0, none), (4, 0, none), (5, 0, none)], [], fun a c h => match a, c with
    | [x0, x1, x2, x3, x4, x5], [] => bk x0 x1 x2 x3 x4 x5 h
    | _, _ => none),
  (21, [(0, 5, none), (1, 0, none), (2, 0, none), (3, 0, none), (4, 0, none), (5, 0, none)], [], fun a c h => match a, c with
    | [x0, x1, x2, x3, x4, x5], [] => JX1_brakesBear_21 n bk x0 x1 x2 x3 x4 x5 h
    | _, _ => none)]
set_option maxRecDepth 100000 in
theorem eBX1_brakesBear_3 (n f : Nat) (x0 : Int) (x1 : Int) (x2 : Int) (x3 : Int) (x4 : Int) (x5 : Int) (h : Hp) : BX1_brakesBear_3 n (f + 1) x0 x1 x2 x3 x4 x5 h =
  goAt false (kct (KBX1_brakesBear_3 n (BX1_brakesBear_3 n f))) (fun v _ => some (v)) (fsX1_brakesBear n _) sdX1_brakesBear 1000 3 [(0, 5, x0), (1, 0, x1), (2, 0, x2), (3, 0, x3), (4, 0, x4), (5, 0, x5)] [] h := rfl
def KMX1_brakesBear (n : Nat) : CT (Int) := [(3, [(0, 5, none), (1, 0, none), (2, 0, none), (3, 0, none), (4, 0, none), (5, 0, none)], [], fun a c h => match a, c with
    | [x0, x1, x2, x3, x4, x5], [] => LX1_brakesBear_3 n x0 x1 x2 x3 x4 x5 h
    | _, _ => none)]
set_option maxRecDepth 100000 in
theorem eMX1_brakesBear (n : Nat) (x0 : Int) (x1 : Int) (x2 : Int) (x3 : Int) (x4 : Int) (h : Hp) : MX1_brakesBear n x0 x1 x2 x3 x4 h =
  goAt false (kct (KMX1_brakesBear n)) (fun v _ => some (v)) (fsX1_brakesBear n _) sdX1_brakesBear 1000 0 [(0, 5, x0), (1, 0, x1), (2, 0, x2), (3, 0, x3), (4, 0, x4)] [] h := rfl
theorem okX1_brakesBear : mokb (mi 130) = true := by decide +kernel
theorem rkX1_brakesBear : rkOK 4 (mi 130).1.2.2.2.2.2.2.1 (mi 130).1.2.2.2.1 := Or.inr (Or.inr (Or.inl ⟨rfl, rfl, rfl⟩))
def calX1_brakesBear : List Nat := [128, 127]
theorem foX1_brakesBear {l : Launch} {ρ : Type} (n : Nat) : fsOK l false mi calX1_brakesBear (fsX1_brakesBear n ρ) := ⟨sndX1_brake, ⟨(sndX1_reached n), trivial⟩⟩
theorem frX1_brakesBear {ρ : Type} (n : Nat) : ∀ fn ∈ fsX1_brakesBear n ρ, RoF fn := (List.forall_mem_cons.mpr ⟨roX1_brake, (List.forall_mem_cons.mpr ⟨(roX1_reached n), (fun q9 h9 => by cases h9)⟩)⟩)
theorem ok_sdX1_brakesBear : sdb (mi 130).1.2.1 (insOK mi (mi 130).1.1.cls (mi 130).1.2.2.1 (mi 130).1.2.2.2.2.1 (mi 130).1.2.2.2.2.2.1 calX1_brakesBear false 4) sdX1_brakesBear = true := by decide +kernel
theorem sJX1_brakesBear_21 {l : Launch} {h0 : Hp} {v : Int} (h8 : nOf h0 = 148) (n : Nat) (bk : Int → Int → Int → Int → Int → Int → Hp → Option (Int)) {h : Hp} (hbk : ∀ (x0 : Int) (x1 : Int) (x2 : Int) (x3 : Int) (x4 : Int) (x5 : Int) (r : Int), bk x0 x1 x2 x3 x4 x5 h = some r → gV v r → PAt l false (mi 130).1 h0 v h 3 [(0, 5, x0), (1, 0, x1), (2, 0, x2), (3, 0, x3), (4, 0, x4), (5, 0, x5)] [] h) (x0 : Int) (x1 : Int) (x2 : Int) (x3 : Int) (x4 : Int) (x5 : Int) (_ : Hp) {r : Int} (H : JX1_brakesBear_21 n bk x0 x1 x2 x3 x4 x5 h = some r) (hG : gV v r) : PAt l false (mi 130).1 h0 v h 21 [(0, 5, x0), (1, 0, x1), (2, 0, x2), (3, 0, x3), (4, 0, x4), (5, 0, x5)] [] h :=
  pat_ro ok_sdX1_brakesBear rfl rkX1_brakesBear h8 (foX1_brakesBear n) (frX1_brakesBear n) (fun v1 q => by
    cases q
    exact ⟨rfl, fun _ => hG⟩) (List.forall_mem_cons.mpr ⟨(fun a c H => by
      dsimp only at H
      split at H
      · exact hbk _ _ _ _ _ _ _ H hG
      · cases H), (fun q9 h9 => by cases h9)⟩) ((eJX1_brakesBear_21 n bk x0 x1 x2 x3 x4 x5 h).symm.trans H)
theorem sBX1_brakesBear_3 {l : Launch} {h0 : Hp} {v : Int} (h8 : nOf h0 = 148) (n : Nat) (h : Hp) : ∀ (f : Nat) (x0 : Int) (x1 : Int) (x2 : Int) (x3 : Int) (x4 : Int) (x5 : Int) {r : Int}, BX1_brakesBear_3 n f x0 x1 x2 x3 x4 x5 h = some r → gV v r → PAt l false (mi 130).1 h0 v h 3 [(0, 5, x0), (1, 0, x1), (2, 0, x2), (3, 0, x3), (4, 0, x4), (5, 0, x5)] [] h := by
  intro f
  induction f with
  | zero =>
    intro x0 x1 x2 x3 x4 x5 r H _
    have H2 : (none : Option (Int)) = some r := H
    cases H2
  | succ f ih =>
    intro x0 x1 x2 x3 x4 x5 r H hG
    have ihk : ∀ (x0 : Int) (x1 : Int) (x2 : Int) (x3 : Int) (x4 : Int) (x5 : Int) (r : Int), BX1_brakesBear_3 n f x0 x1 x2 x3 x4 x5 h = some r → gV v r → PAt l false (mi 130).1 h0 v h 3 [(0, 5, x0), (1, 0, x1), (2, 0, x2), (3, 0, x3), (4, 0, x4), (5, 0, x5)] [] h := fun x0 x1 x2 x3 x4 x5 r9 a9 b9 => ih x0 x1 x2 x3 x4 x5 a9 b9
    exact pat_ro ok_sdX1_brakesBear rfl rkX1_brakesBear h8 (foX1_brakesBear n) (frX1_brakesBear n) (fun v1 q => by
    cases q
    exact ⟨rfl, fun _ => hG⟩) (List.forall_mem_cons.mpr ⟨(fun a c H => by
      dsimp only at H
      split at H
      · exact ih _ _ _ _ _ _ H hG
      · cases H), (List.forall_mem_cons.mpr ⟨(fun a c H => by
      dsimp only at H
      split at H
      · exact sJX1_brakesBear_21 h8 n (BX1_brakesBear_3 n f) ihk _ _ _ _ _ _ h H hG
      · cases H), (fun q9 h9 => by cases h9)⟩)⟩) ((eBX1_brakesBear_3 n f x0 x1 x2 x3 x4 x5 h).symm.trans H)
theorem sLX1_brakesBear_3 {l : Launch} {h0 : Hp} {v : Int} (h8 : nOf h0 = 148) (n : Nat) (x0 : Int) (x1 : Int) (x2 : Int) (x3 : Int) (x4 : Int) (x5 : Int) (h : Hp) {r : Int} (H : LX1_brakesBear_3 n x0 x1 x2 x3 x4 x5 h = some r) (hG : gV v r) : PAt l false (mi 130).1 h0 v h 3 [(0, 5, x0), (1, 0, x1), (2, 0, x2), (3, 0, x3), (4, 0, x4), (5, 0, x5)] [] h :=
  sBX1_brakesBear_3 h8 n h n x0 x1 x2 x3 x4 x5 H hG
theorem sMX1_brakesBear {l : Launch} {h0 : Hp} {v : Int} (h8 : nOf h0 = 148) (n : Nat) (x0 : Int) (x1 : Int) (x2 : Int) (x3 : Int) (x4 : Int) (h : Hp) {r : Int} (H : MX1_brakesBear n x0 x1 x2 x3 x4 h = some r) (hG : gV v r) : PAt l false (mi 130).1 h0 v h 0 [(0, 5, x0), (1, 0, x1), (2, 0, x2), (3, 0, x3), (4, 0, x4)] [] h :=
  pat_ro ok_sdX1_brakesBear rfl rkX1_brakesBear h8 (foX1_brakesBear n) (frX1_brakesBear n) (fun v1 q => by
    cases q
    exact ⟨rfl, fun _ => hG⟩) (List.forall_mem_cons.mpr ⟨(fun a c H => by
      dsimp only at H
      split at H
      · exact sLX1_brakesBear_3 h8 n _ _ _ _ _ _ _ H hG
      · cases H), (fun q9 h9 => by cases h9)⟩) ((eMX1_brakesBear n x0 x1 x2 x3 x4 h).symm.trans H)
theorem sndX1_brakesBear {ρ : Type} {l : Launch} (n : Nat) : SndF (ρ := ρ) l false (mi 130).1 (wX1_brakesBear n) := by
    intro a h k r H ha ho hn hf
    have h8 := hf rfl
    obtain ⟨x0, x1, x2, x3, x4, rfl⟩ := len5 (show a.length = 5 from ha)
    replace H : bndp (MX1_brakesBear n x0 x1 x2 x3 x4 h) (fun r => k r h) = some r := H
    obtain ⟨v2, H1, H2⟩ := bndp_some H
    exact ⟨v2, h, H2, met_mk (mok_base okX1_brakesBear).1 (by decide +kernel) (Nat.le_of_ble_eq_true rfl) ho (sMX1_brakesBear h8 n x0 x1 x2 x3 x4 h H1 rfl), fun q => by cases q⟩
theorem roX1_brakesBear {ρ : Type} (n : Nat) : RoF (wX1_brakesBear n : FN ρ) := fun a h k k2 hk => by
  unfold wX1_brakesBear
  split
  · exact bndp_ro hk
  · rfl
/-! X1_isSafe -/
def sdX1_isSafe : SD := [(0, [(0, .iload_n 1, 1, [], 0), (1, .aload_n 0, 1, [], 0), (2, .iload_n 2, 1, [], 0), (3, .iload_n 3, 1, [], 0), (4, .invokevirtual 115, 3, [1, 0, 1, 129, 1045, 0, 0, 5], 0), (7, .aload_n 0, 1, [], 0), (8, .getfield 24, 3, [1, 0, 8, 1, 464, 0], 2), (11, .getfield 91, 3, [4, 1, 0, 0, 433, 0], 0), (14, .imul, 1, [], 0), (15, .iadd, 1, [], 0), (16, .istore 5, 2, [], 0), (18, .iload 5, 2, [], 0), (20, .aload_n 0, 1, [], 0), (21, .getfield 24, 3, [1, 0, 8, 1, 464, 0], 2), (24, .getfield 48, 3, [4, 0, 14, 0, 431, 0], 0), (27, .getfield 52, 3, [10, 14, 0, 0, 214, 0], 0), (30, .if_icmp .le 5, 3, [], 0)]),
  (33, [(33, .iconst 0, 1, [], 0), (34, .ireturn, 1, [1], 0)]),
  (35, [(35, .iload_n 2, 1, [], 0), (36, .iload_n 3, 1, [], 0), (37, .ifCond .le 13, 3, [], 0)]),
  (40, [(40, .iload_n 3, 1, [], 0), (41, .iload_n 3, 1, [], 0), (42, .iconst 1, 1, [], 0), (43, .isub, 1, [], 0), (44, .imul, 1, [], 0), (45, .iconst 2, 1, [], 0), (46, .idiv, 1, [], 0), (47, .goto 4, 3, [], 0)]),
  (50, [(50, .iconst 0, 1, [], 0)]),
  (51, [(51, .iadd, 1, [], 0), (52, .istore 6, 2, [], 0), (54, .aload_n 0, 1, [], 0), (55, .getfield 24, 3, [1, 0, 8, 1, 464, 0], 2), (58, .getfield 48, 3, [4, 0, 14, 0, 431, 0], 0), (61, .iload 4, 2, [], 0), (63, .invokevirtual 118, 3, [1, 1, 1, 119, 1053, 0, 14], 0), (66, .ifCond .eq 21, 3, [], 0)]),
  (69, [(69, .iload 5, 2, [], 0), (71, .aload_n 0, 1, [], 0), (72, .getfield 24, 3, [1, 0, 8, 1, 464, 0], 2), (75, .getfield 48, 3, [4, 0, 14, 0, 431, 0], 0), (78, .getfield 97, 3, [10, 3, 532, 1, 177, 0], 7), (81, .iload 4, 2, [], 0), (83, .iaload, 1, [], 0), (84, .if_icmp .ge 7, 3, [], 0)]),
  (87, [(87, .iconst 1, 1, [], 0), (88, .goto 4, 3, [], 0)]),
  (91, [(91, .iconst 0, 1, [], 0)]),
  (92, [(92, .istore 7, 2, [], 0), (94, .iload 7, 2, [], 0), (96, .ifCond .eq 24, 3, [], 0)]),
  (99, [(99, .iload 6, 2, [], 0), (101, .aload_n 0, 1, [], 0), (102, .getfield 24, 3, [1, 0, 8, 1, 464, 0], 2), (105, .getfield 66, 3, [4, 4, 532, 1, 439, 0], 1), (108, .iload 4, 2, [], 0), (110, .iaload, 1, [], 0), (111, .if_icmp .gt 7, 3, [], 0)]),
  (114, [(114, .iconst 1, 1, [], 0), (115, .goto 4, 3, [], 0)]),
  (118, [(118, .iconst 0, 1, [], 0)]),
  (119, [(119, .ireturn, 1, [1], 0)]),
  (120, [(120, .aload_n 0, 1, [], 0), (121, .iload_n 1, 1, [], 0), (122, .iload_n 2, 1, [], 0), (123, .iload_n 3, 1, [], 0), (124, .iload 4, 2, [], 0), (126, .invokevirtual 121, 3, [1, 2, 1, 130, 1054, 0, 0, 0, 0, 5], 0), (129, .ireturn, 1, [1], 0)])]
def JX1_isSafe_92 (n : Nat) (x0 x1 x2 x3 x4 x6 z0 : Int) (h : Hp) : Option (Int × Hp) :=
(ltt z0 fun y1 =>
(if y1 = 0 then
(bndp (MX1_brakesBear n x0 x1 x2 x3 x4 h) fun r1 =>
(grd (r1 = 0 ∨ r1 = 1)
(some (r1, h))))
else
(grd (0 ≤ x4 ∧ x4 < alen 532)
(if (h ((x0 + 2) + 1) x4) < x6 then
(some (0, h))
else
(some (1, h))))))
def JX1_isSafe_87 (n : Nat) (x0 x1 x2 x3 x4 x6 : Int) (h : Hp) : Option (Int × Hp) :=
(JX1_isSafe_92 n x0 x1 x2 x3 x4 x6 1 h)
def JX1_isSafe_51 (n : Nat) (x0 x1 x2 x3 x4 x5 z0 z1 : Int) (h : Hp) : Option (Int × Hp) :=
(ltt (w32 (z0 + z1)) fun y1 =>
(bndp (MX10_hasCorner (h (x0 + 2) 0) x4 h) fun r1 =>
(if r1 = 0 then
(JX1_isSafe_87 n x0 x1 x2 x3 x4 y1 h)
else
(grd (0 ≤ x4 ∧ x4 < alen 532)
(if (h ((h (x0 + 2) 0) + 7) x4) ≤ x5 then
(JX1_isSafe_92 n x0 x1 x2 x3 x4 y1 0 h)
else
(JX1_isSafe_87 n x0 x1 x2 x3 x4 y1 h))))))
def MX1_isSafe (n : Nat) (x0 x1 x2 x3 x4 : Int) (h : Hp) : Option (Int × Hp) :=
(bnd (MX1_farness n x0 x2 x3 h) fun r1 h1 =>
(ltt (w32 (x1 + (w32 (r1 * (h1 (x0 + 2) 1))))) fun y1 =>
(if y1 ≤ (h1 (h1 (x0 + 2) 0) 14) then
(if x3 ≤ 0 then
(JX1_isSafe_51 n x0 x1 x2 x3 x4 y1 x2 0 h1)
else
(grd (¬ 2 = 0)
(JX1_isSafe_51 n x0 x1 x2 x3 x4 y1 x2 (w32 (Int.tdiv (w32 (x3 * (w32 (x3 - 1)))) 2)) h1)))
else
(some (0, h1)))))
def wX1_isSafe {ρ : Type} (n : Nat) : FN ρ := fun a h k => match a with
  | [x0, x1, x2, x3, x4] => bnd (MX1_isSafe n x0 x1 x2 x3 x4 h) (fun r h2 => k r h2)
  | _ => none
def fsX1_isSafe (n : Nat) (ρ : Type) : List (FN ρ) := [wX1_farness n, wX10_hasCorner, wX1_brakesBear n]
def KJX1_isSafe_92 (_ : Nat) : CT (Int × Hp) := []
set_option maxRecDepth 100000 in
theorem eJX1_isSafe_92 (n : Nat) (x0 : Int) (x1 : Int) (x2 : Int) (x3 : Int) (x4 : Int) (x6 : Int) (z0 : Int) (h : Hp) : JX1_isSafe_92 n x0 x1 x2 x3 x4 x6 z0 h =
  goAt false (kct (KJX1_isSafe_92 n)) (fun v h => some ((v, h))) (fsX1_isSafe n _) sdX1_isSafe 1000 92 [(0, 5, x0), (1, 0, x1), (2, 0, x2), (3, 0, x3), (4, 0, x4), (6, 0, x6)] [(0, z0)] h := rfl
def KJX1_isSafe_87 (n : Nat) : CT (Int × Hp) := [(92, [(0, 5, none), (1, 0, none), (2, 0, none), (3, 0, none), (4, 0, none), (6, 0, none)], [(0, none)], fun a c h => match a, c with
    | [x0, x1, x2, x3, x4, x6], [z0] => JX1_isSafe_92 n x0 x1 x2 x3 x4 x6 z0 h
    | _, _ => none)]
set_option maxRecDepth 100000 in
theorem eJX1_isSafe_87 (n : Nat) (x0 : Int) (x1 : Int) (x2 : Int) (x3 : Int) (x4 : Int) (x6 : Int) (h : Hp) : JX1_isSafe_87 n x0 x1 x2 x3 x4 x6 h =
  goAt false (kct (KJX1_isSafe_87 n)) (fun v h => some ((v, h))) (fsX1_isSafe n _) sdX1_isSafe 1000 87 [(0, 5, x0), (1, 0, x1), (2, 0, x2), (3, 0, x3), (4, 0, x4), (6, 0, x6)] [] h := rfl
def KJX1_isSafe_51 (n : Nat) : CT (Int × Hp) := [(92, [(0, 5, none), (1, 0, none), (2, 0, none), (3, 0, none), (4, 0, none), (6, 0, none)], [(0, none)], fun a c h => match a, c with
    | [x0, x1, x2, x3, x4, x6], [z0] => JX1_isSafe_92 n x0 x1 x2 x3 x4 x6 z0 h
    | _, _ => none),
  (87, [(0, 5, none), (1, 0, none), (2, 0, none), (3, 0, none), (4, 0, none), (6, 0, none)], [], fun a c h => match a, c with
    | [x0, x1, x2, x3, x4, x6], [] => JX1_isSafe_87 n x0 x1 x2 x3 x4 x6 h
    | _, _ => none)]
set_option maxRecDepth 100000 in
theorem eJX1_isSafe_51 (n : Nat) (x0 : Int) (x1 : Int) (x2 : Int) (x3 : Int) (x4 : Int) (x5 : Int) (z0 : Int) (z1 : Int) (h : Hp) : JX1_isSafe_51 n x0 x1 x2 x3 x4 x5 z0 z1 h =
  goAt false (kct (KJX1_isSafe_51 n)) (fun v h => some ((v, h))) (fsX1_isSafe n _) sdX1_isSafe 1000 51 [(0, 5, x0), (1, 0, x1), (2, 0, x2), (3, 0, x3), (4, 0, x4), (5, 0, x5)] [(0, z1), (0, z0)] h := rfl
def KMX1_isSafe (n : Nat) : CT (Int × Hp) := [(51, [(0, 5, none), (1, 0, none), (2, 0, none), (3, 0, none), (4, 0, none), (5, 0, none)], [(0, none), (0, none)], fun a c h => match a, c with
    | [x0, x1, x2, x3, x4, x5], [z1, z0] => JX1_isSafe_51 n x0 x1 x2 x3 x4 x5 z0 z1 h
    | _, _ => none)]
set_option maxRecDepth 100000 in
theorem eMX1_isSafe (n : Nat) (x0 : Int) (x1 : Int) (x2 : Int) (x3 : Int) (x4 : Int) (h : Hp) : MX1_isSafe n x0 x1 x2 x3 x4 h =
  goAt false (kct (KMX1_isSafe n)) (fun v h => some ((v, h))) (fsX1_isSafe n _) sdX1_isSafe 1000 0 [(0, 5, x0), (1, 0, x1), (2, 0, x2), (3, 0, x3), (4, 0, x4)] [] h := rfl
theorem okX1_isSafe : mokb (mi 131) = true := by decide +kernel
theorem rkX1_isSafe : rkOK 4 (mi 131).1.2.2.2.2.2.2.1 (mi 131).1.2.2.2.1 := Or.inr (Or.inr (Or.inl ⟨rfl, rfl, rfl⟩))
def calX1_isSafe : List Nat := [129, 119, 130]
theorem foX1_isSafe {l : Launch} {ρ : Type} (n : Nat) : fsOK l false mi calX1_isSafe (fsX1_isSafe n ρ) := ⟨(sndX1_farness n), ⟨sndX10_hasCorner, ⟨(sndX1_brakesBear n), trivial⟩⟩⟩
theorem ok_sdX1_isSafe : sdb (mi 131).1.2.1 (insOK mi (mi 131).1.1.cls (mi 131).1.2.2.1 (mi 131).1.2.2.2.2.1 (mi 131).1.2.2.2.2.2.1 calX1_isSafe false 4) sdX1_isSafe = true := by decide +kernel
theorem sJX1_isSafe_92 {l : Launch} {h0 h' : Hp} {v : Int} (h8 : nOf h0 = 148) (n : Nat) (x0 : Int) (x1 : Int) (x2 : Int) (x3 : Int) (x4 : Int) (x6 : Int) (z0 : Int) (h : Hp) {r : Int × Hp} (H : JX1_isSafe_92 n x0 x1 x2 x3 x4 x6 z0 h = some r) (hG : gWV v h' r) : PAt l false (mi 131).1 h0 v h' 92 [(0, 5, x0), (1, 0, x1), (2, 0, x2), (3, 0, x3), (4, 0, x4), (6, 0, x6)] [(0, z0)] h :=
  pat_w ok_sdX1_isSafe rkX1_isSafe h8 (foX1_isSafe n) (fun v1 h1 q => by
    cases q
    exact ⟨hG.1, fun _ => hG.2⟩) (fun q9 h9 => by cases h9) ((eJX1_isSafe_92 n x0 x1 x2 x3 x4 x6 z0 h).symm.trans H)
theorem sJX1_isSafe_87 {l : Launch} {h0 h' : Hp} {v : Int} (h8 : nOf h0 = 148) (n : Nat) (x0 : Int) (x1 : Int) (x2 : Int) (x3 : Int) (x4 : Int) (x6 : Int) (h : Hp) {r : Int × Hp} (H : JX1_isSafe_87 n x0 x1 x2 x3 x4 x6 h = some r) (hG : gWV v h' r) : PAt l false (mi 131).1 h0 v h' 87 [(0, 5, x0), (1, 0, x1), (2, 0, x2), (3, 0, x3), (4, 0, x4), (6, 0, x6)] [] h :=
  pat_w ok_sdX1_isSafe rkX1_isSafe h8 (foX1_isSafe n) (fun v1 h1 q => by
    cases q
    exact ⟨hG.1, fun _ => hG.2⟩) (List.forall_mem_cons.mpr ⟨(fun a c h H => by
      dsimp only at H
      split at H
      · exact sJX1_isSafe_92 h8 n _ _ _ _ _ _ _ _ H hG
      · cases H), (fun q9 h9 => by cases h9)⟩) ((eJX1_isSafe_87 n x0 x1 x2 x3 x4 x6 h).symm.trans H)
theorem sJX1_isSafe_51 {l : Launch} {h0 h' : Hp} {v : Int} (h8 : nOf h0 = 148) (n : Nat) (x0 : Int) (x1 : Int) (x2 : Int) (x3 : Int) (x4 : Int) (x5 : Int) (z0 : Int) (z1 : Int) (h : Hp) {r : Int × Hp} (H : JX1_isSafe_51 n x0 x1 x2 x3 x4 x5 z0 z1 h = some r) (hG : gWV v h' r) : PAt l false (mi 131).1 h0 v h' 51 [(0, 5, x0), (1, 0, x1), (2, 0, x2), (3, 0, x3), (4, 0, x4), (5, 0, x5)] [(0, z1), (0, z0)] h :=
  pat_w ok_sdX1_isSafe rkX1_isSafe h8 (foX1_isSafe n) (fun v1 h1 q => by
    cases q
    exact ⟨hG.1, fun _ => hG.2⟩) (List.forall_mem_cons.mpr ⟨(fun a c h H => by
      dsimp only at H
      split at H
      · exact sJX1_isSafe_92 h8 n _ _ _ _ _ _ _ _ H hG
      · cases H), (List.forall_mem_cons.mpr ⟨(fun a c h H => by
      dsimp only at H
      split at H
      · exact sJX1_isSafe_87 h8 n _ _ _ _ _ _ _ H hG
      · cases H), (fun q9 h9 => by cases h9)⟩)⟩) ((eJX1_isSafe_51 n x0 x1 x2 x3 x4 x5 z0 z1 h).symm.trans H)
theorem sMX1_isSafe {l : Launch} {h0 h' : Hp} {v : Int} (h8 : nOf h0 = 148) (n : Nat) (x0 : Int) (x1 : Int) (x2 : Int) (x3 : Int) (x4 : Int) (h : Hp) {r : Int × Hp} (H : MX1_isSafe n x0 x1 x2 x3 x4 h = some r) (hG : gWV v h' r) : PAt l false (mi 131).1 h0 v h' 0 [(0, 5, x0), (1, 0, x1), (2, 0, x2), (3, 0, x3), (4, 0, x4)] [] h :=
  pat_w ok_sdX1_isSafe rkX1_isSafe h8 (foX1_isSafe n) (fun v1 h1 q => by
    cases q
    exact ⟨hG.1, fun _ => hG.2⟩) (List.forall_mem_cons.mpr ⟨(fun a c h H => by
      dsimp only at H
      split at H
      · exact sJX1_isSafe_51 h8 n _ _ _ _ _ _ _ _ _ H hG
      · cases H), (fun q9 h9 => by cases h9)⟩) ((eMX1_isSafe n x0 x1 x2 x3 x4 h).symm.trans H)
theorem sndX1_isSafe {ρ : Type} {l : Launch} (n : Nat) : SndF (ρ := ρ) l false (mi 131).1 (wX1_isSafe n) := by
    intro a h k r H ha ho hn hf
    have h8 := hf rfl
    obtain ⟨x0, x1, x2, x3, x4, rfl⟩ := len5 (show a.length = 5 from ha)
    replace H : bnd (MX1_isSafe n x0 x1 x2 x3 x4 h) (fun r h2 => k r h2) = some r := H
    obtain ⟨v2, h2, H1, H2⟩ := bnd_some H
    exact ⟨v2, h2, H2, met_mk (mok_base okX1_isSafe).1 (by decide +kernel) (Nat.le_of_ble_eq_true rfl) ho (sMX1_isSafe h8 n x0 x1 x2 x3 x4 h H1 ⟨rfl, rfl⟩), fun q => by cases q⟩
/-! X1_isFit -/
def sdX1_isFit : SD := [(0, [(0, .aload_n 1, 1, [], 0), (1, .getfield 84, 3, [8, 2, 0, 0, 488, 0], 0), (4, .iload_n 2, 1, [], 0), (5, .iadd, 1, [], 0), (6, .istore_n 3, 1, [], 0), (7, .aload_n 1, 1, [], 0), (8, .getfield 63, 3, [8, 1, 0, 0, 485, 0], 0), (11, .iload_n 3, 1, [], 0), (12, .iadd, 1, [], 0), (13, .istore 4, 2, [], 0), (15, .iload_n 3, 1, [], 0), (16, .aload_n 0, 1, [], 0), (17, .getfield 24, 3, [1, 0, 8, 1, 464, 0], 2), (20, .getfield 32, 3, [4, 3, 0, 0, 436, 0], 0), (23, .if_icmp .gt 13, 3, [], 0)]),
  (26, [(26, .aload_n 0, 1, [], 0), (27, .iload 4, 2, [], 0), (29, .iload_n 3, 1, [], 0), (30, .invokevirtual 100, 3, [1, 0, 1, 126, 1032, 0, 0, 5], 0), (33, .ifCond .ne 5, 3, [], 0)]),
  (36, [(36, .iconst 0, 1, [], 0), (37, .ireturn, 1, [1], 0)]),
  (38, [(38, .aload_n 1, 1, [], 0), (39, .getfield 45, 3, [8, 0, 0, 0, 482, 0], 0), (42, .iload 4, 2, [], 0), (44, .aload_n 0, 1, [], 0), (45, .getfield 24, 3, [1, 0, 8, 1, 464, 0], 2), (48, .getfield 91, 3, [4, 1, 0, 0, 433, 0], 0), (51, .imul, 1, [], 0), (52, .iadd, 1, [], 0), (53, .istore 5, 2, [], 0), (55, .aload_n 0, 1, [], 0), (56, .aload_n 1, 1, [], 0), (57, .getfield 57, 3, [8, 3, 0, 0, 491, 0], 0), (60, .iload 5, 2, [], 0), (62, .iload 4, 2, [], 0), (64, .invokevirtual 104, 3, [1, 1, 1, 127, 1036, 0, 0, 0, 5], 0), (67, .istore 6, 2, [], 0), (69, .iload 6, 2, [], 0), (71, .iconst (-1), 1, [], 0), (72, .if_icmp .eq 21, 3, [], 0)]),
  (75, [(75, .aload_n 0, 1, [], 0), (76, .iload 5, 2, [], 0), (78, .iload 4, 2, [], 0), (80, .iload_n 3, 1, [], 0), (81, .iload 6, 2, [], 0), (83, .invokevirtual 108, 3, [1, 2, 1, 131, 1041, 0, 0, 0, 0, 5], 0), (86, .ifCond .eq 7, 3, [], 0)]),
  (89, [(89, .iconst 1, 1, [], 0), (90, .goto 4, 3, [], 0)]),
  (93, [(93, .iconst 0, 1, [], 0)]),
  (94, [(94, .ireturn, 1, [1], 0)])]
def MX1_isFit (n : Nat) (x0 x1 x2 : Int) (h : Hp) : Option (Int × Hp) :=
(ltt (w32 ((h x1 2) + x2)) fun y1 =>
(ltt (w32 ((h x1 1) + y1)) fun y2 =>
(if (h (x0 + 2) 3) < y1 then
(some (0, h))
else
(bndp (MX1_bears x0 y2 y1 h) fun r1 =>
(if r1 ≠ 0 then
(ltt (w32 ((h x1 0) + (w32 (y2 * (h (x0 + 2) 1))))) fun y3 =>
(bndp (MX1_reached n x0 (h x1 3) y3 y2 h) fun r2 =>
(ltt r2 fun y4 =>
(if y4 = (-1) then
(some (0, h))
else
(bnd (MX1_isSafe n x0 y3 y2 y1 y4 h) fun r3 h1 =>
(if r3 = 0 then
(some (0, h1))
else
(some (1, h1))))))))
else
(some (0, h)))))))
def wX1_isFit {ρ : Type} (n : Nat) : FN ρ := fun a h k => match a with
  | [x0, x1, x2] => bnd (MX1_isFit n x0 x1 x2 h) (fun r h2 => k r h2)
  | _ => none
def fsX1_isFit (n : Nat) (ρ : Type) : List (FN ρ) := [wX1_bears, wX1_reached n, wX1_isSafe n]
def KMX1_isFit (_ : Nat) : CT (Int × Hp) := []
set_option maxRecDepth 100000 in
theorem eMX1_isFit (n : Nat) (x0 : Int) (x1 : Int) (x2 : Int) (h : Hp) : MX1_isFit n x0 x1 x2 h =
  goAt false (kct (KMX1_isFit n)) (fun v h => some ((v, h))) (fsX1_isFit n _) sdX1_isFit 1000 0 [(0, 5, x0), (1, 12, x1), (2, 0, x2)] [] h := rfl
theorem okX1_isFit : mokb (mi 132) = true := by decide +kernel
theorem rkX1_isFit : rkOK 4 (mi 132).1.2.2.2.2.2.2.1 (mi 132).1.2.2.2.1 := Or.inr (Or.inr (Or.inl ⟨rfl, rfl, rfl⟩))
def calX1_isFit : List Nat := [126, 127, 131]
theorem foX1_isFit {l : Launch} {ρ : Type} (n : Nat) : fsOK l false mi calX1_isFit (fsX1_isFit n ρ) := ⟨sndX1_bears, ⟨(sndX1_reached n), ⟨(sndX1_isSafe n), trivial⟩⟩⟩
theorem ok_sdX1_isFit : sdb (mi 132).1.2.1 (insOK mi (mi 132).1.1.cls (mi 132).1.2.2.1 (mi 132).1.2.2.2.2.1 (mi 132).1.2.2.2.2.2.1 calX1_isFit false 4) sdX1_isFit = true := by decide +kernel
theorem sMX1_isFit {l : Launch} {h0 h' : Hp} {v : Int} (h8 : nOf h0 = 148) (n : Nat) (x0 : Int) (x1 : Int) (x2 : Int) (h : Hp) {r : Int × Hp} (H : MX1_isFit n x0 x1 x2 h = some r) (hG : gWV v h' r) : PAt l false (mi 132).1 h0 v h' 0 [(0, 5, x0), (1, 12, x1), (2, 0, x2)] [] h :=
  pat_w ok_sdX1_isFit rkX1_isFit h8 (foX1_isFit n) (fun v1 h1 q => by
    cases q
    exact ⟨hG.1, fun _ => hG.2⟩) (fun q9 h9 => by cases h9) ((eMX1_isFit n x0 x1 x2 h).symm.trans H)
theorem sndX1_isFit {ρ : Type} {l : Launch} (n : Nat) : SndF (ρ := ρ) l false (mi 132).1 (wX1_isFit n) := by
    intro a h k r H ha ho hn hf
    have h8 := hf rfl
    obtain ⟨x0, x1, x2, rfl⟩ := len3 (show a.length = 3 from ha)
    replace H : bnd (MX1_isFit n x0 x1 x2 h) (fun r h2 => k r h2) = some r := H
    obtain ⟨v2, h2, H1, H2⟩ := bnd_some H
    exact ⟨v2, h2, H2, met_mk (mok_base okX1_isFit).1 (by decide +kernel) (Nat.le_of_ble_eq_true rfl) ho (sMX1_isFit h8 n x0 x1 x2 h H1 ⟨rfl, rfl⟩), fun q => by cases q⟩
/-! X1_go -/
def sdX1_go : SD := [(0, [(0, .aload_n 1, 1, [], 0), (1, .dup, 1, [], 0), (2, .getfield 84, 3, [8, 2, 0, 0, 488, 0], 0), (5, .iload_n 2, 1, [], 0), (6, .iadd, 1, [], 0), (7, .putfield 84, 3, [8, 2, 0, 0, 0, 488], 0), (10, .aload_n 1, 1, [], 0), (11, .dup, 1, [], 0), (12, .getfield 63, 3, [8, 1, 0, 0, 485, 0], 0), (15, .aload_n 1, 1, [], 0), (16, .getfield 84, 3, [8, 2, 0, 0, 488, 0], 0), (19, .iadd, 1, [], 0), (20, .putfield 63, 3, [8, 1, 0, 0, 0, 485], 0), (23, .aload_n 1, 1, [], 0), (24, .dup, 1, [], 0), (25, .getfield 45, 3, [8, 0, 0, 0, 482, 0], 0), (28, .aload_n 1, 1, [], 0), (29, .getfield 63, 3, [8, 1, 0, 0, 485, 0], 0), (32, .aload_n 0, 1, [], 0), (33, .getfield 24, 3, [1, 0, 8, 1, 464, 0], 2), (36, .getfield 91, 3, [4, 1, 0, 0, 433, 0], 0), (39, .imul, 1, [], 0), (40, .iadd, 1, [], 0), (41, .putfield 45, 3, [8, 0, 0, 0, 0, 482], 0)]),
  (44, [(44, .aload_n 1, 1, [], 0), (45, .getfield 57, 3, [8, 3, 0, 0, 491, 0], 0), (48, .ifCond .lt 57, 3, [], 0)]),
  (51, [(51, .aload_n 1, 1, [], 0), (52, .getfield 57, 3, [8, 3, 0, 0, 491, 0], 0), (55, .iconst 1, 1, [], 0), (56, .iadd, 1, [], 0), (57, .aload_n 0, 1, [], 0), (58, .getfield 24, 3, [1, 0, 8, 1, 464, 0], 2), (61, .getfield 48, 3, [4, 0, 14, 0, 431, 0], 0), (64, .getfield 94, 3, [10, 11, 0, 0, 205, 0], 0), (67, .if_icmp .ge 38, 3, [], 0)]),
  (70, [(70, .aload_n 1, 1, [], 0), (71, .getfield 45, 3, [8, 0, 0, 0, 482, 0], 0), (74, .aload_n 0, 1, [], 0), (75, .getfield 24, 3, [1, 0, 8, 1, 464, 0], 2), (78, .getfield 48, 3, [4, 0, 14, 0, 431, 0], 0), (81, .getfield 97, 3, [10, 3, 532, 1, 177, 0], 7), (84, .aload_n 1, 1, [], 0), (85, .getfield 57, 3, [8, 3, 0, 0, 491, 0], 0), (88, .iaload, 1, [], 0), (89, .if_icmp .lt 16, 3, [], 0)]),
  (92, [(92, .aload_n 1, 1, [], 0), (93, .dup, 1, [], 0), (94, .getfield 57, 3, [8, 3, 0, 0, 491, 0], 0), (97, .iconst 1, 1, [], 0), (98, .iadd, 1, [], 0), (99, .putfield 57, 3, [8, 3, 0, 0, 0, 491], 0), (102, .goto (-58), 3, [], 0)]),
  (105, [(105, .iload_n 2, 1, [], 0), (106, .ireturn, 1, [], 0)])]
def BX1_go_44 (n : Nat) : Nat → Int → Int → Int → Hp → Option (Int × Hp)
  | 0, _, _, _, _ => none
  | f + 1, x0, x1, x2, h =>
    (if (h x1 3) < 0 then
    (some (x2, h))
    else
    (if (h (h (x0 + 2) 0) 11) ≤ (w32 ((h x1 3) + 1)) then
    (some (x2, h))
    else
    (grd (0 ≤ (h x1 3) ∧ (h x1 3) < alen 532)
    (if (h x1 0) < (h ((h (x0 + 2) 0) + 7) (h x1 3)) then
    (some (x2, h))
    else
    (ltt (up h x1 3 (w32 ((h x1 3) + 1))) fun h1 =>
    (BX1_go_44 n f x0 x1 x2 h1))))))
def LX1_go_44 (n : Nat) (x0 x1 x2 : Int) (h : Hp) : Option (Int × Hp) :=
(BX1_go_44 n n x0 x1 x2 h)
def MX1_go (n : Nat) (x0 x1 x2 : Int) (h : Hp) : Option (Int × Hp) :=
(ltt (up h x1 2 (w32 ((h x1 2) + x2))) fun h1 =>
(ltt (up h1 x1 1 (w32 ((h1 x1 1) + (h1 x1 2)))) fun h2 =>
(ltt (up h2 x1 0 (w32 ((h2 x1 0) + (w32 ((h2 x1 1) * (h2 (x0 + 2) 1)))))) fun h3 =>
(LX1_go_44 n x0 x1 x2 h3))))
def wX1_go {ρ : Type} (n : Nat) : FN ρ := fun a h k => match a with
  | [x0, x1, x2] => bnd (MX1_go n x0 x1 x2 h) (fun r h2 => k r h2)
  | _ => none
def fsX1_go (n : Nat) (ρ : Type) : List (FN ρ) := []
def KBX1_go_44 (_ : Nat) (bk : Int → Int → Int → Hp → Option (Int × Hp)) : CT (Int × Hp) := [(44, [(0, 5, none), (1, 12, none), (2, 0, none)], [], fun a c h => match a, c with
    | [x0, x1, x2], [] => bk x0 x1 x2 h
    | _, _ => none)]
set_option maxRecDepth 100000 in
theorem eBX1_go_44 (n f : Nat) (x0 : Int) (x1 : Int) (x2 : Int) (h : Hp) : BX1_go_44 n (f + 1) x0 x1 x2 h =
  goAt false (kct (KBX1_go_44 n (BX1_go_44 n f))) (fun v h => some ((v, h))) (fsX1_go n _) sdX1_go 1000 44 [(0, 5, x0), (1, 12, x1), (2, 0, x2)] [] h := rfl
def KMX1_go (n : Nat) : CT (Int × Hp) := [(44, [(0, 5, none), (1, 12, none), (2, 0, none)], [], fun a c h => match a, c with
    | [x0, x1, x2], [] => LX1_go_44 n x0 x1 x2 h
    | _, _ => none)]
set_option maxRecDepth 100000 in
theorem eMX1_go (n : Nat) (x0 : Int) (x1 : Int) (x2 : Int) (h : Hp) : MX1_go n x0 x1 x2 h =
  goAt false (kct (KMX1_go n)) (fun v h => some ((v, h))) (fsX1_go n _) sdX1_go 1000 0 [(0, 5, x0), (1, 12, x1), (2, 0, x2)] [] h := rfl
theorem okX1_go : mokb (mi 133) = true := by decide +kernel
theorem rkX1_go : rkOK 1 (mi 133).1.2.2.2.2.2.2.1 (mi 133).1.2.2.2.1 := Or.inr (Or.inl ⟨rfl, rfl, rfl⟩)
def calX1_go : List Nat := []
theorem foX1_go {l : Launch} {ρ : Type} (n : Nat) : fsOK l false mi calX1_go (fsX1_go n ρ) := trivial
theorem ok_sdX1_go : sdb (mi 133).1.2.1 (insOK mi (mi 133).1.1.cls (mi 133).1.2.2.1 (mi 133).1.2.2.2.2.1 (mi 133).1.2.2.2.2.2.1 calX1_go false 1) sdX1_go = true := by decide +kernel
theorem sBX1_go_44 {l : Launch} {h0 h' : Hp} {v : Int} (h8 : nOf h0 = 148) (n : Nat) : ∀ (f : Nat) (x0 : Int) (x1 : Int) (x2 : Int) (h : Hp) {r : Int × Hp}, BX1_go_44 n f x0 x1 x2 h = some r → gWV v h' r → PAt l false (mi 133).1 h0 v h' 44 [(0, 5, x0), (1, 12, x1), (2, 0, x2)] [] h := by
  intro f
  induction f with
  | zero =>
    intro x0 x1 x2 h r H _
    have H2 : (none : Option (Int × Hp)) = some r := H
    cases H2
  | succ f ih =>
    intro x0 x1 x2 h r H hG
    exact pat_w ok_sdX1_go rkX1_go h8 (foX1_go n) (fun v1 h1 q => by
    cases q
    exact ⟨hG.1, fun _ => hG.2⟩) (List.forall_mem_cons.mpr ⟨(fun a c h H => by
      dsimp only at H
      split at H
      · exact ih _ _ _ _ H hG
      · cases H), (fun q9 h9 => by cases h9)⟩) ((eBX1_go_44 n f x0 x1 x2 h).symm.trans H)
theorem sLX1_go_44 {l : Launch} {h0 h' : Hp} {v : Int} (h8 : nOf h0 = 148) (n : Nat) (x0 : Int) (x1 : Int) (x2 : Int) (h : Hp) {r : Int × Hp} (H : LX1_go_44 n x0 x1 x2 h = some r) (hG : gWV v h' r) : PAt l false (mi 133).1 h0 v h' 44 [(0, 5, x0), (1, 12, x1), (2, 0, x2)] [] h :=
  sBX1_go_44 h8 n n x0 x1 x2 h H hG
theorem sMX1_go {l : Launch} {h0 h' : Hp} {v : Int} (h8 : nOf h0 = 148) (n : Nat) (x0 : Int) (x1 : Int) (x2 : Int) (h : Hp) {r : Int × Hp} (H : MX1_go n x0 x1 x2 h = some r) (hG : gWV v h' r) : PAt l false (mi 133).1 h0 v h' 0 [(0, 5, x0), (1, 12, x1), (2, 0, x2)] [] h :=
  pat_w ok_sdX1_go rkX1_go h8 (foX1_go n) (fun v1 h1 q => by
    cases q
    exact ⟨hG.1, fun _ => hG.2⟩) (List.forall_mem_cons.mpr ⟨(fun a c h H => by
      dsimp only at H
      split at H
      · exact sLX1_go_44 h8 n _ _ _ _ H hG
      · cases H), (fun q9 h9 => by cases h9)⟩) ((eMX1_go n x0 x1 x2 h).symm.trans H)
theorem sndX1_go {ρ : Type} {l : Launch} (n : Nat) : SndF (ρ := ρ) l false (mi 133).1 (wX1_go n) := by
    intro a h k r H ha ho hn hf
    have h8 := hf rfl
    obtain ⟨x0, x1, x2, rfl⟩ := len3 (show a.length = 3 from ha)
    replace H : bnd (MX1_go n x0 x1 x2 h) (fun r h2 => k r h2) = some r := H
    obtain ⟨v2, h2, H1, H2⟩ := bnd_some H
    exact ⟨v2, h2, H2, met_mk (mok_base okX1_go).1 (by decide +kernel) (Nat.le_of_ble_eq_true rfl) ho (sMX1_go h8 n x0 x1 x2 h H1 ⟨rfl, rfl⟩), fun q => by cases q⟩
/-! X1_creep -/
def sdX1_creep : SD := [(0, [(0, .aload_n 0, 1, [], 0), (1, .getfield 24, 3, [1, 0, 8, 1, 464, 0], 2), (4, .getfield 48, 3, [4, 0, 14, 0, 431, 0], 0), (7, .getfield 52, 3, [10, 14, 0, 0, 214, 0], 0), (10, .aload_n 1, 1, [], 0), (11, .getfield 45, 3, [8, 0, 0, 0, 482, 0], 0), (14, .isub, 1, [], 0), (15, .iconst 2, 1, [], 0), (16, .aload_n 0, 1, [], 0), (17, .getfield 24, 3, [1, 0, 8, 1, 464, 0], 2), (20, .getfield 91, 3, [4, 1, 0, 0, 433, 0], 0), (23, .imul, 1, [], 0), (24, .if_icmp .ge 33, 3, [], 0)]),
  (27, [(27, .aload_n 1, 1, [], 0), (28, .aload_n 0, 1, [], 0), (29, .getfield 24, 3, [1, 0, 8, 1, 464, 0], 2), (32, .getfield 48, 3, [4, 0, 14, 0, 431, 0], 0), (35, .getfield 52, 3, [10, 14, 0, 0, 214, 0], 0), (38, .putfield 45, 3, [8, 0, 0, 0, 0, 482], 0), (41, .aload_n 1, 1, [], 0), (42, .aload_n 0, 1, [], 0), (43, .getfield 24, 3, [1, 0, 8, 1, 464, 0], 2), (46, .getfield 48, 3, [4, 0, 14, 0, 431, 0], 0), (49, .getfield 94, 3, [10, 11, 0, 0, 205, 0], 0), (52, .iconst 1, 1, [], 0), (53, .isub, 1, [], 0), (54, .putfield 57, 3, [8, 3, 0, 0, 0, 491], 0)]),
  (57, [(57, .return_, 1, [], 0)])]
def MX1_creep (x0 x1 : Int) (h : Hp) : Option (Hp) :=
(if (w32 (2 * (h (x0 + 2) 1))) ≤ (w32 ((h (h (x0 + 2) 0) 14) - (h x1 0))) then
(some h)
else
(ltt (up h x1 0 (h (h (x0 + 2) 0) 14)) fun h1 =>
(ltt (up h1 x1 3 (w32 ((h1 (h1 (x0 + 2) 0) 11) - 1))) fun h2 =>
(some h2))))
def wX1_creep {ρ : Type} : FN ρ := fun a h k => match a with
  | [x0, x1] => bndh (MX1_creep x0 x1 h) (fun h2 => k 0 h2)
  | _ => none
def fsX1_creep (ρ : Type) : List (FN ρ) := []
def KMX1_creep  : CT (Hp) := []
set_option maxRecDepth 100000 in
theorem eMX1_creep (x0 : Int) (x1 : Int) (h : Hp) : MX1_creep x0 x1 h =
  goAt false (kct (KMX1_creep)) (fun _ h => some (h)) (fsX1_creep _) sdX1_creep 1000 0 [(0, 5, x0), (1, 12, x1)] [] h := rfl
theorem okX1_creep : mokb (mi 134) = true := by decide +kernel
theorem rkX1_creep : rkOK 0 (mi 134).1.2.2.2.2.2.2.1 (mi 134).1.2.2.2.1 := Or.inl ⟨rfl, rfl, rfl⟩
def calX1_creep : List Nat := []
theorem foX1_creep {l : Launch} {ρ : Type} : fsOK l false mi calX1_creep (fsX1_creep ρ) := trivial
theorem ok_sdX1_creep : sdb (mi 134).1.2.1 (insOK mi (mi 134).1.1.cls (mi 134).1.2.2.1 (mi 134).1.2.2.2.2.1 (mi 134).1.2.2.2.2.2.1 calX1_creep false 0) sdX1_creep = true := by decide +kernel
theorem sMX1_creep {l : Launch} {h0 h' : Hp} {v : Int} (h8 : nOf h0 = 148)  (x0 : Int) (x1 : Int) (h : Hp) {r : Hp} (H : MX1_creep x0 x1 h = some r) (hG : gW h' r) : PAt l false (mi 134).1 h0 v h' 0 [(0, 5, x0), (1, 12, x1)] [] h :=
  pat_w ok_sdX1_creep rkX1_creep h8 (foX1_creep) (fun v1 h1 q => by
    cases q
    exact ⟨hG, fun q9 => absurd rfl q9⟩) (fun q9 h9 => by cases h9) ((eMX1_creep x0 x1 h).symm.trans H)
theorem sndX1_creep {ρ : Type} {l : Launch} : SndF (ρ := ρ) l false (mi 134).1 (wX1_creep) := by
    intro a h k r H ha ho hn hf
    have h8 := hf rfl
    obtain ⟨x0, x1, rfl⟩ := len2 (show a.length = 2 from ha)
    replace H : bndh (MX1_creep x0 x1 h) (fun h2 => k 0 h2) = some r := H
    obtain ⟨h2, H1, H2⟩ := bndh_some H
    exact ⟨0, h2, H2, met_mk (mok_base okX1_creep).1 (by decide +kernel) (Nat.le_of_ble_eq_true rfl) ho (sMX1_creep h8 x0 x1 h H1 rfl), fun q => by cases q⟩
/-! X1_tick -/
def sdX1_tick : SD := [(0, [(0, .aload_n 1, 1, [], 0), (1, .invokevirtual 39, 3, [1, 0, 1, 122, 1011, 12], 0), (4, .istore_n 2, 1, [], 0), (5, .iload_n 2, 1, [], 0), (6, .ifCond .eq 29, 3, [], 0)]),
  (9, [(9, .aload_n 1, 1, [], 0), (10, .getfield 68, 3, [8, 5, 0, 0, 496, 0], 0), (13, .ifCond .ne 20, 3, [], 0)]),
  (16, [(16, .aload_n 1, 1, [], 0), (17, .getfield 45, 3, [8, 0, 0, 0, 482, 0], 0), (20, .aload_n 0, 1, [], 0), (21, .getfield 24, 3, [1, 0, 8, 1, 464, 0], 2), (24, .getfield 48, 3, [4, 0, 14, 0, 431, 0], 0), (27, .getfield 52, 3, [10, 14, 0, 0, 214, 0], 0), (30, .if_icmp .lt 5, 3, [], 0)]),
  (33, [(33, .iconst 0, 1, [], 0), (34, .ireturn, 1, [], 0)]),
  (35, [(35, .aload_n 1, 1, [], 0), (36, .getfield 68, 3, [8, 5, 0, 0, 496, 0], 0), (39, .ifCond .eq 7, 3, [], 0)]),
  (42, [(42, .iconst 2, 1, [], 0), (43, .goto 12, 3, [], 0)]),
  (46, [(46, .iload_n 2, 1, [], 0), (47, .ifCond .eq 7, 3, [], 0)]),
  (50, [(50, .iconst 1, 1, [], 0), (51, .goto 4, 3, [], 0)]),
  (54, [(54, .iconst (-1), 1, [], 0)]),
  (55, [(55, .istore_n 3, 1, [], 0), (56, .iconst 1, 1, [], 0), (57, .istore 4, 2, [], 0)]),
  (59, [(59, .iload 4, 2, [], 0), (61, .iload_n 3, 1, [], 0), (62, .if_icmp .lt 27, 3, [], 0)]),
  (65, [(65, .aload_n 0, 1, [], 0), (66, .aload_n 1, 1, [], 0), (67, .iload 4, 2, [], 0), (69, .invokevirtual 72, 3, [1, 1, 1, 132, 1028, 0, 12, 5], 0), (72, .ifCond .eq 11, 3, [], 0)]),
  (75, [(75, .aload_n 0, 1, [], 0), (76, .aload_n 1, 1, [], 0), (77, .iload 4, 2, [], 0), (79, .invokevirtual 76, 3, [1, 2, 1, 133, 1058, 0, 12, 5], 0), (82, .ireturn, 1, [], 0)]),
  (83, [(83, .iinc 4 (-1), 3, [], 0), (86, .goto (-27), 3, [], 0)]),
  (89, [(89, .iload_n 2, 1, [], 0), (90, .ifCond .eq 10, 3, [], 0)]),
  (93, [(93, .aload_n 0, 1, [], 0), (94, .aload_n 1, 1, [], 0), (95, .invokevirtual 80, 3, [0, 3, 1, 134, 1062, 12, 5], 0), (98, .iconst 0, 1, [], 0), (99, .ireturn, 1, [], 0)]),
  (100, [(100, .aload_n 0, 1, [], 0), (101, .aload_n 1, 1, [], 0), (102, .aload_n 0, 1, [], 0), (103, .aload_n 1, 1, [], 0), (104, .getfield 63, 3, [8, 1, 0, 0, 485, 0], 0), (107, .aload_n 1, 1, [], 0), (108, .getfield 84, 3, [8, 2, 0, 0, 488, 0], 0), (111, .invokevirtual 87, 3, [1, 4, 1, 128, 1049, 0, 0, 5], 0), (114, .invokevirtual 76, 3, [1, 2, 1, 133, 1058, 0, 12, 5], 0), (117, .ireturn, 1, [], 0)])]
def BX1_tick_59 (n : Nat) : Nat → Int → Int → Int → Int → Int → Hp → Option ((Int × Int × Int × Hp) ⊕ (Int × Hp))
  | 0, _, _, _, _, _, _ => none
  | f + 1, x0, x1, x2, x3, x4, h =>
    (if x4 < x3 then
    (some (.inl (x0, x1, x2, h)))
    else
    (bnd (MX1_isFit n x0 x1 x4 h) fun r1 h1 =>
    (if r1 = 0 then
    (ltt (w32 (x4 + (-1))) fun y1 =>
    (BX1_tick_59 n f x0 x1 x2 x3 y1 h1))
    else
    (bnd (MX1_go n x0 x1 x4 h1) fun r2 h2 =>
    (some (.inr (r2, h2)))))))
def JX1_tick_89 (n : Nat) (x0 x1 x2 : Int) (h : Hp) : Option (Int × Hp) :=
(if x2 = 0 then
(bndp (MX1_brake x0 (h x1 1) (h x1 2) h) fun r1 =>
(bnd (MX1_go n x0 x1 r1 h) fun r2 h1 =>
(some (r2, h1))))
else
(bndh (MX1_creep x0 x1 h) fun h2 =>
(some (0, h2))))
def LX1_tick_59 (n : Nat) (x0 x1 x2 x3 x4 : Int) (h : Hp) : Option (Int × Hp) :=
(bnds (BX1_tick_59 n n x0 x1 x2 x3 x4 h) (fun (e0, e1, e2, h1) =>
(JX1_tick_89 n e0 e1 e2 h1)) (fun e => some e))
def JX1_tick_55 (n : Nat) (x0 x1 x2 z0 : Int) (h : Hp) : Option (Int × Hp) :=
(ltt z0 fun y1 =>
(ltt 1 fun y2 =>
(LX1_tick_59 n x0 x1 x2 y1 y2 h)))
def JX1_tick_35 (n : Nat) (x0 x1 x2 : Int) (h : Hp) : Option (Int × Hp) :=
(if (h x1 5) = 0 then
(if x2 = 0 then
(JX1_tick_55 n x0 x1 x2 (-1) h)
else
(JX1_tick_55 n x0 x1 x2 1 h))
else
(JX1_tick_55 n x0 x1 x2 2 h))
def MX1_tick (n : Nat) (x0 x1 : Int) (h : Hp) : Option (Int × Hp) :=
(bndp (MX8_rests x1 h) fun r1 =>
(ltt r1 fun y1 =>
(if y1 = 0 then
(JX1_tick_35 n x0 x1 y1 h)
else
(if (h x1 5) ≠ 0 then
(some (0, h))
else
(if (h x1 0) < (h (h (x0 + 2) 0) 14) then
(JX1_tick_35 n x0 x1 y1 h)
else
(some (0, h)))))))
def wX1_tick {ρ : Type} (n : Nat) : FN ρ := fun a h k => match a with
  | [x0, x1] => bnd (MX1_tick n x0 x1 h) (fun r h2 => k r h2)
  | _ => none
def fsX1_tick (n : Nat) (ρ : Type) : List (FN ρ) := [wX8_rests, wX1_isFit n, wX1_go n, wX1_creep, wX1_brake]
def KBX1_tick_59 (_ : Nat) (bk : Int → Int → Int → Int → Int → Hp → Option ((Int × Int × Int × Hp) ⊕ (Int × Hp))) : CT ((Int × Int × Int × Hp) ⊕ (Int × Hp)) := [(59, [(0, 5, none), (1, 12, none), (2, 0, none), (3, 0, none), (4, 0, none)], [], fun a c h => match a, c with
    | [x0, x1, x2, x3, x4], [] => bk x0 x1 x2 x3 x4 h
    | _, _ => none),
  (89, [(0, 5, none), (1, 12, none), (2, 0, none)], [], fun a c h => match a, c with
    | [x0, x1, x2], [] => some (.inl (x0, x1, x2, h))
    | _, _ => none)]
set_option maxRecDepth 100000 in
theorem eBX1_tick_59 (n f : Nat) (x0 : Int) (x1 : Int) (x2 : Int) (x3 : Int) (x4 : Int) (h : Hp) : BX1_tick_59 n (f + 1) x0 x1 x2 x3 x4 h =
  goAt false (kct (KBX1_tick_59 n (BX1_tick_59 n f))) (fun v h => some (.inr (v, h))) (fsX1_tick n _) sdX1_tick 1000 59 [(0, 5, x0), (1, 12, x1), (2, 0, x2), (3, 0, x3), (4, 0, x4)] [] h := rfl
def KJX1_tick_89 (_ : Nat) : CT (Int × Hp) := []
set_option maxRecDepth 100000 in
theorem eJX1_tick_89 (n : Nat) (x0 : Int) (x1 : Int) (x2 : Int) (h : Hp) : JX1_tick_89 n x0 x1 x2 h =
  goAt false (kct (KJX1_tick_89 n)) (fun v h => some ((v, h))) (fsX1_tick n _) sdX1_tick 1000 89 [(0, 5, x0), (1, 12, x1), (2, 0, x2)] [] h := rfl
def KJX1_tick_55 (n : Nat) : CT (Int × Hp) := [(59, [(0, 5, none), (1, 12, none), (2, 0, none), (3, 0, none), (4, 0, none)], [], fun a c h => match a, c with
    | [x0, x1, x2, x3, x4], [] => LX1_tick_59 n x0 x1 x2 x3 x4 h
    | _, _ => none)]
set_option maxRecDepth 100000 in
theorem eJX1_tick_55 (n : Nat) (x0 : Int) (x1 : Int) (x2 : Int) (z0 : Int) (h : Hp) : JX1_tick_55 n x0 x1 x2 z0 h =
  goAt false (kct (KJX1_tick_55 n)) (fun v h => some ((v, h))) (fsX1_tick n _) sdX1_tick 1000 55 [(0, 5, x0), (1, 12, x1), (2, 0, x2)] [(0, z0)] h := rfl
def KJX1_tick_35 (n : Nat) : CT (Int × Hp) := [(55, [(0, 5, none), (1, 12, none), (2, 0, none)], [(0, none)], fun a c h => match a, c with
    | [x0, x1, x2], [z0] => JX1_tick_55 n x0 x1 x2 z0 h
    | _, _ => none)]
set_option maxRecDepth 100000 in
theorem eJX1_tick_35 (n : Nat) (x0 : Int) (x1 : Int) (x2 : Int) (h : Hp) : JX1_tick_35 n x0 x1 x2 h =
  goAt false (kct (KJX1_tick_35 n)) (fun v h => some ((v, h))) (fsX1_tick n _) sdX1_tick 1000 35 [(0, 5, x0), (1, 12, x1), (2, 0, x2)] [] h := rfl
def KMX1_tick (n : Nat) : CT (Int × Hp) := [(35, [(0, 5, none), (1, 12, none), (2, 0, none)], [], fun a c h => match a, c with
    | [x0, x1, x2], [] => JX1_tick_35 n x0 x1 x2 h
    | _, _ => none)]
set_option maxRecDepth 100000 in
theorem eMX1_tick (n : Nat) (x0 : Int) (x1 : Int) (h : Hp) : MX1_tick n x0 x1 h =
  goAt false (kct (KMX1_tick n)) (fun v h => some ((v, h))) (fsX1_tick n _) sdX1_tick 1000 0 [(0, 5, x0), (1, 12, x1)] [] h := rfl
theorem okX1_tick : mokb (mi 135) = true := by decide +kernel
theorem rkX1_tick : rkOK 1 (mi 135).1.2.2.2.2.2.2.1 (mi 135).1.2.2.2.1 := Or.inr (Or.inl ⟨rfl, rfl, rfl⟩)
def calX1_tick : List Nat := [122, 132, 133, 134, 128]
theorem foX1_tick {l : Launch} {ρ : Type} (n : Nat) : fsOK l false mi calX1_tick (fsX1_tick n ρ) := ⟨sndX8_rests, ⟨(sndX1_isFit n), ⟨(sndX1_go n), ⟨sndX1_creep, ⟨sndX1_brake, trivial⟩⟩⟩⟩⟩
theorem ok_sdX1_tick : sdb (mi 135).1.2.1 (insOK mi (mi 135).1.1.cls (mi 135).1.2.2.1 (mi 135).1.2.2.2.2.1 (mi 135).1.2.2.2.2.2.1 calX1_tick false 1) sdX1_tick = true := by decide +kernel
def GX1_tick_59 (l : Launch) (h0 : Hp) (h' : Hp) (v : Int) (_ : Hp) : ((Int × Int × Int × Hp) ⊕ (Int × Hp)) → Prop
  | .inl (e0, e1, e2, h1) => PAt l false (mi 135).1 h0 v h' 89 [(0, 5, e0), (1, 12, e1), (2, 0, e2)] [] h1
  | .inr x => gWV v h' x
theorem sBX1_tick_59 {l : Launch} {h0 h' : Hp} {v : Int} (h8 : nOf h0 = 148) (n : Nat) : ∀ (f : Nat) (x0 : Int) (x1 : Int) (x2 : Int) (x3 : Int) (x4 : Int) (h : Hp) {r : (Int × Int × Int × Hp) ⊕ (Int × Hp)}, BX1_tick_59 n f x0 x1 x2 x3 x4 h = some r → GX1_tick_59 l h0 h' v h r → PAt l false (mi 135).1 h0 v h' 59 [(0, 5, x0), (1, 12, x1), (2, 0, x2), (3, 0, x3), (4, 0, x4)] [] h := by
  intro f
  induction f with
  | zero =>
    intro x0 x1 x2 x3 x4 h r H _
    have H2 : (none : Option ((Int × Int × Int × Hp) ⊕ (Int × Hp))) = some r := H
    cases H2
  | succ f ih =>
    intro x0 x1 x2 x3 x4 h r H hG
    exact pat_w ok_sdX1_tick rkX1_tick h8 (foX1_tick n) (fun v1 h1 q => by
    cases q
    exact ⟨hG.1, fun _ => hG.2⟩) (List.forall_mem_cons.mpr ⟨(fun a c h H => by
      dsimp only at H
      split at H
      · exact ih _ _ _ _ _ _ H hG
      · cases H), (List.forall_mem_cons.mpr ⟨(fun a c h H => by
      dsimp only at H
      split at H
      · cases H
        exact hG
      · cases H), (fun q9 h9 => by cases h9)⟩)⟩) ((eBX1_tick_59 n f x0 x1 x2 x3 x4 h).symm.trans H)
theorem sJX1_tick_89 {l : Launch} {h0 h' : Hp} {v : Int} (h8 : nOf h0 = 148) (n : Nat) (x0 : Int) (x1 : Int) (x2 : Int) (h : Hp) {r : Int × Hp} (H : JX1_tick_89 n x0 x1 x2 h = some r) (hG : gWV v h' r) : PAt l false (mi 135).1 h0 v h' 89 [(0, 5, x0), (1, 12, x1), (2, 0, x2)] [] h :=
  pat_w ok_sdX1_tick rkX1_tick h8 (foX1_tick n) (fun v1 h1 q => by
    cases q
    exact ⟨hG.1, fun _ => hG.2⟩) (fun q9 h9 => by cases h9) ((eJX1_tick_89 n x0 x1 x2 h).symm.trans H)
theorem sLX1_tick_59 {l : Launch} {h0 h' : Hp} {v : Int} (h8 : nOf h0 = 148) (n : Nat) (x0 : Int) (x1 : Int) (x2 : Int) (x3 : Int) (x4 : Int) (h : Hp) {r : Int × Hp} (H : LX1_tick_59 n x0 x1 x2 x3 x4 h = some r) (hG : gWV v h' r) : PAt l false (mi 135).1 h0 v h' 59 [(0, 5, x0), (1, 12, x1), (2, 0, x2), (3, 0, x3), (4, 0, x4)] [] h := by
  rcases bnds_some H with ⟨e9, h2, h3⟩ | ⟨e8, h2, h3⟩
  · obtain ⟨e0, e1, e2, h1⟩ := e9
    exact sBX1_tick_59 h8 n n x0 x1 x2 x3 x4 h h2 (sJX1_tick_89 h8 n e0 e1 e2 h1 h3 hG)
  · cases h3
    exact sBX1_tick_59 h8 n n x0 x1 x2 x3 x4 h h2 hG
theorem sJX1_tick_55 {l : Launch} {h0 h' : Hp} {v : Int} (h8 : nOf h0 = 148) (n : Nat) (x0 : Int) (x1 : Int) (x2 : Int) (z0 : Int) (h : Hp) {r : Int × Hp} (H : JX1_tick_55 n x0 x1 x2 z0 h = some r) (hG : gWV v h' r) : PAt l false (mi 135).1 h0 v h' 55 [(0, 5, x0), (1, 12, x1), (2, 0, x2)] [(0, z0)] h :=
  pat_w ok_sdX1_tick rkX1_tick h8 (foX1_tick n) (fun v1 h1 q => by
    cases q
    exact ⟨hG.1, fun _ => hG.2⟩) (List.forall_mem_cons.mpr ⟨(fun a c h H => by
      dsimp only at H
      split at H
      · exact sLX1_tick_59 h8 n _ _ _ _ _ _ H hG
      · cases H), (fun q9 h9 => by cases h9)⟩) ((eJX1_tick_55 n x0 x1 x2 z0 h).symm.trans H)
theorem sJX1_tick_35 {l : Launch} {h0 h' : Hp} {v : Int} (h8 : nOf h0 = 148) (n : Nat) (x0 : Int) (x1 : Int) (x2 : Int) (h : Hp) {r : Int × Hp} (H : JX1_tick_35 n x0 x1 x2 h = some r) (hG : gWV v h' r) : PAt l false (mi 135).1 h0 v h' 35 [(0, 5, x0), (1, 12, x1), (2, 0, x2)] [] h :=
  pat_w ok_sdX1_tick rkX1_tick h8 (foX1_tick n) (fun v1 h1 q => by
    cases q
    exact ⟨hG.1, fun _ => hG.2⟩) (List.forall_mem_cons.mpr ⟨(fun a c h H => by
      dsimp only at H
      split at H
      · exact sJX1_tick_55 h8 n _ _ _ _ _ H hG
      · cases H), (fun q9 h9 => by cases h9)⟩) ((eJX1_tick_35 n x0 x1 x2 h).symm.trans H)
theorem sMX1_tick {l : Launch} {h0 h' : Hp} {v : Int} (h8 : nOf h0 = 148) (n : Nat) (x0 : Int) (x1 : Int) (h : Hp) {r : Int × Hp} (H : MX1_tick n x0 x1 h = some r) (hG : gWV v h' r) : PAt l false (mi 135).1 h0 v h' 0 [(0, 5, x0), (1, 12, x1)] [] h :=
  pat_w ok_sdX1_tick rkX1_tick h8 (foX1_tick n) (fun v1 h1 q => by
    cases q
    exact ⟨hG.1, fun _ => hG.2⟩) (List.forall_mem_cons.mpr ⟨(fun a c h H => by
      dsimp only at H
      split at H
      · exact sJX1_tick_35 h8 n _ _ _ _ H hG
      · cases H), (fun q9 h9 => by cases h9)⟩) ((eMX1_tick n x0 x1 h).symm.trans H)
theorem sndX1_tick {ρ : Type} {l : Launch} (n : Nat) : SndF (ρ := ρ) l false (mi 135).1 (wX1_tick n) := by
    intro a h k r H ha ho hn hf
    have h8 := hf rfl
    obtain ⟨x0, x1, rfl⟩ := len2 (show a.length = 2 from ha)
    replace H : bnd (MX1_tick n x0 x1 h) (fun r h2 => k r h2) = some r := H
    obtain ⟨v2, h2, H1, H2⟩ := bnd_some H
    exact ⟨v2, h2, H2, met_mk (mok_base okX1_tick).1 (by decide +kernel) (Nat.le_of_ble_eq_true rfl) ho (sMX1_tick h8 n x0 x1 h H1 ⟨rfl, rfl⟩), fun q => by cases q⟩
/-! X11_ticks -/
def sdX11_ticks : SD := [(0, [(0, .iload_n 1, 1, [], 0), (1, .iconst 1, 1, [], 0), (2, .if_icmp .lt 9, 3, [], 0)]),
  (5, [(5, .iload_n 1, 1, [], 0), (6, .bipush 60, 2, [], 0), (8, .if_icmp .le 5, 3, [], 0)]),
  (11, [(11, .iconst (-1), 1, [], 0), (12, .ireturn, 1, [], 0)]),
  (13, [(13, .aload_n 0, 1, [], 0), (14, .getfield 47, 3, [11, 5, 5, 1, 695, 0], 50), (17, .aload_n 0, 1, [], 0), (18, .getfield 57, 3, [11, 7, 12, 1, 697, 0], 64), (21, .invokevirtual 188, 3, [1, 0, 1, 123, 1007, 12, 5], 0), (24, .ifCond .eq 6, 3, [], 0)]),
  (27, [(27, .bipush (-2), 2, [], 0), (29, .ireturn, 1, [], 0)]),
  (30, [(30, .iconst 0, 1, [], 0), (31, .istore_n 2, 1, [], 0)]),
  (32, [(32, .iload_n 2, 1, [], 0), (33, .iload_n 1, 1, [], 0), (34, .if_icmp .ge 59, 3, [], 0)]),
  (37, [(37, .aload_n 0, 1, [], 0), (38, .getfield 47, 3, [11, 5, 5, 1, 695, 0], 50), (41, .aload_n 0, 1, [], 0), (42, .getfield 57, 3, [11, 7, 12, 1, 697, 0], 64), (45, .invokevirtual 188, 3, [1, 0, 1, 123, 1007, 12, 5], 0), (48, .ifCond .ne 45, 3, [], 0)]),
  (51, [(51, .aload_n 0, 1, [], 0), (52, .getfield 67, 3, [11, 9, 9, 1, 699, 0], 66), (55, .aload_n 0, 1, [], 0), (56, .getfield 57, 3, [11, 7, 12, 1, 697, 0], 64), (59, .invokevirtual 192, 3, [0, 1, 1, 125, 1015, 12, 9], 0), (62, .aload_n 0, 1, [], 0), (63, .getfield 47, 3, [11, 5, 5, 1, 695, 0], 50), (66, .aload_n 0, 1, [], 0), (67, .getfield 57, 3, [11, 7, 12, 1, 697, 0], 64), (70, .invokevirtual 196, 3, [1, 2, 1, 135, 1024, 12, 5], 0), (73, .pop, 1, [], 0), (74, .aload_n 0, 1, [], 0), (75, .getfield 57, 3, [11, 7, 12, 1, 697, 0], 64), (78, .dup, 1, [], 0), (79, .getfield 136, 3, [8, 6, 0, 0, 499, 0], 0), (82, .iconst 1, 1, [], 0), (83, .iadd, 1, [], 0), (84, .putfield 136, 3, [8, 6, 0, 0, 0, 499], 0), (87, .iinc 2 1, 3, [], 0), (90, .goto (-58), 3, [], 0)]),
  (93, [(93, .aload_n 0, 1, [], 0), (94, .getfield 57, 3, [11, 7, 12, 1, 697, 0], 64), (97, .getfield 200, 3, [8, 0, 0, 0, 483, 0], 0), (100, .ireturn, 1, [], 0)])]
def BX11_ticks_32 (n : Nat) : Nat → Int → Int → Hp → Option (Int × Hp)
  | 0, _, _, _ => none
  | f + 1, x1, x2, h =>
    (if x1 ≤ x2 then
    (some ((h 64 0), h))
    else
    (bndp (MX1_isDone 50 64 h) fun r1 =>
    (if r1 ≠ 0 then
    (some ((h 64 0), h))
    else
    (bndh (MX5_note 64 h) fun h1 =>
    (bnd (MX1_tick n 50 64 h1) fun r2 h2 =>
    (ltt (up h2 64 6 (w32 ((h2 64 6) + 1))) fun h3 =>
    (ltt (w32 (x2 + 1)) fun y1 =>
    (BX11_ticks_32 n f x1 y1 h3))))))))
def LX11_ticks_32 (n : Nat) (x1 x2 : Int) (h : Hp) : Option (Int × Hp) :=
(BX11_ticks_32 n n x1 x2 h)
def MX11_ticks (n : Nat) (x1 : Int) (h : Hp) : Option (Int × Hp) :=
(if x1 < 1 then
(some ((-1), h))
else
(if x1 ≤ 60 then
(bndp (MX1_isDone 50 64 h) fun r1 =>
(if r1 = 0 then
(ltt 0 fun y1 =>
(LX11_ticks_32 n x1 y1 h))
else
(some ((-2), h))))
else
(some ((-1), h))))
def wX11_ticks {ρ : Type} (n : Nat) : FN ρ := fun a h k => match a with
  | [_, x1] => bnd (MX11_ticks n x1 h) (fun r h2 => k r h2)
  | _ => none
def fsX11_ticks (n : Nat) (ρ : Type) : List (FN ρ) := [wX1_isDone, wX5_note, wX1_tick n]
def KBX11_ticks_32 (_ : Nat) (bk : Int → Int → Hp → Option (Int × Hp)) : CT (Int × Hp) := [(32, [(0, 15, (some 0)), (1, 0, none), (2, 0, none)], [], fun a c h => match a, c with
    | [x1, x2], [] => bk x1 x2 h
    | _, _ => none)]
set_option maxRecDepth 100000 in
theorem eBX11_ticks_32 (n f : Nat) (x1 : Int) (x2 : Int) (h : Hp) : BX11_ticks_32 n (f + 1) x1 x2 h =
  goAt false (kct (KBX11_ticks_32 n (BX11_ticks_32 n f))) (fun v h => some ((v, h))) (fsX11_ticks n _) sdX11_ticks 1000 32 [(0, 15, 0), (1, 0, x1), (2, 0, x2)] [] h := rfl
def KMX11_ticks (n : Nat) : CT (Int × Hp) := [(32, [(0, 15, (some 0)), (1, 0, none), (2, 0, none)], [], fun a c h => match a, c with
    | [x1, x2], [] => LX11_ticks_32 n x1 x2 h
    | _, _ => none)]
set_option maxRecDepth 100000 in
theorem eMX11_ticks (n : Nat) (x1 : Int) (h : Hp) : MX11_ticks n x1 h =
  goAt false (kct (KMX11_ticks n)) (fun v h => some ((v, h))) (fsX11_ticks n _) sdX11_ticks 1000 0 [(0, 15, 0), (1, 0, x1)] [] h := rfl
theorem okX11_ticks : mokb (mi 136) = true := by decide +kernel
theorem rkX11_ticks : rkOK 1 (mi 136).1.2.2.2.2.2.2.1 (mi 136).1.2.2.2.1 := Or.inr (Or.inl ⟨rfl, rfl, rfl⟩)
def calX11_ticks : List Nat := [123, 125, 135]
theorem foX11_ticks {l : Launch} {ρ : Type} (n : Nat) : fsOK l false mi calX11_ticks (fsX11_ticks n ρ) := ⟨sndX1_isDone, ⟨sndX5_note, ⟨(sndX1_tick n), trivial⟩⟩⟩
theorem ok_sdX11_ticks : sdb (mi 136).1.2.1 (insOK mi (mi 136).1.1.cls (mi 136).1.2.2.1 (mi 136).1.2.2.2.2.1 (mi 136).1.2.2.2.2.2.1 calX11_ticks false 1) sdX11_ticks = true := by decide +kernel
theorem sBX11_ticks_32 {l : Launch} {h0 h' : Hp} {v : Int} (h8 : nOf h0 = 148) (n : Nat) : ∀ (f : Nat) (x1 : Int) (x2 : Int) (h : Hp) {r : Int × Hp}, BX11_ticks_32 n f x1 x2 h = some r → gWV v h' r → PAt l false (mi 136).1 h0 v h' 32 [(0, 15, 0), (1, 0, x1), (2, 0, x2)] [] h := by
  intro f
  induction f with
  | zero =>
    intro x1 x2 h r H _
    have H2 : (none : Option (Int × Hp)) = some r := H
    cases H2
  | succ f ih =>
    intro x1 x2 h r H hG
    exact pat_w ok_sdX11_ticks rkX11_ticks h8 (foX11_ticks n) (fun v1 h1 q => by
    cases q
    exact ⟨hG.1, fun _ => hG.2⟩) (List.forall_mem_cons.mpr ⟨(fun a c h H => by
      dsimp only at H
      split at H
      · exact ih _ _ _ H hG
      · cases H), (fun q9 h9 => by cases h9)⟩) ((eBX11_ticks_32 n f x1 x2 h).symm.trans H)
theorem sLX11_ticks_32 {l : Launch} {h0 h' : Hp} {v : Int} (h8 : nOf h0 = 148) (n : Nat) (x1 : Int) (x2 : Int) (h : Hp) {r : Int × Hp} (H : LX11_ticks_32 n x1 x2 h = some r) (hG : gWV v h' r) : PAt l false (mi 136).1 h0 v h' 32 [(0, 15, 0), (1, 0, x1), (2, 0, x2)] [] h :=
  sBX11_ticks_32 h8 n n x1 x2 h H hG
theorem sMX11_ticks {l : Launch} {h0 h' : Hp} {v : Int} (h8 : nOf h0 = 148) (n : Nat) (x1 : Int) (h : Hp) {r : Int × Hp} (H : MX11_ticks n x1 h = some r) (hG : gWV v h' r) : PAt l false (mi 136).1 h0 v h' 0 [(0, 15, 0), (1, 0, x1)] [] h :=
  pat_w ok_sdX11_ticks rkX11_ticks h8 (foX11_ticks n) (fun v1 h1 q => by
    cases q
    exact ⟨hG.1, fun _ => hG.2⟩) (List.forall_mem_cons.mpr ⟨(fun a c h H => by
      dsimp only at H
      split at H
      · exact sLX11_ticks_32 h8 n _ _ _ H hG
      · cases H), (fun q9 h9 => by cases h9)⟩) ((eMX11_ticks n x1 h).symm.trans H)
theorem sndX11_ticks {ρ : Type} {l : Launch} (n : Nat) : SndF (ρ := ρ) l false (mi 136).1 (wX11_ticks n) := by
    intro a h k r H ha ho hn hf
    have h8 := hf rfl
    obtain ⟨x0, x1, rfl⟩ := len2 (show a.length = 2 from ha)
    have u0 := uq15 hn (ho (15, x0) (List.mem_cons_self))
    subst u0
    replace H : bnd (MX11_ticks n x1 h) (fun r h2 => k r h2) = some r := H
    obtain ⟨v2, h2, H1, H2⟩ := bnd_some H
    exact ⟨v2, h2, H2, met_mk (mok_base okX11_ticks).1 (by decide +kernel) (Nat.le_of_ble_eq_true rfl) ho (sMX11_ticks h8 n x1 h H1 ⟨rfl, rfl⟩), fun q => by cases q⟩
/-! X12_begins -/
def sdX12_begins : SD := [(0, [(0, .aload_n 0, 1, [], 0), (1, .aload_n 0, 1, [], 0), (2, .getfield 165, 3, [12, 42, 0, 0, 1364, 0], 0), (5, .putfield 406, 3, [12, 48, 0, 0, 0, 1370], 0), (8, .aload_n 0, 1, [], 0), (9, .aload_n 0, 1, [], 0), (10, .getfield 168, 3, [12, 43, 0, 0, 1365, 0], 0), (13, .putfield 409, 3, [12, 49, 0, 0, 0, 1371], 0), (16, .aload_n 0, 1, [], 0), (17, .aload_n 0, 1, [], 0), (18, .getfield 171, 3, [12, 44, 0, 0, 1366, 0], 0), (21, .putfield 412, 3, [12, 50, 0, 0, 0, 1372], 0), (24, .aload_n 0, 1, [], 0), (25, .aload_n 0, 1, [], 0), (26, .getfield 161, 3, [12, 47, 0, 0, 1369, 0], 0), (29, .putfield 415, 3, [12, 52, 0, 0, 1, 1374], 0), (32, .return_, 1, [], 0)])]
def MX12_begins (h : Hp) : Option (Hp) :=
(ltt (up h 113 48 (h 113 42)) fun h1 =>
(ltt (up h1 113 49 (h1 113 43)) fun h2 =>
(ltt (up h2 113 50 (h2 113 44)) fun h3 =>
(grd ((h3 113 47) = 0 ∨ (h3 113 47) = 1)
(ltt (up h3 113 52 (h3 113 47)) fun h4 =>
(some h4))))))
def wX12_begins {ρ : Type} : FN ρ := fun a h k => match a with
  | [_] => bndh (MX12_begins h) (fun h2 => k 0 h2)
  | _ => none
def fsX12_begins (ρ : Type) : List (FN ρ) := []
def KMX12_begins  : CT (Hp) := []
set_option maxRecDepth 100000 in
theorem eMX12_begins (h : Hp) : MX12_begins h =
  goAt false (kct (KMX12_begins)) (fun _ h => some (h)) (fsX12_begins _) sdX12_begins 1000 0 [(0, 16, 113)] [] h := rfl
theorem okX12_begins : mokb (mi 137) = true := by decide +kernel
theorem rkX12_begins : rkOK 0 (mi 137).1.2.2.2.2.2.2.1 (mi 137).1.2.2.2.1 := Or.inl ⟨rfl, rfl, rfl⟩
def calX12_begins : List Nat := []
theorem foX12_begins {l : Launch} {ρ : Type} : fsOK l false mi calX12_begins (fsX12_begins ρ) := trivial
theorem ok_sdX12_begins : sdb (mi 137).1.2.1 (insOK mi (mi 137).1.1.cls (mi 137).1.2.2.1 (mi 137).1.2.2.2.2.1 (mi 137).1.2.2.2.2.2.1 calX12_begins false 0) sdX12_begins = true := by decide +kernel
theorem sMX12_begins {l : Launch} {h0 h' : Hp} {v : Int} (h8 : nOf h0 = 148)   (h : Hp) {r : Hp} (H : MX12_begins h = some r) (hG : gW h' r) : PAt l false (mi 137).1 h0 v h' 0 [(0, 16, 113)] [] h :=
  pat_w ok_sdX12_begins rkX12_begins h8 (foX12_begins) (fun v1 h1 q => by
    cases q
    exact ⟨hG, fun q9 => absurd rfl q9⟩) (fun q9 h9 => by cases h9) ((eMX12_begins h).symm.trans H)
theorem sndX12_begins {ρ : Type} {l : Launch} : SndF (ρ := ρ) l false (mi 137).1 (wX12_begins) := by
    intro a h k r H ha ho hn hf
    have h8 := hf rfl
    obtain ⟨x0, rfl⟩ := len1 (show a.length = 1 from ha)
    have u0 := uq16 hn (ho (16, x0) (List.mem_cons_self))
    subst u0
    replace H : bndh (MX12_begins h) (fun h2 => k 0 h2) = some r := H
    obtain ⟨h2, H1, H2⟩ := bndh_some H
    exact ⟨0, h2, H2, met_mk (mok_base okX12_begins).1 (by decide +kernel) (Nat.le_of_ble_eq_true rfl) ho (sMX12_begins h8  h H1 rfl), fun q => by cases q⟩
/-! X12_isRest -/
def sdX12_isRest : SD := [(0, [(0, .aload_n 0, 1, [], 0), (1, .getfield 409, 3, [12, 49, 0, 0, 1371, 0], 0), (4, .ifCond .ne 14, 3, [], 0)]),
  (7, [(7, .aload_n 0, 1, [], 0), (8, .getfield 412, 3, [12, 50, 0, 0, 1372, 0], 0), (11, .ifCond .ne 7, 3, [], 0)]),
  (14, [(14, .iconst 1, 1, [], 0), (15, .goto 4, 3, [], 0)]),
  (18, [(18, .iconst 0, 1, [], 0)]),
  (19, [(19, .ireturn, 1, [1], 0)])]
def MX12_isRest (h : Hp) : Option (Int) :=
(if (h 113 49) ≠ 0 then
(some 0)
else
(if (h 113 50) ≠ 0 then
(some 0)
else
(some 1)))
def wX12_isRest {ρ : Type} : FN ρ := fun a h k => match a with
  | [_] => bndp (MX12_isRest h) (fun r => k r h)
  | _ => none
def fsX12_isRest (ρ : Type) : List (FN ρ) := []
def KMX12_isRest  : CT (Int) := []
set_option maxRecDepth 100000 in
theorem eMX12_isRest (h : Hp) : MX12_isRest h =
  goAt false (kct (KMX12_isRest)) (fun v _ => some (v)) (fsX12_isRest _) sdX12_isRest 1000 0 [(0, 16, 113)] [] h := rfl
theorem okX12_isRest : mokb (mi 138) = true := by decide +kernel
theorem rkX12_isRest : rkOK 4 (mi 138).1.2.2.2.2.2.2.1 (mi 138).1.2.2.2.1 := Or.inr (Or.inr (Or.inl ⟨rfl, rfl, rfl⟩))
def calX12_isRest : List Nat := []
theorem foX12_isRest {l : Launch} {ρ : Type} : fsOK l false mi calX12_isRest (fsX12_isRest ρ) := trivial
theorem frX12_isRest {ρ : Type} : ∀ fn ∈ fsX12_isRest ρ, RoF fn := (fun q9 h9 => by cases h9)
theorem ok_sdX12_isRest : sdb (mi 138).1.2.1 (insOK mi (mi 138).1.1.cls (mi 138).1.2.2.1 (mi 138).1.2.2.2.2.1 (mi 138).1.2.2.2.2.2.1 calX12_isRest false 4) sdX12_isRest = true := by decide +kernel
theorem sMX12_isRest {l : Launch} {h0 : Hp} {v : Int} (h8 : nOf h0 = 148)   (h : Hp) {r : Int} (H : MX12_isRest h = some r) (hG : gV v r) : PAt l false (mi 138).1 h0 v h 0 [(0, 16, 113)] [] h :=
  pat_ro ok_sdX12_isRest rfl rkX12_isRest h8 (foX12_isRest) (frX12_isRest) (fun v1 q => by
    cases q
    exact ⟨rfl, fun _ => hG⟩) (fun q9 h9 => by cases h9) ((eMX12_isRest h).symm.trans H)
theorem sndX12_isRest {ρ : Type} {l : Launch} : SndF (ρ := ρ) l false (mi 138).1 (wX12_isRest) := by
    intro a h k r H ha ho hn hf
    have h8 := hf rfl
    obtain ⟨x0, rfl⟩ := len1 (show a.length = 1 from ha)
    have u0 := uq16 hn (ho (16, x0) (List.mem_cons_self))
    subst u0
    replace H : bndp (MX12_isRest h) (fun r => k r h) = some r := H
    obtain ⟨v2, H1, H2⟩ := bndp_some H
    exact ⟨v2, h, H2, met_mk (mok_base okX12_isRest).1 (by decide +kernel) (Nat.le_of_ble_eq_true rfl) ho (sMX12_isRest h8  h H1 rfl), fun q => by cases q⟩
theorem roX12_isRest {ρ : Type} : RoF (wX12_isRest : FN ρ) := fun a h k k2 hk => by
  unfold wX12_isRest
  split
  · exact bndp_ro hk
  · rfl
/-! X12_all -/
def sdX12_all : SD := [(0, [(0, .aload_n 0, 1, [], 0), (1, .getfield 49, 3, [12, 18, 540, 1, 1340, 0], 13), (4, .aload_n 0, 1, [], 0), (5, .getfield 140, 3, [12, 6, 0, 0, 1328, 0], 0), (8, .iaload, 1, [], 0), (9, .ireturn, 1, [], 0)])]
def MX12_all (h : Hp) : Option (Int) :=
(grd (0 ≤ (h 113 6) ∧ (h 113 6) < alen 540)
(some (h 126 (h 113 6))))
def wX12_all {ρ : Type} : FN ρ := fun a h k => match a with
  | [_] => bndp (MX12_all h) (fun r => k r h)
  | _ => none
def fsX12_all (ρ : Type) : List (FN ρ) := []
def KMX12_all  : CT (Int) := []
set_option maxRecDepth 100000 in
theorem eMX12_all (h : Hp) : MX12_all h =
  goAt false (kct (KMX12_all)) (fun v _ => some (v)) (fsX12_all _) sdX12_all 1000 0 [(0, 16, 113)] [] h := rfl
theorem okX12_all : mokb (mi 139) = true := by decide +kernel
theorem rkX12_all : rkOK 1 (mi 139).1.2.2.2.2.2.2.1 (mi 139).1.2.2.2.1 := Or.inr (Or.inl ⟨rfl, rfl, rfl⟩)
def calX12_all : List Nat := []
theorem foX12_all {l : Launch} {ρ : Type} : fsOK l false mi calX12_all (fsX12_all ρ) := trivial
theorem frX12_all {ρ : Type} : ∀ fn ∈ fsX12_all ρ, RoF fn := (fun q9 h9 => by cases h9)
theorem ok_sdX12_all : sdb (mi 139).1.2.1 (insOK mi (mi 139).1.1.cls (mi 139).1.2.2.1 (mi 139).1.2.2.2.2.1 (mi 139).1.2.2.2.2.2.1 calX12_all false 1) sdX12_all = true := by decide +kernel
theorem sMX12_all {l : Launch} {h0 : Hp} {v : Int} (h8 : nOf h0 = 148)   (h : Hp) {r : Int} (H : MX12_all h = some r) (hG : gV v r) : PAt l false (mi 139).1 h0 v h 0 [(0, 16, 113)] [] h :=
  pat_ro ok_sdX12_all rfl rkX12_all h8 (foX12_all) (frX12_all) (fun v1 q => by
    cases q
    exact ⟨rfl, fun _ => hG⟩) (fun q9 h9 => by cases h9) ((eMX12_all h).symm.trans H)
theorem sndX12_all {ρ : Type} {l : Launch} : SndF (ρ := ρ) l false (mi 139).1 (wX12_all) := by
    intro a h k r H ha ho hn hf
    have h8 := hf rfl
    obtain ⟨x0, rfl⟩ := len1 (show a.length = 1 from ha)
    have u0 := uq16 hn (ho (16, x0) (List.mem_cons_self))
    subst u0
    replace H : bndp (MX12_all h) (fun r => k r h) = some r := H
    obtain ⟨v2, H1, H2⟩ := bndp_some H
    exact ⟨v2, h, H2, met_mk (mok_base okX12_all).1 (by decide +kernel) (Nat.le_of_ble_eq_true rfl) ho (sMX12_all h8  h H1 rfl), fun q => by cases q⟩
theorem roX12_all {ρ : Type} : RoF (wX12_all : FN ρ) := fun a h k k2 hk => by
  unfold wX12_all
  split
  · exact bndp_ro hk
  · rfl
/-! X12_isDone -/
def sdX12_isDone : SD := [(0, [(0, .aload_n 0, 1, [], 0), (1, .invokevirtual 418, 3, [1, 0, 1, 138, 1711, 16], 0), (4, .ifCond .eq 18, 3, [], 0)]),
  (7, [(7, .aload_n 0, 1, [], 0), (8, .getfield 406, 3, [12, 48, 0, 0, 1370, 0], 0), (11, .aload_n 0, 1, [], 0), (12, .invokevirtual 393, 3, [1, 1, 1, 139, 1715, 16], 0), (15, .if_icmp .ne 7, 3, [], 0)]),
  (18, [(18, .iconst 1, 1, [], 0), (19, .goto 4, 3, [], 0)]),
  (22, [(22, .iconst 0, 1, [], 0)]),
  (23, [(23, .ireturn, 1, [1], 0)])]
def MX12_isDone (h : Hp) : Option (Int) :=
(bndp (MX12_isRest h) fun r1 =>
(if r1 = 0 then
(some 0)
else
(bndp (MX12_all h) fun r2 =>
(if (h 113 48) ≠ r2 then
(some 0)
else
(some 1)))))
def wX12_isDone {ρ : Type} : FN ρ := fun a h k => match a with
  | [_] => bndp (MX12_isDone h) (fun r => k r h)
  | _ => none
def fsX12_isDone (ρ : Type) : List (FN ρ) := [wX12_isRest, wX12_all]
def KMX12_isDone  : CT (Int) := []
set_option maxRecDepth 100000 in
theorem eMX12_isDone (h : Hp) : MX12_isDone h =
  goAt false (kct (KMX12_isDone)) (fun v _ => some (v)) (fsX12_isDone _) sdX12_isDone 1000 0 [(0, 16, 113)] [] h := rfl
theorem okX12_isDone : mokb (mi 140) = true := by decide +kernel
theorem rkX12_isDone : rkOK 4 (mi 140).1.2.2.2.2.2.2.1 (mi 140).1.2.2.2.1 := Or.inr (Or.inr (Or.inl ⟨rfl, rfl, rfl⟩))
def calX12_isDone : List Nat := [138, 139]
theorem foX12_isDone {l : Launch} {ρ : Type} : fsOK l false mi calX12_isDone (fsX12_isDone ρ) := ⟨sndX12_isRest, ⟨sndX12_all, trivial⟩⟩
theorem frX12_isDone {ρ : Type} : ∀ fn ∈ fsX12_isDone ρ, RoF fn := (List.forall_mem_cons.mpr ⟨roX12_isRest, (List.forall_mem_cons.mpr ⟨roX12_all, (fun q9 h9 => by cases h9)⟩)⟩)
theorem ok_sdX12_isDone : sdb (mi 140).1.2.1 (insOK mi (mi 140).1.1.cls (mi 140).1.2.2.1 (mi 140).1.2.2.2.2.1 (mi 140).1.2.2.2.2.2.1 calX12_isDone false 4) sdX12_isDone = true := by decide +kernel
theorem sMX12_isDone {l : Launch} {h0 : Hp} {v : Int} (h8 : nOf h0 = 148)   (h : Hp) {r : Int} (H : MX12_isDone h = some r) (hG : gV v r) : PAt l false (mi 140).1 h0 v h 0 [(0, 16, 113)] [] h :=
  pat_ro ok_sdX12_isDone rfl rkX12_isDone h8 (foX12_isDone) (frX12_isDone) (fun v1 q => by
    cases q
    exact ⟨rfl, fun _ => hG⟩) (fun q9 h9 => by cases h9) ((eMX12_isDone h).symm.trans H)
theorem sndX12_isDone {ρ : Type} {l : Launch} : SndF (ρ := ρ) l false (mi 140).1 (wX12_isDone) := by
    intro a h k r H ha ho hn hf
    have h8 := hf rfl
    obtain ⟨x0, rfl⟩ := len1 (show a.length = 1 from ha)
    have u0 := uq16 hn (ho (16, x0) (List.mem_cons_self))
    subst u0
    replace H : bndp (MX12_isDone h) (fun r => k r h) = some r := H
    obtain ⟨v2, H1, H2⟩ := bndp_some H
    exact ⟨v2, h, H2, met_mk (mok_base okX12_isDone).1 (by decide +kernel) (Nat.le_of_ble_eq_true rfl) ho (sMX12_isDone h8  h H1 rfl), fun q => by cases q⟩
theorem roX12_isDone {ρ : Type} : RoF (wX12_isDone : FN ρ) := fun a h k k2 hk => by
  unfold wX12_isDone
  split
  · exact bndp_ro hk
  · rfl
/-! X12_truth -/
def sdX12_truth : SD := [(0, [(0, .iload_n 0, 1, [], 0), (1, .ifCond .eq 7, 3, [], 0)]),
  (4, [(4, .iconst 1, 1, [], 0), (5, .goto 4, 3, [], 0)]),
  (8, [(8, .iconst 0, 1, [], 0)]),
  (9, [(9, .ireturn, 1, [], 0)])]
def MX12_truth (x0 : Int) : Option (Int) :=
(if x0 = 0 then
(some 0)
else
(some 1))
def wX12_truth {ρ : Type} : FN ρ := fun a h k => match a with
  | [x0] => bndp (MX12_truth x0) (fun r => k r h)
  | _ => none
def fsX12_truth (ρ : Type) : List (FN ρ) := []
def KMX12_truth  : CT (Int) := []
set_option maxRecDepth 100000 in
theorem eMX12_truth (x0 : Int) (h : Hp) : MX12_truth x0 =
  goAt false (kct (KMX12_truth)) (fun v _ => some (v)) (fsX12_truth _) sdX12_truth 1000 0 [(0, 0, x0)] [] h := rfl
theorem okX12_truth : mokb (mi 141) = true := by decide +kernel
theorem rkX12_truth : rkOK 1 (mi 141).1.2.2.2.2.2.2.1 (mi 141).1.2.2.2.1 := Or.inr (Or.inl ⟨rfl, rfl, rfl⟩)
def calX12_truth : List Nat := []
theorem foX12_truth {l : Launch} {ρ : Type} : fsOK l false mi calX12_truth (fsX12_truth ρ) := trivial
theorem frX12_truth {ρ : Type} : ∀ fn ∈ fsX12_truth ρ, RoF fn := (fun q9 h9 => by cases h9)
theorem ok_sdX12_truth : sdb (mi 141).1.2.1 (insOK mi (mi 141).1.1.cls (mi 141).1.2.2.1 (mi 141).1.2.2.2.2.1 (mi 141).1.2.2.2.2.2.1 calX12_truth false 1) sdX12_truth = true := by decide +kernel
theorem sMX12_truth {l : Launch} {h0 : Hp} {v : Int} (h8 : nOf h0 = 148)  (x0 : Int) (h : Hp) {r : Int} (H : MX12_truth x0 = some r) (hG : gV v r) : PAt l false (mi 141).1 h0 v h 0 [(0, 0, x0)] [] h :=
  pat_ro ok_sdX12_truth rfl rkX12_truth h8 (foX12_truth) (frX12_truth) (fun v1 q => by
    cases q
    exact ⟨rfl, fun _ => hG⟩) (fun q9 h9 => by cases h9) ((eMX12_truth x0 h).symm.trans H)
theorem sndX12_truth {ρ : Type} {l : Launch} : SndF (ρ := ρ) l false (mi 141).1 (wX12_truth) := by
    intro a h k r H ha ho hn hf
    have h8 := hf rfl
    obtain ⟨x0, rfl⟩ := len1 (show a.length = 1 from ha)
    replace H : bndp (MX12_truth x0) (fun r => k r h) = some r := H
    obtain ⟨v2, H1, H2⟩ := bndp_some H
    exact ⟨v2, h, H2, met_mk (mok_base okX12_truth).1 (by decide +kernel) (Nat.le_of_ble_eq_true rfl) ho (sMX12_truth h8 x0 h H1 rfl), fun q => by cases q⟩
theorem roX12_truth {ρ : Type} : RoF (wX12_truth : FN ρ) := fun a h k k2 hk => by
  unfold wX12_truth
  split
  · exact bndp_ro hk
  · rfl
/-! X12_keepsIn -/
def sdX12_keepsIn : SD := [(0, [(0, .aload_n 1, 1, [], 0), (1, .iload_n 2, 1, [], 0), (2, .aload_n 0, 1, [], 0), (3, .getfield 165, 3, [12, 42, 0, 0, 1364, 0], 0), (6, .iastore, 1, [], 0), (7, .aload_n 1, 1, [], 0), (8, .iload_n 2, 1, [], 0), (9, .iconst 1, 1, [], 0), (10, .iadd, 1, [], 0), (11, .aload_n 0, 1, [], 0), (12, .getfield 168, 3, [12, 43, 0, 0, 1365, 0], 0), (15, .iastore, 1, [], 0), (16, .aload_n 1, 1, [], 0), (17, .iload_n 2, 1, [], 0), (18, .iconst 2, 1, [], 0), (19, .iadd, 1, [], 0), (20, .aload_n 0, 1, [], 0), (21, .getfield 171, 3, [12, 44, 0, 0, 1366, 0], 0), (24, .iastore, 1, [], 0), (25, .aload_n 1, 1, [], 0), (26, .iload_n 2, 1, [], 0), (27, .iconst 3, 1, [], 0), (28, .iadd, 1, [], 0), (29, .aload_n 0, 1, [], 0), (30, .getfield 158, 3, [12, 45, 0, 0, 1367, 0], 0), (33, .iastore, 1, [], 0), (34, .aload_n 1, 1, [], 0), (35, .iload_n 2, 1, [], 0), (36, .iconst 4, 1, [], 0), (37, .iadd, 1, [], 0), (38, .aload_n 0, 1, [], 0), (39, .getfield 161, 3, [12, 47, 0, 0, 1369, 0], 0), (42, .invokestatic 446, 3, [1, 0, 3, 141, 1727, 0], 0), (45, .iastore, 1, [], 0), (46, .aload_n 1, 1, [], 0), (47, .iload_n 2, 1, [], 0), (48, .iconst 5, 1, [], 0), (49, .iadd, 1, [], 0), (50, .aload_n 0, 1, [], 0), (51, .getfield 174, 3, [12, 46, 0, 0, 1368, 0], 0), (54, .iastore, 1, [], 0), (55, .return_, 1, [], 0)])]
def MX12_keepsIn (x2 : Int) (h : Hp) : Option (Hp) :=
(grd (0 ≤ x2 ∧ x2 < alen 980)
(ltt (up h 138 x2 (h 113 42)) fun h1 =>
(grd (0 ≤ (w32 (x2 + 1)) ∧ (w32 (x2 + 1)) < alen 980)
(ltt (up h1 138 (w32 (x2 + 1)) (h1 113 43)) fun h2 =>
(grd (0 ≤ (w32 (x2 + 2)) ∧ (w32 (x2 + 2)) < alen 980)
(ltt (up h2 138 (w32 (x2 + 2)) (h2 113 44)) fun h3 =>
(grd (0 ≤ (w32 (x2 + 3)) ∧ (w32 (x2 + 3)) < alen 980)
(ltt (up h3 138 (w32 (x2 + 3)) (h3 113 45)) fun h4 =>
(bndp (MX12_truth (h4 113 47)) fun r1 =>
(grd (0 ≤ (w32 (x2 + 4)) ∧ (w32 (x2 + 4)) < alen 980)
(ltt (up h4 138 (w32 (x2 + 4)) r1) fun h5 =>
(grd (0 ≤ (w32 (x2 + 5)) ∧ (w32 (x2 + 5)) < alen 980)
(ltt (up h5 138 (w32 (x2 + 5)) (h5 113 46)) fun h6 =>
(some h6))))))))))))))
def wX12_keepsIn {ρ : Type} : FN ρ := fun a h k => match a with
  | [_, _, x2] => bndh (MX12_keepsIn x2 h) (fun h2 => k 0 h2)
  | _ => none
def fsX12_keepsIn (ρ : Type) : List (FN ρ) := [wX12_truth]
def KMX12_keepsIn  : CT (Hp) := []
set_option maxRecDepth 100000 in
theorem eMX12_keepsIn (x2 : Int) (h : Hp) : MX12_keepsIn x2 h =
  goAt false (kct (KMX12_keepsIn)) (fun _ h => some (h)) (fsX12_keepsIn _) sdX12_keepsIn 1000 0 [(0, 16, 113), (1, 980, 138), (2, 0, x2)] [] h := rfl
theorem okX12_keepsIn : mokb (mi 142) = true := by decide +kernel
theorem rkX12_keepsIn : rkOK 0 (mi 142).1.2.2.2.2.2.2.1 (mi 142).1.2.2.2.1 := Or.inl ⟨rfl, rfl, rfl⟩
def calX12_keepsIn : List Nat := [141]
theorem foX12_keepsIn {l : Launch} {ρ : Type} : fsOK l false mi calX12_keepsIn (fsX12_keepsIn ρ) := ⟨sndX12_truth, trivial⟩
theorem ok_sdX12_keepsIn : sdb (mi 142).1.2.1 (insOK mi (mi 142).1.1.cls (mi 142).1.2.2.1 (mi 142).1.2.2.2.2.1 (mi 142).1.2.2.2.2.2.1 calX12_keepsIn false 0) sdX12_keepsIn = true := by decide +kernel
theorem sMX12_keepsIn {l : Launch} {h0 h' : Hp} {v : Int} (h8 : nOf h0 = 148)  (x2 : Int) (h : Hp) {r : Hp} (H : MX12_keepsIn x2 h = some r) (hG : gW h' r) : PAt l false (mi 142).1 h0 v h' 0 [(0, 16, 113), (1, 980, 138), (2, 0, x2)] [] h :=
  pat_w ok_sdX12_keepsIn rkX12_keepsIn h8 (foX12_keepsIn) (fun v1 h1 q => by
    cases q
    exact ⟨hG, fun q9 => absurd rfl q9⟩) (fun q9 h9 => by cases h9) ((eMX12_keepsIn x2 h).symm.trans H)
theorem sndX12_keepsIn {ρ : Type} {l : Launch} : SndF (ρ := ρ) l false (mi 142).1 (wX12_keepsIn) := by
    intro a h k r H ha ho hn hf
    have h8 := hf rfl
    obtain ⟨x0, x1, x2, rfl⟩ := len3 (show a.length = 3 from ha)
    have u0 := uq16 hn (ho (16, x0) (List.mem_cons_self))
    subst u0
    have u1 := uq980 hn (ho (980, x1) (List.mem_cons_of_mem _ List.mem_cons_self))
    subst u1
    replace H : bndh (MX12_keepsIn x2 h) (fun h2 => k 0 h2) = some r := H
    obtain ⟨h2, H1, H2⟩ := bndh_some H
    exact ⟨0, h2, H2, met_mk (mok_base okX12_keepsIn).1 (by decide +kernel) (Nat.le_of_ble_eq_true rfl) ho (sMX12_keepsIn h8 x2 h H1 rfl), fun q => by cases q⟩
/-! X12_remembers -/
def sdX12_remembers : SD := [(0, [(0, .aload_n 0, 1, [], 0), (1, .getfield 177, 3, [12, 54, 0, 0, 1376, 0], 0), (4, .bipush 20, 2, [], 0), (6, .if_icmp .ne 42, 3, [], 0)]),
  (9, [(9, .iconst 0, 1, [], 0), (10, .istore_n 1, 1, [], 0)]),
  (11, [(11, .iload_n 1, 1, [], 0), (12, .bipush 114, 2, [], 0), (14, .if_icmp .ge 24, 3, [], 0)]),
  (17, [(17, .aload_n 0, 1, [], 0), (18, .getfield 86, 3, [12, 53, 980, 1, 1375, 0], 25), (21, .iload_n 1, 1, [], 0), (22, .aload_n 0, 1, [], 0), (23, .getfield 86, 3, [12, 53, 980, 1, 1375, 0], 25), (26, .iload_n 1, 1, [], 0), (27, .bipush 6, 2, [], 0), (29, .iadd, 1, [], 0), (30, .iaload, 1, [], 0), (31, .iastore, 1, [], 0), (32, .iinc 1 1, 3, [], 0), (35, .goto (-24), 3, [], 0)]),
  (38, [(38, .aload_n 0, 1, [], 0), (39, .dup, 1, [], 0), (40, .getfield 177, 3, [12, 54, 0, 0, 1376, 0], 0), (43, .iconst 1, 1, [], 0), (44, .isub, 1, [], 0), (45, .putfield 177, 3, [12, 54, 0, 0, 0, 1376], 0)]),
  (48, [(48, .aload_n 0, 1, [], 0), (49, .aload_n 0, 1, [], 0), (50, .getfield 86, 3, [12, 53, 980, 1, 1375, 0], 25), (53, .bipush 6, 2, [], 0), (55, .aload_n 0, 1, [], 0), (56, .getfield 177, 3, [12, 54, 0, 0, 1376, 0], 0), (59, .imul, 1, [], 0), (60, .invokevirtual 450, 3, [0, 0, 1, 142, 1723, 0, 980, 16], 0), (63, .aload_n 0, 1, [], 0), (64, .dup, 1, [], 0), (65, .getfield 177, 3, [12, 54, 0, 0, 1376, 0], 0), (68, .iconst 1, 1, [], 0), (69, .iadd, 1, [], 0), (70, .putfield 177, 3, [12, 54, 0, 0, 0, 1376], 0), (73, .return_, 1, [], 0)])]
def JX12_remembers_48 (n : Nat) (h : Hp) : Option (Hp) :=
(bndh (MX12_keepsIn (w32 (6 * (h 113 54))) h) fun h1 =>
(ltt (up h1 113 54 (w32 ((h1 113 54) + 1))) fun h2 =>
(some h2)))
def BX12_remembers_11 (n : Nat) : Nat → Int → Hp → Option (Hp)
  | 0, _, _ => none
  | f + 1, x1, h =>
    (if 114 ≤ x1 then
    (some (h))
    else
    (grd (0 ≤ (w32 (x1 + 6)) ∧ (w32 (x1 + 6)) < alen 980)
    (grd (0 ≤ x1 ∧ x1 < alen 980)
    (ltt (up h 138 x1 (h 138 (w32 (x1 + 6)))) fun h1 =>
    (ltt (w32 (x1 + 1)) fun y1 =>
    (BX12_remembers_11 n f y1 h1))))))
def JX12_remembers_38 (n : Nat) (h : Hp) : Option (Hp) :=
(ltt (up h 113 54 (w32 ((h 113 54) - 1))) fun h1 =>
(JX12_remembers_48 n h1))
def LX12_remembers_11 (n : Nat) (x1 : Int) (h : Hp) : Option (Hp) :=
(bndx (BX12_remembers_11 n n x1 h) fun h1 =>
(JX12_remembers_38 n h1))
def MX12_remembers (n : Nat) (h : Hp) : Option (Hp) :=
(if (h 113 54) ≠ 20 then
(JX12_remembers_48 n h)
else
(ltt 0 fun y1 =>
(LX12_remembers_11 n y1 h)))
def wX12_remembers {ρ : Type} (n : Nat) : FN ρ := fun a h k => match a with
  | [_] => bndh (MX12_remembers n h) (fun h2 => k 0 h2)
  | _ => none
def fsX12_remembers (n : Nat) (ρ : Type) : List (FN ρ) := [wX12_keepsIn]
def KJX12_remembers_48 (_ : Nat) : CT (Hp) := []
set_option maxRecDepth 100000 in
theorem eJX12_remembers_48 (n : Nat) (h : Hp) : JX12_remembers_48 n h =
  goAt false (kct (KJX12_remembers_48 n)) (fun _ h => some (h)) (fsX12_remembers n _) sdX12_remembers 1000 48 [(0, 16, 113)] [] h := rfl
def KBX12_remembers_11 (_ : Nat) (bk : Int → Hp → Option (Hp)) : CT (Hp) := [(11, [(0, 16, (some 113)), (1, 0, none)], [], fun a c h => match a, c with
    | [x1], [] => bk x1 h
    | _, _ => none),
  (38, [(0, 16, (some 113))], [], fun a c h => match a, c with
    | [], [] => some (h)
    | _, _ => none)]
set_option maxRecDepth 100000 in
theorem eBX12_remembers_11 (n f : Nat) (x1 : Int) (h : Hp) : BX12_remembers_11 n (f + 1) x1 h =
  goAt false (kct (KBX12_remembers_11 n (BX12_remembers_11 n f))) (fun _ _ => none) (fsX12_remembers n _) sdX12_remembers 1000 11 [(0, 16, 113), (1, 0, x1)] [] h := rfl
def KJX12_remembers_38 (n : Nat) : CT (Hp) := [(48, [(0, 16, (some 113))], [], fun a c h => match a, c with
    | [], [] => JX12_remembers_48 n h
    | _, _ => none)]
set_option maxRecDepth 100000 in
theorem eJX12_remembers_38 (n : Nat) (h : Hp) : JX12_remembers_38 n h =
  goAt false (kct (KJX12_remembers_38 n)) (fun _ h => some (h)) (fsX12_remembers n _) sdX12_remembers 1000 38 [(0, 16, 113)] [] h := rfl
def KMX12_remembers (n : Nat) : CT (Hp) := [(48, [(0, 16, (some 113))], [], fun a c h => match a, c with
    | [], [] => JX12_remembers_48 n h
    | _, _ => none),
  (11, [(0, 16, (some 113)), (1, 0, none)], [], fun a c h => match a, c with
    | [x1], [] => LX12_remembers_11 n x1 h
    | _, _ => none)]
set_option maxRecDepth 100000 in
theorem eMX12_remembers (n : Nat) (h : Hp) : MX12_remembers n h =
  goAt false (kct (KMX12_remembers n)) (fun _ h => some (h)) (fsX12_remembers n _) sdX12_remembers 1000 0 [(0, 16, 113)] [] h := rfl
theorem okX12_remembers : mokb (mi 143) = true := by decide +kernel
theorem rkX12_remembers : rkOK 0 (mi 143).1.2.2.2.2.2.2.1 (mi 143).1.2.2.2.1 := Or.inl ⟨rfl, rfl, rfl⟩
def calX12_remembers : List Nat := [142]
theorem foX12_remembers {l : Launch} {ρ : Type} (n : Nat) : fsOK l false mi calX12_remembers (fsX12_remembers n ρ) := ⟨sndX12_keepsIn, trivial⟩
theorem ok_sdX12_remembers : sdb (mi 143).1.2.1 (insOK mi (mi 143).1.1.cls (mi 143).1.2.2.1 (mi 143).1.2.2.2.2.1 (mi 143).1.2.2.2.2.2.1 calX12_remembers false 0) sdX12_remembers = true := by decide +kernel
def GX12_remembers_11 (l : Launch) (h0 : Hp) (h' : Hp) (v : Int) (_ : Hp) : (Hp) → Prop
  | h1 => PAt l false (mi 143).1 h0 v h' 38 [(0, 16, 113)] [] h1
theorem sJX12_remembers_48 {l : Launch} {h0 h' : Hp} {v : Int} (h8 : nOf h0 = 148) (n : Nat)  (h : Hp) {r : Hp} (H : JX12_remembers_48 n h = some r) (hG : gW h' r) : PAt l false (mi 143).1 h0 v h' 48 [(0, 16, 113)] [] h :=
  pat_w ok_sdX12_remembers rkX12_remembers h8 (foX12_remembers n) (fun v1 h1 q => by
    cases q
    exact ⟨hG, fun q9 => absurd rfl q9⟩) (fun q9 h9 => by cases h9) ((eJX12_remembers_48 n h).symm.trans H)
theorem sBX12_remembers_11 {l : Launch} {h0 h' : Hp} {v : Int} (h8 : nOf h0 = 148) (n : Nat) : ∀ (f : Nat) (x1 : Int) (h : Hp) {r : Hp}, BX12_remembers_11 n f x1 h = some r → GX12_remembers_11 l h0 h' v h r → PAt l false (mi 143).1 h0 v h' 11 [(0, 16, 113), (1, 0, x1)] [] h := by
  intro f
  induction f with
  | zero =>
    intro x1 h r H _
    have H2 : (none : Option (Hp)) = some r := H
    cases H2
  | succ f ih =>
    intro x1 h r H hG
    exact pat_w ok_sdX12_remembers rkX12_remembers h8 (foX12_remembers n) (fun v1 h1 q => by cases q) (List.forall_mem_cons.mpr ⟨(fun a c h H => by
      dsimp only at H
      split at H
      · exact ih _ _ H hG
      · cases H), (List.forall_mem_cons.mpr ⟨(fun a c h H => by
      dsimp only at H
      split at H
      · cases H
        exact hG
      · cases H), (fun q9 h9 => by cases h9)⟩)⟩) ((eBX12_remembers_11 n f x1 h).symm.trans H)
theorem sJX12_remembers_38 {l : Launch} {h0 h' : Hp} {v : Int} (h8 : nOf h0 = 148) (n : Nat)  (h : Hp) {r : Hp} (H : JX12_remembers_38 n h = some r) (hG : gW h' r) : PAt l false (mi 143).1 h0 v h' 38 [(0, 16, 113)] [] h :=
  pat_w ok_sdX12_remembers rkX12_remembers h8 (foX12_remembers n) (fun v1 h1 q => by
    cases q
    exact ⟨hG, fun q9 => absurd rfl q9⟩) (List.forall_mem_cons.mpr ⟨(fun a c h H => by
      dsimp only at H
      split at H
      · exact sJX12_remembers_48 h8 n _ H hG
      · cases H), (fun q9 h9 => by cases h9)⟩) ((eJX12_remembers_38 n h).symm.trans H)
theorem sLX12_remembers_11 {l : Launch} {h0 h' : Hp} {v : Int} (h8 : nOf h0 = 148) (n : Nat) (x1 : Int) (h : Hp) {r : Hp} (H : LX12_remembers_11 n x1 h = some r) (hG : gW h' r) : PAt l false (mi 143).1 h0 v h' 11 [(0, 16, 113), (1, 0, x1)] [] h := by
  obtain ⟨h1, h2, h3⟩ := bndx_some H
  exact sBX12_remembers_11 h8 n n x1 h h2 (sJX12_remembers_38 h8 n h1 h3 hG)
theorem sMX12_remembers {l : Launch} {h0 h' : Hp} {v : Int} (h8 : nOf h0 = 148) (n : Nat)  (h : Hp) {r : Hp} (H : MX12_remembers n h = some r) (hG : gW h' r) : PAt l false (mi 143).1 h0 v h' 0 [(0, 16, 113)] [] h :=
  pat_w ok_sdX12_remembers rkX12_remembers h8 (foX12_remembers n) (fun v1 h1 q => by
    cases q
    exact ⟨hG, fun q9 => absurd rfl q9⟩) (List.forall_mem_cons.mpr ⟨(fun a c h H => by
      dsimp only at H
      split at H
      · exact sJX12_remembers_48 h8 n _ H hG
      · cases H), (List.forall_mem_cons.mpr ⟨(fun a c h H => by
      dsimp only at H
      split at H
      · exact sLX12_remembers_11 h8 n _ _ H hG
      · cases H), (fun q9 h9 => by cases h9)⟩)⟩) ((eMX12_remembers n h).symm.trans H)
theorem sndX12_remembers {ρ : Type} {l : Launch} (n : Nat) : SndF (ρ := ρ) l false (mi 143).1 (wX12_remembers n) := by
    intro a h k r H ha ho hn hf
    have h8 := hf rfl
    obtain ⟨x0, rfl⟩ := len1 (show a.length = 1 from ha)
    have u0 := uq16 hn (ho (16, x0) (List.mem_cons_self))
    subst u0
    replace H : bndh (MX12_remembers n h) (fun h2 => k 0 h2) = some r := H
    obtain ⟨h2, H1, H2⟩ := bndh_some H
    exact ⟨0, h2, H2, met_mk (mok_base okX12_remembers).1 (by decide +kernel) (Nat.le_of_ble_eq_true rfl) ho (sMX12_remembers h8 n  h H1 rfl), fun q => by cases q⟩
