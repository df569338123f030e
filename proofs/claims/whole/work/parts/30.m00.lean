/-! X9_addByte -/
def sdX9_addByte : SD := [(0, [(0, .aload_n 0, 1, [], 0), (1, .getfield 19, 3, [9, 1, 0, 0, 256, 0], 0), (4, .ifCond .lt 37, 3, [], 0)]),
  (7, [(7, .aload_n 0, 1, [], 0), (8, .getfield 19, 3, [9, 1, 0, 0, 256, 0], 0), (11, .sipush 400, 3, [], 0), (14, .if_icmp .ge 27, 3, [], 0)]),
  (17, [(17, .aload_n 0, 1, [], 0), (18, .getfield 9, 3, [9, 0, 3220, 1, 254, 0], 1), (21, .aload_n 0, 1, [], 0), (22, .getfield 19, 3, [9, 1, 0, 0, 256, 0], 0), (25, .iload_n 1, 1, [], 0), (26, .sipush 255, 3, [], 0), (29, .iand, 1, [], 0), (30, .iastore, 1, [], 0), (31, .aload_n 0, 1, [], 0), (32, .dup, 1, [], 0), (33, .getfield 19, 3, [9, 1, 0, 0, 256, 0], 0), (36, .iconst 1, 1, [], 0), (37, .iadd, 1, [], 0), (38, .putfield 19, 3, [9, 1, 0, 0, 0, 256], 0)]),
  (41, [(41, .return_, 1, [], 0)])]
def MX9_addByte (x1 : Int) (h : Hp) : Option (Hp) :=
(if (h 27 1) < 0 then
(some h)
else
(if 400 ≤ (h 27 1) then
(some h)
else
(grd (0 ≤ (h 27 1) ∧ (h 27 1) < alen 3220)
(ltt (up h 28 (h 27 1) (iand x1 255)) fun h1 =>
(ltt (up h1 27 1 (w32 ((h1 27 1) + 1))) fun h2 =>
(some h2))))))
def wX9_addByte {ρ : Type} : FN ρ := fun a h k => match a with
  | [_, x1] => bndh (MX9_addByte x1 h) (fun h2 => k 0 h2)
  | _ => none
def fsX9_addByte (ρ : Type) : List (FN ρ) := []
def KMX9_addByte  : CT (Hp) := []
set_option maxRecDepth 100000 in
theorem eMX9_addByte (x1 : Int) (h : Hp) : MX9_addByte x1 h =
  goAt false (kct (KMX9_addByte)) (fun _ h => some (h)) (fsX9_addByte _) sdX9_addByte 1000 0 [(0, 13, 27), (1, 0, x1)] [] h := rfl
theorem okX9_addByte : mokb (mi 0) = true := by decide +kernel
theorem rkX9_addByte : rkOK 0 (mi 0).1.2.2.2.2.2.2.1 (mi 0).1.2.2.2.1 := Or.inl ⟨rfl, rfl, rfl⟩
def calX9_addByte : List Nat := []
theorem foX9_addByte {l : Launch} {ρ : Type} : fsOK l false mi calX9_addByte (fsX9_addByte ρ) := trivial
theorem ok_sdX9_addByte : sdb (mi 0).1.2.1 (insOK mi (mi 0).1.1.cls (mi 0).1.2.2.1 (mi 0).1.2.2.2.2.1 (mi 0).1.2.2.2.2.2.1 calX9_addByte false 0) sdX9_addByte = true := by decide +kernel
theorem sMX9_addByte {l : Launch} {h0 h' : Hp} {v : Int} (h8 : nOf h0 = 148)  (x1 : Int) (h : Hp) {r : Hp} (H : MX9_addByte x1 h = some r) (hG : gW h' r) : PAt l false (mi 0).1 h0 v h' 0 [(0, 13, 27), (1, 0, x1)] [] h :=
  pat_w ok_sdX9_addByte rkX9_addByte h8 (foX9_addByte) (fun v1 h1 q => by
    cases q
    exact ⟨hG, fun q9 => absurd rfl q9⟩) (fun q9 h9 => by cases h9) ((eMX9_addByte x1 h).symm.trans H)
theorem sndX9_addByte {ρ : Type} {l : Launch} : SndF (ρ := ρ) l false (mi 0).1 (wX9_addByte) := by
    intro a h k r H ha ho hn hf
    have h8 := hf rfl
    obtain ⟨x0, x1, rfl⟩ := len2 (show a.length = 2 from ha)
    have u0 := uq13 hn (ho (13, x0) (List.mem_cons_self))
    subst u0
    replace H : bndh (MX9_addByte x1 h) (fun h2 => k 0 h2) = some r := H
    obtain ⟨h2, H1, H2⟩ := bndh_some H
    exact ⟨0, h2, H2, met_mk (mok_base okX9_addByte).1 (by decide +kernel) (Nat.le_of_ble_eq_true rfl) ho (sMX9_addByte h8 x1 h H1 rfl), fun q => by cases q⟩
/-! X9_addNumber -/
def sdX9_addNumber : SD := [(0, [(0, .aload_n 0, 1, [], 0), (1, .iload_n 1, 1, [], 0), (2, .bipush 24, 2, [], 0), (4, .iushr, 1, [], 0), (5, .invokevirtual 15, 3, [0, 0, 1, 0, 744, 0, 13], 0), (8, .aload_n 0, 1, [], 0), (9, .iload_n 1, 1, [], 0), (10, .bipush 16, 2, [], 0), (12, .iushr, 1, [], 0), (13, .invokevirtual 15, 3, [0, 0, 1, 0, 744, 0, 13], 0), (16, .aload_n 0, 1, [], 0), (17, .iload_n 1, 1, [], 0), (18, .bipush 8, 2, [], 0), (20, .iushr, 1, [], 0), (21, .invokevirtual 15, 3, [0, 0, 1, 0, 744, 0, 13], 0), (24, .aload_n 0, 1, [], 0), (25, .iload_n 1, 1, [], 0), (26, .invokevirtual 15, 3, [0, 0, 1, 0, 744, 0, 13], 0), (29, .return_, 1, [], 0)])]
def MX9_addNumber (x1 : Int) (h : Hp) : Option (Hp) :=
(bndh (MX9_addByte (iushr x1 24) h) fun h1 =>
(bndh (MX9_addByte (iushr x1 16) h1) fun h2 =>
(bndh (MX9_addByte (iushr x1 8) h2) fun h3 =>
(bndh (MX9_addByte x1 h3) fun h4 =>
(some h4)))))
def wX9_addNumber {ρ : Type} : FN ρ := fun a h k => match a with
  | [_, x1] => bndh (MX9_addNumber x1 h) (fun h2 => k 0 h2)
  | _ => none
def fsX9_addNumber (ρ : Type) : List (FN ρ) := [wX9_addByte]
def KMX9_addNumber  : CT (Hp) := []
set_option maxRecDepth 100000 in
theorem eMX9_addNumber (x1 : Int) (h : Hp) : MX9_addNumber x1 h =
  goAt false (kct (KMX9_addNumber)) (fun _ h => some (h)) (fsX9_addNumber _) sdX9_addNumber 1000 0 [(0, 13, 27), (1, 0, x1)] [] h := rfl
theorem okX9_addNumber : mokb (mi 1) = true := by decide +kernel
theorem rkX9_addNumber : rkOK 0 (mi 1).1.2.2.2.2.2.2.1 (mi 1).1.2.2.2.1 := Or.inl ⟨rfl, rfl, rfl⟩
def calX9_addNumber : List Nat := [0]
theorem foX9_addNumber {l : Launch} {ρ : Type} : fsOK l false mi calX9_addNumber (fsX9_addNumber ρ) := ⟨sndX9_addByte, trivial⟩
theorem ok_sdX9_addNumber : sdb (mi 1).1.2.1 (insOK mi (mi 1).1.1.cls (mi 1).1.2.2.1 (mi 1).1.2.2.2.2.1 (mi 1).1.2.2.2.2.2.1 calX9_addNumber false 0) sdX9_addNumber = true := by decide +kernel
theorem sMX9_addNumber {l : Launch} {h0 h' : Hp} {v : Int} (h8 : nOf h0 = 148)  (x1 : Int) (h : Hp) {r : Hp} (H : MX9_addNumber x1 h = some r) (hG : gW h' r) : PAt l false (mi 1).1 h0 v h' 0 [(0, 13, 27), (1, 0, x1)] [] h :=
  pat_w ok_sdX9_addNumber rkX9_addNumber h8 (foX9_addNumber) (fun v1 h1 q => by
    cases q
    exact ⟨hG, fun q9 => absurd rfl q9⟩) (fun q9 h9 => by cases h9) ((eMX9_addNumber x1 h).symm.trans H)
theorem sndX9_addNumber {ρ : Type} {l : Launch} : SndF (ρ := ρ) l false (mi 1).1 (wX9_addNumber) := by
    intro a h k r H ha ho hn hf
    have h8 := hf rfl
    obtain ⟨x0, x1, rfl⟩ := len2 (show a.length = 2 from ha)
    have u0 := uq13 hn (ho (13, x0) (List.mem_cons_self))
    subst u0
    replace H : bndh (MX9_addNumber x1 h) (fun h2 => k 0 h2) = some r := H
    obtain ⟨h2, H1, H2⟩ := bndh_some H
    exact ⟨0, h2, H2, met_mk (mok_base okX9_addNumber).1 (by decide +kernel) (Nat.le_of_ble_eq_true rfl) ho (sMX9_addNumber h8 x1 h H1 rfl), fun q => by cases q⟩
/-! X11_feed -/
def sdX11_feed : SD := [(0, [(0, .aload_n 0, 1, [], 0), (1, .getfield 22, 3, [11, 0, 13, 1, 690, 0], 27), (4, .getfield 100, 3, [9, 1, 0, 0, 255, 0], 0), (7, .bipush 20, 2, [], 0), (9, .iadd, 1, [], 0), (10, .sipush 400, 3, [], 0), (13, .if_icmp .le 5, 3, [], 0)]),
  (16, [(16, .iconst (-1), 1, [], 0), (17, .ireturn, 1, [], 0)]),
  (18, [(18, .aload_n 0, 1, [], 0), (19, .getfield 22, 3, [11, 0, 13, 1, 690, 0], 27), (22, .iload_n 1, 1, [], 0), (23, .invokevirtual 104, 3, [0, 0, 1, 1, 740, 0, 13], 0), (26, .aload_n 0, 1, [], 0), (27, .getfield 22, 3, [11, 0, 13, 1, 690, 0], 27), (30, .iload_n 2, 1, [], 0), (31, .invokevirtual 104, 3, [0, 0, 1, 1, 740, 0, 13], 0), (34, .aload_n 0, 1, [], 0), (35, .getfield 22, 3, [11, 0, 13, 1, 690, 0], 27), (38, .iload_n 3, 1, [], 0), (39, .invokevirtual 104, 3, [0, 0, 1, 1, 740, 0, 13], 0), (42, .aload_n 0, 1, [], 0), (43, .getfield 22, 3, [11, 0, 13, 1, 690, 0], 27), (46, .iload 4, 2, [], 0), (48, .invokevirtual 104, 3, [0, 0, 1, 1, 740, 0, 13], 0), (51, .aload_n 0, 1, [], 0), (52, .getfield 22, 3, [11, 0, 13, 1, 690, 0], 27), (55, .iload 5, 2, [], 0), (57, .invokevirtual 104, 3, [0, 0, 1, 1, 740, 0, 13], 0), (60, .aload_n 0, 1, [], 0), (61, .getfield 22, 3, [11, 0, 13, 1, 690, 0], 27), (64, .getfield 100, 3, [9, 1, 0, 0, 255, 0], 0), (67, .ireturn, 1, [], 0)])]
def MX11_feed (x1 x2 x3 x4 x5 : Int) (h : Hp) : Option (Int × Hp) :=
(if (w32 ((h 27 1) + 20)) ≤ 400 then
(bndh (MX9_addNumber x1 h) fun h1 =>
(bndh (MX9_addNumber x2 h1) fun h2 =>
(bndh (MX9_addNumber x3 h2) fun h3 =>
(bndh (MX9_addNumber x4 h3) fun h4 =>
(bndh (MX9_addNumber x5 h4) fun h5 =>
(some ((h5 27 1), h5)))))))
else
(some ((-1), h)))
def wX11_feed {ρ : Type} : FN ρ := fun a h k => match a with
  | [_, x1, x2, x3, x4, x5] => bnd (MX11_feed x1 x2 x3 x4 x5 h) (fun r h2 => k r h2)
  | _ => none
def fsX11_feed (ρ : Type) : List (FN ρ) := [wX9_addNumber]
def KMX11_feed  : CT (Int × Hp) := []
set_option maxRecDepth 100000 in
theorem eMX11_feed (x1 : Int) (x2 : Int) (x3 : Int) (x4 : Int) (x5 : Int) (h : Hp) : MX11_feed x1 x2 x3 x4 x5 h =
  goAt false (kct (KMX11_feed)) (fun v h => some ((v, h))) (fsX11_feed _) sdX11_feed 1000 0 [(0, 15, 0), (1, 0, x1), (2, 0, x2), (3, 0, x3), (4, 0, x4), (5, 0, x5)] [] h := rfl
theorem okX11_feed : mokb (mi 2) = true := by decide +kernel
theorem rkX11_feed : rkOK 1 (mi 2).1.2.2.2.2.2.2.1 (mi 2).1.2.2.2.1 := Or.inr (Or.inl ⟨rfl, rfl, rfl⟩)
def calX11_feed : List Nat := [1]
theorem foX11_feed {l : Launch} {ρ : Type} : fsOK l false mi calX11_feed (fsX11_feed ρ) := ⟨sndX9_addNumber, trivial⟩
theorem ok_sdX11_feed : sdb (mi 2).1.2.1 (insOK mi (mi 2).1.1.cls (mi 2).1.2.2.1 (mi 2).1.2.2.2.2.1 (mi 2).1.2.2.2.2.2.1 calX11_feed false 1) sdX11_feed = true := by decide +kernel
theorem sMX11_feed {l : Launch} {h0 h' : Hp} {v : Int} (h8 : nOf h0 = 148)  (x1 : Int) (x2 : Int) (x3 : Int) (x4 : Int) (x5 : Int) (h : Hp) {r : Int × Hp} (H : MX11_feed x1 x2 x3 x4 x5 h = some r) (hG : gWV v h' r) : PAt l false (mi 2).1 h0 v h' 0 [(0, 15, 0), (1, 0, x1), (2, 0, x2), (3, 0, x3), (4, 0, x4), (5, 0, x5)] [] h :=
  pat_w ok_sdX11_feed rkX11_feed h8 (foX11_feed) (fun v1 h1 q => by
    cases q
    exact ⟨hG.1, fun _ => hG.2⟩) (fun q9 h9 => by cases h9) ((eMX11_feed x1 x2 x3 x4 x5 h).symm.trans H)
theorem sndX11_feed {ρ : Type} {l : Launch} : SndF (ρ := ρ) l false (mi 2).1 (wX11_feed) := by
    intro a h k r H ha ho hn hf
    have h8 := hf rfl
    obtain ⟨x0, x1, x2, x3, x4, x5, rfl⟩ := len6 (show a.length = 6 from ha)
    have u0 := uq15 hn (ho (15, x0) (List.mem_cons_self))
    subst u0
    replace H : bnd (MX11_feed x1 x2 x3 x4 x5 h) (fun r h2 => k r h2) = some r := H
    obtain ⟨v2, h2, H1, H2⟩ := bnd_some H
    exact ⟨v2, h2, H2, met_mk (mok_base okX11_feed).1 (by decide +kernel) (Nat.le_of_ble_eq_true rfl) ho (sMX11_feed h8 x1 x2 x3 x4 x5 h H1 ⟨rfl, rfl⟩), fun q => by cases q⟩
/-! X12_put4 -/
def sdX12_put4 : SD := [(0, [(0, .bipush 24, 2, [], 0), (2, .istore_n 2, 1, [], 0)]),
  (3, [(3, .iload_n 2, 1, [], 0), (4, .ifCond .lt 32, 3, [], 0)]),
  (7, [(7, .aload_n 0, 1, [], 0), (8, .getfield 52, 3, [12, 19, 3223, 1, 1341, 0], 14), (11, .aload_n 0, 1, [], 0), (12, .getfield 180, 3, [12, 20, 0, 0, 1342, 0], 0), (15, .iload_n 1, 1, [], 0), (16, .iload_n 2, 1, [], 0), (17, .ishr, 1, [], 0), (18, .i2b, 1, [], 0), (19, .bastore, 1, [], 0), (20, .aload_n 0, 1, [], 0), (21, .dup, 1, [], 0), (22, .getfield 180, 3, [12, 20, 0, 0, 1342, 0], 0), (25, .iconst 1, 1, [], 0), (26, .iadd, 1, [], 0), (27, .putfield 180, 3, [12, 20, 0, 0, 0, 1342], 0), (30, .iinc 2 (-8), 3, [], 0), (33, .goto (-30), 3, [], 0)]),
  (36, [(36, .return_, 1, [], 0)])]
def BX12_put4_3 (n : Nat) : Nat → Int → Int → Hp → Option (Hp)
  | 0, _, _, _ => none
  | f + 1, x1, x2, h =>
    (if x2 < 0 then
    (some h)
    else
    (grd (0 ≤ (h 113 20) ∧ (h 113 20) < alen 3223)
    (ltt (up h 127 (h 113 20) (w8 (w8 (ishr x1 x2)))) fun h1 =>
    (ltt (up h1 113 20 (w32 ((h1 113 20) + 1))) fun h2 =>
    (ltt (w32 (x2 + (-8))) fun y1 =>
    (BX12_put4_3 n f x1 y1 h2))))))
def LX12_put4_3 (n : Nat) (x1 x2 : Int) (h : Hp) : Option (Hp) :=
(BX12_put4_3 n n x1 x2 h)
def MX12_put4 (n : Nat) (x1 : Int) (h : Hp) : Option (Hp) :=
(ltt 24 fun y1 =>
(LX12_put4_3 n x1 y1 h))
def wX12_put4 {ρ : Type} (n : Nat) : FN ρ := fun a h k => match a with
  | [_, x1] => bndh (MX12_put4 n x1 h) (fun h2 => k 0 h2)
  | _ => none
def fsX12_put4 (n : Nat) (ρ : Type) : List (FN ρ) := []
def KBX12_put4_3 (_ : Nat) (bk : Int → Int → Hp → Option (Hp)) : CT (Hp) := [(3, [(0, 16, (some 113)), (1, 0, none), (2, 0, none)], [], fun a c h => match a, c with
    | [x1, x2], [] => bk x1 x2 h
    | _, _ => none)]
set_option maxRecDepth 100000 in
theorem eBX12_put4_3 (n f : Nat) (x1 : Int) (x2 : Int) (h : Hp) : BX12_put4_3 n (f + 1) x1 x2 h =
  goAt false (kct (KBX12_put4_3 n (BX12_put4_3 n f))) (fun _ h => some (h)) (fsX12_put4 n _) sdX12_put4 1000 3 [(0, 16, 113), (1, 0, x1), (2, 0, x2)] [] h := rfl
def KMX12_put4 (n : Nat) : CT (Hp) := [(3, [(0, 16, (some 113)), (1, 0, none), (2, 0, none)], [], fun a c h => match a, c with
    | [x1, x2], [] => LX12_put4_3 n x1 x2 h
    | _, _ => none)]
set_option maxRecDepth 100000 in
theorem eMX12_put4 (n : Nat) (x1 : Int) (h : Hp) : MX12_put4 n x1 h =
  goAt false (kct (KMX12_put4 n)) (fun _ h => some (h)) (fsX12_put4 n _) sdX12_put4 1000 0 [(0, 16, 113), (1, 0, x1)] [] h := rfl
theorem okX12_put4 : mokb (mi 3) = true := by decide +kernel
theorem rkX12_put4 : rkOK 0 (mi 3).1.2.2.2.2.2.2.1 (mi 3).1.2.2.2.1 := Or.inl ⟨rfl, rfl, rfl⟩
def calX12_put4 : List Nat := []
theorem foX12_put4 {l : Launch} {ρ : Type} (n : Nat) : fsOK l false mi calX12_put4 (fsX12_put4 n ρ) := trivial
theorem ok_sdX12_put4 : sdb (mi 3).1.2.1 (insOK mi (mi 3).1.1.cls (mi 3).1.2.2.1 (mi 3).1.2.2.2.2.1 (mi 3).1.2.2.2.2.2.1 calX12_put4 false 0) sdX12_put4 = true := by decide +kernel
theorem sBX12_put4_3 {l : Launch} {h0 h' : Hp} {v : Int} (h8 : nOf h0 = 148) (n : Nat) : ∀ (f : Nat) (x1 : Int) (x2 : Int) (h : Hp) {r : Hp}, BX12_put4_3 n f x1 x2 h = some r → gW h' r → PAt l false (mi 3).1 h0 v h' 3 [(0, 16, 113), (1, 0, x1), (2, 0, x2)] [] h := by
  intro f
  induction f with
  | zero =>
    intro x1 x2 h r H _
    have H2 : (none : Option (Hp)) = some r := H
    cases H2
  | succ f ih =>
    intro x1 x2 h r H hG
    exact pat_w ok_sdX12_put4 rkX12_put4 h8 (foX12_put4 n) (fun v1 h1 q => by
    cases q
    exact ⟨hG, fun q9 => absurd rfl q9⟩) (List.forall_mem_cons.mpr ⟨(fun a c h H => by
      dsimp only at H
      split at H
      · exact ih _ _ _ H hG
      · cases H), (fun q9 h9 => by cases h9)⟩) ((eBX12_put4_3 n f x1 x2 h).symm.trans H)
theorem sLX12_put4_3 {l : Launch} {h0 h' : Hp} {v : Int} (h8 : nOf h0 = 148) (n : Nat) (x1 : Int) (x2 : Int) (h : Hp) {r : Hp} (H : LX12_put4_3 n x1 x2 h = some r) (hG : gW h' r) : PAt l false (mi 3).1 h0 v h' 3 [(0, 16, 113), (1, 0, x1), (2, 0, x2)] [] h :=
  sBX12_put4_3 h8 n n x1 x2 h H hG
theorem sMX12_put4 {l : Launch} {h0 h' : Hp} {v : Int} (h8 : nOf h0 = 148) (n : Nat) (x1 : Int) (h : Hp) {r : Hp} (H : MX12_put4 n x1 h = some r) (hG : gW h' r) : PAt l false (mi 3).1 h0 v h' 0 [(0, 16, 113), (1, 0, x1)] [] h :=
  pat_w ok_sdX12_put4 rkX12_put4 h8 (foX12_put4 n) (fun v1 h1 q => by
    cases q
    exact ⟨hG, fun q9 => absurd rfl q9⟩) (List.forall_mem_cons.mpr ⟨(fun a c h H => by
      dsimp only at H
      split at H
      · exact sLX12_put4_3 h8 n _ _ _ H hG
      · cases H), (fun q9 h9 => by cases h9)⟩) ((eMX12_put4 n x1 h).symm.trans H)
theorem sndX12_put4 {ρ : Type} {l : Launch} (n : Nat) : SndF (ρ := ρ) l false (mi 3).1 (wX12_put4 n) := by
    intro a h k r H ha ho hn hf
    have h8 := hf rfl
    obtain ⟨x0, x1, rfl⟩ := len2 (show a.length = 2 from ha)
    have u0 := uq16 hn (ho (16, x0) (List.mem_cons_self))
    subst u0
    replace H : bndh (MX12_put4 n x1 h) (fun h2 => k 0 h2) = some r := H
    obtain ⟨h2, H1, H2⟩ := bndh_some H
    exact ⟨0, h2, H2, met_mk (mok_base okX12_put4).1 (by decide +kernel) (Nat.le_of_ble_eq_true rfl) ho (sMX12_put4 h8 n x1 h H1 rfl), fun q => by cases q⟩
/-! X12_feed -/
def sdX12_feed : SD := [(0, [(0, .aload_n 0, 1, [], 0), (1, .getfield 180, 3, [12, 20, 0, 0, 1342, 0], 0), (4, .bipush 20, 2, [], 0), (6, .iadd, 1, [], 0), (7, .sipush 400, 3, [], 0), (10, .if_icmp .le 5, 3, [], 0)]),
  (13, [(13, .iconst (-1), 1, [], 0), (14, .ireturn, 1, [], 0)]),
  (15, [(15, .aload_n 0, 1, [], 0), (16, .iload_n 1, 1, [], 0), (17, .invokevirtual 183, 3, [0, 0, 1, 3, 1523, 0, 16], 0), (20, .aload_n 0, 1, [], 0), (21, .iload_n 2, 1, [], 0), (22, .invokevirtual 183, 3, [0, 0, 1, 3, 1523, 0, 16], 0), (25, .aload_n 0, 1, [], 0), (26, .iload_n 3, 1, [], 0), (27, .invokevirtual 183, 3, [0, 0, 1, 3, 1523, 0, 16], 0), (30, .aload_n 0, 1, [], 0), (31, .iload 4, 2, [], 0), (33, .invokevirtual 183, 3, [0, 0, 1, 3, 1523, 0, 16], 0), (36, .aload_n 0, 1, [], 0), (37, .iload 5, 2, [], 0), (39, .invokevirtual 183, 3, [0, 0, 1, 3, 1523, 0, 16], 0), (42, .aload_n 0, 1, [], 0), (43, .getfield 180, 3, [12, 20, 0, 0, 1342, 0], 0), (46, .ireturn, 1, [], 0)])]
def MX12_feed (n : Nat) (x1 x2 x3 x4 x5 : Int) (h : Hp) : Option (Int × Hp) :=
(if (w32 ((h 113 20) + 20)) ≤ 400 then
(bndh (MX12_put4 n x1 h) fun h1 =>
(bndh (MX12_put4 n x2 h1) fun h2 =>
(bndh (MX12_put4 n x3 h2) fun h3 =>
(bndh (MX12_put4 n x4 h3) fun h4 =>
(bndh (MX12_put4 n x5 h4) fun h5 =>
(some ((h5 113 20), h5)))))))
else
(some ((-1), h)))
def wX12_feed {ρ : Type} (n : Nat) : FN ρ := fun a h k => match a with
  | [_, x1, x2, x3, x4, x5] => bnd (MX12_feed n x1 x2 x3 x4 x5 h) (fun r h2 => k r h2)
  | _ => none
def fsX12_feed (n : Nat) (ρ : Type) : List (FN ρ) := [wX12_put4 n]
def KMX12_feed (_ : Nat) : CT (Int × Hp) := []
set_option maxRecDepth 100000 in
theorem eMX12_feed (n : Nat) (x1 : Int) (x2 : Int) (x3 : Int) (x4 : Int) (x5 : Int) (h : Hp) : MX12_feed n x1 x2 x3 x4 x5 h =
  goAt false (kct (KMX12_feed n)) (fun v h => some ((v, h))) (fsX12_feed n _) sdX12_feed 1000 0 [(0, 16, 113), (1, 0, x1), (2, 0, x2), (3, 0, x3), (4, 0, x4), (5, 0, x5)] [] h := rfl
theorem okX12_feed : mokb (mi 4) = true := by decide +kernel
theorem rkX12_feed : rkOK 1 (mi 4).1.2.2.2.2.2.2.1 (mi 4).1.2.2.2.1 := Or.inr (Or.inl ⟨rfl, rfl, rfl⟩)
def calX12_feed : List Nat := [3]
theorem foX12_feed {l : Launch} {ρ : Type} (n : Nat) : fsOK l false mi calX12_feed (fsX12_feed n ρ) := ⟨(sndX12_put4 n), trivial⟩
theorem ok_sdX12_feed : sdb (mi 4).1.2.1 (insOK mi (mi 4).1.1.cls (mi 4).1.2.2.1 (mi 4).1.2.2.2.2.1 (mi 4).1.2.2.2.2.2.1 calX12_feed false 1) sdX12_feed = true := by decide +kernel
theorem sMX12_feed {l : Launch} {h0 h' : Hp} {v : Int} (h8 : nOf h0 = 148) (n : Nat) (x1 : Int) (x2 : Int) (x3 : Int) (x4 : Int) (x5 : Int) (h : Hp) {r : Int × Hp} (H : MX12_feed n x1 x2 x3 x4 x5 h = some r) (hG : gWV v h' r) : PAt l false (mi 4).1 h0 v h' 0 [(0, 16, 113), (1, 0, x1), (2, 0, x2), (3, 0, x3), (4, 0, x4), (5, 0, x5)] [] h :=
  pat_w ok_sdX12_feed rkX12_feed h8 (foX12_feed n) (fun v1 h1 q => by
    cases q
    exact ⟨hG.1, fun _ => hG.2⟩) (fun q9 h9 => by cases h9) ((eMX12_feed n x1 x2 x3 x4 x5 h).symm.trans H)
theorem sndX12_feed {ρ : Type} {l : Launch} (n : Nat) : SndF (ρ := ρ) l false (mi 4).1 (wX12_feed n) := by
    intro a h k r H ha ho hn hf
    have h8 := hf rfl
    obtain ⟨x0, x1, x2, x3, x4, x5, rfl⟩ := len6 (show a.length = 6 from ha)
    have u0 := uq16 hn (ho (16, x0) (List.mem_cons_self))
    subst u0
    replace H : bnd (MX12_feed n x1 x2 x3 x4 x5 h) (fun r h2 => k r h2) = some r := H
    obtain ⟨v2, h2, H1, H2⟩ := bnd_some H
    exact ⟨v2, h2, H2, met_mk (mok_base okX12_feed).1 (by decide +kernel) (Nat.le_of_ble_eq_true rfl) ho (sMX12_feed h8 n x1 x2 x3 x4 x5 h H1 ⟨rfl, rfl⟩), fun q => by cases q⟩
/-! X11_end -/
def sdX11_end : SD := [(0, [(0, .iload_n 1, 1, [], 0), (1, .ifCond .lt 14, 3, [], 0)]),
  (4, [(4, .iload_n 1, 1, [], 0), (5, .aload_n 0, 1, [], 0), (6, .getfield 22, 3, [11, 0, 13, 1, 690, 0], 27), (9, .getfield 100, 3, [9, 1, 0, 0, 255, 0], 0), (12, .if_icmp .le 5, 3, [], 0)]),
  (15, [(15, .iconst (-1), 1, [], 0), (16, .ireturn, 1, [], 0)]),
  (17, [(17, .aload_n 0, 1, [], 0), (18, .getfield 22, 3, [11, 0, 13, 1, 690, 0], 27), (21, .iload_n 1, 1, [], 0), (22, .putfield 100, 3, [9, 1, 0, 0, 0, 255], 0), (25, .iload_n 1, 1, [], 0), (26, .ireturn, 1, [], 0)])]
def MX11_end (x1 : Int) (h : Hp) : Option (Int × Hp) :=
(if x1 < 0 then
(some ((-1), h))
else
(if x1 ≤ (h 27 1) then
(ltt (up h 27 1 x1) fun h1 =>
(some (x1, h1)))
else
(some ((-1), h))))
def wX11_end {ρ : Type} : FN ρ := fun a h k => match a with
  | [_, x1] => bnd (MX11_end x1 h) (fun r h2 => k r h2)
  | _ => none
def fsX11_end (ρ : Type) : List (FN ρ) := []
def KMX11_end  : CT (Int × Hp) := []
set_option maxRecDepth 100000 in
theorem eMX11_end (x1 : Int) (h : Hp) : MX11_end x1 h =
  goAt false (kct (KMX11_end)) (fun v h => some ((v, h))) (fsX11_end _) sdX11_end 1000 0 [(0, 15, 0), (1, 0, x1)] [] h := rfl
theorem okX11_end : mokb (mi 5) = true := by decide +kernel
theorem rkX11_end : rkOK 1 (mi 5).1.2.2.2.2.2.2.1 (mi 5).1.2.2.2.1 := Or.inr (Or.inl ⟨rfl, rfl, rfl⟩)
def calX11_end : List Nat := []
theorem foX11_end {l : Launch} {ρ : Type} : fsOK l false mi calX11_end (fsX11_end ρ) := trivial
theorem ok_sdX11_end : sdb (mi 5).1.2.1 (insOK mi (mi 5).1.1.cls (mi 5).1.2.2.1 (mi 5).1.2.2.2.2.1 (mi 5).1.2.2.2.2.2.1 calX11_end false 1) sdX11_end = true := by decide +kernel
theorem sMX11_end {l : Launch} {h0 h' : Hp} {v : Int} (h8 : nOf h0 = 148)  (x1 : Int) (h : Hp) {r : Int × Hp} (H : MX11_end x1 h = some r) (hG : gWV v h' r) : PAt l false (mi 5).1 h0 v h' 0 [(0, 15, 0), (1, 0, x1)] [] h :=
  pat_w ok_sdX11_end rkX11_end h8 (foX11_end) (fun v1 h1 q => by
    cases q
    exact ⟨hG.1, fun _ => hG.2⟩) (fun q9 h9 => by cases h9) ((eMX11_end x1 h).symm.trans H)
theorem sndX11_end {ρ : Type} {l : Launch} : SndF (ρ := ρ) l false (mi 5).1 (wX11_end) := by
    intro a h k r H ha ho hn hf
    have h8 := hf rfl
    obtain ⟨x0, x1, rfl⟩ := len2 (show a.length = 2 from ha)
    have u0 := uq15 hn (ho (15, x0) (List.mem_cons_self))
    subst u0
    replace H : bnd (MX11_end x1 h) (fun r h2 => k r h2) = some r := H
    obtain ⟨v2, h2, H1, H2⟩ := bnd_some H
    exact ⟨v2, h2, H2, met_mk (mok_base okX11_end).1 (by decide +kernel) (Nat.le_of_ble_eq_true rfl) ho (sMX11_end h8 x1 h H1 ⟨rfl, rfl⟩), fun q => by cases q⟩
/-! X12_end -/
def sdX12_end : SD := [(0, [(0, .iload_n 1, 1, [], 0), (1, .ifCond .lt 11, 3, [], 0)]),
  (4, [(4, .iload_n 1, 1, [], 0), (5, .aload_n 0, 1, [], 0), (6, .getfield 180, 3, [12, 20, 0, 0, 1342, 0], 0), (9, .if_icmp .le 5, 3, [], 0)]),
  (12, [(12, .iconst (-1), 1, [], 0), (13, .ireturn, 1, [], 0)]),
  (14, [(14, .aload_n 0, 1, [], 0), (15, .iload_n 1, 1, [], 0), (16, .putfield 180, 3, [12, 20, 0, 0, 0, 1342], 0), (19, .iload_n 1, 1, [], 0), (20, .ireturn, 1, [], 0)])]
def MX12_end (x1 : Int) (h : Hp) : Option (Int × Hp) :=
(if x1 < 0 then
(some ((-1), h))
else
(if x1 ≤ (h 113 20) then
(ltt (up h 113 20 x1) fun h1 =>
(some (x1, h1)))
else
(some ((-1), h))))
def wX12_end {ρ : Type} : FN ρ := fun a h k => match a with
  | [_, x1] => bnd (MX12_end x1 h) (fun r h2 => k r h2)
  | _ => none
def fsX12_end (ρ : Type) : List (FN ρ) := []
def KMX12_end  : CT (Int × Hp) := []
set_option maxRecDepth 100000 in
theorem eMX12_end (x1 : Int) (h : Hp) : MX12_end x1 h =
  goAt false (kct (KMX12_end)) (fun v h => some ((v, h))) (fsX12_end _) sdX12_end 1000 0 [(0, 16, 113), (1, 0, x1)] [] h := rfl
theorem okX12_end : mokb (mi 6) = true := by decide +kernel
theorem rkX12_end : rkOK 1 (mi 6).1.2.2.2.2.2.2.1 (mi 6).1.2.2.2.1 := Or.inr (Or.inl ⟨rfl, rfl, rfl⟩)
def calX12_end : List Nat := []
theorem foX12_end {l : Launch} {ρ : Type} : fsOK l false mi calX12_end (fsX12_end ρ) := trivial
theorem ok_sdX12_end : sdb (mi 6).1.2.1 (insOK mi (mi 6).1.1.cls (mi 6).1.2.2.1 (mi 6).1.2.2.2.2.1 (mi 6).1.2.2.2.2.2.1 calX12_end false 1) sdX12_end = true := by decide +kernel
theorem sMX12_end {l : Launch} {h0 h' : Hp} {v : Int} (h8 : nOf h0 = 148)  (x1 : Int) (h : Hp) {r : Int × Hp} (H : MX12_end x1 h = some r) (hG : gWV v h' r) : PAt l false (mi 6).1 h0 v h' 0 [(0, 16, 113), (1, 0, x1)] [] h :=
  pat_w ok_sdX12_end rkX12_end h8 (foX12_end) (fun v1 h1 q => by
    cases q
    exact ⟨hG.1, fun _ => hG.2⟩) (fun q9 h9 => by cases h9) ((eMX12_end x1 h).symm.trans H)
theorem sndX12_end {ρ : Type} {l : Launch} : SndF (ρ := ρ) l false (mi 6).1 (wX12_end) := by
    intro a h k r H ha ho hn hf
    have h8 := hf rfl
    obtain ⟨x0, x1, rfl⟩ := len2 (show a.length = 2 from ha)
    have u0 := uq16 hn (ho (16, x0) (List.mem_cons_self))
    subst u0
    replace H : bnd (MX12_end x1 h) (fun r h2 => k r h2) = some r := H
    obtain ⟨v2, h2, H1, H2⟩ := bnd_some H
    exact ⟨v2, h2, H2, met_mk (mok_base okX12_end).1 (by decide +kernel) (Nat.le_of_ble_eq_true rfl) ho (sMX12_end h8 x1 h H1 ⟨rfl, rfl⟩), fun q => by cases q⟩
/-! X10_clear -/
def sdX10_clear : SD := [(0, [(0, .iconst 0, 1, [], 0), (1, .istore_n 1, 1, [], 0)]),
  (2, [(2, .iload_n 1, 1, [], 0), (3, .iconst 3, 1, [], 0), (4, .if_icmp .ge 37, 3, [], 0)]),
  (7, [(7, .aload_n 0, 1, [], 0), (8, .getfield 9, 3, [10, 0, 68, 1, 165, 0], 1), (11, .iload_n 1, 1, [], 0), (12, .sipush 2000, 3, [], 0), (15, .iastore, 1, [], 0), (16, .aload_n 0, 1, [], 0), (17, .getfield 9, 3, [10, 0, 68, 1, 165, 0], 1), (20, .iconst 3, 1, [], 0), (21, .iload_n 1, 1, [], 0), (22, .iadd, 1, [], 0), (23, .bipush 100, 2, [], 0), (25, .iastore, 1, [], 0), (26, .aload_n 0, 1, [], 0), (27, .getfield 17, 3, [10, 1, 50, 1, 167, 0], 2), (30, .iload_n 1, 1, [], 0), (31, .aaload, 1, [], 0), (32, .iconst 0, 1, [], 0), (33, .iconst 0, 1, [], 0), (34, .iastore, 1, [], 0), (35, .iinc 1 1, 3, [], 0), (38, .goto (-36), 3, [], 0)]),
  (41, [(41, .aload_n 0, 1, [], 0), (42, .bipush 10, 2, [], 0), (44, .putfield 44, 3, [10, 9, 0, 0, 0, 193], 0), (47, .aload_n 0, 1, [], 0), (48, .bipush 50, 2, [], 0), (50, .putfield 48, 3, [10, 10, 0, 0, 0, 196], 0), (53, .aload_n 0, 1, [], 0), (54, .iconst 0, 1, [], 0), (55, .putfield 51, 3, [10, 11, 0, 0, 0, 202], 0), (58, .aload_n 0, 1, [], 0), (59, .iconst 0, 1, [], 0), (60, .putfield 54, 3, [10, 12, 0, 0, 0, 207], 0), (63, .aload_n 0, 1, [], 0), (64, .iconst 0, 1, [], 0), (65, .putfield 57, 3, [10, 13, 0, 0, 0, 210], 0), (68, .aload_n 0, 1, [], 0), (69, .iconst 0, 1, [], 0), (70, .putfield 60, 3, [10, 14, 0, 0, 0, 213], 0), (73, .return_, 1, [], 0)])]
def BX10_clear_2 (n : Nat) : Nat → Int → Int → Hp → Option (Hp)
  | 0, _, _, _ => none
  | f + 1, x0, x1, h =>
    (if 3 ≤ x1 then
    (ltt (up h x0 9 10) fun h1 =>
    (ltt (up h1 x0 10 50) fun h2 =>
    (ltt (up h2 x0 11 0) fun h3 =>
    (ltt (up h3 x0 12 0) fun h4 =>
    (ltt (up h4 x0 13 0) fun h5 =>
    (ltt (up h5 x0 14 0) fun h6 =>
    (some h6)))))))
    else
    (grd (0 ≤ x1 ∧ x1 < alen 68)
    (ltt (up h (x0 + 1) x1 2000) fun h7 =>
    (grd (0 ≤ (w32 (3 + x1)) ∧ (w32 (3 + x1)) < alen 68)
    (ltt (up h7 (x0 + 1) (w32 (3 + x1)) 100) fun h8 =>
    (grd (0 ≤ x1 ∧ x1 < alen 50)
    (grd (0 ≤ 0 ∧ 0 < alen 540)
    (ltt (up h8 ((x0 + 2) + 1 + x1) 0 0) fun h9 =>
    (ltt (w32 (x1 + 1)) fun y1 =>
    (BX10_clear_2 n f x0 y1 h9))))))))))
def LX10_clear_2 (n : Nat) (x0 x1 : Int) (h : Hp) : Option (Hp) :=
(BX10_clear_2 n n x0 x1 h)
def MX10_clear (n : Nat) (x0 : Int) (h : Hp) : Option (Hp) :=
(ltt 0 fun y1 =>
(LX10_clear_2 n x0 y1 h))
def wX10_clear {ρ : Type} (n : Nat) : FN ρ := fun a h k => match a with
  | [x0] => bndh (MX10_clear n x0 h) (fun h2 => k 0 h2)
  | _ => none
def fsX10_clear (n : Nat) (ρ : Type) : List (FN ρ) := []
def KBX10_clear_2 (_ : Nat) (bk : Int → Int → Hp → Option (Hp)) : CT (Hp) := [(2, [(0, 14, none), (1, 0, none)], [], fun a c h => match a, c with
    | [x0, x1], [] => bk x0 x1 h
    | _, _ => none)]
set_option maxRecDepth 100000 in
theorem eBX10_clear_2 (n f : Nat) (x0 : Int) (x1 : Int) (h : Hp) : BX10_clear_2 n (f + 1) x0 x1 h =
  goAt false (kct (KBX10_clear_2 n (BX10_clear_2 n f))) (fun _ h => some (h)) (fsX10_clear n _) sdX10_clear 1000 2 [(0, 14, x0), (1, 0, x1)] [] h := rfl
def KMX10_clear (n : Nat) : CT (Hp) := [(2, [(0, 14, none), (1, 0, none)], [], fun a c h => match a, c with
    | [x0, x1], [] => LX10_clear_2 n x0 x1 h
    | _, _ => none)]
set_option maxRecDepth 100000 in
theorem eMX10_clear (n : Nat) (x0 : Int) (h : Hp) : MX10_clear n x0 h =
  goAt false (kct (KMX10_clear n)) (fun _ h => some (h)) (fsX10_clear n _) sdX10_clear 1000 0 [(0, 14, x0)] [] h := rfl
theorem okX10_clear : mokb (mi 7) = true := by decide +kernel
theorem rkX10_clear : rkOK 0 (mi 7).1.2.2.2.2.2.2.1 (mi 7).1.2.2.2.1 := Or.inl ⟨rfl, rfl, rfl⟩
def calX10_clear : List Nat := []
theorem foX10_clear {l : Launch} {ρ : Type} (n : Nat) : fsOK l false mi calX10_clear (fsX10_clear n ρ) := trivial
theorem ok_sdX10_clear : sdb (mi 7).1.2.1 (insOK mi (mi 7).1.1.cls (mi 7).1.2.2.1 (mi 7).1.2.2.2.2.1 (mi 7).1.2.2.2.2.2.1 calX10_clear false 0) sdX10_clear = true := by decide +kernel
theorem sBX10_clear_2 {l : Launch} {h0 h' : Hp} {v : Int} (h8 : nOf h0 = 148) (n : Nat) : ∀ (f : Nat) (x0 : Int) (x1 : Int) (h : Hp) {r : Hp}, BX10_clear_2 n f x0 x1 h = some r → gW h' r → PAt l false (mi 7).1 h0 v h' 2 [(0, 14, x0), (1, 0, x1)] [] h := by
  intro f
  induction f with
  | zero =>
    intro x0 x1 h r H _
    have H2 : (none : Option (Hp)) = some r := H
    cases H2
  | succ f ih =>
    intro x0 x1 h r H hG
    exact pat_w ok_sdX10_clear rkX10_clear h8 (foX10_clear n) (fun v1 h1 q => by
    cases q
    exact ⟨hG, fun q9 => absurd rfl q9⟩) (List.forall_mem_cons.mpr ⟨(fun a c h H => by
      dsimp only at H
      split at H
      · exact ih _ _ _ H hG
      · cases H), (fun q9 h9 => by cases h9)⟩) ((eBX10_clear_2 n f x0 x1 h).symm.trans H)
theorem sLX10_clear_2 {l : Launch} {h0 h' : Hp} {v : Int} (h8 : nOf h0 = 148) (n : Nat) (x0 : Int) (x1 : Int) (h : Hp) {r : Hp} (H : LX10_clear_2 n x0 x1 h = some r) (hG : gW h' r) : PAt l false (mi 7).1 h0 v h' 2 [(0, 14, x0), (1, 0, x1)] [] h :=
  sBX10_clear_2 h8 n n x0 x1 h H hG
theorem sMX10_clear {l : Launch} {h0 h' : Hp} {v : Int} (h8 : nOf h0 = 148) (n : Nat) (x0 : Int) (h : Hp) {r : Hp} (H : MX10_clear n x0 h = some r) (hG : gW h' r) : PAt l false (mi 7).1 h0 v h' 0 [(0, 14, x0)] [] h :=
  pat_w ok_sdX10_clear rkX10_clear h8 (foX10_clear n) (fun v1 h1 q => by
    cases q
    exact ⟨hG, fun q9 => absurd rfl q9⟩) (List.forall_mem_cons.mpr ⟨(fun a c h H => by
      dsimp only at H
      split at H
      · exact sLX10_clear_2 h8 n _ _ _ H hG
      · cases H), (fun q9 h9 => by cases h9)⟩) ((eMX10_clear n x0 h).symm.trans H)
theorem sndX10_clear {ρ : Type} {l : Launch} (n : Nat) : SndF (ρ := ρ) l false (mi 7).1 (wX10_clear n) := by
    intro a h k r H ha ho hn hf
    have h8 := hf rfl
    obtain ⟨x0, rfl⟩ := len1 (show a.length = 1 from ha)
    replace H : bndh (MX10_clear n x0 h) (fun h2 => k 0 h2) = some r := H
    obtain ⟨h2, H1, H2⟩ := bndh_some H
    exact ⟨0, h2, H2, met_mk (mok_base okX10_clear).1 (by decide +kernel) (Nat.le_of_ble_eq_true rfl) ho (sMX10_clear h8 n x0 h H1 rfl), fun q => by cases q⟩
/-! X9_rewind -/
def sdX9_rewind : SD := [(0, [(0, .aload_n 0, 1, [], 0), (1, .iconst 0, 1, [], 0), (2, .putfield 23, 3, [9, 4, 0, 0, 0, 261], 0), (5, .return_, 1, [], 0)])]
def MX9_rewind (h : Hp) : Option (Hp) :=
(ltt (up h 27 4 0) fun h1 =>
(some h1))
def wX9_rewind {ρ : Type} : FN ρ := fun a h k => match a with
  | [_] => bndh (MX9_rewind h) (fun h2 => k 0 h2)
  | _ => none
def fsX9_rewind (ρ : Type) : List (FN ρ) := []
def KMX9_rewind  : CT (Hp) := []
set_option maxRecDepth 100000 in
theorem eMX9_rewind (h : Hp) : MX9_rewind h =
  goAt false (kct (KMX9_rewind)) (fun _ h => some (h)) (fsX9_rewind _) sdX9_rewind 1000 0 [(0, 13, 27)] [] h := rfl
theorem okX9_rewind : mokb (mi 8) = true := by decide +kernel
theorem rkX9_rewind : rkOK 0 (mi 8).1.2.2.2.2.2.2.1 (mi 8).1.2.2.2.1 := Or.inl ⟨rfl, rfl, rfl⟩
def calX9_rewind : List Nat := []
theorem foX9_rewind {l : Launch} {ρ : Type} : fsOK l false mi calX9_rewind (fsX9_rewind ρ) := trivial
theorem ok_sdX9_rewind : sdb (mi 8).1.2.1 (insOK mi (mi 8).1.1.cls (mi 8).1.2.2.1 (mi 8).1.2.2.2.2.1 (mi 8).1.2.2.2.2.2.1 calX9_rewind false 0) sdX9_rewind = true := by decide +kernel
theorem sMX9_rewind {l : Launch} {h0 h' : Hp} {v : Int} (h8 : nOf h0 = 148)   (h : Hp) {r : Hp} (H : MX9_rewind h = some r) (hG : gW h' r) : PAt l false (mi 8).1 h0 v h' 0 [(0, 13, 27)] [] h :=
  pat_w ok_sdX9_rewind rkX9_rewind h8 (foX9_rewind) (fun v1 h1 q => by
    cases q
    exact ⟨hG, fun q9 => absurd rfl q9⟩) (fun q9 h9 => by cases h9) ((eMX9_rewind h).symm.trans H)
theorem sndX9_rewind {ρ : Type} {l : Launch} : SndF (ρ := ρ) l false (mi 8).1 (wX9_rewind) := by
    intro a h k r H ha ho hn hf
    have h8 := hf rfl
    obtain ⟨x0, rfl⟩ := len1 (show a.length = 1 from ha)
    have u0 := uq13 hn (ho (13, x0) (List.mem_cons_self))
    subst u0
    replace H : bndh (MX9_rewind h) (fun h2 => k 0 h2) = some r := H
    obtain ⟨h2, H1, H2⟩ := bndh_some H
    exact ⟨0, h2, H2, met_mk (mok_base okX9_rewind).1 (by decide +kernel) (Nat.le_of_ble_eq_true rfl) ho (sMX9_rewind h8  h H1 rfl), fun q => by cases q⟩
/-! X9_isBlank -/
def sdX9_isBlank : SD := [(0, [(0, .iload_n 0, 1, [], 0), (1, .bipush 32, 2, [], 0), (3, .if_icmp .eq 9, 3, [], 0)]),
  (6, [(6, .iload_n 0, 1, [], 0), (7, .bipush 10, 2, [], 0), (9, .if_icmp .ne 7, 3, [], 0)]),
  (12, [(12, .iconst 1, 1, [], 0), (13, .goto 4, 3, [], 0)]),
  (16, [(16, .iconst 0, 1, [], 0)]),
  (17, [(17, .ireturn, 1, [1], 0)])]
def MX9_isBlank (x0 : Int) : Option (Int) :=
(if x0 = 32 then
(some 1)
else
(if x0 ≠ 10 then
(some 0)
else
(some 1)))
def wX9_isBlank {ρ : Type} : FN ρ := fun a h k => match a with
  | [x0] => bndp (MX9_isBlank x0) (fun r => k r h)
  | _ => none
def fsX9_isBlank (ρ : Type) : List (FN ρ) := []
def KMX9_isBlank  : CT (Int) := []
set_option maxRecDepth 100000 in
theorem eMX9_isBlank (x0 : Int) (h : Hp) : MX9_isBlank x0 =
  goAt false (kct (KMX9_isBlank)) (fun v _ => some (v)) (fsX9_isBlank _) sdX9_isBlank 1000 0 [(0, 0, x0)] [] h := rfl
theorem okX9_isBlank : mokb (mi 9) = true := by decide +kernel
theorem rkX9_isBlank : rkOK 4 (mi 9).1.2.2.2.2.2.2.1 (mi 9).1.2.2.2.1 := Or.inr (Or.inr (Or.inl ⟨rfl, rfl, rfl⟩))
def calX9_isBlank : List Nat := []
theorem foX9_isBlank {l : Launch} {ρ : Type} : fsOK l false mi calX9_isBlank (fsX9_isBlank ρ) := trivial
theorem frX9_isBlank {ρ : Type} : ∀ fn ∈ fsX9_isBlank ρ, RoF fn := (fun q9 h9 => by cases h9)
theorem ok_sdX9_isBlank : sdb (mi 9).1.2.1 (insOK mi (mi 9).1.1.cls (mi 9).1.2.2.1 (mi 9).1.2.2.2.2.1 (mi 9).1.2.2.2.2.2.1 calX9_isBlank false 4) sdX9_isBlank = true := by decide +kernel
theorem sMX9_isBlank {l : Launch} {h0 : Hp} {v : Int} (h8 : nOf h0 = 148)  (x0 : Int) (h : Hp) {r : Int} (H : MX9_isBlank x0 = some r) (hG : gV v r) : PAt l false (mi 9).1 h0 v h 0 [(0, 0, x0)] [] h :=
  pat_ro ok_sdX9_isBlank rfl rkX9_isBlank h8 (foX9_isBlank) (frX9_isBlank) (fun v1 q => by
    cases q
    exact ⟨rfl, fun _ => hG⟩) (fun q9 h9 => by cases h9) ((eMX9_isBlank x0 h).symm.trans H)
theorem sndX9_isBlank {ρ : Type} {l : Launch} : SndF (ρ := ρ) l false (mi 9).1 (wX9_isBlank) := by
    intro a h k r H ha ho hn hf
    have h8 := hf rfl
    obtain ⟨x0, rfl⟩ := len1 (show a.length = 1 from ha)
    replace H : bndp (MX9_isBlank x0) (fun r => k r h) = some r := H
    obtain ⟨v2, H1, H2⟩ := bndp_some H
    exact ⟨v2, h, H2, met_mk (mok_base okX9_isBlank).1 (by decide +kernel) (Nat.le_of_ble_eq_true rfl) ho (sMX9_isBlank h8 x0 h H1 rfl), fun q => by cases q⟩
theorem roX9_isBlank {ρ : Type} : RoF (wX9_isBlank : FN ρ) := fun a h k k2 hk => by
  unfold wX9_isBlank
  split
  · exact bndp_ro hk
  · rfl
/-! X9_isLetter -/
def sdX9_isLetter : SD := [(0, [(0, .iload_n 0, 1, [], 0), (1, .bipush 97, 2, [], 0), (3, .if_icmp .lt 13, 3, [], 0)]),
  (6, [(6, .iload_n 0, 1, [], 0), (7, .bipush 122, 2, [], 0), (9, .if_icmp .gt 7, 3, [], 0)]),
  (12, [(12, .iconst 1, 1, [], 0), (13, .goto 4, 3, [], 0)]),
  (16, [(16, .iconst 0, 1, [], 0)]),
  (17, [(17, .ireturn, 1, [1], 0)])]
def MX9_isLetter (x0 : Int) : Option (Int) :=
(if x0 < 97 then
(some 0)
else
(if 122 < x0 then
(some 0)
else
(some 1)))
def wX9_isLetter {ρ : Type} : FN ρ := fun a h k => match a with
  | [x0] => bndp (MX9_isLetter x0) (fun r => k r h)
  | _ => none
def fsX9_isLetter (ρ : Type) : List (FN ρ) := []
def KMX9_isLetter  : CT (Int) := []
set_option maxRecDepth 100000 in
theorem eMX9_isLetter (x0 : Int) (h : Hp) : MX9_isLetter x0 =
  goAt false (kct (KMX9_isLetter)) (fun v _ => some (v)) (fsX9_isLetter _) sdX9_isLetter 1000 0 [(0, 0, x0)] [] h := rfl
theorem okX9_isLetter : mokb (mi 10) = true := by decide +kernel
theorem rkX9_isLetter : rkOK 4 (mi 10).1.2.2.2.2.2.2.1 (mi 10).1.2.2.2.1 := Or.inr (Or.inr (Or.inl ⟨rfl, rfl, rfl⟩))
def calX9_isLetter : List Nat := []
theorem foX9_isLetter {l : Launch} {ρ : Type} : fsOK l false mi calX9_isLetter (fsX9_isLetter ρ) := trivial
theorem frX9_isLetter {ρ : Type} : ∀ fn ∈ fsX9_isLetter ρ, RoF fn := (fun q9 h9 => by cases h9)
theorem ok_sdX9_isLetter : sdb (mi 10).1.2.1 (insOK mi (mi 10).1.1.cls (mi 10).1.2.2.1 (mi 10).1.2.2.2.2.1 (mi 10).1.2.2.2.2.2.1 calX9_isLetter false 4) sdX9_isLetter = true := by decide +kernel
theorem sMX9_isLetter {l : Launch} {h0 : Hp} {v : Int} (h8 : nOf h0 = 148)  (x0 : Int) (h : Hp) {r : Int} (H : MX9_isLetter x0 = some r) (hG : gV v r) : PAt l false (mi 10).1 h0 v h 0 [(0, 0, x0)] [] h :=
  pat_ro ok_sdX9_isLetter rfl rkX9_isLetter h8 (foX9_isLetter) (frX9_isLetter) (fun v1 q => by
    cases q
    exact ⟨rfl, fun _ => hG⟩) (fun q9 h9 => by cases h9) ((eMX9_isLetter x0 h).symm.trans H)
theorem sndX9_isLetter {ρ : Type} {l : Launch} : SndF (ρ := ρ) l false (mi 10).1 (wX9_isLetter) := by
    intro a h k r H ha ho hn hf
    have h8 := hf rfl
    obtain ⟨x0, rfl⟩ := len1 (show a.length = 1 from ha)
    replace H : bndp (MX9_isLetter x0) (fun r => k r h) = some r := H
    obtain ⟨v2, H1, H2⟩ := bndp_some H
    exact ⟨v2, h, H2, met_mk (mok_base okX9_isLetter).1 (by decide +kernel) (Nat.le_of_ble_eq_true rfl) ho (sMX9_isLetter h8 x0 h H1 rfl), fun q => by cases q⟩
theorem roX9_isLetter {ρ : Type} : RoF (wX9_isLetter : FN ρ) := fun a h k k2 hk => by
  unfold wX9_isLetter
  split
  · exact bndp_ro hk
  · rfl
/-! X9_takeWord -/
def sdX9_takeWord : SD := [(0, [(0, .aload_n 0, 1, [], 0), (1, .iconst 1, 1, [], 0), (2, .putfield 33, 3, [9, 2, 0, 0, 0, 258], 0)]),
  (5, [(5, .aload_n 0, 1, [], 0), (6, .getfield 23, 3, [9, 4, 0, 0, 261, 0], 0), (9, .aload_n 0, 1, [], 0), (10, .getfield 19, 3, [9, 1, 0, 0, 256, 0], 0), (13, .if_icmp .ge 31, 3, [], 0)]),
  (16, [(16, .aload_n 0, 1, [], 0), (17, .getfield 9, 3, [9, 0, 3220, 1, 254, 0], 1), (20, .aload_n 0, 1, [], 0), (21, .getfield 23, 3, [9, 4, 0, 0, 261, 0], 0), (24, .iaload, 1, [], 0), (25, .invokestatic 36, 3, [1, 0, 3, 10, 772, 0], 0), (28, .ifCond .eq 16, 3, [], 0)]),
  (31, [(31, .aload_n 0, 1, [], 0), (32, .dup, 1, [], 0), (33, .getfield 23, 3, [9, 4, 0, 0, 261, 0], 0), (36, .iconst 1, 1, [], 0), (37, .iadd, 1, [], 0), (38, .putfield 23, 3, [9, 4, 0, 0, 0, 261], 0), (41, .goto (-36), 3, [], 0)]),
  (44, [(44, .return_, 1, [], 0)])]
def BX9_takeWord_5 (n : Nat) : Nat → Hp → Option (Hp)
  | 0, _ => none
  | f + 1, h =>
    (if (h 27 1) ≤ (h 27 4) then
    (some h)
    else
    (grd (0 ≤ (h 27 4) ∧ (h 27 4) < alen 3220)
    (bndp (MX9_isLetter (h 28 (h 27 4))) fun r1 =>
    (if r1 = 0 then
    (some h)
    else
    (ltt (up h 27 4 (w32 ((h 27 4) + 1))) fun h1 =>
    (BX9_takeWord_5 n f h1))))))
def LX9_takeWord_5 (n : Nat) (h : Hp) : Option (Hp) :=
(BX9_takeWord_5 n n h)
def MX9_takeWord (n : Nat) (h : Hp) : Option (Hp) :=
(ltt (up h 27 2 1) fun h1 =>
(LX9_takeWord_5 n h1))
def wX9_takeWord {ρ : Type} (n : Nat) : FN ρ := fun a h k => match a with
  | [_] => bndh (MX9_takeWord n h) (fun h2 => k 0 h2)
  | _ => none
def fsX9_takeWord (n : Nat) (ρ : Type) : List (FN ρ) := [wX9_isLetter]
def KBX9_takeWord_5 (_ : Nat) (bk : Hp → Option (Hp)) : CT (Hp) := [(5, [(0, 13, (some 27))], [], fun a c h => match a, c with
    | [], [] => bk h
    | _, _ => none)]
set_option maxRecDepth 100000 in
theorem eBX9_takeWord_5 (n f : Nat) (h : Hp) : BX9_takeWord_5 n (f + 1) h =
  goAt false (kct (KBX9_takeWord_5 n (BX9_takeWord_5 n f))) (fun _ h => some (h)) (fsX9_takeWord n _) sdX9_takeWord 1000 5 [(0, 13, 27)] [] h := rfl
def KMX9_takeWord (n : Nat) : CT (Hp) := [(5, [(0, 13, (some 27))], [], fun a c h => match a, c with
    | [], [] => LX9_takeWord_5 n h
    | _, _ => none)]
set_option maxRecDepth 100000 in
theorem eMX9_takeWord (n : Nat) (h : Hp) : MX9_takeWord n h =
  goAt false (kct (KMX9_takeWord n)) (fun _ h => some (h)) (fsX9_takeWord n _) sdX9_takeWord 1000 0 [(0, 13, 27)] [] h := rfl
theorem okX9_takeWord : mokb (mi 11) = true := by decide +kernel
theorem rkX9_takeWord : rkOK 0 (mi 11).1.2.2.2.2.2.2.1 (mi 11).1.2.2.2.1 := Or.inl ⟨rfl, rfl, rfl⟩
def calX9_takeWord : List Nat := [10]
theorem foX9_takeWord {l : Launch} {ρ : Type} (n : Nat) : fsOK l false mi calX9_takeWord (fsX9_takeWord n ρ) := ⟨sndX9_isLetter, trivial⟩
theorem ok_sdX9_takeWord : sdb (mi 11).1.2.1 (insOK mi (mi 11).1.1.cls (mi 11).1.2.2.1 (mi 11).1.2.2.2.2.1 (mi 11).1.2.2.2.2.2.1 calX9_takeWord false 0) sdX9_takeWord = true := by decide +kernel
theorem sBX9_takeWord_5 {l : Launch} {h0 h' : Hp} {v : Int} (h8 : nOf h0 = 148) (n : Nat) : ∀ (f : Nat)  (h : Hp) {r : Hp}, BX9_takeWord_5 n f h = some r → gW h' r → PAt l false (mi 11).1 h0 v h' 5 [(0, 13, 27)] [] h := by
  intro f
  induction f with
  | zero =>
    intro h r H _
    have H2 : (none : Option (Hp)) = some r := H
    cases H2
  | succ f ih =>
    intro h r H hG
    exact pat_w ok_sdX9_takeWord rkX9_takeWord h8 (foX9_takeWord n) (fun v1 h1 q => by
    cases q
    exact ⟨hG, fun q9 => absurd rfl q9⟩) (List.forall_mem_cons.mpr ⟨(fun a c h H => by
      dsimp only at H
      split at H
      · exact ih _ H hG
      · cases H), (fun q9 h9 => by cases h9)⟩) ((eBX9_takeWord_5 n f  h).symm.trans H)
theorem sLX9_takeWord_5 {l : Launch} {h0 h' : Hp} {v : Int} (h8 : nOf h0 = 148) (n : Nat)  (h : Hp) {r : Hp} (H : LX9_takeWord_5 n h = some r) (hG : gW h' r) : PAt l false (mi 11).1 h0 v h' 5 [(0, 13, 27)] [] h :=
  sBX9_takeWord_5 h8 n n h H hG
theorem sMX9_takeWord {l : Launch} {h0 h' : Hp} {v : Int} (h8 : nOf h0 = 148) (n : Nat)  (h : Hp) {r : Hp} (H : MX9_takeWord n h = some r) (hG : gW h' r) : PAt l false (mi 11).1 h0 v h' 0 [(0, 13, 27)] [] h :=
  pat_w ok_sdX9_takeWord rkX9_takeWord h8 (foX9_takeWord n) (fun v1 h1 q => by
    cases q
    exact ⟨hG, fun q9 => absurd rfl q9⟩) (List.forall_mem_cons.mpr ⟨(fun a c h H => by
      dsimp only at H
      split at H
      · exact sLX9_takeWord_5 h8 n _ H hG
      · cases H), (fun q9 h9 => by cases h9)⟩) ((eMX9_takeWord n h).symm.trans H)
theorem sndX9_takeWord {ρ : Type} {l : Launch} (n : Nat) : SndF (ρ := ρ) l false (mi 11).1 (wX9_takeWord n) := by
    intro a h k r H ha ho hn hf
    have h8 := hf rfl
    obtain ⟨x0, rfl⟩ := len1 (show a.length = 1 from ha)
    have u0 := uq13 hn (ho (13, x0) (List.mem_cons_self))
    subst u0
    replace H : bndh (MX9_takeWord n h) (fun h2 => k 0 h2) = some r := H
    obtain ⟨h2, H1, H2⟩ := bndh_some H
    exact ⟨0, h2, H2, met_mk (mok_base okX9_takeWord).1 (by decide +kernel) (Nat.le_of_ble_eq_true rfl) ho (sMX9_takeWord h8 n  h H1 rfl), fun q => by cases q⟩
/-! X9_isDigit -/
def sdX9_isDigit : SD := [(0, [(0, .iload_n 0, 1, [], 0), (1, .bipush 48, 2, [], 0), (3, .if_icmp .lt 13, 3, [], 0)]),
  (6, [(6, .iload_n 0, 1, [], 0), (7, .bipush 57, 2, [], 0), (9, .if_icmp .gt 7, 3, [], 0)]),
  (12, [(12, .iconst 1, 1, [], 0), (13, .goto 4, 3, [], 0)]),
  (16, [(16, .iconst 0, 1, [], 0)]),
  (17, [(17, .ireturn, 1, [1], 0)])]
def MX9_isDigit (x0 : Int) : Option (Int) :=
(if x0 < 48 then
(some 0)
else
(if 57 < x0 then
(some 0)
else
(some 1)))
def wX9_isDigit {ρ : Type} : FN ρ := fun a h k => match a with
  | [x0] => bndp (MX9_isDigit x0) (fun r => k r h)
  | _ => none
def fsX9_isDigit (ρ : Type) : List (FN ρ) := []
def KMX9_isDigit  : CT (Int) := []
set_option maxRecDepth 100000 in
theorem eMX9_isDigit (x0 : Int) (h : Hp) : MX9_isDigit x0 =
  goAt false (kct (KMX9_isDigit)) (fun v _ => some (v)) (fsX9_isDigit _) sdX9_isDigit 1000 0 [(0, 0, x0)] [] h := rfl
theorem okX9_isDigit : mokb (mi 12) = true := by decide +kernel
theorem rkX9_isDigit : rkOK 4 (mi 12).1.2.2.2.2.2.2.1 (mi 12).1.2.2.2.1 := Or.inr (Or.inr (Or.inl ⟨rfl, rfl, rfl⟩))
def calX9_isDigit : List Nat := []
theorem foX9_isDigit {l : Launch} {ρ : Type} : fsOK l false mi calX9_isDigit (fsX9_isDigit ρ) := trivial
theorem frX9_isDigit {ρ : Type} : ∀ fn ∈ fsX9_isDigit ρ, RoF fn := (fun q9 h9 => by cases h9)
theorem ok_sdX9_isDigit : sdb (mi 12).1.2.1 (insOK mi (mi 12).1.1.cls (mi 12).1.2.2.1 (mi 12).1.2.2.2.2.1 (mi 12).1.2.2.2.2.2.1 calX9_isDigit false 4) sdX9_isDigit = true := by decide +kernel
theorem sMX9_isDigit {l : Launch} {h0 : Hp} {v : Int} (h8 : nOf h0 = 148)  (x0 : Int) (h : Hp) {r : Int} (H : MX9_isDigit x0 = some r) (hG : gV v r) : PAt l false (mi 12).1 h0 v h 0 [(0, 0, x0)] [] h :=
  pat_ro ok_sdX9_isDigit rfl rkX9_isDigit h8 (foX9_isDigit) (frX9_isDigit) (fun v1 q => by
    cases q
    exact ⟨rfl, fun _ => hG⟩) (fun q9 h9 => by cases h9) ((eMX9_isDigit x0 h).symm.trans H)
theorem sndX9_isDigit {ρ : Type} {l : Launch} : SndF (ρ := ρ) l false (mi 12).1 (wX9_isDigit) := by
    intro a h k r H ha ho hn hf
    have h8 := hf rfl
    obtain ⟨x0, rfl⟩ := len1 (show a.length = 1 from ha)
    replace H : bndp (MX9_isDigit x0) (fun r => k r h) = some r := H
    obtain ⟨v2, H1, H2⟩ := bndp_some H
    exact ⟨v2, h, H2, met_mk (mok_base okX9_isDigit).1 (by decide +kernel) (Nat.le_of_ble_eq_true rfl) ho (sMX9_isDigit h8 x0 h H1 rfl), fun q => by cases q⟩
theorem roX9_isDigit {ρ : Type} : RoF (wX9_isDigit : FN ρ) := fun a h k k2 hk => by
  unfold wX9_isDigit
  split
  · exact bndp_ro hk
  · rfl
/-! X9_takeDigits -/
def sdX9_takeDigits : SD := [(0, [(0, .aload_n 0, 1, [], 0), (1, .iconst 2, 1, [], 0), (2, .putfield 33, 3, [9, 2, 0, 0, 0, 258], 0), (5, .aload_n 0, 1, [], 0), (6, .iconst 0, 1, [], 0), (7, .putfield 48, 3, [9, 5, 0, 0, 0, 263], 0)]),
  (10, [(10, .aload_n 0, 1, [], 0), (11, .getfield 23, 3, [9, 4, 0, 0, 261, 0], 0), (14, .aload_n 0, 1, [], 0), (15, .getfield 19, 3, [9, 1, 0, 0, 256, 0], 0), (18, .if_icmp .ge 60, 3, [], 0)]),
  (21, [(21, .aload_n 0, 1, [], 0), (22, .getfield 9, 3, [9, 0, 3220, 1, 254, 0], 1), (25, .aload_n 0, 1, [], 0), (26, .getfield 23, 3, [9, 4, 0, 0, 261, 0], 0), (29, .iaload, 1, [], 0), (30, .invokestatic 42, 3, [1, 0, 3, 12, 779, 0], 0), (33, .ifCond .eq 45, 3, [], 0)]),
  (36, [(36, .aload_n 0, 1, [], 0), (37, .ldc 51, 2, [0, 786], 1000000), (39, .aload_n 0, 1, [], 0), (40, .getfield 48, 3, [9, 5, 0, 0, 263, 0], 0), (43, .bipush 10, 2, [], 0), (45, .imul, 1, [], 0), (46, .aload_n 0, 1, [], 0), (47, .getfield 9, 3, [9, 0, 3220, 1, 254, 0], 1), (50, .aload_n 0, 1, [], 0), (51, .getfield 23, 3, [9, 4, 0, 0, 261, 0], 0), (54, .iaload, 1, [], 0), (55, .iadd, 1, [], 0), (56, .bipush 48, 2, [], 0), (58, .isub, 1, [], 0), (59, .invokestatic 52, 3, [1, 1, 3, 261, 787, 0, 0], 0), (62, .putfield 48, 3, [9, 5, 0, 0, 0, 263], 0), (65, .aload_n 0, 1, [], 0), (66, .dup, 1, [], 0), (67, .getfield 23, 3, [9, 4, 0, 0, 261, 0], 0), (70, .iconst 1, 1, [], 0), (71, .iadd, 1, [], 0), (72, .putfield 23, 3, [9, 4, 0, 0, 0, 261], 0), (75, .goto (-65), 3, [], 0)]),
  (78, [(78, .return_, 1, [], 0)])]
def BX9_takeDigits_10 (n : Nat) : Nat → Hp → Option (Hp)
  | 0, _ => none
  | f + 1, h =>
    (if (h 27 1) ≤ (h 27 4) then
    (some h)
    else
    (grd (0 ≤ (h 27 4) ∧ (h 27 4) < alen 3220)
    (bndp (MX9_isDigit (h 28 (h 27 4))) fun r1 =>
    (if r1 = 0 then
    (some h)
    else
    (grd (0 ≤ (h 27 4) ∧ (h 27 4) < alen 3220)
    (ltt (up h 27 5 (min 1000000 (w32 ((w32 ((w32 ((h 27 5) * 10)) + (h 28 (h 27 4)))) - 48)))) fun h1 =>
    (ltt (up h1 27 4 (w32 ((h1 27 4) + 1))) fun h2 =>
    (BX9_takeDigits_10 n f h2))))))))
def LX9_takeDigits_10 (n : Nat) (h : Hp) : Option (Hp) :=
(BX9_takeDigits_10 n n h)
def MX9_takeDigits (n : Nat) (h : Hp) : Option (Hp) :=
(ltt (up h 27 2 2) fun h1 =>
(ltt (up h1 27 5 0) fun h2 =>
(LX9_takeDigits_10 n h2)))
def wX9_takeDigits {ρ : Type} (n : Nat) : FN ρ := fun a h k => match a with
  | [_] => bndh (MX9_takeDigits n h) (fun h2 => k 0 h2)
  | _ => none
def fsX9_takeDigits (n : Nat) (ρ : Type) : List (FN ρ) := [wX9_isDigit, fmin]
def KBX9_takeDigits_10 (_ : Nat) (bk : Hp → Option (Hp)) : CT (Hp) := [(10, [(0, 13, (some 27))], [], fun a c h => match a, c with
    | [], [] => bk h
    | _, _ => none)]
set_option maxRecDepth 100000 in
theorem eBX9_takeDigits_10 (n f : Nat) (h : Hp) : BX9_takeDigits_10 n (f + 1) h =
  goAt false (kct (KBX9_takeDigits_10 n (BX9_takeDigits_10 n f))) (fun _ h => some (h)) (fsX9_takeDigits n _) sdX9_takeDigits 1000 10 [(0, 13, 27)] [] h := rfl
def KMX9_takeDigits (n : Nat) : CT (Hp) := [(10, [(0, 13, (some 27))], [], fun a c h => match a, c with
    | [], [] => LX9_takeDigits_10 n h
    | _, _ => none)]
set_option maxRecDepth 100000 in
theorem eMX9_takeDigits (n : Nat) (h : Hp) : MX9_takeDigits n h =
  goAt false (kct (KMX9_takeDigits n)) (fun _ h => some (h)) (fsX9_takeDigits n _) sdX9_takeDigits 1000 0 [(0, 13, 27)] [] h := rfl
theorem okX9_takeDigits : mokb (mi 13) = true := by decide +kernel
theorem rkX9_takeDigits : rkOK 0 (mi 13).1.2.2.2.2.2.2.1 (mi 13).1.2.2.2.1 := Or.inl ⟨rfl, rfl, rfl⟩
def calX9_takeDigits : List Nat := [12, 261]
theorem foX9_takeDigits {l : Launch} {ρ : Type} (n : Nat) : fsOK l false mi calX9_takeDigits (fsX9_takeDigits n ρ) := ⟨sndX9_isDigit, ⟨snd_mmin, trivial⟩⟩
theorem ok_sdX9_takeDigits : sdb (mi 13).1.2.1 (insOK mi (mi 13).1.1.cls (mi 13).1.2.2.1 (mi 13).1.2.2.2.2.1 (mi 13).1.2.2.2.2.2.1 calX9_takeDigits false 0) sdX9_takeDigits = true := by decide +kernel
theorem sBX9_takeDigits_10 {l : Launch} {h0 h' : Hp} {v : Int} (h8 : nOf h0 = 148) (n : Nat) : ∀ (f : Nat)  (h : Hp) {r : Hp}, BX9_takeDigits_10 n f h = some r → gW h' r → PAt l false (mi 13).1 h0 v h' 10 [(0, 13, 27)] [] h := by
  intro f
  induction f with
  | zero =>
    intro h r H _
    have H2 : (none : Option (Hp)) = some r := H
    cases H2
  | succ f ih =>
    intro h r H hG
    exact pat_w ok_sdX9_takeDigits rkX9_takeDigits h8 (foX9_takeDigits n) (fun v1 h1 q => by
    cases q
    exact ⟨hG, fun q9 => absurd rfl q9⟩) (List.forall_mem_cons.mpr ⟨(fun a c h H => by
      dsimp only at H
      split at H
      · exact ih _ H hG
      · cases H), (fun q9 h9 => by cases h9)⟩) ((eBX9_takeDigits_10 n f  h).symm.trans H)
theorem sLX9_takeDigits_10 {l : Launch} {h0 h' : Hp} {v : Int} (h8 : nOf h0 = 148) (n : Nat)  (h : Hp) {r : Hp} (H : LX9_takeDigits_10 n h = some r) (hG : gW h' r) : PAt l false (mi 13).1 h0 v h' 10 [(0, 13, 27)] [] h :=
  sBX9_takeDigits_10 h8 n n h H hG
theorem sMX9_takeDigits {l : Launch} {h0 h' : Hp} {v : Int} (h8 : nOf h0 = 148) (n : Nat)  (h : Hp) {r : Hp} (H : MX9_takeDigits n h = some r) (hG : gW h' r) : PAt l false (mi 13).1 h0 v h' 0 [(0, 13, 27)] [] h :=
  pat_w ok_sdX9_takeDigits rkX9_takeDigits h8 (foX9_takeDigits n) (fun v1 h1 q => by
    cases q
    exact ⟨hG, fun q9 => absurd rfl q9⟩) (List.forall_mem_cons.mpr ⟨(fun a c h H => by
      dsimp only at H
      split at H
      · exact sLX9_takeDigits_10 h8 n _ H hG
      · cases H), (fun q9 h9 => by cases h9)⟩) ((eMX9_takeDigits n h).symm.trans H)
theorem sndX9_takeDigits {ρ : Type} {l : Launch} (n : Nat) : SndF (ρ := ρ) l false (mi 13).1 (wX9_takeDigits n) := by
    intro a h k r H ha ho hn hf
    have h8 := hf rfl
    obtain ⟨x0, rfl⟩ := len1 (show a.length = 1 from ha)
    have u0 := uq13 hn (ho (13, x0) (List.mem_cons_self))
    subst u0
    replace H : bndh (MX9_takeDigits n h) (fun h2 => k 0 h2) = some r := H
    obtain ⟨h2, H1, H2⟩ := bndh_some H
    exact ⟨0, h2, H2, met_mk (mok_base okX9_takeDigits).1 (by decide +kernel) (Nat.le_of_ble_eq_true rfl) ho (sMX9_takeDigits h8 n  h H1 rfl), fun q => by cases q⟩
/-! X9_next -/
def sdX9_next : SD := [(0, [(0, .aload_n 0, 1, [], 0), (1, .getfield 23, 3, [9, 4, 0, 0, 261, 0], 0), (4, .aload_n 0, 1, [], 0), (5, .getfield 19, 3, [9, 1, 0, 0, 256, 0], 0), (8, .if_icmp .ge 31, 3, [], 0)]),
  (11, [(11, .aload_n 0, 1, [], 0), (12, .getfield 9, 3, [9, 0, 3220, 1, 254, 0], 1), (15, .aload_n 0, 1, [], 0), (16, .getfield 23, 3, [9, 4, 0, 0, 261, 0], 0), (19, .iaload, 1, [], 0), (20, .invokestatic 26, 3, [1, 0, 3, 9, 769, 0], 0), (23, .ifCond .eq 16, 3, [], 0)]),
  (26, [(26, .aload_n 0, 1, [], 0), (27, .dup, 1, [], 0), (28, .getfield 23, 3, [9, 4, 0, 0, 261, 0], 0), (31, .iconst 1, 1, [], 0), (32, .iadd, 1, [], 0), (33, .putfield 23, 3, [9, 4, 0, 0, 0, 261], 0), (36, .goto (-36), 3, [], 0)]),
  (39, [(39, .aload_n 0, 1, [], 0), (40, .aload_n 0, 1, [], 0), (41, .getfield 23, 3, [9, 4, 0, 0, 261, 0], 0), (44, .putfield 30, 3, [9, 3, 0, 0, 0, 260], 0), (47, .aload_n 0, 1, [], 0), (48, .getfield 23, 3, [9, 4, 0, 0, 261, 0], 0), (51, .aload_n 0, 1, [], 0), (52, .getfield 19, 3, [9, 1, 0, 0, 256, 0], 0), (55, .if_icmp .lt 11, 3, [], 0)]),
  (58, [(58, .aload_n 0, 1, [], 0), (59, .iconst 0, 1, [], 0), (60, .putfield 33, 3, [9, 2, 0, 0, 0, 258], 0), (63, .goto 98, 3, [], 0)]),
  (66, [(66, .aload_n 0, 1, [], 0), (67, .getfield 9, 3, [9, 0, 3220, 1, 254, 0], 1), (70, .aload_n 0, 1, [], 0), (71, .getfield 23, 3, [9, 4, 0, 0, 261, 0], 0), (74, .iaload, 1, [], 0), (75, .invokestatic 36, 3, [1, 1, 3, 10, 772, 0], 0), (78, .ifCond .eq 10, 3, [], 0)]),
  (81, [(81, .aload_n 0, 1, [], 0), (82, .invokevirtual 39, 3, [0, 2, 1, 11, 775, 13], 0), (85, .goto 76, 3, [], 0)]),
  (88, [(88, .aload_n 0, 1, [], 0), (89, .getfield 9, 3, [9, 0, 3220, 1, 254, 0], 1), (92, .aload_n 0, 1, [], 0), (93, .getfield 23, 3, [9, 4, 0, 0, 261, 0], 0), (96, .iaload, 1, [], 0), (97, .invokestatic 42, 3, [1, 3, 3, 12, 779, 0], 0), (100, .ifCond .eq 10, 3, [], 0)]),
  (103, [(103, .aload_n 0, 1, [], 0), (104, .invokevirtual 45, 3, [0, 4, 1, 13, 782, 13], 0), (107, .goto 54, 3, [], 0)]),
  (110, [(110, .aload_n 0, 1, [], 0), (111, .aload_n 0, 1, [], 0), (112, .getfield 9, 3, [9, 0, 3220, 1, 254, 0], 1), (115, .aload_n 0, 1, [], 0), (116, .getfield 23, 3, [9, 4, 0, 0, 261, 0], 0), (119, .iaload, 1, [], 0), (120, .bipush 45, 2, [], 0), (122, .if_icmp .ne 7, 3, [], 0)]),
  (125, [(125, .iconst 3, 1, [], 0), (126, .goto 22, 3, [], 0)]),
  (129, [(129, .aload_n 0, 1, [], 0), (130, .getfield 9, 3, [9, 0, 3220, 1, 254, 0], 1), (133, .aload_n 0, 1, [], 0), (134, .getfield 23, 3, [9, 4, 0, 0, 261, 0], 0), (137, .iaload, 1, [], 0), (138, .bipush 59, 2, [], 0), (140, .if_icmp .ne 7, 3, [], 0)]),
  (143, [(143, .iconst 4, 1, [], 0), (144, .goto 4, 3, [], 0)]),
  (147, [(147, .iconst 5, 1, [], 0)]),
  (148, [(148, .putfield 33, 3, [9, 2, 0, 0, 0, 258], 0), (151, .aload_n 0, 1, [], 0), (152, .dup, 1, [], 0), (153, .getfield 23, 3, [9, 4, 0, 0, 261, 0], 0), (156, .iconst 1, 1, [], 0), (157, .iadd, 1, [], 0), (158, .putfield 23, 3, [9, 4, 0, 0, 0, 261], 0)]),
  (161, [(161, .return_, 1, [], 0)])]
def BX9_next_0 (n : Nat) : Nat → Hp → Option (Hp)
  | 0, _ => none
  | f + 1, h =>
    (if (h 27 1) ≤ (h 27 4) then
    (some (h))
    else
    (grd (0 ≤ (h 27 4) ∧ (h 27 4) < alen 3220)
    (bndp (MX9_isBlank (h 28 (h 27 4))) fun r1 =>
    (if r1 = 0 then
    (some (h))
    else
    (ltt (up h 27 4 (w32 ((h 27 4) + 1))) fun h1 =>
    (BX9_next_0 n f h1))))))
def JX9_next_148 (n : Nat) (z1 : Int) (h : Hp) : Option (Hp) :=
(ltt (up h 27 2 z1) fun h1 =>
(ltt (up h1 27 4 (w32 ((h1 27 4) + 1))) fun h2 =>
(some h2)))
def JX9_next_39 (n : Nat) (h : Hp) : Option (Hp) :=
(ltt (up h 27 3 (h 27 4)) fun h1 =>
(if (h1 27 4) < (h1 27 1) then
(grd (0 ≤ (h1 27 4) ∧ (h1 27 4) < alen 3220)
(bndp (MX9_isLetter (h1 28 (h1 27 4))) fun r1 =>
(if r1 = 0 then
(grd (0 ≤ (h1 27 4) ∧ (h1 27 4) < alen 3220)
(bndp (MX9_isDigit (h1 28 (h1 27 4))) fun r2 =>
(if r2 = 0 then
(grd (0 ≤ (h1 27 4) ∧ (h1 27 4) < alen 3220)
(if (h1 28 (h1 27 4)) ≠ 45 then
(grd (0 ≤ (h1 27 4) ∧ (h1 27 4) < alen 3220)
(if (h1 28 (h1 27 4)) ≠ 59 then
(JX9_next_148 n 5 h1)
else
(JX9_next_148 n 4 h1)))
else
(JX9_next_148 n 3 h1)))
else
(bndh (MX9_takeDigits n h1) fun h2 =>
(some h2)))))
else
(bndh (MX9_takeWord n h1) fun h3 =>
(some h3)))))
else
(ltt (up h1 27 2 0) fun h4 =>
(some h4))))
def LX9_next_0 (n : Nat) (h : Hp) : Option (Hp) :=
(bndx (BX9_next_0 n n h) fun h1 =>
(JX9_next_39 n h1))
def MX9_next (n : Nat) (h : Hp) : Option (Hp) :=
(LX9_next_0 n h)
def wX9_next {ρ : Type} (n : Nat) : FN ρ := fun a h k => match a with
  | [_] => bndh (MX9_next n h) (fun h2 => k 0 h2)
  | _ => none
def fsX9_next (n : Nat) (ρ : Type) : List (FN ρ) := [wX9_isBlank, wX9_isLetter, wX9_takeWord n, wX9_isDigit, wX9_takeDigits n]
def KBX9_next_0 (_ : Nat) (bk : Hp → Option (Hp)) : CT (Hp) := [(0, [(0, 13, (some 27))], [], fun a c h => match a, c with
    | [], [] => bk h
    | _, _ => none),
  (39, [(0, 13, (some 27))], [], fun a c h => match a, c with
    | [], [] => some (h)
    | _, _ => none)]
set_option maxRecDepth 100000 in
theorem eBX9_next_0 (n f : Nat) (h : Hp) : BX9_next_0 n (f + 1) h =
  goAt false (kct (KBX9_next_0 n (BX9_next_0 n f))) (fun _ _ => none) (fsX9_next n _) sdX9_next 1000 0 [(0, 13, 27)] [] h := rfl
def KJX9_next_148 (_ : Nat) : CT (Hp) := []
set_option maxRecDepth 100000 in
theorem eJX9_next_148 (n : Nat) (z1 : Int) (h : Hp) : JX9_next_148 n z1 h =
  goAt false (kct (KJX9_next_148 n)) (fun _ h => some (h)) (fsX9_next n _) sdX9_next 1000 148 [(0, 13, 27)] [(0, z1), (13, 27)] h := rfl
def KJX9_next_39 (n : Nat) : CT (Hp) := [(148, [(0, 13, (some 27))], [(0, none), (13, (some 27))], fun a c h => match a, c with
    | [], [z1] => JX9_next_148 n z1 h
    | _, _ => none)]
set_option maxRecDepth 100000 in
theorem eJX9_next_39 (n : Nat) (h : Hp) : JX9_next_39 n h =
  goAt false (kct (KJX9_next_39 n)) (fun _ h => some (h)) (fsX9_next n _) sdX9_next 1000 39 [(0, 13, 27)] [] h := rfl
theorem okX9_next : mokb (mi 14) = true := by decide +kernel
theorem rkX9_next : rkOK 0 (mi 14).1.2.2.2.2.2.2.1 (mi 14).1.2.2.2.1 := Or.inl ⟨rfl, rfl, rfl⟩
def calX9_next : List Nat := [9, 10, 11, 12, 13]
theorem foX9_next {l : Launch} {ρ : Type} (n : Nat) : fsOK l false mi calX9_next (fsX9_next n ρ) := ⟨sndX9_isBlank, ⟨sndX9_isLetter, ⟨(sndX9_takeWord n), ⟨sndX9_isDigit, ⟨(sndX9_takeDigits n), trivial⟩⟩⟩⟩⟩
theorem ok_sdX9_next : sdb (mi 14).1.2.1 (insOK mi (mi 14).1.1.cls (mi 14).1.2.2.1 (mi 14).1.2.2.2.2.1 (mi 14).1.2.2.2.2.2.1 calX9_next false 0) sdX9_next = true := by decide +kernel
def GX9_next_0 (l : Launch) (h0 : Hp) (h' : Hp) (v : Int) (_ : Hp) : (Hp) → Prop
  | h1 => PAt l false (mi 14).1 h0 v h' 39 [(0, 13, 27)] [] h1
theorem sBX9_next_0 {l : Launch} {h0 h' : Hp} {v : Int} (h8 : nOf h0 = 148) (n : Nat) : ∀ (f : Nat)  (h : Hp) {r : Hp}, BX9_next_0 n f h = some r → GX9_next_0 l h0 h' v h r → PAt l false (mi 14).1 h0 v h' 0 [(0, 13, 27)] [] h := by
  intro f
  induction f with
  | zero =>
    intro h r H _
    have H2 : (none : Option (Hp)) = some r := H
    cases H2
  | succ f ih =>
    intro h r H hG
    exact pat_w ok_sdX9_next rkX9_next h8 (foX9_next n) (fun v1 h1 q => by cases q) (List.forall_mem_cons.mpr ⟨(fun a c h H => by
      dsimp only at H
      split at H
      · exact ih _ H hG
      · cases H), (List.forall_mem_cons.mpr ⟨(fun a c h H => by
      dsimp only at H
      split at H
      · cases H
        exact hG
      · cases H), (fun q9 h9 => by cases h9)⟩)⟩) ((eBX9_next_0 n f  h).symm.trans H)
theorem sJX9_next_148 {l : Launch} {h0 h' : Hp} {v : Int} (h8 : nOf h0 = 148) (n : Nat) (z1 : Int) (h : Hp) {r : Hp} (H : JX9_next_148 n z1 h = some r) (hG : gW h' r) : PAt l false (mi 14).1 h0 v h' 148 [(0, 13, 27)] [(0, z1), (13, 27)] h :=
  pat_w ok_sdX9_next rkX9_next h8 (foX9_next n) (fun v1 h1 q => by
    cases q
    exact ⟨hG, fun q9 => absurd rfl q9⟩) (fun q9 h9 => by cases h9) ((eJX9_next_148 n z1 h).symm.trans H)
theorem sJX9_next_39 {l : Launch} {h0 h' : Hp} {v : Int} (h8 : nOf h0 = 148) (n : Nat)  (h : Hp) {r : Hp} (H : JX9_next_39 n h = some r) (hG : gW h' r) : PAt l false (mi 14).1 h0 v h' 39 [(0, 13, 27)] [] h :=
  pat_w ok_sdX9_next rkX9_next h8 (foX9_next n) (fun v1 h1 q => by
    cases q
    exact ⟨hG, fun q9 => absurd rfl q9⟩) (List.forall_mem_cons.mpr ⟨(fun a c h H => by
      dsimp only at H
      split at H
      · exact sJX9_next_148 h8 n _ _ H hG
      · cases H), (fun q9 h9 => by cases h9)⟩) ((eJX9_next_39 n h).symm.trans H)
theorem sLX9_next_0 {l : Launch} {h0 h' : Hp} {v : Int} (h8 : nOf h0 = 148) (n : Nat)  (h : Hp) {r : Hp} (H : LX9_next_0 n h = some r) (hG : gW h' r) : PAt l false (mi 14).1 h0 v h' 0 [(0, 13, 27)] [] h := by
  obtain ⟨h1, h2, h3⟩ := bndx_some H
  exact sBX9_next_0 h8 n n h h2 (sJX9_next_39 h8 n h1 h3 hG)
theorem sMX9_next {l : Launch} {h0 h' : Hp} {v : Int} (h8 : nOf h0 = 148) (n : Nat)  (h : Hp) {r : Hp} (H : MX9_next n h = some r) (hG : gW h' r) : PAt l false (mi 14).1 h0 v h' 0 [(0, 13, 27)] [] h :=
  (sLX9_next_0 h8 n h H hG).weak (fun q9 h9 => by
    simp only [List.mem_cons, List.mem_nil_iff, or_false] at h9 ⊢
    first | exact Or.inl h9 | exact h9 | omega)
theorem sndX9_next {ρ : Type} {l : Launch} (n : Nat) : SndF (ρ := ρ) l false (mi 14).1 (wX9_next n) := by
    intro a h k r H ha ho hn hf
    have h8 := hf rfl
    obtain ⟨x0, rfl⟩ := len1 (show a.length = 1 from ha)
    have u0 := uq13 hn (ho (13, x0) (List.mem_cons_self))
    subst u0
    replace H : bndh (MX9_next n h) (fun h2 => k 0 h2) = some r := H
    obtain ⟨h2, H1, H2⟩ := bndh_some H
    exact ⟨0, h2, H2, met_mk (mok_base okX9_next).1 (by decide +kernel) (Nat.le_of_ble_eq_true rfl) ho (sMX9_next h8 n  h H1 rfl), fun q => by cases q⟩
/-! X9_reads -/
def sdX9_reads : SD := [(0, [(0, .aload_n 0, 1, [], 0), (1, .getfield 23, 3, [9, 4, 0, 0, 261, 0], 0), (4, .aload_n 0, 1, [], 0), (5, .getfield 30, 3, [9, 3, 0, 0, 260, 0], 0), (8, .isub, 1, [], 0), (9, .aload_n 1, 1, [], 0), (10, .invokevirtual 58, 3, [1, 0, 1, 267, 801, 2], 0), (13, .if_icmp .ne 14, 3, [], 0)]),
  (16, [(16, .aload_n 0, 1, [], 0), (17, .getfield 23, 3, [9, 4, 0, 0, 261, 0], 0), (20, .aload_n 0, 1, [], 0), (21, .getfield 19, 3, [9, 1, 0, 0, 256, 0], 0), (24, .if_icmp .le 5, 3, [], 0)]),
  (27, [(27, .iconst 0, 1, [], 0), (28, .ireturn, 1, [1], 0)]),
  (29, [(29, .iconst 0, 1, [], 0), (30, .istore_n 2, 1, [], 0)]),
  (31, [(31, .iload_n 2, 1, [], 0), (32, .aload_n 1, 1, [], 0), (33, .invokevirtual 58, 3, [1, 0, 1, 267, 801, 2], 0), (36, .if_icmp .ge 30, 3, [], 0)]),
  (39, [(39, .aload_n 0, 1, [], 0), (40, .getfield 9, 3, [9, 0, 3220, 1, 254, 0], 1), (43, .aload_n 0, 1, [], 0), (44, .getfield 30, 3, [9, 3, 0, 0, 260, 0], 0), (47, .iload_n 2, 1, [], 0), (48, .iadd, 1, [], 0), (49, .iaload, 1, [], 0), (50, .aload_n 1, 1, [], 0), (51, .iload_n 2, 1, [], 0), (52, .invokevirtual 64, 3, [1, 1, 1, 268, 811, 0, 2], 0), (55, .if_icmp .eq 5, 3, [], 0)]),
  (58, [(58, .iconst 0, 1, [], 0), (59, .ireturn, 1, [1], 0)]),
  (60, [(60, .iinc 2 1, 3, [], 0), (63, .goto (-32), 3, [], 0)]),
  (66, [(66, .iconst 1, 1, [], 0), (67, .ireturn, 1, [1], 0)])]
def BX9_reads_31 (n : Nat) : Nat → Int → Int → Hp → Option (Int)
  | 0, _, _, _ => none
  | f + 1, x1, x2, h =>
    (if (slen x1) ≤ x2 then
    (some 1)
    else
    (grd (0 ≤ (w32 ((h 27 3) + x2)) ∧ (w32 ((h 27 3) + x2)) < alen 3220)
    (grd (0 ≤ x2 ∧ x2 < slen x1)
    (if (h 28 (w32 ((h 27 3) + x2))) = (sch x1 x2) then
    (ltt (w32 (x2 + 1)) fun y1 =>
    (BX9_reads_31 n f x1 y1 h))
    else
    (some 0)))))
def LX9_reads_31 (n : Nat) (x1 x2 : Int) (h : Hp) : Option (Int) :=
(BX9_reads_31 n n x1 x2 h)
def MX9_reads (n : Nat) (x1 : Int) (h : Hp) : Option (Int) :=
(if (w32 ((h 27 4) - (h 27 3))) ≠ (slen x1) then
(some 0)
else
(if (h 27 4) ≤ (h 27 1) then
(ltt 0 fun y1 =>
(LX9_reads_31 n x1 y1 h))
else
(some 0)))
def wX9_reads {ρ : Type} (n : Nat) : FN ρ := fun a h k => match a with
  | [_, x1] => bndp (MX9_reads n x1 h) (fun r => k r h)
  | _ => none
def fsX9_reads (n : Nat) (ρ : Type) : List (FN ρ) := [fslen, fsch]
def KBX9_reads_31 (_ : Nat) (bk : Int → Int → Hp → Option (Int)) : CT (Int) := [(31, [(0, 13, (some 27)), (1, 2, none), (2, 0, none)], [], fun a c h => match a, c with
    | [x1, x2], [] => bk x1 x2 h
    | _, _ => none)]
set_option maxRecDepth 100000 in
theorem eBX9_reads_31 (n f : Nat) (x1 : Int) (x2 : Int) (h : Hp) : BX9_reads_31 n (f + 1) x1 x2 h =
  goAt false (kct (KBX9_reads_31 n (BX9_reads_31 n f))) (fun v _ => some (v)) (fsX9_reads n _) sdX9_reads 1000 31 [(0, 13, 27), (1, 2, x1), (2, 0, x2)] [] h := rfl
def KMX9_reads (n : Nat) : CT (Int) := [(31, [(0, 13, (some 27)), (1, 2, none), (2, 0, none)], [], fun a c h => match a, c with
    | [x1, x2], [] => LX9_reads_31 n x1 x2 h
    | _, _ => none)]
set_option maxRecDepth 100000 in
theorem eMX9_reads (n : Nat) (x1 : Int) (h : Hp) : MX9_reads n x1 h =
  goAt false (kct (KMX9_reads n)) (fun v _ => some (v)) (fsX9_reads n _) sdX9_reads 1000 0 [(0, 13, 27), (1, 2, x1)] [] h := rfl
theorem okX9_reads : mokb (mi 15) = true := by decide +kernel
theorem rkX9_reads : rkOK 4 (mi 15).1.2.2.2.2.2.2.1 (mi 15).1.2.2.2.1 := Or.inr (Or.inr (Or.inl ⟨rfl, rfl, rfl⟩))
def calX9_reads : List Nat := [267, 268]
theorem foX9_reads {l : Launch} {ρ : Type} (n : Nat) : fsOK l false mi calX9_reads (fsX9_reads n ρ) := ⟨snd_slen, ⟨snd_schar, trivial⟩⟩
theorem frX9_reads {ρ : Type} (n : Nat) : ∀ fn ∈ fsX9_reads n ρ, RoF fn := (List.forall_mem_cons.mpr ⟨ro_slen, (List.forall_mem_cons.mpr ⟨ro_schar, (fun q9 h9 => by cases h9)⟩)⟩)
theorem ok_sdX9_reads : sdb (mi 15).1.2.1 (insOK mi (mi 15).1.1.cls (mi 15).1.2.2.1 (mi 15).1.2.2.2.2.1 (mi 15).1.2.2.2.2.2.1 calX9_reads false 4) sdX9_reads = true := by decide +kernel
theorem sBX9_reads_31 {l : Launch} {h0 : Hp} {v : Int} (h8 : nOf h0 = 148) (n : Nat) (h : Hp) : ∀ (f : Nat) (x1 : Int) (x2 : Int) {r : Int}, BX9_reads_31 n f x1 x2 h = some r → gV v r → PAt l false (mi 15).1 h0 v h 31 [(0, 13, 27), (1, 2, x1), (2, 0, x2)] [] h := by
  intro f
  induction f with
  | zero =>
    intro x1 x2 r H _
    have H2 : (none : Option (Int)) = some r := H
    cases H2
  | succ f ih =>
    intro x1 x2 r H hG
    exact pat_ro ok_sdX9_reads rfl rkX9_reads h8 (foX9_reads n) (frX9_reads n) (fun v1 q => by
    cases q
    exact ⟨rfl, fun _ => hG⟩) (List.forall_mem_cons.mpr ⟨(fun a c H => by
      dsimp only at H
      split at H
      · exact ih _ _ H hG
      · cases H), (fun q9 h9 => by cases h9)⟩) ((eBX9_reads_31 n f x1 x2 h).symm.trans H)
theorem sLX9_reads_31 {l : Launch} {h0 : Hp} {v : Int} (h8 : nOf h0 = 148) (n : Nat) (x1 : Int) (x2 : Int) (h : Hp) {r : Int} (H : LX9_reads_31 n x1 x2 h = some r) (hG : gV v r) : PAt l false (mi 15).1 h0 v h 31 [(0, 13, 27), (1, 2, x1), (2, 0, x2)] [] h :=
  sBX9_reads_31 h8 n h n x1 x2 H hG
theorem sMX9_reads {l : Launch} {h0 : Hp} {v : Int} (h8 : nOf h0 = 148) (n : Nat) (x1 : Int) (h : Hp) {r : Int} (H : MX9_reads n x1 h = some r) (hG : gV v r) : PAt l false (mi 15).1 h0 v h 0 [(0, 13, 27), (1, 2, x1)] [] h :=
  pat_ro ok_sdX9_reads rfl rkX9_reads h8 (foX9_reads n) (frX9_reads n) (fun v1 q => by
    cases q
    exact ⟨rfl, fun _ => hG⟩) (List.forall_mem_cons.mpr ⟨(fun a c H => by
      dsimp only at H
      split at H
      · exact sLX9_reads_31 h8 n _ _ _ H hG
      · cases H), (fun q9 h9 => by cases h9)⟩) ((eMX9_reads n x1 h).symm.trans H)
theorem sndX9_reads {ρ : Type} {l : Launch} (n : Nat) : SndF (ρ := ρ) l false (mi 15).1 (wX9_reads n) := by
    intro a h k r H ha ho hn hf
    have h8 := hf rfl
    obtain ⟨x0, x1, rfl⟩ := len2 (show a.length = 2 from ha)
    have u0 := uq13 hn (ho (13, x0) (List.mem_cons_self))
    subst u0
    replace H : bndp (MX9_reads n x1 h) (fun r => k r h) = some r := H
    obtain ⟨v2, H1, H2⟩ := bndp_some H
    exact ⟨v2, h, H2, met_mk (mok_base okX9_reads).1 (by decide +kernel) (Nat.le_of_ble_eq_true rfl) ho (sMX9_reads h8 n x1 h H1 rfl), fun q => by cases q⟩
theorem roX9_reads {ρ : Type} (n : Nat) : RoF (wX9_reads n : FN ρ) := fun a h k k2 hk => by
  unfold wX9_reads
  split
  · exact bndp_ro hk
  · rfl
/-! X6_keyword -/
def sdX6_keyword : SD := [(0, [(0, .aload_n 0, 1, [], 0), (1, .getfield 35, 3, [6, 0, 13, 1, 307, 0], (-2)), (4, .getfield 64, 3, [9, 2, 0, 0, 257, 0], 0), (7, .iconst 1, 1, [], 0), (8, .if_icmp .eq 5, 3, [], 0)]),
  (11, [(11, .iconst (-1), 1, [], 0), (12, .ireturn, 1, [], 0)]),
  (13, [(13, .aload_n 0, 1, [], 0), (14, .getfield 35, 3, [6, 0, 13, 1, 307, 0], (-2)), (17, .ldc 103, 2, [2, 796], 0), (19, .invokevirtual 105, 3, [1, 0, 1, 15, 797, 2, 13], 0), (22, .ifCond .eq 7, 3, [], 0)]),
  (25, [(25, .iconst 0, 1, [], 0), (26, .goto 118, 3, [], 0)]),
  (29, [(29, .aload_n 0, 1, [], 0), (30, .getfield 35, 3, [6, 0, 13, 1, 307, 0], (-2)), (33, .ldc 109, 2, [2, 849], 1), (35, .invokevirtual 105, 3, [1, 0, 1, 15, 797, 2, 13], 0), (38, .ifCond .eq 7, 3, [], 0)]),
  (41, [(41, .iconst 1, 1, [], 0), (42, .goto 102, 3, [], 0)]),
  (45, [(45, .aload_n 0, 1, [], 0), (46, .getfield 35, 3, [6, 0, 13, 1, 307, 0], (-2)), (49, .ldc 111, 2, [2, 850], 2), (51, .invokevirtual 105, 3, [1, 0, 1, 15, 797, 2, 13], 0), (54, .ifCond .eq 7, 3, [], 0)]),
  (57, [(57, .iconst 2, 1, [], 0), (58, .goto 86, 3, [], 0)]),
  (61, [(61, .aload_n 0, 1, [], 0), (62, .getfield 35, 3, [6, 0, 13, 1, 307, 0], (-2)), (65, .ldc 113, 2, [2, 851], 3), (67, .invokevirtual 105, 3, [1, 0, 1, 15, 797, 2, 13], 0), (70, .ifCond .eq 7, 3, [], 0)]),
  (73, [(73, .iconst 3, 1, [], 0), (74, .goto 70, 3, [], 0)]),
  (77, [(77, .aload_n 0, 1, [], 0), (78, .getfield 35, 3, [6, 0, 13, 1, 307, 0], (-2)), (81, .ldc 115, 2, [2, 852], 4), (83, .invokevirtual 105, 3, [1, 0, 1, 15, 797, 2, 13], 0), (86, .ifCond .eq 7, 3, [], 0)]),
  (89, [(89, .iconst 4, 1, [], 0), (90, .goto 54, 3, [], 0)]),
  (93, [(93, .aload_n 0, 1, [], 0), (94, .getfield 35, 3, [6, 0, 13, 1, 307, 0], (-2)), (97, .ldc 117, 2, [2, 853], 5), (99, .invokevirtual 105, 3, [1, 0, 1, 15, 797, 2, 13], 0), (102, .ifCond .eq 7, 3, [], 0)]),
  (105, [(105, .iconst 5, 1, [], 0), (106, .goto 38, 3, [], 0)]),
  (109, [(109, .aload_n 0, 1, [], 0), (110, .getfield 35, 3, [6, 0, 13, 1, 307, 0], (-2)), (113, .ldc 119, 2, [2, 854], 6), (115, .invokevirtual 105, 3, [1, 0, 1, 15, 797, 2, 13], 0), (118, .ifCond .eq 8, 3, [], 0)]),
  (121, [(121, .bipush 6, 2, [], 0), (123, .goto 21, 3, [], 0)]),
  (126, [(126, .aload_n 0, 1, [], 0), (127, .getfield 35, 3, [6, 0, 13, 1, 307, 0], (-2)), (130, .ldc 121, 2, [2, 855], 7), (132, .invokevirtual 105, 3, [1, 0, 1, 15, 797, 2, 13], 0), (135, .ifCond .eq 8, 3, [], 0)]),
  (138, [(138, .bipush 7, 2, [], 0), (140, .goto 4, 3, [], 0)]),
  (143, [(143, .iconst (-1), 1, [], 0)]),
  (144, [(144, .ireturn, 1, [], 0)])]
def MX6_keyword (n : Nat) (h : Hp) : Option (Int) :=
(if (h 27 2) = 1 then
(bndp (MX9_reads n 0 h) fun r1 =>
(if r1 = 0 then
(bndp (MX9_reads n 1 h) fun r2 =>
(if r2 = 0 then
(bndp (MX9_reads n 2 h) fun r3 =>
(if r3 = 0 then
(bndp (MX9_reads n 3 h) fun r4 =>
(if r4 = 0 then
(bndp (MX9_reads n 4 h) fun r5 =>
(if r5 = 0 then
(bndp (MX9_reads n 5 h) fun r6 =>
(if r6 = 0 then
(bndp (MX9_reads n 6 h) fun r7 =>
(if r7 = 0 then
(bndp (MX9_reads n 7 h) fun r8 =>
(if r8 = 0 then
(some (-1))
else
(some 7)))
else
(some 6)))
else
(some 5)))
else
(some 4)))
else
(some 3)))
else
(some 2)))
else
(some 1)))
else
(some 0)))
else
(some (-1)))
def wX6_keyword {ρ : Type} (n : Nat) : FN ρ := fun a h k => match a with
  | [_] => bndp (MX6_keyword n h) (fun r => k r h)
  | _ => none
def fsX6_keyword (n : Nat) (ρ : Type) : List (FN ρ) := [wX9_reads n]
def KMX6_keyword (_ : Nat) : CT (Int) := []
set_option maxRecDepth 100000 in
theorem eMX6_keyword (n : Nat) (h : Hp) : MX6_keyword n h =
  goAt false (kct (KMX6_keyword n)) (fun v _ => some (v)) (fsX6_keyword n _) sdX6_keyword 1000 0 [(0, 10, 29)] [] h := rfl
theorem okX6_keyword : mokb (mi 16) = true := by decide +kernel
theorem rkX6_keyword : rkOK 1 (mi 16).1.2.2.2.2.2.2.1 (mi 16).1.2.2.2.1 := Or.inr (Or.inl ⟨rfl, rfl, rfl⟩)
def calX6_keyword : List Nat := [15]
theorem foX6_keyword {l : Launch} {ρ : Type} (n : Nat) : fsOK l false mi calX6_keyword (fsX6_keyword n ρ) := ⟨(sndX9_reads n), trivial⟩
theorem frX6_keyword {ρ : Type} (n : Nat) : ∀ fn ∈ fsX6_keyword n ρ, RoF fn := (List.forall_mem_cons.mpr ⟨(roX9_reads n), (fun q9 h9 => by cases h9)⟩)
theorem ok_sdX6_keyword : sdb (mi 16).1.2.1 (insOK mi (mi 16).1.1.cls (mi 16).1.2.2.1 (mi 16).1.2.2.2.2.1 (mi 16).1.2.2.2.2.2.1 calX6_keyword false 1) sdX6_keyword = true := by decide +kernel
theorem sMX6_keyword {l : Launch} {h0 : Hp} {v : Int} (h8 : nOf h0 = 148) (n : Nat)  (h : Hp) {r : Int} (H : MX6_keyword n h = some r) (hG : gV v r) : PAt l false (mi 16).1 h0 v h 0 [(0, 10, 29)] [] h :=
  pat_ro ok_sdX6_keyword rfl rkX6_keyword h8 (foX6_keyword n) (frX6_keyword n) (fun v1 q => by
    cases q
    exact ⟨rfl, fun _ => hG⟩) (fun q9 h9 => by cases h9) ((eMX6_keyword n h).symm.trans H)
theorem sndX6_keyword {ρ : Type} {l : Launch} (n : Nat) : SndF (ρ := ρ) l false (mi 16).1 (wX6_keyword n) := by
    intro a h k r H ha ho hn hf
    have h8 := hf rfl
    obtain ⟨x0, rfl⟩ := len1 (show a.length = 1 from ha)
    have u0 := uq10 hn (ho (10, x0) (List.mem_cons_self))
    subst u0
    replace H : bndp (MX6_keyword n h) (fun r => k r h) = some r := H
    obtain ⟨v2, H1, H2⟩ := bndp_some H
    exact ⟨v2, h, H2, met_mk (mok_base okX6_keyword).1 (by decide +kernel) (Nat.le_of_ble_eq_true rfl) ho (sMX6_keyword h8 n  h H1 rfl), fun q => by cases q⟩
theorem roX6_keyword {ρ : Type} (n : Nat) : RoF (wX6_keyword n : FN ρ) := fun a h k k2 hk => by
  unfold wX6_keyword
  split
  · exact bndp_ro hk
  · rfl
/-! X6_fail -/
def sdX6_fail : SD := [(0, [(0, .aload_n 0, 1, [], 0), (1, .getfield 53, 3, [6, 8, 0, 0, 315, 0], 0), (4, .iconst (-1), 1, [], 0), (5, .if_icmp .ne 13, 3, [], 0)]),
  (8, [(8, .aload_n 0, 1, [], 0), (9, .bipush 8, 2, [], 0), (11, .iload_n 2, 1, [], 0), (12, .imul, 1, [], 0), (13, .iload_n 1, 1, [], 0), (14, .iadd, 1, [], 0), (15, .putfield 53, 3, [6, 8, 0, 0, 0, 315], 0)]),
  (18, [(18, .return_, 1, [], 0)])]
def MX6_fail (x1 x2 : Int) (h : Hp) : Option (Hp) :=
(if (h 29 8) ≠ (-1) then
(some h)
else
(ltt (up h 29 8 (w32 ((w32 (8 * x2)) + x1))) fun h1 =>
(some h1)))
def wX6_fail {ρ : Type} : FN ρ := fun a h k => match a with
  | [_, x1, x2] => bndh (MX6_fail x1 x2 h) (fun h2 => k 0 h2)
  | _ => none
def fsX6_fail (ρ : Type) : List (FN ρ) := []
def KMX6_fail  : CT (Hp) := []
set_option maxRecDepth 100000 in
theorem eMX6_fail (x1 : Int) (x2 : Int) (h : Hp) : MX6_fail x1 x2 h =
  goAt false (kct (KMX6_fail)) (fun _ h => some (h)) (fsX6_fail _) sdX6_fail 1000 0 [(0, 10, 29), (1, 0, x1), (2, 0, x2)] [] h := rfl
theorem okX6_fail : mokb (mi 17) = true := by decide +kernel
theorem rkX6_fail : rkOK 0 (mi 17).1.2.2.2.2.2.2.1 (mi 17).1.2.2.2.1 := Or.inl ⟨rfl, rfl, rfl⟩
def calX6_fail : List Nat := []
theorem foX6_fail {l : Launch} {ρ : Type} : fsOK l false mi calX6_fail (fsX6_fail ρ) := trivial
theorem ok_sdX6_fail : sdb (mi 17).1.2.1 (insOK mi (mi 17).1.1.cls (mi 17).1.2.2.1 (mi 17).1.2.2.2.2.1 (mi 17).1.2.2.2.2.2.1 calX6_fail false 0) sdX6_fail = true := by decide +kernel
theorem sMX6_fail {l : Launch} {h0 h' : Hp} {v : Int} (h8 : nOf h0 = 148)  (x1 : Int) (x2 : Int) (h : Hp) {r : Hp} (H : MX6_fail x1 x2 h = some r) (hG : gW h' r) : PAt l false (mi 17).1 h0 v h' 0 [(0, 10, 29), (1, 0, x1), (2, 0, x2)] [] h :=
  pat_w ok_sdX6_fail rkX6_fail h8 (foX6_fail) (fun v1 h1 q => by
    cases q
    exact ⟨hG, fun q9 => absurd rfl q9⟩) (fun q9 h9 => by cases h9) ((eMX6_fail x1 x2 h).symm.trans H)
theorem sndX6_fail {ρ : Type} {l : Launch} : SndF (ρ := ρ) l false (mi 17).1 (wX6_fail) := by
    intro a h k r H ha ho hn hf
    have h8 := hf rfl
    obtain ⟨x0, x1, x2, rfl⟩ := len3 (show a.length = 3 from ha)
    have u0 := uq10 hn (ho (10, x0) (List.mem_cons_self))
    subst u0
    replace H : bndh (MX6_fail x1 x2 h) (fun h2 => k 0 h2) = some r := H
    obtain ⟨h2, H1, H2⟩ := bndh_some H
    exact ⟨0, h2, H2, met_mk (mok_base okX6_fail).1 (by decide +kernel) (Nat.le_of_ble_eq_true rfl) ho (sMX6_fail h8 x1 x2 h H1 rfl), fun q => by cases q⟩
/-! X6_numberOf -/
def sdX6_numberOf : SD := [(0, [(0, .aload_n 0, 1, [], 0), (1, .getfield 35, 3, [6, 0, 13, 1, 307, 0], (-2)), (4, .getfield 64, 3, [9, 2, 0, 0, 257, 0], 0), (7, .iconst 2, 1, [], 0), (8, .if_icmp .eq 17, 3, [], 0)]),
  (11, [(11, .aload_n 0, 1, [], 0), (12, .iconst 1, 1, [], 0), (13, .aload_n 0, 1, [], 0), (14, .getfield 35, 3, [6, 0, 13, 1, 307, 0], (-2)), (17, .getfield 67, 3, [9, 3, 0, 0, 259, 0], 0), (20, .invokevirtual 89, 3, [0, 0, 1, 17, 856, 0, 0, 10], 0), (23, .iconst 0, 1, [], 0), (24, .ireturn, 1, [], 0)]),
  (25, [(25, .aload_n 0, 1, [], 0), (26, .getfield 35, 3, [6, 0, 13, 1, 307, 0], (-2)), (29, .getfield 177, 3, [9, 5, 0, 0, 264, 0], 0), (32, .iload_n 1, 1, [], 0), (33, .if_icmp .lt 14, 3, [], 0)]),
  (36, [(36, .aload_n 0, 1, [], 0), (37, .getfield 35, 3, [6, 0, 13, 1, 307, 0], (-2)), (40, .getfield 177, 3, [9, 5, 0, 0, 264, 0], 0), (43, .iload_n 2, 1, [], 0), (44, .if_icmp .le 15, 3, [], 0)]),
  (47, [(47, .aload_n 0, 1, [], 0), (48, .iconst 2, 1, [], 0), (49, .aload_n 0, 1, [], 0), (50, .getfield 35, 3, [6, 0, 13, 1, 307, 0], (-2)), (53, .getfield 67, 3, [9, 3, 0, 0, 259, 0], 0), (56, .invokevirtual 89, 3, [0, 0, 1, 17, 856, 0, 0, 10], 0)]),
  (59, [(59, .aload_n 0, 1, [], 0), (60, .getfield 35, 3, [6, 0, 13, 1, 307, 0], (-2)), (63, .getfield 177, 3, [9, 5, 0, 0, 264, 0], 0), (66, .ireturn, 1, [], 0)])]
def JX6_numberOf_59 (h : Hp) : Option (Int × Hp) :=
(some ((h 27 5), h))
def JX6_numberOf_47 (h : Hp) : Option (Int × Hp) :=
(bndh (MX6_fail 2 (h 27 3) h) fun h1 =>
(JX6_numberOf_59 h1))
def MX6_numberOf (x1 x2 : Int) (h : Hp) : Option (Int × Hp) :=
(if (h 27 2) = 2 then
(if (h 27 5) < x1 then
(JX6_numberOf_47 h)
else
(if (h 27 5) ≤ x2 then
(JX6_numberOf_59 h)
else
(JX6_numberOf_47 h)))
else
(bndh (MX6_fail 1 (h 27 3) h) fun h1 =>
(some (0, h1))))
def wX6_numberOf {ρ : Type} : FN ρ := fun a h k => match a with
  | [_, x1, x2] => bnd (MX6_numberOf x1 x2 h) (fun r h2 => k r h2)
  | _ => none
def fsX6_numberOf (ρ : Type) : List (FN ρ) := [wX6_fail]
def KJX6_numberOf_59  : CT (Int × Hp) := []
set_option maxRecDepth 100000 in
theorem eJX6_numberOf_59 (h : Hp) : JX6_numberOf_59 h =
  goAt false (kct (KJX6_numberOf_59)) (fun v h => some ((v, h))) (fsX6_numberOf _) sdX6_numberOf 1000 59 [(0, 10, 29)] [] h := rfl
def KJX6_numberOf_47  : CT (Int × Hp) := [(59, [(0, 10, (some 29))], [], fun a c h => match a, c with
    | [], [] => JX6_numberOf_59 h
    | _, _ => none)]
set_option maxRecDepth 100000 in
theorem eJX6_numberOf_47 (h : Hp) : JX6_numberOf_47 h =
  goAt false (kct (KJX6_numberOf_47)) (fun v h => some ((v, h))) (fsX6_numberOf _) sdX6_numberOf 1000 47 [(0, 10, 29)] [] h := rfl
def KMX6_numberOf  : CT (Int × Hp) := [(59, [(0, 10, (some 29))], [], fun a c h => match a, c with
    | [], [] => JX6_numberOf_59 h
    | _, _ => none),
  (47, [(0, 10, (some 29))], [], fun a c h => match a, c with
    | [], [] => JX6_numberOf_47 h
    | _, _ => none)]
set_option maxRecDepth 100000 in
theorem eMX6_numberOf (x1 : Int) (x2 : Int) (h : Hp) : MX6_numberOf x1 x2 h =
  goAt false (kct (KMX6_numberOf)) (fun v h => some ((v, h))) (fsX6_numberOf _) sdX6_numberOf 1000 0 [(0, 10, 29), (1, 0, x1), (2, 0, x2)] [] h := rfl
theorem okX6_numberOf : mokb (mi 18) = true := by decide +kernel
theorem rkX6_numberOf : rkOK 1 (mi 18).1.2.2.2.2.2.2.1 (mi 18).1.2.2.2.1 := Or.inr (Or.inl ⟨rfl, rfl, rfl⟩)
def calX6_numberOf : List Nat := [17]
theorem foX6_numberOf {l : Launch} {ρ : Type} : fsOK l false mi calX6_numberOf (fsX6_numberOf ρ) := ⟨sndX6_fail, trivial⟩
theorem ok_sdX6_numberOf : sdb (mi 18).1.2.1 (insOK mi (mi 18).1.1.cls (mi 18).1.2.2.1 (mi 18).1.2.2.2.2.1 (mi 18).1.2.2.2.2.2.1 calX6_numberOf false 1) sdX6_numberOf = true := by decide +kernel
theorem sJX6_numberOf_59 {l : Launch} {h0 h' : Hp} {v : Int} (h8 : nOf h0 = 148)   (h : Hp) {r : Int × Hp} (H : JX6_numberOf_59 h = some r) (hG : gWV v h' r) : PAt l false (mi 18).1 h0 v h' 59 [(0, 10, 29)] [] h :=
  pat_w ok_sdX6_numberOf rkX6_numberOf h8 (foX6_numberOf) (fun v1 h1 q => by
    cases q
    exact ⟨hG.1, fun _ => hG.2⟩) (fun q9 h9 => by cases h9) ((eJX6_numberOf_59 h).symm.trans H)
theorem sJX6_numberOf_47 {l : Launch} {h0 h' : Hp} {v : Int} (h8 : nOf h0 = 148)   (h : Hp) {r : Int × Hp} (H : JX6_numberOf_47 h = some r) (hG : gWV v h' r) : PAt l false (mi 18).1 h0 v h' 47 [(0, 10, 29)] [] h :=
  pat_w ok_sdX6_numberOf rkX6_numberOf h8 (foX6_numberOf) (fun v1 h1 q => by
    cases q
    exact ⟨hG.1, fun _ => hG.2⟩) (List.forall_mem_cons.mpr ⟨(fun a c h H => by
      dsimp only at H
      split at H
      · exact sJX6_numberOf_59 h8 _ H hG
      · cases H), (fun q9 h9 => by cases h9)⟩) ((eJX6_numberOf_47 h).symm.trans H)
theorem sMX6_numberOf {l : Launch} {h0 h' : Hp} {v : Int} (h8 : nOf h0 = 148)  (x1 : Int) (x2 : Int) (h : Hp) {r : Int × Hp} (H : MX6_numberOf x1 x2 h = some r) (hG : gWV v h' r) : PAt l false (mi 18).1 h0 v h' 0 [(0, 10, 29), (1, 0, x1), (2, 0, x2)] [] h :=
  pat_w ok_sdX6_numberOf rkX6_numberOf h8 (foX6_numberOf) (fun v1 h1 q => by
    cases q
    exact ⟨hG.1, fun _ => hG.2⟩) (List.forall_mem_cons.mpr ⟨(fun a c h H => by
      dsimp only at H
      split at H
      · exact sJX6_numberOf_59 h8 _ H hG
      · cases H), (List.forall_mem_cons.mpr ⟨(fun a c h H => by
      dsimp only at H
      split at H
      · exact sJX6_numberOf_47 h8 _ H hG
      · cases H), (fun q9 h9 => by cases h9)⟩)⟩) ((eMX6_numberOf x1 x2 h).symm.trans H)
theorem sndX6_numberOf {ρ : Type} {l : Launch} : SndF (ρ := ρ) l false (mi 18).1 (wX6_numberOf) := by
    intro a h k r H ha ho hn hf
    have h8 := hf rfl
    obtain ⟨x0, x1, x2, rfl⟩ := len3 (show a.length = 3 from ha)
    have u0 := uq10 hn (ho (10, x0) (List.mem_cons_self))
    subst u0
    replace H : bnd (MX6_numberOf x1 x2 h) (fun r h2 => k r h2) = some r := H
    obtain ⟨v2, h2, H1, H2⟩ := bnd_some H
    exact ⟨v2, h2, H2, met_mk (mok_base okX6_numberOf).1 (by decide +kernel) (Nat.le_of_ble_eq_true rfl) ho (sMX6_numberOf h8 x1 x2 h H1 ⟨rfl, rfl⟩), fun q => by cases q⟩
/-! X6_readNumber -/
def sdX6_readNumber : SD := [(0, [(0, .aload_n 0, 1, [], 0), (1, .getfield 53, 3, [6, 8, 0, 0, 315, 0], 0), (4, .iconst (-1), 1, [], 0), (5, .if_icmp .eq 5, 3, [], 0)]),
  (8, [(8, .iconst 0, 1, [], 0), (9, .ireturn, 1, [], 0)]),
  (10, [(10, .aload_n 0, 1, [], 0), (11, .getfield 35, 3, [6, 0, 13, 1, 307, 0], (-2)), (14, .invokevirtual 61, 3, [0, 0, 1, 14, 765, 13], 0), (17, .aload_n 0, 1, [], 0), (18, .iload_n 1, 1, [], 0), (19, .iload_n 2, 1, [], 0), (20, .invokevirtual 174, 3, [1, 1, 1, 18, 868, 0, 0, 10], 0), (23, .ireturn, 1, [], 0)])]
def MX6_readNumber (n : Nat) (x1 x2 : Int) (h : Hp) : Option (Int × Hp) :=
(if (h 29 8) = (-1) then
(bndh (MX9_next n h) fun h1 =>
(bnd (MX6_numberOf x1 x2 h1) fun r1 h2 =>
(some (r1, h2))))
else
(some (0, h)))
def wX6_readNumber {ρ : Type} (n : Nat) : FN ρ := fun a h k => match a with
  | [_, x1, x2] => bnd (MX6_readNumber n x1 x2 h) (fun r h2 => k r h2)
  | _ => none
def fsX6_readNumber (n : Nat) (ρ : Type) : List (FN ρ) := [wX9_next n, wX6_numberOf]
def KMX6_readNumber (_ : Nat) : CT (Int × Hp) := []
set_option maxRecDepth 100000 in
theorem eMX6_readNumber (n : Nat) (x1 : Int) (x2 : Int) (h : Hp) : MX6_readNumber n x1 x2 h =
  goAt false (kct (KMX6_readNumber n)) (fun v h => some ((v, h))) (fsX6_readNumber n _) sdX6_readNumber 1000 0 [(0, 10, 29), (1, 0, x1), (2, 0, x2)] [] h := rfl
theorem okX6_readNumber : mokb (mi 19) = true := by decide +kernel
theorem rkX6_readNumber : rkOK 1 (mi 19).1.2.2.2.2.2.2.1 (mi 19).1.2.2.2.1 := Or.inr (Or.inl ⟨rfl, rfl, rfl⟩)
def calX6_readNumber : List Nat := [14, 18]
theorem foX6_readNumber {l : Launch} {ρ : Type} (n : Nat) : fsOK l false mi calX6_readNumber (fsX6_readNumber n ρ) := ⟨(sndX9_next n), ⟨sndX6_numberOf, trivial⟩⟩
theorem ok_sdX6_readNumber : sdb (mi 19).1.2.1 (insOK mi (mi 19).1.1.cls (mi 19).1.2.2.1 (mi 19).1.2.2.2.2.1 (mi 19).1.2.2.2.2.2.1 calX6_readNumber false 1) sdX6_readNumber = true := by decide +kernel
theorem sMX6_readNumber {l : Launch} {h0 h' : Hp} {v : Int} (h8 : nOf h0 = 148) (n : Nat) (x1 : Int) (x2 : Int) (h : Hp) {r : Int × Hp} (H : MX6_readNumber n x1 x2 h = some r) (hG : gWV v h' r) : PAt l false (mi 19).1 h0 v h' 0 [(0, 10, 29), (1, 0, x1), (2, 0, x2)] [] h :=
  pat_w ok_sdX6_readNumber rkX6_readNumber h8 (foX6_readNumber n) (fun v1 h1 q => by
    cases q
    exact ⟨hG.1, fun _ => hG.2⟩) (fun q9 h9 => by cases h9) ((eMX6_readNumber n x1 x2 h).symm.trans H)
theorem sndX6_readNumber {ρ : Type} {l : Launch} (n : Nat) : SndF (ρ := ρ) l false (mi 19).1 (wX6_readNumber n) := by
    intro a h k r H ha ho hn hf
    have h8 := hf rfl
    obtain ⟨x0, x1, x2, rfl⟩ := len3 (show a.length = 3 from ha)
    have u0 := uq10 hn (ho (10, x0) (List.mem_cons_self))
    subst u0
    replace H : bnd (MX6_readNumber n x1 x2 h) (fun r h2 => k r h2) = some r := H
    obtain ⟨v2, h2, H1, H2⟩ := bnd_some H
    exact ⟨v2, h2, H2, met_mk (mok_base okX6_readNumber).1 (by decide +kernel) (Nat.le_of_ble_eq_true rfl) ho (sMX6_readNumber h8 n x1 x2 h H1 ⟨rfl, rfl⟩), fun q => by cases q⟩
/-! X6_readSetting -/
def sdX6_readSetting : SD := [(0, [(0, .iload_n 1, 1, [], 0), (1, .ifCond .lt 12, 3, [], 0)]),
  (4, [(4, .iload_n 1, 1, [], 0), (5, .aload_n 0, 1, [], 0), (6, .getfield 31, 3, [6, 6, 46, 1, 313, 0], 9), (9, .arraylength, 1, [], 0), (10, .if_icmp .lt 4, 3, [], 0)]),
  (13, [(13, .return_, 1, [], 0)]),
  (14, [(14, .aload_n 0, 1, [], 0), (15, .getfield 57, 3, [6, 10, 0, 0, 317, 0], 0), (18, .ifCond .eq 18, 3, [], 0)]),
  (21, [(21, .aload_n 0, 1, [], 0), (22, .iconst 1, 1, [], 0), (23, .aload_n 0, 1, [], 0), (24, .getfield 35, 3, [6, 0, 13, 1, 307, 0], (-2)), (27, .getfield 67, 3, [9, 3, 0, 0, 259, 0], 0), (30, .invokevirtual 89, 3, [0, 0, 1, 17, 856, 0, 0, 10], 0), (33, .goto 24, 3, [], 0)]),
  (36, [(36, .aload_n 0, 1, [], 0), (37, .getfield 31, 3, [6, 6, 46, 1, 313, 0], 9), (40, .iload_n 1, 1, [], 0), (41, .baload, 1, [], 0), (42, .ifCond .eq 15, 3, [], 0)]),
  (45, [(45, .aload_n 0, 1, [], 0), (46, .iconst 3, 1, [], 0), (47, .aload_n 0, 1, [], 0), (48, .getfield 35, 3, [6, 0, 13, 1, 307, 0], (-2)), (51, .getfield 67, 3, [9, 3, 0, 0, 259, 0], 0), (54, .invokevirtual 89, 3, [0, 0, 1, 17, 856, 0, 0, 10], 0)]),
  (57, [(57, .aload_n 0, 1, [], 0), (58, .getfield 31, 3, [6, 6, 46, 1, 313, 0], 9), (61, .iload_n 1, 1, [], 0), (62, .iconst 1, 1, [], 0), (63, .bastore, 1, [], 0), (64, .iload_n 1, 1, [], 0), (65, .iconst 1, 1, [], 0), (66, .if_icmp .ne 20, 3, [], 0)]),
  (69, [(69, .aload_n 0, 1, [], 0), (70, .getfield 39, 3, [6, 7, 14, 0, 314, 0], 0), (73, .aload_n 0, 1, [], 0), (74, .iconst 1, 1, [], 0), (75, .bipush 50, 2, [], 0), (77, .invokevirtual 123, 3, [1, 1, 1, 19, 864, 0, 0, 10], 0), (80, .putfield 127, 3, [10, 9, 0, 0, 0, 195], 0), (83, .goto 68, 3, [], 0)]),
  (86, [(86, .iload_n 1, 1, [], 0), (87, .iconst 2, 1, [], 0), (88, .if_icmp .ne 21, 3, [], 0)]),
  (91, [(91, .aload_n 0, 1, [], 0), (92, .getfield 39, 3, [6, 7, 14, 0, 314, 0], 0), (95, .aload_n 0, 1, [], 0), (96, .iconst 0, 1, [], 0), (97, .sipush 2000, 3, [], 0), (100, .invokevirtual 123, 3, [1, 1, 1, 19, 864, 0, 0, 10], 0), (103, .putfield 129, 3, [10, 10, 0, 0, 0, 199], 0), (106, .goto 45, 3, [], 0)]),
  (109, [(109, .iconst 0, 1, [], 0), (110, .istore_n 2, 1, [], 0)]),
  (111, [(111, .iload_n 2, 1, [], 0), (112, .bipush 6, 2, [], 0), (114, .if_icmp .ge 37, 3, [], 0)]),
  (117, [(117, .aload_n 0, 1, [], 0), (118, .getfield 39, 3, [6, 7, 14, 0, 314, 0], 0), (121, .getfield 131, 3, [10, 0, 68, 1, 166, 0], 1), (124, .iload_n 2, 1, [], 0), (125, .aload_n 0, 1, [], 0), (126, .iconst 1, 1, [], 0), (127, .iload_n 2, 1, [], 0), (128, .iconst 3, 1, [], 0), (129, .if_icmp .ge 9, 3, [], 0)]),
  (132, [(132, .sipush 5000, 3, [], 0), (135, .goto 6, 3, [], 0)]),
  (138, [(138, .sipush 500, 3, [], 0)]),
  (141, [(141, .invokevirtual 123, 3, [1, 1, 1, 19, 864, 0, 0, 10], 0), (144, .iastore, 1, [], 0), (145, .iinc 2 1, 3, [], 0), (148, .goto (-37), 3, [], 0)]),
  (151, [(151, .return_, 1, [], 0)])]
def JX6_readSetting_141 (n : Nat) (bk : Int → Hp → Option (Hp)) (x2 z0 z1 z3 z4 : Int) (h : Hp) : Option (Hp) :=
(bnd (MX6_readNumber n z3 z4 h) fun r1 h1 =>
(grd (0 ≤ z1 ∧ z1 < alen 68)
(ltt (up h1 z0 z1 r1) fun h2 =>
(ltt (w32 (x2 + 1)) fun y1 =>
(bk y1 h2)))))
def BX6_readSetting_111 (n : Nat) : Nat → Int → Hp → Option (Hp)
  | 0, _, _ => none
  | f + 1, x2, h =>
    (if 6 ≤ x2 then
    (some h)
    else
    (if 3 ≤ x2 then
    (JX6_readSetting_141 n (BX6_readSetting_111 n f) x2 ((h 29 7) + 1) x2 1 500 h)
    else
    (JX6_readSetting_141 n (BX6_readSetting_111 n f) x2 ((h 29 7) + 1) x2 1 5000 h)))
def LX6_readSetting_111 (n : Nat) (x2 : Int) (h : Hp) : Option (Hp) :=
(BX6_readSetting_111 n n x2 h)
def JX6_readSetting_57 (n : Nat) (x1 : Int) (h : Hp) : Option (Hp) :=
(grd (0 ≤ x1 ∧ x1 < alen 46)
(ltt (up h 38 x1 (1 % 2)) fun h1 =>
(if x1 ≠ 1 then
(if x1 ≠ 2 then
(ltt 0 fun y1 =>
(LX6_readSetting_111 n y1 h1))
else
(bnd (MX6_readNumber n 0 2000 h1) fun r1 h2 =>
(ltt (up h2 (h1 29 7) 10 r1) fun h3 =>
(some h3))))
else
(bnd (MX6_readNumber n 1 50 h1) fun r2 h4 =>
(ltt (up h4 (h1 29 7) 9 r2) fun h5 =>
(some h5))))))
def MX6_readSetting (n : Nat) (x1 : Int) (h : Hp) : Option (Hp) :=
(if x1 < 0 then
(some h)
else
(if x1 < (alen 46) then
(if (h 29 10) = 0 then
(grd (0 ≤ x1 ∧ x1 < alen 46)
(if (h 38 x1) = 0 then
(JX6_readSetting_57 n x1 h)
else
(bndh (MX6_fail 3 (h 27 3) h) fun h1 =>
(JX6_readSetting_57 n x1 h1))))
else
(bndh (MX6_fail 1 (h 27 3) h) fun h2 =>
(JX6_readSetting_57 n x1 h2)))
else
(some h)))
def wX6_readSetting {ρ : Type} (n : Nat) : FN ρ := fun a h k => match a with
  | [_, x1] => bndh (MX6_readSetting n x1 h) (fun h2 => k 0 h2)
  | _ => none
def fsX6_readSetting (n : Nat) (ρ : Type) : List (FN ρ) := [wX6_fail, wX6_readNumber n]
def KJX6_readSetting_141 (_ : Nat) (bk : Int → Hp → Option (Hp)) : CT (Hp) := [(111, [(0, 10, (some 29)), (2, 0, none)], [], fun a c h => match a, c with
    | [x2], [] => bk x2 h
    | _, _ => none)]
set_option maxRecDepth 100000 in
theorem eJX6_readSetting_141 (n : Nat) (bk : Int → Hp → Option (Hp)) (x2 : Int) (z0 : Int) (z1 : Int) (z3 : Int) (z4 : Int) (h : Hp) : JX6_readSetting_141 n bk x2 z0 z1 z3 z4 h =
  goAt false (kct (KJX6_readSetting_141 n bk)) (fun _ h => some (h)) (fsX6_readSetting n _) sdX6_readSetting 1000 141 [(0, 10, 29), (2, 0, x2)] [(0, z4), (0, z3), (10, 29), (0, z1), (68, z0)] h := rfl
def KBX6_readSetting_111 (n : Nat) (bk : Int → Hp → Option (Hp)) : CT (Hp) := [(111, [(0, 10, (some 29)), (2, 0, none)], [], fun a c h => match a, c with
    | [x2], [] => bk x2 h
    | _, _ => none),
  (141, [(0, 10, (some 29)), (2, 0, none)], [(0, none), (0, none), (10, (some 29)), (0, none), (68, none)], fun a c h => match a, c with
    | [x2], [z4, z3, z1, z0] => JX6_readSetting_141 n bk x2 z0 z1 z3 z4 h
    | _, _ => none)]
set_option maxRecDepth 100000 in
theorem eBX6_readSetting_111 (n f : Nat) (x2 : Int) (h : Hp) : BX6_readSetting_111 n (f + 1) x2 h =
  goAt false (kct (KBX6_readSetting_111 n (BX6_readSetting_111 n f))) (fun _ h => some (h)) (fsX6_readSetting n _) sdX6_readSetting 1000 111 [(0, 10, 29), (2, 0, x2)] [] h := rfl
def KJX6_readSetting_57 (n : Nat) : CT (Hp) := [(111, [(0, 10, (some 29)), (2, 0, none)], [], fun a c h => match a, c with
    | [x2], [] => LX6_readSetting_111 n x2 h
    | _, _ => none)]
set_option maxRecDepth 100000 in
theorem eJX6_readSetting_57 (n : Nat) (x1 : Int) (h : Hp) : JX6_readSetting_57 n x1 h =
  goAt false (kct (KJX6_readSetting_57 n)) (fun _ h => some (h)) (fsX6_readSetting n _) sdX6_readSetting 1000 57 [(0, 10, 29), (1, 0, x1)] [] h := rfl
def KMX6_readSetting (n : Nat) : CT (Hp) := [(57, [(0, 10, (some 29)), (1, 0, none)], [], fun a c h => match a, c with
    | [x1], [] => JX6_readSetting_57 n x1 h
    | _, _ => none)]
set_option maxRecDepth 100000 in
theorem eMX6_readSetting (n : Nat) (x1 : Int) (h : Hp) : MX6_readSetting n x1 h =
  goAt false (kct (KMX6_readSetting n)) (fun _ h => some (h)) (fsX6_readSetting n _) sdX6_readSetting 1000 0 [(0, 10, 29), (1, 0, x1)] [] h := rfl
theorem okX6_readSetting : mokb (mi 20) = true := by decide +kernel
theorem rkX6_readSetting : rkOK 0 (mi 20).1.2.2.2.2.2.2.1 (mi 20).1.2.2.2.1 := Or.inl ⟨rfl, rfl, rfl⟩
def calX6_readSetting : List Nat := [17, 19]
theorem foX6_readSetting {l : Launch} {ρ : Type} (n : Nat) : fsOK l false mi calX6_readSetting (fsX6_readSetting n ρ) := ⟨sndX6_fail, ⟨(sndX6_readNumber n), trivial⟩⟩
theorem ok_sdX6_readSetting : sdb (mi 20).1.2.1 (insOK mi (mi 20).1.1.cls (mi 20).1.2.2.1 (mi 20).1.2.2.2.2.1 (mi 20).1.2.2.2.2.2.1 calX6_readSetting false 0) sdX6_readSetting = true := by decide +kernel
theorem sJX6_readSetting_141 {l : Launch} {h0 h' : Hp} {v : Int} (h8 : nOf h0 = 148) (n : Nat) (bk : Int → Hp → Option (Hp)) (hbk : ∀ (x2 : Int) (h : Hp) (r : Hp), bk x2 h = some r → gW h' r → PAt l false (mi 20).1 h0 v h' 111 [(0, 10, 29), (2, 0, x2)] [] h) (x2 : Int) (z0 : Int) (z1 : Int) (z3 : Int) (z4 : Int) (h : Hp) {r : Hp} (H : JX6_readSetting_141 n bk x2 z0 z1 z3 z4 h = some r) (hG : gW h' r) : PAt l false (mi 20).1 h0 v h' 141 [(0, 10, 29), (2, 0, x2)] [(0, z4), (0, z3), (10, 29), (0, z1), (68, z0)] h :=
  pat_w ok_sdX6_readSetting rkX6_readSetting h8 (foX6_readSetting n) (fun v1 h1 q => by
    cases q
    exact ⟨hG, fun q9 => absurd rfl q9⟩) (List.forall_mem_cons.mpr ⟨(fun a c h H => by
      dsimp only at H
      split at H
      · exact hbk _ _ _ H hG
      · cases H), (fun q9 h9 => by cases h9)⟩) ((eJX6_readSetting_141 n bk x2 z0 z1 z3 z4 h).symm.trans H)
theorem sBX6_readSetting_111 {l : Launch} {h0 h' : Hp} {v : Int} (h8 : nOf h0 = 148) (n : Nat) : ∀ (f : Nat) (x2 : Int) (h : Hp) {r : Hp}, BX6_readSetting_111 n f x2 h = some r → gW h' r → PAt l false (mi 20).1 h0 v h' 111 [(0, 10, 29), (2, 0, x2)] [] h := by
  intro f
  induction f with
  | zero =>
    intro x2 h r H _
    have H2 : (none : Option (Hp)) = some r := H
    cases H2
  | succ f ih =>
    intro x2 h r H hG
    have ihk : ∀ (x2 : Int) (h : Hp) (r : Hp), BX6_readSetting_111 n f x2 h = some r → gW h' r → PAt l false (mi 20).1 h0 v h' 111 [(0, 10, 29), (2, 0, x2)] [] h := fun x2 h r9 a9 b9 => ih x2 h a9 b9
    exact pat_w ok_sdX6_readSetting rkX6_readSetting h8 (foX6_readSetting n) (fun v1 h1 q => by
    cases q
    exact ⟨hG, fun q9 => absurd rfl q9⟩) (List.forall_mem_cons.mpr ⟨(fun a c h H => by
      dsimp only at H
      split at H
      · exact ih _ _ H hG
      · cases H), (List.forall_mem_cons.mpr ⟨(fun a c h H => by
      dsimp only at H
      split at H
      · exact sJX6_readSetting_141 h8 n (BX6_readSetting_111 n f) ihk _ _ _ _ _ _ H hG
      · cases H), (fun q9 h9 => by cases h9)⟩)⟩) ((eBX6_readSetting_111 n f x2 h).symm.trans H)
theorem sLX6_readSetting_111 {l : Launch} {h0 h' : Hp} {v : Int} (h8 : nOf h0 = 148) (n : Nat) (x2 : Int) (h : Hp) {r : Hp} (H : LX6_readSetting_111 n x2 h = some r) (hG : gW h' r) : PAt l false (mi 20).1 h0 v h' 111 [(0, 10, 29), (2, 0, x2)] [] h :=
  sBX6_readSetting_111 h8 n n x2 h H hG
theorem sJX6_readSetting_57 {l : Launch} {h0 h' : Hp} {v : Int} (h8 : nOf h0 = 148) (n : Nat) (x1 : Int) (h : Hp) {r : Hp} (H : JX6_readSetting_57 n x1 h = some r) (hG : gW h' r) : PAt l false (mi 20).1 h0 v h' 57 [(0, 10, 29), (1, 0, x1)] [] h :=
  pat_w ok_sdX6_readSetting rkX6_readSetting h8 (foX6_readSetting n) (fun v1 h1 q => by
    cases q
    exact ⟨hG, fun q9 => absurd rfl q9⟩) (List.forall_mem_cons.mpr ⟨(fun a c h H => by
      dsimp only at H
      split at H
      · exact sLX6_readSetting_111 h8 n _ _ H hG
      · cases H), (fun q9 h9 => by cases h9)⟩) ((eJX6_readSetting_57 n x1 h).symm.trans H)
theorem sMX6_readSetting {l : Launch} {h0 h' : Hp} {v : Int} (h8 : nOf h0 = 148) (n : Nat) (x1 : Int) (h : Hp) {r : Hp} (H : MX6_readSetting n x1 h = some r) (hG : gW h' r) : PAt l false (mi 20).1 h0 v h' 0 [(0, 10, 29), (1, 0, x1)] [] h :=
  pat_w ok_sdX6_readSetting rkX6_readSetting h8 (foX6_readSetting n) (fun v1 h1 q => by
    cases q
    exact ⟨hG, fun q9 => absurd rfl q9⟩) (List.forall_mem_cons.mpr ⟨(fun a c h H => by
      dsimp only at H
      split at H
      · exact sJX6_readSetting_57 h8 n _ _ H hG
      · cases H), (fun q9 h9 => by cases h9)⟩) ((eMX6_readSetting n x1 h).symm.trans H)
theorem sndX6_readSetting {ρ : Type} {l : Launch} (n : Nat) : SndF (ρ := ρ) l false (mi 20).1 (wX6_readSetting n) := by
    intro a h k r H ha ho hn hf
    have h8 := hf rfl
    obtain ⟨x0, x1, rfl⟩ := len2 (show a.length = 2 from ha)
    have u0 := uq10 hn (ho (10, x0) (List.mem_cons_self))
    subst u0
    replace H : bndh (MX6_readSetting n x1 h) (fun h2 => k 0 h2) = some r := H
    obtain ⟨h2, H1, H2⟩ := bndh_some H
    exact ⟨0, h2, H2, met_mk (mok_base okX6_readSetting).1 (by decide +kernel) (Nat.le_of_ble_eq_true rfl) ho (sMX6_readSetting h8 n x1 h H1 rfl), fun q => by cases q⟩
/-! X11_within -/
def sdX11_within : SD := [(0, [(0, .iload_n 1, 1, [], 0), (1, .iload_n 0, 1, [], 0), (2, .if_icmp .ge 7, 3, [], 0)]),
  (5, [(5, .iload_n 0, 1, [], 0), (6, .goto 13, 3, [], 0)]),
  (9, [(9, .iload_n 1, 1, [], 0), (10, .iload_n 2, 1, [], 0), (11, .if_icmp .le 7, 3, [], 0)]),
  (14, [(14, .iload_n 2, 1, [], 0), (15, .goto 4, 3, [], 0)]),
  (18, [(18, .iload_n 1, 1, [], 0)]),
  (19, [(19, .ireturn, 1, [], 0)])]
def MX11_within (x0 x1 x2 : Int) : Option (Int) :=
(if x0 ≤ x1 then
(if x1 ≤ x2 then
(some x1)
else
(some x2))
else
(some x0))
def wX11_within {ρ : Type} : FN ρ := fun a h k => match a with
  | [x0, x1, x2] => bndp (MX11_within x0 x1 x2) (fun r => k r h)
  | _ => none
def fsX11_within (ρ : Type) : List (FN ρ) := []
def KMX11_within  : CT (Int) := []
set_option maxRecDepth 100000 in
theorem eMX11_within (x0 : Int) (x1 : Int) (x2 : Int) (h : Hp) : MX11_within x0 x1 x2 =
  goAt false (kct (KMX11_within)) (fun v _ => some (v)) (fsX11_within _) sdX11_within 1000 0 [(0, 0, x0), (1, 0, x1), (2, 0, x2)] [] h := rfl
theorem okX11_within : mokb (mi 21) = true := by decide +kernel
theorem rkX11_within : rkOK 1 (mi 21).1.2.2.2.2.2.2.1 (mi 21).1.2.2.2.1 := Or.inr (Or.inl ⟨rfl, rfl, rfl⟩)
def calX11_within : List Nat := []
theorem foX11_within {l : Launch} {ρ : Type} : fsOK l false mi calX11_within (fsX11_within ρ) := trivial
theorem frX11_within {ρ : Type} : ∀ fn ∈ fsX11_within ρ, RoF fn := (fun q9 h9 => by cases h9)
theorem ok_sdX11_within : sdb (mi 21).1.2.1 (insOK mi (mi 21).1.1.cls (mi 21).1.2.2.1 (mi 21).1.2.2.2.2.1 (mi 21).1.2.2.2.2.2.1 calX11_within false 1) sdX11_within = true := by decide +kernel
theorem sMX11_within {l : Launch} {h0 : Hp} {v : Int} (h8 : nOf h0 = 148)  (x0 : Int) (x1 : Int) (x2 : Int) (h : Hp) {r : Int} (H : MX11_within x0 x1 x2 = some r) (hG : gV v r) : PAt l false (mi 21).1 h0 v h 0 [(0, 0, x0), (1, 0, x1), (2, 0, x2)] [] h :=
  pat_ro ok_sdX11_within rfl rkX11_within h8 (foX11_within) (frX11_within) (fun v1 q => by
    cases q
    exact ⟨rfl, fun _ => hG⟩) (fun q9 h9 => by cases h9) ((eMX11_within x0 x1 x2 h).symm.trans H)
theorem sndX11_within {ρ : Type} {l : Launch} : SndF (ρ := ρ) l false (mi 21).1 (wX11_within) := by
    intro a h k r H ha ho hn hf
    have h8 := hf rfl
    obtain ⟨x0, x1, x2, rfl⟩ := len3 (show a.length = 3 from ha)
    replace H : bndp (MX11_within x0 x1 x2) (fun r => k r h) = some r := H
    obtain ⟨v2, H1, H2⟩ := bndp_some H
    exact ⟨v2, h, H2, met_mk (mok_base okX11_within).1 (by decide +kernel) (Nat.le_of_ble_eq_true rfl) ho (sMX11_within h8 x0 x1 x2 h H1 rfl), fun q => by cases q⟩
theorem roX11_within {ρ : Type} : RoF (wX11_within : FN ρ) := fun a h k k2 hk => by
  unfold wX11_within
  split
  · exact bndp_ro hk
  · rfl
/-! X6_rowOf -/
def sdX6_rowOf : SD := [(0, [(0, .iconst 0, 1, [], 0), (1, .iload_n 0, 1, [], 0), (2, .bipush 40, 2, [], 0), (4, .invokestatic 145, 3, [1, 0, 4, 21, 879, 0, 0, 0], 0), (7, .bipush 6, 2, [], 0), (9, .imul, 1, [], 0), (10, .ireturn, 1, [], 0)])]
def MX6_rowOf (x0 : Int) : Option (Int) :=
(bndp (MX11_within 0 x0 40) fun r1 =>
(some (w32 (r1 * 6))))
def wX6_rowOf {ρ : Type} : FN ρ := fun a h k => match a with
  | [x0] => bndp (MX6_rowOf x0) (fun r => k r h)
  | _ => none
def fsX6_rowOf (ρ : Type) : List (FN ρ) := [wX11_within]
def KMX6_rowOf  : CT (Int) := []
set_option maxRecDepth 100000 in
theorem eMX6_rowOf (x0 : Int) (h : Hp) : MX6_rowOf x0 =
  goAt false (kct (KMX6_rowOf)) (fun v _ => some (v)) (fsX6_rowOf _) sdX6_rowOf 1000 0 [(0, 0, x0)] [] h := rfl
theorem okX6_rowOf : mokb (mi 22) = true := by decide +kernel
theorem rkX6_rowOf : rkOK 1 (mi 22).1.2.2.2.2.2.2.1 (mi 22).1.2.2.2.1 := Or.inr (Or.inl ⟨rfl, rfl, rfl⟩)
def calX6_rowOf : List Nat := [21]
theorem foX6_rowOf {l : Launch} {ρ : Type} : fsOK l false mi calX6_rowOf (fsX6_rowOf ρ) := ⟨sndX11_within, trivial⟩
theorem frX6_rowOf {ρ : Type} : ∀ fn ∈ fsX6_rowOf ρ, RoF fn := (List.forall_mem_cons.mpr ⟨roX11_within, (fun q9 h9 => by cases h9)⟩)
theorem ok_sdX6_rowOf : sdb (mi 22).1.2.1 (insOK mi (mi 22).1.1.cls (mi 22).1.2.2.1 (mi 22).1.2.2.2.2.1 (mi 22).1.2.2.2.2.2.1 calX6_rowOf false 1) sdX6_rowOf = true := by decide +kernel
theorem sMX6_rowOf {l : Launch} {h0 : Hp} {v : Int} (h8 : nOf h0 = 148)  (x0 : Int) (h : Hp) {r : Int} (H : MX6_rowOf x0 = some r) (hG : gV v r) : PAt l false (mi 22).1 h0 v h 0 [(0, 0, x0)] [] h :=
  pat_ro ok_sdX6_rowOf rfl rkX6_rowOf h8 (foX6_rowOf) (frX6_rowOf) (fun v1 q => by
    cases q
    exact ⟨rfl, fun _ => hG⟩) (fun q9 h9 => by cases h9) ((eMX6_rowOf x0 h).symm.trans H)
theorem sndX6_rowOf {ρ : Type} {l : Launch} : SndF (ρ := ρ) l false (mi 22).1 (wX6_rowOf) := by
    intro a h k r H ha ho hn hf
    have h8 := hf rfl
    obtain ⟨x0, rfl⟩ := len1 (show a.length = 1 from ha)
    replace H : bndp (MX6_rowOf x0) (fun r => k r h) = some r := H
    obtain ⟨v2, H1, H2⟩ := bndp_some H
    exact ⟨v2, h, H2, met_mk (mok_base okX6_rowOf).1 (by decide +kernel) (Nat.le_of_ble_eq_true rfl) ho (sMX6_rowOf h8 x0 h H1 rfl), fun q => by cases q⟩
theorem roX6_rowOf {ρ : Type} : RoF (wX6_rowOf : FN ρ) := fun a h k k2 hk => by
  unfold wX6_rowOf
  split
  · exact bndp_ro hk
  · rfl
/-! X6_readSigned -/
def sdX6_readSigned : SD := [(0, [(0, .aload_n 0, 1, [], 0), (1, .getfield 53, 3, [6, 8, 0, 0, 315, 0], 0), (4, .iconst (-1), 1, [], 0), (5, .if_icmp .eq 5, 3, [], 0)]),
  (8, [(8, .iconst 0, 1, [], 0), (9, .ireturn, 1, [], 0)]),
  (10, [(10, .aload_n 0, 1, [], 0), (11, .getfield 35, 3, [6, 0, 13, 1, 307, 0], (-2)), (14, .invokevirtual 61, 3, [0, 0, 1, 14, 765, 13], 0), (17, .aload_n 0, 1, [], 0), (18, .getfield 35, 3, [6, 0, 13, 1, 307, 0], (-2)), (21, .getfield 64, 3, [9, 2, 0, 0, 257, 0], 0), (24, .iconst 3, 1, [], 0), (25, .if_icmp .eq 10, 3, [], 0)]),
  (28, [(28, .aload_n 0, 1, [], 0), (29, .iload_n 1, 1, [], 0), (30, .iload_n 2, 1, [], 0), (31, .invokevirtual 174, 3, [1, 1, 1, 18, 868, 0, 0, 10], 0), (34, .ireturn, 1, [], 0)]),
  (35, [(35, .aload_n 0, 1, [], 0), (36, .getfield 35, 3, [6, 0, 13, 1, 307, 0], (-2)), (39, .invokevirtual 61, 3, [0, 0, 1, 14, 765, 13], 0), (42, .aload_n 0, 1, [], 0), (43, .iload_n 1, 1, [], 0), (44, .iload_n 2, 1, [], 0), (45, .invokevirtual 174, 3, [1, 1, 1, 18, 868, 0, 0, 10], 0), (48, .ineg, 1, [], 0), (49, .ireturn, 1, [], 0)])]
def MX6_readSigned (n : Nat) (x1 x2 : Int) (h : Hp) : Option (Int × Hp) :=
(if (h 29 8) = (-1) then
(bndh (MX9_next n h) fun h1 =>
(if (h1 27 2) = 3 then
(bndh (MX9_next n h1) fun h2 =>
(bnd (MX6_numberOf x1 x2 h2) fun r1 h3 =>
(some ((w32 (-r1)), h3))))
else
(bnd (MX6_numberOf x1 x2 h1) fun r2 h4 =>
(some (r2, h4)))))
else
(some (0, h)))
def wX6_readSigned {ρ : Type} (n : Nat) : FN ρ := fun a h k => match a with
  | [_, x1, x2] => bnd (MX6_readSigned n x1 x2 h) (fun r h2 => k r h2)
  | _ => none
def fsX6_readSigned (n : Nat) (ρ : Type) : List (FN ρ) := [wX9_next n, wX6_numberOf]
def KMX6_readSigned (_ : Nat) : CT (Int × Hp) := []
set_option maxRecDepth 100000 in
theorem eMX6_readSigned (n : Nat) (x1 : Int) (x2 : Int) (h : Hp) : MX6_readSigned n x1 x2 h =
  goAt false (kct (KMX6_readSigned n)) (fun v h => some ((v, h))) (fsX6_readSigned n _) sdX6_readSigned 1000 0 [(0, 10, 29), (1, 0, x1), (2, 0, x2)] [] h := rfl
theorem okX6_readSigned : mokb (mi 23) = true := by decide +kernel
theorem rkX6_readSigned : rkOK 1 (mi 23).1.2.2.2.2.2.2.1 (mi 23).1.2.2.2.1 := Or.inr (Or.inl ⟨rfl, rfl, rfl⟩)
def calX6_readSigned : List Nat := [14, 18]
theorem foX6_readSigned {l : Launch} {ρ : Type} (n : Nat) : fsOK l false mi calX6_readSigned (fsX6_readSigned n ρ) := ⟨(sndX9_next n), ⟨sndX6_numberOf, trivial⟩⟩
theorem ok_sdX6_readSigned : sdb (mi 23).1.2.1 (insOK mi (mi 23).1.1.cls (mi 23).1.2.2.1 (mi 23).1.2.2.2.2.1 (mi 23).1.2.2.2.2.2.1 calX6_readSigned false 1) sdX6_readSigned = true := by decide +kernel
theorem sMX6_readSigned {l : Launch} {h0 h' : Hp} {v : Int} (h8 : nOf h0 = 148) (n : Nat) (x1 : Int) (x2 : Int) (h : Hp) {r : Int × Hp} (H : MX6_readSigned n x1 x2 h = some r) (hG : gWV v h' r) : PAt l false (mi 23).1 h0 v h' 0 [(0, 10, 29), (1, 0, x1), (2, 0, x2)] [] h :=
  pat_w ok_sdX6_readSigned rkX6_readSigned h8 (foX6_readSigned n) (fun v1 h1 q => by
    cases q
    exact ⟨hG.1, fun _ => hG.2⟩) (fun q9 h9 => by cases h9) ((eMX6_readSigned n x1 x2 h).symm.trans H)
theorem sndX6_readSigned {ρ : Type} {l : Launch} (n : Nat) : SndF (ρ := ρ) l false (mi 23).1 (wX6_readSigned n) := by
    intro a h k r H ha ho hn hf
    have h8 := hf rfl
    obtain ⟨x0, x1, x2, rfl⟩ := len3 (show a.length = 3 from ha)
    have u0 := uq10 hn (ho (10, x0) (List.mem_cons_self))
    subst u0
    replace H : bnd (MX6_readSigned n x1 x2 h) (fun r h2 => k r h2) = some r := H
    obtain ⟨v2, h2, H1, H2⟩ := bnd_some H
    exact ⟨v2, h2, H2, met_mk (mok_base okX6_readSigned).1 (by decide +kernel) (Nat.le_of_ble_eq_true rfl) ho (sMX6_readSigned h8 n x1 x2 h H1 ⟨rfl, rfl⟩), fun q => by cases q⟩
