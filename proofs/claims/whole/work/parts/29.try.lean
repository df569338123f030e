/-! X9_addByte -/
def sdX9_addByte : SD := [(0, [(0, .aload_n 0, 1, [], 0), (1, .getfield 19, 3, [9, 1, 0, 0, 256, 0], 0), (4, .ifCond .lt 37, 3, [], 0)]),
  (7, [(7, .aload_n 0, 1, [], 0), (8, .getfield 19, 3, [9, 1, 0, 0, 256, 0], 0), (11, .sipush 400, 3, [], 0), (14, .if_icmp .ge 27, 3, [], 0)]),
  (17, [(17, .aload_n 0, 1, [], 0), (18, .getfield 9, 3, [9, 0, 3220, 1, 254, 0], 1), (21, .aload_n 0, 1, [], 0), (22, .getfield 19, 3, [9, 1, 0, 0, 256, 0], 0), (25, .iload_n 1, 1, [], 0), (26, .sipush 255, 3, [], 0), (29, .iand, 1, [], 0), (30, .iastore, 1, [], 0), (31, .aload_n 0, 1, [], 0), (32, .dup, 1, [], 0), (33, .getfield 19, 3, [9, 1, 0, 0, 256, 0], 0), (36, .iconst 1, 1, [], 0), (37, .iadd, 1, [], 0), (38, .putfield 19, 3, [9, 1, 0, 0, 0, 256], 0)]),
  (41, [(41, .return_, 1, [], 0)])]
def MX9_addByte (x1 : Int) (h : Hp) : Option (Hp) :=
(if (h 27 1) < 0 then
(some h)
else
(if 400 ≤ (h 27 1) then
(some h)
else
(grd (0 ≤ (h 27 1) ∧ (h 27 1) < alen 3220)
(ltt (up h 28 (h 27 1) (iand x1 255)) fun h1 =>
(ltt (up h1 27 1 (w32 ((h1 27 1) + 1))) fun h2 =>
(some h2))))))
def wX9_addByte {ρ : Type} : FN ρ := fun a h k => match a with
  | [_, x1] => bndh (MX9_addByte x1 h) (fun h2 => k 0 h2)
  | _ => none
def fsX9_addByte (ρ : Type) : List (FN ρ) := []
def KX9_addByte  : CT (Hp) := []
set_option maxRecDepth 100000 in
theorem eMX9_addByte (x1 : Int) (h : Hp) : MX9_addByte x1 h =
  goAt false (kct (KX9_addByte)) (fun _ h => some (h)) (fsX9_addByte _) sdX9_addByte 1000 0 [(0, 13, 27), (1, 0, x1)] [] h := rfl
theorem okX9_addByte : mokb (mi 0) = true := by decide +kernel
theorem rkX9_addByte : rkOK 0 (mi 0).1.2.2.2.2.2.2.1 (mi 0).1.2.2.2.1 := Or.inl ⟨rfl, rfl, rfl⟩
def calX9_addByte : List Nat := []
theorem foX9_addByte {l : Launch} {ρ : Type} : fsOK l false mi calX9_addByte (fsX9_addByte ρ) := trivial
theorem ok_sdX9_addByte : sdb (mi 0).1.2.1 (insOK mi (mi 0).1.1.cls (mi 0).1.2.2.1 (mi 0).1.2.2.2.2.1 (mi 0).1.2.2.2.2.2.1 calX9_addByte false 0) sdX9_addByte = true := by decide +kernel
theorem sMX9_addByte {l : Launch} {h0 h' : Hp} {v : Int} (h8 : nOf h0 = 148)  (x1 : Int) (h : Hp) {r : Hp} (H : MX9_addByte x1 h = some r) (hG : gW h' r) : PAt l false (mi 0).1 h0 v h' 0 [(0, 13, 27), (1, 0, x1)] [] h :=
  pat_w ok_sdX9_addByte rkX9_addByte h8 (foX9_addByte) (fun v1 h1 q => by
    cases q
    exact ⟨hG, fun q9 => absurd rfl q9⟩) (fun q9 h9 => by cases h9) ((eMX9_addByte x1 h).symm.trans H)
theorem sndX9_addByte {ρ : Type} {l : Launch} : SndF (ρ := ρ) l false (mi 0).1 (wX9_addByte) := by
    intro a h k r H ha ho hn hf
    have h8 := hf rfl
    obtain ⟨x0, x1, rfl⟩ := len2 (show a.length = 2 from ha)
    have u0 := uq13 hn (ho (13, x0) (List.mem_cons_self))
    subst u0
    replace H : bndh (MX9_addByte x1 h) (fun h2 => k 0 h2) = some r := H
    obtain ⟨h2, H1, H2⟩ := bndh_some H
    exact ⟨0, h2, H2, met_mk (mok_base okX9_addByte).1 (by decide +kernel) (Nat.le_of_ble_eq_true rfl) ho (sMX9_addByte h8 x1 h H1 rfl), fun q => by cases q⟩
/-! X12_put4 -/
def sdX12_put4 : SD := [(0, [(0, .bipush 24, 2, [], 0), (2, .istore_n 2, 1, [], 0)]),
  (3, [(3, .iload_n 2, 1, [], 0), (4, .ifCond .lt 32, 3, [], 0)]),
  (7, [(7, .aload_n 0, 1, [], 0), (8, .getfield 52, 3, [12, 19, 3223, 1, 1341, 0], 14), (11, .aload_n 0, 1, [], 0), (12, .getfield 180, 3, [12, 20, 0, 0, 1342, 0], 0), (15, .iload_n 1, 1, [], 0), (16, .iload_n 2, 1, [], 0), (17, .ishr, 1, [], 0), (18, .i2b, 1, [], 0), (19, .bastore, 1, [], 0), (20, .aload_n 0, 1, [], 0), (21, .dup, 1, [], 0), (22, .getfield 180, 3, [12, 20, 0, 0, 1342, 0], 0), (25, .iconst 1, 1, [], 0), (26, .iadd, 1, [], 0), (27, .putfield 180, 3, [12, 20, 0, 0, 0, 1342], 0), (30, .iinc 2 (-8), 3, [], 0), (33, .goto (-30), 3, [], 0)]),
  (36, [(36, .return_, 1, [], 0)])]
def BX12_put4_3 (n : Nat) : Nat → Int → Int → Hp → Option (Hp)
  | 0, _, _, _ => none
  | f + 1, x1, x2, h =>
    (if x2 < 0 then
    (some h)
    else
    (grd (0 ≤ (h 113 20) ∧ (h 113 20) < alen 3223)
    (ltt (up h 127 (h 113 20) (w8 (w8 (ishr x1 x2)))) fun h1 =>
    (ltt (up h1 113 20 (w32 ((h1 113 20) + 1))) fun h2 =>
    (ltt (w32 (x2 + (-8))) fun y1 =>
    (BX12_put4_3 n f x1 y1 h2))))))
def LX12_put4_3 (n : Nat) (x1 x2 : Int) (h : Hp) : Option (Hp) :=
(BX12_put4_3 n n x1 x2 h)
def MX12_put4 (n : Nat) (x1 : Int) (h : Hp) : Option (Hp) :=
(ltt 24 fun y1 =>
(LX12_put4_3 n x1 y1 h))
def wX12_put4 {ρ : Type} (n : Nat) : FN ρ := fun a h k => match a with
  | [_, x1] => bndh (MX12_put4 n x1 h) (fun h2 => k 0 h2)
  | _ => none
def fsX12_put4 (n : Nat) (ρ : Type) : List (FN ρ) := []
def KX12_put4 (n : Nat) : CT (Hp) := [(3, [(0, 16, (some 113)), (1, 0, none), (2, 0, none)], [], fun a c h => match a, c with
    | [x1, x2], [] => LX12_put4_3 n x1 x2 h
    | _, _ => none)]
def KX12_put4_3 (n : Nat) (bk : Int → Int → Hp → Option (Hp)) : CT (Hp) := [(3, [(0, 16, (some 113)), (1, 0, none), (2, 0, none)], [], fun a c h => match a, c with
    | [x1, x2], [] => bk x1 x2 h
    | _, _ => none)]
set_option maxRecDepth 100000 in
theorem eBX12_put4_3 (n f : Nat) (x1 : Int) (x2 : Int) (h : Hp) : BX12_put4_3 n (f + 1) x1 x2 h =
  goAt false (kct (KX12_put4_3 n (BX12_put4_3 n f))) (fun _ h => some (h)) (fsX12_put4 n _) sdX12_put4 1000 3 [(0, 16, 113), (1, 0, x1), (2, 0, x2)] [] h := rfl
set_option maxRecDepth 100000 in
theorem eMX12_put4 (n : Nat) (x1 : Int) (h : Hp) : MX12_put4 n x1 h =
  goAt false (kct (KX12_put4 n)) (fun _ h => some (h)) (fsX12_put4 n _) sdX12_put4 1000 0 [(0, 16, 113), (1, 0, x1)] [] h := rfl
theorem okX12_put4 : mokb (mi 3) = true := by decide +kernel
theorem rkX12_put4 : rkOK 0 (mi 3).1.2.2.2.2.2.2.1 (mi 3).1.2.2.2.1 := Or.inl ⟨rfl, rfl, rfl⟩
def calX12_put4 : List Nat := []
theorem foX12_put4 {l : Launch} {ρ : Type} (n : Nat) : fsOK l false mi calX12_put4 (fsX12_put4 n ρ) := trivial
theorem ok_sdX12_put4 : sdb (mi 3).1.2.1 (insOK mi (mi 3).1.1.cls (mi 3).1.2.2.1 (mi 3).1.2.2.2.2.1 (mi 3).1.2.2.2.2.2.1 calX12_put4 false 0) sdX12_put4 = true := by decide +kernel
theorem sBX12_put4_3 {l : Launch} {h0 h' : Hp} {v : Int} (h8 : nOf h0 = 148) (n : Nat) : ∀ (f : Nat) (x1 : Int) (x2 : Int) (h : Hp) {r : Hp}, BX12_put4_3 n f x1 x2 h = some r → gW h' r → PAt l false (mi 3).1 h0 v h' 3 [(0, 16, 113), (1, 0, x1), (2, 0, x2)] [] h := by
  intro f
  induction f with
  | zero =>
    intro x1 x2 h r H _
    have H2 : (none : Option (Hp)) = some r := H
    cases H2
  | succ f ih =>
    intro x1 x2 h r H hG
    exact pat_w ok_sdX12_put4 rkX12_put4 h8 (foX12_put4 n) (fun v1 h1 q => by
    cases q
    exact ⟨hG, fun q9 => absurd rfl q9⟩) (List.forall_mem_cons.mpr ⟨(fun a c h H => by
      dsimp only at H
      split at H
      · exact ih _ _ _ H hG
      · cases H), (fun q9 h9 => by cases h9)⟩) ((eBX12_put4_3 n f x1 x2 h).symm.trans H)
theorem sLX12_put4_3 {l : Launch} {h0 h' : Hp} {v : Int} (h8 : nOf h0 = 148) (n : Nat) (x1 : Int) (x2 : Int) (h : Hp) {r : Hp} (H : LX12_put4_3 n x1 x2 h = some r) (hG : gW h' r) : PAt l false (mi 3).1 h0 v h' 3 [(0, 16, 113), (1, 0, x1), (2, 0, x2)] [] h :=
  sBX12_put4_3 h8 n n x1 x2 h H hG
theorem sMX12_put4 {l : Launch} {h0 h' : Hp} {v : Int} (h8 : nOf h0 = 148) (n : Nat) (x1 : Int) (h : Hp) {r : Hp} (H : MX12_put4 n x1 h = some r) (hG : gW h' r) : PAt l false (mi 3).1 h0 v h' 0 [(0, 16, 113), (1, 0, x1)] [] h :=
  pat_w ok_sdX12_put4 rkX12_put4 h8 (foX12_put4 n) (fun v1 h1 q => by
    cases q
    exact ⟨hG, fun q9 => absurd rfl q9⟩) (List.forall_mem_cons.mpr ⟨(fun a c h H => by
      dsimp only at H
      split at H
      · exact sLX12_put4_3 h8 n _ _ _ H hG
      · cases H), (fun q9 h9 => by cases h9)⟩) ((eMX12_put4 n x1 h).symm.trans H)
theorem sndX12_put4 {ρ : Type} {l : Launch} (n : Nat) : SndF (ρ := ρ) l false (mi 3).1 (wX12_put4 n) := by
    intro a h k r H ha ho hn hf
    have h8 := hf rfl
    obtain ⟨x0, x1, rfl⟩ := len2 (show a.length = 2 from ha)
    have u0 := uq16 hn (ho (16, x0) (List.mem_cons_self))
    subst u0
    replace H : bndh (MX12_put4 n x1 h) (fun h2 => k 0 h2) = some r := H
    obtain ⟨h2, H1, H2⟩ := bndh_some H
    exact ⟨0, h2, H2, met_mk (mok_base okX12_put4).1 (by decide +kernel) (Nat.le_of_ble_eq_true rfl) ho (sMX12_put4 h8 n x1 h H1 rfl), fun q => by cases q⟩
/-! X9_isBlank -/
def sdX9_isBlank : SD := [(0, [(0, .iload_n 0, 1, [], 0), (1, .bipush 32, 2, [], 0), (3, .if_icmp .eq 9, 3, [], 0)]),
  (6, [(6, .iload_n 0, 1, [], 0), (7, .bipush 10, 2, [], 0), (9, .if_icmp .ne 7, 3, [], 0)]),
  (12, [(12, .iconst 1, 1, [], 0), (13, .goto 4, 3, [], 0)]),
  (16, [(16, .iconst 0, 1, [], 0)]),
  (17, [(17, .ireturn, 1, [1], 0)])]
def MX9_isBlank (x0 : Int) : Option (Int) :=
(if x0 = 32 then
(some 1)
else
(if x0 ≠ 10 then
(some 0)
else
(some 1)))
def wX9_isBlank {ρ : Type} : FN ρ := fun a h k => match a with
  | [x0] => bndp (MX9_isBlank x0) (fun r => k r h)
  | _ => none
def fsX9_isBlank (ρ : Type) : List (FN ρ) := []
def KX9_isBlank  : CT (Int) := []
set_option maxRecDepth 100000 in
theorem eMX9_isBlank (x0 : Int) (h : Hp) : MX9_isBlank x0 =
  goAt false (kct (KX9_isBlank)) (fun v _ => some (v)) (fsX9_isBlank _) sdX9_isBlank 1000 0 [(0, 0, x0)] [] h := rfl
theorem okX9_isBlank : mokb (mi 9) = true := by decide +kernel
theorem rkX9_isBlank : rkOK 4 (mi 9).1.2.2.2.2.2.2.1 (mi 9).1.2.2.2.1 := Or.inr (Or.inr (Or.inl ⟨rfl, rfl, rfl⟩))
def calX9_isBlank : List Nat := []
theorem foX9_isBlank {l : Launch} {ρ : Type} : fsOK l false mi calX9_isBlank (fsX9_isBlank ρ) := trivial
theorem frX9_isBlank {ρ : Type} : ∀ fn ∈ fsX9_isBlank ρ, RoF fn := (fun q9 h9 => by cases h9)
theorem ok_sdX9_isBlank : sdb (mi 9).1.2.1 (insOK mi (mi 9).1.1.cls (mi 9).1.2.2.1 (mi 9).1.2.2.2.2.1 (mi 9).1.2.2.2.2.2.1 calX9_isBlank false 4) sdX9_isBlank = true := by decide +kernel
theorem sMX9_isBlank {l : Launch} {h0 : Hp} {v : Int} (h8 : nOf h0 = 148)  (x0 : Int) (h : Hp) {r : Int} (H : MX9_isBlank x0 = some r) (hG : gV v r) : PAt l false (mi 9).1 h0 v h 0 [(0, 0, x0)] [] h :=
  pat_ro ok_sdX9_isBlank rfl rkX9_isBlank h8 (foX9_isBlank) (frX9_isBlank) (fun v1 q => by
    cases q
    exact ⟨rfl, fun _ => hG⟩) (fun q9 h9 => by cases h9) ((eMX9_isBlank x0 h).symm.trans H)
theorem sndX9_isBlank {ρ : Type} {l : Launch} : SndF (ρ := ρ) l false (mi 9).1 (wX9_isBlank) := by
    intro a h k r H ha ho hn hf
    have h8 := hf rfl
    obtain ⟨x0, rfl⟩ := len1 (show a.length = 1 from ha)
    replace H : bndp (MX9_isBlank x0) (fun r => k r h) = some r := H
    obtain ⟨v2, H1, H2⟩ := bndp_some H
    exact ⟨v2, h, H2, met_mk (mok_base okX9_isBlank).1 (by decide +kernel) (Nat.le_of_ble_eq_true rfl) ho (sMX9_isBlank h8 x0 h H1 rfl), fun q => by cases q⟩
theorem roX9_isBlank {ρ : Type} : RoF (wX9_isBlank : FN ρ) := fun a h k k2 hk => by
  unfold wX9_isBlank
  split
  · exact bndp_ro hk
  · rfl
/-! X11_square -/
def sdX11_square : SD := [(0, [(0, .lload_n 0, 1, [], 0), (1, .lload_n 0, 1, [], 0), (2, .lmul, 1, [], 0), (3, .lreturn, 1, [], 0)])]
def MX11_square (x0 : Int) : Option (Int) :=
(some (w64 (x0 * x0)))
def wX11_square {ρ : Type} : FN ρ := fun a h k => match a with
  | [x0] => bndp (MX11_square x0) (fun r => k r h)
  | _ => none
def fsX11_square (ρ : Type) : List (FN ρ) := []
def KX11_square  : CT (Int) := []
set_option maxRecDepth 100000 in
theorem eMX11_square (x0 : Int) (h : Hp) : MX11_square x0 =
  goAt false (kct (KX11_square)) (fun v _ => some (v)) (fsX11_square _) sdX11_square 1000 0 [(0, 1, x0)] [] h := rfl
theorem okX11_square : mokb (mi 32) = true := by decide +kernel
theorem rkX11_square : rkOK 2 (mi 32).1.2.2.2.2.2.2.1 (mi 32).1.2.2.2.1 := Or.inr (Or.inr (Or.inr (Or.inl ⟨rfl, rfl, rfl⟩)))
def calX11_square : List Nat := []
theorem foX11_square {l : Launch} {ρ : Type} : fsOK l false mi calX11_square (fsX11_square ρ) := trivial
theorem frX11_square {ρ : Type} : ∀ fn ∈ fsX11_square ρ, RoF fn := (fun q9 h9 => by cases h9)
theorem ok_sdX11_square : sdb (mi 32).1.2.1 (insOK mi (mi 32).1.1.cls (mi 32).1.2.2.1 (mi 32).1.2.2.2.2.1 (mi 32).1.2.2.2.2.2.1 calX11_square false 2) sdX11_square = true := by decide +kernel
theorem sMX11_square {l : Launch} {h0 : Hp} {v : Int} (h8 : nOf h0 = 148)  (x0 : Int) (h : Hp) {r : Int} (H : MX11_square x0 = some r) (hG : gV v r) : PAt l false (mi 32).1 h0 v h 0 [(0, 1, x0)] [] h :=
  pat_ro ok_sdX11_square rfl rkX11_square h8 (foX11_square) (frX11_square) (fun v1 q => by
    cases q
    exact ⟨rfl, fun _ => hG⟩) (fun q9 h9 => by cases h9) ((eMX11_square x0 h).symm.trans H)
theorem sndX11_square {ρ : Type} {l : Launch} : SndF (ρ := ρ) l false (mi 32).1 (wX11_square) := by
    intro a h k r H ha ho hn hf
    have h8 := hf rfl
    obtain ⟨x0, rfl⟩ := len1 (show a.length = 1 from ha)
    replace H : bndp (MX11_square x0) (fun r => k r h) = some r := H
    obtain ⟨v2, H1, H2⟩ := bndp_some H
    exact ⟨v2, h, H2, met_mk (mok_base okX11_square).1 (by decide +kernel) (Nat.le_of_ble_eq_true rfl) ho (sMX11_square h8 x0 h H1 rfl), fun q => by cases q⟩
theorem roX11_square {ρ : Type} : RoF (wX11_square : FN ρ) := fun a h k k2 hk => by
  unfold wX11_square
  split
  · exact bndp_ro hk
  · rfl
/-! X11_root -/
def sdX11_root : SD := [(0, [(0, .lconst 0, 1, [], 0), (1, .lstore_n 2, 1, [], 0), (2, .bipush 30, 2, [], 0), (4, .istore 4, 2, [], 0)]),
  (6, [(6, .iload 4, 2, [], 0), (8, .ifCond .lt 30, 3, [], 0)]),
  (11, [(11, .lload_n 2, 1, [], 0), (12, .lconst 1, 1, [], 0), (13, .iload 4, 2, [], 0), (15, .lshl, 1, [], 0), (16, .ladd, 1, [], 0), (17, .lstore 5, 2, [], 0), (19, .lload 5, 2, [], 0), (21, .lload 5, 2, [], 0), (23, .lmul, 1, [], 0), (24, .lload_n 0, 1, [], 0), (25, .lcmp, 1, [], 0), (26, .ifCond .gt 6, 3, [], 0)]),
  (29, [(29, .lload 5, 2, [], 0), (31, .lstore_n 2, 1, [], 0)]),
  (32, [(32, .iinc 4 (-1), 3, [], 0), (35, .goto (-29), 3, [], 0)]),
  (38, [(38, .lload_n 2, 1, [], 0), (39, .l2i, 1, [], 0), (40, .ireturn, 1, [], 0)])]
def BX11_root_6 (n : Nat) : Nat → Int → Int → Int → Option (Int)
  | 0, _, _, _ => none
  | f + 1, x0, x2, x4 =>
    (if x4 < 0 then
    (some (w32 x2))
    else
    (ltt (w64 (x2 + (lshl 1 x4))) fun y1 =>
    (if 0 < (lcp (w64 (y1 * y1)) x0) then
    (ltt (w32 (x4 + (-1))) fun y2 =>
    (BX11_root_6 n f x0 x2 y2))
    else
    (ltt y1 fun y3 =>
    (ltt (w32 (x4 + (-1))) fun y4 =>
    (BX11_root_6 n f x0 y3 y4))))))
def LX11_root_6 (n : Nat) (x0 x2 x4 : Int) : Option (Int) :=
(BX11_root_6 n n x0 x2 x4)
def MX11_root (n : Nat) (x0 : Int) : Option (Int) :=
(ltt 0 fun y1 =>
(ltt 30 fun y2 =>
(LX11_root_6 n x0 y1 y2)))
def wX11_root {ρ : Type} (n : Nat) : FN ρ := fun a h k => match a with
  | [x0] => bndp (MX11_root n x0) (fun r => k r h)
  | _ => none
def fsX11_root (n : Nat) (ρ : Type) : List (FN ρ) := []
def KX11_root (n : Nat) : CT (Int) := [(6, [(0, 1, none), (2, 1, none), (4, 0, none)], [], fun a c _ => match a, c with
    | [x0, x2, x4], [] => LX11_root_6 n x0 x2 x4
    | _, _ => none)]
def KX11_root_6 (n : Nat) (bk : Int → Int → Int → Option (Int)) : CT (Int) := [(6, [(0, 1, none), (2, 1, none), (4, 0, none)], [], fun a c _ => match a, c with
    | [x0, x2, x4], [] => bk x0 x2 x4
    | _, _ => none)]
set_option maxRecDepth 100000 in
theorem eBX11_root_6 (n f : Nat) (x0 : Int) (x2 : Int) (x4 : Int) (h : Hp) : BX11_root_6 n (f + 1) x0 x2 x4 =
  goAt false (kct (KX11_root_6 n (BX11_root_6 n f))) (fun v _ => some (v)) (fsX11_root n _) sdX11_root 1000 6 [(0, 1, x0), (2, 1, x2), (4, 0, x4)] [] h := rfl
set_option maxRecDepth 100000 in
theorem eMX11_root (n : Nat) (x0 : Int) (h : Hp) : MX11_root n x0 =
  goAt false (kct (KX11_root n)) (fun v _ => some (v)) (fsX11_root n _) sdX11_root 1000 0 [(0, 1, x0)] [] h := rfl
theorem okX11_root : mokb (mi 33) = true := by decide +kernel
theorem rkX11_root : rkOK 1 (mi 33).1.2.2.2.2.2.2.1 (mi 33).1.2.2.2.1 := Or.inr (Or.inl ⟨rfl, rfl, rfl⟩)
def calX11_root : List Nat := []
theorem foX11_root {l : Launch} {ρ : Type} (n : Nat) : fsOK l false mi calX11_root (fsX11_root n ρ) := trivial
theorem frX11_root {ρ : Type} (n : Nat) : ∀ fn ∈ fsX11_root n ρ, RoF fn := (fun q9 h9 => by cases h9)
theorem ok_sdX11_root : sdb (mi 33).1.2.1 (insOK mi (mi 33).1.1.cls (mi 33).1.2.2.1 (mi 33).1.2.2.2.2.1 (mi 33).1.2.2.2.2.2.1 calX11_root false 1) sdX11_root = true := by decide +kernel
theorem sBX11_root_6 {l : Launch} {h0 : Hp} {v : Int} (h8 : nOf h0 = 148) (n : Nat) (h : Hp) : ∀ (f : Nat) (x0 : Int) (x2 : Int) (x4 : Int) {r : Int}, BX11_root_6 n f x0 x2 x4 = some r → gV v r → PAt l false (mi 33).1 h0 v h 6 [(0, 1, x0), (2, 1, x2), (4, 0, x4)] [] h := by
  intro f
  induction f with
  | zero =>
    intro x0 x2 x4 r H _
    have H2 : (none : Option (Int)) = some r := H
    cases H2
  | succ f ih =>
    intro x0 x2 x4 r H hG
    exact pat_ro ok_sdX11_root rfl rkX11_root h8 (foX11_root n) (frX11_root n) (fun v1 q => by
    cases q
    exact ⟨rfl, fun _ => hG⟩) (List.forall_mem_cons.mpr ⟨(fun a c H => by
      dsimp only at H
      split at H
      · exact ih _ _ _ H hG
      · cases H), (fun q9 h9 => by cases h9)⟩) ((eBX11_root_6 n f x0 x2 x4 h).symm.trans H)
theorem sLX11_root_6 {l : Launch} {h0 : Hp} {v : Int} (h8 : nOf h0 = 148) (n : Nat) (x0 : Int) (x2 : Int) (x4 : Int) (h : Hp) {r : Int} (H : LX11_root_6 n x0 x2 x4 = some r) (hG : gV v r) : PAt l false (mi 33).1 h0 v h 6 [(0, 1, x0), (2, 1, x2), (4, 0, x4)] [] h :=
  sBX11_root_6 h8 n h n x0 x2 x4 H hG
theorem sMX11_root {l : Launch} {h0 : Hp} {v : Int} (h8 : nOf h0 = 148) (n : Nat) (x0 : Int) (h : Hp) {r : Int} (H : MX11_root n x0 = some r) (hG : gV v r) : PAt l false (mi 33).1 h0 v h 0 [(0, 1, x0)] [] h :=
  pat_ro ok_sdX11_root rfl rkX11_root h8 (foX11_root n) (frX11_root n) (fun v1 q => by
    cases q
    exact ⟨rfl, fun _ => hG⟩) (List.forall_mem_cons.mpr ⟨(fun a c H => by
      dsimp only at H
      split at H
      · exact sLX11_root_6 h8 n _ _ _ _ H hG
      · cases H), (fun q9 h9 => by cases h9)⟩) ((eMX11_root n x0 h).symm.trans H)
theorem sndX11_root {ρ : Type} {l : Launch} (n : Nat) : SndF (ρ := ρ) l false (mi 33).1 (wX11_root n) := by
    intro a h k r H ha ho hn hf
    have h8 := hf rfl
    obtain ⟨x0, rfl⟩ := len1 (show a.length = 1 from ha)
    replace H : bndp (MX11_root n x0) (fun r => k r h) = some r := H
    obtain ⟨v2, H1, H2⟩ := bndp_some H
    exact ⟨v2, h, H2, met_mk (mok_base okX11_root).1 (by decide +kernel) (Nat.le_of_ble_eq_true rfl) ho (sMX11_root h8 n x0 h H1 rfl), fun q => by cases q⟩
theorem roX11_root {ρ : Type} (n : Nat) : RoF (wX11_root n : FN ρ) := fun a h k k2 hk => by
  unfold wX11_root
  split
  · exact bndp_ro hk
  · rfl
/-! X0_isCoarse -/
def sdX0_isCoarse : SD := [(0, [(0, .aload_n 0, 1, [], 0), (1, .getfield 9, 3, [0, 0, 284, 1, 290, 0], 1), (4, .iconst 0, 1, [], 0), (5, .iaload, 1, [], 0), (6, .i2l, 1, [], 0), (7, .aload_n 0, 1, [], 0), (8, .getfield 9, 3, [0, 0, 284, 1, 290, 0], 1), (11, .iconst 1, 1, [], 0), (12, .iaload, 1, [], 0), (13, .i2l, 1, [], 0), (14, .ladd, 1, [], 0), (15, .invokestatic 38, 3, [2, 0, 4, 32, 921, 1], 0), (18, .aload_n 0, 1, [], 0), (19, .getfield 13, 3, [0, 1, 284, 1, 292, 0], 2), (22, .iconst 0, 1, [], 0), (23, .iaload, 1, [], 0), (24, .i2l, 1, [], 0), (25, .aload_n 0, 1, [], 0), (26, .getfield 13, 3, [0, 1, 284, 1, 292, 0], 2), (29, .iconst 1, 1, [], 0), (30, .iaload, 1, [], 0), (31, .i2l, 1, [], 0), (32, .ladd, 1, [], 0), (33, .invokestatic 38, 3, [2, 0, 4, 32, 921, 1], 0), (36, .ladd, 1, [], 0), (37, .invokestatic 44, 3, [1, 1, 4, 33, 924, 1], 0), (40, .iconst 2, 1, [], 0), (41, .idiv, 1, [], 0), (42, .istore_n 3, 1, [], 0), (43, .iload_n 1, 1, [], 0), (44, .iload_n 3, 1, [], 0), (45, .isub, 1, [], 0), (46, .iload_n 2, 1, [], 0), (47, .if_icmp .le 7, 3, [], 0)]),
  (50, [(50, .iconst 1, 1, [], 0), (51, .goto 4, 3, [], 0)]),
  (54, [(54, .iconst 0, 1, [], 0)]),
  (55, [(55, .ireturn, 1, [1], 0)])]
def MX0_isCoarse (n : Nat) (x1 x2 : Int) (h : Hp) : Option (Int) :=
(grd (0 ≤ 0 ∧ 0 < alen 284)
(grd (0 ≤ 1 ∧ 1 < alen 284)
(bndp (MX11_square (w64 ((h 31 0) + (h 31 1)))) fun r1 =>
(grd (0 ≤ 0 ∧ 0 < alen 284)
(grd (0 ≤ 1 ∧ 1 < alen 284)
(bndp (MX11_square (w64 ((h 32 0) + (h 32 1)))) fun r2 =>
(bndp (MX11_root n (w64 (r1 + r2))) fun r3 =>
(grd (¬ 2 = 0)
(ltt (w32 (Int.tdiv r3 2)) fun y1 =>
(if (w32 (x1 - y1)) ≤ x2 then
(some 0)
else
(some 1)))))))))))
def wX0_isCoarse {ρ : Type} (n : Nat) : FN ρ := fun a h k => match a with
  | [_, x1, x2] => bndp (MX0_isCoarse n x1 x2 h) (fun r => k r h)
  | _ => none
def fsX0_isCoarse (n : Nat) (ρ : Type) : List (FN ρ) := [wX11_square, wX11_root n]
def KX0_isCoarse (n : Nat) : CT (Int) := []
set_option maxRecDepth 100000 in
theorem eMX0_isCoarse (n : Nat) (x1 : Int) (x2 : Int) (h : Hp) : MX0_isCoarse n x1 x2 h =
  goAt false (kct (KX0_isCoarse n)) (fun v _ => some (v)) (fsX0_isCoarse n _) sdX0_isCoarse 1000 0 [(0, 4, 30), (1, 0, x1), (2, 0, x2)] [] h := rfl
theorem okX0_isCoarse : mokb (mi 35) = true := by decide +kernel
theorem rkX0_isCoarse : rkOK 4 (mi 35).1.2.2.2.2.2.2.1 (mi 35).1.2.2.2.1 := Or.inr (Or.inr (Or.inl ⟨rfl, rfl, rfl⟩))
def calX0_isCoarse : List Nat := [32, 33]
theorem foX0_isCoarse {l : Launch} {ρ : Type} (n : Nat) : fsOK l false mi calX0_isCoarse (fsX0_isCoarse n ρ) := ⟨sndX11_square, ⟨(sndX11_root n), trivial⟩⟩
theorem frX0_isCoarse {ρ : Type} (n : Nat) : ∀ fn ∈ fsX0_isCoarse n ρ, RoF fn := (List.forall_mem_cons.mpr ⟨roX11_square, (List.forall_mem_cons.mpr ⟨(roX11_root n), (fun q9 h9 => by cases h9)⟩)⟩)
theorem ok_sdX0_isCoarse : sdb (mi 35).1.2.1 (insOK mi (mi 35).1.1.cls (mi 35).1.2.2.1 (mi 35).1.2.2.2.2.1 (mi 35).1.2.2.2.2.2.1 calX0_isCoarse false 4) sdX0_isCoarse = true := by decide +kernel
theorem sMX0_isCoarse {l : Launch} {h0 : Hp} {v : Int} (h8 : nOf h0 = 148) (n : Nat) (x1 : Int) (x2 : Int) (h : Hp) {r : Int} (H : MX0_isCoarse n x1 x2 h = some r) (hG : gV v r) : PAt l false (mi 35).1 h0 v h 0 [(0, 4, 30), (1, 0, x1), (2, 0, x2)] [] h :=
  pat_ro ok_sdX0_isCoarse rfl rkX0_isCoarse h8 (foX0_isCoarse n) (frX0_isCoarse n) (fun v1 q => by
    cases q
    exact ⟨rfl, fun _ => hG⟩) (fun q9 h9 => by cases h9) ((eMX0_isCoarse n x1 x2 h).symm.trans H)
theorem sndX0_isCoarse {ρ : Type} {l : Launch} (n : Nat) : SndF (ρ := ρ) l false (mi 35).1 (wX0_isCoarse n) := by
    intro a h k r H ha ho hn hf
    have h8 := hf rfl
    obtain ⟨x0, x1, x2, rfl⟩ := len3 (show a.length = 3 from ha)
    have u0 := uq4 hn (ho (4, x0) (List.mem_cons_self))
    subst u0
    replace H : bndp (MX0_isCoarse n x1 x2 h) (fun r => k r h) = some r := H
    obtain ⟨v2, H1, H2⟩ := bndp_some H
    exact ⟨v2, h, H2, met_mk (mok_base okX0_isCoarse).1 (by decide +kernel) (Nat.le_of_ble_eq_true rfl) ho (sMX0_isCoarse h8 n x1 x2 h H1 rfl), fun q => by cases q⟩
theorem roX0_isCoarse {ρ : Type} (n : Nat) : RoF (wX0_isCoarse n : FN ρ) := fun a h k k2 hk => by
  unfold wX0_isCoarse
  split
  · exact bndp_ro hk
  · rfl
/-! X11_share -/
def sdX11_share : SD := [(0, [(0, .lload_n 2, 1, [], 0), (1, .lconst 0, 1, [], 0), (2, .lcmp, 1, [], 0), (3, .ifCond .ne 7, 3, [], 0)]),
  (6, [(6, .iconst 0, 1, [], 0), (7, .goto 7, 3, [], 0)]),
  (10, [(10, .lload_n 0, 1, [], 0), (11, .lload_n 2, 1, [], 0), (12, .ldiv, 1, [], 0), (13, .l2i, 1, [], 0)]),
  (14, [(14, .ireturn, 1, [], 0)])]
def MX11_share (x0 x2 : Int) : Option (Int) :=
(if (lcp x2 0) ≠ 0 then
(grd (¬ x2 = 0)
(some (w32 (w64 (Int.tdiv x0 x2)))))
else
(some 0))
def wX11_share {ρ : Type} : FN ρ := fun a h k => match a with
  | [x0, x2] => bndp (MX11_share x0 x2) (fun r => k r h)
  | _ => none
def fsX11_share (ρ : Type) : List (FN ρ) := []
def KX11_share  : CT (Int) := []
set_option maxRecDepth 100000 in
theorem eMX11_share (x0 : Int) (x2 : Int) (h : Hp) : MX11_share x0 x2 =
  goAt false (kct (KX11_share)) (fun v _ => some (v)) (fsX11_share _) sdX11_share 1000 0 [(0, 1, x0), (2, 1, x2)] [] h := rfl
theorem okX11_share : mokb (mi 36) = true := by decide +kernel
theorem rkX11_share : rkOK 1 (mi 36).1.2.2.2.2.2.2.1 (mi 36).1.2.2.2.1 := Or.inr (Or.inl ⟨rfl, rfl, rfl⟩)
def calX11_share : List Nat := []
theorem foX11_share {l : Launch} {ρ : Type} : fsOK l false mi calX11_share (fsX11_share ρ) := trivial
theorem frX11_share {ρ : Type} : ∀ fn ∈ fsX11_share ρ, RoF fn := (fun q9 h9 => by cases h9)
theorem ok_sdX11_share : sdb (mi 36).1.2.1 (insOK mi (mi 36).1.1.cls (mi 36).1.2.2.1 (mi 36).1.2.2.2.2.1 (mi 36).1.2.2.2.2.2.1 calX11_share false 1) sdX11_share = true := by decide +kernel
theorem sMX11_share {l : Launch} {h0 : Hp} {v : Int} (h8 : nOf h0 = 148)  (x0 : Int) (x2 : Int) (h : Hp) {r : Int} (H : MX11_share x0 x2 = some r) (hG : gV v r) : PAt l false (mi 36).1 h0 v h 0 [(0, 1, x0), (2, 1, x2)] [] h :=
  pat_ro ok_sdX11_share rfl rkX11_share h8 (foX11_share) (frX11_share) (fun v1 q => by
    cases q
    exact ⟨rfl, fun _ => hG⟩) (fun q9 h9 => by cases h9) ((eMX11_share x0 x2 h).symm.trans H)
theorem sndX11_share {ρ : Type} {l : Launch} : SndF (ρ := ρ) l false (mi 36).1 (wX11_share) := by
    intro a h k r H ha ho hn hf
    have h8 := hf rfl
    obtain ⟨x0, x2, rfl⟩ := len2 (show a.length = 2 from ha)
    replace H : bndp (MX11_share x0 x2) (fun r => k r h) = some r := H
    obtain ⟨v2, H1, H2⟩ := bndp_some H
    exact ⟨v2, h, H2, met_mk (mok_base okX11_share).1 (by decide +kernel) (Nat.le_of_ble_eq_true rfl) ho (sMX11_share h8 x0 x2 h H1 rfl), fun q => by cases q⟩
theorem roX11_share {ρ : Type} : RoF (wX11_share : FN ρ) := fun a h k k2 hk => by
  unfold wX11_share
  split
  · exact bndp_ro hk
  · rfl
/-! X4_cutOf -/
def sdX4_cutOf : SD := [(0, [(0, .aload_n 0, 1, [], 0), (1, .getfield 34, 3, [4, 0, 14, 0, 430, 0], 0), (4, .getfield 66, 3, [10, 8, 532, 1, 191, 0], 12), (7, .iload_n 1, 1, [], 0), (8, .iaload, 1, [], 0), (9, .ifCond .ne 5, 3, [], 0)]),
  (12, [(12, .iconst 0, 1, [], 0), (13, .ireturn, 1, [], 0)]),
  (14, [(14, .aload_n 0, 1, [], 0), (15, .getfield 34, 3, [4, 0, 14, 0, 430, 0], 0), (18, .getfield 69, 3, [10, 2, 532, 1, 173, 0], 6), (21, .iload_n 1, 1, [], 0), (22, .iaload, 1, [], 0), (23, .aload_n 0, 1, [], 0), (24, .getfield 34, 3, [4, 0, 14, 0, 430, 0], 0), (27, .getfield 69, 3, [10, 2, 532, 1, 173, 0], 6), (30, .iload_n 1, 1, [], 0), (31, .iconst 1, 1, [], 0), (32, .iadd, 1, [], 0), (33, .iaload, 1, [], 0), (34, .invokestatic 56, 3, [1, 0, 3, 261, 581, 0, 0], 0), (37, .iconst 2, 1, [], 0), (38, .idiv, 1, [], 0), (39, .istore_n 3, 1, [], 0), (40, .iload_n 3, 1, [], 0), (41, .ldc2_w 72, 3, [1, 588], 4), (44, .iload_n 2, 1, [], 0), (45, .i2l, 1, [], 0), (46, .lmul, 1, [], 0), (47, .ldc2_w 74, 3, [1, 589], 32768), (50, .lmul, 1, [], 0), (51, .aload_n 0, 1, [], 0), (52, .getfield 34, 3, [4, 0, 14, 0, 430, 0], 0), (55, .getfield 66, 3, [10, 8, 532, 1, 191, 0], 12), (58, .iload_n 1, 1, [], 0), (59, .iaload, 1, [], 0), (60, .i2l, 1, [], 0), (61, .invokestatic 46, 3, [1, 1, 4, 36, 575, 1, 1], 0), (64, .invokestatic 56, 3, [1, 0, 3, 261, 581, 0, 0], 0), (67, .ireturn, 1, [], 0)])]
def MX4_cutOf (x0 x1 x2 : Int) (h : Hp) : Option (Int) :=
(grd (0 ≤ x1 ∧ x1 < alen 532)
(if (h ((h x0 0) + 12) x1) ≠ 0 then
(grd (0 ≤ x1 ∧ x1 < alen 532)
(grd (0 ≤ (w32 (x1 + 1)) ∧ (w32 (x1 + 1)) < alen 532)
(grd (¬ 2 = 0)
(ltt (w32 (Int.tdiv (min (h ((h x0 0) + 6) x1) (h ((h x0 0) + 6) (w32 (x1 + 1)))) 2)) fun y1 =>
(grd (0 ≤ x1 ∧ x1 < alen 532)
(bndp (MX11_share (w64 ((w64 (4 * x2)) * 32768)) (h ((h x0 0) + 12) x1)) fun r1 =>
(some (min y1 r1))))))))
else
(some 0)))
def wX4_cutOf {ρ : Type} : FN ρ := fun a h k => match a with
  | [x0, x1, x2] => bndp (MX4_cutOf x0 x1 x2 h) (fun r => k r h)
  | _ => none
def fsX4_cutOf (ρ : Type) : List (FN ρ) := [fmin, wX11_share]
def KX4_cutOf  : CT (Int) := []
set_option maxRecDepth 100000 in
theorem eMX4_cutOf (x0 : Int) (x1 : Int) (x2 : Int) (h : Hp) : MX4_cutOf x0 x1 x2 h =
  goAt false (kct (KX4_cutOf)) (fun v _ => some (v)) (fsX4_cutOf _) sdX4_cutOf 1000 0 [(0, 8, x0), (1, 0, x1), (2, 0, x2)] [] h := rfl
theorem okX4_cutOf : mokb (mi 52) = true := by decide +kernel
theorem rkX4_cutOf : rkOK 1 (mi 52).1.2.2.2.2.2.2.1 (mi 52).1.2.2.2.1 := Or.inr (Or.inl ⟨rfl, rfl, rfl⟩)
def calX4_cutOf : List Nat := [261, 36]
theorem foX4_cutOf {l : Launch} {ρ : Type} : fsOK l false mi calX4_cutOf (fsX4_cutOf ρ) := ⟨snd_mmin, ⟨sndX11_share, trivial⟩⟩
theorem frX4_cutOf {ρ : Type} : ∀ fn ∈ fsX4_cutOf ρ, RoF fn := (List.forall_mem_cons.mpr ⟨ro_mmin, (List.forall_mem_cons.mpr ⟨roX11_share, (fun q9 h9 => by cases h9)⟩)⟩)
theorem ok_sdX4_cutOf : sdb (mi 52).1.2.1 (insOK mi (mi 52).1.1.cls (mi 52).1.2.2.1 (mi 52).1.2.2.2.2.1 (mi 52).1.2.2.2.2.2.1 calX4_cutOf false 1) sdX4_cutOf = true := by decide +kernel
theorem sMX4_cutOf {l : Launch} {h0 : Hp} {v : Int} (h8 : nOf h0 = 148)  (x0 : Int) (x1 : Int) (x2 : Int) (h : Hp) {r : Int} (H : MX4_cutOf x0 x1 x2 h = some r) (hG : gV v r) : PAt l false (mi 52).1 h0 v h 0 [(0, 8, x0), (1, 0, x1), (2, 0, x2)] [] h :=
  pat_ro ok_sdX4_cutOf rfl rkX4_cutOf h8 (foX4_cutOf) (frX4_cutOf) (fun v1 q => by
    cases q
    exact ⟨rfl, fun _ => hG⟩) (fun q9 h9 => by cases h9) ((eMX4_cutOf x0 x1 x2 h).symm.trans H)
theorem sndX4_cutOf {ρ : Type} {l : Launch} : SndF (ρ := ρ) l false (mi 52).1 (wX4_cutOf) := by
    intro a h k r H ha ho hn hf
    have h8 := hf rfl
    obtain ⟨x0, x1, x2, rfl⟩ := len3 (show a.length = 3 from ha)
    replace H : bndp (MX4_cutOf x0 x1 x2 h) (fun r => k r h) = some r := H
    obtain ⟨v2, H1, H2⟩ := bndp_some H
    exact ⟨v2, h, H2, met_mk (mok_base okX4_cutOf).1 (by decide +kernel) (Nat.le_of_ble_eq_true rfl) ho (sMX4_cutOf h8 x0 x1 x2 h H1 rfl), fun q => by cases q⟩
theorem roX4_cutOf {ρ : Type} : RoF (wX4_cutOf : FN ρ) := fun a h k k2 hk => by
  unfold wX4_cutOf
  split
  · exact bndp_ro hk
  · rfl
