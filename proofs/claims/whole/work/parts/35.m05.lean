/-! X1_isFit -/
def sdX1_isFit : SD := [(0, [(0, .aload_n 1, 1, [], 0), (1, .getfield 84, 3, [8, 2, 0, 0, 488, 0], 0), (4, .iload_n 2, 1, [], 0), (5, .iadd, 1, [], 0), (6, .istore_n 3, 1, [], 0), (7, .aload_n 1, 1, [], 0), (8, .getfield 63, 3, [8, 1, 0, 0, 485, 0], 0), (11, .iload_n 3, 1, [], 0), (12, .iadd, 1, [], 0), (13, .istore 4, 2, [], 0), (15, .iload_n 3, 1, [], 0), (16, .aload_n 0, 1, [], 0), (17, .getfield 24, 3, [1, 0, 8, 1, 464, 0], 2), (20, .getfield 32, 3, [4, 3, 0, 0, 436, 0], 0), (23, .if_icmp .gt 13, 3, [], 0)]),
  (26, [(26, .aload_n 0, 1, [], 0), (27, .iload 4, 2, [], 0), (29, .iload_n 3, 1, [], 0), (30, .invokevirtual 100, 3, [1, 0, 1, 126, 1032, 0, 0, 5], 0), (33, .ifCond .ne 5, 3, [], 0)]),
  (36, [(36, .iconst 0, 1, [], 0), (37, .ireturn, 1, [1], 0)]),
  (38, [(38, .aload_n 1, 1, [], 0), (39, .getfield 45, 3, [8, 0, 0, 0, 482, 0], 0), (42, .iload 4, 2, [], 0), (44, .aload_n 0, 1, [], 0), (45, .getfield 24, 3, [1, 0, 8, 1, 464, 0], 2), (48, .getfield 91, 3, [4, 1, 0, 0, 433, 0], 0), (51, .imul, 1, [], 0), (52, .iadd, 1, [], 0), (53, .istore 5, 2, [], 0), (55, .aload_n 0, 1, [], 0), (56, .aload_n 1, 1, [], 0), (57, .getfield 57, 3, [8, 3, 0, 0, 491, 0], 0), (60, .iload 5, 2, [], 0), (62, .iload 4, 2, [], 0), (64, .invokevirtual 104, 3, [1, 1, 1, 127, 1036, 0, 0, 0, 5], 0), (67, .istore 6, 2, [], 0), (69, .iload 6, 2, [], 0), (71, .iconst (-1), 1, [], 0), (72, .if_icmp .eq 21, 3, [], 0)]),
  (75, [(75, .aload_n 0, 1, [], 0), (76, .iload 5, 2, [], 0), (78, .iload 4, 2, [], 0), (80, .iload_n 3, 1, [], 0), (81, .iload 6, 2, [], 0), (83, .invokevirtual 108, 3, [1, 2, 1, 131, 1041, 0, 0, 0, 0, 5], 0), (86, .ifCond .eq 7, 3, [], 0)]),
  (89, [(89, .iconst 1, 1, [], 0), (90, .goto 4, 3, [], 0)]),
  (93, [(93, .iconst 0, 1, [], 0)]),
  (94, [(94, .ireturn, 1, [1], 0)])]
def MX1_isFit (n : Nat) (x0 x1 x2 : Int) (h : Hp) : Option (Int × Hp) :=
(ltt (w32 ((h x1 2) + x2)) fun y1 =>
(ltt (w32 ((h x1 1) + y1)) fun y2 =>
(if (h (x0 + 2) 3) < y1 then
(some (0, h))
else
(bndp (MX1_bears x0 y2 y1 h) fun r1 =>
(if r1 ≠ 0 then
(ltt (w32 ((h x1 0) + (w32 (y2 * (h (x0 + 2) 1))))) fun y3 =>
(bndp (MX1_reached n x0 (h x1 3) y3 y2 h) fun r2 =>
(ltt r2 fun y4 =>
(if y4 = (-1) then
(some (0, h))
else
(bnd (MX1_isSafe n x0 y3 y2 y1 y4 h) fun r3 h1 =>
(if r3 = 0 then
(some (0, h1))
else
(some (1, h1))))))))
else
(some (0, h)))))))
def wX1_isFit {ρ : Type} (n : Nat) : FN ρ := fun a h k => match a with
  | [x0, x1, x2] => bnd (MX1_isFit n x0 x1 x2 h) (fun r h2 => k r h2)
  | _ => none
def fsX1_isFit (n : Nat) (ρ : Type) : List (FN ρ) := [wX1_bears, wX1_reached n, wX1_isSafe n]
def KMX1_isFit (_ : Nat) : CT (Int × Hp) := []
set_option maxRecDepth 100000 in
theorem eMX1_isFit (n : Nat) (x0 : Int) (x1 : Int) (x2 : Int) (h : Hp) : MX1_isFit n x0 x1 x2 h =
  goAt false (kct (KMX1_isFit n)) (fun v h => some ((v, h))) (fsX1_isFit n _) sdX1_isFit 1000 0 [(0, 5, x0), (1, 12, x1), (2, 0, x2)] [] h := rfl
theorem okX1_isFit : mokb (mi 132) = true := by decide +kernel
theorem rkX1_isFit : rkOK 4 (mi 132).1.2.2.2.2.2.2.1 (mi 132).1.2.2.2.1 := Or.inr (Or.inr (Or.inl ⟨rfl, rfl, rfl⟩))
def calX1_isFit : List Nat := [126, 127, 131]
theorem foX1_isFit {l : Launch} {ρ : Type} (n : Nat) : fsOK l false mi calX1_isFit (fsX1_isFit n ρ) := ⟨sndX1_bears, ⟨(sndX1_reached n), ⟨(sndX1_isSafe n), trivial⟩⟩⟩
theorem ok_sdX1_isFit : sdb (mi 132).1.2.1 (insOK mi (mi 132).1.1.cls (mi 132).1.2.2.1 (mi 132).1.2.2.2.2.1 (mi 132).1.2.2.2.2.2.1 calX1_isFit false 4) sdX1_isFit = true := by decide +kernel
theorem sMX1_isFit {l : Launch} {h0 h' : Hp} {v : Int} (h8 : nOf h0 = 148) (n : Nat) (x0 : Int) (x1 : Int) (x2 : Int) (h : Hp) {r : Int × Hp} (H : MX1_isFit n x0 x1 x2 h = some r) (hG : gWV v h' r) : PAt l false (mi 132).1 h0 v h' 0 [(0, 5, x0), (1, 12, x1), (2, 0, x2)] [] h :=
  pat_w ok_sdX1_isFit rkX1_isFit h8 (foX1_isFit n) (fun v1 h1 q => by
    cases q
    exact ⟨hG.1, fun _ => hG.2⟩) (fun q9 h9 => by cases h9) ((eMX1_isFit n x0 x1 x2 h).symm.trans H)
theorem sndX1_isFit {ρ : Type} {l : Launch} (n : Nat) : SndF (ρ := ρ) l false (mi 132).1 (wX1_isFit n) := by
    intro a h k r H ha ho hn hf
    have h8 := hf rfl
    obtain ⟨x0, x1, x2, rfl⟩ := len3 (show a.length = 3 from ha)
    replace H : bnd (MX1_isFit n x0 x1 x2 h) (fun r h2 => k r h2) = some r := H
    obtain ⟨v2, h2, H1, H2⟩ := bnd_some H
    exact ⟨v2, h2, H2, met_mk (mok_base okX1_isFit).1 (by decide +kernel) (Nat.le_of_ble_eq_true rfl) ho (sMX1_isFit h8 n x0 x1 x2 h H1 ⟨rfl, rfl⟩), fun q => by cases q⟩
/-! X1_go -/
def sdX1_go : SD := [(0, [(0, .aload_n 1, 1, [], 0), (1, .dup, 1, [], 0), (2, .getfield 84, 3, [8, 2, 0, 0, 488, 0], 0), (5, .iload_n 2, 1, [], 0), (6, .iadd, 1, [], 0), (7, .putfield 84, 3, [8, 2, 0, 0, 0, 488], 0), (10, .aload_n 1, 1, [], 0), (11, .dup, 1, [], 0), (12, .getfield 63, 3, [8, 1, 0, 0, 485, 0], 0), (15, .aload_n 1, 1, [], 0), (16, .getfield 84, 3, [8, 2, 0, 0, 488, 0], 0), (19, .iadd, 1, [], 0), (20, .putfield 63, 3, [8, 1, 0, 0, 0, 485], 0), (23, .aload_n 1, 1, [], 0), (24, .dup, 1, [], 0), (25, .getfield 45, 3, [8, 0, 0, 0, 482, 0], 0), (28, .aload_n 1, 1, [], 0), (29, .getfield 63, 3, [8, 1, 0, 0, 485, 0], 0), (32, .aload_n 0, 1, [], 0), (33, .getfield 24, 3, [1, 0, 8, 1, 464, 0], 2), (36, .getfield 91, 3, [4, 1, 0, 0, 433, 0], 0), (39, .imul, 1, [], 0), (40, .iadd, 1, [], 0), (41, .putfield 45, 3, [8, 0, 0, 0, 0, 482], 0)]),
  (44, [(44, .aload_n 1, 1, [], 0), (45, .getfield 57, 3, [8, 3, 0, 0, 491, 0], 0), (48, .ifCond .lt 57, 3, [], 0)]),
  (51, [(51, .aload_n 1, 1, [], 0), (52, .getfield 57, 3, [8, 3, 0, 0, 491, 0], 0), (55, .iconst 1, 1, [], 0), (56, .iadd, 1, [], 0), (57, .aload_n 0, 1, [], 0), (58, .getfield 24, 3, [1, 0, 8, 1, 464, 0], 2), (61, .getfield 48, 3, [4, 0, 14, 0, 431, 0], 0), (64, .getfield 94, 3, [10, 11, 0, 0, 205, 0], 0), (67, .if_icmp .ge 38, 3, [], 0)]),
  (70, [(70, .aload_n 1, 1, [], 0), (71, .getfield 45, 3, [8, 0, 0, 0, 482, 0], 0), (74, .aload_n 0, 1, [], 0), (75, .getfield 24, 3, [1, 0, 8, 1, 464, 0], 2), (78, .getfield 48, 3, [4, 0, 14, 0, 431, 0], 0), (81, .getfield 97, 3, [10, 3, 532, 1, 177, 0], 7), (84, .aload_n 1, 1, [], 0), (85, .getfield 57, 3, [8, 3, 0, 0, 491, 0], 0), (88, .iaload, 1, [], 0), (89, .if_icmp .lt 16, 3, [], 0)]),
  (92, [(92, .aload_n 1, 1, [], 0), (93, .dup, 1, [], 0), (94, .getfield 57, 3, [8, 3, 0, 0, 491, 0], 0), (97, .iconst 1, 1, [], 0), (98, .iadd, 1, [], 0), (99, .putfield 57, 3, [8, 3, 0, 0, 0, 491], 0), (102, .goto (-58), 3, [], 0)]),
  (105, [(105, .iload_n 2, 1, [], 0), (106, .ireturn, 1, [], 0)])]
def BX1_go_44 (n : Nat) : Nat → Int → Int → Int → Hp → Option (Int × Hp)
  | 0, _, _, _, _ => none
  | f + 1, x0, x1, x2, h =>
    (if (h x1 3) < 0 then
    (some (x2, h))
    else
    (if (h (h (x0 + 2) 0) 11) ≤ (w32 ((h x1 3) + 1)) then
    (some (x2, h))
    else
    (grd (0 ≤ (h x1 3) ∧ (h x1 3) < alen 532)
    (if (h x1 0) < (h ((h (x0 + 2) 0) + 7) (h x1 3)) then
    (some (x2, h))
    else
    (ltt (up h x1 3 (w32 ((h x1 3) + 1))) fun h1 =>
    (BX1_go_44 n f x0 x1 x2 h1))))))
def LX1_go_44 (n : Nat) (x0 x1 x2 : Int) (h : Hp) : Option (Int × Hp) :=
(BX1_go_44 n n x0 x1 x2 h)
def MX1_go (n : Nat) (x0 x1 x2 : Int) (h : Hp) : Option (Int × Hp) :=
(ltt (up h x1 2 (w32 ((h x1 2) + x2))) fun h1 =>
(ltt (up h1 x1 1 (w32 ((h1 x1 1) + (h1 x1 2)))) fun h2 =>
(ltt (up h2 x1 0 (w32 ((h2 x1 0) + (w32 ((h2 x1 1) * (h2 (x0 + 2) 1)))))) fun h3 =>
(LX1_go_44 n x0 x1 x2 h3))))
def wX1_go {ρ : Type} (n : Nat) : FN ρ := fun a h k => match a with
  | [x0, x1, x2] => bnd (MX1_go n x0 x1 x2 h) (fun r h2 => k r h2)
  | _ => none
def fsX1_go (n : Nat) (ρ : Type) : List (FN ρ) := []
def KBX1_go_44 (_ : Nat) (bk : Int → Int → Int → Hp → Option (Int × Hp)) : CT (Int × Hp) := [(44, [(0, 5, none), (1, 12, none), (2, 0, none)], [], fun a c h => match a, c with
    | [x0, x1, x2], [] => bk x0 x1 x2 h
    | _, _ => none)]
set_option maxRecDepth 100000 in
theorem eBX1_go_44 (n f : Nat) (x0 : Int) (x1 : Int) (x2 : Int) (h : Hp) : BX1_go_44 n (f + 1) x0 x1 x2 h =
  goAt false (kct (KBX1_go_44 n (BX1_go_44 n f))) (fun v h => some ((v, h))) (fsX1_go n _) sdX1_go 1000 44 [(0, 5, x0), (1, 12, x1), (2, 0, x2)] [] h := rfl
def KMX1_go (n : Nat) : CT (Int × Hp) := [(44, [(0, 5, none), (1, 12, none), (2, 0, none)], [], fun a c h => match a, c with
    | [x0, x1, x2], [] => LX1_go_44 n x0 x1 x2 h
    | _, _ => none)]
set_option maxRecDepth 100000 in
theorem eMX1_go (n : Nat) (x0 : Int) (x1 : Int) (x2 : Int) (h : Hp) : MX1_go n x0 x1 x2 h =
  goAt false (kct (KMX1_go n)) (fun v h => some ((v, h))) (fsX1_go n _) sdX1_go 1000 0 [(0, 5, x0), (1, 12, x1), (2, 0, x2)] [] h := rfl
theorem okX1_go : mokb (mi 133) = true := by decide +kernel
theorem rkX1_go : rkOK 1 (mi 133).1.2.2.2.2.2.2.1 (mi 133).1.2.2.2.1 := Or.inr (Or.inl ⟨rfl, rfl, rfl⟩)
def calX1_go : List Nat := []
theorem foX1_go {l : Launch} {ρ : Type} (n : Nat) : fsOK l false mi calX1_go (fsX1_go n ρ) := trivial
theorem ok_sdX1_go : sdb (mi 133).1.2.1 (insOK mi (mi 133).1.1.cls (mi 133).1.2.2.1 (mi 133).1.2.2.2.2.1 (mi 133).1.2.2.2.2.2.1 calX1_go false 1) sdX1_go = true := by decide +kernel
theorem sBX1_go_44 {l : Launch} {h0 h' : Hp} {v : Int} (h8 : nOf h0 = 148) (n : Nat) : ∀ (f : Nat) (x0 : Int) (x1 : Int) (x2 : Int) (h : Hp) {r : Int × Hp}, BX1_go_44 n f x0 x1 x2 h = some r → gWV v h' r → PAt l false (mi 133).1 h0 v h' 44 [(0, 5, x0), (1, 12, x1), (2, 0, x2)] [] h := by
  intro f
  induction f with
  | zero =>
    intro x0 x1 x2 h r H _
    have H2 : (none : Option (Int × Hp)) = some r := H
    cases H2
  | succ f ih =>
    intro x0 x1 x2 h r H hG
    exact pat_w ok_sdX1_go rkX1_go h8 (foX1_go n) (fun v1 h1 q => by
    cases q
    exact ⟨hG.1, fun _ => hG.2⟩) (List.forall_mem_cons.mpr ⟨(fun a c h H => by
      dsimp only at H
      split at H
      · exact ih _ _ _ _ H hG
      · cases H), (fun q9 h9 => by cases h9)⟩) ((eBX1_go_44 n f x0 x1 x2 h).symm.trans H)
theorem sLX1_go_44 {l : Launch} {h0 h' : Hp} {v : Int} (h8 : nOf h0 = 148) (n : Nat) (x0 : Int) (x1 : Int) (x2 : Int) (h : Hp) {r : Int × Hp} (H : LX1_go_44 n x0 x1 x2 h = some r) (hG : gWV v h' r) : PAt l false (mi 133).1 h0 v h' 44 [(0, 5, x0), (1, 12, x1), (2, 0, x2)] [] h :=
  sBX1_go_44 h8 n n x0 x1 x2 h H hG
theorem sMX1_go {l : Launch} {h0 h' : Hp} {v : Int} (h8 : nOf h0 = 148) (n : Nat) (x0 : Int) (x1 : Int) (x2 : Int) (h : Hp) {r : Int × Hp} (H : MX1_go n x0 x1 x2 h = some r) (hG : gWV v h' r) : PAt l false (mi 133).1 h0 v h' 0 [(0, 5, x0), (1, 12, x1), (2, 0, x2)] [] h :=
  pat_w ok_sdX1_go rkX1_go h8 (foX1_go n) (fun v1 h1 q => by
    cases q
    exact ⟨hG.1, fun _ => hG.2⟩) (List.forall_mem_cons.mpr ⟨(fun a c h H => by
      dsimp only at H
      split at H
      · exact sLX1_go_44 h8 n _ _ _ _ H hG
      · cases H), (fun q9 h9 => by cases h9)⟩) ((eMX1_go n x0 x1 x2 h).symm.trans H)
theorem sndX1_go {ρ : Type} {l : Launch} (n : Nat) : SndF (ρ := ρ) l false (mi 133).1 (wX1_go n) := by
    intro a h k r H ha ho hn hf
    have h8 := hf rfl
    obtain ⟨x0, x1, x2, rfl⟩ := len3 (show a.length = 3 from ha)
    replace H : bnd (MX1_go n x0 x1 x2 h) (fun r h2 => k r h2) = some r := H
    obtain ⟨v2, h2, H1, H2⟩ := bnd_some H
    exact ⟨v2, h2, H2, met_mk (mok_base okX1_go).1 (by decide +kernel) (Nat.le_of_ble_eq_true rfl) ho (sMX1_go h8 n x0 x1 x2 h H1 ⟨rfl, rfl⟩), fun q => by cases q⟩
/-! X1_creep -/
def sdX1_creep : SD := [(0, [(0, .aload_n 0, 1, [], 0), (1, .getfield 24, 3, [1, 0, 8, 1, 464, 0], 2), (4, .getfield 48, 3, [4, 0, 14, 0, 431, 0], 0), (7, .getfield 52, 3, [10, 14, 0, 0, 214, 0], 0), (10, .aload_n 1, 1, [], 0), (11, .getfield 45, 3, [8, 0, 0, 0, 482, 0], 0), (14, .isub, 1, [], 0), (15, .iconst 2, 1, [], 0), (16, .aload_n 0, 1, [], 0), (17, .getfield 24, 3, [1, 0, 8, 1, 464, 0], 2), (20, .getfield 91, 3, [4, 1, 0, 0, 433, 0], 0), (23, .imul, 1, [], 0), (24, .if_icmp .ge 33, 3, [], 0)]),
  (27, [(27, .aload_n 1, 1, [], 0), (28, .aload_n 0, 1, [], 0), (29, .getfield 24, 3, [1, 0, 8, 1, 464, 0], 2), (32, .getfield 48, 3, [4, 0, 14, 0, 431, 0], 0), (35, .getfield 52, 3, [10, 14, 0, 0, 214, 0], 0), (38, .putfield 45, 3, [8, 0, 0, 0, 0, 482], 0), (41, .aload_n 1, 1, [], 0), (42, .aload_n 0, 1, [], 0), (43, .getfield 24, 3, [1, 0, 8, 1, 464, 0], 2), (46, .getfield 48, 3, [4, 0, 14, 0, 431, 0], 0), (49, .getfield 94, 3, [10, 11, 0, 0, 205, 0], 0), (52, .iconst 1, 1, [], 0), (53, .isub, 1, [], 0), (54, .putfield 57, 3, [8, 3, 0, 0, 0, 491], 0)]),
  (57, [(57, .return_, 1, [], 0)])]
def MX1_creep (x0 x1 : Int) (h : Hp) : Option (Hp) :=
(if (w32 (2 * (h (x0 + 2) 1))) ≤ (w32 ((h (h (x0 + 2) 0) 14) - (h x1 0))) then
(some h)
else
(ltt (up h x1 0 (h (h (x0 + 2) 0) 14)) fun h1 =>
(ltt (up h1 x1 3 (w32 ((h1 (h1 (x0 + 2) 0) 11) - 1))) fun h2 =>
(some h2))))
def wX1_creep {ρ : Type} : FN ρ := fun a h k => match a with
  | [x0, x1] => bndh (MX1_creep x0 x1 h) (fun h2 => k 0 h2)
  | _ => none
def fsX1_creep (ρ : Type) : List (FN ρ) := []
def KMX1_creep  : CT (Hp) := []
set_option maxRecDepth 100000 in
theorem eMX1_creep (x0 : Int) (x1 : Int) (h : Hp) : MX1_creep x0 x1 h =
  goAt false (kct (KMX1_creep)) (fun _ h => some (h)) (fsX1_creep _) sdX1_creep 1000 0 [(0, 5, x0), (1, 12, x1)] [] h := rfl
theorem okX1_creep : mokb (mi 134) = true := by decide +kernel
theorem rkX1_creep : rkOK 0 (mi 134).1.2.2.2.2.2.2.1 (mi 134).1.2.2.2.1 := Or.inl ⟨rfl, rfl, rfl⟩
def calX1_creep : List Nat := []
theorem foX1_creep {l : Launch} {ρ : Type} : fsOK l false mi calX1_creep (fsX1_creep ρ) := trivial
theorem ok_sdX1_creep : sdb (mi 134).1.2.1 (insOK mi (mi 134).1.1.cls (mi 134).1.2.2.1 (mi 134).1.2.2.2.2.1 (mi 134).1.2.2.2.2.2.1 calX1_creep false 0) sdX1_creep = true := by decide +kernel
theorem sMX1_creep {l : Launch} {h0 h' : Hp} {v : Int} (h8 : nOf h0 = 148)  (x0 : Int) (x1 : Int) (h : Hp) {r : Hp} (H : MX1_creep x0 x1 h = some r) (hG : gW h' r) : PAt l false (mi 134).1 h0 v h' 0 [(0, 5, x0), (1, 12, x1)] [] h :=
  pat_w ok_sdX1_creep rkX1_creep h8 (foX1_creep) (fun v1 h1 q => by
    cases q
    exact ⟨hG, fun q9 => absurd rfl q9⟩) (fun q9 h9 => by cases h9) ((eMX1_creep x0 x1 h).symm.trans H)
theorem sndX1_creep {ρ : Type} {l : Launch} : SndF (ρ := ρ) l false (mi 134).1 (wX1_creep) := by
    intro a h k r H ha ho hn hf
    have h8 := hf rfl
    obtain ⟨x0, x1, rfl⟩ := len2 (show a.length = 2 from ha)
    replace H : bndh (MX1_creep x0 x1 h) (fun h2 => k 0 h2) = some r := H
    obtain ⟨h2, H1, H2⟩ := bndh_some H
    exact ⟨0, h2, H2, met_mk (mok_base okX1_creep).1 (by decide +kernel) (Nat.le_of_ble_eq_true rfl) ho (sMX1_creep h8 x0 x1 h H1 rfl), fun q => by cases q⟩
/-! X1_tick -/
def sdX1_tick : SD := [(0, [(0, .aload_n 1, 1, [], 0), (1, .invokevirtual 39, 3, [1, 0, 1, 122, 1011, 12], 0), (4, .istore_n 2, 1, [], 0), (5, .iload_n 2, 1, [], 0), (6, .ifCond .eq 29, 3, [], 0)]),
  (9, [(9, .aload_n 1, 1, [], 0), (10, .getfield 68, 3, [8, 5, 0, 0, 496, 0], 0), (13, .ifCond .ne 20, 3, [], 0)]),
  (16, [(16, .aload_n 1, 1, [], 0), (17, .getfield 45, 3, [8, 0, 0, 0, 482, 0], 0), (20, .aload_n 0, 1, [], 0), (21, .getfield 24, 3, [1, 0, 8, 1, 464, 0], 2), (24, .getfield 48, 3, [4, 0, 14, 0, 431, 0], 0), (27, .getfield 52, 3, [10, 14, 0, 0, 214, 0], 0), (30, .if_icmp .lt 5, 3, [], 0)]),
  (33, [(33, .iconst 0, 1, [], 0), (34, .ireturn, 1, [], 0)]),
  (35, [(35, .aload_n 1, 1, [], 0), (36, .getfield 68, 3, [8, 5, 0, 0, 496, 0], 0), (39, .ifCond .eq 7, 3, [], 0)]),
  (42, [(42, .iconst 2, 1, [], 0), (43, .goto 12, 3, [], 0)]),
  (46, [(46, .iload_n 2, 1, [], 0), (47, .ifCond .eq 7, 3, [], 0)]),
  (50, [(50, .iconst 1, 1, [], 0), (51, .goto 4, 3, [], 0)]),
  (54, [(54, .iconst (-1), 1, [], 0)]),
  (55, [(55, .istore_n 3, 1, [], 0), (56, .iconst 1, 1, [], 0), (57, .istore 4, 2, [], 0)]),
  (59, [(59, .iload 4, 2, [], 0), (61, .iload_n 3, 1, [], 0), (62, .if_icmp .lt 27, 3, [], 0)]),
  (65, [(65, .aload_n 0, 1, [], 0), (66, .aload_n 1, 1, [], 0), (67, .iload 4, 2, [], 0), (69, .invokevirtual 72, 3, [1, 1, 1, 132, 1028, 0, 12, 5], 0), (72, .ifCond .eq 11, 3, [], 0)]),
  (75, [(75, .aload_n 0, 1, [], 0), (76, .aload_n 1, 1, [], 0), (77, .iload 4, 2, [], 0), (79, .invokevirtual 76, 3, [1, 2, 1, 133, 1058, 0, 12, 5], 0), (82, .ireturn, 1, [], 0)]),
  (83, [(83, .iinc 4 (-1), 3, [], 0), (86, .goto (-27), 3, [], 0)]),
  (89, [(89, .iload_n 2, 1, [], 0), (90, .ifCond .eq 10, 3, [], 0)]),
  (93, [(93, .aload_n 0, 1, [], 0), (94, .aload_n 1, 1, [], 0), (95, .invokevirtual 80, 3, [0, 3, 1, 134, 1062, 12, 5], 0), (98, .iconst 0, 1, [], 0), (99, .ireturn, 1, [], 0)]),
  (100, [(100, .aload_n 0, 1, [], 0), (101, .aload_n 1, 1, [], 0), (102, .aload_n 0, 1, [], 0), (103, .aload_n 1, 1, [], 0), (104, .getfield 63, 3, [8, 1, 0, 0, 485, 0], 0), (107, .aload_n 1, 1, [], 0), (108, .getfield 84, 3, [8, 2, 0, 0, 488, 0], 0), (111, .invokevirtual 87, 3, [1, 4, 1, 128, 1049, 0, 0, 5], 0), (114, .invokevirtual 76, 3, [1, 2, 1, 133, 1058, 0, 12, 5], 0), (117, .ireturn, 1, [], 0)])]
def BX1_tick_59 (n : Nat) : Nat → Int → Int → Int → Int → Int → Hp → Option ((Int × Int × Int × Hp) ⊕ (Int × Hp))
  | 0, _, _, _, _, _, _ => none
  | f + 1, x0, x1, x2, x3, x4, h =>
    (if x4 < x3 then
    (some (.inl (x0, x1, x2, h)))
    else
    (bnd (MX1_isFit n x0 x1 x4 h) fun r1 h1 =>
    (if r1 = 0 then
    (ltt (w32 (x4 + (-1))) fun y1 =>
    (BX1_tick_59 n f x0 x1 x2 x3 y1 h1))
    else
    (bnd (MX1_go n x0 x1 x4 h1) fun r2 h2 =>
    (some (.inr (r2, h2)))))))
def JX1_tick_89 (n : Nat) (x0 x1 x2 : Int) (h : Hp) : Option (Int × Hp) :=
(if x2 = 0 then
(bndp (MX1_brake x0 (h x1 1) (h x1 2) h) fun r1 =>
(bnd (MX1_go n x0 x1 r1 h) fun r2 h1 =>
(some (r2, h1))))
else
(bndh (MX1_creep x0 x1 h) fun h2 =>
(some (0, h2))))
def LX1_tick_59 (n : Nat) (x0 x1 x2 x3 x4 : Int) (h : Hp) : Option (Int × Hp) :=
(bnds (BX1_tick_59 n n x0 x1 x2 x3 x4 h) (fun (e0, e1, e2, h1) =>
(JX1_tick_89 n e0 e1 e2 h1)) (fun e => some e))
def JX1_tick_55 (n : Nat) (x0 x1 x2 z0 : Int) (h : Hp) : Option (Int × Hp) :=
(ltt z0 fun y1 =>
(ltt 1 fun y2 =>
(LX1_tick_59 n x0 x1 x2 y1 y2 h)))
def JX1_tick_35 (n : Nat) (x0 x1 x2 : Int) (h : Hp) : Option (Int × Hp) :=
(if (h x1 5) = 0 then
(if x2 = 0 then
(JX1_tick_55 n x0 x1 x2 (-1) h)
else
(JX1_tick_55 n x0 x1 x2 1 h))
else
(JX1_tick_55 n x0 x1 x2 2 h))
def MX1_tick (n : Nat) (x0 x1 : Int) (h : Hp) : Option (Int × Hp) :=
(bndp (MX8_rests x1 h) fun r1 =>
(ltt r1 fun y1 =>
(if y1 = 0 then
(JX1_tick_35 n x0 x1 y1 h)
else
(if (h x1 5) ≠ 0 then
(some (0, h))
else
(if (h x1 0) < (h (h (x0 + 2) 0) 14) then
(JX1_tick_35 n x0 x1 y1 h)
else
(some (0, h)))))))
def wX1_tick {ρ : Type} (n : Nat) : FN ρ := fun a h k => match a with
  | [x0, x1] => bnd (MX1_tick n x0 x1 h) (fun r h2 => k r h2)
  | _ => none
def fsX1_tick (n : Nat) (ρ : Type) : List (FN ρ) := [wX8_rests, wX1_isFit n, wX1_go n, wX1_creep, wX1_brake]
def KBX1_tick_59 (_ : Nat) (bk : Int → Int → Int → Int → Int → Hp → Option ((Int × Int × Int × Hp) ⊕ (Int × Hp))) : CT ((Int × Int × Int × Hp) ⊕ (Int × Hp)) := [(59, [(0, 5, none), (1, 12, none), (2, 0, none), (3, 0, none), (4, 0, none)], [], fun a c h => match a, c with
    | [x0, x1, x2, x3, x4], [] => bk x0 x1 x2 x3 x4 h
    | _, _ => none),
  (89, [(0, 5, none), (1, 12, none), (2, 0, none)], [], fun a c h => match a, c with
    | [x0, x1, x2], [] => some (.inl (x0, x1, x2, h))
    | _, _ => none)]
set_option maxRecDepth 100000 in
theorem eBX1_tick_59 (n f : Nat) (x0 : Int) (x1 : Int) (x2 : Int) (x3 : Int) (x4 : Int) (h : Hp) : BX1_tick_59 n (f + 1) x0 x1 x2 x3 x4 h =
  goAt false (kct (KBX1_tick_59 n (BX1_tick_59 n f))) (fun v h => some (.inr (v, h))) (fsX1_tick n _) sdX1_tick 1000 59 [(0, 5, x0), (1, 12, x1), (2, 0, x2), (3, 0, x3), (4, 0, x4)] [] h := rfl
def KJX1_tick_89 (_ : Nat) : CT (Int × Hp) := []
set_option maxRecDepth 100000 in
theorem eJX1_tick_89 (n : Nat) (x0 : Int) (x1 : Int) (x2 : Int) (h : Hp) : JX1_tick_89 n x0 x1 x2 h =
  goAt false (kct (KJX1_tick_89 n)) (fun v h => some ((v, h))) (fsX1_tick n _) sdX1_tick 1000 89 [(0, 5, x0), (1, 12, x1), (2, 0, x2)] [] h := rfl
def KJX1_tick_55 (n : Nat) : CT (Int × Hp) := [(59, [(0, 5, none), (1, 12, none), (2, 0, none), (3, 0, none), (4, 0, none)], [], fun a c h => match a, c with
    | [x0, x1, x2, x3, x4], [] => LX1_tick_59 n x0 x1 x2 x3 x4 h
    | _, _ => none)]
set_option maxRecDepth 100000 in
theorem eJX1_tick_55 (n : Nat) (x0 : Int) (x1 : Int) (x2 : Int) (z0 : Int) (h : Hp) : JX1_tick_55 n x0 x1 x2 z0 h =
  goAt false (kct (KJX1_tick_55 n)) (fun v h => some ((v, h))) (fsX1_tick n _) sdX1_tick 1000 55 [(0, 5, x0), (1, 12, x1), (2, 0, x2)] [(0, z0)] h := rfl
def KJX1_tick_35 (n : Nat) : CT (Int × Hp) := [(55, [(0, 5, none), (1, 12, none), (2, 0, none)], [(0, none)], fun a c h => match a, c with
    | [x0, x1, x2], [z0] => JX1_tick_55 n x0 x1 x2 z0 h
    | _, _ => none)]
set_option maxRecDepth 100000 in
theorem eJX1_tick_35 (n : Nat) (x0 : Int) (x1 : Int) (x2 : Int) (h : Hp) : JX1_tick_35 n x0 x1 x2 h =
  goAt false (kct (KJX1_tick_35 n)) (fun v h => some ((v, h))) (fsX1_tick n _) sdX1_tick 1000 35 [(0, 5, x0), (1, 12, x1), (2, 0, x2)] [] h := rfl
def KMX1_tick (n : Nat) : CT (Int × Hp) := [(35, [(0, 5, none), (1, 12, none), (2, 0, none)], [], fun a c h => match a, c with
    | [x0, x1, x2], [] => JX1_tick_35 n x0 x1 x2 h
    | _, _ => none)]
set_option maxRecDepth 100000 in
theorem eMX1_tick (n : Nat) (x0 : Int) (x1 : Int) (h : Hp) : MX1_tick n x0 x1 h =
  goAt false (kct (KMX1_tick n)) (fun v h => some ((v, h))) (fsX1_tick n _) sdX1_tick 1000 0 [(0, 5, x0), (1, 12, x1)] [] h := rfl
theorem okX1_tick : mokb (mi 135) = true := by decide +kernel
theorem rkX1_tick : rkOK 1 (mi 135).1.2.2.2.2.2.2.1 (mi 135).1.2.2.2.1 := Or.inr (Or.inl ⟨rfl, rfl, rfl⟩)
def calX1_tick : List Nat := [122, 132, 133, 134, 128]
theorem foX1_tick {l : Launch} {ρ : Type} (n : Nat) : fsOK l false mi calX1_tick (fsX1_tick n ρ) := ⟨sndX8_rests, ⟨(sndX1_isFit n), ⟨(sndX1_go n), ⟨sndX1_creep, ⟨sndX1_brake, trivial⟩⟩⟩⟩⟩
theorem ok_sdX1_tick : sdb (mi 135).1.2.1 (insOK mi (mi 135).1.1.cls (mi 135).1.2.2.1 (mi 135).1.2.2.2.2.1 (mi 135).1.2.2.2.2.2.1 calX1_tick false 1) sdX1_tick = true := by decide +kernel
def GX1_tick_59 (l : Launch) (h0 : Hp) (h' : Hp) (v : Int) (_ : Hp) : ((Int × Int × Int × Hp) ⊕ (Int × Hp)) → Prop
  | .inl (e0, e1, e2, h1) => PAt l false (mi 135).1 h0 v h' 89 [(0, 5, e0), (1, 12, e1), (2, 0, e2)] [] h1
  | .inr x => gWV v h' x
theorem sBX1_tick_59 {l : Launch} {h0 h' : Hp} {v : Int} (h8 : nOf h0 = 148) (n : Nat) : ∀ (f : Nat) (x0 : Int) (x1 : Int) (x2 : Int) (x3 : Int) (x4 : Int) (h : Hp) {r : (Int × Int × Int × Hp) ⊕ (Int × Hp)}, BX1_tick_59 n f x0 x1 x2 x3 x4 h = some r → GX1_tick_59 l h0 h' v h r → PAt l false (mi 135).1 h0 v h' 59 [(0, 5, x0), (1, 12, x1), (2, 0, x2), (3, 0, x3), (4, 0, x4)] [] h := by
  intro f
  induction f with
  | zero =>
    intro x0 x1 x2 x3 x4 h r H _
    have H2 : (none : Option ((Int × Int × Int × Hp) ⊕ (Int × Hp))) = some r := H
    cases H2
  | succ f ih =>
    intro x0 x1 x2 x3 x4 h r H hG
    exact pat_w ok_sdX1_tick rkX1_tick h8 (foX1_tick n) (fun v1 h1 q => by
    cases q
    exact ⟨hG.1, fun _ => hG.2⟩) (List.forall_mem_cons.mpr ⟨(fun a c h H => by
      dsimp only at H
      split at H
      · exact ih _ _ _ _ _ _ H hG
      · cases H), (List.forall_mem_cons.mpr ⟨(fun a c h H => by
      dsimp only at H
      split at H
      · cases H
        exact hG
      · cases H), (fun q9 h9 => by cases h9)⟩)⟩) ((eBX1_tick_59 n f x0 x1 x2 x3 x4 h).symm.trans H)
theorem sJX1_tick_89 {l : Launch} {h0 h' : Hp} {v : Int} (h8 : nOf h0 = 148) (n : Nat) (x0 : Int) (x1 : Int) (x2 : Int) (h : Hp) {r : Int × Hp} (H : JX1_tick_89 n x0 x1 x2 h = some r) (hG : gWV v h' r) : PAt l false (mi 135).1 h0 v h' 89 [(0, 5, x0), (1, 12, x1), (2, 0, x2)] [] h :=
  pat_w ok_sdX1_tick rkX1_tick h8 (foX1_tick n) (fun v1 h1 q => by
    cases q
    exact ⟨hG.1, fun _ => hG.2⟩) (fun q9 h9 => by cases h9) ((eJX1_tick_89 n x0 x1 x2 h).symm.trans H)
theorem sLX1_tick_59 {l : Launch} {h0 h' : Hp} {v : Int} (h8 : nOf h0 = 148) (n : Nat) (x0 : Int) (x1 : Int) (x2 : Int) (x3 : Int) (x4 : Int) (h : Hp) {r : Int × Hp} (H : LX1_tick_59 n x0 x1 x2 x3 x4 h = some r) (hG : gWV v h' r) : PAt l false (mi 135).1 h0 v h' 59 [(0, 5, x0), (1, 12, x1), (2, 0, x2), (3, 0, x3), (4, 0, x4)] [] h := by
  rcases bnds_some H with ⟨e9, h2, h3⟩ | ⟨e8, h2, h3⟩
  · obtain ⟨e0, e1, e2, h1⟩ := e9
    exact sBX1_tick_59 h8 n n x0 x1 x2 x3 x4 h h2 (sJX1_tick_89 h8 n e0 e1 e2 h1 h3 hG)
  · cases h3
    exact sBX1_tick_59 h8 n n x0 x1 x2 x3 x4 h h2 hG
theorem sJX1_tick_55 {l : Launch} {h0 h' : Hp} {v : Int} (h8 : nOf h0 = 148) (n : Nat) (x0 : Int) (x1 : Int) (x2 : Int) (z0 : Int) (h : Hp) {r : Int × Hp} (H : JX1_tick_55 n x0 x1 x2 z0 h = some r) (hG : gWV v h' r) : PAt l false (mi 135).1 h0 v h' 55 [(0, 5, x0), (1, 12, x1), (2, 0, x2)] [(0, z0)] h :=
  pat_w ok_sdX1_tick rkX1_tick h8 (foX1_tick n) (fun v1 h1 q => by
    cases q
    exact ⟨hG.1, fun _ => hG.2⟩) (List.forall_mem_cons.mpr ⟨(fun a c h H => by
      dsimp only at H
      split at H
      · exact sLX1_tick_59 h8 n _ _ _ _ _ _ H hG
      · cases H), (fun q9 h9 => by cases h9)⟩) ((eJX1_tick_55 n x0 x1 x2 z0 h).symm.trans H)
theorem sJX1_tick_35 {l : Launch} {h0 h' : Hp} {v : Int} (h8 : nOf h0 = 148) (n : Nat) (x0 : Int) (x1 : Int) (x2 : Int) (h : Hp) {r : Int × Hp} (H : JX1_tick_35 n x0 x1 x2 h = some r) (hG : gWV v h' r) : PAt l false (mi 135).1 h0 v h' 35 [(0, 5, x0), (1, 12, x1), (2, 0, x2)] [] h :=
  pat_w ok_sdX1_tick rkX1_tick h8 (foX1_tick n) (fun v1 h1 q => by
    cases q
    exact ⟨hG.1, fun _ => hG.2⟩) (List.forall_mem_cons.mpr ⟨(fun a c h H => by
      dsimp only at H
      split at H
      · exact sJX1_tick_55 h8 n _ _ _ _ _ H hG
      · cases H), (fun q9 h9 => by cases h9)⟩) ((eJX1_tick_35 n x0 x1 x2 h).symm.trans H)
theorem sMX1_tick {l : Launch} {h0 h' : Hp} {v : Int} (h8 : nOf h0 = 148) (n : Nat) (x0 : Int) (x1 : Int) (h : Hp) {r : Int × Hp} (H : MX1_tick n x0 x1 h = some r) (hG : gWV v h' r) : PAt l false (mi 135).1 h0 v h' 0 [(0, 5, x0), (1, 12, x1)] [] h :=
  pat_w ok_sdX1_tick rkX1_tick h8 (foX1_tick n) (fun v1 h1 q => by
    cases q
    exact ⟨hG.1, fun _ => hG.2⟩) (List.forall_mem_cons.mpr ⟨(fun a c h H => by
      dsimp only at H
      split at H
      · exact sJX1_tick_35 h8 n _ _ _ _ H hG
      · cases H), (fun q9 h9 => by cases h9)⟩) ((eMX1_tick n x0 x1 h).symm.trans H)
theorem sndX1_tick {ρ : Type} {l : Launch} (n : Nat) : SndF (ρ := ρ) l false (mi 135).1 (wX1_tick n) := by
    intro a h k r H ha ho hn hf
    have h8 := hf rfl
    obtain ⟨x0, x1, rfl⟩ := len2 (show a.length = 2 from ha)
    replace H : bnd (MX1_tick n x0 x1 h) (fun r h2 => k r h2) = some r := H
    obtain ⟨v2, h2, H1, H2⟩ := bnd_some H
    exact ⟨v2, h2, H2, met_mk (mok_base okX1_tick).1 (by decide +kernel) (Nat.le_of_ble_eq_true rfl) ho (sMX1_tick h8 n x0 x1 h H1 ⟨rfl, rfl⟩), fun q => by cases q⟩
/-! X11_ticks -/
def sdX11_ticks : SD := [(0, [(0, .iload_n 1, 1, [], 0), (1, .iconst 1, 1, [], 0), (2, .if_icmp .lt 9, 3, [], 0)]),
  (5, [(5, .iload_n 1, 1, [], 0), (6, .bipush 60, 2, [], 0), (8, .if_icmp .le 5, 3, [], 0)]),
  (11, [(11, .iconst (-1), 1, [], 0), (12, .ireturn, 1, [], 0)]),
  (13, [(13, .aload_n 0, 1, [], 0), (14, .getfield 47, 3, [11, 5, 5, 1, 695, 0], 50), (17, .aload_n 0, 1, [], 0), (18, .getfield 57, 3, [11, 7, 12, 1, 697, 0], 64), (21, .invokevirtual 188, 3, [1, 0, 1, 123, 1007, 12, 5], 0), (24, .ifCond .eq 6, 3, [], 0)]),
  (27, [(27, .bipush (-2), 2, [], 0), (29, .ireturn, 1, [], 0)]),
  (30, [(30, .iconst 0, 1, [], 0), (31, .istore_n 2, 1, [], 0)]),
  (32, [(32, .iload_n 2, 1, [], 0), (33, .iload_n 1, 1, [], 0), (34, .if_icmp .ge 59, 3, [], 0)]),
  (37, [(37, .aload_n 0, 1, [], 0), (38, .getfield 47, 3, [11, 5, 5, 1, 695, 0], 50), (41, .aload_n 0, 1, [], 0), (42, .getfield 57, 3, [11, 7, 12, 1, 697, 0], 64), (45, .invokevirtual 188, 3, [1, 0, 1, 123, 1007, 12, 5], 0), (48, .ifCond .ne 45, 3, [], 0)]),
  (51, [(51, .aload_n 0, 1, [], 0), (52, .getfield 67, 3, [11, 9, 9, 1, 699, 0], 66), (55, .aload_n 0, 1, [], 0), (56, .getfield 57, 3, [11, 7, 12, 1, 697, 0], 64), (59, .invokevirtual 192, 3, [0, 1, 1, 125, 1015, 12, 9], 0), (62, .aload_n 0, 1, [], 0), (63, .getfield 47, 3, [11, 5, 5, 1, 695, 0], 50), (66, .aload_n 0, 1, [], 0), (67, .getfield 57, 3, [11, 7, 12, 1, 697, 0], 64), (70, .invokevirtual 196, 3, [1, 2, 1, 135, 1024, 12, 5], 0), (73, .pop, 1, [], 0), (74, .aload_n 0, 1, [], 0), (75, .getfield 57, 3, [11, 7, 12, 1, 697, 0], 64), (78, .dup, 1, [], 0), (79, .getfield 136, 3, [8, 6, 0, 0, 499, 0], 0), (82, .iconst 1, 1, [], 0), (83, .iadd, 1, [], 0), (84, .putfield 136, 3, [8, 6, 0, 0, 0, 499], 0), (87, .iinc 2 1, 3, [], 0), (90, .goto (-58), 3, [], 0)]),
  (93, [(93, .aload_n 0, 1, [], 0), (94, .getfield 57, 3, [11, 7, 12, 1, 697, 0], 64), (97, .getfield 200, 3, [8, 0, 0, 0, 483, 0], 0), (100, .ireturn, 1, [], 0)])]
def BX11_ticks_32 (n : Nat) : Nat → Int → Int → Hp → Option (Int × Hp)
  | 0, _, _, _ => none
  | f + 1, x1, x2, h =>
    (if x1 ≤ x2 then
    (some ((h 64 0), h))
    else
    (bndp (MX1_isDone 50 64 h) fun r1 =>
    (if r1 ≠ 0 then
    (some ((h 64 0), h))
    else
    (bndh (MX5_note 64 h) fun h1 =>
    (bnd (MX1_tick n 50 64 h1) fun r2 h2 =>
    (ltt (up h2 64 6 (w32 ((h2 64 6) + 1))) fun h3 =>
    (ltt (w32 (x2 + 1)) fun y1 =>
    (BX11_ticks_32 n f x1 y1 h3))))))))
def LX11_ticks_32 (n : Nat) (x1 x2 : Int) (h : Hp) : Option (Int × Hp) :=
(BX11_ticks_32 n n x1 x2 h)
def MX11_ticks (n : Nat) (x1 : Int) (h : Hp) : Option (Int × Hp) :=
(if x1 < 1 then
(some ((-1), h))
else
(if x1 ≤ 60 then
(bndp (MX1_isDone 50 64 h) fun r1 =>
(if r1 = 0 then
(ltt 0 fun y1 =>
(LX11_ticks_32 n x1 y1 h))
else
(some ((-2), h))))
else
(some ((-1), h))))
def wX11_ticks {ρ : Type} (n : Nat) : FN ρ := fun a h k => match a with
  | [_, x1] => bnd (MX11_ticks n x1 h) (fun r h2 => k r h2)
  | _ => none
def fsX11_ticks (n : Nat) (ρ : Type) : List (FN ρ) := [wX1_isDone, wX5_note, wX1_tick n]
def KBX11_ticks_32 (_ : Nat) (bk : Int → Int → Hp → Option (Int × Hp)) : CT (Int × Hp) := [(32, [(0, 15, (some 0)), (1, 0, none), (2, 0, none)], [], fun a c h => match a, c with
    | [x1, x2], [] => bk x1 x2 h
    | _, _ => none)]
set_option maxRecDepth 100000 in
theorem eBX11_ticks_32 (n f : Nat) (x1 : Int) (x2 : Int) (h : Hp) : BX11_ticks_32 n (f + 1) x1 x2 h =
  goAt false (kct (KBX11_ticks_32 n (BX11_ticks_32 n f))) (fun v h => some ((v, h))) (fsX11_ticks n _) sdX11_ticks 1000 32 [(0, 15, 0), (1, 0, x1), (2, 0, x2)] [] h := rfl
def KMX11_ticks (n : Nat) : CT (Int × Hp) := [(32, [(0, 15, (some 0)), (1, 0, none), (2, 0, none)], [], fun a c h => match a, c with
    | [x1, x2], [] => LX11_ticks_32 n x1 x2 h
    | _, _ => none)]
set_option maxRecDepth 100000 in
theorem eMX11_ticks (n : Nat) (x1 : Int) (h : Hp) : MX11_ticks n x1 h =
  goAt false (kct (KMX11_ticks n)) (fun v h => some ((v, h))) (fsX11_ticks n _) sdX11_ticks 1000 0 [(0, 15, 0), (1, 0, x1)] [] h := rfl
theorem okX11_ticks : mokb (mi 136) = true := by decide +kernel
theorem rkX11_ticks : rkOK 1 (mi 136).1.2.2.2.2.2.2.1 (mi 136).1.2.2.2.1 := Or.inr (Or.inl ⟨rfl, rfl, rfl⟩)
def calX11_ticks : List Nat := [123, 125, 135]
theorem foX11_ticks {l : Launch} {ρ : Type} (n : Nat) : fsOK l false mi calX11_ticks (fsX11_ticks n ρ) := ⟨sndX1_isDone, ⟨sndX5_note, ⟨(sndX1_tick n), trivial⟩⟩⟩
theorem ok_sdX11_ticks : sdb (mi 136).1.2.1 (insOK mi (mi 136).1.1.cls (mi 136).1.2.2.1 (mi 136).1.2.2.2.2.1 (mi 136).1.2.2.2.2.2.1 calX11_ticks false 1) sdX11_ticks = true := by decide +kernel
theorem sBX11_ticks_32 {l : Launch} {h0 h' : Hp} {v : Int} (h8 : nOf h0 = 148) (n : Nat) : ∀ (f : Nat) (x1 : Int) (x2 : Int) (h : Hp) {r : Int × Hp}, BX11_ticks_32 n f x1 x2 h = some r → gWV v h' r → PAt l false (mi 136).1 h0 v h' 32 [(0, 15, 0), (1, 0, x1), (2, 0, x2)] [] h := by
  intro f
  induction f with
  | zero =>
    intro x1 x2 h r H _
    have H2 : (none : Option (Int × Hp)) = some r := H
    cases H2
  | succ f ih =>
    intro x1 x2 h r H hG
    exact pat_w ok_sdX11_ticks rkX11_ticks h8 (foX11_ticks n) (fun v1 h1 q => by
    cases q
    exact ⟨hG.1, fun _ => hG.2⟩) (List.forall_mem_cons.mpr ⟨(fun a c h H => by
      dsimp only at H
      split at H
      · exact ih _ _ _ H hG
      · cases H), (fun q9 h9 => by cases h9)⟩) ((eBX11_ticks_32 n f x1 x2 h).symm.trans H)
theorem sLX11_ticks_32 {l : Launch} {h0 h' : Hp} {v : Int} (h8 : nOf h0 = 148) (n : Nat) (x1 : Int) (x2 : Int) (h : Hp) {r : Int × Hp} (H : LX11_ticks_32 n x1 x2 h = some r) (hG : gWV v h' r) : PAt l false (mi 136).1 h0 v h' 32 [(0, 15, 0), (1, 0, x1), (2, 0, x2)] [] h :=
  sBX11_ticks_32 h8 n n x1 x2 h H hG
theorem sMX11_ticks {l : Launch} {h0 h' : Hp} {v : Int} (h8 : nOf h0 = 148) (n : Nat) (x1 : Int) (h : Hp) {r : Int × Hp} (H : MX11_ticks n x1 h = some r) (hG : gWV v h' r) : PAt l false (mi 136).1 h0 v h' 0 [(0, 15, 0), (1, 0, x1)] [] h :=
  pat_w ok_sdX11_ticks rkX11_ticks h8 (foX11_ticks n) (fun v1 h1 q => by
    cases q
    exact ⟨hG.1, fun _ => hG.2⟩) (List.forall_mem_cons.mpr ⟨(fun a c h H => by
      dsimp only at H
      split at H
      · exact sLX11_ticks_32 h8 n _ _ _ H hG
      · cases H), (fun q9 h9 => by cases h9)⟩) ((eMX11_ticks n x1 h).symm.trans H)
theorem sndX11_ticks {ρ : Type} {l : Launch} (n : Nat) : SndF (ρ := ρ) l false (mi 136).1 (wX11_ticks n) := by
    intro a h k r H ha ho hn hf
    have h8 := hf rfl
    obtain ⟨x0, x1, rfl⟩ := len2 (show a.length = 2 from ha)
    have u0 := uq15 hn (ho (15, x0) (List.mem_cons_self))
    subst u0
    replace H : bnd (MX11_ticks n x1 h) (fun r h2 => k r h2) = some r := H
    obtain ⟨v2, h2, H1, H2⟩ := bnd_some H
    exact ⟨v2, h2, H2, met_mk (mok_base okX11_ticks).1 (by decide +kernel) (Nat.le_of_ble_eq_true rfl) ho (sMX11_ticks h8 n x1 h H1 ⟨rfl, rfl⟩), fun q => by cases q⟩
/-! X12_begins -/
def sdX12_begins : SD := [(0, [(0, .aload_n 0, 1, [], 0), (1, .aload_n 0, 1, [], 0), (2, .getfield 165, 3, [12, 42, 0, 0, 1364, 0], 0), (5, .putfield 406, 3, [12, 48, 0, 0, 0, 1370], 0), (8, .aload_n 0, 1, [], 0), (9, .aload_n 0, 1, [], 0), (10, .getfield 168, 3, [12, 43, 0, 0, 1365, 0], 0), (13, .putfield 409, 3, [12, 49, 0, 0, 0, 1371], 0), (16, .aload_n 0, 1, [], 0), (17, .aload_n 0, 1, [], 0), (18, .getfield 171, 3, [12, 44, 0, 0, 1366, 0], 0), (21, .putfield 412, 3, [12, 50, 0, 0, 0, 1372], 0), (24, .aload_n 0, 1, [], 0), (25, .aload_n 0, 1, [], 0), (26, .getfield 161, 3, [12, 47, 0, 0, 1369, 0], 0), (29, .putfield 415, 3, [12, 52, 0, 0, 1, 1374], 0), (32, .return_, 1, [], 0)])]
def MX12_begins (h : Hp) : Option (Hp) :=
(ltt (up h 113 48 (h 113 42)) fun h1 =>
(ltt (up h1 113 49 (h1 113 43)) fun h2 =>
(ltt (up h2 113 50 (h2 113 44)) fun h3 =>
(grd ((h3 113 47) = 0 ∨ (h3 113 47) = 1)
(ltt (up h3 113 52 (h3 113 47)) fun h4 =>
(some h4))))))
def wX12_begins {ρ : Type} : FN ρ := fun a h k => match a with
  | [_] => bndh (MX12_begins h) (fun h2 => k 0 h2)
  | _ => none
def fsX12_begins (ρ : Type) : List (FN ρ) := []
def KMX12_begins  : CT (Hp) := []
set_option maxRecDepth 100000 in
theorem eMX12_begins (h : Hp) : MX12_begins h =
  goAt false (kct (KMX12_begins)) (fun _ h => some (h)) (fsX12_begins _) sdX12_begins 1000 0 [(0, 16, 113)] [] h := rfl
theorem okX12_begins : mokb (mi 137) = true := by decide +kernel
theorem rkX12_begins : rkOK 0 (mi 137).1.2.2.2.2.2.2.1 (mi 137).1.2.2.2.1 := Or.inl ⟨rfl, rfl, rfl⟩
def calX12_begins : List Nat := []
theorem foX12_begins {l : Launch} {ρ : Type} : fsOK l false mi calX12_begins (fsX12_begins ρ) := trivial
theorem ok_sdX12_begins : sdb (mi 137).1.2.1 (insOK mi (mi 137).1.1.cls (mi 137).1.2.2.1 (mi 137).1.2.2.2.2.1 (mi 137).1.2.2.2.2.2.1 calX12_begins false 0) sdX12_begins = true := by decide +kernel
theorem sMX12_begins {l : Launch} {h0 h' : Hp} {v : Int} (h8 : nOf h0 = 148)   (h : Hp) {r : Hp} (H : MX12_begins h = some r) (hG : gW h' r) : PAt l false (mi 137).1 h0 v h' 0 [(0, 16, 113)] [] h :=
  pat_w ok_sdX12_begins rkX12_begins h8 (foX12_begins) (fun v1 h1 q => by
    cases q
    exact ⟨hG, fun q9 => absurd rfl q9⟩) (fun q9 h9 => by cases h9) ((eMX12_begins h).symm.trans H)
theorem sndX12_begins {ρ : Type} {l : Launch} : SndF (ρ := ρ) l false (mi 137).1 (wX12_begins) := by
    intro a h k r H ha ho hn hf
    have h8 := hf rfl
    obtain ⟨x0, rfl⟩ := len1 (show a.length = 1 from ha)
    have u0 := uq16 hn (ho (16, x0) (List.mem_cons_self))
    subst u0
    replace H : bndh (MX12_begins h) (fun h2 => k 0 h2) = some r := H
    obtain ⟨h2, H1, H2⟩ := bndh_some H
    exact ⟨0, h2, H2, met_mk (mok_base okX12_begins).1 (by decide +kernel) (Nat.le_of_ble_eq_true rfl) ho (sMX12_begins h8  h H1 rfl), fun q => by cases q⟩
/-! X12_isRest -/
def sdX12_isRest : SD := [(0, [(0, .aload_n 0, 1, [], 0), (1, .getfield 409, 3, [12, 49, 0, 0, 1371, 0], 0), (4, .ifCond .ne 14, 3, [], 0)]),
  (7, [(7, .aload_n 0, 1, [], 0), (8, .getfield 412, 3, [12, 50, 0, 0, 1372, 0], 0), (11, .ifCond .ne 7, 3, [], 0)]),
  (14, [(14, .iconst 1, 1, [], 0), (15, .goto 4, 3, [], 0)]),
  (18, [(18, .iconst 0, 1, [], 0)]),
  (19, [(19, .ireturn, 1, [1], 0)])]
def MX12_isRest (h : Hp) : Option (Int) :=
(if (h 113 49) ≠ 0 then
(some 0)
else
(if (h 113 50) ≠ 0 then
(some 0)
else
(some 1)))
def wX12_isRest {ρ : Type} : FN ρ := fun a h k => match a with
  | [_] => bndp (MX12_isRest h) (fun r => k r h)
  | _ => none
def fsX12_isRest (ρ : Type) : List (FN ρ) := []
def KMX12_isRest  : CT (Int) := []
set_option maxRecDepth 100000 in
theorem eMX12_isRest (h : Hp) : MX12_isRest h =
  goAt false (kct (KMX12_isRest)) (fun v _ => some (v)) (fsX12_isRest _) sdX12_isRest 1000 0 [(0, 16, 113)] [] h := rfl
theorem okX12_isRest : mokb (mi 138) = true := by decide +kernel
theorem rkX12_isRest : rkOK 4 (mi 138).1.2.2.2.2.2.2.1 (mi 138).1.2.2.2.1 := Or.inr (Or.inr (Or.inl ⟨rfl, rfl, rfl⟩))
def calX12_isRest : List Nat := []
theorem foX12_isRest {l : Launch} {ρ : Type} : fsOK l false mi calX12_isRest (fsX12_isRest ρ) := trivial
theorem frX12_isRest {ρ : Type} : ∀ fn ∈ fsX12_isRest ρ, RoF fn := (fun q9 h9 => by cases h9)
theorem ok_sdX12_isRest : sdb (mi 138).1.2.1 (insOK mi (mi 138).1.1.cls (mi 138).1.2.2.1 (mi 138).1.2.2.2.2.1 (mi 138).1.2.2.2.2.2.1 calX12_isRest false 4) sdX12_isRest = true := by decide +kernel
theorem sMX12_isRest {l : Launch} {h0 : Hp} {v : Int} (h8 : nOf h0 = 148)   (h : Hp) {r : Int} (H : MX12_isRest h = some r) (hG : gV v r) : PAt l false (mi 138).1 h0 v h 0 [(0, 16, 113)] [] h :=
  pat_ro ok_sdX12_isRest rfl rkX12_isRest h8 (foX12_isRest) (frX12_isRest) (fun v1 q => by
    cases q
    exact ⟨rfl, fun _ => hG⟩) (fun q9 h9 => by cases h9) ((eMX12_isRest h).symm.trans H)
theorem sndX12_isRest {ρ : Type} {l : Launch} : SndF (ρ := ρ) l false (mi 138).1 (wX12_isRest) := by
    intro a h k r H ha ho hn hf
    have h8 := hf rfl
    obtain ⟨x0, rfl⟩ := len1 (show a.length = 1 from ha)
    have u0 := uq16 hn (ho (16, x0) (List.mem_cons_self))
    subst u0
    replace H : bndp (MX12_isRest h) (fun r => k r h) = some r := H
    obtain ⟨v2, H1, H2⟩ := bndp_some H
    exact ⟨v2, h, H2, met_mk (mok_base okX12_isRest).1 (by decide +kernel) (Nat.le_of_ble_eq_true rfl) ho (sMX12_isRest h8  h H1 rfl), fun q => by cases q⟩
theorem roX12_isRest {ρ : Type} : RoF (wX12_isRest : FN ρ) := fun a h k k2 hk => by
  unfold wX12_isRest
  split
  · exact bndp_ro hk
  · rfl
/-! X12_all -/
def sdX12_all : SD := [(0, [(0, .aload_n 0, 1, [], 0), (1, .getfield 49, 3, [12, 18, 540, 1, 1340, 0], 13), (4, .aload_n 0, 1, [], 0), (5, .getfield 140, 3, [12, 6, 0, 0, 1328, 0], 0), (8, .iaload, 1, [], 0), (9, .ireturn, 1, [], 0)])]
def MX12_all (h : Hp) : Option (Int) :=
(grd (0 ≤ (h 113 6) ∧ (h 113 6) < alen 540)
(some (h 126 (h 113 6))))
def wX12_all {ρ : Type} : FN ρ := fun a h k => match a with
  | [_] => bndp (MX12_all h) (fun r => k r h)
  | _ => none
def fsX12_all (ρ : Type) : List (FN ρ) := []
def KMX12_all  : CT (Int) := []
set_option maxRecDepth 100000 in
theorem eMX12_all (h : Hp) : MX12_all h =
  goAt false (kct (KMX12_all)) (fun v _ => some (v)) (fsX12_all _) sdX12_all 1000 0 [(0, 16, 113)] [] h := rfl
theorem okX12_all : mokb (mi 139) = true := by decide +kernel
theorem rkX12_all : rkOK 1 (mi 139).1.2.2.2.2.2.2.1 (mi 139).1.2.2.2.1 := Or.inr (Or.inl ⟨rfl, rfl, rfl⟩)
def calX12_all : List Nat := []
theorem foX12_all {l : Launch} {ρ : Type} : fsOK l false mi calX12_all (fsX12_all ρ) := trivial
theorem frX12_all {ρ : Type} : ∀ fn ∈ fsX12_all ρ, RoF fn := (fun q9 h9 => by cases h9)
theorem ok_sdX12_all : sdb (mi 139).1.2.1 (insOK mi (mi 139).1.1.cls (mi 139).1.2.2.1 (mi 139).1.2.2.2.2.1 (mi 139).1.2.2.2.2.2.1 calX12_all false 1) sdX12_all = true := by decide +kernel
theorem sMX12_all {l : Launch} {h0 : Hp} {v : Int} (h8 : nOf h0 = 148)   (h : Hp) {r : Int} (H : MX12_all h = some r) (hG : gV v r) : PAt l false (mi 139).1 h0 v h 0 [(0, 16, 113)] [] h :=
  pat_ro ok_sdX12_all rfl rkX12_all h8 (foX12_all) (frX12_all) (fun v1 q => by
    cases q
    exact ⟨rfl, fun _ => hG⟩) (fun q9 h9 => by cases h9) ((eMX12_all h).symm.trans H)
theorem sndX12_all {ρ : Type} {l : Launch} : SndF (ρ := ρ) l false (mi 139).1 (wX12_all) := by
    intro a h k r H ha ho hn hf
    have h8 := hf rfl
    obtain ⟨x0, rfl⟩ := len1 (show a.length = 1 from ha)
    have u0 := uq16 hn (ho (16, x0) (List.mem_cons_self))
    subst u0
    replace H : bndp (MX12_all h) (fun r => k r h) = some r := H
    obtain ⟨v2, H1, H2⟩ := bndp_some H
    exact ⟨v2, h, H2, met_mk (mok_base okX12_all).1 (by decide +kernel) (Nat.le_of_ble_eq_true rfl) ho (sMX12_all h8  h H1 rfl), fun q => by cases q⟩
theorem roX12_all {ρ : Type} : RoF (wX12_all : FN ρ) := fun a h k k2 hk => by
  unfold wX12_all
  split
  · exact bndp_ro hk
  · rfl
/-! X12_isDone -/
def sdX12_isDone : SD := [(0, [(0, .aload_n 0, 1, [], 0), (1, .invokevirtual 418, 3, [1, 0, 1, 138, 1711, 16], 0), (4, .ifCond .eq 18, 3, [], 0)]),
  (7, [(7, .aload_n 0, 1, [], 0), (8, .getfield 406, 3, [12, 48, 0, 0, 1370, 0], 0), (11, .aload_n 0, 1, [], 0), (12, .invokevirtual 393, 3, [1, 1, 1, 139, 1715, 16], 0), (15, .if_icmp .ne 7, 3, [], 0)]),
  (18, [(18, .iconst 1, 1, [], 0), (19, .goto 4, 3, [], 0)]),
  (22, [(22, .iconst 0, 1, [], 0)]),
  (23, [(23, .ireturn, 1, [1], 0)])]
def MX12_isDone (h : Hp) : Option (Int) :=
(bndp (MX12_isRest h) fun r1 =>
(if r1 = 0 then
(some 0)
else
(bndp (MX12_all h) fun r2 =>
(if (h 113 48) ≠ r2 then
(some 0)
else
(some 1)))))
def wX12_isDone {ρ : Type} : FN ρ := fun a h k => match a with
  | [_] => bndp (MX12_isDone h) (fun r => k r h)
  | _ => none
def fsX12_isDone (ρ : Type) : List (FN ρ) := [wX12_isRest, wX12_all]
def KMX12_isDone  : CT (Int) := []
set_option maxRecDepth 100000 in
theorem eMX12_isDone (h : Hp) : MX12_isDone h =
  goAt false (kct (KMX12_isDone)) (fun v _ => some (v)) (fsX12_isDone _) sdX12_isDone 1000 0 [(0, 16, 113)] [] h := rfl
theorem okX12_isDone : mokb (mi 140) = true := by decide +kernel
theorem rkX12_isDone : rkOK 4 (mi 140).1.2.2.2.2.2.2.1 (mi 140).1.2.2.2.1 := Or.inr (Or.inr (Or.inl ⟨rfl, rfl, rfl⟩))
def calX12_isDone : List Nat := [138, 139]
theorem foX12_isDone {l : Launch} {ρ : Type} : fsOK l false mi calX12_isDone (fsX12_isDone ρ) := ⟨sndX12_isRest, ⟨sndX12_all, trivial⟩⟩
theorem frX12_isDone {ρ : Type} : ∀ fn ∈ fsX12_isDone ρ, RoF fn := (List.forall_mem_cons.mpr ⟨roX12_isRest, (List.forall_mem_cons.mpr ⟨roX12_all, (fun q9 h9 => by cases h9)⟩)⟩)
theorem ok_sdX12_isDone : sdb (mi 140).1.2.1 (insOK mi (mi 140).1.1.cls (mi 140).1.2.2.1 (mi 140).1.2.2.2.2.1 (mi 140).1.2.2.2.2.2.1 calX12_isDone false 4) sdX12_isDone = true := by decide +kernel
theorem sMX12_isDone {l : Launch} {h0 : Hp} {v : Int} (h8 : nOf h0 = 148)   (h : Hp) {r : Int} (H : MX12_isDone h = some r) (hG : gV v r) : PAt l false (mi 140).1 h0 v h 0 [(0, 16, 113)] [] h :=
  pat_ro ok_sdX12_isDone rfl rkX12_isDone h8 (foX12_isDone) (frX12_isDone) (fun v1 q => by
    cases q
    exact ⟨rfl, fun _ => hG⟩) (fun q9 h9 => by cases h9) ((eMX12_isDone h).symm.trans H)
theorem sndX12_isDone {ρ : Type} {l : Launch} : SndF (ρ := ρ) l false (mi 140).1 (wX12_isDone) := by
    intro a h k r H ha ho hn hf
    have h8 := hf rfl
    obtain ⟨x0, rfl⟩ := len1 (show a.length = 1 from ha)
    have u0 := uq16 hn (ho (16, x0) (List.mem_cons_self))
    subst u0
    replace H : bndp (MX12_isDone h) (fun r => k r h) = some r := H
    obtain ⟨v2, H1, H2⟩ := bndp_some H
    exact ⟨v2, h, H2, met_mk (mok_base okX12_isDone).1 (by decide +kernel) (Nat.le_of_ble_eq_true rfl) ho (sMX12_isDone h8  h H1 rfl), fun q => by cases q⟩
theorem roX12_isDone {ρ : Type} : RoF (wX12_isDone : FN ρ) := fun a h k k2 hk => by
  unfold wX12_isDone
  split
  · exact bndp_ro hk
  · rfl
/-! X12_truth -/
def sdX12_truth : SD := [(0, [(0, .iload_n 0, 1, [], 0), (1, .ifCond .eq 7, 3, [], 0)]),
  (4, [(4, .iconst 1, 1, [], 0), (5, .goto 4, 3, [], 0)]),
  (8, [(8, .iconst 0, 1, [], 0)]),
  (9, [(9, .ireturn, 1, [], 0)])]
def MX12_truth (x0 : Int) : Option (Int) :=
(if x0 = 0 then
(some 0)
else
(some 1))
def wX12_truth {ρ : Type} : FN ρ := fun a h k => match a with
  | [x0] => bndp (MX12_truth x0) (fun r => k r h)
  | _ => none
def fsX12_truth (ρ : Type) : List (FN ρ) := []
def KMX12_truth  : CT (Int) := []
set_option maxRecDepth 100000 in
theorem eMX12_truth (x0 : Int) (h : Hp) : MX12_truth x0 =
  goAt false (kct (KMX12_truth)) (fun v _ => some (v)) (fsX12_truth _) sdX12_truth 1000 0 [(0, 0, x0)] [] h := rfl
theorem okX12_truth : mokb (mi 141) = true := by decide +kernel
theorem rkX12_truth : rkOK 1 (mi 141).1.2.2.2.2.2.2.1 (mi 141).1.2.2.2.1 := Or.inr (Or.inl ⟨rfl, rfl, rfl⟩)
def calX12_truth : List Nat := []
theorem foX12_truth {l : Launch} {ρ : Type} : fsOK l false mi calX12_truth (fsX12_truth ρ) := trivial
theorem frX12_truth {ρ : Type} : ∀ fn ∈ fsX12_truth ρ, RoF fn := (fun q9 h9 => by cases h9)
theorem ok_sdX12_truth : sdb (mi 141).1.2.1 (insOK mi (mi 141).1.1.cls (mi 141).1.2.2.1 (mi 141).1.2.2.2.2.1 (mi 141).1.2.2.2.2.2.1 calX12_truth false 1) sdX12_truth = true := by decide +kernel
theorem sMX12_truth {l : Launch} {h0 : Hp} {v : Int} (h8 : nOf h0 = 148)  (x0 : Int) (h : Hp) {r : Int} (H : MX12_truth x0 = some r) (hG : gV v r) : PAt l false (mi 141).1 h0 v h 0 [(0, 0, x0)] [] h :=
  pat_ro ok_sdX12_truth rfl rkX12_truth h8 (foX12_truth) (frX12_truth) (fun v1 q => by
    cases q
    exact ⟨rfl, fun _ => hG⟩) (fun q9 h9 => by cases h9) ((eMX12_truth x0 h).symm.trans H)
theorem sndX12_truth {ρ : Type} {l : Launch} : SndF (ρ := ρ) l false (mi 141).1 (wX12_truth) := by
    intro a h k r H ha ho hn hf
    have h8 := hf rfl
    obtain ⟨x0, rfl⟩ := len1 (show a.length = 1 from ha)
    replace H : bndp (MX12_truth x0) (fun r => k r h) = some r := H
    obtain ⟨v2, H1, H2⟩ := bndp_some H
    exact ⟨v2, h, H2, met_mk (mok_base okX12_truth).1 (by decide +kernel) (Nat.le_of_ble_eq_true rfl) ho (sMX12_truth h8 x0 h H1 rfl), fun q => by cases q⟩
theorem roX12_truth {ρ : Type} : RoF (wX12_truth : FN ρ) := fun a h k k2 hk => by
  unfold wX12_truth
  split
  · exact bndp_ro hk
  · rfl
/-! X12_keepsIn -/
def sdX12_keepsIn : SD := [(0, [(0, .aload_n 1, 1, [], 0), (1, .iload_n 2, 1, [], 0), (2, .aload_n 0, 1, [], 0), (3, .getfield 165, 3, [12, 42, 0, 0, 1364, 0], 0), (6, .iastore, 1, [], 0), (7, .aload_n 1, 1, [], 0), (8, .iload_n 2, 1, [], 0), (9, .iconst 1, 1, [], 0), (10, .iadd, 1, [], 0), (11, .aload_n 0, 1, [], 0), (12, .getfield 168, 3, [12, 43, 0, 0, 1365, 0], 0), (15, .iastore, 1, [], 0), (16, .aload_n 1, 1, [], 0), (17, .iload_n 2, 1, [], 0), (18, .iconst 2, 1, [], 0), (19, .iadd, 1, [], 0), (20, .aload_n 0, 1, [], 0), (21, .getfield 171, 3, [12, 44, 0, 0, 1366, 0], 0), (24, .iastore, 1, [], 0), (25, .aload_n 1, 1, [], 0), (26, .iload_n 2, 1, [], 0), (27, .iconst 3, 1, [], 0), (28, .iadd, 1, [], 0), (29, .aload_n 0, 1, [], 0), (30, .getfield 158, 3, [12, 45, 0, 0, 1367, 0], 0), (33, .iastore, 1, [], 0), (34, .aload_n 1, 1, [], 0), (35, .iload_n 2, 1, [], 0), (36, .iconst 4, 1, [], 0), (37, .iadd, 1, [], 0), (38, .aload_n 0, 1, [], 0), (39, .getfield 161, 3, [12, 47, 0, 0, 1369, 0], 0), (42, .invokestatic 446, 3, [1, 0, 3, 141, 1727, 0], 0), (45, .iastore, 1, [], 0), (46, .aload_n 1, 1, [], 0), (47, .iload_n 2, 1, [], 0), (48, .iconst 5, 1, [], 0), (49, .iadd, 1, [], 0), (50, .aload_n 0, 1, [], 0), (51, .getfield 174, 3, [12, 46, 0, 0, 1368, 0], 0), (54, .iastore, 1, [], 0), (55, .return_, 1, [], 0)])]
def MX12_keepsIn (x2 : Int) (h : Hp) : Option (Hp) :=
(grd (0 ≤ x2 ∧ x2 < alen 980)
(ltt (up h 138 x2 (h 113 42)) fun h1 =>
(grd (0 ≤ (w32 (x2 + 1)) ∧ (w32 (x2 + 1)) < alen 980)
(ltt (up h1 138 (w32 (x2 + 1)) (h1 113 43)) fun h2 =>
(grd (0 ≤ (w32 (x2 + 2)) ∧ (w32 (x2 + 2)) < alen 980)
(ltt (up h2 138 (w32 (x2 + 2)) (h2 113 44)) fun h3 =>
(grd (0 ≤ (w32 (x2 + 3)) ∧ (w32 (x2 + 3)) < alen 980)
(ltt (up h3 138 (w32 (x2 + 3)) (h3 113 45)) fun h4 =>
(bndp (MX12_truth (h4 113 47)) fun r1 =>
(grd (0 ≤ (w32 (x2 + 4)) ∧ (w32 (x2 + 4)) < alen 980)
(ltt (up h4 138 (w32 (x2 + 4)) r1) fun h5 =>
(grd (0 ≤ (w32 (x2 + 5)) ∧ (w32 (x2 + 5)) < alen 980)
(ltt (up h5 138 (w32 (x2 + 5)) (h5 113 46)) fun h6 =>
(some h6))))))))))))))
def wX12_keepsIn {ρ : Type} : FN ρ := fun a h k => match a with
  | [_, _, x2] => bndh (MX12_keepsIn x2 h) (fun h2 => k 0 h2)
  | _ => none
def fsX12_keepsIn (ρ : Type) : List (FN ρ) := [wX12_truth]
def KMX12_keepsIn  : CT (Hp) := []
set_option maxRecDepth 100000 in
theorem eMX12_keepsIn (x2 : Int) (h : Hp) : MX12_keepsIn x2 h =
  goAt false (kct (KMX12_keepsIn)) (fun _ h => some (h)) (fsX12_keepsIn _) sdX12_keepsIn 1000 0 [(0, 16, 113), (1, 980, 138), (2, 0, x2)] [] h := rfl
theorem okX12_keepsIn : mokb (mi 142) = true := by decide +kernel
theorem rkX12_keepsIn : rkOK 0 (mi 142).1.2.2.2.2.2.2.1 (mi 142).1.2.2.2.1 := Or.inl ⟨rfl, rfl, rfl⟩
def calX12_keepsIn : List Nat := [141]
theorem foX12_keepsIn {l : Launch} {ρ : Type} : fsOK l false mi calX12_keepsIn (fsX12_keepsIn ρ) := ⟨sndX12_truth, trivial⟩
theorem ok_sdX12_keepsIn : sdb (mi 142).1.2.1 (insOK mi (mi 142).1.1.cls (mi 142).1.2.2.1 (mi 142).1.2.2.2.2.1 (mi 142).1.2.2.2.2.2.1 calX12_keepsIn false 0) sdX12_keepsIn = true := by decide +kernel
theorem sMX12_keepsIn {l : Launch} {h0 h' : Hp} {v : Int} (h8 : nOf h0 = 148)  (x2 : Int) (h : Hp) {r : Hp} (H : MX12_keepsIn x2 h = some r) (hG : gW h' r) : PAt l false (mi 142).1 h0 v h' 0 [(0, 16, 113), (1, 980, 138), (2, 0, x2)] [] h :=
  pat_w ok_sdX12_keepsIn rkX12_keepsIn h8 (foX12_keepsIn) (fun v1 h1 q => by
    cases q
    exact ⟨hG, fun q9 => absurd rfl q9⟩) (fun q9 h9 => by cases h9) ((eMX12_keepsIn x2 h).symm.trans H)
theorem sndX12_keepsIn {ρ : Type} {l : Launch} : SndF (ρ := ρ) l false (mi 142).1 (wX12_keepsIn) := by
    intro a h k r H ha ho hn hf
    have h8 := hf rfl
    obtain ⟨x0, x1, x2, rfl⟩ := len3 (show a.length = 3 from ha)
    have u0 := uq16 hn (ho (16, x0) (List.mem_cons_self))
    subst u0
    have u1 := uq980 hn (ho (980, x1) (List.mem_cons_of_mem _ List.mem_cons_self))
    subst u1
    replace H : bndh (MX12_keepsIn x2 h) (fun h2 => k 0 h2) = some r := H
    obtain ⟨h2, H1, H2⟩ := bndh_some H
    exact ⟨0, h2, H2, met_mk (mok_base okX12_keepsIn).1 (by decide +kernel) (Nat.le_of_ble_eq_true rfl) ho (sMX12_keepsIn h8 x2 h H1 rfl), fun q => by cases q⟩
/-! X12_remembers -/
def sdX12_remembers : SD := [(0, [(0, .aload_n 0, 1, [], 0), (1, .getfield 177, 3, [12, 54, 0, 0, 1376, 0], 0), (4, .bipush 20, 2, [], 0), (6, .if_icmp .ne 42, 3, [], 0)]),
  (9, [(9, .iconst 0, 1, [], 0), (10, .istore_n 1, 1, [], 0)]),
  (11, [(11, .iload_n 1, 1, [], 0), (12, .bipush 114, 2, [], 0), (14, .if_icmp .ge 24, 3, [], 0)]),
  (17, [(17, .aload_n 0, 1, [], 0), (18, .getfield 86, 3, [12, 53, 980, 1, 1375, 0], 25), (21, .iload_n 1, 1, [], 0), (22, .aload_n 0, 1, [], 0), (23, .getfield 86, 3, [12, 53, 980, 1, 1375, 0], 25), (26, .iload_n 1, 1, [], 0), (27, .bipush 6, 2, [], 0), (29, .iadd, 1, [], 0), (30, .iaload, 1, [], 0), (31, .iastore, 1, [], 0), (32, .iinc 1 1, 3, [], 0), (35, .goto (-24), 3, [], 0)]),
  (38, [(38, .aload_n 0, 1, [], 0), (39, .dup, 1, [], 0), (40, .getfield 177, 3, [12, 54, 0, 0, 1376, 0], 0), (43, .iconst 1, 1, [], 0), (44, .isub, 1, [], 0), (45, .putfield 177, 3, [12, 54, 0, 0, 0, 1376], 0)]),
  (48, [(48, .aload_n 0, 1, [], 0), (49, .aload_n 0, 1, [], 0), (50, .getfield 86, 3, [12, 53, 980, 1, 1375, 0], 25), (53, .bipush 6, 2, [], 0), (55, .aload_n 0, 1, [], 0), (56, .getfield 177, 3, [12, 54, 0, 0, 1376, 0], 0), (59, .imul, 1, [], 0), (60, .invokevirtual 450, 3, [0, 0, 1, 142, 1723, 0, 980, 16], 0), (63, .aload_n 0, 1, [], 0), (64, .dup, 1, [], 0), (65, .getfield 177, 3, [12, 54, 0, 0, 1376, 0], 0), (68, .iconst 1, 1, [], 0), (69, .iadd, 1, [], 0), (70, .putfield 177, 3, [12, 54, 0, 0, 0, 1376], 0), (73, .return_, 1, [], 0)])]
def JX12_remembers_48 (n : Nat) (h : Hp) : Option (Hp) :=
(bndh (MX12_keepsIn (w32 (6 * (h 113 54))) h) fun h1 =>
(ltt (up h1 113 54 (w32 ((h1 113 54) + 1))) fun h2 =>
(some h2)))
def BX12_remembers_11 (n : Nat) : Nat → Int → Hp → Option (Hp)
  | 0, _, _ => none
  | f + 1, x1, h =>
    (if 114 ≤ x1 then
    (some (h))
    else
    (grd (0 ≤ (w32 (x1 + 6)) ∧ (w32 (x1 + 6)) < alen 980)
    (grd (0 ≤ x1 ∧ x1 < alen 980)
    (ltt (up h 138 x1 (h 138 (w32 (x1 + 6)))) fun h1 =>
    (ltt (w32 (x1 + 1)) fun y1 =>
    (BX12_remembers_11 n f y1 h1))))))
def JX12_remembers_38 (n : Nat) (h : Hp) : Option (Hp) :=
(ltt (up h 113 54 (w32 ((h 113 54) - 1))) fun h1 =>
(JX12_remembers_48 n h1))
def LX12_remembers_11 (n : Nat) (x1 : Int) (h : Hp) : Option (Hp) :=
(bndx (BX12_remembers_11 n n x1 h) fun h1 =>
(JX12_remembers_38 n h1))
def MX12_remembers (n : Nat) (h : Hp) : Option (Hp) :=
(if (h 113 54) ≠ 20 then
(JX12_remembers_48 n h)
else
(ltt 0 fun y1 =>
(LX12_remembers_11 n y1 h)))
def wX12_remembers {ρ : Type} (n : Nat) : FN ρ := fun a h k => match a with
  | [_] => bndh (MX12_remembers n h) (fun h2 => k 0 h2)
  | _ => none
def fsX12_remembers (n : Nat) (ρ : Type) : List (FN ρ) := [wX12_keepsIn]
def KJX12_remembers_48 (_ : Nat) : CT (Hp) := []
set_option maxRecDepth 100000 in
theorem eJX12_remembers_48 (n : Nat) (h : Hp) : JX12_remembers_48 n h =
  goAt false (kct (KJX12_remembers_48 n)) (fun _ h => some (h)) (fsX12_remembers n _) sdX12_remembers 1000 48 [(0, 16, 113)] [] h := rfl
def KBX12_remembers_11 (_ : Nat) (bk : Int → Hp → Option (Hp)) : CT (Hp) := [(11, [(0, 16, (some 113)), (1, 0, none)], [], fun a c h => match a, c with
    | [x1], [] => bk x1 h
    | _, _ => none),
  (38, [(0, 16, (some 113))], [], fun a c h => match a, c with
    | [], [] => some (h)
    | _, _ => none)]
set_option maxRecDepth 100000 in
theorem eBX12_remembers_11 (n f : Nat) (x1 : Int) (h : Hp) : BX12_remembers_11 n (f + 1) x1 h =
  goAt false (kct (KBX12_remembers_11 n (BX12_remembers_11 n f))) (fun _ _ => none) (fsX12_remembers n _) sdX12_remembers 1000 11 [(0, 16, 113), (1, 0, x1)] [] h := rfl
def KJX12_remembers_38 (n : Nat) : CT (Hp) := [(48, [(0, 16, (some 113))], [], fun a c h => match a, c with
    | [], [] => JX12_remembers_48 n h
    | _, _ => none)]
set_option maxRecDepth 100000 in
theorem eJX12_remembers_38 (n : Nat) (h : Hp) : JX12_remembers_38 n h =
  goAt false (kct (KJX12_remembers_38 n)) (fun _ h => some (h)) (fsX12_remembers n _) sdX12_remembers 1000 38 [(0, 16, 113)] [] h := rfl
def KMX12_remembers (n : Nat) : CT (Hp) := [(48, [(0, 16, (some 113))], [], fun a c h => match a, c with
    | [], [] => JX12_remembers_48 n h
    | _, _ => none),
  (11, [(0, 16, (some 113)), (1, 0, none)], [], fun a c h => match a, c with
    | [x1], [] => LX12_remembers_11 n x1 h
    | _, _ => none)]
set_option maxRecDepth 100000 in
theorem eMX12_remembers (n : Nat) (h : Hp) : MX12_remembers n h =
  goAt false (kct (KMX12_remembers n)) (fun _ h => some (h)) (fsX12_remembers n _) sdX12_remembers 1000 0 [(0, 16, 113)] [] h := rfl
theorem okX12_remembers : mokb (mi 143) = true := by decide +kernel
theorem rkX12_remembers : rkOK 0 (mi 143).1.2.2.2.2.2.2.1 (mi 143).1.2.2.2.1 := Or.inl ⟨rfl, rfl, rfl⟩
def calX12_remembers : List Nat := [142]
theorem foX12_remembers {l : Launch} {ρ : Type} (n : Nat) : fsOK l false mi calX12_remembers (fsX12_remembers n ρ) := ⟨sndX12_keepsIn, trivial⟩
theorem ok_sdX12_remembers : sdb (mi 143).1.2.1 (insOK mi (mi 143).1.1.cls (mi 143).1.2.2.1 (mi 143).1.2.2.2.2.1 (mi 143).1.2.2.2.2.2.1 calX12_remembers false 0) sdX12_remembers = true := by decide +kernel
def GX12_remembers_11 (l : Launch) (h0 : Hp) (h' : Hp) (v : Int) (_ : Hp) : (Hp) → Prop
  | h1 => PAt l false (mi 143).1 h0 v h' 38 [(0, 16, 113)] [] h1
theorem sJX12_remembers_48 {l : Launch} {h0 h' : Hp} {v : Int} (h8 : nOf h0 = 148) (n : Nat)  (h : Hp) {r : Hp} (H : JX12_remembers_48 n h = some r) (hG : gW h' r) : PAt l false (mi 143).1 h0 v h' 48 [(0, 16, 113)] [] h :=
  pat_w ok_sdX12_remembers rkX12_remembers h8 (foX12_remembers n) (fun v1 h1 q => by
    cases q
    exact ⟨hG, fun q9 => absurd rfl q9⟩) (fun q9 h9 => by cases h9) ((eJX12_remembers_48 n h).symm.trans H)
theorem sBX12_remembers_11 {l : Launch} {h0 h' : Hp} {v : Int} (h8 : nOf h0 = 148) (n : Nat) : ∀ (f : Nat) (x1 : Int) (h : Hp) {r : Hp}, BX12_remembers_11 n f x1 h = some r → GX12_remembers_11 l h0 h' v h r → PAt l false (mi 143).1 h0 v h' 11 [(0, 16, 113), (1, 0, x1)] [] h := by
  intro f
  induction f with
  | zero =>
    intro x1 h r H _
    have H2 : (none : Option (Hp)) = some r := H
    cases H2
  | succ f ih =>
    intro x1 h r H hG
    exact pat_w ok_sdX12_remembers rkX12_remembers h8 (foX12_remembers n) (fun v1 h1 q => by cases q) (List.forall_mem_cons.mpr ⟨(fun a c h H => by
      dsimp only at H
      split at H
      · exact ih _ _ H hG
      · cases H), (List.forall_mem_cons.mpr ⟨(fun a c h H => by
      dsimp only at H
      split at H
      · cases H
        exact hG
      · cases H), (fun q9 h9 => by cases h9)⟩)⟩) ((eBX12_remembers_11 n f x1 h).symm.trans H)
theorem sJX12_remembers_38 {l : Launch} {h0 h' : Hp} {v : Int} (h8 : nOf h0 = 148) (n : Nat)  (h : Hp) {r : Hp} (H : JX12_remembers_38 n h = some r) (hG : gW h' r) : PAt l false (mi 143).1 h0 v h' 38 [(0, 16, 113)] [] h :=
  pat_w ok_sdX12_remembers rkX12_remembers h8 (foX12_remembers n) (fun v1 h1 q => by
    cases q
    exact ⟨hG, fun q9 => absurd rfl q9⟩) (List.forall_mem_cons.mpr ⟨(fun a c h H => by
      dsimp only at H
      split at H
      · exact sJX12_remembers_48 h8 n _ H hG
      · cases H), (fun q9 h9 => by cases h9)⟩) ((eJX12_remembers_38 n h).symm.trans H)
theorem sLX12_remembers_11 {l : Launch} {h0 h' : Hp} {v : Int} (h8 : nOf h0 = 148) (n : Nat) (x1 : Int) (h : Hp) {r : Hp} (H : LX12_remembers_11 n x1 h = some r) (hG : gW h' r) : PAt l false (mi 143).1 h0 v h' 11 [(0, 16, 113), (1, 0, x1)] [] h := by
  obtain ⟨h1, h2, h3⟩ := bndx_some H
  exact sBX12_remembers_11 h8 n n x1 h h2 (sJX12_remembers_38 h8 n h1 h3 hG)
theorem sMX12_remembers {l : Launch} {h0 h' : Hp} {v : Int} (h8 : nOf h0 = 148) (n : Nat)  (h : Hp) {r : Hp} (H : MX12_remembers n h = some r) (hG : gW h' r) : PAt l false (mi 143).1 h0 v h' 0 [(0, 16, 113)] [] h :=
  pat_w ok_sdX12_remembers rkX12_remembers h8 (foX12_remembers n) (fun v1 h1 q => by
    cases q
    exact ⟨hG, fun q9 => absurd rfl q9⟩) (List.forall_mem_cons.mpr ⟨(fun a c h H => by
      dsimp only at H
      split at H
      · exact sJX12_remembers_48 h8 n _ H hG
      · cases H), (List.forall_mem_cons.mpr ⟨(fun a c h H => by
      dsimp only at H
      split at H
      · exact sLX12_remembers_11 h8 n _ _ H hG
      · cases H), (fun q9 h9 => by cases h9)⟩)⟩) ((eMX12_remembers n h).symm.trans H)
theorem sndX12_remembers {ρ : Type} {l : Launch} (n : Nat) : SndF (ρ := ρ) l false (mi 143).1 (wX12_remembers n) := by
    intro a h k r H ha ho hn hf
    have h8 := hf rfl
    obtain ⟨x0, rfl⟩ := len1 (show a.length = 1 from ha)
    have u0 := uq16 hn (ho (16, x0) (List.mem_cons_self))
    subst u0
    replace H : bndh (MX12_remembers n h) (fun h2 => k 0 h2) = some r := H
    obtain ⟨h2, H1, H2⟩ := bndh_some H
    exact ⟨0, h2, H2, met_mk (mok_base okX12_remembers).1 (by decide +kernel) (Nat.le_of_ble_eq_true rfl) ho (sMX12_remembers h8 n  h H1 rfl), fun q => by cases q⟩
/-! X12_isSteady -/
def sdX12_isSteady : SD := [(0, [(0, .iload_n 0, 1, [], 0), (1, .ifCond .lt 22, 3, [], 0)]),
  (4, [(4, .iload_n 1, 1, [], 0), (5, .ifCond .ge 14, 3, [], 0)]),
  (8, [(8, .iconst 2, 1, [], 0), (9, .iload_n 0, 1, [], 0), (10, .imul, 1, [], 0), (11, .iload_n 1, 1, [], 0), (12, .iload_n 1, 1, [], 0), (13, .iconst 1, 1, [], 0), (14, .iadd, 1, [], 0), (15, .imul, 1, [], 0), (16, .if_icmp .lt 7, 3, [], 0)]),
  (19, [(19, .iconst 1, 1, [], 0), (20, .goto 4, 3, [], 0)]),
  (23, [(23, .iconst 0, 1, [], 0)]),
  (24, [(24, .ireturn, 1, [1], 0)])]
def MX12_isSteady (x0 x1 : Int) : Option (Int) :=
(if x0 < 0 then
(some 0)
else
(if 0 ≤ x1 then
(some 1)
else
(if (w32 (2 * x0)) < (w32 (x1 * (w32 (x1 + 1)))) then
(some 0)
else
(some 1))))
def wX12_isSteady {ρ : Type} : FN ρ := fun a h k => match a with
  | [x0, x1] => bndp (MX12_isSteady x0 x1) (fun r => k r h)
  | _ => none
def fsX12_isSteady (ρ : Type) : List (FN ρ) := []
def KMX12_isSteady  : CT (Int) := []
set_option maxRecDepth 100000 in
theorem eMX12_isSteady (x0 : Int) (x1 : Int) (h : Hp) : MX12_isSteady x0 x1 =
  goAt false (kct (KMX12_isSteady)) (fun v _ => some (v)) (fsX12_isSteady _) sdX12_isSteady 1000 0 [(0, 0, x0), (1, 0, x1)] [] h := rfl
theorem okX12_isSteady : mokb (mi 144) = true := by decide +kernel
theorem rkX12_isSteady : rkOK 4 (mi 144).1.2.2.2.2.2.2.1 (mi 144).1.2.2.2.1 := Or.inr (Or.inr (Or.inl ⟨rfl, rfl, rfl⟩))
def calX12_isSteady : List Nat := []
theorem foX12_isSteady {l : Launch} {ρ : Type} : fsOK l false mi calX12_isSteady (fsX12_isSteady ρ) := trivial
theorem frX12_isSteady {ρ : Type} : ∀ fn ∈ fsX12_isSteady ρ, RoF fn := (fun q9 h9 => by cases h9)
theorem ok_sdX12_isSteady : sdb (mi 144).1.2.1 (insOK mi (mi 144).1.1.cls (mi 144).1.2.2.1 (mi 144).1.2.2.2.2.1 (mi 144).1.2.2.2.2.2.1 calX12_isSteady false 4) sdX12_isSteady = true := by decide +kernel
theorem sMX12_isSteady {l : Launch} {h0 : Hp} {v : Int} (h8 : nOf h0 = 148)  (x0 : Int) (x1 : Int) (h : Hp) {r : Int} (H : MX12_isSteady x0 x1 = some r) (hG : gV v r) : PAt l false (mi 144).1 h0 v h 0 [(0, 0, x0), (1, 0, x1)] [] h :=
  pat_ro ok_sdX12_isSteady rfl rkX12_isSteady h8 (foX12_isSteady) (frX12_isSteady) (fun v1 q => by
    cases q
    exact ⟨rfl, fun _ => hG⟩) (fun q9 h9 => by cases h9) ((eMX12_isSteady x0 x1 h).symm.trans H)
theorem sndX12_isSteady {ρ : Type} {l : Launch} : SndF (ρ := ρ) l false (mi 144).1 (wX12_isSteady) := by
    intro a h k r H ha ho hn hf
    have h8 := hf rfl
    obtain ⟨x0, x1, rfl⟩ := len2 (show a.length = 2 from ha)
    replace H : bndp (MX12_isSteady x0 x1) (fun r => k r h) = some r := H
    obtain ⟨v2, H1, H2⟩ := bndp_some H
    exact ⟨v2, h, H2, met_mk (mok_base okX12_isSteady).1 (by decide +kernel) (Nat.le_of_ble_eq_true rfl) ho (sMX12_isSteady h8 x0 x1 h H1 rfl), fun q => by cases q⟩
theorem roX12_isSteady {ρ : Type} : RoF (wX12_isSteady : FN ρ) := fun a h k k2 hk => by
  unfold wX12_isSteady
  split
  · exact bndp_ro hk
  · rfl
/-! X12_brakeOf -/
def sdX12_brakeOf : SD := [(0, [(0, .iconst (-1), 1, [], 0), (1, .istore_n 3, 1, [], 0)]),
  (2, [(2, .iload_n 3, 1, [], 0), (3, .iconst 1, 1, [], 0), (4, .if_icmp .ge 36, 3, [], 0)]),
  (7, [(7, .iload_n 2, 1, [], 0), (8, .iload_n 3, 1, [], 0), (9, .iadd, 1, [], 0), (10, .aload_n 0, 1, [], 0), (11, .getfield 369, 3, [12, 41, 0, 0, 1363, 0], 0), (14, .ineg, 1, [], 0), (15, .if_icmp .lt 19, 3, [], 0)]),
  (18, [(18, .iload_n 1, 1, [], 0), (19, .iload_n 2, 1, [], 0), (20, .iadd, 1, [], 0), (21, .iload_n 3, 1, [], 0), (22, .iadd, 1, [], 0), (23, .iload_n 2, 1, [], 0), (24, .iload_n 3, 1, [], 0), (25, .iadd, 1, [], 0), (26, .invokestatic 389, 3, [1, 0, 3, 144, 1742, 0, 0], 0), (29, .ifCond .eq 5, 3, [], 0)]),
  (32, [(32, .iload_n 3, 1, [], 0), (33, .ireturn, 1, [], 0)]),
  (34, [(34, .iinc 3 1, 3, [], 0), (37, .goto (-35), 3, [], 0)]),
  (40, [(40, .iconst 1, 1, [], 0), (41, .ireturn, 1, [], 0)])]
def BX12_brakeOf_2 (n : Nat) : Nat → Int → Int → Int → Hp → Option (Int)
  | 0, _, _, _, _ => none
  | f + 1, x1, x2, x3, h =>
    (if 1 ≤ x3 then
    (some 1)
    else
    (if (w32 (x2 + x3)) < (w32 (-(h 113 41))) then
    (ltt (w32 (x3 + 1)) fun y1 =>
    (BX12_brakeOf_2 n f x1 x2 y1 h))
    else
    (bndp (MX12_isSteady (w32 ((w32 (x1 + x2)) + x3)) (w32 (x2 + x3))) fun r1 =>
    (if r1 = 0 then
    (ltt (w32 (x3 + 1)) fun y2 =>
    (BX12_brakeOf_2 n f x1 x2 y2 h))
    else
    (some x3)))))
def LX12_brakeOf_2 (n : Nat) (x1 x2 x3 : Int) (h : Hp) : Option (Int) :=
(BX12_brakeOf_2 n n x1 x2 x3 h)
def MX12_brakeOf (n : Nat) (x1 x2 : Int) (h : Hp) : Option (Int) :=
(ltt (-1) fun y1 =>
(LX12_brakeOf_2 n x1 x2 y1 h))
def wX12_brakeOf {ρ : Type} (n : Nat) : FN ρ := fun a h k => match a with
  | [_, x1, x2] => bndp (MX12_brakeOf n x1 x2 h) (fun r => k r h)
  | _ => none
def fsX12_brakeOf (n : Nat) (ρ : Type) : List (FN ρ) := [wX12_isSteady]
def KBX12_brakeOf_2 (_ : Nat) (bk : Int → Int → Int → Hp → Option (Int)) : CT (Int) := [(2, [(0, 16, (some 113)), (1, 0, none), (2, 0, none), (3, 0, none)], [], fun a c h => match a, c with
    | [x1, x2, x3], [] => bk x1 x2 x3 h
    | _, _ => none)]
set_option maxRecDepth 100000 in
theorem eBX12_brakeOf_2 (n f : Nat) (x1 : Int) (x2 : Int) (x3 : Int) (h : Hp) : BX12_brakeOf_2 n (f + 1) x1 x2 x3 h =
  goAt false (kct (KBX12_brakeOf_2 n (BX12_brakeOf_2 n f))) (fun v _ => some (v)) (fsX12_brakeOf n _) sdX12_brakeOf 1000 2 [(0, 16, 113), (1, 0, x1), (2, 0, x2), (3, 0, x3)] [] h := rfl
def KMX12_brakeOf (n : Nat) : CT (Int) := [(2, [(0, 16, (some 113)), (1, 0, none), (2, 0, none), (3, 0, none)], [], fun a c h => match a, c with
    | [x1, x2, x3], [] => LX12_brakeOf_2 n x1 x2 x3 h
    | _, _ => none)]
set_option maxRecDepth 100000 in
theorem eMX12_brakeOf (n : Nat) (x1 : Int) (x2 : Int) (h : Hp) : MX12_brakeOf n x1 x2 h =
  goAt false (kct (KMX12_brakeOf n)) (fun v _ => some (v)) (fsX12_brakeOf n _) sdX12_brakeOf 1000 0 [(0, 16, 113), (1, 0, x1), (2, 0, x2)] [] h := rfl
theorem okX12_brakeOf : mokb (mi 145) = true := by decide +kernel
theorem rkX12_brakeOf : rkOK 1 (mi 145).1.2.2.2.2.2.2.1 (mi 145).1.2.2.2.1 := Or.inr (Or.inl ⟨rfl, rfl, rfl⟩)
def calX12_brakeOf : List Nat := [144]
theorem foX12_brakeOf {l : Launch} {ρ : Type} (n : Nat) : fsOK l false mi calX12_brakeOf (fsX12_brakeOf n ρ) := ⟨sndX12_isSteady, trivial⟩
theorem frX12_brakeOf {ρ : Type} (n : Nat) : ∀ fn ∈ fsX12_brakeOf n ρ, RoF fn := (List.forall_mem_cons.mpr ⟨roX12_isSteady, (fun q9 h9 => by cases h9)⟩)
theorem ok_sdX12_brakeOf : sdb (mi 145).1.2.1 (insOK mi (mi 145).1.1.cls (mi 145).1.2.2.1 (mi 145).1.2.2.2.2.1 (mi 145).1.2.2.2.2.2.1 calX12_brakeOf false 1) sdX12_brakeOf = true := by decide +kernel
theorem sBX12_brakeOf_2 {l : Launch} {h0 : Hp} {v : Int} (h8 : nOf h0 = 148) (n : Nat) (h : Hp) : ∀ (f : Nat) (x1 : Int) (x2 : Int) (x3 : Int) {r : Int}, BX12_brakeOf_2 n f x1 x2 x3 h = some r → gV v r → PAt l false (mi 145).1 h0 v h 2 [(0, 16, 113), (1, 0, x1), (2, 0, x2), (3, 0, x3)] [] h := by
  intro f
  induction f with
  | zero =>
    intro x1 x2 x3 r H _
    have H2 : (none : Option (Int)) = some r := H
    cases H2
  | succ f ih =>
    intro x1 x2 x3 r H hG
    exact pat_ro ok_sdX12_brakeOf rfl rkX12_brakeOf h8 (foX12_brakeOf n) (frX12_brakeOf n) (fun v1 q => by
    cases q
    exact ⟨rfl, fun _ => hG⟩) (List.forall_mem_cons.mpr ⟨(fun a c H => by
      dsimp only at H
      split at H
      · exact ih _ _ _ H hG
      · cases H), (fun q9 h9 => by cases h9)⟩) ((eBX12_brakeOf_2 n f x1 x2 x3 h).symm.trans H)
theorem sLX12_brakeOf_2 {l : Launch} {h0 : Hp} {v : Int} (h8 : nOf h0 = 148) (n : Nat) (x1 : Int) (x2 : Int) (x3 : Int) (h : Hp) {r : Int} (H : LX12_brakeOf_2 n x1 x2 x3 h = some r) (hG : gV v r) : PAt l false (mi 145).1 h0 v h 2 [(0, 16, 113), (1, 0, x1), (2, 0, x2), (3, 0, x3)] [] h :=
  sBX12_brakeOf_2 h8 n h n x1 x2 x3 H hG
theorem sMX12_brakeOf {l : Launch} {h0 : Hp} {v : Int} (h8 : nOf h0 = 148) (n : Nat) (x1 : Int) (x2 : Int) (h : Hp) {r : Int} (H : MX12_brakeOf n x1 x2 h = some r) (hG : gV v r) : PAt l false (mi 145).1 h0 v h 0 [(0, 16, 113), (1, 0, x1), (2, 0, x2)] [] h :=
  pat_ro ok_sdX12_brakeOf rfl rkX12_brakeOf h8 (foX12_brakeOf n) (frX12_brakeOf n) (fun v1 q => by
    cases q
    exact ⟨rfl, fun _ => hG⟩) (List.forall_mem_cons.mpr ⟨(fun a c H => by
      dsimp only at H
      split at H
      · exact sLX12_brakeOf_2 h8 n _ _ _ _ H hG
      · cases H), (fun q9 h9 => by cases h9)⟩) ((eMX12_brakeOf n x1 x2 h).symm.trans H)
theorem sndX12_brakeOf {ρ : Type} {l : Launch} (n : Nat) : SndF (ρ := ρ) l false (mi 145).1 (wX12_brakeOf n) := by
    intro a h k r H ha ho hn hf
    have h8 := hf rfl
    obtain ⟨x0, x1, x2, rfl⟩ := len3 (show a.length = 3 from ha)
    have u0 := uq16 hn (ho (16, x0) (List.mem_cons_self))
    subst u0
    replace H : bndp (MX12_brakeOf n x1 x2 h) (fun r => k r h) = some r := H
    obtain ⟨v2, H1, H2⟩ := bndp_some H
    exact ⟨v2, h, H2, met_mk (mok_base okX12_brakeOf).1 (by decide +kernel) (Nat.le_of_ble_eq_true rfl) ho (sMX12_brakeOf h8 n x1 x2 h H1 rfl), fun q => by cases q⟩
theorem roX12_brakeOf {ρ : Type} (n : Nat) : RoF (wX12_brakeOf n : FN ρ) := fun a h k k2 hk => by
  unfold wX12_brakeOf
  split
  · exact bndp_ro hk
  · rfl
/-! X12_goesBy -/
def sdX12_goesBy : SD := [(0, [(0, .aload_n 0, 1, [], 0), (1, .iload_n 1, 1, [], 0), (2, .putfield 421, 3, [12, 51, 0, 0, 0, 1373], 0), (5, .aload_n 0, 1, [], 0), (6, .dup, 1, [], 0), (7, .getfield 412, 3, [12, 50, 0, 0, 1372, 0], 0), (10, .iload_n 1, 1, [], 0), (11, .iadd, 1, [], 0), (12, .putfield 412, 3, [12, 50, 0, 0, 0, 1372], 0), (15, .aload_n 0, 1, [], 0), (16, .dup, 1, [], 0), (17, .getfield 409, 3, [12, 49, 0, 0, 1371, 0], 0), (20, .aload_n 0, 1, [], 0), (21, .getfield 412, 3, [12, 50, 0, 0, 1372, 0], 0), (24, .iadd, 1, [], 0), (25, .putfield 409, 3, [12, 49, 0, 0, 0, 1371], 0), (28, .aload_n 0, 1, [], 0), (29, .dup, 1, [], 0), (30, .getfield 406, 3, [12, 48, 0, 0, 1370, 0], 0), (33, .aload_n 0, 1, [], 0), (34, .getfield 409, 3, [12, 49, 0, 0, 1371, 0], 0), (37, .aload_n 0, 1, [], 0), (38, .getfield 366, 3, [12, 40, 0, 0, 1362, 0], 0), (41, .imul, 1, [], 0), (42, .iadd, 1, [], 0), (43, .putfield 406, 3, [12, 48, 0, 0, 0, 1370], 0), (46, .return_, 1, [], 0)])]
def MX12_goesBy (x1 : Int) (h : Hp) : Option (Hp) :=
(ltt (up h 113 51 x1) fun h1 =>
(ltt (up h1 113 50 (w32 ((h1 113 50) + x1))) fun h2 =>
(ltt (up h2 113 49 (w32 ((h2 113 49) + (h2 113 50)))) fun h3 =>
(ltt (up h3 113 48 (w32 ((h3 113 48) + (w32 ((h3 113 49) * (h3 113 40)))))) fun h4 =>
(some h4)))))
def wX12_goesBy {ρ : Type} : FN ρ := fun a h k => match a with
  | [_, x1] => bndh (MX12_goesBy x1 h) (fun h2 => k 0 h2)
  | _ => none
def fsX12_goesBy (ρ : Type) : List (FN ρ) := []
def KMX12_goesBy  : CT (Hp) := []
set_option maxRecDepth 100000 in
theorem eMX12_goesBy (x1 : Int) (h : Hp) : MX12_goesBy x1 h =
  goAt false (kct (KMX12_goesBy)) (fun _ h => some (h)) (fsX12_goesBy _) sdX12_goesBy 1000 0 [(0, 16, 113), (1, 0, x1)] [] h := rfl
theorem okX12_goesBy : mokb (mi 146) = true := by decide +kernel
theorem rkX12_goesBy : rkOK 0 (mi 146).1.2.2.2.2.2.2.1 (mi 146).1.2.2.2.1 := Or.inl ⟨rfl, rfl, rfl⟩
def calX12_goesBy : List Nat := []
theorem foX12_goesBy {l : Launch} {ρ : Type} : fsOK l false mi calX12_goesBy (fsX12_goesBy ρ) := trivial
theorem ok_sdX12_goesBy : sdb (mi 146).1.2.1 (insOK mi (mi 146).1.1.cls (mi 146).1.2.2.1 (mi 146).1.2.2.2.2.1 (mi 146).1.2.2.2.2.2.1 calX12_goesBy false 0) sdX12_goesBy = true := by decide +kernel
theorem sMX12_goesBy {l : Launch} {h0 h' : Hp} {v : Int} (h8 : nOf h0 = 148)  (x1 : Int) (h : Hp) {r : Hp} (H : MX12_goesBy x1 h = some r) (hG : gW h' r) : PAt l false (mi 146).1 h0 v h' 0 [(0, 16, 113), (1, 0, x1)] [] h :=
  pat_w ok_sdX12_goesBy rkX12_goesBy h8 (foX12_goesBy) (fun v1 h1 q => by
    cases q
    exact ⟨hG, fun q9 => absurd rfl q9⟩) (fun q9 h9 => by cases h9) ((eMX12_goesBy x1 h).symm.trans H)
theorem sndX12_goesBy {ρ : Type} {l : Launch} : SndF (ρ := ρ) l false (mi 146).1 (wX12_goesBy) := by
    intro a h k r H ha ho hn hf
    have h8 := hf rfl
    obtain ⟨x0, x1, rfl⟩ := len2 (show a.length = 2 from ha)
    have u0 := uq16 hn (ho (16, x0) (List.mem_cons_self))
    subst u0
    replace H : bndh (MX12_goesBy x1 h) (fun h2 => k 0 h2) = some r := H
    obtain ⟨h2, H1, H2⟩ := bndh_some H
    exact ⟨0, h2, H2, met_mk (mok_base okX12_goesBy).1 (by decide +kernel) (Nat.le_of_ble_eq_true rfl) ho (sMX12_goesBy h8 x1 h H1 rfl), fun q => by cases q⟩
/-! X12_slows -/
def sdX12_slows : SD := [(0, [(0, .aload_n 0, 1, [], 0), (1, .aload_n 0, 1, [], 0), (2, .aload_n 0, 1, [], 0), (3, .getfield 409, 3, [12, 49, 0, 0, 1371, 0], 0), (6, .aload_n 0, 1, [], 0), (7, .getfield 412, 3, [12, 50, 0, 0, 1372, 0], 0), (10, .invokevirtual 399, 3, [1, 0, 1, 145, 1738, 0, 0, 16], 0), (13, .invokevirtual 427, 3, [0, 1, 1, 146, 1745, 0, 16], 0), (16, .return_, 1, [], 0)])]
def MX12_slows (n : Nat) (h : Hp) : Option (Hp) :=
(bndp (MX12_brakeOf n (h 113 49) (h 113 50) h) fun r1 =>
(bndh (MX12_goesBy r1 h) fun h1 =>
(some h1)))
def wX12_slows {ρ : Type} (n : Nat) : FN ρ := fun a h k => match a with
  | [_] => bndh (MX12_slows n h) (fun h2 => k 0 h2)
  | _ => none
def fsX12_slows (n : Nat) (ρ : Type) : List (FN ρ) := [wX12_brakeOf n, wX12_goesBy]
def KMX12_slows (_ : Nat) : CT (Hp) := []
set_option maxRecDepth 100000 in
theorem eMX12_slows (n : Nat) (h : Hp) : MX12_slows n h =
  goAt false (kct (KMX12_slows n)) (fun _ h => some (h)) (fsX12_slows n _) sdX12_slows 1000 0 [(0, 16, 113)] [] h := rfl
theorem okX12_slows : mokb (mi 147) = true := by decide +kernel
theorem rkX12_slows : rkOK 0 (mi 147).1.2.2.2.2.2.2.1 (mi 147).1.2.2.2.1 := Or.inl ⟨rfl, rfl, rfl⟩
def calX12_slows : List Nat := [145, 146]
theorem foX12_slows {l : Launch} {ρ : Type} (n : Nat) : fsOK l false mi calX12_slows (fsX12_slows n ρ) := ⟨(sndX12_brakeOf n), ⟨sndX12_goesBy, trivial⟩⟩
theorem ok_sdX12_slows : sdb (mi 147).1.2.1 (insOK mi (mi 147).1.1.cls (mi 147).1.2.2.1 (mi 147).1.2.2.2.2.1 (mi 147).1.2.2.2.2.2.1 calX12_slows false 0) sdX12_slows = true := by decide +kernel
theorem sMX12_slows {l : Launch} {h0 h' : Hp} {v : Int} (h8 : nOf h0 = 148) (n : Nat)  (h : Hp) {r : Hp} (H : MX12_slows n h = some r) (hG : gW h' r) : PAt l false (mi 147).1 h0 v h' 0 [(0, 16, 113)] [] h :=
  pat_w ok_sdX12_slows rkX12_slows h8 (foX12_slows n) (fun v1 h1 q => by
    cases q
    exact ⟨hG, fun q9 => absurd rfl q9⟩) (fun q9 h9 => by cases h9) ((eMX12_slows n h).symm.trans H)
theorem sndX12_slows {ρ : Type} {l : Launch} (n : Nat) : SndF (ρ := ρ) l false (mi 147).1 (wX12_slows n) := by
    intro a h k r H ha ho hn hf
    have h8 := hf rfl
    obtain ⟨x0, rfl⟩ := len1 (show a.length = 1 from ha)
    have u0 := uq16 hn (ho (16, x0) (List.mem_cons_self))
    subst u0
    replace H : bndh (MX12_slows n h) (fun h2 => k 0 h2) = some r := H
    obtain ⟨h2, H1, H2⟩ := bndh_some H
    exact ⟨0, h2, H2, met_mk (mok_base okX12_slows).1 (by decide +kernel) (Nat.le_of_ble_eq_true rfl) ho (sMX12_slows h8 n  h H1 rfl), fun q => by cases q⟩
/-! X12_blockAt -/
def sdX12_blockAt : SD := [(0, [(0, .iconst 0, 1, [], 0), (1, .istore_n 2, 1, [], 0)]),
  (2, [(2, .iload_n 2, 1, [], 0), (3, .aload_n 0, 1, [], 0), (4, .getfield 140, 3, [12, 6, 0, 0, 1328, 0], 0), (7, .if_icmp .ge 23, 3, [], 0)]),
  (10, [(10, .aload_n 0, 1, [], 0), (11, .getfield 49, 3, [12, 18, 540, 1, 1340, 0], 13), (14, .iload_n 2, 1, [], 0), (15, .iconst 1, 1, [], 0), (16, .iadd, 1, [], 0), (17, .iaload, 1, [], 0), (18, .iload_n 1, 1, [], 0), (19, .if_icmp .le 5, 3, [], 0)]),
  (22, [(22, .iload_n 2, 1, [], 0), (23, .ireturn, 1, [], 0)]),
  (24, [(24, .iinc 2 1, 3, [], 0), (27, .goto (-25), 3, [], 0)]),
  (30, [(30, .aload_n 0, 1, [], 0), (31, .getfield 140, 3, [12, 6, 0, 0, 1328, 0], 0), (34, .iconst 1, 1, [], 0), (35, .isub, 1, [], 0), (36, .ireturn, 1, [], 0)])]
def BX12_blockAt_2 (n : Nat) : Nat → Int → Int → Hp → Option (Int)
  | 0, _, _, _ => none
  | f + 1, x1, x2, h =>
    (if (h 113 6) ≤ x2 then
    (some (w32 ((h 113 6) - 1)))
    else
    (grd (0 ≤ (w32 (x2 + 1)) ∧ (w32 (x2 + 1)) < alen 540)
    (if (h 126 (w32 (x2 + 1))) ≤ x1 then
    (ltt (w32 (x2 + 1)) fun y1 =>
    (BX12_blockAt_2 n f x1 y1 h))
    else
    (some x2))))
def LX12_blockAt_2 (n : Nat) (x1 x2 : Int) (h : Hp) : Option (Int) :=
(BX12_blockAt_2 n n x1 x2 h)
def MX12_blockAt (n : Nat) (x1 : Int) (h : Hp) : Option (Int) :=
(ltt 0 fun y1 =>
(LX12_blockAt_2 n x1 y1 h))
def wX12_blockAt {ρ : Type} (n : Nat) : FN ρ := fun a h k => match a with
  | [_, x1] => bndp (MX12_blockAt n x1 h) (fun r => k r h)
  | _ => none
def fsX12_blockAt (n : Nat) (ρ : Type) : List (FN ρ) := []
def KBX12_blockAt_2 (_ : Nat) (bk : Int → Int → Hp → Option (Int)) : CT (Int) := [(2, [(0, 16, (some 113)), (1, 0, none), (2, 0, none)], [], fun a c h => match a, c with
    | [x1, x2], [] => bk x1 x2 h
    | _, _ => none)]
set_option maxRecDepth 100000 in
theorem eBX12_blockAt_2 (n f : Nat) (x1 : Int) (x2 : Int) (h : Hp) : BX12_blockAt_2 n (f + 1) x1 x2 h =
  goAt false (kct (KBX12_blockAt_2 n (BX12_blockAt_2 n f))) (fun v _ => some (v)) (fsX12_blockAt n _) sdX12_blockAt 1000 2 [(0, 16, 113), (1, 0, x1), (2, 0, x2)] [] h := rfl
def KMX12_blockAt (n : Nat) : CT (Int) := [(2, [(0, 16, (some 113)), (1, 0, none), (2, 0, none)], [], fun a c h => match a, c with
    | [x1, x2], [] => LX12_blockAt_2 n x1 x2 h
    | _, _ => none)]
set_option maxRecDepth 100000 in
theorem eMX12_blockAt (n : Nat) (x1 : Int) (h : Hp) : MX12_blockAt n x1 h =
  goAt false (kct (KMX12_blockAt n)) (fun v _ => some (v)) (fsX12_blockAt n _) sdX12_blockAt 1000 0 [(0, 16, 113), (1, 0, x1)] [] h := rfl
theorem okX12_blockAt : mokb (mi 148) = true := by decide +kernel
theorem rkX12_blockAt : rkOK 1 (mi 148).1.2.2.2.2.2.2.1 (mi 148).1.2.2.2.1 := Or.inr (Or.inl ⟨rfl, rfl, rfl⟩)
def calX12_blockAt : List Nat := []
theorem foX12_blockAt {l : Launch} {ρ : Type} (n : Nat) : fsOK l false mi calX12_blockAt (fsX12_blockAt n ρ) := trivial
theorem frX12_blockAt {ρ : Type} (n : Nat) : ∀ fn ∈ fsX12_blockAt n ρ, RoF fn := (fun q9 h9 => by cases h9)
theorem ok_sdX12_blockAt : sdb (mi 148).1.2.1 (insOK mi (mi 148).1.1.cls (mi 148).1.2.2.1 (mi 148).1.2.2.2.2.1 (mi 148).1.2.2.2.2.2.1 calX12_blockAt false 1) sdX12_blockAt = true := by decide +kernel
theorem sBX12_blockAt_2 {l : Launch} {h0 : Hp} {v : Int} (h8 : nOf h0 = 148) (n : Nat) (h : Hp) : ∀ (f : Nat) (x1 : Int) (x2 : Int) {r : Int}, BX12_blockAt_2 n f x1 x2 h = some r → gV v r → PAt l false (mi 148).1 h0 v h 2 [(0, 16, 113), (1, 0, x1), (2, 0, x2)] [] h := by
  intro f
  induction f with
  | zero =>
    intro x1 x2 r H _
    have H2 : (none : Option (Int)) = some r := H
    cases H2
  | succ f ih =>
    intro x1 x2 r H hG
    exact pat_ro ok_sdX12_blockAt rfl rkX12_blockAt h8 (foX12_blockAt n) (frX12_blockAt n) (fun v1 q => by
    cases q
    exact ⟨rfl, fun _ => hG⟩) (List.forall_mem_cons.mpr ⟨(fun a c H => by
      dsimp only at H
      split at H
      · exact ih _ _ H hG
      · cases H), (fun q9 h9 => by cases h9)⟩) ((eBX12_blockAt_2 n f x1 x2 h).symm.trans H)
theorem sLX12_blockAt_2 {l : Launch} {h0 : Hp} {v : Int} (h8 : nOf h0 = 148) (n : Nat) (x1 : Int) (x2 : Int) (h : Hp) {r : Int} (H : LX12_blockAt_2 n x1 x2 h = some r) (hG : gV v r) : PAt l false (mi 148).1 h0 v h 2 [(0, 16, 113), (1, 0, x1), (2, 0, x2)] [] h :=
  sBX12_blockAt_2 h8 n h n x1 x2 H hG
theorem sMX12_blockAt {l : Launch} {h0 : Hp} {v : Int} (h8 : nOf h0 = 148) (n : Nat) (x1 : Int) (h : Hp) {r : Int} (H : MX12_blockAt n x1 h = some r) (hG : gV v r) : PAt l false (mi 148).1 h0 v h 0 [(0, 16, 113), (1, 0, x1)] [] h :=
  pat_ro ok_sdX12_blockAt rfl rkX12_blockAt h8 (foX12_blockAt n) (frX12_blockAt n) (fun v1 q => by
    cases q
    exact ⟨rfl, fun _ => hG⟩) (List.forall_mem_cons.mpr ⟨(fun a c H => by
      dsimp only at H
      split at H
      · exact sLX12_blockAt_2 h8 n _ _ _ H hG
      · cases H), (fun q9 h9 => by cases h9)⟩) ((eMX12_blockAt n x1 h).symm.trans H)
theorem sndX12_blockAt {ρ : Type} {l : Launch} (n : Nat) : SndF (ρ := ρ) l false (mi 148).1 (wX12_blockAt n) := by
    intro a h k r H ha ho hn hf
    have h8 := hf rfl
    obtain ⟨x0, x1, rfl⟩ := len2 (show a.length = 2 from ha)
    have u0 := uq16 hn (ho (16, x0) (List.mem_cons_self))
    subst u0
    replace H : bndp (MX12_blockAt n x1 h) (fun r => k r h) = some r := H
    obtain ⟨v2, H1, H2⟩ := bndp_some H
    exact ⟨v2, h, H2, met_mk (mok_base okX12_blockAt).1 (by decide +kernel) (Nat.le_of_ble_eq_true rfl) ho (sMX12_blockAt h8 n x1 h H1 rfl), fun q => by cases q⟩
theorem roX12_blockAt {ρ : Type} (n : Nat) : RoF (wX12_blockAt n : FN ρ) := fun a h k k2 hk => by
  unfold wX12_blockAt
  split
  · exact bndp_ro hk
  · rfl
/-! X12_may -/
def sdX12_may : SD := [(0, [(0, .iload_n 3, 1, [], 0), (1, .iload 4, 2, [], 0), (3, .iadd, 1, [], 0), (4, .istore 5, 2, [], 0), (6, .iload_n 2, 1, [], 0), (7, .iload 5, 2, [], 0), (9, .iadd, 1, [], 0), (10, .istore 6, 2, [], 0), (12, .iload_n 1, 1, [], 0), (13, .iload 6, 2, [], 0), (15, .aload_n 0, 1, [], 0), (16, .getfield 366, 3, [12, 40, 0, 0, 1362, 0], 0), (19, .imul, 1, [], 0), (20, .iadd, 1, [], 0), (21, .istore 7, 2, [], 0), (23, .iload 5, 2, [], 0), (25, .i2l, 1, [], 0), (26, .aload_n 0, 1, [], 0), (27, .getfield 369, 3, [12, 41, 0, 0, 1363, 0], 0), (30, .ineg, 1, [], 0), (31, .i2l, 1, [], 0), (32, .aload_n 0, 1, [], 0), (33, .getfield 369, 3, [12, 41, 0, 0, 1363, 0], 0), (36, .i2l, 1, [], 0), (37, .invokestatic 217, 3, [1, 0, 3, 81, 1561, 1, 1, 1], 0), (40, .ifCond .eq 22, 3, [], 0)]),
  (43, [(43, .iload 6, 2, [], 0), (45, .iload 5, 2, [], 0), (47, .invokestatic 389, 3, [1, 1, 3, 144, 1742, 0, 0], 0), (50, .ifCond .eq 12, 3, [], 0)]),
  (53, [(53, .iload 7, 2, [], 0), (55, .aload_n 0, 1, [], 0), (56, .invokevirtual 393, 3, [1, 2, 1, 139, 1715, 16], 0), (59, .if_icmp .le 5, 3, [], 0)]),
  (62, [(62, .iconst 0, 1, [], 0), (63, .ireturn, 1, [1], 0)]),
  (64, [(64, .aload_n 0, 1, [], 0), (65, .iload_n 1, 1, [], 0), (66, .invokevirtual 396, 3, [1, 3, 1, 148, 1757, 0, 16], 0), (69, .istore 8, 2, [], 0), (71, .aload_n 0, 1, [], 0), (72, .iload 7, 2, [], 0), (74, .invokevirtual 396, 3, [1, 3, 1, 148, 1757, 0, 16], 0), (77, .istore 9, 2, [], 0), (79, .iload 8, 2, [], 0), (81, .istore 10, 2, [], 0)]),
  (83, [(83, .iload 10, 2, [], 0), (85, .iload 9, 2, [], 0), (87, .if_icmp .gt 47, 3, [], 0)]),
  (90, [(90, .iload 10, 2, [], 0), (92, .ifCond .lt 36, 3, [], 0)]),
  (95, [(95, .iload 6, 2, [], 0), (97, .aload_n 0, 1, [], 0), (98, .getfield 74, 3, [12, 36, 532, 1, 1358, 0], 21), (101, .iload 10, 2, [], 0), (103, .iaload, 1, [], 0), (104, .if_icmp .gt 22, 3, [], 0)]),
  (107, [(107, .iload 10, 2, [], 0), (109, .iload 9, 2, [], 0), (111, .if_icmp .ge 17, 3, [], 0)]),
  (114, [(114, .iload 6, 2, [], 0), (116, .aload_n 0, 1, [], 0), (117, .getfield 83, 3, [12, 39, 532, 1, 1361, 0], 24), (120, .iload 10, 2, [], 0), (122, .iaload, 1, [], 0), (123, .if_icmp .le 5, 3, [], 0)]),
  (126, [(126, .iconst 0, 1, [], 0), (127, .ireturn, 1, [1], 0)]),
  (128, [(128, .iinc 10 1, 3, [], 0), (131, .goto (-48), 3, [], 0)]),
  (134, [(134, .iconst 1, 1, [], 0), (135, .ireturn, 1, [1], 0)])]
def BX12_may_83 (n : Nat) : Nat → Int → Int → Int → Hp → Option (Int)
  | 0, _, _, _, _ => none
  | f + 1, x6, x9, x10, h =>
    (if x9 < x10 then
    (some 1)
    else
    (if x10 < 0 then
    (ltt (w32 (x10 + 1)) fun y1 =>
    (BX12_may_83 n f x6 x9 y1 h))
    else
    (grd (0 ≤ x10 ∧ x10 < alen 532)
    (if (h 134 x10) < x6 then
    (some 0)
    else
    (if x9 ≤ x10 then
    (ltt (w32 (x10 + 1)) fun y2 =>
    (BX12_may_83 n f x6 x9 y2 h))
    else
    (grd (0 ≤ x10 ∧ x10 < alen 532)
    (if x6 ≤ (h 137 x10) then
    (ltt (w32 (x10 + 1)) fun y3 =>
    (BX12_may_83 n f x6 x9 y3 h))
    else
    (some 0))))))))
def LX12_may_83 (n : Nat) (x6 x9 x10 : Int) (h : Hp) : Option (Int) :=
(BX12_may_83 n n x6 x9 x10 h)
def MX12_may (n : Nat) (x1 x2 x3 x4 : Int) (h : Hp) : Option (Int) :=
(ltt (w32 (x3 + x4)) fun y1 =>
(ltt (w32 (x2 + y1)) fun y2 =>
(ltt (w32 (x1 + (w32 (y2 * (h 113 40))))) fun y3 =>
(bndp (MX12_in y1 (w32 (-(h 113 41))) (h 113 41)) fun r1 =>
(if r1 = 0 then
(some 0)
else
(bndp (MX12_isSteady y2 y1) fun r2 =>
(if r2 = 0 then
(some 0)
else
(bndp (MX12_all h) fun r3 =>
(if y3 ≤ r3 then
(bndp (MX12_blockAt n x1 h) fun r4 =>
(ltt r4 fun y4 =>
(bndp (MX12_blockAt n y3 h) fun r5 =>
(ltt r5 fun y5 =>
(ltt y4 fun y6 =>
(LX12_may_83 n y2 y5 y6 h))))))
else
(some 0))))))))))
def wX12_may {ρ : Type} (n : Nat) : FN ρ := fun a h k => match a with
  | [_, x1, x2, x3, x4] => bndp (MX12_may n x1 x2 x3 x4 h) (fun r => k r h)
  | _ => none
def fsX12_may (n : Nat) (ρ : Type) : List (FN ρ) := [wX12_in, wX12_isSteady, wX12_all, wX12_blockAt n]
def KBX12_may_83 (_ : Nat) (bk : Int → Int → Int → Hp → Option (Int)) : CT (Int) := [(83, [(0, 16, (some 113)), (6, 0, none), (9, 0, none), (10, 0, none)], [], fun a c h => match a, c with
    | [x6, x9, x10], [] => bk x6 x9 x10 h
    | _, _ => none)]
set_option maxRecDepth 100000 in
theorem eBX12_may_83 (n f : Nat) (x6 : Int) (x9 : Int) (x10 : Int) (h : Hp) : BX12_may_83 n (f + 1) x6 x9 x10 h =
  goAt false (kct (KBX12_may_83 n (BX12_may_83 n f))) (fun v _ => some (v)) (fsX12_may n _) sdX12_may 1000 83 [(0, 16, 113), (6, 0, x6), (9, 0, x9), (10, 0, x10)] [] h := rfl
def KMX12_may (n : Nat) : CT (Int) := [(83, [(0, 16, (some 113)), (6, 0, none), (9, 0, none), (10, 0, none)], [], fun a c h => match a, c with
    | [x6, x9, x10], [] => LX12_may_83 n x6 x9 x10 h
    | _, _ => none)]
set_option maxRecDepth 100000 in
theorem eMX12_may (n : Nat) (x1 : Int) (x2 : Int) (x3 : Int) (x4 : Int) (h : Hp) : MX12_may n x1 x2 x3 x4 h =
  goAt false (kct (KMX12_may n)) (fun v _ => some (v)) (fsX12_may n _) sdX12_may 1000 0 [(0, 16, 113), (1, 0, x1), (2, 0, x2), (3, 0, x3), (4, 0, x4)] [] h := rfl
theorem okX12_may : mokb (mi 149) = true := by decide +kernel
theorem rkX12_may : rkOK 4 (mi 149).1.2.2.2.2.2.2.1 (mi 149).1.2.2.2.1 := Or.inr (Or.inr (Or.inl ⟨rfl, rfl, rfl⟩))
def calX12_may : List Nat := [81, 144, 139, 148]
theorem foX12_may {l : Launch} {ρ : Type} (n : Nat) : fsOK l false mi calX12_may (fsX12_may n ρ) := ⟨sndX12_in, ⟨sndX12_isSteady, ⟨sndX12_all, ⟨(sndX12_blockAt n), trivial⟩⟩⟩⟩
theorem frX12_may {ρ : Type} (n : Nat) : ∀ fn ∈ fsX12_may n ρ, RoF fn := (List.forall_mem_cons.mpr ⟨roX12_in, (List.forall_mem_cons.mpr ⟨roX12_isSteady, (List.forall_mem_cons.mpr ⟨roX12_all, (List.forall_mem_cons.mpr ⟨(roX12_blockAt n), (fun q9 h9 => by cases h9)⟩)⟩)⟩)⟩)
theorem ok_sdX12_may : sdb (mi 149).1.2.1 (insOK mi (mi 149).1.1.cls (mi 149).1.2.2.1 (mi 149).1.2.2.2.2.1 (mi 149).1.2.2.2.2.2.1 calX12_may false 4) sdX12_may = true := by decide +kernel
theorem sBX12_may_83 {l : Launch} {h0 : Hp} {v : Int} (h8 : nOf h0 = 148) (n : Nat) (h : Hp) : ∀ (f : Nat) (x6 : Int) (x9 : Int) (x10 : Int) {r : Int}, BX12_may_83 n f x6 x9 x10 h = some r → gV v r → PAt l false (mi 149).1 h0 v h 83 [(0, 16, 113), (6, 0, x6), (9, 0, x9), (10, 0, x10)] [] h := by
  intro f
  induction f with
  | zero =>
    intro x6 x9 x10 r H _
    have H2 : (none : Option (Int)) = some r := H
    cases H2
  | succ f ih =>
    intro x6 x9 x10 r H hG
    exact pat_ro ok_sdX12_may rfl rkX12_may h8 (foX12_may n) (frX12_may n) (fun v1 q => by
    cases q
    exact ⟨rfl, fun _ => hG⟩) (List.forall_mem_cons.mpr ⟨(fun a c H => by
      dsimp only at H
      split at H
      · exact ih _ _ _ H hG
      · cases H), (fun q9 h9 => by cases h9)⟩) ((eBX12_may_83 n f x6 x9 x10 h).symm.trans H)
theorem sLX12_may_83 {l : Launch} {h0 : Hp} {v : Int} (h8 : nOf h0 = 148) (n : Nat) (x6 : Int) (x9 : Int) (x10 : Int) (h : Hp) {r : Int} (H : LX12_may_83 n x6 x9 x10 h = some r) (hG : gV v r) : PAt l false (mi 149).1 h0 v h 83 [(0, 16, 113), (6, 0, x6), (9, 0, x9), (10, 0, x10)] [] h :=
  sBX12_may_83 h8 n h n x6 x9 x10 H hG
theorem sMX12_may {l : Launch} {h0 : Hp} {v : Int} (h8 : nOf h0 = 148) (n : Nat) (x1 : Int) (x2 : Int) (x3 : Int) (x4 : Int) (h : Hp) {r : Int} (H : MX12_may n x1 x2 x3 x4 h = some r) (hG : gV v r) : PAt l false (mi 149).1 h0 v h 0 [(0, 16, 113), (1, 0, x1), (2, 0, x2), (3, 0, x3), (4, 0, x4)] [] h :=
  pat_ro ok_sdX12_may rfl rkX12_may h8 (foX12_may n) (frX12_may n) (fun v1 q => by
    cases q
    exact ⟨rfl, fun _ => hG⟩) (List.forall_mem_cons.mpr ⟨(fun a c H => by
      dsimp only at H
      split at H
      · exact sLX12_may_83 h8 n _ _ _ _ H hG
      · cases H), (fun q9 h9 => by cases h9)⟩) ((eMX12_may n x1 x2 x3 x4 h).symm.trans H)
theorem sndX12_may {ρ : Type} {l : Launch} (n : Nat) : SndF (ρ := ρ) l false (mi 149).1 (wX12_may n) := by
    intro a h k r H ha ho hn hf
    have h8 := hf rfl
    obtain ⟨x0, x1, x2, x3, x4, rfl⟩ := len5 (show a.length = 5 from ha)
    have u0 := uq16 hn (ho (16, x0) (List.mem_cons_self))
    subst u0
    replace H : bndp (MX12_may n x1 x2 x3 x4 h) (fun r => k r h) = some r := H
    obtain ⟨v2, H1, H2⟩ := bndp_some H
    exact ⟨v2, h, H2, met_mk (mok_base okX12_may).1 (by decide +kernel) (Nat.le_of_ble_eq_true rfl) ho (sMX12_may h8 n x1 x2 x3 x4 h H1 rfl), fun q => by cases q⟩
theorem roX12_may {ρ : Type} (n : Nat) : RoF (wX12_may n : FN ρ) := fun a h k k2 hk => by
  unfold wX12_may
  split
  · exact bndp_ro hk
  · rfl
/-! X12_isSafe -/
def sdX12_isSafe : SD := [(0, [(0, .iload_n 1, 1, [], 0), (1, .istore 4, 2, [], 0), (3, .iload_n 2, 1, [], 0), (4, .istore 5, 2, [], 0), (6, .iload_n 3, 1, [], 0), (7, .istore 6, 2, [], 0)]),
  (9, [(9, .iload 5, 2, [], 0), (11, .ifCond .ne 8, 3, [], 0)]),
  (14, [(14, .iload 6, 2, [], 0), (16, .ifCond .eq 59, 3, [], 0)]),
  (19, [(19, .aload_n 0, 1, [], 0), (20, .iload 5, 2, [], 0), (22, .iload 6, 2, [], 0), (24, .invokevirtual 399, 3, [1, 0, 1, 145, 1738, 0, 0, 16], 0), (27, .istore 7, 2, [], 0), (29, .aload_n 0, 1, [], 0), (30, .iload 4, 2, [], 0), (32, .iload 5, 2, [], 0), (34, .iload 6, 2, [], 0), (36, .iload 7, 2, [], 0), (38, .invokevirtual 402, 3, [1, 1, 1, 149, 1753, 0, 0, 0, 0, 16], 0), (41, .ifCond .ne 5, 3, [], 0)]),
  (44, [(44, .iconst 0, 1, [], 0), (45, .ireturn, 1, [1], 0)]),
  (46, [(46, .iload 6, 2, [], 0), (48, .iload 7, 2, [], 0), (50, .iadd, 1, [], 0), (51, .istore 6, 2, [], 0), (53, .iload 5, 2, [], 0), (55, .iload 6, 2, [], 0), (57, .iadd, 1, [], 0), (58, .istore 5, 2, [], 0), (60, .iload 4, 2, [], 0), (62, .iload 5, 2, [], 0), (64, .aload_n 0, 1, [], 0), (65, .getfield 366, 3, [12, 40, 0, 0, 1362, 0], 0), (68, .imul, 1, [], 0), (69, .iadd, 1, [], 0), (70, .istore 4, 2, [], 0), (72, .goto (-63), 3, [], 0)]),
  (75, [(75, .iconst 1, 1, [], 0), (76, .ireturn, 1, [1], 0)])]
def JX12_isSafe_19 (n : Nat) (bk : Int → Int → Int → Hp → Option (Int)) (x4 x5 x6 : Int) (h : Hp) : Option (Int) :=
(bndp (MX12_brakeOf n x5 x6 h) fun r1 =>
(ltt r1 fun y1 =>
(bndp (MX12_may n x4 x5 x6 y1 h) fun r2 =>
(if r2 ≠ 0 then
(ltt (w32 (x6 + y1)) fun y2 =>
(ltt (w32 (x5 + y2)) fun y3 =>
(ltt (w32 (x4 + (w32 (y3 * (h 113 40))))) fun y4 =>
(bk y4 y3 y2 h))))
else
(some 0)))))
def BX12_isSafe_9 (n : Nat) : Nat → Int → Int → Int → Hp → Option (Int)
  | 0, _, _, _, _ => none
  | f + 1, x4, x5, x6, h =>
    (if x5 ≠ 0 then
    (JX12_isSafe_19 n (BX12_isSafe_9 n f) x4 x5 x6 h)
    else
    (if x6 = 0 then
    (some 1)
    else
    (JX12_isSafe_19 n (BX12_isSafe_9 n f) x4 x5 x6 h)))
def LX12_isSafe_9 (n : Nat) (x4 x5 x6 : Int) (h : Hp) : Option (Int) :=
(BX12_isSafe_9 n n x4 x5 x6 h)
def MX12_isSafe (n : Nat) (x1 x2 x3 : Int) (h : Hp) : Option (Int) :=
(ltt x1 fun y1 =>
(ltt x2 fun y2 =>
(ltt x3 fun y3 =>
(LX12_isSafe_9 n y1 y2 y3 h))))
def wX12_isSafe {ρ : Type} (n : Nat) : FN ρ := fun a h k => match a with
  | [_, x1, x2, x3] => bndp (MX12_isSafe n x1 x2 x3 h) (fun r => k r h)
  | _ => none
def fsX12_isSafe (n : Nat) (ρ : Type) : List (FN ρ) := [wX12_brakeOf n, wX12_may n]
def KJX12_isSafe_19 (_ : Nat) (bk : Int → Int → Int → Hp → Option (Int)) : CT (Int) := [(9, [(0, 16, (some 113)), (4, 0, none), (5, 0, none), (6, 0, none)], [], fun a c h => match a, c with
    | [x4, x5, x6], [] => bk x4 x5 x6 h
    | _, _ => none)]
set_option maxRecDepth 100000 in
theorem eJX12_isSafe_19 (n : Nat) (bk : Int → Int → Int → Hp → Option (Int)) (x4 : Int) (x5 : Int) (x6 : Int) (h : Hp) : JX12_isSafe_19 n bk x4 x5 x6 h =
  goAt false (kct (KJX12_isSafe_19 n bk)) (fun v _ => some (v)) (fsX12_isSafe n _) sdX12_isSafe 1000 19 [(0, 16, 113), (4, 0, x4), (5, 0, x5), (6, 0, x6)] [] h := rfl
def KBX12_isSafe_9 (n : Nat) (bk : Int → Int → Int → Hp → Option (Int)) : CT (Int) := [(9, [(0, 16, (some 113)), (4, 0, none), (5, 0, none), (6, 0, none)], [], fun a c h => match a, c with
    | [x4, x5, x6], [] => bk x4 x5 x6 h
    | _, _ => none),
  (19, [(0, 16, (some 113)), (4, 0, none), (5, 0, none), (6, 0, none)], [], fun a c h => match a, c with
    | [x4, x5, x6], [] => JX12_isSafe_19 n bk x4 x5 x6 h
    | _, _ => none)]
set_option maxRecDepth 100000 in
theorem eBX12_isSafe_9 (n f : Nat) (x4 : Int) (x5 : Int) (x6 : Int) (h : Hp) : BX12_isSafe_9 n (f + 1) x4 x5 x6 h =
  goAt false (kct (KBX12_isSafe_9 n (BX12_isSafe_9 n f))) (fun v _ => some (v)) (fsX12_isSafe n _) sdX12_isSafe 1000 9 [(0, 16, 113), (4, 0, x4), (5, 0, x5), (6, 0, x6)] [] h := rfl
def KMX12_isSafe (n : Nat) : CT (Int) := [(9, [(0, 16, (some 113)), (4, 0, none), (5, 0, none), (6, 0, none)], [], fun a c h => match a, c with
    | [x4, x5, x6], [] => LX12_isSafe_9 n x4 x5 x6 h
    | _, _ => none)]
set_option maxRecDepth 100000 in
theorem eMX12_isSafe (n : Nat) (x1 : Int) (x2 : Int) (x3 : Int) (h : Hp) : MX12_isSafe n x1 x2 x3 h =
  goAt false (kct (KMX12_isSafe n)) (fun v _ => some (v)) (fsX12_isSafe n _) sdX12_isSafe 1000 0 [(0, 16, 113), (1, 0, x1), (2, 0, x2), (3, 0, x3)] [] h := rfl
theorem okX12_isSafe : mokb (mi 150) = true := by decide +kernel
theorem rkX12_isSafe : rkOK 4 (mi 150).1.2.2.2.2.2.2.1 (mi 150).1.2.2.2.1 := Or.inr (Or.inr (Or.inl ⟨rfl, rfl, rfl⟩))
def calX12_isSafe : List Nat := [145, 149]
theorem foX12_isSafe {l : Launch} {ρ : Type} (n : Nat) : fsOK l false mi calX12_isSafe (fsX12_isSafe n ρ) := ⟨(sndX12_brakeOf n), ⟨(sndX12_may n), trivial⟩⟩
theorem frX12_isSafe {ρ : Type} (n : Nat) : ∀ fn ∈ fsX12_isSafe n ρ, RoF fn := (List.forall_mem_cons.mpr ⟨(roX12_brakeOf n), (List.forall_mem_cons.mpr ⟨(roX12_may n), (fun q9 h9 => by cases h9)⟩)⟩)
theorem ok_sdX12_isSafe : sdb (mi 150).1.2.1 (insOK mi (mi 150).1.1.cls (mi 150).1.2.2.1 (mi 150).1.2.2.2.2.1 (mi 150).1.2.2.2.2.2.1 calX12_isSafe false 4) sdX12_isSafe = true := by decide +kernel
theorem sJX12_isSafe_19 {l : Launch} {h0 : Hp} {v : Int} (h8 : nOf h0 = 148) (n : Nat) (bk : Int → Int → Int → Hp → Option (Int)) {h : Hp} (hbk : ∀ (x4 : Int) (x5 : Int) (x6 : Int) (r : Int), bk x4 x5 x6 h = some r → gV v r → PAt l false (mi 150).1 h0 v h 9 [(0, 16, 113), (4, 0, x4), (5, 0, x5), (6, 0, x6)] [] h) (x4 : Int) (x5 : Int) (x6 : Int) (_ : Hp) {r : Int} (H : JX12_isSafe_19 n bk x4 x5 x6 h = some r) (hG : gV v r) : PAt l false (mi 150).1 h0 v h 19 [(0, 16, 113), (4, 0, x4), (5, 0, x5), (6, 0, x6)] [] h :=
  pat_ro ok_sdX12_isSafe rfl rkX12_isSafe h8 (foX12_isSafe n) (frX12_isSafe n) (fun v1 q => by
    cases q
    exact ⟨rfl, fun _ => hG⟩) (List.forall_mem_cons.mpr ⟨(fun a c H => by
      dsimp only at H
      split at H
      · exact hbk _ _ _ _ H hG
      · cases H), (fun q9 h9 => by cases h9)⟩) ((eJX12_isSafe_19 n bk x4 x5 x6 h).symm.trans H)
theorem sBX12_isSafe_9 {l : Launch} {h0 : Hp} {v : Int} (h8 : nOf h0 = 148) (n : Nat) (h : Hp) : ∀ (f : Nat) (x4 : Int) (x5 : Int) (x6 : Int) {r : Int}, BX12_isSafe_9 n f x4 x5 x6 h = some r → gV v r → PAt l false (mi 150).1 h0 v h 9 [(0, 16, 113), (4, 0, x4), (5, 0, x5), (6, 0, x6)] [] h := by
  intro f
  induction f with
  | zero =>
    intro x4 x5 x6 r H _
    have H2 : (none : Option (Int)) = some r := H
    cases H2
  | succ f ih =>
    intro x4 x5 x6 r H hG
    have ihk : ∀ (x4 : Int) (x5 : Int) (x6 : Int) (r : Int), BX12_isSafe_9 n f x4 x5 x6 h = some r → gV v r → PAt l false (mi 150).1 h0 v h 9 [(0, 16, 113), (4, 0, x4), (5, 0, x5), (6, 0, x6)] [] h := fun x4 x5 x6 r9 a9 b9 => ih x4 x5 x6 a9 b9
    exact pat_ro ok_sdX12_isSafe rfl rkX12_isSafe h8 (foX12_isSafe n) (frX12_isSafe n) (fun v1 q => by
    cases q
    exact ⟨rfl, fun _ => hG⟩) (List.forall_mem_cons.mpr ⟨(fun a c H => by
      dsimp only at H
      split at H
      · exact ih _ _ _ H hG
      · cases H), (List.forall_mem_cons.mpr ⟨(fun a c H => by
      dsimp only at H
      split at H
      · exact sJX12_isSafe_19 h8 n (BX12_isSafe_9 n f) ihk _ _ _ _ H hG
      · cases H), (fun q9 h9 => by cases h9)⟩)⟩) ((eBX12_isSafe_9 n f x4 x5 x6 h).symm.trans H)
theorem sLX12_isSafe_9 {l : Launch} {h0 : Hp} {v : Int} (h8 : nOf h0 = 148) (n : Nat) (x4 : Int) (x5 : Int) (x6 : Int) (h : Hp) {r : Int} (H : LX12_isSafe_9 n x4 x5 x6 h = some r) (hG : gV v r) : PAt l false (mi 150).1 h0 v h 9 [(0, 16, 113), (4, 0, x4), (5, 0, x5), (6, 0, x6)] [] h :=
  sBX12_isSafe_9 h8 n h n x4 x5 x6 H hG
theorem sMX12_isSafe {l : Launch} {h0 : Hp} {v : Int} (h8 : nOf h0 = 148) (n : Nat) (x1 : Int) (x2 : Int) (x3 : Int) (h : Hp) {r : Int} (H : MX12_isSafe n x1 x2 x3 h = some r) (hG : gV v r) : PAt l false (mi 150).1 h0 v h 0 [(0, 16, 113), (1, 0, x1), (2, 0, x2), (3, 0, x3)] [] h :=
  pat_ro ok_sdX12_isSafe rfl rkX12_isSafe h8 (foX12_isSafe n) (frX12_isSafe n) (fun v1 q => by
    cases q
    exact ⟨rfl, fun _ => hG⟩) (List.forall_mem_cons.mpr ⟨(fun a c H => by
      dsimp only at H
      split at H
      · exact sLX12_isSafe_9 h8 n _ _ _ _ H hG
      · cases H), (fun q9 h9 => by cases h9)⟩) ((eMX12_isSafe n x1 x2 x3 h).symm.trans H)
theorem sndX12_isSafe {ρ : Type} {l : Launch} (n : Nat) : SndF (ρ := ρ) l false (mi 150).1 (wX12_isSafe n) := by
    intro a h k r H ha ho hn hf
    have h8 := hf rfl
    obtain ⟨x0, x1, x2, x3, rfl⟩ := len4 (show a.length = 4 from ha)
    have u0 := uq16 hn (ho (16, x0) (List.mem_cons_self))
    subst u0
    replace H : bndp (MX12_isSafe n x1 x2 x3 h) (fun r => k r h) = some r := H
    obtain ⟨v2, H1, H2⟩ := bndp_some H
    exact ⟨v2, h, H2, met_mk (mok_base okX12_isSafe).1 (by decide +kernel) (Nat.le_of_ble_eq_true rfl) ho (sMX12_isSafe h8 n x1 x2 x3 h H1 rfl), fun q => by cases q⟩
theorem roX12_isSafe {ρ : Type} (n : Nat) : RoF (wX12_isSafe n : FN ρ) := fun a h k k2 hk => by
  unfold wX12_isSafe
  split
  · exact bndp_ro hk
  · rfl
/-! X12_goesIfSafe -/
def sdX12_goesIfSafe : SD := [(0, [(0, .aload_n 0, 1, [], 0), (1, .getfield 412, 3, [12, 50, 0, 0, 1372, 0], 0), (4, .iload_n 1, 1, [], 0), (5, .iadd, 1, [], 0), (6, .istore_n 2, 1, [], 0), (7, .aload_n 0, 1, [], 0), (8, .getfield 409, 3, [12, 49, 0, 0, 1371, 0], 0), (11, .iload_n 2, 1, [], 0), (12, .iadd, 1, [], 0), (13, .istore_n 3, 1, [], 0), (14, .aload_n 0, 1, [], 0), (15, .aload_n 0, 1, [], 0), (16, .getfield 406, 3, [12, 48, 0, 0, 1370, 0], 0), (19, .aload_n 0, 1, [], 0), (20, .getfield 409, 3, [12, 49, 0, 0, 1371, 0], 0), (23, .aload_n 0, 1, [], 0), (24, .getfield 412, 3, [12, 50, 0, 0, 1372, 0], 0), (27, .iload_n 1, 1, [], 0), (28, .invokevirtual 402, 3, [1, 0, 1, 149, 1753, 0, 0, 0, 0, 16], 0), (31, .ifCond .eq 23, 3, [], 0)]),
  (34, [(34, .aload_n 0, 1, [], 0), (35, .aload_n 0, 1, [], 0), (36, .getfield 406, 3, [12, 48, 0, 0, 1370, 0], 0), (39, .iload_n 3, 1, [], 0), (40, .aload_n 0, 1, [], 0), (41, .getfield 366, 3, [12, 40, 0, 0, 1362, 0], 0), (44, .imul, 1, [], 0), (45, .iadd, 1, [], 0), (46, .iload_n 3, 1, [], 0), (47, .iload_n 2, 1, [], 0), (48, .invokevirtual 423, 3, [1, 1, 1, 150, 1761, 0, 0, 0, 16], 0), (51, .ifCond .ne 5, 3, [], 0)]),
  (54, [(54, .iconst 0, 1, [], 0), (55, .ireturn, 1, [1], 0)]),
  (56, [(56, .aload_n 0, 1, [], 0), (57, .iload_n 1, 1, [], 0), (58, .invokevirtual 427, 3, [0, 2, 1, 146, 1745, 0, 16], 0), (61, .iconst 1, 1, [], 0), (62, .ireturn, 1, [1], 0)])]
def MX12_goesIfSafe (n : Nat) (x1 : Int) (h : Hp) : Option (Int × Hp) :=
(ltt (w32 ((h 113 50) + x1)) fun y1 =>
(ltt (w32 ((h 113 49) + y1)) fun y2 =>
(bndp (MX12_may n (h 113 48) (h 113 49) (h 113 50) x1 h) fun r1 =>
(if r1 = 0 then
(some (0, h))
else
(bndp (MX12_isSafe n (w32 ((h 113 48) + (w32 (y2 * (h 113 40))))) y2 y1 h) fun r2 =>
(if r2 ≠ 0 then
(bndh (MX12_goesBy x1 h) fun h1 =>
(some (1, h1)))
else
(some (0, h))))))))
def wX12_goesIfSafe {ρ : Type} (n : Nat) : FN ρ := fun a h k => match a with
  | [_, x1] => bnd (MX12_goesIfSafe n x1 h) (fun r h2 => k r h2)
  | _ => none
def fsX12_goesIfSafe (n : Nat) (ρ : Type) : List (FN ρ) := [wX12_may n, wX12_isSafe n, wX12_goesBy]
def KMX12_goesIfSafe (_ : Nat) : CT (Int × Hp) := []
set_option maxRecDepth 100000 in
theorem eMX12_goesIfSafe (n : Nat) (x1 : Int) (h : Hp) : MX12_goesIfSafe n x1 h =
  goAt false (kct (KMX12_goesIfSafe n)) (fun v h => some ((v, h))) (fsX12_goesIfSafe n _) sdX12_goesIfSafe 1000 0 [(0, 16, 113), (1, 0, x1)] [] h := rfl
theorem okX12_goesIfSafe : mokb (mi 151) = true := by decide +kernel
theorem rkX12_goesIfSafe : rkOK 4 (mi 151).1.2.2.2.2.2.2.1 (mi 151).1.2.2.2.1 := Or.inr (Or.inr (Or.inl ⟨rfl, rfl, rfl⟩))
def calX12_goesIfSafe : List Nat := [149, 150, 146]
theorem foX12_goesIfSafe {l : Launch} {ρ : Type} (n : Nat) : fsOK l false mi calX12_goesIfSafe (fsX12_goesIfSafe n ρ) := ⟨(sndX12_may n), ⟨(sndX12_isSafe n), ⟨sndX12_goesBy, trivial⟩⟩⟩
theorem ok_sdX12_goesIfSafe : sdb (mi 151).1.2.1 (insOK mi (mi 151).1.1.cls (mi 151).1.2.2.1 (mi 151).1.2.2.2.2.1 (mi 151).1.2.2.2.2.2.1 calX12_goesIfSafe false 4) sdX12_goesIfSafe = true := by decide +kernel
theorem sMX12_goesIfSafe {l : Launch} {h0 h' : Hp} {v : Int} (h8 : nOf h0 = 148) (n : Nat) (x1 : Int) (h : Hp) {r : Int × Hp} (H : MX12_goesIfSafe n x1 h = some r) (hG : gWV v h' r) : PAt l false (mi 151).1 h0 v h' 0 [(0, 16, 113), (1, 0, x1)] [] h :=
  pat_w ok_sdX12_goesIfSafe rkX12_goesIfSafe h8 (foX12_goesIfSafe n) (fun v1 h1 q => by
    cases q
    exact ⟨hG.1, fun _ => hG.2⟩) (fun q9 h9 => by cases h9) ((eMX12_goesIfSafe n x1 h).symm.trans H)
theorem sndX12_goesIfSafe {ρ : Type} {l : Launch} (n : Nat) : SndF (ρ := ρ) l false (mi 151).1 (wX12_goesIfSafe n) := by
    intro a h k r H ha ho hn hf
    have h8 := hf rfl
    obtain ⟨x0, x1, rfl⟩ := len2 (show a.length = 2 from ha)
    have u0 := uq16 hn (ho (16, x0) (List.mem_cons_self))
    subst u0
    replace H : bnd (MX12_goesIfSafe n x1 h) (fun r h2 => k r h2) = some r := H
    obtain ⟨v2, h2, H1, H2⟩ := bnd_some H
    exact ⟨v2, h2, H2, met_mk (mok_base okX12_goesIfSafe).1 (by decide +kernel) (Nat.le_of_ble_eq_true rfl) ho (sMX12_goesIfSafe h8 n x1 h H1 ⟨rfl, rfl⟩), fun q => by cases q⟩
/-! X12_tick -/
def sdX12_tick : SD := [(0, [(0, .aload_n 0, 1, [], 0), (1, .iconst 0, 1, [], 0), (2, .putfield 421, 3, [12, 51, 0, 0, 0, 1373], 0), (5, .aload_n 0, 1, [], 0), (6, .invokevirtual 430, 3, [1, 0, 1, 140, 1707, 16], 0), (9, .ifCond .ne 17, 3, [], 0)]),
  (12, [(12, .aload_n 0, 1, [], 0), (13, .getfield 415, 3, [12, 52, 0, 0, 1374, 0], 0), (16, .ifCond .eq 11, 3, [], 0)]),
  (19, [(19, .aload_n 0, 1, [], 0), (20, .invokevirtual 418, 3, [1, 1, 1, 138, 1711, 16], 0), (23, .ifCond .eq 4, 3, [], 0)]),
  (26, [(26, .return_, 1, [], 0)]),
  (27, [(27, .aload_n 0, 1, [], 0), (28, .getfield 415, 3, [12, 52, 0, 0, 1374, 0], 0), (31, .ifCond .eq 8, 3, [], 0)]),
  (34, [(34, .aload_n 0, 1, [], 0), (35, .invokevirtual 433, 3, [0, 2, 1, 147, 1734, 16], 0), (38, .return_, 1, [], 0)]),
  (39, [(39, .aload_n 0, 1, [], 0), (40, .invokevirtual 418, 3, [1, 1, 1, 138, 1711, 16], 0), (43, .ifCond .eq 38, 3, [], 0)]),
  (46, [(46, .aload_n 0, 1, [], 0), (47, .iconst 1, 1, [], 0), (48, .invokevirtual 436, 3, [1, 3, 1, 151, 1749, 0, 16], 0), (51, .ifCond .ne 29, 3, [], 0)]),
  (54, [(54, .aload_n 0, 1, [], 0), (55, .invokevirtual 393, 3, [1, 4, 1, 139, 1715, 16], 0), (58, .aload_n 0, 1, [], 0), (59, .getfield 406, 3, [12, 48, 0, 0, 1370, 0], 0), (62, .isub, 1, [], 0), (63, .iconst 2, 1, [], 0), (64, .aload_n 0, 1, [], 0), (65, .getfield 366, 3, [12, 40, 0, 0, 1362, 0], 0), (68, .imul, 1, [], 0), (69, .if_icmp .ge 11, 3, [], 0)]),
  (72, [(72, .aload_n 0, 1, [], 0), (73, .aload_n 0, 1, [], 0), (74, .invokevirtual 393, 3, [1, 4, 1, 139, 1715, 16], 0), (77, .putfield 406, 3, [12, 48, 0, 0, 0, 1370], 0)]),
  (80, [(80, .return_, 1, [], 0)]),
  (81, [(81, .iconst 1, 1, [], 0), (82, .istore_n 1, 1, [], 0)]),
  (83, [(83, .iload_n 1, 1, [], 0), (84, .iconst (-1), 1, [], 0), (85, .if_icmp .lt 18, 3, [], 0)]),
  (88, [(88, .aload_n 0, 1, [], 0), (89, .iload_n 1, 1, [], 0), (90, .invokevirtual 436, 3, [1, 3, 1, 151, 1749, 0, 16], 0), (93, .ifCond .eq 4, 3, [], 0)]),
  (96, [(96, .return_, 1, [], 0)]),
  (97, [(97, .iinc 1 (-1), 3, [], 0), (100, .goto (-17), 3, [], 0)]),
  (103, [(103, .aload_n 0, 1, [], 0), (104, .invokevirtual 433, 3, [0, 2, 1, 147, 1734, 16], 0), (107, .return_, 1, [], 0)])]
def BX12_tick_83 (n : Nat) : Nat → Int → Hp → Option (Hp)
  | 0, _, _ => none
  | f + 1, x1, h =>
    (if x1 < (-1) then
    (bndh (MX12_slows n h) fun h1 =>
    (some h1))
    else
    (bnd (MX12_goesIfSafe n x1 h) fun r1 h2 =>
    (if r1 = 0 then
    (ltt (w32 (x1 + (-1))) fun y1 =>
    (BX12_tick_83 n f y1 h2))
    else
    (some h2))))
def LX12_tick_83 (n : Nat) (x1 : Int) (h : Hp) : Option (Hp) :=
(BX12_tick_83 n n x1 h)
def JX12_tick_27 (n : Nat) (h : Hp) : Option (Hp) :=
(if (h 113 52) = 0 then
(bndp (MX12_isRest h) fun r1 =>
(if r1 = 0 then
(ltt 1 fun y1 =>
(LX12_tick_83 n y1 h))
else
(bnd (MX12_goesIfSafe n 1 h) fun r2 h1 =>
(if r2 ≠ 0 then
(some h1)
else
(bndp (MX12_all h1) fun r3 =>
(if (w32 (2 * (h1 113 40))) ≤ (w32 (r3 - (h1 113 48))) then
(some h1)
else
(bndp (MX12_all h1) fun r4 =>
(ltt (up h1 113 48 r4) fun h2 =>
(some h2)))))))))
else
(bndh (MX12_slows n h) fun h3 =>
(some h3)))
def MX12_tick (n : Nat) (h : Hp) : Option (Hp) :=
(ltt (up h 113 51 0) fun h1 =>
(bndp (MX12_isDone h1) fun r1 =>
(if r1 ≠ 0 then
(some h1)
else
(if (h1 113 52) = 0 then
(JX12_tick_27 n h1)
else
(bndp (MX12_isRest h1) fun r2 =>
(if r2 = 0 then
(JX12_tick_27 n h1)
else
(some h1)))))))
def wX12_tick {ρ : Type} (n : Nat) : FN ρ := fun a h k => match a with
  | [_] => bndh (MX12_tick n h) (fun h2 => k 0 h2)
  | _ => none
def fsX12_tick (n : Nat) (ρ : Type) : List (FN ρ) := [wX12_isDone, wX12_isRest, wX12_slows n, wX12_goesIfSafe n, wX12_all]
def KBX12_tick_83 (_ : Nat) (bk : Int → Hp → Option (Hp)) : CT (Hp) := [(83, [(0, 16, (some 113)), (1, 0, none)], [], fun a c h => match a, c with
    | [x1], [] => bk x1 h
    | _, _ => none)]
set_option maxRecDepth 100000 in
theorem eBX12_tick_83 (n f : Nat) (x1 : Int) (h : Hp) : BX12_tick_83 n (f + 1) x1 h =
  goAt false (kct (KBX12_tick_83 n (BX12_tick_83 n f))) (fun _ h => some (h)) (fsX12_tick n _) sdX12_tick 1000 83 [(0, 16, 113), (1, 0, x1)] [] h := rfl
def KJX12_tick_27 (n : Nat) : CT (Hp) := [(83, [(0, 16, (some 113)), (1, 0, none)], [], fun a c h => match a, c with
    | [x1], [] => LX12_tick_83 n x1 h
    | _, _ => none)]
set_option maxRecDepth 100000 in
theorem eJX12_tick_27 (n : Nat) (h : Hp) : JX12_tick_27 n h =
  goAt false (kct (KJX12_tick_27 n)) (fun _ h => some (h)) (fsX12_tick n _) sdX12_tick 1000 27 [(0, 16, 113)] [] h := rfl
def KMX12_tick (n : Nat) : CT (Hp) := [(27, [(0, 16, (some 113))], [], fun a c h => match a, c with
    | [], [] => JX12_tick_27 n h
    | _, _ => none)]
set_option maxRecDepth 100000 in
theorem eMX12_tick (n : Nat) (h : Hp) : MX12_tick n h =
  goAt false (kct (KMX12_tick n)) (fun _ h => some (h)) (fsX12_tick n _) sdX12_tick 1000 0 [(0, 16, 113)] [] h := rfl
theorem okX12_tick : mokb (mi 152) = true := by decide +kernel
theorem rkX12_tick : rkOK 0 (mi 152).1.2.2.2.2.2.2.1 (mi 152).1.2.2.2.1 := Or.inl ⟨rfl, rfl, rfl⟩
def calX12_tick : List Nat := [140, 138, 147, 151, 139]
theorem foX12_tick {l : Launch} {ρ : Type} (n : Nat) : fsOK l false mi calX12_tick (fsX12_tick n ρ) := ⟨sndX12_isDone, ⟨sndX12_isRest, ⟨(sndX12_slows n), ⟨(sndX12_goesIfSafe n), ⟨sndX12_all, trivial⟩⟩⟩⟩⟩
theorem ok_sdX12_tick : sdb (mi 152).1.2.1 (insOK mi (mi 152).1.1.cls (mi 152).1.2.2.1 (mi 152).1.2.2.2.2.1 (mi 152).1.2.2.2.2.2.1 calX12_tick false 0) sdX12_tick = true := by decide +kernel
theorem sBX12_tick_83 {l : Launch} {h0 h' : Hp} {v : Int} (h8 : nOf h0 = 148) (n : Nat) : ∀ (f : Nat) (x1 : Int) (h : Hp) {r : Hp}, BX12_tick_83 n f x1 h = some r → gW h' r → PAt l false (mi 152).1 h0 v h' 83 [(0, 16, 113), (1, 0, x1)] [] h := by
  intro f
  induction f with
  | zero =>
    intro x1 h r H _
    have H2 : (none : Option (Hp)) = some r := H
    cases H2
  | succ f ih =>
    intro x1 h r H hG
    exact pat_w ok_sdX12_tick rkX12_tick h8 (foX12_tick n) (fun v1 h1 q => by
    cases q
    exact ⟨hG, fun q9 => absurd rfl q9⟩) (List.forall_mem_cons.mpr ⟨(fun a c h H => by
      dsimp only at H
      split at H
      · exact ih _ _ H hG
      · cases H), (fun q9 h9 => by cases h9)⟩) ((eBX12_tick_83 n f x1 h).symm.trans H)
theorem sLX12_tick_83 {l : Launch} {h0 h' : Hp} {v : Int} (h8 : nOf h0 = 148) (n : Nat) (x1 : Int) (h : Hp) {r : Hp} (H : LX12_tick_83 n x1 h = some r) (hG : gW h' r) : PAt l false (mi 152).1 h0 v h' 83 [(0, 16, 113), (1, 0, x1)] [] h :=
  sBX12_tick_83 h8 n n x1 h H hG
theorem sJX12_tick_27 {l : Launch} {h0 h' : Hp} {v : Int} (h8 : nOf h0 = 148) (n : Nat)  (h : Hp) {r : Hp} (H : JX12_tick_27 n h = some r) (hG : gW h' r) : PAt l false (mi 152).1 h0 v h' 27 [(0, 16, 113)] [] h :=
  pat_w ok_sdX12_tick rkX12_tick h8 (foX12_tick n) (fun v1 h1 q => by
    cases q
    exact ⟨hG, fun q9 => absurd rfl q9⟩) (List.forall_mem_cons.mpr ⟨(fun a c h H => by
      dsimp only at H
      split at H
      · exact sLX12_tick_83 h8 n _ _ H hG
      · cases H), (fun q9 h9 => by cases h9)⟩) ((eJX12_tick_27 n h).symm.trans H)
theorem sMX12_tick {l : Launch} {h0 h' : Hp} {v : Int} (h8 : nOf h0 = 148) (n : Nat)  (h : Hp) {r : Hp} (H : MX12_tick n h = some r) (hG : gW h' r) : PAt l false (mi 152).1 h0 v h' 0 [(0, 16, 113)] [] h :=
  pat_w ok_sdX12_tick rkX12_tick h8 (foX12_tick n) (fun v1 h1 q => by
    cases q
    exact ⟨hG, fun q9 => absurd rfl q9⟩) (List.forall_mem_cons.mpr ⟨(fun a c h H => by
      dsimp only at H
      split at H
      · exact sJX12_tick_27 h8 n _ H hG
      · cases H), (fun q9 h9 => by cases h9)⟩) ((eMX12_tick n h).symm.trans H)
theorem sndX12_tick {ρ : Type} {l : Launch} (n : Nat) : SndF (ρ := ρ) l false (mi 152).1 (wX12_tick n) := by
    intro a h k r H ha ho hn hf
    have h8 := hf rfl
    obtain ⟨x0, rfl⟩ := len1 (show a.length = 1 from ha)
    have u0 := uq16 hn (ho (16, x0) (List.mem_cons_self))
    subst u0
    replace H : bndh (MX12_tick n h) (fun h2 => k 0 h2) = some r := H
    obtain ⟨h2, H1, H2⟩ := bndh_some H
    exact ⟨0, h2, H2, met_mk (mok_base okX12_tick).1 (by decide +kernel) (Nat.le_of_ble_eq_true rfl) ho (sMX12_tick h8 n  h H1 rfl), fun q => by cases q⟩
/-! X12_ticks -/
def sdX12_ticks : SD := [(0, [(0, .iload_n 1, 1, [], 0), (1, .i2l, 1, [], 0), (2, .lconst 1, 1, [], 0), (3, .ldc2_w 457, 3, [1, 1672], 60), (6, .invokestatic 217, 3, [1, 0, 3, 81, 1561, 1, 1, 1], 0), (9, .ifCond .ne 5, 3, [], 0)]),
  (12, [(12, .iconst (-1), 1, [], 0), (13, .ireturn, 1, [], 0)]),
  (14, [(14, .aload_n 0, 1, [], 0), (15, .invokevirtual 459, 3, [0, 1, 1, 116, 1673, 16], 0), (18, .aload_n 0, 1, [], 0), (19, .invokevirtual 462, 3, [0, 2, 1, 137, 1703, 16], 0), (22, .aload_n 0, 1, [], 0), (23, .invokevirtual 430, 3, [1, 3, 1, 140, 1707, 16], 0), (26, .ifCond .eq 6, 3, [], 0)]),
  (29, [(29, .bipush (-2), 2, [], 0), (31, .ireturn, 1, [], 0)]),
  (32, [(32, .iconst 0, 1, [], 0), (33, .istore_n 2, 1, [], 0)]),
  (34, [(34, .iload_n 2, 1, [], 0), (35, .iload_n 1, 1, [], 0), (36, .if_icmp .ge 58, 3, [], 0)]),
  (39, [(39, .aload_n 0, 1, [], 0), (40, .invokevirtual 430, 3, [1, 3, 1, 140, 1707, 16], 0), (43, .ifCond .ne 51, 3, [], 0)]),
  (46, [(46, .aload_n 0, 1, [], 0), (47, .invokevirtual 465, 3, [0, 4, 1, 143, 1719, 16], 0), (50, .aload_n 0, 1, [], 0), (51, .invokevirtual 443, 3, [0, 5, 1, 152, 1730, 16], 0), (54, .aload_n 0, 1, [], 0), (55, .aload_n 0, 1, [], 0), (56, .getfield 406, 3, [12, 48, 0, 0, 1370, 0], 0), (59, .putfield 165, 3, [12, 42, 0, 0, 0, 1364], 0), (62, .aload_n 0, 1, [], 0), (63, .aload_n 0, 1, [], 0), (64, .getfield 409, 3, [12, 49, 0, 0, 1371, 0], 0), (67, .putfield 168, 3, [12, 43, 0, 0, 0, 1365], 0), (70, .aload_n 0, 1, [], 0), (71, .aload_n 0, 1, [], 0), (72, .getfield 412, 3, [12, 50, 0, 0, 1372, 0], 0), (75, .putfield 171, 3, [12, 44, 0, 0, 0, 1366], 0), (78, .aload_n 0, 1, [], 0), (79, .dup, 1, [], 0), (80, .getfield 174, 3, [12, 46, 0, 0, 1368, 0], 0), (83, .iconst 1, 1, [], 0), (84, .iadd, 1, [], 0), (85, .putfield 174, 3, [12, 46, 0, 0, 0, 1368], 0), (88, .iinc 2 1, 3, [], 0), (91, .goto (-57), 3, [], 0)]),
  (94, [(94, .aload_n 0, 1, [], 0), (95, .getfield 165, 3, [12, 42, 0, 0, 1364, 0], 0), (98, .ireturn, 1, [], 0)])]
def BX12_ticks_34 (n : Nat) : Nat → Int → Int → Hp → Option (Int × Hp)
  | 0, _, _, _ => none
  | f + 1, x1, x2, h =>
    (if x1 ≤ x2 then
    (some ((h 113 42), h))
    else
    (bndp (MX12_isDone h) fun r1 =>
    (if r1 ≠ 0 then
    (some ((h 113 42), h))
    else
    (bndh (MX12_remembers n h) fun h1 =>
    (bndh (MX12_tick n h1) fun h2 =>
    (ltt (up h2 113 42 (h2 113 48)) fun h3 =>
    (ltt (up h3 113 43 (h3 113 49)) fun h4 =>
    (ltt (up h4 113 44 (h4 113 50)) fun h5 =>
    (ltt (up h5 113 46 (w32 ((h5 113 46) + 1))) fun h6 =>
    (ltt (w32 (x2 + 1)) fun y1 =>
    (BX12_ticks_34 n f x1 y1 h6)))))))))))
def LX12_ticks_34 (n : Nat) (x1 x2 : Int) (h : Hp) : Option (Int × Hp) :=
(BX12_ticks_34 n n x1 x2 h)
def MX12_ticks (n : Nat) (x1 : Int) (h : Hp) : Option (Int × Hp) :=
(bndp (MX12_in x1 1 60) fun r1 =>
(if r1 ≠ 0 then
(bndh (MX12_laysNow n h) fun h1 =>
(bndh (MX12_begins h1) fun h2 =>
(bndp (MX12_isDone h2) fun r2 =>
(if r2 = 0 then
(ltt 0 fun y1 =>
(LX12_ticks_34 n x1 y1 h2))
else
(some ((-2), h2))))))
else
(some ((-1), h))))
def wX12_ticks {ρ : Type} (n : Nat) : FN ρ := fun a h k => match a with
  | [_, x1] => bnd (MX12_ticks n x1 h) (fun r h2 => k r h2)
  | _ => none
def fsX12_ticks (n : Nat) (ρ : Type) : List (FN ρ) := [wX12_in, wX12_laysNow n, wX12_begins, wX12_isDone, wX12_remembers n, wX12_tick n]
def KBX12_ticks_34 (_ : Nat) (bk : Int → Int → Hp → Option (Int × Hp)) : CT (Int × Hp) := [(34, [(0, 16, (some 113)), (1, 0, none), (2, 0, none)], [], fun a c h => match a, c with
    | [x1, x2], [] => bk x1 x2 h
    | _, _ => none)]
set_option maxRecDepth 100000 in
theorem eBX12_ticks_34 (n f : Nat) (x1 : Int) (x2 : Int) (h : Hp) : BX12_ticks_34 n (f + 1) x1 x2 h =
  goAt false (kct (KBX12_ticks_34 n (BX12_ticks_34 n f))) (fun v h => some ((v, h))) (fsX12_ticks n _) sdX12_ticks 1000 34 [(0, 16, 113), (1, 0, x1), (2, 0, x2)] [] h := rfl
def KMX12_ticks (n : Nat) : CT (Int × Hp) := [(34, [(0, 16, (some 113)), (1, 0, none), (2, 0, none)], [], fun a c h => match a, c with
    | [x1, x2], [] => LX12_ticks_34 n x1 x2 h
    | _, _ => none)]
set_option maxRecDepth 100000 in
theorem eMX12_ticks (n : Nat) (x1 : Int) (h : Hp) : MX12_ticks n x1 h =
  goAt false (kct (KMX12_ticks n)) (fun v h => some ((v, h))) (fsX12_ticks n _) sdX12_ticks 1000 0 [(0, 16, 113), (1, 0, x1)] [] h := rfl
theorem okX12_ticks : mokb (mi 153) = true := by decide +kernel
theorem rkX12_ticks : rkOK 1 (mi 153).1.2.2.2.2.2.2.1 (mi 153).1.2.2.2.1 := Or.inr (Or.inl ⟨rfl, rfl, rfl⟩)
def calX12_ticks : List Nat := [81, 116, 137, 140, 143, 152]
theorem foX12_ticks {l : Launch} {ρ : Type} (n : Nat) : fsOK l false mi calX12_ticks (fsX12_ticks n ρ) := ⟨sndX12_in, ⟨(sndX12_laysNow n), ⟨sndX12_begins, ⟨sndX12_isDone, ⟨(sndX12_remembers n), ⟨(sndX12_tick n), trivial⟩⟩⟩⟩⟩⟩
theorem ok_sdX12_ticks : sdb (mi 153).1.2.1 (insOK mi (mi 153).1.1.cls (mi 153).1.2.2.1 (mi 153).1.2.2.2.2.1 (mi 153).1.2.2.2.2.2.1 calX12_ticks false 1) sdX12_ticks = true := by decide +kernel
theorem sBX12_ticks_34 {l : Launch} {h0 h' : Hp} {v : Int} (h8 : nOf h0 = 148) (n : Nat) : ∀ (f : Nat) (x1 : Int) (x2 : Int) (h : Hp) {r : Int × Hp}, BX12_ticks_34 n f x1 x2 h = some r → gWV v h' r → PAt l false (mi 153).1 h0 v h' 34 [(0, 16, 113), (1, 0, x1), (2, 0, x2)] [] h := by
  intro f
  induction f with
  | zero =>
    intro x1 x2 h r H _
    have H2 : (none : Option (Int × Hp)) = some r := H
    cases H2
  | succ f ih =>
    intro x1 x2 h r H hG
    exact pat_w ok_sdX12_ticks rkX12_ticks h8 (foX12_ticks n) (fun v1 h1 q => by
    cases q
    exact ⟨hG.1, fun _ => hG.2⟩) (List.forall_mem_cons.mpr ⟨(fun a c h H => by
      dsimp only at H
      split at H
      · exact ih _ _ _ H hG
      · cases H), (fun q9 h9 => by cases h9)⟩) ((eBX12_ticks_34 n f x1 x2 h).symm.trans H)
theorem sLX12_ticks_34 {l : Launch} {h0 h' : Hp} {v : Int} (h8 : nOf h0 = 148) (n : Nat) (x1 : Int) (x2 : Int) (h : Hp) {r : Int × Hp} (H : LX12_ticks_34 n x1 x2 h = some r) (hG : gWV v h' r) : PAt l false (mi 153).1 h0 v h' 34 [(0, 16, 113), (1, 0, x1), (2, 0, x2)] [] h :=
  sBX12_ticks_34 h8 n n x1 x2 h H hG
theorem sMX12_ticks {l : Launch} {h0 h' : Hp} {v : Int} (h8 : nOf h0 = 148) (n : Nat) (x1 : Int) (h : Hp) {r : Int × Hp} (H : MX12_ticks n x1 h = some r) (hG : gWV v h' r) : PAt l false (mi 153).1 h0 v h' 0 [(0, 16, 113), (1, 0, x1)] [] h :=
  pat_w ok_sdX12_ticks rkX12_ticks h8 (foX12_ticks n) (fun v1 h1 q => by
    cases q
    exact ⟨hG.1, fun _ => hG.2⟩) (List.forall_mem_cons.mpr ⟨(fun a c h H => by
      dsimp only at H
      split at H
      · exact sLX12_ticks_34 h8 n _ _ _ H hG
      · cases H), (fun q9 h9 => by cases h9)⟩) ((eMX12_ticks n x1 h).symm.trans H)
theorem sndX12_ticks {ρ : Type} {l : Launch} (n : Nat) : SndF (ρ := ρ) l false (mi 153).1 (wX12_ticks n) := by
    intro a h k r H ha ho hn hf
    have h8 := hf rfl
    obtain ⟨x0, x1, rfl⟩ := len2 (show a.length = 2 from ha)
    have u0 := uq16 hn (ho (16, x0) (List.mem_cons_self))
    subst u0
    replace H : bnd (MX12_ticks n x1 h) (fun r h2 => k r h2) = some r := H
    obtain ⟨v2, h2, H1, H2⟩ := bnd_some H
    exact ⟨v2, h2, H2, met_mk (mok_base okX12_ticks).1 (by decide +kernel) (Nat.le_of_ble_eq_true rfl) ho (sMX12_ticks h8 n x1 h H1 ⟨rfl, rfl⟩), fun q => by cases q⟩
/-! X11_give -/
def sdX11_give : SD := [(0, [(0, .iload_n 1, 1, [], 0), (1, .iconst 1, 1, [], 0), (2, .if_icmp .lt 21, 3, [], 0)]),
  (5, [(5, .iload_n 1, 1, [], 0), (6, .sipush 200, 3, [], 0), (9, .if_icmp .gt 14, 3, [], 0)]),
  (12, [(12, .iload_n 1, 1, [], 0), (13, .aload_n 0, 1, [], 0), (14, .getfield 57, 3, [11, 7, 12, 1, 697, 0], 64), (17, .getfield 203, 3, [8, 4, 0, 0, 494, 0], 0), (20, .if_icmp .ne 5, 3, [], 0)]),
  (23, [(23, .iconst (-1), 1, [], 0), (24, .ireturn, 1, [], 0)]),
  (25, [(25, .aload_n 0, 1, [], 0), (26, .getfield 57, 3, [11, 7, 12, 1, 697, 0], 64), (29, .getfield 203, 3, [8, 4, 0, 0, 494, 0], 0), (32, .istore_n 2, 1, [], 0), (33, .aload_n 0, 1, [], 0), (34, .getfield 67, 3, [11, 9, 9, 1, 699, 0], 66), (37, .aload_n 0, 1, [], 0), (38, .getfield 57, 3, [11, 7, 12, 1, 697, 0], 64), (41, .invokevirtual 192, 3, [0, 0, 1, 125, 1015, 12, 9], 0), (44, .aload_n 0, 1, [], 0), (45, .getfield 57, 3, [11, 7, 12, 1, 697, 0], 64), (48, .iload_n 1, 1, [], 0), (49, .putfield 203, 3, [8, 4, 0, 0, 0, 494], 0), (52, .aload_n 0, 1, [], 0), (53, .getfield 47, 3, [11, 5, 5, 1, 695, 0], 50), (56, .iload_n 1, 1, [], 0), (57, .invokevirtual 125, 3, [1, 1, 1, 59, 601, 0, 5], 0), (60, .pop, 1, [], 0), (61, .iload_n 2, 1, [], 0), (62, .ireturn, 1, [], 0)])]
def MX11_give (n : Nat) (x1 : Int) (h : Hp) : Option (Int × Hp) :=
(if x1 < 1 then
(some ((-1), h))
else
(if 200 < x1 then
(some ((-1), h))
else
(if x1 ≠ (h 64 4) then
(ltt (h 64 4) fun y1 =>
(bndh (MX5_note 64 h) fun h1 =>
(ltt (up h1 64 4 x1) fun h2 =>
(bnd (MX1_grant n 50 x1 h2) fun r1 h3 =>
(some (y1, h3))))))
else
(some ((-1), h)))))
def wX11_give {ρ : Type} (n : Nat) : FN ρ := fun a h k => match a with
  | [_, x1] => bnd (MX11_give n x1 h) (fun r h2 => k r h2)
  | _ => none
def fsX11_give (n : Nat) (ρ : Type) : List (FN ρ) := [wX5_note, wX1_grant n]
def KMX11_give (_ : Nat) : CT (Int × Hp) := []
set_option maxRecDepth 100000 in
theorem eMX11_give (n : Nat) (x1 : Int) (h : Hp) : MX11_give n x1 h =
  goAt false (kct (KMX11_give n)) (fun v h => some ((v, h))) (fsX11_give n _) sdX11_give 1000 0 [(0, 15, 0), (1, 0, x1)] [] h := rfl
theorem okX11_give : mokb (mi 154) = true := by decide +kernel
theorem rkX11_give : rkOK 1 (mi 154).1.2.2.2.2.2.2.1 (mi 154).1.2.2.2.1 := Or.inr (Or.inl ⟨rfl, rfl, rfl⟩)
def calX11_give : List Nat := [125, 59]
theorem foX11_give {l : Launch} {ρ : Type} (n : Nat) : fsOK l false mi calX11_give (fsX11_give n ρ) := ⟨sndX5_note, ⟨(sndX1_grant n), trivial⟩⟩
theorem ok_sdX11_give : sdb (mi 154).1.2.1 (insOK mi (mi 154).1.1.cls (mi 154).1.2.2.1 (mi 154).1.2.2.2.2.1 (mi 154).1.2.2.2.2.2.1 calX11_give false 1) sdX11_give = true := by decide +kernel
theorem sMX11_give {l : Launch} {h0 h' : Hp} {v : Int} (h8 : nOf h0 = 148) (n : Nat) (x1 : Int) (h : Hp) {r : Int × Hp} (H : MX11_give n x1 h = some r) (hG : gWV v h' r) : PAt l false (mi 154).1 h0 v h' 0 [(0, 15, 0), (1, 0, x1)] [] h :=
  pat_w ok_sdX11_give rkX11_give h8 (foX11_give n) (fun v1 h1 q => by
    cases q
    exact ⟨hG.1, fun _ => hG.2⟩) (fun q9 h9 => by cases h9) ((eMX11_give n x1 h).symm.trans H)
theorem sndX11_give {ρ : Type} {l : Launch} (n : Nat) : SndF (ρ := ρ) l false (mi 154).1 (wX11_give n) := by
    intro a h k r H ha ho hn hf
    have h8 := hf rfl
    obtain ⟨x0, x1, rfl⟩ := len2 (show a.length = 2 from ha)
    have u0 := uq15 hn (ho (15, x0) (List.mem_cons_self))
    subst u0
    replace H : bnd (MX11_give n x1 h) (fun r h2 => k r h2) = some r := H
    obtain ⟨v2, h2, H1, H2⟩ := bnd_some H
    exact ⟨v2, h2, H2, met_mk (mok_base okX11_give).1 (by decide +kernel) (Nat.le_of_ble_eq_true rfl) ho (sMX11_give h8 n x1 h H1 ⟨rfl, rfl⟩), fun q => by cases q⟩
/-! X12_give -/
def sdX12_give : SD := [(0, [(0, .iload_n 1, 1, [], 0), (1, .i2l, 1, [], 0), (2, .lconst 1, 1, [], 0), (3, .ldc2_w 468, 3, [1, 1769], 200), (6, .invokestatic 217, 3, [1, 0, 3, 81, 1561, 1, 1, 1], 0), (9, .ifCond .eq 11, 3, [], 0)]),
  (12, [(12, .iload_n 1, 1, [], 0), (13, .aload_n 0, 1, [], 0), (14, .getfield 158, 3, [12, 45, 0, 0, 1367, 0], 0), (17, .if_icmp .ne 5, 3, [], 0)]),
  (20, [(20, .iconst (-1), 1, [], 0), (21, .ireturn, 1, [], 0)]),
  (22, [(22, .aload_n 0, 1, [], 0), (23, .invokevirtual 465, 3, [0, 1, 1, 143, 1719, 16], 0), (26, .aload_n 0, 1, [], 0), (27, .getfield 158, 3, [12, 45, 0, 0, 1367, 0], 0), (30, .istore_n 2, 1, [], 0), (31, .aload_n 0, 1, [], 0), (32, .iload_n 1, 1, [], 0), (33, .putfield 158, 3, [12, 45, 0, 0, 0, 1367], 0), (36, .iload_n 2, 1, [], 0), (37, .ireturn, 1, [], 0)])]
def MX12_give (n : Nat) (x1 : Int) (h : Hp) : Option (Int × Hp) :=
(bndp (MX12_in x1 1 200) fun r1 =>
(if r1 = 0 then
(some ((-1), h))
else
(if x1 ≠ (h 113 45) then
(bndh (MX12_remembers n h) fun h1 =>
(ltt (h1 113 45) fun y1 =>
(ltt (up h1 113 45 x1) fun h2 =>
(some (y1, h2)))))
else
(some ((-1), h)))))
def wX12_give {ρ : Type} (n : Nat) : FN ρ := fun a h k => match a with
  | [_, x1] => bnd (MX12_give n x1 h) (fun r h2 => k r h2)
  | _ => none
def fsX12_give (n : Nat) (ρ : Type) : List (FN ρ) := [wX12_in, wX12_remembers n]
def KMX12_give (_ : Nat) : CT (Int × Hp) := []
set_option maxRecDepth 100000 in
theorem eMX12_give (n : Nat) (x1 : Int) (h : Hp) : MX12_give n x1 h =
  goAt false (kct (KMX12_give n)) (fun v h => some ((v, h))) (fsX12_give n _) sdX12_give 1000 0 [(0, 16, 113), (1, 0, x1)] [] h := rfl
theorem okX12_give : mokb (mi 155) = true := by decide +kernel
theorem rkX12_give : rkOK 1 (mi 155).1.2.2.2.2.2.2.1 (mi 155).1.2.2.2.1 := Or.inr (Or.inl ⟨rfl, rfl, rfl⟩)
def calX12_give : List Nat := [81, 143]
theorem foX12_give {l : Launch} {ρ : Type} (n : Nat) : fsOK l false mi calX12_give (fsX12_give n ρ) := ⟨sndX12_in, ⟨(sndX12_remembers n), trivial⟩⟩
theorem ok_sdX12_give : sdb (mi 155).1.2.1 (insOK mi (mi 155).1.1.cls (mi 155).1.2.2.1 (mi 155).1.2.2.2.2.1 (mi 155).1.2.2.2.2.2.1 calX12_give false 1) sdX12_give = true := by decide +kernel
theorem sMX12_give {l : Launch} {h0 h' : Hp} {v : Int} (h8 : nOf h0 = 148) (n : Nat) (x1 : Int) (h : Hp) {r : Int × Hp} (H : MX12_give n x1 h = some r) (hG : gWV v h' r) : PAt l false (mi 155).1 h0 v h' 0 [(0, 16, 113), (1, 0, x1)] [] h :=
  pat_w ok_sdX12_give rkX12_give h8 (foX12_give n) (fun v1 h1 q => by
    cases q
    exact ⟨hG.1, fun _ => hG.2⟩) (fun q9 h9 => by cases h9) ((eMX12_give n x1 h).symm.trans H)
theorem sndX12_give {ρ : Type} {l : Launch} (n : Nat) : SndF (ρ := ρ) l false (mi 155).1 (wX12_give n) := by
    intro a h k r H ha ho hn hf
    have h8 := hf rfl
    obtain ⟨x0, x1, rfl⟩ := len2 (show a.length = 2 from ha)
    have u0 := uq16 hn (ho (16, x0) (List.mem_cons_self))
    subst u0
    replace H : bnd (MX12_give n x1 h) (fun r h2 => k r h2) = some r := H
    obtain ⟨v2, h2, H1, H2⟩ := bnd_some H
    exact ⟨v2, h2, H2, met_mk (mok_base okX12_give).1 (by decide +kernel) (Nat.le_of_ble_eq_true rfl) ho (sMX12_give h8 n x1 h H1 ⟨rfl, rfl⟩), fun q => by cases q⟩
