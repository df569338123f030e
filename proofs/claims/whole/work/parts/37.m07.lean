/-! X12_tillDone_ -/
def sdX12_tillDone_ : SD := [(0, [(0, .iconst 0, 1, [], 0), (1, .istore_n 2, 1, [], 0)]),
  (2, [(2, .aload_n 0, 1, [], 0), (3, .invokevirtual 430, 3, [1, 0, 1, 140, 1707, 16], 0), (6, .ifCond .ne 35, 3, [], 0)]),
  (9, [(9, .iload_n 2, 1, [], 0), (10, .iload_n 1, 1, [], 0), (11, .if_icmp .eq 17, 3, [], 0)]),
  (14, [(14, .aload_n 0, 1, [], 0), (15, .getfield 415, 3, [12, 52, 0, 0, 1374, 0], 0), (18, .ifCond .eq 13, 3, [], 0)]),
  (21, [(21, .aload_n 0, 1, [], 0), (22, .invokevirtual 418, 3, [1, 1, 1, 138, 1711, 16], 0), (25, .ifCond .eq 6, 3, [], 0)]),
  (28, [(28, .bipush (-2), 2, [], 0), (30, .ireturn, 1, [], 0)]),
  (31, [(31, .aload_n 0, 1, [], 0), (32, .invokevirtual 443, 3, [0, 2, 1, 152, 1730, 16], 0), (35, .iinc 2 1, 3, [], 0), (38, .goto (-36), 3, [], 0)]),
  (41, [(41, .iload_n 2, 1, [], 0), (42, .ireturn, 1, [], 0)])]
def JX12_tillDone__31 (n : Nat) (bk : Int → Int → Hp → Option (Int × Hp)) (x1 x2 : Int) (h : Hp) : Option (Int × Hp) :=
(bndh (MX12_tick n h) fun h1 =>
(ltt (w32 (x2 + 1)) fun y1 =>
(bk x1 y1 h1)))
def BX12_tillDone__2 (n : Nat) : Nat → Int → Int → Hp → Option (Int × Hp)
  | 0, _, _, _ => none
  | f + 1, x1, x2, h =>
    (bndp (MX12_isDone h) fun r1 =>
    (if r1 ≠ 0 then
    (some (x2, h))
    else
    (if x2 = x1 then
    (some ((-2), h))
    else
    (if (h 113 52) = 0 then
    (JX12_tillDone__31 n (BX12_tillDone__2 n f) x1 x2 h)
    else
    (bndp (MX12_isRest h) fun r2 =>
    (if r2 = 0 then
    (JX12_tillDone__31 n (BX12_tillDone__2 n f) x1 x2 h)
    else
    (some ((-2), h))))))))
def LX12_tillDone__2 (n : Nat) (x1 x2 : Int) (h : Hp) : Option (Int × Hp) :=
(BX12_tillDone__2 n n x1 x2 h)
def MX12_tillDone_ (n : Nat) (x1 : Int) (h : Hp) : Option (Int × Hp) :=
(ltt 0 fun y1 =>
(LX12_tillDone__2 n x1 y1 h))
def wX12_tillDone_ {ρ : Type} (n : Nat) : FN ρ := fun a h k => match a with
  | [_, x1] => bnd (MX12_tillDone_ n x1 h) (fun r h2 => k r h2)
  | _ => none
def fsX12_tillDone_ (n : Nat) (ρ : Type) : List (FN ρ) := [wX12_isDone, wX12_isRest, wX12_tick n]
def KJX12_tillDone__31 (_ : Nat) (bk : Int → Int → Hp → Option (Int × Hp)) : CT (Int × Hp) := [(2, [(0, 16, (some 113)), (1, 0, none), (2, 0, none)], [], fun a c h => match a, c with
    | [x1, x2], [] => bk x1 x2 h
    | _, _ => none)]
set_option maxRecDepth 100000 in
theorem eJX12_tillDone__31 (n : Nat) (bk : Int → Int → Hp → Option (Int × Hp)) (x1 : Int) (x2 : Int) (h : Hp) : JX12_tillDone__31 n bk x1 x2 h =
  goAt false (kct (KJX12_tillDone__31 n bk)) (fun v h => some ((v, h))) (fsX12_tillDone_ n _) sdX12_tillDone_ 1000 31 [(0, 16, 113), (1, 0, x1), (2, 0, x2)] [] h := rfl
def KBX12_tillDone__2 (n : Nat) (bk : Int → Int → Hp → Option (Int × Hp)) : CT (Int × Hp) := [(2, [(0, 16, (some 113)), (1, 0, none), (2, 0, none)], [], fun a c h => match a, c with
    | [x1, x2], [] => bk x1 x2 h
    | _, _ => none),
  (31, [(0, 16, (some 113)), (1, 0, none), (2, 0, none)], [], fun a c h => match a, c with
    | [x1, x2], [] => JX12_tillDone__31 n bk x1 x2 h
    | _, _ => none)]
set_option maxRecDepth 100000 in
theorem eBX12_tillDone__2 (n f : Nat) (x1 : Int) (x2 : Int) (h : Hp) : BX12_tillDone__2 n (f + 1) x1 x2 h =
  goAt false (kct (KBX12_tillDone__2 n (BX12_tillDone__2 n f))) (fun v h => some ((v, h))) (fsX12_tillDone_ n _) sdX12_tillDone_ 1000 2 [(0, 16, 113), (1, 0, x1), (2, 0, x2)] [] h := rfl
def KMX12_tillDone_ (n : Nat) : CT (Int × Hp) := [(2, [(0, 16, (some 113)), (1, 0, none), (2, 0, none)], [], fun a c h => match a, c with
    | [x1, x2], [] => LX12_tillDone__2 n x1 x2 h
    | _, _ => none)]
set_option maxRecDepth 100000 in
theorem eMX12_tillDone_ (n : Nat) (x1 : Int) (h : Hp) : MX12_tillDone_ n x1 h =
  goAt false (kct (KMX12_tillDone_ n)) (fun v h => some ((v, h))) (fsX12_tillDone_ n _) sdX12_tillDone_ 1000 0 [(0, 16, 113), (1, 0, x1)] [] h := rfl
theorem okX12_tillDone_ : mokb (mi 180) = true := by decide +kernel
theorem rkX12_tillDone_ : rkOK 1 (mi 180).1.2.2.2.2.2.2.1 (mi 180).1.2.2.2.1 := Or.inr (Or.inl ⟨rfl, rfl, rfl⟩)
def calX12_tillDone_ : List Nat := [140, 138, 152]
theorem foX12_tillDone_ {l : Launch} {ρ : Type} (n : Nat) : fsOK l false mi calX12_tillDone_ (fsX12_tillDone_ n ρ) := ⟨sndX12_isDone, ⟨sndX12_isRest, ⟨(sndX12_tick n), trivial⟩⟩⟩
theorem ok_sdX12_tillDone_ : sdb (mi 180).1.2.1 (insOK mi (mi 180).1.1.cls (mi 180).1.2.2.1 (mi 180).1.2.2.2.2.1 (mi 180).1.2.2.2.2.2.1 calX12_tillDone_ false 1) sdX12_tillDone_ = true := by decide +kernel
theorem sJX12_tillDone__31 {l : Launch} {h0 h' : Hp} {v : Int} (h8 : nOf h0 = 148) (n : Nat) (bk : Int → Int → Hp → Option (Int × Hp)) (hbk : ∀ (x1 : Int) (x2 : Int) (h : Hp) (r : Int × Hp), bk x1 x2 h = some r → gWV v h' r → PAt l false (mi 180).1 h0 v h' 2 [(0, 16, 113), (1, 0, x1), (2, 0, x2)] [] h) (x1 : Int) (x2 : Int) (h : Hp) {r : Int × Hp} (H : JX12_tillDone__31 n bk x1 x2 h = some r) (hG : gWV v h' r) : PAt l false (mi 180).1 h0 v h' 31 [(0, 16, 113), (1, 0, x1), (2, 0, x2)] [] h :=
  pat_w ok_sdX12_tillDone_ rkX12_tillDone_ h8 (foX12_tillDone_ n) (fun v1 h1 q => by
    cases q
    exact ⟨hG.1, fun _ => hG.2⟩) (List.forall_mem_cons.mpr ⟨(fun a c h H => by
      dsimp only at H
      split at H
      · exact hbk _ _ _ _ H hG
      · cases H), (fun q9 h9 => by cases h9)⟩) ((eJX12_tillDone__31 n bk x1 x2 h).symm.trans H)
theorem sBX12_tillDone__2 {l : Launch} {h0 h' : Hp} {v : Int} (h8 : nOf h0 = 148) (n : Nat) : ∀ (f : Nat) (x1 : Int) (x2 : Int) (h : Hp) {r : Int × Hp}, BX12_tillDone__2 n f x1 x2 h = some r → gWV v h' r → PAt l false (mi 180).1 h0 v h' 2 [(0, 16, 113), (1, 0, x1), (2, 0, x2)] [] h := by
  intro f
  induction f with
  | zero =>
    intro x1 x2 h r H _
    have H2 : (none : Option (Int × Hp)) = some r := H
    cases H2
  | succ f ih =>
    intro x1 x2 h r H hG
    have ihk : ∀ (x1 : Int) (x2 : Int) (h : Hp) (r : Int × Hp), BX12_tillDone__2 n f x1 x2 h = some r → gWV v h' r → PAt l false (mi 180).1 h0 v h' 2 [(0, 16, 113), (1, 0, x1), (2, 0, x2)] [] h := fun x1 x2 h r9 a9 b9 => ih x1 x2 h a9 b9
    exact pat_w ok_sdX12_tillDone_ rkX12_tillDone_ h8 (foX12_tillDone_ n) (fun v1 h1 q => by
    cases q
    exact ⟨hG.1, fun _ => hG.2⟩) (List.forall_mem_cons.mpr ⟨(fun a c h H => by
      dsimp only at H
      split at H
      · exact ih _ _ _ H hG
      · cases H), (List.forall_mem_cons.mpr ⟨(fun a c h H => by
      dsimp only at H
      split at H
      · exact sJX12_tillDone__31 h8 n (BX12_tillDone__2 n f) ihk _ _ _ H hG
      · cases H), (fun q9 h9 => by cases h9)⟩)⟩) ((eBX12_tillDone__2 n f x1 x2 h).symm.trans H)
theorem sLX12_tillDone__2 {l : Launch} {h0 h' : Hp} {v : Int} (h8 : nOf h0 = 148) (n : Nat) (x1 : Int) (x2 : Int) (h : Hp) {r : Int × Hp} (H : LX12_tillDone__2 n x1 x2 h = some r) (hG : gWV v h' r) : PAt l false (mi 180).1 h0 v h' 2 [(0, 16, 113), (1, 0, x1), (2, 0, x2)] [] h :=
  sBX12_tillDone__2 h8 n n x1 x2 h H hG
theorem sMX12_tillDone_ {l : Launch} {h0 h' : Hp} {v : Int} (h8 : nOf h0 = 148) (n : Nat) (x1 : Int) (h : Hp) {r : Int × Hp} (H : MX12_tillDone_ n x1 h = some r) (hG : gWV v h' r) : PAt l false (mi 180).1 h0 v h' 0 [(0, 16, 113), (1, 0, x1)] [] h :=
  pat_w ok_sdX12_tillDone_ rkX12_tillDone_ h8 (foX12_tillDone_ n) (fun v1 h1 q => by
    cases q
    exact ⟨hG.1, fun _ => hG.2⟩) (List.forall_mem_cons.mpr ⟨(fun a c h H => by
      dsimp only at H
      split at H
      · exact sLX12_tillDone__2 h8 n _ _ _ H hG
      · cases H), (fun q9 h9 => by cases h9)⟩) ((eMX12_tillDone_ n x1 h).symm.trans H)
theorem sndX12_tillDone_ {ρ : Type} {l : Launch} (n : Nat) : SndF (ρ := ρ) l false (mi 180).1 (wX12_tillDone_ n) := by
    intro a h k r H ha ho hn hf
    have h8 := hf rfl
    obtain ⟨x0, x1, rfl⟩ := len2 (show a.length = 2 from ha)
    have u0 := uq16 hn (ho (16, x0) (List.mem_cons_self))
    subst u0
    replace H : bnd (MX12_tillDone_ n x1 h) (fun r h2 => k r h2) = some r := H
    obtain ⟨v2, h2, H1, H2⟩ := bnd_some H
    exact ⟨v2, h2, H2, met_mk (mok_base okX12_tillDone_).1 (by decide +kernel) (Nat.le_of_ble_eq_true rfl) ho (sMX12_tillDone_ h8 n x1 h H1 ⟨rfl, rfl⟩), fun q => by cases q⟩
/-! X12_tillDone -/
def sdX12_tillDone : SD := [(0, [(0, .aload_n 0, 1, [], 0), (1, .sipush 3000, 3, [], 0), (4, .invokevirtual 440, 3, [1, 0, 1, 180, 1829, 0, 16], 0), (7, .ireturn, 1, [], 0)])]
def MX12_tillDone (n : Nat) (h : Hp) : Option (Int × Hp) :=
(bnd (MX12_tillDone_ n 3000 h) fun r1 h1 =>
(some (r1, h1)))
def wX12_tillDone {ρ : Type} (n : Nat) : FN ρ := fun a h k => match a with
  | [_] => bnd (MX12_tillDone n h) (fun r h2 => k r h2)
  | _ => none
def fsX12_tillDone (n : Nat) (ρ : Type) : List (FN ρ) := [wX12_tillDone_ n]
def KMX12_tillDone (_ : Nat) : CT (Int × Hp) := []
set_option maxRecDepth 100000 in
theorem eMX12_tillDone (n : Nat) (h : Hp) : MX12_tillDone n h =
  goAt false (kct (KMX12_tillDone n)) (fun v h => some ((v, h))) (fsX12_tillDone n _) sdX12_tillDone 1000 0 [(0, 16, 113)] [] h := rfl
theorem okX12_tillDone : mokb (mi 181) = true := by decide +kernel
theorem rkX12_tillDone : rkOK 1 (mi 181).1.2.2.2.2.2.2.1 (mi 181).1.2.2.2.1 := Or.inr (Or.inl ⟨rfl, rfl, rfl⟩)
def calX12_tillDone : List Nat := [180]
theorem foX12_tillDone {l : Launch} {ρ : Type} (n : Nat) : fsOK l false mi calX12_tillDone (fsX12_tillDone n ρ) := ⟨(sndX12_tillDone_ n), trivial⟩
theorem ok_sdX12_tillDone : sdb (mi 181).1.2.1 (insOK mi (mi 181).1.1.cls (mi 181).1.2.2.1 (mi 181).1.2.2.2.2.1 (mi 181).1.2.2.2.2.2.1 calX12_tillDone false 1) sdX12_tillDone = true := by decide +kernel
theorem sMX12_tillDone {l : Launch} {h0 h' : Hp} {v : Int} (h8 : nOf h0 = 148) (n : Nat)  (h : Hp) {r : Int × Hp} (H : MX12_tillDone n h = some r) (hG : gWV v h' r) : PAt l false (mi 181).1 h0 v h' 0 [(0, 16, 113)] [] h :=
  pat_w ok_sdX12_tillDone rkX12_tillDone h8 (foX12_tillDone n) (fun v1 h1 q => by
    cases q
    exact ⟨hG.1, fun _ => hG.2⟩) (fun q9 h9 => by cases h9) ((eMX12_tillDone n h).symm.trans H)
theorem sndX12_tillDone {ρ : Type} {l : Launch} (n : Nat) : SndF (ρ := ρ) l false (mi 181).1 (wX12_tillDone n) := by
    intro a h k r H ha ho hn hf
    have h8 := hf rfl
    obtain ⟨x0, rfl⟩ := len1 (show a.length = 1 from ha)
    have u0 := uq16 hn (ho (16, x0) (List.mem_cons_self))
    subst u0
    replace H : bnd (MX12_tillDone n h) (fun r h2 => k r h2) = some r := H
    obtain ⟨v2, h2, H1, H2⟩ := bnd_some H
    exact ⟨v2, h2, H2, met_mk (mok_base okX12_tillDone).1 (by decide +kernel) (Nat.le_of_ble_eq_true rfl) ho (sMX12_tillDone h8 n  h H1 ⟨rfl, rfl⟩), fun q => by cases q⟩
/-! X12_till -/
def sdX12_till : SD := [(0, [(0, .aload_n 0, 1, [], 0), (1, .invokevirtual 459, 3, [0, 0, 1, 116, 1673, 16], 0), (4, .aload_n 0, 1, [], 0), (5, .invokevirtual 462, 3, [0, 1, 1, 137, 1703, 16], 0), (8, .aload_n 0, 1, [], 0), (9, .getfield 415, 3, [12, 52, 0, 0, 1374, 0], 0), (12, .ifCond .eq 15, 3, [], 0)]),
  (15, [(15, .aload_n 0, 1, [], 0), (16, .invokevirtual 430, 3, [1, 2, 1, 140, 1707, 16], 0), (19, .ifCond .ne 8, 3, [], 0)]),
  (22, [(22, .bipush (-2), 2, [], 0), (24, .goto 7, 3, [], 0)]),
  (27, [(27, .aload_n 0, 1, [], 0), (28, .invokevirtual 487, 3, [1, 3, 1, 181, 1825, 16], 0)]),
  (31, [(31, .ireturn, 1, [], 0)])]
def MX12_till (n : Nat) (h : Hp) : Option (Int × Hp) :=
(bndh (MX12_laysNow n h) fun h1 =>
(bndh (MX12_begins h1) fun h2 =>
(if (h2 113 52) = 0 then
(bnd (MX12_tillDone n h2) fun r1 h3 =>
(some (r1, h3)))
else
(bndp (MX12_isDone h2) fun r2 =>
(if r2 ≠ 0 then
(bnd (MX12_tillDone n h2) fun r3 h4 =>
(some (r3, h4)))
else
(some ((-2), h2)))))))
def wX12_till {ρ : Type} (n : Nat) : FN ρ := fun a h k => match a with
  | [_] => bnd (MX12_till n h) (fun r h2 => k r h2)
  | _ => none
def fsX12_till (n : Nat) (ρ : Type) : List (FN ρ) := [wX12_laysNow n, wX12_begins, wX12_isDone, wX12_tillDone n]
def KMX12_till (_ : Nat) : CT (Int × Hp) := []
set_option maxRecDepth 100000 in
theorem eMX12_till (n : Nat) (h : Hp) : MX12_till n h =
  goAt false (kct (KMX12_till n)) (fun v h => some ((v, h))) (fsX12_till n _) sdX12_till 1000 0 [(0, 16, 113)] [] h := rfl
theorem okX12_till : mokb (mi 182) = true := by decide +kernel
theorem rkX12_till : rkOK 1 (mi 182).1.2.2.2.2.2.2.1 (mi 182).1.2.2.2.1 := Or.inr (Or.inl ⟨rfl, rfl, rfl⟩)
def calX12_till : List Nat := [116, 137, 140, 181]
theorem foX12_till {l : Launch} {ρ : Type} (n : Nat) : fsOK l false mi calX12_till (fsX12_till n ρ) := ⟨(sndX12_laysNow n), ⟨sndX12_begins, ⟨sndX12_isDone, ⟨(sndX12_tillDone n), trivial⟩⟩⟩⟩
theorem ok_sdX12_till : sdb (mi 182).1.2.1 (insOK mi (mi 182).1.1.cls (mi 182).1.2.2.1 (mi 182).1.2.2.2.2.1 (mi 182).1.2.2.2.2.2.1 calX12_till false 1) sdX12_till = true := by decide +kernel
theorem sMX12_till {l : Launch} {h0 h' : Hp} {v : Int} (h8 : nOf h0 = 148) (n : Nat)  (h : Hp) {r : Int × Hp} (H : MX12_till n h = some r) (hG : gWV v h' r) : PAt l false (mi 182).1 h0 v h' 0 [(0, 16, 113)] [] h :=
  pat_w ok_sdX12_till rkX12_till h8 (foX12_till n) (fun v1 h1 q => by
    cases q
    exact ⟨hG.1, fun _ => hG.2⟩) (fun q9 h9 => by cases h9) ((eMX12_till n h).symm.trans H)
theorem sndX12_till {ρ : Type} {l : Launch} (n : Nat) : SndF (ρ := ρ) l false (mi 182).1 (wX12_till n) := by
    intro a h k r H ha ho hn hf
    have h8 := hf rfl
    obtain ⟨x0, rfl⟩ := len1 (show a.length = 1 from ha)
    have u0 := uq16 hn (ho (16, x0) (List.mem_cons_self))
    subst u0
    replace H : bnd (MX12_till n h) (fun r h2 => k r h2) = some r := H
    obtain ⟨v2, h2, H1, H2⟩ := bnd_some H
    exact ⟨v2, h2, H2, met_mk (mok_base okX12_till).1 (by decide +kernel) (Nat.le_of_ble_eq_true rfl) ho (sMX12_till h8 n  h H1 ⟨rfl, rfl⟩), fun q => by cases q⟩
/-! X11_canTry -/
def sdX11_canTry : SD := [(0, [(0, .iload_n 0, 1, [], 0), (1, .tableswitch 79 0 2 #[27, 44, 61], 27, [], 0)]),
  (28, [(28, .iload_n 1, 1, [], 0), (29, .ifCond .lt 14, 3, [], 0)]),
  (32, [(32, .iload_n 1, 1, [], 0), (33, .sipush 2000, 3, [], 0), (36, .if_icmp .gt 7, 3, [], 0)]),
  (39, [(39, .iconst 1, 1, [], 0), (40, .goto 4, 3, [], 0)]),
  (43, [(43, .iconst 0, 1, [], 0)]),
  (44, [(44, .ireturn, 1, [1], 0)]),
  (45, [(45, .iload_n 1, 1, [], 0), (46, .iconst 1, 1, [], 0), (47, .if_icmp .lt 13, 3, [], 0)]),
  (50, [(50, .iload_n 1, 1, [], 0), (51, .bipush 50, 2, [], 0), (53, .if_icmp .gt 7, 3, [], 0)]),
  (56, [(56, .iconst 1, 1, [], 0), (57, .goto 4, 3, [], 0)]),
  (60, [(60, .iconst 0, 1, [], 0)]),
  (61, [(61, .ireturn, 1, [1], 0)]),
  (62, [(62, .iload_n 1, 1, [], 0), (63, .iconst 1, 1, [], 0), (64, .if_icmp .lt 14, 3, [], 0)]),
  (67, [(67, .iload_n 1, 1, [], 0), (68, .sipush 200, 3, [], 0), (71, .if_icmp .gt 7, 3, [], 0)]),
  (74, [(74, .iconst 1, 1, [], 0), (75, .goto 4, 3, [], 0)]),
  (78, [(78, .iconst 0, 1, [], 0)]),
  (79, [(79, .ireturn, 1, [1], 0)]),
  (80, [(80, .iconst 0, 1, [], 0), (81, .ireturn, 1, [1], 0)])]
def MX11_canTry (x0 x1 : Int) : Option (Int) :=
(if x0 = 0 then
(if x1 < 0 then
(some 0)
else
(if 2000 < x1 then
(some 0)
else
(some 1)))
else
(if x0 = 1 then
(if x1 < 1 then
(some 0)
else
(if 50 < x1 then
(some 0)
else
(some 1)))
else
(if x0 = 2 then
(if x1 < 1 then
(some 0)
else
(if 200 < x1 then
(some 0)
else
(some 1)))
else
(some 0))))
def wX11_canTry {ρ : Type} : FN ρ := fun a h k => match a with
  | [x0, x1] => bndp (MX11_canTry x0 x1) (fun r => k r h)
  | _ => none
def fsX11_canTry (ρ : Type) : List (FN ρ) := []
def KMX11_canTry  : CT (Int) := []
set_option maxRecDepth 100000 in
theorem eMX11_canTry (x0 : Int) (x1 : Int) (h : Hp) : MX11_canTry x0 x1 =
  goAt false (kct (KMX11_canTry)) (fun v _ => some (v)) (fsX11_canTry _) sdX11_canTry 1000 0 [(0, 0, x0), (1, 0, x1)] [] h := rfl
theorem okX11_canTry : mokb (mi 183) = true := by decide +kernel
theorem rkX11_canTry : rkOK 4 (mi 183).1.2.2.2.2.2.2.1 (mi 183).1.2.2.2.1 := Or.inr (Or.inr (Or.inl ⟨rfl, rfl, rfl⟩))
def calX11_canTry : List Nat := []
theorem foX11_canTry {l : Launch} {ρ : Type} : fsOK l false mi calX11_canTry (fsX11_canTry ρ) := trivial
theorem frX11_canTry {ρ : Type} : ∀ fn ∈ fsX11_canTry ρ, RoF fn := (fun q9 h9 => by cases h9)
theorem ok_sdX11_canTry : sdb (mi 183).1.2.1 (insOK mi (mi 183).1.1.cls (mi 183).1.2.2.1 (mi 183).1.2.2.2.2.1 (mi 183).1.2.2.2.2.2.1 calX11_canTry false 4) sdX11_canTry = true := by decide +kernel
theorem sMX11_canTry {l : Launch} {h0 : Hp} {v : Int} (h8 : nOf h0 = 148)  (x0 : Int) (x1 : Int) (h : Hp) {r : Int} (H : MX11_canTry x0 x1 = some r) (hG : gV v r) : PAt l false (mi 183).1 h0 v h 0 [(0, 0, x0), (1, 0, x1)] [] h :=
  pat_ro ok_sdX11_canTry rfl rkX11_canTry h8 (foX11_canTry) (frX11_canTry) (fun v1 q => by
    cases q
    exact ⟨rfl, fun _ => hG⟩) (fun q9 h9 => by cases h9) ((eMX11_canTry x0 x1 h).symm.trans H)
theorem sndX11_canTry {ρ : Type} {l : Launch} : SndF (ρ := ρ) l false (mi 183).1 (wX11_canTry) := by
    intro a h k r H ha ho hn hf
    have h8 := hf rfl
    obtain ⟨x0, x1, rfl⟩ := len2 (show a.length = 2 from ha)
    replace H : bndp (MX11_canTry x0 x1) (fun r => k r h) = some r := H
    obtain ⟨v2, H1, H2⟩ := bndp_some H
    exact ⟨v2, h, H2, met_mk (mok_base okX11_canTry).1 (by decide +kernel) (Nat.le_of_ble_eq_true rfl) ho (sMX11_canTry h8 x0 x1 h H1 rfl), fun q => by cases q⟩
theorem roX11_canTry {ρ : Type} : RoF (wX11_canTry : FN ρ) := fun a h k k2 hk => by
  unfold wX11_canTry
  split
  · exact bndp_ro hk
  · rfl
/-! X11_tried -/
def sdX11_tried : SD := [(0, [(0, .iload_n 1, 1, [], 0), (1, .iload_n 2, 1, [], 0), (2, .invokestatic 245, 3, [1, 0, 3, 183, 1139, 0, 0], 0), (5, .ifCond .ne 5, 3, [], 0)]),
  (8, [(8, .iconst (-1), 1, [], 0), (9, .ireturn, 1, [], 0)]),
  (10, [(10, .iload_n 1, 1, [], 0), (11, .ifCond .ne 7, 3, [], 0)]),
  (14, [(14, .iload_n 2, 1, [], 0), (15, .goto 10, 3, [], 0)]),
  (18, [(18, .aload_n 0, 1, [], 0), (19, .getfield 10, 3, [11, 2, 14, 0, 692, 0], 0), (22, .getfield 115, 3, [10, 10, 0, 0, 198, 0], 0)]),
  (25, [(25, .istore_n 3, 1, [], 0), (26, .iload_n 1, 1, [], 0), (27, .iconst 1, 1, [], 0), (28, .if_icmp .ne 7, 3, [], 0)]),
  (31, [(31, .iload_n 2, 1, [], 0), (32, .goto 10, 3, [], 0)]),
  (35, [(35, .aload_n 0, 1, [], 0), (36, .getfield 10, 3, [11, 2, 14, 0, 692, 0], 0), (39, .getfield 118, 3, [10, 9, 0, 0, 194, 0], 0)]),
  (42, [(42, .istore 4, 2, [], 0), (44, .iload_n 1, 1, [], 0), (45, .iconst 2, 1, [], 0), (46, .if_icmp .ne 7, 3, [], 0)]),
  (49, [(49, .iload_n 2, 1, [], 0), (50, .goto 10, 3, [], 0)]),
  (53, [(53, .aload_n 0, 1, [], 0), (54, .getfield 57, 3, [11, 7, 12, 1, 697, 0], 64), (57, .getfield 203, 3, [8, 4, 0, 0, 494, 0], 0)]),
  (60, [(60, .istore 5, 2, [], 0), (62, .aload_n 0, 1, [], 0), (63, .getfield 51, 3, [11, 6, 5, 1, 696, 0], 57), (66, .aload_n 0, 1, [], 0), (67, .getfield 10, 3, [11, 2, 14, 0, 692, 0], 0), (70, .iload_n 3, 1, [], 0), (71, .iload 4, 2, [], 0), (73, .invokevirtual 121, 3, [0, 1, 1, 55, 567, 0, 0, 14, 5], 0), (76, .aload_n 0, 1, [], 0), (77, .getfield 51, 3, [11, 6, 5, 1, 696, 0], 57), (80, .iload 5, 2, [], 0), (82, .invokevirtual 125, 3, [1, 2, 1, 59, 601, 0, 5], 0), (85, .pop, 1, [], 0), (86, .aload_n 0, 1, [], 0), (87, .getfield 61, 3, [11, 8, 12, 1, 698, 0], 65), (90, .aload_n 0, 1, [], 0), (91, .getfield 10, 3, [11, 2, 14, 0, 692, 0], 0), (94, .iload 5, 2, [], 0), (96, .invokevirtual 132, 3, [0, 3, 1, 73, 678, 0, 14, 12], 0), (99, .aload_n 0, 1, [], 0), (100, .getfield 51, 3, [11, 6, 5, 1, 696, 0], 57), (103, .aload_n 0, 1, [], 0), (104, .getfield 61, 3, [11, 8, 12, 1, 698, 0], 65), (107, .sipush 3000, 3, [], 0), (110, .invokevirtual 241, 3, [1, 4, 1, 178, 1131, 0, 12, 5], 0), (113, .ireturn, 1, [], 0)])]
def JX11_tried_60 (n : Nat) (x3 x4 z0 : Int) (h : Hp) : Option (Int × Hp) :=
(ltt z0 fun y1 =>
(bndh (MX1_settle n 57 (h 0 2) x3 x4 h) fun h1 =>
(bnd (MX1_grant n 57 y1 h1) fun r1 h2 =>
(bndh (MX8_begin n 65 (h2 0 2) y1 h2) fun h3 =>
(bnd (MX1_ticksToEnd n 57 65 3000 h3) fun r2 h4 =>
(some (r2, h4)))))))
def JX11_tried_42 (n : Nat) (x1 x2 x3 z0 : Int) (h : Hp) : Option (Int × Hp) :=
(ltt z0 fun y1 =>
(if x1 ≠ 2 then
(JX11_tried_60 n x3 y1 (h 64 4) h)
else
(JX11_tried_60 n x3 y1 x2 h)))
def JX11_tried_25 (n : Nat) (x1 x2 z0 : Int) (h : Hp) : Option (Int × Hp) :=
(ltt z0 fun y1 =>
(if x1 ≠ 1 then
(JX11_tried_42 n x1 x2 y1 (h (h 0 2) 9) h)
else
(JX11_tried_42 n x1 x2 y1 x2 h)))
def MX11_tried (n : Nat) (x1 x2 : Int) (h : Hp) : Option (Int × Hp) :=
(bndp (MX11_canTry x1 x2) fun r1 =>
(if r1 ≠ 0 then
(if x1 ≠ 0 then
(JX11_tried_25 n x1 x2 (h (h 0 2) 10) h)
else
(JX11_tried_25 n x1 x2 x2 h))
else
(some ((-1), h))))
def wX11_tried {ρ : Type} (n : Nat) : FN ρ := fun a h k => match a with
  | [_, x1, x2] => bnd (MX11_tried n x1 x2 h) (fun r h2 => k r h2)
  | _ => none
def fsX11_tried (n : Nat) (ρ : Type) : List (FN ρ) := [wX11_canTry, wX1_settle n, wX1_grant n, wX8_begin n, wX1_ticksToEnd n]
def KJX11_tried_60 (_ : Nat) : CT (Int × Hp) := []
set_option maxRecDepth 100000 in
theorem eJX11_tried_60 (n : Nat) (x3 : Int) (x4 : Int) (z0 : Int) (h : Hp) : JX11_tried_60 n x3 x4 z0 h =
  goAt false (kct (KJX11_tried_60 n)) (fun v h => some ((v, h))) (fsX11_tried n _) sdX11_tried 1000 60 [(0, 15, 0), (3, 0, x3), (4, 0, x4)] [(0, z0)] h := rfl
def KJX11_tried_42 (n : Nat) : CT (Int × Hp) := [(60, [(0, 15, (some 0)), (3, 0, none), (4, 0, none)], [(0, none)], fun a c h => match a, c with
    | [x3, x4], [z0] => JX11_tried_60 n x3 x4 z0 h
    | _, _ => none)]
set_option maxRecDepth 100000 in
theorem eJX11_tried_42 (n : Nat) (x1 : Int) (x2 : Int) (x3 : Int) (z0 : Int) (h : Hp) : JX11_tried_42 n x1 x2 x3 z0 h =
  goAt false (kct (KJX11_tried_42 n)) (fun v h => some ((v, h))) (fsX11_tried n _) sdX11_tried 1000 42 [(0, 15, 0), (1, 0, x1), (2, 0, x2), (3, 0, x3)] [(0, z0)] h := rfl
def KJX11_tried_25 (n : Nat) : CT (Int × Hp) := [(42, [(0, 15, (some 0)), (1, 0, none), (2, 0, none), (3, 0, none)], [(0, none)], fun a c h => match a, c with
    | [x1, x2, x3], [z0] => JX11_tried_42 n x1 x2 x3 z0 h
    | _, _ => none)]
set_option maxRecDepth 100000 in
theorem eJX11_tried_25 (n : Nat) (x1 : Int) (x2 : Int) (z0 : Int) (h : Hp) : JX11_tried_25 n x1 x2 z0 h =
  goAt false (kct (KJX11_tried_25 n)) (fun v h => some ((v, h))) (fsX11_tried n _) sdX11_tried 1000 25 [(0, 15, 0), (1, 0, x1), (2, 0, x2)] [(0, z0)] h := rfl
def KMX11_tried (n : Nat) : CT (Int × Hp) := [(25, [(0, 15, (some 0)), (1, 0, none), (2, 0, none)], [(0, none)], fun a c h => match a, c with
    | [x1, x2], [z0] => JX11_tried_25 n x1 x2 z0 h
    | _, _ => none)]
set_option maxRecDepth 100000 in
theorem eMX11_tried (n : Nat) (x1 : Int) (x2 : Int) (h : Hp) : MX11_tried n x1 x2 h =
  goAt false (kct (KMX11_tried n)) (fun v h => some ((v, h))) (fsX11_tried n _) sdX11_tried 1000 0 [(0, 15, 0), (1, 0, x1), (2, 0, x2)] [] h := rfl
theorem okX11_tried : mokb (mi 184) = true := by decide +kernel
theorem rkX11_tried : rkOK 1 (mi 184).1.2.2.2.2.2.2.1 (mi 184).1.2.2.2.1 := Or.inr (Or.inl ⟨rfl, rfl, rfl⟩)
def calX11_tried : List Nat := [183, 55, 59, 73, 178]
theorem foX11_tried {l : Launch} {ρ : Type} (n : Nat) : fsOK l false mi calX11_tried (fsX11_tried n ρ) := ⟨sndX11_canTry, ⟨(sndX1_settle n), ⟨(sndX1_grant n), ⟨(sndX8_begin n), ⟨(sndX1_ticksToEnd n), trivial⟩⟩⟩⟩⟩
theorem ok_sdX11_tried : sdb (mi 184).1.2.1 (insOK mi (mi 184).1.1.cls (mi 184).1.2.2.1 (mi 184).1.2.2.2.2.1 (mi 184).1.2.2.2.2.2.1 calX11_tried false 1) sdX11_tried = true := by decide +kernel
theorem sJX11_tried_60 {l : Launch} {h0 h' : Hp} {v : Int} (h8 : nOf h0 = 148) (n : Nat) (x3 : Int) (x4 : Int) (z0 : Int) (h : Hp) {r : Int × Hp} (H : JX11_tried_60 n x3 x4 z0 h = some r) (hG : gWV v h' r) : PAt l false (mi 184).1 h0 v h' 60 [(0, 15, 0), (3, 0, x3), (4, 0, x4)] [(0, z0)] h :=
  pat_w ok_sdX11_tried rkX11_tried h8 (foX11_tried n) (fun v1 h1 q => by
    cases q
    exact ⟨hG.1, fun _ => hG.2⟩) (fun q9 h9 => by cases h9) ((eJX11_tried_60 n x3 x4 z0 h).symm.trans H)
theorem sJX11_tried_42 {l : Launch} {h0 h' : Hp} {v : Int} (h8 : nOf h0 = 148) (n : Nat) (x1 : Int) (x2 : Int) (x3 : Int) (z0 : Int) (h : Hp) {r : Int × Hp} (H : JX11_tried_42 n x1 x2 x3 z0 h = some r) (hG : gWV v h' r) : PAt l false (mi 184).1 h0 v h' 42 [(0, 15, 0), (1, 0, x1), (2, 0, x2), (3, 0, x3)] [(0, z0)] h :=
  pat_w ok_sdX11_tried rkX11_tried h8 (foX11_tried n) (fun v1 h1 q => by
    cases q
    exact ⟨hG.1, fun _ => hG.2⟩) (List.forall_mem_cons.mpr ⟨(fun a c h H => by
      dsimp only at H
      split at H
      · exact sJX11_tried_60 h8 n _ _ _ _ H hG
      · cases H), (fun q9 h9 => by cases h9)⟩) ((eJX11_tried_42 n x1 x2 x3 z0 h).symm.trans H)
theorem sJX11_tried_25 {l : Launch} {h0 h' : Hp} {v : Int} (h8 : nOf h0 = 148) (n : Nat) (x1 : Int) (x2 : Int) (z0 : Int) (h : Hp) {r : Int × Hp} (H : JX11_tried_25 n x1 x2 z0 h = some r) (hG : gWV v h' r) : PAt l false (mi 184).1 h0 v h' 25 [(0, 15, 0), (1, 0, x1), (2, 0, x2)] [(0, z0)] h :=
  pat_w ok_sdX11_tried rkX11_tried h8 (foX11_tried n) (fun v1 h1 q => by
    cases q
    exact ⟨hG.1, fun _ => hG.2⟩) (List.forall_mem_cons.mpr ⟨(fun a c h H => by
      dsimp only at H
      split at H
      · exact sJX11_tried_42 h8 n _ _ _ _ _ H hG
      · cases H), (fun q9 h9 => by cases h9)⟩) ((eJX11_tried_25 n x1 x2 z0 h).symm.trans H)
theorem sMX11_tried {l : Launch} {h0 h' : Hp} {v : Int} (h8 : nOf h0 = 148) (n : Nat) (x1 : Int) (x2 : Int) (h : Hp) {r : Int × Hp} (H : MX11_tried n x1 x2 h = some r) (hG : gWV v h' r) : PAt l false (mi 184).1 h0 v h' 0 [(0, 15, 0), (1, 0, x1), (2, 0, x2)] [] h :=
  pat_w ok_sdX11_tried rkX11_tried h8 (foX11_tried n) (fun v1 h1 q => by
    cases q
    exact ⟨hG.1, fun _ => hG.2⟩) (List.forall_mem_cons.mpr ⟨(fun a c h H => by
      dsimp only at H
      split at H
      · exact sJX11_tried_25 h8 n _ _ _ _ H hG
      · cases H), (fun q9 h9 => by cases h9)⟩) ((eMX11_tried n x1 x2 h).symm.trans H)
theorem sndX11_tried {ρ : Type} {l : Launch} (n : Nat) : SndF (ρ := ρ) l false (mi 184).1 (wX11_tried n) := by
    intro a h k r H ha ho hn hf
    have h8 := hf rfl
    obtain ⟨x0, x1, x2, rfl⟩ := len3 (show a.length = 3 from ha)
    have u0 := uq15 hn (ho (15, x0) (List.mem_cons_self))
    subst u0
    replace H : bnd (MX11_tried n x1 x2 h) (fun r h2 => k r h2) = some r := H
    obtain ⟨v2, h2, H1, H2⟩ := bnd_some H
    exact ⟨v2, h2, H2, met_mk (mok_base okX11_tried).1 (by decide +kernel) (Nat.le_of_ble_eq_true rfl) ho (sMX11_tried h8 n x1 x2 h H1 ⟨rfl, rfl⟩), fun q => by cases q⟩
/-! X12_tillFromBegin -/
def sdX12_tillFromBegin : SD := [(0, [(0, .aload_n 0, 1, [], 0), (1, .iconst 0, 1, [], 0), (2, .putfield 406, 3, [12, 48, 0, 0, 0, 1370], 0), (5, .aload_n 0, 1, [], 0), (6, .iconst 0, 1, [], 0), (7, .putfield 409, 3, [12, 49, 0, 0, 0, 1371], 0), (10, .aload_n 0, 1, [], 0), (11, .iconst 0, 1, [], 0), (12, .putfield 412, 3, [12, 50, 0, 0, 0, 1372], 0), (15, .aload_n 0, 1, [], 0), (16, .iconst 0, 1, [], 0), (17, .putfield 415, 3, [12, 52, 0, 0, 1, 1374], 0), (20, .aload_n 0, 1, [], 0), (21, .invokevirtual 487, 3, [1, 0, 1, 181, 1825, 16], 0), (24, .ireturn, 1, [], 0)])]
def MX12_tillFromBegin (n : Nat) (h : Hp) : Option (Int × Hp) :=
(ltt (up h 113 48 0) fun h1 =>
(ltt (up h1 113 49 0) fun h2 =>
(ltt (up h2 113 50 0) fun h3 =>
(ltt (up h3 113 52 0) fun h4 =>
(bnd (MX12_tillDone n h4) fun r1 h5 =>
(some (r1, h5)))))))
def wX12_tillFromBegin {ρ : Type} (n : Nat) : FN ρ := fun a h k => match a with
  | [_] => bnd (MX12_tillFromBegin n h) (fun r h2 => k r h2)
  | _ => none
def fsX12_tillFromBegin (n : Nat) (ρ : Type) : List (FN ρ) := [wX12_tillDone n]
def KMX12_tillFromBegin (_ : Nat) : CT (Int × Hp) := []
set_option maxRecDepth 100000 in
theorem eMX12_tillFromBegin (n : Nat) (h : Hp) : MX12_tillFromBegin n h =
  goAt false (kct (KMX12_tillFromBegin n)) (fun v h => some ((v, h))) (fsX12_tillFromBegin n _) sdX12_tillFromBegin 1000 0 [(0, 16, 113)] [] h := rfl
theorem okX12_tillFromBegin : mokb (mi 185) = true := by decide +kernel
theorem rkX12_tillFromBegin : rkOK 1 (mi 185).1.2.2.2.2.2.2.1 (mi 185).1.2.2.2.1 := Or.inr (Or.inl ⟨rfl, rfl, rfl⟩)
def calX12_tillFromBegin : List Nat := [181]
theorem foX12_tillFromBegin {l : Launch} {ρ : Type} (n : Nat) : fsOK l false mi calX12_tillFromBegin (fsX12_tillFromBegin n ρ) := ⟨(sndX12_tillDone n), trivial⟩
theorem ok_sdX12_tillFromBegin : sdb (mi 185).1.2.1 (insOK mi (mi 185).1.1.cls (mi 185).1.2.2.1 (mi 185).1.2.2.2.2.1 (mi 185).1.2.2.2.2.2.1 calX12_tillFromBegin false 1) sdX12_tillFromBegin = true := by decide +kernel
theorem sMX12_tillFromBegin {l : Launch} {h0 h' : Hp} {v : Int} (h8 : nOf h0 = 148) (n : Nat)  (h : Hp) {r : Int × Hp} (H : MX12_tillFromBegin n h = some r) (hG : gWV v h' r) : PAt l false (mi 185).1 h0 v h' 0 [(0, 16, 113)] [] h :=
  pat_w ok_sdX12_tillFromBegin rkX12_tillFromBegin h8 (foX12_tillFromBegin n) (fun v1 h1 q => by
    cases q
    exact ⟨hG.1, fun _ => hG.2⟩) (fun q9 h9 => by cases h9) ((eMX12_tillFromBegin n h).symm.trans H)
theorem sndX12_tillFromBegin {ρ : Type} {l : Launch} (n : Nat) : SndF (ρ := ρ) l false (mi 185).1 (wX12_tillFromBegin n) := by
    intro a h k r H ha ho hn hf
    have h8 := hf rfl
    obtain ⟨x0, rfl⟩ := len1 (show a.length = 1 from ha)
    have u0 := uq16 hn (ho (16, x0) (List.mem_cons_self))
    subst u0
    replace H : bnd (MX12_tillFromBegin n h) (fun r h2 => k r h2) = some r := H
    obtain ⟨v2, h2, H1, H2⟩ := bnd_some H
    exact ⟨v2, h2, H2, met_mk (mok_base okX12_tillFromBegin).1 (by decide +kernel) (Nat.le_of_ble_eq_true rfl) ho (sMX12_tillFromBegin h8 n  h H1 ⟨rfl, rfl⟩), fun q => by cases q⟩
/-! X12_tried -/
def sdX12_tried : SD := [(0, [(0, .iload_n 1, 1, [], 0), (1, .tableswitch 135 0 2 #[27, 62, 97], 27, [], 0)]),
  (28, [(28, .iload_n 2, 1, [], 0), (29, .i2l, 1, [], 0), (30, .lconst 0, 1, [], 0), (31, .ldc2_w 489, 3, [1, 1837], 2000), (34, .invokestatic 217, 3, [1, 0, 3, 81, 1561, 1, 1, 1], 0), (37, .ifCond .ne 5, 3, [], 0)]),
  (40, [(40, .iconst (-1), 1, [], 0), (41, .ireturn, 1, [], 0)]),
  (42, [(42, .aload_n 0, 1, [], 0), (43, .iload_n 2, 1, [], 0), (44, .aload_n 0, 1, [], 0), (45, .getfield 15, 3, [12, 1, 84, 1, 1323, 0], 2), (48, .bipush 6, 2, [], 0), (50, .iaload, 1, [], 0), (51, .aload_n 0, 1, [], 0), (52, .getfield 158, 3, [12, 45, 0, 0, 1367, 0], 0), (55, .invokevirtual 385, 3, [0, 1, 1, 115, 1677, 0, 0, 0, 16], 0), (58, .aload_n 0, 1, [], 0), (59, .invokevirtual 491, 3, [1, 2, 1, 185, 1838, 16], 0), (62, .ireturn, 1, [], 0)]),
  (63, [(63, .iload_n 2, 1, [], 0), (64, .i2l, 1, [], 0), (65, .lconst 1, 1, [], 0), (66, .ldc2_w 494, 3, [1, 1842], 50), (69, .invokestatic 217, 3, [1, 0, 3, 81, 1561, 1, 1, 1], 0), (72, .ifCond .ne 5, 3, [], 0)]),
  (75, [(75, .iconst (-1), 1, [], 0), (76, .ireturn, 1, [], 0)]),
  (77, [(77, .aload_n 0, 1, [], 0), (78, .aload_n 0, 1, [], 0), (79, .getfield 15, 3, [12, 1, 84, 1, 1323, 0], 2), (82, .bipush 7, 2, [], 0), (84, .iaload, 1, [], 0), (85, .iload_n 2, 1, [], 0), (86, .aload_n 0, 1, [], 0), (87, .getfield 158, 3, [12, 45, 0, 0, 1367, 0], 0), (90, .invokevirtual 385, 3, [0, 1, 1, 115, 1677, 0, 0, 0, 16], 0), (93, .aload_n 0, 1, [], 0), (94, .invokevirtual 491, 3, [1, 2, 1, 185, 1838, 16], 0), (97, .ireturn, 1, [], 0)]),
  (98, [(98, .iload_n 2, 1, [], 0), (99, .i2l, 1, [], 0), (100, .lconst 1, 1, [], 0), (101, .ldc2_w 468, 3, [1, 1769], 200), (104, .invokestatic 217, 3, [1, 0, 3, 81, 1561, 1, 1, 1], 0), (107, .ifCond .ne 5, 3, [], 0)]),
  (110, [(110, .iconst (-1), 1, [], 0), (111, .ireturn, 1, [], 0)]),
  (112, [(112, .aload_n 0, 1, [], 0), (113, .aload_n 0, 1, [], 0), (114, .getfield 15, 3, [12, 1, 84, 1, 1323, 0], 2), (117, .bipush 7, 2, [], 0), (119, .iaload, 1, [], 0), (120, .aload_n 0, 1, [], 0), (121, .getfield 15, 3, [12, 1, 84, 1, 1323, 0], 2), (124, .bipush 6, 2, [], 0), (126, .iaload, 1, [], 0), (127, .iload_n 2, 1, [], 0), (128, .invokevirtual 385, 3, [0, 1, 1, 115, 1677, 0, 0, 0, 16], 0), (131, .aload_n 0, 1, [], 0), (132, .invokevirtual 491, 3, [1, 2, 1, 185, 1838, 16], 0), (135, .ireturn, 1, [], 0)]),
  (136, [(136, .iconst (-1), 1, [], 0), (137, .ireturn, 1, [], 0)])]
def MX12_tried (n : Nat) (x1 x2 : Int) (h : Hp) : Option (Int × Hp) :=
(if x1 = 0 then
(bndp (MX12_in x2 0 2000) fun r5 =>
(if r5 ≠ 0 then
(grd (0 ≤ 6 ∧ 6 < alen 84)
(bndh (MX12_lays n x2 (h 115 6) (h 113 45) h) fun h5 =>
(bnd (MX12_tillFromBegin n h5) fun r6 h6 =>
(some (r6, h6)))))
else
(some ((-1), h))))
else
(if x1 = 1 then
(bndp (MX12_in x2 1 50) fun r3 =>
(if r3 ≠ 0 then
(grd (0 ≤ 7 ∧ 7 < alen 84)
(bndh (MX12_lays n (h 115 7) x2 (h 113 45) h) fun h3 =>
(bnd (MX12_tillFromBegin n h3) fun r4 h4 =>
(some (r4, h4)))))
else
(some ((-1), h))))
else
(if x1 = 2 then
(bndp (MX12_in x2 1 200) fun r1 =>
(if r1 ≠ 0 then
(grd (0 ≤ 7 ∧ 7 < alen 84)
(grd (0 ≤ 6 ∧ 6 < alen 84)
(bndh (MX12_lays n (h 115 7) (h 115 6) x2 h) fun h1 =>
(bnd (MX12_tillFromBegin n h1) fun r2 h2 =>
(some (r2, h2))))))
else
(some ((-1), h))))
else
(some ((-1), h)))))
def wX12_tried {ρ : Type} (n : Nat) : FN ρ := fun a h k => match a with
  | [_, x1, x2] => bnd (MX12_tried n x1 x2 h) (fun r h2 => k r h2)
  | _ => none
def fsX12_tried (n : Nat) (ρ : Type) : List (FN ρ) := [wX12_in, wX12_lays n, wX12_tillFromBegin n]
def KMX12_tried (_ : Nat) : CT (Int × Hp) := []
set_option maxRecDepth 100000 in
theorem eMX12_tried (n : Nat) (x1 : Int) (x2 : Int) (h : Hp) : MX12_tried n x1 x2 h =
  goAt false (kct (KMX12_tried n)) (fun v h => some ((v, h))) (fsX12_tried n _) sdX12_tried 1000 0 [(0, 16, 113), (1, 0, x1), (2, 0, x2)] [] h := rfl
theorem okX12_tried : mokb (mi 186) = true := by decide +kernel
theorem rkX12_tried : rkOK 1 (mi 186).1.2.2.2.2.2.2.1 (mi 186).1.2.2.2.1 := Or.inr (Or.inl ⟨rfl, rfl, rfl⟩)
def calX12_tried : List Nat := [81, 115, 185]
theorem foX12_tried {l : Launch} {ρ : Type} (n : Nat) : fsOK l false mi calX12_tried (fsX12_tried n ρ) := ⟨sndX12_in, ⟨(sndX12_lays n), ⟨(sndX12_tillFromBegin n), trivial⟩⟩⟩
theorem ok_sdX12_tried : sdb (mi 186).1.2.1 (insOK mi (mi 186).1.1.cls (mi 186).1.2.2.1 (mi 186).1.2.2.2.2.1 (mi 186).1.2.2.2.2.2.1 calX12_tried false 1) sdX12_tried = true := by decide +kernel
theorem sMX12_tried {l : Launch} {h0 h' : Hp} {v : Int} (h8 : nOf h0 = 148) (n : Nat) (x1 : Int) (x2 : Int) (h : Hp) {r : Int × Hp} (H : MX12_tried n x1 x2 h = some r) (hG : gWV v h' r) : PAt l false (mi 186).1 h0 v h' 0 [(0, 16, 113), (1, 0, x1), (2, 0, x2)] [] h :=
  pat_w ok_sdX12_tried rkX12_tried h8 (foX12_tried n) (fun v1 h1 q => by
    cases q
    exact ⟨hG.1, fun _ => hG.2⟩) (fun q9 h9 => by cases h9) ((eMX12_tried n x1 x2 h).symm.trans H)
theorem sndX12_tried {ρ : Type} {l : Launch} (n : Nat) : SndF (ρ := ρ) l false (mi 186).1 (wX12_tried n) := by
    intro a h k r H ha ho hn hf
    have h8 := hf rfl
    obtain ⟨x0, x1, x2, rfl⟩ := len3 (show a.length = 3 from ha)
    have u0 := uq16 hn (ho (16, x0) (List.mem_cons_self))
    subst u0
    replace H : bnd (MX12_tried n x1 x2 h) (fun r h2 => k r h2) = some r := H
    obtain ⟨v2, h2, H1, H2⟩ := bnd_some H
    exact ⟨v2, h2, H2, met_mk (mok_base okX12_tried).1 (by decide +kernel) (Nat.le_of_ble_eq_true rfl) ho (sMX12_tried h8 n x1 x2 h H1 ⟨rfl, rfl⟩), fun q => by cases q⟩
/-! X11_slowest -/
def sdX11_slowest : SD := [(0, [(0, .iload_n 1, 1, [], 0), (1, .ifCond .lt 10, 3, [], 0)]),
  (4, [(4, .iload_n 1, 1, [], 0), (5, .sipush 3000, 3, [], 0), (8, .if_icmp .le 5, 3, [], 0)]),
  (11, [(11, .iconst (-1), 1, [], 0), (12, .ireturn, 1, [], 0)]),
  (13, [(13, .aload_n 0, 1, [], 0), (14, .getfield 51, 3, [11, 6, 5, 1, 696, 0], 57), (17, .aload_n 0, 1, [], 0), (18, .getfield 10, 3, [11, 2, 14, 0, 692, 0], 0), (21, .aload_n 0, 1, [], 0), (22, .getfield 10, 3, [11, 2, 14, 0, 692, 0], 0), (25, .getfield 115, 3, [10, 10, 0, 0, 198, 0], 0), (28, .aload_n 0, 1, [], 0), (29, .getfield 10, 3, [11, 2, 14, 0, 692, 0], 0), (32, .getfield 118, 3, [10, 9, 0, 0, 194, 0], 0), (35, .invokevirtual 121, 3, [0, 0, 1, 55, 567, 0, 0, 14, 5], 0), (38, .bipush 10, 2, [], 0), (40, .istore_n 2, 1, [], 0)]),
  (41, [(41, .iload_n 2, 1, [], 0), (42, .sipush 200, 3, [], 0), (45, .if_icmp .gt 66, 3, [], 0)]),
  (48, [(48, .aload_n 0, 1, [], 0), (49, .getfield 51, 3, [11, 6, 5, 1, 696, 0], 57), (52, .iload_n 2, 1, [], 0), (53, .invokevirtual 125, 3, [1, 1, 1, 59, 601, 0, 5], 0), (56, .istore_n 3, 1, [], 0), (57, .iload_n 2, 1, [], 0), (58, .bipush 10, 2, [], 0), (60, .if_icmp .eq 7, 3, [], 0)]),
  (63, [(63, .iload_n 3, 1, [], 0), (64, .ifCond .eq 41, 3, [], 0)]),
  (67, [(67, .aload_n 0, 1, [], 0), (68, .getfield 61, 3, [11, 8, 12, 1, 698, 0], 65), (71, .aload_n 0, 1, [], 0), (72, .getfield 57, 3, [11, 7, 12, 1, 697, 0], 64), (75, .invokevirtual 225, 3, [0, 2, 1, 124, 1120, 12, 12], 0), (78, .aload_n 0, 1, [], 0), (79, .getfield 61, 3, [11, 8, 12, 1, 698, 0], 65), (82, .iconst 0, 1, [], 0), (83, .putfield 206, 3, [8, 5, 0, 0, 1, 497], 0), (86, .aload_n 0, 1, [], 0), (87, .getfield 51, 3, [11, 6, 5, 1, 696, 0], 57), (90, .aload_n 0, 1, [], 0), (91, .getfield 61, 3, [11, 8, 12, 1, 698, 0], 65), (94, .iload_n 1, 1, [], 0), (95, .invokevirtual 241, 3, [1, 3, 1, 178, 1131, 0, 12, 5], 0), (98, .bipush (-2), 2, [], 0), (100, .if_icmp .eq 5, 3, [], 0)]),
  (103, [(103, .iload_n 2, 1, [], 0), (104, .ireturn, 1, [], 0)]),
  (105, [(105, .iinc 2 10, 3, [], 0), (108, .goto (-67), 3, [], 0)]),
  (111, [(111, .bipush (-2), 2, [], 0), (113, .ireturn, 1, [], 0)])]
def JX11_slowest_67 (n : Nat) (bk : Int → Int → Hp → Option (Int × Hp)) (x1 x2 : Int) (h : Hp) : Option (Int × Hp) :=
(bndh (MX8_become 65 64 h) fun h1 =>
(ltt (up h1 65 5 0) fun h2 =>
(bnd (MX1_ticksToEnd n 57 65 x1 h2) fun r1 h3 =>
(if r1 = (-2) then
(ltt (w32 (x2 + 10)) fun y1 =>
(bk x1 y1 h3))
else
(some (x2, h3))))))
def BX11_slowest_41 (n : Nat) : Nat → Int → Int → Hp → Option (Int × Hp)
  | 0, _, _, _ => none
  | f + 1, x1, x2, h =>
    (if 200 < x2 then
    (some ((-2), h))
    else
    (bnd (MX1_grant n 57 x2 h) fun r1 h1 =>
    (ltt r1 fun y1 =>
    (if x2 = 10 then
    (JX11_slowest_67 n (BX11_slowest_41 n f) x1 x2 h1)
    else
    (if y1 = 0 then
    (ltt (w32 (x2 + 10)) fun y2 =>
    (BX11_slowest_41 n f x1 y2 h1))
    else
    (JX11_slowest_67 n (BX11_slowest_41 n f) x1 x2 h1))))))
def LX11_slowest_41 (n : Nat) (x1 x2 : Int) (h : Hp) : Option (Int × Hp) :=
(BX11_slowest_41 n n x1 x2 h)
def MX11_slowest (n : Nat) (x1 : Int) (h : Hp) : Option (Int × Hp) :=
(if x1 < 0 then
(some ((-1), h))
else
(if x1 ≤ 3000 then
(bndh (MX1_settle n 57 (h 0 2) (h (h 0 2) 10) (h (h 0 2) 9) h) fun h1 =>
(ltt 10 fun y1 =>
(LX11_slowest_41 n x1 y1 h1)))
else
(some ((-1), h))))
def wX11_slowest {ρ : Type} (n : Nat) : FN ρ := fun a h k => match a with
  | [_, x1] => bnd (MX11_slowest n x1 h) (fun r h2 => k r h2)
  | _ => none
def fsX11_slowest (n : Nat) (ρ : Type) : List (FN ρ) := [wX1_settle n, wX1_grant n, wX8_become, wX1_ticksToEnd n]
def KJX11_slowest_67 (_ : Nat) (bk : Int → Int → Hp → Option (Int × Hp)) : CT (Int × Hp) := [(41, [(0, 15, (some 0)), (1, 0, none), (2, 0, none)], [], fun a c h => match a, c with
    | [x1, x2], [] => bk x1 x2 h
    | _, _ => none)]
set_option maxRecDepth 100000 in
theorem eJX11_slowest_67 (n : Nat) (bk : Int → Int → Hp → Option (Int × Hp)) (x1 : Int) (x2 : Int) (h : Hp) : JX11_slowest_67 n bk x1 x2 h =
  goAt false (kct (KJX11_slowest_67 n bk)) (fun v h => some ((v, h))) (fsX11_slowest n _) sdX11_slowest 1000 67 [(0, 15, 0), (1, 0, x1), (2, 0, x2)] [] h := rfl
def KBX11_slowest_41 (n : Nat) (bk : Int → Int → Hp → Option (Int × Hp)) : CT (Int × Hp) := [(41, [(0, 15, (some 0)), (1, 0, none), (2, 0, none)], [], fun a c h => match a, c with
    | [x1, x2], [] => bk x1 x2 h
    | _, _ => none),
  (67, [(0, 15, (some 0)), (1, 0, none), (2, 0, none)], [], fun a c h => match a, c with
    | [x1, x2], [] => JX11_slowest_67 n bk x1 x2 h
    | _, _ => none)]
set_option maxRecDepth 100000 in
theorem eBX11_slowest_41 (n f : Nat) (x1 : Int) (x2 : Int) (h : Hp) : BX11_slowest_41 n (f + 1) x1 x2 h =
  goAt false (kct (KBX11_slowest_41 n (BX11_slowest_41 n f))) (fun v h => some ((v, h))) (fsX11_slowest n _) sdX11_slowest 1000 41 [(0, 15, 0), (1, 0, x1), (2, 0, x2)] [] h := rfl
def KMX11_slowest (n : Nat) : CT (Int × Hp) := [(41, [(0, 15, (some 0)), (1, 0, none), (2, 0, none)], [], fun a c h => match a, c with
    | [x1, x2], [] => LX11_slowest_41 n x1 x2 h
    | _, _ => none)]
set_option maxRecDepth 100000 in
theorem eMX11_slowest (n : Nat) (x1 : Int) (h : Hp) : MX11_slowest n x1 h =
  goAt false (kct (KMX11_slowest n)) (fun v h => some ((v, h))) (fsX11_slowest n _) sdX11_slowest 1000 0 [(0, 15, 0), (1, 0, x1)] [] h := rfl
theorem okX11_slowest : mokb (mi 187) = true := by decide +kernel
theorem rkX11_slowest : rkOK 1 (mi 187).1.2.2.2.2.2.2.1 (mi 187).1.2.2.2.1 := Or.inr (Or.inl ⟨rfl, rfl, rfl⟩)
def calX11_slowest : List Nat := [55, 59, 124, 178]
theorem foX11_slowest {l : Launch} {ρ : Type} (n : Nat) : fsOK l false mi calX11_slowest (fsX11_slowest n ρ) := ⟨(sndX1_settle n), ⟨(sndX1_grant n), ⟨sndX8_become, ⟨(sndX1_ticksToEnd n), trivial⟩⟩⟩⟩
theorem ok_sdX11_slowest : sdb (mi 187).1.2.1 (insOK mi (mi 187).1.1.cls (mi 187).1.2.2.1 (mi 187).1.2.2.2.2.1 (mi 187).1.2.2.2.2.2.1 calX11_slowest false 1) sdX11_slowest = true := by decide +kernel
theorem sJX11_slowest_67 {l : Launch} {h0 h' : Hp} {v : Int} (h8 : nOf h0 = 148) (n : Nat) (bk : Int → Int → Hp → Option (Int × Hp)) (hbk : ∀ (x1 : Int) (x2 : Int) (h : Hp) (r : Int × Hp), bk x1 x2 h = some r → gWV v h' r → PAt l false (mi 187).1 h0 v h' 41 [(0, 15, 0), (1, 0, x1), (2, 0, x2)] [] h) (x1 : Int) (x2 : Int) (h : Hp) {r : Int × Hp} (H : JX11_slowest_67 n bk x1 x2 h = some r) (hG : gWV v h' r) : PAt l false (mi 187).1 h0 v h' 67 [(0, 15, 0), (1, 0, x1), (2, 0, x2)] [] h :=
  pat_w ok_sdX11_slowest rkX11_slowest h8 (foX11_slowest n) (fun v1 h1 q => by
    cases q
    exact ⟨hG.1, fun _ => hG.2⟩) (List.forall_mem_cons.mpr ⟨(fun a c h H => by
      dsimp only at H
      split at H
      · exact hbk _ _ _ _ H hG
      · cases H), (fun q9 h9 => by cases h9)⟩) ((eJX11_slowest_67 n bk x1 x2 h).symm.trans H)
theorem sBX11_slowest_41 {l : Launch} {h0 h' : Hp} {v : Int} (h8 : nOf h0 = 148) (n : Nat) : ∀ (f : Nat) (x1 : Int) (x2 : Int) (h : Hp) {r : Int × Hp}, BX11_slowest_41 n f x1 x2 h = some r → gWV v h' r → PAt l false (mi 187).1 h0 v h' 41 [(0, 15, 0), (1, 0, x1), (2, 0, x2)] [] h := by
  intro f
  induction f with
  | zero =>
    intro x1 x2 h r H _
    have H2 : (none : Option (Int × Hp)) = some r := H
    cases H2
  | succ f ih =>
    intro x1 x2 h r H hG
    have ihk : ∀ (x1 : Int) (x2 : Int) (h : Hp) (r : Int × Hp), BX11_slowest_41 n f x1 x2 h = some r → gWV v h' r → PAt l false (mi 187).1 h0 v h' 41 [(0, 15, 0), (1, 0, x1), (2, 0, x2)] [] h := fun x1 x2 h r9 a9 b9 => ih x1 x2 h a9 b9
    exact pat_w ok_sdX11_slowest rkX11_slowest h8 (foX11_slowest n) (fun v1 h1 q => by
    cases q
    exact ⟨hG.1, fun _ => hG.2⟩) (List.forall_mem_cons.mpr ⟨(fun a c h H => by
      dsimp only at H
      split at H
      · exact ih _ _ _ H hG
      · cases H), (List.forall_mem_cons.mpr ⟨(fun a c h H => by
      dsimp only at H
      split at H
      · exact sJX11_slowest_67 h8 n (BX11_slowest_41 n f) ihk _ _ _ H hG
      · cases H), (fun q9 h9 => by cases h9)⟩)⟩) ((eBX11_slowest_41 n f x1 x2 h).symm.trans H)
theorem sLX11_slowest_41 {l : Launch} {h0 h' : Hp} {v : Int} (h8 : nOf h0 = 148) (n : Nat) (x1 : Int) (x2 : Int) (h : Hp) {r : Int × Hp} (H : LX11_slowest_41 n x1 x2 h = some r) (hG : gWV v h' r) : PAt l false (mi 187).1 h0 v h' 41 [(0, 15, 0), (1, 0, x1), (2, 0, x2)] [] h :=
  sBX11_slowest_41 h8 n n x1 x2 h H hG
theorem sMX11_slowest {l : Launch} {h0 h' : Hp} {v : Int} (h8 : nOf h0 = 148) (n : Nat) (x1 : Int) (h : Hp) {r : Int × Hp} (H : MX11_slowest n x1 h = some r) (hG : gWV v h' r) : PAt l false (mi 187).1 h0 v h' 0 [(0, 15, 0), (1, 0, x1)] [] h :=
  pat_w ok_sdX11_slowest rkX11_slowest h8 (foX11_slowest n) (fun v1 h1 q => by
    cases q
    exact ⟨hG.1, fun _ => hG.2⟩) (List.forall_mem_cons.mpr ⟨(fun a c h H => by
      dsimp only at H
      split at H
      · exact sLX11_slowest_41 h8 n _ _ _ H hG
      · cases H), (fun q9 h9 => by cases h9)⟩) ((eMX11_slowest n x1 h).symm.trans H)
theorem sndX11_slowest {ρ : Type} {l : Launch} (n : Nat) : SndF (ρ := ρ) l false (mi 187).1 (wX11_slowest n) := by
    intro a h k r H ha ho hn hf
    have h8 := hf rfl
    obtain ⟨x0, x1, rfl⟩ := len2 (show a.length = 2 from ha)
    have u0 := uq15 hn (ho (15, x0) (List.mem_cons_self))
    subst u0
    replace H : bnd (MX11_slowest n x1 h) (fun r h2 => k r h2) = some r := H
    obtain ⟨v2, h2, H1, H2⟩ := bnd_some H
    exact ⟨v2, h2, H2, met_mk (mok_base okX11_slowest).1 (by decide +kernel) (Nat.le_of_ble_eq_true rfl) ho (sMX11_slowest h8 n x1 h H1 ⟨rfl, rfl⟩), fun q => by cases q⟩
/-! X12_slowest -/
def sdX12_slowest : SD := [(0, [(0, .iload_n 1, 1, [], 0), (1, .i2l, 1, [], 0), (2, .lconst 0, 1, [], 0), (3, .ldc2_w 496, 3, [1, 1847], 3000), (6, .invokestatic 217, 3, [1, 0, 3, 81, 1561, 1, 1, 1], 0), (9, .ifCond .ne 5, 3, [], 0)]),
  (12, [(12, .iconst (-1), 1, [], 0), (13, .ireturn, 1, [], 0)]),
  (14, [(14, .bipush 10, 2, [], 0), (16, .istore_n 2, 1, [], 0)]),
  (17, [(17, .iload_n 2, 1, [], 0), (18, .sipush 200, 3, [], 0), (21, .if_icmp .gt 47, 3, [], 0)]),
  (24, [(24, .aload_n 0, 1, [], 0), (25, .aload_n 0, 1, [], 0), (26, .getfield 15, 3, [12, 1, 84, 1, 1323, 0], 2), (29, .bipush 7, 2, [], 0), (31, .iaload, 1, [], 0), (32, .aload_n 0, 1, [], 0), (33, .getfield 15, 3, [12, 1, 84, 1, 1323, 0], 2), (36, .bipush 6, 2, [], 0), (38, .iaload, 1, [], 0), (39, .iload_n 2, 1, [], 0), (40, .invokevirtual 385, 3, [0, 1, 1, 115, 1677, 0, 0, 0, 16], 0), (43, .aload_n 0, 1, [], 0), (44, .invokevirtual 462, 3, [0, 2, 1, 137, 1703, 16], 0), (47, .aload_n 0, 1, [], 0), (48, .iconst 0, 1, [], 0), (49, .putfield 415, 3, [12, 52, 0, 0, 1, 1374], 0), (52, .aload_n 0, 1, [], 0), (53, .iload_n 1, 1, [], 0), (54, .invokevirtual 440, 3, [1, 3, 1, 180, 1829, 0, 16], 0), (57, .ifCond .lt 5, 3, [], 0)]),
  (60, [(60, .iload_n 2, 1, [], 0), (61, .ireturn, 1, [], 0)]),
  (62, [(62, .iinc 2 10, 3, [], 0), (65, .goto (-48), 3, [], 0)]),
  (68, [(68, .bipush (-2), 2, [], 0), (70, .ireturn, 1, [], 0)])]
def BX12_slowest_17 (n : Nat) : Nat → Int → Int → Hp → Option (Int × Hp)
  | 0, _, _, _ => none
  | f + 1, x1, x2, h =>
    (if 200 < x2 then
    (some ((-2), h))
    else
    (grd (0 ≤ 7 ∧ 7 < alen 84)
    (grd (0 ≤ 6 ∧ 6 < alen 84)
    (bndh (MX12_lays n (h 115 7) (h 115 6) x2 h) fun h1 =>
    (bndh (MX12_begins h1) fun h2 =>
    (ltt (up h2 113 52 0) fun h3 =>
    (bnd (MX12_tillDone_ n x1 h3) fun r1 h4 =>
    (if r1 < 0 then
    (ltt (w32 (x2 + 10)) fun y1 =>
    (BX12_slowest_17 n f x1 y1 h4))
    else
    (some (x2, h4))))))))))
def LX12_slowest_17 (n : Nat) (x1 x2 : Int) (h : Hp) : Option (Int × Hp) :=
(BX12_slowest_17 n n x1 x2 h)
def MX12_slowest (n : Nat) (x1 : Int) (h : Hp) : Option (Int × Hp) :=
(bndp (MX12_in x1 0 3000) fun r1 =>
(if r1 ≠ 0 then
(ltt 10 fun y1 =>
(LX12_slowest_17 n x1 y1 h))
else
(some ((-1), h))))
def wX12_slowest {ρ : Type} (n : Nat) : FN ρ := fun a h k => match a with
  | [_, x1] => bnd (MX12_slowest n x1 h) (fun r h2 => k r h2)
  | _ => none
def fsX12_slowest (n : Nat) (ρ : Type) : List (FN ρ) := [wX12_in, wX12_lays n, wX12_begins, wX12_tillDone_ n]
def KBX12_slowest_17 (_ : Nat) (bk : Int → Int → Hp → Option (Int × Hp)) : CT (Int × Hp) := [(17, [(0, 16, (some 113)), (1, 0, none), (2, 0, none)], [], fun a c h => match a, c with
    | [x1, x2], [] => bk x1 x2 h
    | _, _ => none)]
set_option maxRecDepth 100000 in
theorem eBX12_slowest_17 (n f : Nat) (x1 : Int) (x2 : Int) (h : Hp) : BX12_slowest_17 n (f + 1) x1 x2 h =
  goAt false (kct (KBX12_slowest_17 n (BX12_slowest_17 n f))) (fun v h => some ((v, h))) (fsX12_slowest n _) sdX12_slowest 1000 17 [(0, 16, 113), (1, 0, x1), (2, 0, x2)] [] h := rfl
def KMX12_slowest (n : Nat) : CT (Int × Hp) := [(17, [(0, 16, (some 113)), (1, 0, none), (2, 0, none)], [], fun a c h => match a, c with
    | [x1, x2], [] => LX12_slowest_17 n x1 x2 h
    | _, _ => none)]
set_option maxRecDepth 100000 in
theorem eMX12_slowest (n : Nat) (x1 : Int) (h : Hp) : MX12_slowest n x1 h =
  goAt false (kct (KMX12_slowest n)) (fun v h => some ((v, h))) (fsX12_slowest n _) sdX12_slowest 1000 0 [(0, 16, 113), (1, 0, x1)] [] h := rfl
theorem okX12_slowest : mokb (mi 188) = true := by decide +kernel
theorem rkX12_slowest : rkOK 1 (mi 188).1.2.2.2.2.2.2.1 (mi 188).1.2.2.2.1 := Or.inr (Or.inl ⟨rfl, rfl, rfl⟩)
def calX12_slowest : List Nat := [81, 115, 137, 180]
theorem foX12_slowest {l : Launch} {ρ : Type} (n : Nat) : fsOK l false mi calX12_slowest (fsX12_slowest n ρ) := ⟨sndX12_in, ⟨(sndX12_lays n), ⟨sndX12_begins, ⟨(sndX12_tillDone_ n), trivial⟩⟩⟩⟩
theorem ok_sdX12_slowest : sdb (mi 188).1.2.1 (insOK mi (mi 188).1.1.cls (mi 188).1.2.2.1 (mi 188).1.2.2.2.2.1 (mi 188).1.2.2.2.2.2.1 calX12_slowest false 1) sdX12_slowest = true := by decide +kernel
theorem sBX12_slowest_17 {l : Launch} {h0 h' : Hp} {v : Int} (h8 : nOf h0 = 148) (n : Nat) : ∀ (f : Nat) (x1 : Int) (x2 : Int) (h : Hp) {r : Int × Hp}, BX12_slowest_17 n f x1 x2 h = some r → gWV v h' r → PAt l false (mi 188).1 h0 v h' 17 [(0, 16, 113), (1, 0, x1), (2, 0, x2)] [] h := by
  intro f
  induction f with
  | zero =>
    intro x1 x2 h r H _
    have H2 : (none : Option (Int × Hp)) = some r := H
    cases H2
  | succ f ih =>
    intro x1 x2 h r H hG
    exact pat_w ok_sdX12_slowest rkX12_slowest h8 (foX12_slowest n) (fun v1 h1 q => by
    cases q
    exact ⟨hG.1, fun _ => hG.2⟩) (List.forall_mem_cons.mpr ⟨(fun a c h H => by
      dsimp only at H
      split at H
      · exact ih _ _ _ H hG
      · cases H), (fun q9 h9 => by cases h9)⟩) ((eBX12_slowest_17 n f x1 x2 h).symm.trans H)
theorem sLX12_slowest_17 {l : Launch} {h0 h' : Hp} {v : Int} (h8 : nOf h0 = 148) (n : Nat) (x1 : Int) (x2 : Int) (h : Hp) {r : Int × Hp} (H : LX12_slowest_17 n x1 x2 h = some r) (hG : gWV v h' r) : PAt l false (mi 188).1 h0 v h' 17 [(0, 16, 113), (1, 0, x1), (2, 0, x2)] [] h :=
  sBX12_slowest_17 h8 n n x1 x2 h H hG
theorem sMX12_slowest {l : Launch} {h0 h' : Hp} {v : Int} (h8 : nOf h0 = 148) (n : Nat) (x1 : Int) (h : Hp) {r : Int × Hp} (H : MX12_slowest n x1 h = some r) (hG : gWV v h' r) : PAt l false (mi 188).1 h0 v h' 0 [(0, 16, 113), (1, 0, x1)] [] h :=
  pat_w ok_sdX12_slowest rkX12_slowest h8 (foX12_slowest n) (fun v1 h1 q => by
    cases q
    exact ⟨hG.1, fun _ => hG.2⟩) (List.forall_mem_cons.mpr ⟨(fun a c h H => by
      dsimp only at H
      split at H
      · exact sLX12_slowest_17 h8 n _ _ _ H hG
      · cases H), (fun q9 h9 => by cases h9)⟩) ((eMX12_slowest n x1 h).symm.trans H)
theorem sndX12_slowest {ρ : Type} {l : Launch} (n : Nat) : SndF (ρ := ρ) l false (mi 188).1 (wX12_slowest n) := by
    intro a h k r H ha ho hn hf
    have h8 := hf rfl
    obtain ⟨x0, x1, rfl⟩ := len2 (show a.length = 2 from ha)
    have u0 := uq16 hn (ho (16, x0) (List.mem_cons_self))
    subst u0
    replace H : bnd (MX12_slowest n x1 h) (fun r h2 => k r h2) = some r := H
    obtain ⟨v2, h2, H1, H2⟩ := bnd_some H
    exact ⟨v2, h2, H2, met_mk (mok_base okX12_slowest).1 (by decide +kernel) (Nat.le_of_ble_eq_true rfl) ho (sMX12_slowest h8 n x1 h H1 ⟨rfl, rfl⟩), fun q => by cases q⟩
/-! X1_brakeToRest -/
def sdX1_brakeToRest : SD := [(0, [(0, .iconst 0, 1, [], 0), (1, .istore_n 2, 1, [], 0)]),
  (2, [(2, .iload_n 2, 1, [], 0), (3, .sipush 1000, 3, [], 0), (6, .if_icmp .ge 36, 3, [], 0)]),
  (9, [(9, .aload_n 1, 1, [], 0), (10, .invokevirtual 39, 3, [1, 0, 1, 122, 1011, 12], 0), (13, .ifCond .eq 5, 3, [], 0)]),
  (16, [(16, .iload_n 2, 1, [], 0), (17, .ireturn, 1, [], 0)]),
  (18, [(18, .aload_n 0, 1, [], 0), (19, .aload_n 1, 1, [], 0), (20, .aload_n 0, 1, [], 0), (21, .aload_n 1, 1, [], 0), (22, .getfield 63, 3, [8, 1, 0, 0, 485, 0], 0), (25, .aload_n 1, 1, [], 0), (26, .getfield 84, 3, [8, 2, 0, 0, 488, 0], 0), (29, .invokevirtual 87, 3, [1, 1, 1, 128, 1049, 0, 0, 5], 0), (32, .invokevirtual 76, 3, [1, 2, 1, 133, 1058, 0, 12, 5], 0), (35, .pop, 1, [], 0), (36, .iinc 2 1, 3, [], 0), (39, .goto (-37), 3, [], 0)]),
  (42, [(42, .sipush 1000, 3, [], 0), (45, .ireturn, 1, [], 0)])]
def BX1_brakeToRest_2 (n : Nat) : Nat → Int → Int → Int → Hp → Option (Int × Hp)
  | 0, _, _, _, _ => none
  | f + 1, x0, x1, x2, h =>
    (if 1000 ≤ x2 then
    (some (1000, h))
    else
    (bndp (MX8_rests x1 h) fun r1 =>
    (if r1 = 0 then
    (bndp (MX1_brake x0 (h x1 1) (h x1 2) h) fun r2 =>
    (bnd (MX1_go n x0 x1 r2 h) fun r3 h1 =>
    (ltt (w32 (x2 + 1)) fun y1 =>
    (BX1_brakeToRest_2 n f x0 x1 y1 h1))))
    else
    (some (x2, h)))))
def LX1_brakeToRest_2 (n : Nat) (x0 x1 x2 : Int) (h : Hp) : Option (Int × Hp) :=
(BX1_brakeToRest_2 n n x0 x1 x2 h)
def MX1_brakeToRest (n : Nat) (x0 x1 : Int) (h : Hp) : Option (Int × Hp) :=
(ltt 0 fun y1 =>
(LX1_brakeToRest_2 n x0 x1 y1 h))
def wX1_brakeToRest {ρ : Type} (n : Nat) : FN ρ := fun a h k => match a with
  | [x0, x1] => bnd (MX1_brakeToRest n x0 x1 h) (fun r h2 => k r h2)
  | _ => none
def fsX1_brakeToRest (n : Nat) (ρ : Type) : List (FN ρ) := [wX8_rests, wX1_brake, wX1_go n]
def KBX1_brakeToRest_2 (_ : Nat) (bk : Int → Int → Int → Hp → Option (Int × Hp)) : CT (Int × Hp) := [(2, [(0, 5, none), (1, 12, none), (2, 0, none)], [], fun a c h => match a, c with
    | [x0, x1, x2], [] => bk x0 x1 x2 h
    | _, _ => none)]
set_option maxRecDepth 100000 in
theorem eBX1_brakeToRest_2 (n f : Nat) (x0 : Int) (x1 : Int) (x2 : Int) (h : Hp) : BX1_brakeToRest_2 n (f + 1) x0 x1 x2 h =
  goAt false (kct (KBX1_brakeToRest_2 n (BX1_brakeToRest_2 n f))) (fun v h => some ((v, h))) (fsX1_brakeToRest n _) sdX1_brakeToRest 1000 2 [(0, 5, x0), (1, 12, x1), (2, 0, x2)] [] h := rfl
def KMX1_brakeToRest (n : Nat) : CT (Int × Hp) := [(2, [(0, 5, none), (1, 12, none), (2, 0, none)], [], fun a c h => match a, c with
    | [x0, x1, x2], [] => LX1_brakeToRest_2 n x0 x1 x2 h
    | _, _ => none)]
set_option maxRecDepth 100000 in
theorem eMX1_brakeToRest (n : Nat) (x0 : Int) (x1 : Int) (h : Hp) : MX1_brakeToRest n x0 x1 h =
  goAt false (kct (KMX1_brakeToRest n)) (fun v h => some ((v, h))) (fsX1_brakeToRest n _) sdX1_brakeToRest 1000 0 [(0, 5, x0), (1, 12, x1)] [] h := rfl
theorem okX1_brakeToRest : mokb (mi 189) = true := by decide +kernel
theorem rkX1_brakeToRest : rkOK 1 (mi 189).1.2.2.2.2.2.2.1 (mi 189).1.2.2.2.1 := Or.inr (Or.inl ⟨rfl, rfl, rfl⟩)
def calX1_brakeToRest : List Nat := [122, 128, 133]
theorem foX1_brakeToRest {l : Launch} {ρ : Type} (n : Nat) : fsOK l false mi calX1_brakeToRest (fsX1_brakeToRest n ρ) := ⟨sndX8_rests, ⟨sndX1_brake, ⟨(sndX1_go n), trivial⟩⟩⟩
theorem ok_sdX1_brakeToRest : sdb (mi 189).1.2.1 (insOK mi (mi 189).1.1.cls (mi 189).1.2.2.1 (mi 189).1.2.2.2.2.1 (mi 189).1.2.2.2.2.2.1 calX1_brakeToRest false 1) sdX1_brakeToRest = true := by decide +kernel
theorem sBX1_brakeToRest_2 {l : Launch} {h0 h' : Hp} {v : Int} (h8 : nOf h0 = 148) (n : Nat) : ∀ (f : Nat) (x0 : Int) (x1 : Int) (x2 : Int) (h : Hp) {r : Int × Hp}, BX1_brakeToRest_2 n f x0 x1 x2 h = some r → gWV v h' r → PAt l false (mi 189).1 h0 v h' 2 [(0, 5, x0), (1, 12, x1), (2, 0, x2)] [] h := by
  intro f
  induction f with
  | zero =>
    intro x0 x1 x2 h r H _
    have H2 : (none : Option (Int × Hp)) = some r := H
    cases H2
  | succ f ih =>
    intro x0 x1 x2 h r H hG
    exact pat_w ok_sdX1_brakeToRest rkX1_brakeToRest h8 (foX1_brakeToRest n) (fun v1 h1 q => by
    cases q
    exact ⟨hG.1, fun _ => hG.2⟩) (List.forall_mem_cons.mpr ⟨(fun a c h H => by
      dsimp only at H
      split at H
      · exact ih _ _ _ _ H hG
      · cases H), (fun q9 h9 => by cases h9)⟩) ((eBX1_brakeToRest_2 n f x0 x1 x2 h).symm.trans H)
theorem sLX1_brakeToRest_2 {l : Launch} {h0 h' : Hp} {v : Int} (h8 : nOf h0 = 148) (n : Nat) (x0 : Int) (x1 : Int) (x2 : Int) (h : Hp) {r : Int × Hp} (H : LX1_brakeToRest_2 n x0 x1 x2 h = some r) (hG : gWV v h' r) : PAt l false (mi 189).1 h0 v h' 2 [(0, 5, x0), (1, 12, x1), (2, 0, x2)] [] h :=
  sBX1_brakeToRest_2 h8 n n x0 x1 x2 h H hG
theorem sMX1_brakeToRest {l : Launch} {h0 h' : Hp} {v : Int} (h8 : nOf h0 = 148) (n : Nat) (x0 : Int) (x1 : Int) (h : Hp) {r : Int × Hp} (H : MX1_brakeToRest n x0 x1 h = some r) (hG : gWV v h' r) : PAt l false (mi 189).1 h0 v h' 0 [(0, 5, x0), (1, 12, x1)] [] h :=
  pat_w ok_sdX1_brakeToRest rkX1_brakeToRest h8 (foX1_brakeToRest n) (fun v1 h1 q => by
    cases q
    exact ⟨hG.1, fun _ => hG.2⟩) (List.forall_mem_cons.mpr ⟨(fun a c h H => by
      dsimp only at H
      split at H
      · exact sLX1_brakeToRest_2 h8 n _ _ _ _ H hG
      · cases H), (fun q9 h9 => by cases h9)⟩) ((eMX1_brakeToRest n x0 x1 h).symm.trans H)
theorem sndX1_brakeToRest {ρ : Type} {l : Launch} (n : Nat) : SndF (ρ := ρ) l false (mi 189).1 (wX1_brakeToRest n) := by
    intro a h k r H ha ho hn hf
    have h8 := hf rfl
    obtain ⟨x0, x1, rfl⟩ := len2 (show a.length = 2 from ha)
    replace H : bnd (MX1_brakeToRest n x0 x1 h) (fun r h2 => k r h2) = some r := H
    obtain ⟨v2, h2, H1, H2⟩ := bnd_some H
    exact ⟨v2, h2, H2, met_mk (mok_base okX1_brakeToRest).1 (by decide +kernel) (Nat.le_of_ble_eq_true rfl) ho (sMX1_brakeToRest h8 n x0 x1 h H1 ⟨rfl, rfl⟩), fun q => by cases q⟩
/-! X11_brakes -/
def sdX11_brakes : SD := [(0, [(0, .iload_n 1, 1, [], 0), (1, .ifCond .eq 10, 3, [], 0)]),
  (4, [(4, .iload_n 1, 1, [], 0), (5, .iconst 1, 1, [], 0), (6, .if_icmp .eq 5, 3, [], 0)]),
  (9, [(9, .iconst (-1), 1, [], 0), (10, .ireturn, 1, [], 0)]),
  (11, [(11, .aload_n 0, 1, [], 0), (12, .getfield 61, 3, [11, 8, 12, 1, 698, 0], 65), (15, .aload_n 0, 1, [], 0), (16, .getfield 57, 3, [11, 7, 12, 1, 697, 0], 64), (19, .invokevirtual 225, 3, [0, 0, 1, 124, 1120, 12, 12], 0), (22, .aload_n 0, 1, [], 0), (23, .getfield 47, 3, [11, 5, 5, 1, 695, 0], 50), (26, .aload_n 0, 1, [], 0), (27, .getfield 61, 3, [11, 8, 12, 1, 698, 0], 65), (30, .invokevirtual 249, 3, [1, 1, 1, 189, 1150, 12, 5], 0), (33, .istore_n 2, 1, [], 0), (34, .iload_n 1, 1, [], 0), (35, .ifCond .ne 7, 3, [], 0)]),
  (38, [(38, .iload_n 2, 1, [], 0), (39, .goto 18, 3, [], 0)]),
  (42, [(42, .aload_n 0, 1, [], 0), (43, .getfield 61, 3, [11, 8, 12, 1, 698, 0], 65), (46, .getfield 200, 3, [8, 0, 0, 0, 483, 0], 0), (49, .aload_n 0, 1, [], 0), (50, .getfield 57, 3, [11, 7, 12, 1, 697, 0], 64), (53, .getfield 200, 3, [8, 0, 0, 0, 483, 0], 0), (56, .isub, 1, [], 0)]),
  (57, [(57, .ireturn, 1, [], 0)])]
def JX11_brakes_11 (n : Nat) (x1 : Int) (h : Hp) : Option (Int × Hp) :=
(bndh (MX8_become 65 64 h) fun h1 =>
(bnd (MX1_brakeToRest n 50 65 h1) fun r1 h2 =>
(ltt r1 fun y1 =>
(if x1 ≠ 0 then
(some ((w32 ((h2 65 0) - (h2 64 0))), h2))
else
(some (y1, h2))))))
def MX11_brakes (n : Nat) (x1 : Int) (h : Hp) : Option (Int × Hp) :=
(if x1 = 0 then
(JX11_brakes_11 n x1 h)
else
(if x1 = 1 then
(JX11_brakes_11 n x1 h)
else
(some ((-1), h))))
def wX11_brakes {ρ : Type} (n : Nat) : FN ρ := fun a h k => match a with
  | [_, x1] => bnd (MX11_brakes n x1 h) (fun r h2 => k r h2)
  | _ => none
def fsX11_brakes (n : Nat) (ρ : Type) : List (FN ρ) := [wX8_become, wX1_brakeToRest n]
def KJX11_brakes_11 (_ : Nat) : CT (Int × Hp) := []
set_option maxRecDepth 100000 in
theorem eJX11_brakes_11 (n : Nat) (x1 : Int) (h : Hp) : JX11_brakes_11 n x1 h =
  goAt false (kct (KJX11_brakes_11 n)) (fun v h => some ((v, h))) (fsX11_brakes n _) sdX11_brakes 1000 11 [(0, 15, 0), (1, 0, x1)] [] h := rfl
def KMX11_brakes (n : Nat) : CT (Int × Hp) := [(11, [(0, 15, (some 0)), (1, 0, none)], [], fun a c h => match a, c with
    | [x1], [] => JX11_brakes_11 n x1 h
    | _, _ => none)]
set_option maxRecDepth 100000 in
theorem eMX11_brakes (n : Nat) (x1 : Int) (h : Hp) : MX11_brakes n x1 h =
  goAt false (kct (KMX11_brakes n)) (fun v h => some ((v, h))) (fsX11_brakes n _) sdX11_brakes 1000 0 [(0, 15, 0), (1, 0, x1)] [] h := rfl
theorem okX11_brakes : mokb (mi 190) = true := by decide +kernel
theorem rkX11_brakes : rkOK 1 (mi 190).1.2.2.2.2.2.2.1 (mi 190).1.2.2.2.1 := Or.inr (Or.inl ⟨rfl, rfl, rfl⟩)
def calX11_brakes : List Nat := [124, 189]
theorem foX11_brakes {l : Launch} {ρ : Type} (n : Nat) : fsOK l false mi calX11_brakes (fsX11_brakes n ρ) := ⟨sndX8_become, ⟨(sndX1_brakeToRest n), trivial⟩⟩
theorem ok_sdX11_brakes : sdb (mi 190).1.2.1 (insOK mi (mi 190).1.1.cls (mi 190).1.2.2.1 (mi 190).1.2.2.2.2.1 (mi 190).1.2.2.2.2.2.1 calX11_brakes false 1) sdX11_brakes = true := by decide +kernel
theorem sJX11_brakes_11 {l : Launch} {h0 h' : Hp} {v : Int} (h8 : nOf h0 = 148) (n : Nat) (x1 : Int) (h : Hp) {r : Int × Hp} (H : JX11_brakes_11 n x1 h = some r) (hG : gWV v h' r) : PAt l false (mi 190).1 h0 v h' 11 [(0, 15, 0), (1, 0, x1)] [] h :=
  pat_w ok_sdX11_brakes rkX11_brakes h8 (foX11_brakes n) (fun v1 h1 q => by
    cases q
    exact ⟨hG.1, fun _ => hG.2⟩) (fun q9 h9 => by cases h9) ((eJX11_brakes_11 n x1 h).symm.trans H)
theorem sMX11_brakes {l : Launch} {h0 h' : Hp} {v : Int} (h8 : nOf h0 = 148) (n : Nat) (x1 : Int) (h : Hp) {r : Int × Hp} (H : MX11_brakes n x1 h = some r) (hG : gWV v h' r) : PAt l false (mi 190).1 h0 v h' 0 [(0, 15, 0), (1, 0, x1)] [] h :=
  pat_w ok_sdX11_brakes rkX11_brakes h8 (foX11_brakes n) (fun v1 h1 q => by
    cases q
    exact ⟨hG.1, fun _ => hG.2⟩) (List.forall_mem_cons.mpr ⟨(fun a c h H => by
      dsimp only at H
      split at H
      · exact sJX11_brakes_11 h8 n _ _ H hG
      · cases H), (fun q9 h9 => by cases h9)⟩) ((eMX11_brakes n x1 h).symm.trans H)
theorem sndX11_brakes {ρ : Type} {l : Launch} (n : Nat) : SndF (ρ := ρ) l false (mi 190).1 (wX11_brakes n) := by
    intro a h k r H ha ho hn hf
    have h8 := hf rfl
    obtain ⟨x0, x1, rfl⟩ := len2 (show a.length = 2 from ha)
    have u0 := uq15 hn (ho (15, x0) (List.mem_cons_self))
    subst u0
    replace H : bnd (MX11_brakes n x1 h) (fun r h2 => k r h2) = some r := H
    obtain ⟨v2, h2, H1, H2⟩ := bnd_some H
    exact ⟨v2, h2, H2, met_mk (mok_base okX11_brakes).1 (by decide +kernel) (Nat.le_of_ble_eq_true rfl) ho (sMX11_brakes h8 n x1 h H1 ⟨rfl, rfl⟩), fun q => by cases q⟩
/-! X12_brakes -/
def sdX12_brakes : SD := [(0, [(0, .iload_n 1, 1, [], 0), (1, .i2l, 1, [], 0), (2, .lconst 0, 1, [], 0), (3, .lconst 1, 1, [], 0), (4, .invokestatic 217, 3, [1, 0, 3, 81, 1561, 1, 1, 1], 0), (7, .ifCond .ne 5, 3, [], 0)]),
  (10, [(10, .iconst (-1), 1, [], 0), (11, .ireturn, 1, [], 0)]),
  (12, [(12, .aload_n 0, 1, [], 0), (13, .invokevirtual 459, 3, [0, 1, 1, 116, 1673, 16], 0), (16, .aload_n 0, 1, [], 0), (17, .invokevirtual 462, 3, [0, 2, 1, 137, 1703, 16], 0), (20, .iconst 0, 1, [], 0), (21, .istore_n 2, 1, [], 0)]),
  (22, [(22, .aload_n 0, 1, [], 0), (23, .invokevirtual 418, 3, [1, 3, 1, 138, 1711, 16], 0), (26, .ifCond .ne 13, 3, [], 0)]),
  (29, [(29, .aload_n 0, 1, [], 0), (30, .invokevirtual 433, 3, [0, 4, 1, 147, 1734, 16], 0), (33, .iinc 2 1, 3, [], 0), (36, .goto (-14), 3, [], 0)]),
  (39, [(39, .iload_n 1, 1, [], 0), (40, .ifCond .ne 7, 3, [], 0)]),
  (43, [(43, .iload_n 2, 1, [], 0), (44, .goto 12, 3, [], 0)]),
  (47, [(47, .aload_n 0, 1, [], 0), (48, .getfield 406, 3, [12, 48, 0, 0, 1370, 0], 0), (51, .aload_n 0, 1, [], 0), (52, .getfield 165, 3, [12, 42, 0, 0, 1364, 0], 0), (55, .isub, 1, [], 0)]),
  (56, [(56, .ireturn, 1, [], 0)])]
def BX12_brakes_22 (n : Nat) : Nat → Int → Int → Hp → Option (Int × Int × Hp)
  | 0, _, _, _ => none
  | f + 1, x1, x2, h =>
    (bndp (MX12_isRest h) fun r1 =>
    (if r1 ≠ 0 then
    (some (x1, x2, h))
    else
    (bndh (MX12_slows n h) fun h1 =>
    (ltt (w32 (x2 + 1)) fun y1 =>
    (BX12_brakes_22 n f x1 y1 h1)))))
def JX12_brakes_39 (n : Nat) (x1 x2 : Int) (h : Hp) : Option (Int × Hp) :=
(if x1 ≠ 0 then
(some ((w32 ((h 113 48) - (h 113 42))), h))
else
(some (x2, h)))
def LX12_brakes_22 (n : Nat) (x1 x2 : Int) (h : Hp) : Option (Int × Hp) :=
(bndx (BX12_brakes_22 n n x1 x2 h) fun (e1, e2, h1) =>
(JX12_brakes_39 n e1 e2 h1))
def MX12_brakes (n : Nat) (x1 : Int) (h : Hp) : Option (Int × Hp) :=
(bndp (MX12_in x1 0 1) fun r1 =>
(if r1 ≠ 0 then
(bndh (MX12_laysNow n h) fun h1 =>
(bndh (MX12_begins h1) fun h2 =>
(ltt 0 fun y1 =>
(LX12_brakes_22 n x1 y1 h2))))
else
(some ((-1), h))))
def wX12_brakes {ρ : Type} (n : Nat) : FN ρ := fun a h k => match a with
  | [_, x1] => bnd (MX12_brakes n x1 h) (fun r h2 => k r h2)
  | _ => none
def fsX12_brakes (n : Nat) (ρ : Type) : List (FN ρ) := [wX12_in, wX12_laysNow n, wX12_begins, wX12_isRest, wX12_slows n]
def KBX12_brakes_22 (_ : Nat) (bk : Int → Int → Hp → Option (Int × Int × Hp)) : CT (Int × Int × Hp) := [(22, [(0, 16, (some 113)), (1, 0, none), (2, 0, none)], [], fun a c h => match a, c with
    | [x1, x2], [] => bk x1 x2 h
    | _, _ => none),
  (39, [(0, 16, (some 113)), (1, 0, none), (2, 0, none)], [], fun a c h => match a, c with
    | [x1, x2], [] => some (x1, x2, h)
    | _, _ => none)]
set_option maxRecDepth 100000 in
theorem eBX12_brakes_22 (n f : Nat) (x1 : Int) (x2 : Int) (h : Hp) : BX12_brakes_22 n (f + 1) x1 x2 h =
  goAt false (kct (KBX12_brakes_22 n (BX12_brakes_22 n f))) (fun _ _ => none) (fsX12_brakes n _) sdX12_brakes 1000 22 [(0, 16, 113), (1, 0, x1), (2, 0, x2)] [] h := rfl
def KJX12_brakes_39 (_ : Nat) : CT (Int × Hp) := []
set_option maxRecDepth 100000 in
theorem eJX12_brakes_39 (n : Nat) (x1 : Int) (x2 : Int) (h : Hp) : JX12_brakes_39 n x1 x2 h =
  goAt false (kct (KJX12_brakes_39 n)) (fun v h => some ((v, h))) (fsX12_brakes n _) sdX12_brakes 1000 39 [(0, 16, 113), (1, 0, x1), (2, 0, x2)] [] h := rfl
def KMX12_brakes (n : Nat) : CT (Int × Hp) := [(22, [(0, 16, (some 113)), (1, 0, none), (2, 0, none)], [], fun a c h => match a, c with
    | [x1, x2], [] => LX12_brakes_22 n x1 x2 h
    | _, _ => none)]
set_option maxRecDepth 100000 in
theorem eMX12_brakes (n : Nat) (x1 : Int) (h : Hp) : MX12_brakes n x1 h =
  goAt false (kct (KMX12_brakes n)) (fun v h => some ((v, h))) (fsX12_brakes n _) sdX12_brakes 1000 0 [(0, 16, 113), (1, 0, x1)] [] h := rfl
theorem okX12_brakes : mokb (mi 191) = true := by decide +kernel
theorem rkX12_brakes : rkOK 1 (mi 191).1.2.2.2.2.2.2.1 (mi 191).1.2.2.2.1 := Or.inr (Or.inl ⟨rfl, rfl, rfl⟩)
def calX12_brakes : List Nat := [81, 116, 137, 138, 147]
theorem foX12_brakes {l : Launch} {ρ : Type} (n : Nat) : fsOK l false mi calX12_brakes (fsX12_brakes n ρ) := ⟨sndX12_in, ⟨(sndX12_laysNow n), ⟨sndX12_begins, ⟨sndX12_isRest, ⟨(sndX12_slows n), trivial⟩⟩⟩⟩⟩
theorem ok_sdX12_brakes : sdb (mi 191).1.2.1 (insOK mi (mi 191).1.1.cls (mi 191).1.2.2.1 (mi 191).1.2.2.2.2.1 (mi 191).1.2.2.2.2.2.1 calX12_brakes false 1) sdX12_brakes = true := by decide +kernel
def GX12_brakes_22 (l : Launch) (h0 : Hp) (h' : Hp) (v : Int) (_ : Hp) : (Int × Int × Hp) → Prop
  | (e1, e2, h1) => PAt l false (mi 191).1 h0 v h' 39 [(0, 16, 113), (1, 0, e1), (2, 0, e2)] [] h1
theorem sBX12_brakes_22 {l : Launch} {h0 h' : Hp} {v : Int} (h8 : nOf h0 = 148) (n : Nat) : ∀ (f : Nat) (x1 : Int) (x2 : Int) (h : Hp) {r : Int × Int × Hp}, BX12_brakes_22 n f x1 x2 h = some r → GX12_brakes_22 l h0 h' v h r → PAt l false (mi 191).1 h0 v h' 22 [(0, 16, 113), (1, 0, x1), (2, 0, x2)] [] h := by
  intro f
  induction f with
  | zero =>
    intro x1 x2 h r H _
    have H2 : (none : Option (Int × Int × Hp)) = some r := H
    cases H2
  | succ f ih =>
    intro x1 x2 h r H hG
    exact pat_w ok_sdX12_brakes rkX12_brakes h8 (foX12_brakes n) (fun v1 h1 q => by cases q) (List.forall_mem_cons.mpr ⟨(fun a c h H => by
      dsimp only at H
      split at H
      · exact ih _ _ _ H hG
      · cases H), (List.forall_mem_cons.mpr ⟨(fun a c h H => by
      dsimp only at H
      split at H
      · cases H
        exact hG
      · cases H), (fun q9 h9 => by cases h9)⟩)⟩) ((eBX12_brakes_22 n f x1 x2 h).symm.trans H)
theorem sJX12_brakes_39 {l : Launch} {h0 h' : Hp} {v : Int} (h8 : nOf h0 = 148) (n : Nat) (x1 : Int) (x2 : Int) (h : Hp) {r : Int × Hp} (H : JX12_brakes_39 n x1 x2 h = some r) (hG : gWV v h' r) : PAt l false (mi 191).1 h0 v h' 39 [(0, 16, 113), (1, 0, x1), (2, 0, x2)] [] h :=
  pat_w ok_sdX12_brakes rkX12_brakes h8 (foX12_brakes n) (fun v1 h1 q => by
    cases q
    exact ⟨hG.1, fun _ => hG.2⟩) (fun q9 h9 => by cases h9) ((eJX12_brakes_39 n x1 x2 h).symm.trans H)
theorem sLX12_brakes_22 {l : Launch} {h0 h' : Hp} {v : Int} (h8 : nOf h0 = 148) (n : Nat) (x1 : Int) (x2 : Int) (h : Hp) {r : Int × Hp} (H : LX12_brakes_22 n x1 x2 h = some r) (hG : gWV v h' r) : PAt l false (mi 191).1 h0 v h' 22 [(0, 16, 113), (1, 0, x1), (2, 0, x2)] [] h := by
  obtain ⟨e9, h2, h3⟩ := bndx_some H
  obtain ⟨e1, e2, h1⟩ := e9
  exact sBX12_brakes_22 h8 n n x1 x2 h h2 (sJX12_brakes_39 h8 n e1 e2 h1 h3 hG)
theorem sMX12_brakes {l : Launch} {h0 h' : Hp} {v : Int} (h8 : nOf h0 = 148) (n : Nat) (x1 : Int) (h : Hp) {r : Int × Hp} (H : MX12_brakes n x1 h = some r) (hG : gWV v h' r) : PAt l false (mi 191).1 h0 v h' 0 [(0, 16, 113), (1, 0, x1)] [] h :=
  pat_w ok_sdX12_brakes rkX12_brakes h8 (foX12_brakes n) (fun v1 h1 q => by
    cases q
    exact ⟨hG.1, fun _ => hG.2⟩) (List.forall_mem_cons.mpr ⟨(fun a c h H => by
      dsimp only at H
      split at H
      · exact sLX12_brakes_22 h8 n _ _ _ H hG
      · cases H), (fun q9 h9 => by cases h9)⟩) ((eMX12_brakes n x1 h).symm.trans H)
theorem sndX12_brakes {ρ : Type} {l : Launch} (n : Nat) : SndF (ρ := ρ) l false (mi 191).1 (wX12_brakes n) := by
    intro a h k r H ha ho hn hf
    have h8 := hf rfl
    obtain ⟨x0, x1, rfl⟩ := len2 (show a.length = 2 from ha)
    have u0 := uq16 hn (ho (16, x0) (List.mem_cons_self))
    subst u0
    replace H : bnd (MX12_brakes n x1 h) (fun r h2 => k r h2) = some r := H
    obtain ⟨v2, h2, H1, H2⟩ := bnd_some H
    exact ⟨v2, h2, H2, met_mk (mok_base okX12_brakes).1 (by decide +kernel) (Nat.le_of_ble_eq_true rfl) ho (sMX12_brakes h8 n x1 h H1 ⟨rfl, rfl⟩), fun q => by cases q⟩
/-! X3_sumOf -/
def sdX3_sumOf : SD := [(0, [(0, .iload_n 1, 1, [], 0), (1, .ifCond .lt 21, 3, [], 0)]),
  (4, [(4, .iload_n 1, 1, [], 0), (5, .bipush 61, 2, [], 0), (7, .if_icmp .ge 15, 3, [], 0)]),
  (10, [(10, .iload_n 2, 1, [], 0), (11, .bipush (-6), 2, [], 0), (13, .if_icmp .lt 9, 3, [], 0)]),
  (16, [(16, .iload_n 2, 1, [], 0), (17, .bipush 6, 2, [], 0), (19, .if_icmp .le 6, 3, [], 0)]),
  (22, [(22, .ldc 26, 2, [0, 1166], 1000000000), (24, .ireturn, 1, [], 0)]),
  (25, [(25, .aload_n 0, 1, [], 0), (26, .getfield 11, 3, [3, 0, 6364, 1, 556, 0], 1), (29, .iload_n 2, 1, [], 0), (30, .bipush 6, 2, [], 0), (32, .iadd, 1, [], 0), (33, .bipush 61, 2, [], 0), (35, .imul, 1, [], 0), (36, .iload_n 1, 1, [], 0), (37, .iadd, 1, [], 0), (38, .iaload, 1, [], 0), (39, .ireturn, 1, [], 0)])]
def MX3_sumOf (x1 x2 : Int) (h : Hp) : Option (Int) :=
(if x1 < 0 then
(some 1000000000)
else
(if 61 ≤ x1 then
(some 1000000000)
else
(if x2 < (-6) then
(some 1000000000)
else
(if x2 ≤ 6 then
(grd (0 ≤ (w32 ((w32 ((w32 (x2 + 6)) * 61)) + x1)) ∧ (w32 ((w32 ((w32 (x2 + 6)) * 61)) + x1)) < alen 6364)
(some (h 111 (w32 ((w32 ((w32 (x2 + 6)) * 61)) + x1)))))
else
(some 1000000000)))))
def wX3_sumOf {ρ : Type} : FN ρ := fun a h k => match a with
  | [_, x1, x2] => bndp (MX3_sumOf x1 x2 h) (fun r => k r h)
  | _ => none
def fsX3_sumOf (ρ : Type) : List (FN ρ) := []
def KMX3_sumOf  : CT (Int) := []
set_option maxRecDepth 100000 in
theorem eMX3_sumOf (x1 : Int) (x2 : Int) (h : Hp) : MX3_sumOf x1 x2 h =
  goAt false (kct (KMX3_sumOf)) (fun v _ => some (v)) (fsX3_sumOf _) sdX3_sumOf 1000 0 [(0, 7, 110), (1, 0, x1), (2, 0, x2)] [] h := rfl
theorem okX3_sumOf : mokb (mi 192) = true := by decide +kernel
theorem rkX3_sumOf : rkOK 1 (mi 192).1.2.2.2.2.2.2.1 (mi 192).1.2.2.2.1 := Or.inr (Or.inl ⟨rfl, rfl, rfl⟩)
def calX3_sumOf : List Nat := []
theorem foX3_sumOf {l : Launch} {ρ : Type} : fsOK l false mi calX3_sumOf (fsX3_sumOf ρ) := trivial
theorem frX3_sumOf {ρ : Type} : ∀ fn ∈ fsX3_sumOf ρ, RoF fn := (fun q9 h9 => by cases h9)
theorem ok_sdX3_sumOf : sdb (mi 192).1.2.1 (insOK mi (mi 192).1.1.cls (mi 192).1.2.2.1 (mi 192).1.2.2.2.2.1 (mi 192).1.2.2.2.2.2.1 calX3_sumOf false 1) sdX3_sumOf = true := by decide +kernel
theorem sMX3_sumOf {l : Launch} {h0 : Hp} {v : Int} (h8 : nOf h0 = 148)  (x1 : Int) (x2 : Int) (h : Hp) {r : Int} (H : MX3_sumOf x1 x2 h = some r) (hG : gV v r) : PAt l false (mi 192).1 h0 v h 0 [(0, 7, 110), (1, 0, x1), (2, 0, x2)] [] h :=
  pat_ro ok_sdX3_sumOf rfl rkX3_sumOf h8 (foX3_sumOf) (frX3_sumOf) (fun v1 q => by
    cases q
    exact ⟨rfl, fun _ => hG⟩) (fun q9 h9 => by cases h9) ((eMX3_sumOf x1 x2 h).symm.trans H)
theorem sndX3_sumOf {ρ : Type} {l : Launch} : SndF (ρ := ρ) l false (mi 192).1 (wX3_sumOf) := by
    intro a h k r H ha ho hn hf
    have h8 := hf rfl
    obtain ⟨x0, x1, x2, rfl⟩ := len3 (show a.length = 3 from ha)
    have u0 := uq7 hn (ho (7, x0) (List.mem_cons_self))
    subst u0
    replace H : bndp (MX3_sumOf x1 x2 h) (fun r => k r h) = some r := H
    obtain ⟨v2, H1, H2⟩ := bndp_some H
    exact ⟨v2, h, H2, met_mk (mok_base okX3_sumOf).1 (by decide +kernel) (Nat.le_of_ble_eq_true rfl) ho (sMX3_sumOf h8 x1 x2 h H1 rfl), fun q => by cases q⟩
theorem roX3_sumOf {ρ : Type} : RoF (wX3_sumOf : FN ρ) := fun a h k k2 hk => by
  unfold wX3_sumOf
  split
  · exact bndp_ro hk
  · rfl
/-! X3_improve -/
def sdX3_improve : SD := [(0, [(0, .aload_n 0, 1, [], 0), (1, .iload_n 1, 1, [], 0), (2, .iload_n 2, 1, [], 0), (3, .invokevirtual 22, 3, [1, 0, 1, 192, 1171, 0, 0, 7], 0), (6, .istore_n 3, 1, [], 0), (7, .iload_n 3, 1, [], 0), (8, .istore 4, 2, [], 0), (10, .iconst (-1), 1, [], 0), (11, .istore 5, 2, [], 0)]),
  (13, [(13, .iload 5, 2, [], 0), (15, .iconst 1, 1, [], 0), (16, .if_icmp .gt 48, 3, [], 0)]),
  (19, [(19, .aload_n 0, 1, [], 0), (20, .iload_n 1, 1, [], 0), (21, .iload_n 2, 1, [], 0), (22, .iadd, 1, [], 0), (23, .iload 5, 2, [], 0), (25, .iadd, 1, [], 0), (26, .iload_n 2, 1, [], 0), (27, .iload 5, 2, [], 0), (29, .iadd, 1, [], 0), (30, .invokevirtual 22, 3, [1, 0, 1, 192, 1171, 0, 0, 7], 0), (33, .istore 6, 2, [], 0), (35, .iload 6, 2, [], 0), (37, .ldc 26, 2, [0, 1166], 1000000000), (39, .if_icmp .ge 19, 3, [], 0)]),
  (42, [(42, .iload 4, 2, [], 0), (44, .iload 6, 2, [], 0), (46, .iload_n 1, 1, [], 0), (47, .iadd, 1, [], 0), (48, .iload_n 2, 1, [], 0), (49, .iadd, 1, [], 0), (50, .iload 5, 2, [], 0), (52, .iadd, 1, [], 0), (53, .invokestatic 31, 3, [1, 1, 3, 261, 1175, 0, 0], 0), (56, .istore 4, 2, [], 0)]),
  (58, [(58, .iinc 5 1, 3, [], 0), (61, .goto (-48), 3, [], 0)]),
  (64, [(64, .iload 4, 2, [], 0), (66, .iload_n 3, 1, [], 0), (67, .if_icmp .ge 19, 3, [], 0)]),
  (70, [(70, .aload_n 0, 1, [], 0), (71, .getfield 11, 3, [3, 0, 6364, 1, 556, 0], 1), (74, .iload_n 2, 1, [], 0), (75, .bipush 6, 2, [], 0), (77, .iadd, 1, [], 0), (78, .bipush 61, 2, [], 0), (80, .imul, 1, [], 0), (81, .iload_n 1, 1, [], 0), (82, .iadd, 1, [], 0), (83, .iload 4, 2, [], 0), (85, .iastore, 1, [], 0)]),
  (86, [(86, .iload 4, 2, [], 0), (88, .iload_n 3, 1, [], 0), (89, .if_icmp .ge 7, 3, [], 0)]),
  (92, [(92, .iconst 1, 1, [], 0), (93, .goto 4, 3, [], 0)]),
  (96, [(96, .iconst 0, 1, [], 0)]),
  (97, [(97, .ireturn, 1, [1], 0)])]
def sdX3_improve_13 : SD := [(13, [(13, .iload 5, 2, [], 0), (15, .iconst 1, 1, [], 0), (16, .if_icmp .gt 48, 3, [], 0)]),
  (19, [(19, .aload_n 0, 1, [], 0), (20, .iload_n 1, 1, [], 0), (21, .iload_n 2, 1, [], 0), (22, .iadd, 1, [], 0), (23, .iload 5, 2, [], 0), (25, .iadd, 1, [], 0), (26, .iload_n 2, 1, [], 0), (27, .iload 5, 2, [], 0), (29, .iadd, 1, [], 0), (30, .invokevirtual 22, 3, [1, 0, 1, 192, 1171, 0, 0, 7], 0), (33, .istore 6, 2, [], 0), (35, .iload 6, 2, [], 0), (37, .ldc 26, 2, [0, 1166], 1000000000), (39, .if_icmp .ge 19, 3, [], 0)]),
  (42, [(42, .iload 4, 2, [], 0), (44, .iload 6, 2, [], 0), (46, .iload_n 1, 1, [], 0), (47, .iadd, 1, [], 0), (48, .iload_n 2, 1, [], 0), (49, .iadd, 1, [], 0), (50, .iload 5, 2, [], 0), (52, .iadd, 1, [], 0), (53, .invokestatic 31, 3, [1, 1, 3, 261, 1175, 0, 0], 0), (56, .istore 4, 2, [], 0)]),
  (58, [(58, .iinc 5 1, 3, [], 0), (61, .goto (-48), 3, [], 0)])]
def BX3_improve_13 (n : Nat) : Nat → Int → Int → Int → Int → Int → Hp → Option (Int × Int × Int × Int)
  | 0, _, _, _, _, _, _ => none
  | f + 1, x1, x2, x3, x4, x5, h =>
    (if 1 < x5 then
    (some (x1, x2, x3, x4))
    else
    (bndp (MX3_sumOf (w32 ((w32 (x1 + x2)) + x5)) (w32 (x2 + x5)) h) fun r1 =>
    (ltt r1 fun y1 =>
    (if 1000000000 ≤ y1 then
    (ltt (w32 (x5 + 1)) fun y2 =>
    (BX3_improve_13 n f x1 x2 x3 x4 y2 h))
    else
    (ltt (min x4 (w32 ((w32 ((w32 (y1 + x1)) + x2)) + x5))) fun y3 =>
    (ltt (w32 (x5 + 1)) fun y4 =>
    (BX3_improve_13 n f x1 x2 x3 y3 y4 h)))))))
def JX3_improve_86 (n : Nat) (x3 x4 : Int) (h : Hp) : Option (Int × Hp) :=
(if x3 ≤ x4 then
(some (0, h))
else
(some (1, h)))
def JX3_improve_64 (n : Nat) (x1 x2 x3 x4 : Int) (h : Hp) : Option (Int × Hp) :=
(if x3 ≤ x4 then
(JX3_improve_86 n x3 x4 h)
else
(grd (0 ≤ (w32 ((w32 ((w32 (x2 + 6)) * 61)) + x1)) ∧ (w32 ((w32 ((w32 (x2 + 6)) * 61)) + x1)) < alen 6364)
(ltt (up h 111 (w32 ((w32 ((w32 (x2 + 6)) * 61)) + x1)) x4) fun h1 =>
(JX3_improve_86 n x3 x4 h1))))
def LX3_improve_13 (n : Nat) (x1 x2 x3 x4 x5 : Int) (h : Hp) : Option (Int × Hp) :=
(bndx (BX3_improve_13 n n x1 x2 x3 x4 x5 h) fun (e1, e2, e3, e4) =>
(JX3_improve_64 n e1 e2 e3 e4 h))
def MX3_improve (n : Nat) (x1 x2 : Int) (h : Hp) : Option (Int × Hp) :=
(bndp (MX3_sumOf x1 x2 h) fun r1 =>
(ltt r1 fun y1 =>
(ltt y1 fun y2 =>
(ltt (-1) fun y3 =>
(LX3_improve_13 n x1 x2 y1 y2 y3 h)))))
def wX3_improve {ρ : Type} (n : Nat) : FN ρ := fun a h k => match a with
  | [_, x1, x2] => bnd (MX3_improve n x1 x2 h) (fun r h2 => k r h2)
  | _ => none
def fsX3_improve (n : Nat) (ρ : Type) : List (FN ρ) := [wX3_sumOf, fmin]
def fsX3_improve_13 (n : Nat) (ρ : Type) : List (FN ρ) := [wX3_sumOf, fmin]
def KBX3_improve_13 (_ : Nat) (bk : Int → Int → Int → Int → Int → Hp → Option (Int × Int × Int × Int)) : CT (Int × Int × Int × Int) := [(13, [(0, 7, (some 110)), (1, 0, none), (2, 0, none), (3, 0, none), (4, 0, none), (5, 0, none)], [], fun a c h => match a, c with
    | [x1, x2, x3, x4, x5], [] => bk x1 x2 x3 x4 x5 h
    | _, _ => none),
  (64, [(0, 7, (some 110)), (1, 0, none), (2, 0, none), (3, 0, none), (4, 0, none)], [], fun a c _ => match a, c with
    | [x1, x2, x3, x4], [] => some (x1, x2, x3, x4)
    | _, _ => none)]
set_option maxRecDepth 100000 in
theorem eBX3_improve_13 (n f : Nat) (x1 : Int) (x2 : Int) (x3 : Int) (x4 : Int) (x5 : Int) (h : Hp) : BX3_improve_13 n (f + 1) x1 x2 x3 x4 x5 h =
  goAt false (kct (KBX3_improve_13 n (BX3_improve_13 n f))) (fun _ _ => none) (fsX3_improve_13 n _) sdX3_improve_13 1000 13 [(0, 7, 110), (1, 0, x1), (2, 0, x2), (3, 0, x3), (4, 0, x4), (5, 0, x5)] [] h := rfl
def KJX3_improve_86 (_ : Nat) : CT (Int × Hp) := []
set_option maxRecDepth 100000 in
theorem eJX3_improve_86 (n : Nat) (x3 : Int) (x4 : Int) (h : Hp) : JX3_improve_86 n x3 x4 h =
  goAt false (kct (KJX3_improve_86 n)) (fun v h => some ((v, h))) (fsX3_improve n _) sdX3_improve 1000 86 [(3, 0, x3), (4, 0, x4)] [] h := rfl
def KJX3_improve_64 (n : Nat) : CT (Int × Hp) := [(86, [(3, 0, none), (4, 0, none)], [], fun a c h => match a, c with
    | [x3, x4], [] => JX3_improve_86 n x3 x4 h
    | _, _ => none)]
set_option maxRecDepth 100000 in
theorem eJX3_improve_64 (n : Nat) (x1 : Int) (x2 : Int) (x3 : Int) (x4 : Int) (h : Hp) : JX3_improve_64 n x1 x2 x3 x4 h =
  goAt false (kct (KJX3_improve_64 n)) (fun v h => some ((v, h))) (fsX3_improve n _) sdX3_improve 1000 64 [(0, 7, 110), (1, 0, x1), (2, 0, x2), (3, 0, x3), (4, 0, x4)] [] h := rfl
def KMX3_improve (n : Nat) : CT (Int × Hp) := [(13, [(0, 7, (some 110)), (1, 0, none), (2, 0, none), (3, 0, none), (4, 0, none), (5, 0, none)], [], fun a c h => match a, c with
    | [x1, x2, x3, x4, x5], [] => LX3_improve_13 n x1 x2 x3 x4 x5 h
    | _, _ => none)]
set_option maxRecDepth 100000 in
theorem eMX3_improve (n : Nat) (x1 : Int) (x2 : Int) (h : Hp) : MX3_improve n x1 x2 h =
  goAt false (kct (KMX3_improve n)) (fun v h => some ((v, h))) (fsX3_improve n _) sdX3_improve 1000 0 [(0, 7, 110), (1, 0, x1), (2, 0, x2)] [] h := rfl
theorem okX3_improve : mokb (mi 193) = true := by decide +kernel
theorem rkX3_improve : rkOK 4 (mi 193).1.2.2.2.2.2.2.1 (mi 193).1.2.2.2.1 := Or.inr (Or.inr (Or.inl ⟨rfl, rfl, rfl⟩))
def calX3_improve : List Nat := [192, 261]
theorem foX3_improve {l : Launch} {ρ : Type} (n : Nat) : fsOK l false mi calX3_improve (fsX3_improve n ρ) := ⟨sndX3_sumOf, ⟨snd_mmin, trivial⟩⟩
theorem ok_sdX3_improve : sdb (mi 193).1.2.1 (insOK mi (mi 193).1.1.cls (mi 193).1.2.2.1 (mi 193).1.2.2.2.2.1 (mi 193).1.2.2.2.2.2.1 calX3_improve false 4) sdX3_improve = true := by decide +kernel
def calX3_improve_13 : List Nat := [192, 261]
theorem foX3_improve_13 {l : Launch} {ρ : Type} (n : Nat) : fsOK l false mi calX3_improve_13 (fsX3_improve_13 n ρ) := ⟨sndX3_sumOf, ⟨snd_mmin, trivial⟩⟩
theorem frX3_improve_13 {ρ : Type} (n : Nat) : ∀ fn ∈ fsX3_improve_13 n ρ, RoF fn := (List.forall_mem_cons.mpr ⟨roX3_sumOf, (List.forall_mem_cons.mpr ⟨ro_mmin, (fun q9 h9 => by cases h9)⟩)⟩)
theorem ok_sdX3_improve_13 : sdb (mi 193).1.2.1 (insOK mi (mi 193).1.1.cls (mi 193).1.2.2.1 (mi 193).1.2.2.2.2.1 (mi 193).1.2.2.2.2.2.1 calX3_improve_13 false 4) sdX3_improve_13 = true := by decide +kernel
def GX3_improve_13 (l : Launch) (h0 : Hp) (h' : Hp) (v : Int) (h : Hp) : (Int × Int × Int × Int) → Prop
  | (e1, e2, e3, e4) => PAt l false (mi 193).1 h0 v h' 64 [(0, 7, 110), (1, 0, e1), (2, 0, e2), (3, 0, e3), (4, 0, e4)] [] h
theorem sBX3_improve_13 {l : Launch} {h0 h' : Hp} {v : Int} (h8 : nOf h0 = 148) (n : Nat) (h : Hp) : ∀ (f : Nat) (x1 : Int) (x2 : Int) (x3 : Int) (x4 : Int) (x5 : Int) {r : Int × Int × Int × Int}, BX3_improve_13 n f x1 x2 x3 x4 x5 h = some r → GX3_improve_13 l h0 h' v h r → PAt l false (mi 193).1 h0 v h' 13 [(0, 7, 110), (1, 0, x1), (2, 0, x2), (3, 0, x3), (4, 0, x4), (5, 0, x5)] [] h := by
  intro f
  induction f with
  | zero =>
    intro x1 x2 x3 x4 x5 r H _
    have H2 : (none : Option (Int × Int × Int × Int)) = some r := H
    cases H2
  | succ f ih =>
    intro x1 x2 x3 x4 x5 r H hG
    exact pat_ro ok_sdX3_improve_13 rfl rkX3_improve h8 (foX3_improve_13 n) (frX3_improve_13 n) (fun v1 q => by cases q) (List.forall_mem_cons.mpr ⟨(fun a c H => by
      dsimp only at H
      split at H
      · exact ih _ _ _ _ _ H hG
      · cases H), (List.forall_mem_cons.mpr ⟨(fun a c H => by
      dsimp only at H
      split at H
      · cases H
        exact hG
      · cases H), (fun q9 h9 => by cases h9)⟩)⟩) ((eBX3_improve_13 n f x1 x2 x3 x4 x5 h).symm.trans H)
theorem sJX3_improve_86 {l : Launch} {h0 h' : Hp} {v : Int} (h8 : nOf h0 = 148) (n : Nat) (x3 : Int) (x4 : Int) (h : Hp) {r : Int × Hp} (H : JX3_improve_86 n x3 x4 h = some r) (hG : gWV v h' r) : PAt l false (mi 193).1 h0 v h' 86 [(3, 0, x3), (4, 0, x4)] [] h :=
  pat_w ok_sdX3_improve rkX3_improve h8 (foX3_improve n) (fun v1 h1 q => by
    cases q
    exact ⟨hG.1, fun _ => hG.2⟩) (fun q9 h9 => by cases h9) ((eJX3_improve_86 n x3 x4 h).symm.trans H)
theorem sJX3_improve_64 {l : Launch} {h0 h' : Hp} {v : Int} (h8 : nOf h0 = 148) (n : Nat) (x1 : Int) (x2 : Int) (x3 : Int) (x4 : Int) (h : Hp) {r : Int × Hp} (H : JX3_improve_64 n x1 x2 x3 x4 h = some r) (hG : gWV v h' r) : PAt l false (mi 193).1 h0 v h' 64 [(0, 7, 110), (1, 0, x1), (2, 0, x2), (3, 0, x3), (4, 0, x4)] [] h :=
  pat_w ok_sdX3_improve rkX3_improve h8 (foX3_improve n) (fun v1 h1 q => by
    cases q
    exact ⟨hG.1, fun _ => hG.2⟩) (List.forall_mem_cons.mpr ⟨(fun a c h H => by
      dsimp only at H
      split at H
      · exact sJX3_improve_86 h8 n _ _ _ H hG
      · cases H), (fun q9 h9 => by cases h9)⟩) ((eJX3_improve_64 n x1 x2 x3 x4 h).symm.trans H)
theorem sLX3_improve_13 {l : Launch} {h0 h' : Hp} {v : Int} (h8 : nOf h0 = 148) (n : Nat) (x1 : Int) (x2 : Int) (x3 : Int) (x4 : Int) (x5 : Int) (h : Hp) {r : Int × Hp} (H : LX3_improve_13 n x1 x2 x3 x4 x5 h = some r) (hG : gWV v h' r) : PAt l false (mi 193).1 h0 v h' 13 [(0, 7, 110), (1, 0, x1), (2, 0, x2), (3, 0, x3), (4, 0, x4), (5, 0, x5)] [] h := by
  obtain ⟨e9, h2, h3⟩ := bndx_some H
  obtain ⟨e1, e2, e3, e4⟩ := e9
  exact sBX3_improve_13 h8 n h n x1 x2 x3 x4 x5 h2 (sJX3_improve_64 h8 n e1 e2 e3 e4 h h3 hG)
theorem sMX3_improve {l : Launch} {h0 h' : Hp} {v : Int} (h8 : nOf h0 = 148) (n : Nat) (x1 : Int) (x2 : Int) (h : Hp) {r : Int × Hp} (H : MX3_improve n x1 x2 h = some r) (hG : gWV v h' r) : PAt l false (mi 193).1 h0 v h' 0 [(0, 7, 110), (1, 0, x1), (2, 0, x2)] [] h :=
  pat_w ok_sdX3_improve rkX3_improve h8 (foX3_improve n) (fun v1 h1 q => by
    cases q
    exact ⟨hG.1, fun _ => hG.2⟩) (List.forall_mem_cons.mpr ⟨(fun a c h H => by
      dsimp only at H
      split at H
      · exact sLX3_improve_13 h8 n _ _ _ _ _ _ H hG
      · cases H), (fun q9 h9 => by cases h9)⟩) ((eMX3_improve n x1 x2 h).symm.trans H)
theorem sndX3_improve {ρ : Type} {l : Launch} (n : Nat) : SndF (ρ := ρ) l false (mi 193).1 (wX3_improve n) := by
    intro a h k r H ha ho hn hf
    have h8 := hf rfl
    obtain ⟨x0, x1, x2, rfl⟩ := len3 (show a.length = 3 from ha)
    have u0 := uq7 hn (ho (7, x0) (List.mem_cons_self))
    subst u0
    replace H : bnd (MX3_improve n x1 x2 h) (fun r h2 => k r h2) = some r := H
    obtain ⟨v2, h2, H1, H2⟩ := bnd_some H
    exact ⟨v2, h2, H2, met_mk (mok_base okX3_improve).1 (by decide +kernel) (Nat.le_of_ble_eq_true rfl) ho (sMX3_improve h8 n x1 x2 h H1 ⟨rfl, rfl⟩), fun q => by cases q⟩
/-! X3_findAll -/
def sdX3_findAll : SD := [(0, [(0, .iconst 0, 1, [], 0), (1, .istore_n 1, 1, [], 0)]),
  (2, [(2, .iload_n 1, 1, [], 0), (3, .aload_n 0, 1, [], 0), (4, .getfield 11, 3, [3, 0, 6364, 1, 556, 0], 1), (7, .arraylength, 1, [], 0), (8, .if_icmp .ge 17, 3, [], 0)]),
  (11, [(11, .aload_n 0, 1, [], 0), (12, .getfield 11, 3, [3, 0, 6364, 1, 556, 0], 1), (15, .iload_n 1, 1, [], 0), (16, .ldc 26, 2, [0, 1166], 1000000000), (18, .iastore, 1, [], 0), (19, .iinc 1 1, 3, [], 0), (22, .goto (-20), 3, [], 0)]),
  (25, [(25, .aload_n 0, 1, [], 0), (26, .getfield 11, 3, [3, 0, 6364, 1, 556, 0], 1), (29, .sipush 366, 3, [], 0), (32, .iconst 0, 1, [], 0), (33, .iastore, 1, [], 0), (34, .iconst 1, 1, [], 0), (35, .istore_n 1, 1, [], 0), (36, .iconst 0, 1, [], 0), (37, .istore_n 2, 1, [], 0)]),
  (38, [(38, .iload_n 2, 1, [], 0), (39, .sipush 1000, 3, [], 0), (42, .if_icmp .ge 66, 3, [], 0)]),
  (45, [(45, .iload_n 1, 1, [], 0), (46, .ifCond .eq 62, 3, [], 0)]),
  (49, [(49, .iconst 0, 1, [], 0), (50, .istore_n 1, 1, [], 0), (51, .bipush (-6), 2, [], 0), (53, .istore_n 3, 1, [], 0)]),
  (54, [(54, .iload_n 3, 1, [], 0), (55, .bipush 6, 2, [], 0), (57, .if_icmp .gt 45, 3, [], 0)]),
  (60, [(60, .iconst 0, 1, [], 0), (61, .istore 4, 2, [], 0)]),
  (63, [(63, .iload 4, 2, [], 0), (65, .bipush 61, 2, [], 0), (67, .if_icmp .ge 29, 3, [], 0)]),
  (70, [(70, .aload_n 0, 1, [], 0), (71, .iload 4, 2, [], 0), (73, .iload_n 3, 1, [], 0), (74, .invokevirtual 27, 3, [1, 0, 1, 193, 1167, 0, 0, 7], 0), (77, .ifCond .ne 7, 3, [], 0)]),
  (80, [(80, .iload_n 1, 1, [], 0), (81, .ifCond .eq 7, 3, [], 0)]),
  (84, [(84, .iconst 1, 1, [], 0), (85, .goto 4, 3, [], 0)]),
  (88, [(88, .iconst 0, 1, [], 0)]),
  (89, [(89, .istore_n 1, 1, [], 0), (90, .iinc 4 1, 3, [], 0), (93, .goto (-30), 3, [], 0)]),
  (96, [(96, .iinc 3 1, 3, [], 0), (99, .goto (-45), 3, [], 0)]),
  (102, [(102, .iinc 2 1, 3, [], 0), (105, .goto (-67), 3, [], 0)]),
  (108, [(108, .return_, 1, [], 0)])]
def BX3_findAll_2 (n : Nat) : Nat → Int → Hp → Option (Hp)
  | 0, _, _ => none
  | f + 1, x1, h =>
    (if (alen 6364) ≤ x1 then
    (some (h))
    else
    (grd (0 ≤ x1 ∧ x1 < alen 6364)
    (ltt (up h 111 x1 1000000000) fun h1 =>
    (ltt (w32 (x1 + 1)) fun y1 =>
    (BX3_findAll_2 n f y1 h1)))))
def JX3_findAll_89 (n : Nat) (bk : Int → Int → Int → Int → Hp → Option (Int × Int × Int × Hp)) (x2 x3 x4 z0 : Int) (h : Hp) : Option (Int × Int × Int × Hp) :=
(ltt z0 fun y1 =>
(ltt (w32 (x4 + 1)) fun y2 =>
(bk y1 x2 x3 y2 h)))
def JX3_findAll_84 (n : Nat) (bk : Int → Int → Int → Int → Hp → Option (Int × Int × Int × Hp)) (x2 x3 x4 : Int) (h : Hp) : Option (Int × Int × Int × Hp) :=
(JX3_findAll_89 n bk x2 x3 x4 1 h)
def BX3_findAll_63 (n : Nat) : Nat → Int → Int → Int → Int → Hp → Option (Int × Int × Int × Hp)
  | 0, _, _, _, _, _ => none
  | f + 1, x1, x2, x3, x4, h =>
    (if 61 ≤ x4 then
    (some (x1, x2, x3, h))
    else
    (bnd (MX3_improve n x4 x3 h) fun r1 h1 =>
    (if r1 ≠ 0 then
    (JX3_findAll_84 n (BX3_findAll_63 n f) x2 x3 x4 h1)
    else
    (if x1 = 0 then
    (JX3_findAll_89 n (BX3_findAll_63 n f) x2 x3 x4 0 h1)
    else
    (JX3_findAll_84 n (BX3_findAll_63 n f) x2 x3 x4 h1)))))
def JX3_findAll_96 (n : Nat) (bk : Int → Int → Int → Hp → Option (Int × Int × Hp)) (x1 x2 x3 : Int) (h : Hp) : Option (Int × Int × Hp) :=
(ltt (w32 (x3 + 1)) fun y1 =>
(bk x1 x2 y1 h))
def LX3_findAll_63 (n : Nat) (bk : Int → Int → Int → Hp → Option (Int × Int × Hp)) (x1 x2 x3 x4 : Int) (h : Hp) : Option (Int × Int × Hp) :=
(bndx (BX3_findAll_63 n n x1 x2 x3 x4 h) fun (e1, e2, e3, h1) =>
(JX3_findAll_96 n bk e1 e2 e3 h1))
def BX3_findAll_54 (n : Nat) : Nat → Int → Int → Int → Hp → Option (Int × Int × Hp)
  | 0, _, _, _, _ => none
  | f + 1, x1, x2, x3, h =>
    (if 6 < x3 then
    (some (x1, x2, h))
    else
    (ltt 0 fun y1 =>
    (LX3_findAll_63 n (BX3_findAll_54 n f) x1 x2 x3 y1 h)))
def JX3_findAll_102 (n : Nat) (bk : Int → Int → Hp → Option (Hp)) (x1 x2 : Int) (h : Hp) : Option (Hp) :=
(ltt (w32 (x2 + 1)) fun y1 =>
(bk x1 y1 h))
def LX3_findAll_54 (n : Nat) (bk : Int → Int → Hp → Option (Hp)) (x1 x2 x3 : Int) (h : Hp) : Option (Hp) :=
(bndx (BX3_findAll_54 n n x1 x2 x3 h) fun (e1, e2, h1) =>
(JX3_findAll_102 n bk e1 e2 h1))
def BX3_findAll_38 (n : Nat) : Nat → Int → Int → Hp → Option (Hp)
  | 0, _, _, _ => none
  | f + 1, x1, x2, h =>
    (if 1000 ≤ x2 then
    (some h)
    else
    (if x1 = 0 then
    (some h)
    else
    (ltt 0 fun y1 =>
    (ltt (-6) fun y2 =>
    (LX3_findAll_54 n (BX3_findAll_38 n f) y1 x2 y2 h)))))
def LX3_findAll_38 (n : Nat) (x1 x2 : Int) (h : Hp) : Option (Hp) :=
(BX3_findAll_38 n n x1 x2 h)
def JX3_findAll_25 (n : Nat) (h : Hp) : Option (Hp) :=
(grd (0 ≤ 366 ∧ 366 < alen 6364)
(ltt (up h 111 366 0) fun h1 =>
(ltt 1 fun y1 =>
(ltt 0 fun y2 =>
(LX3_findAll_38 n y1 y2 h1)))))
def LX3_findAll_2 (n : Nat) (x1 : Int) (h : Hp) : Option (Hp) :=
(bndx (BX3_findAll_2 n n x1 h) fun h1 =>
(JX3_findAll_25 n h1))
def MX3_findAll (n : Nat) (h : Hp) : Option (Hp) :=
(ltt 0 fun y1 =>
(LX3_findAll_2 n y1 h))
def wX3_findAll {ρ : Type} (n : Nat) : FN ρ := fun a h k => match a with
  | [_] => bndh (MX3_findAll n h) (fun h2 => k 0 h2)
  | _ => none
def fsX3_findAll (n : Nat) (ρ : Type) : List (FN ρ) := [wX3_improve n]
def KBX3_findAll_2 (_ : Nat) (bk : Int → Hp → Option (Hp)) : CT (Hp) := [(2, [(0, 7, (some 110)), (1, 0, none)], [], fun a c h => match a, c with
    | [x1], [] => bk x1 h
    | _, _ => none),
  (25, [(0, 7, (some 110))], [], fun a c h => match a, c with
    | [], [] => some (h)
    | _, _ => none)]
set_option maxRecDepth 100000 in
theorem eBX3_findAll_2 (n f : Nat) (x1 : Int) (h : Hp) : BX3_findAll_2 n (f + 1) x1 h =
  goAt false (kct (KBX3_findAll_2 n (BX3_findAll_2 n f))) (fun _ _ => none) (fsX3_findAll n _) sdX3_findAll 1000 2 [(0, 7, 110), (1, 0, x1)] [] h := rfl
def KJX3_findAll_89 (_ : Nat) (bk : Int → Int → Int → Int → Hp → Option (Int × Int × Int × Hp)) : CT (Int × Int × Int × Hp) := [(63, [(0, 7, (some 110)), (1, 0, none), (2, 0, none), (3, 0, none), (4, 0, none)], [], fun a c h => match a, c with
    | [x1, x2, x3, x4], [] => bk x1 x2 x3 x4 h
    | _, _ => none),
  (96, [(0, 7, (some 110)), (1, 0, none), (2, 0, none), (3, 0, none)], [], fun a c h => match a, c with
    | [x1, x2, x3], [] => some (x1, x2, x3, h)
    | _, _ => none)]
set_option maxRecDepth 100000 in
theorem eJX3_findAll_89 (n : Nat) (bk : Int → Int → Int → Int → Hp → Option (Int × Int × Int × Hp)) (x2 : Int) (x3 : Int) (x4 : Int) (z0 : Int) (h : Hp) : JX3_findAll_89 n bk x2 x3 x4 z0 h =
  goAt false (kct (KJX3_findAll_89 n bk)) (fun _ _ => none) (fsX3_findAll n _) sdX3_findAll 1000 89 [(0, 7, 110), (2, 0, x2), (3, 0, x3), (4, 0, x4)] [(0, z0)] h := rfl
def KJX3_findAll_84 (n : Nat) (bk : Int → Int → Int → Int → Hp → Option (Int × Int × Int × Hp)) : CT (Int × Int × Int × Hp) := [(63, [(0, 7, (some 110)), (1, 0, none), (2, 0, none), (3, 0, none), (4, 0, none)], [], fun a c h => match a, c with
    | [x1, x2, x3, x4], [] => bk x1 x2 x3 x4 h
    | _, _ => none),
  (96, [(0, 7, (some 110)), (1, 0, none), (2, 0, none), (3, 0, none)], [], fun a c h => match a, c with
    | [x1, x2, x3], [] => some (x1, x2, x3, h)
    | _, _ => none),
  (89, [(0, 7, (some 110)), (2, 0, none), (3, 0, none), (4, 0, none)], [(0, none)], fun a c h => match a, c with
    | [x2, x3, x4], [z0] => JX3_findAll_89 n bk x2 x3 x4 z0 h
    | _, _ => none)]
set_option maxRecDepth 100000 in
theorem eJX3_findAll_84 (n : Nat) (bk : Int → Int → Int → Int → Hp → Option (Int × Int × Int × Hp)) (x2 : Int) (x3 : Int) (x4 : Int) (h : Hp) : JX3_findAll_84 n bk x2 x3 x4 h =
  goAt false (kct (KJX3_findAll_84 n bk)) (fun _ _ => none) (fsX3_findAll n _) sdX3_findAll 1000 84 [(0, 7, 110), (2, 0, x2), (3, 0, x3), (4, 0, x4)] [] h := rfl
def KBX3_findAll_63 (n : Nat) (bk : Int → Int → Int → Int → Hp → Option (Int × Int × Int × Hp)) : CT (Int × Int × Int × Hp) := [(63, [(0, 7, (some 110)), (1, 0, none), (2, 0, none), (3, 0, none), (4, 0, none)], [], fun a c h => match a, c with
    | [x1, x2, x3, x4], [] => bk x1 x2 x3 x4 h
    | _, _ => none),
  (96, [(0, 7, (some 110)), (1, 0, none), (2, 0, none), (3, 0, none)], [], fun a c h => match a, c with
    | [x1, x2, x3], [] => some (x1, x2, x3, h)
    | _, _ => none),
  (89, [(0, 7, (some 110)), (2, 0, none), (3, 0, none), (4, 0, none)], [(0, none)], fun a c h => match a, c with
    | [x2, x3, x4], [z0] => JX3_findAll_89 n bk x2 x3 x4 z0 h
    | _, _ => none),
  (84, [(0, 7, (some 110)), (2, 0, none), (3, 0, none), (4, 0, none)], [], fun a c h => match a, c with
    | [x2, x3, x4], [] => JX3_findAll_84 n bk x2 x3 x4 h
    | _, _ => none)]
set_option maxRecDepth 100000 in
theorem eBX3_findAll_63 (n f : Nat) (x1 : Int) (x2 : Int) (x3 : Int) (x4 : Int) (h : Hp) : BX3_findAll_63 n (f + 1) x1 x2 x3 x4 h =
  goAt false (kct (KBX3_findAll_63 n (BX3_findAll_63 n f))) (fun _ _ => none) (fsX3_findAll n _) sdX3_findAll 1000 63 [(0, 7, 110), (1, 0, x1), (2, 0, x2), (3, 0, x3), (4, 0, x4)] [] h := rfl
def KJX3_findAll_96 (_ : Nat) (bk : Int → Int → Int → Hp → Option (Int × Int × Hp)) : CT (Int × Int × Hp) := [(54, [(0, 7, (some 110)), (1, 0, none), (2, 0, none), (3, 0, none)], [], fun a c h => match a, c with
    | [x1, x2, x3], [] => bk x1 x2 x3 h
    | _, _ => none),
  (102, [(0, 7, (some 110)), (1, 0, none), (2, 0, none)], [], fun a c h => match a, c with
    | [x1, x2], [] => some (x1, x2, h)
    | _, _ => none)]
set_option maxRecDepth 100000 in
theorem eJX3_findAll_96 (n : Nat) (bk : Int → Int → Int → Hp → Option (Int × Int × Hp)) (x1 : Int) (x2 : Int) (x3 : Int) (h : Hp) : JX3_findAll_96 n bk x1 x2 x3 h =
  goAt false (kct (KJX3_findAll_96 n bk)) (fun _ _ => none) (fsX3_findAll n _) sdX3_findAll 1000 96 [(0, 7, 110), (1, 0, x1), (2, 0, x2), (3, 0, x3)] [] h := rfl
def KBX3_findAll_54 (n : Nat) (bk : Int → Int → Int → Hp → Option (Int × Int × Hp)) : CT (Int × Int × Hp) := [(54, [(0, 7, (some 110)), (1, 0, none), (2, 0, none), (3, 0, none)], [], fun a c h => match a, c with
    | [x1, x2, x3], [] => bk x1 x2 x3 h
    | _, _ => none),
  (102, [(0, 7, (some 110)), (1, 0, none), (2, 0, none)], [], fun a c h => match a, c with
    | [x1, x2], [] => some (x1, x2, h)
    | _, _ => none),
  (63, [(0, 7, (some 110)), (1, 0, none), (2, 0, none), (3, 0, none), (4, 0, none)], [], fun a c h => match a, c with
    | [x1, x2, x3, x4], [] => LX3_findAll_63 n bk x1 x2 x3 x4 h
    | _, _ => none)]
set_option maxRecDepth 100000 in
theorem eBX3_findAll_54 (n f : Nat) (x1 : Int) (x2 : Int) (x3 : Int) (h : Hp) : BX3_findAll_54 n (f + 1) x1 x2 x3 h =
  goAt false (kct (KBX3_findAll_54 n (BX3_findAll_54 n f))) (fun _ _ => none) (fsX3_findAll n _) sdX3_findAll 1000 54 [(0, 7, 110), (1, 0, x1), (2, 0, x2), (3, 0, x3)] [] h := rfl
def KJX3_findAll_102 (_ : Nat) (bk : Int → Int → Hp → Option (Hp)) : CT (Hp) := [(38, [(0, 7, (some 110)), (1, 0, none), (2, 0, none)], [], fun a c h => match a, c with
    | [x1, x2], [] => bk x1 x2 h
    | _, _ => none)]
set_option maxRecDepth 100000 in
theorem eJX3_findAll_102 (n : Nat) (bk : Int → Int → Hp → Option (Hp)) (x1 : Int) (x2 : Int) (h : Hp) : JX3_findAll_102 n bk x1 x2 h =
  goAt false (kct (KJX3_findAll_102 n bk)) (fun _ h => some (h)) (fsX3_findAll n _) sdX3_findAll 1000 102 [(0, 7, 110), (1, 0, x1), (2, 0, x2)] [] h := rfl
def KBX3_findAll_38 (n : Nat) (bk : Int → Int → Hp → Option (Hp)) : CT (Hp) := [(38, [(0, 7, (some 110)), (1, 0, none), (2, 0, none)], [], fun a c h => match a, c with
    | [x1, x2], [] => bk x1 x2 h
    | _, _ => none),
  (54, [(0, 7, (some 110)), (1, 0, none), (2, 0, none), (3, 0, none)], [], fun a c h => match a, c with
    | [x1, x2, x3], [] => LX3_findAll_54 n bk x1 x2 x3 h
    | _, _ => none)]
set_option maxRecDepth 100000 in
theorem eBX3_findAll_38 (n f : Nat) (x1 : Int) (x2 : Int) (h : Hp) : BX3_findAll_38 n (f + 1) x1 x2 h =
  goAt false (kct (KBX3_findAll_38 n (BX3_findAll_38 n f))) (fun _ h => some (h)) (fsX3_findAll n _) sdX3_findAll 1000 38 [(0, 7, 110), (1, 0, x1), (2, 0, x2)] [] h := rfl
def KJX3_findAll_25 (n : Nat) : CT (Hp) := [(38, [(0, 7, (some 110)), (1, 0, none), (2, 0, none)], [], fun a c h => match a, c with
    | [x1, x2], [] => LX3_findAll_38 n x1 x2 h
    | _, _ => none)]
set_option maxRecDepth 100000 in
theorem eJX3_findAll_25 (n : Nat) (h : Hp) : JX3_findAll_25 n h =
  goAt false (kct (KJX3_findAll_25 n)) (fun _ h => some (h)) (fsX3_findAll n _) sdX3_findAll 1000 25 [(0, 7, 110)] [] h := rfl
def KMX3_findAll (n : Nat) : CT (Hp) := [(2, [(0, 7, (some 110)), (1, 0, none)], [], fun a c h => match a, c with
    | [x1], [] => LX3_findAll_2 n x1 h
    | _, _ => none)]
set_option maxRecDepth 100000 in
theorem eMX3_findAll (n : Nat) (h : Hp) : MX3_findAll n h =
  goAt false (kct (KMX3_findAll n)) (fun _ h => some (h)) (fsX3_findAll n _) sdX3_findAll 1000 0 [(0, 7, 110)] [] h := rfl
theorem okX3_findAll : mokb (mi 194) = true := by decide +kernel
theorem rkX3_findAll : rkOK 0 (mi 194).1.2.2.2.2.2.2.1 (mi 194).1.2.2.2.1 := Or.inl ⟨rfl, rfl, rfl⟩
def calX3_findAll : List Nat := [193]
theorem foX3_findAll {l : Launch} {ρ : Type} (n : Nat) : fsOK l false mi calX3_findAll (fsX3_findAll n ρ) := ⟨(sndX3_improve n), trivial⟩
theorem ok_sdX3_findAll : sdb (mi 194).1.2.1 (insOK mi (mi 194).1.1.cls (mi 194).1.2.2.1 (mi 194).1.2.2.2.2.1 (mi 194).1.2.2.2.2.2.1 calX3_findAll false 0) sdX3_findAll = true := by decide +kernel
def GX3_findAll_2 (l : Launch) (h0 : Hp) (h' : Hp) (v : Int) (_ : Hp) : (Hp) → Prop
  | h1 => PAt l false (mi 194).1 h0 v h' 25 [(0, 7, 110)] [] h1
def GX3_findAll_63 (l : Launch) (h0 : Hp) (h' : Hp) (v : Int) (_ : Hp) : (Int × Int × Int × Hp) → Prop
  | (e1, e2, e3, h1) => PAt l false (mi 194).1 h0 v h' 96 [(0, 7, 110), (1, 0, e1), (2, 0, e2), (3, 0, e3)] [] h1
def GX3_findAll_54 (l : Launch) (h0 : Hp) (h' : Hp) (v : Int) (_ : Hp) : (Int × Int × Hp) → Prop
  | (e1, e2, h1) => PAt l false (mi 194).1 h0 v h' 102 [(0, 7, 110), (1, 0, e1), (2, 0, e2)] [] h1
theorem sBX3_findAll_2 {l : Launch} {h0 h' : Hp} {v : Int} (h8 : nOf h0 = 148) (n : Nat) : ∀ (f : Nat) (x1 : Int) (h : Hp) {r : Hp}, BX3_findAll_2 n f x1 h = some r → GX3_findAll_2 l h0 h' v h r → PAt l false (mi 194).1 h0 v h' 2 [(0, 7, 110), (1, 0, x1)] [] h := by
  intro f
  induction f with
  | zero =>
    intro x1 h r H _
    have H2 : (none : Option (Hp)) = some r := H
    cases H2
  | succ f ih =>
    intro x1 h r H hG
    exact pat_w ok_sdX3_findAll rkX3_findAll h8 (foX3_findAll n) (fun v1 h1 q => by cases q) (List.forall_mem_cons.mpr ⟨(fun a c h H => by
      dsimp only at H
      split at H
      · exact ih _ _ H hG
      · cases H), (List.forall_mem_cons.mpr ⟨(fun a c h H => by
      dsimp only at H
      split at H
      · cases H
        exact hG
      · cases H), (fun q9 h9 => by cases h9)⟩)⟩) ((eBX3_findAll_2 n f x1 h).symm.trans H)
theorem sJX3_findAll_89 {l : Launch} {h0 h' : Hp} {v : Int} (h8 : nOf h0 = 148) (n : Nat) (bk : Int → Int → Int → Int → Hp → Option (Int × Int × Int × Hp)) (hbk : ∀ (x1 : Int) (x2 : Int) (x3 : Int) (x4 : Int) (h : Hp) (r : Int × Int × Int × Hp), bk x1 x2 x3 x4 h = some r → GX3_findAll_63 l h0 h' v h r → PAt l false (mi 194).1 h0 v h' 63 [(0, 7, 110), (1, 0, x1), (2, 0, x2), (3, 0, x3), (4, 0, x4)] [] h) (x2 : Int) (x3 : Int) (x4 : Int) (z0 : Int) (h : Hp) {r : Int × Int × Int × Hp} (H : JX3_findAll_89 n bk x2 x3 x4 z0 h = some r) (hG : GX3_findAll_63 l h0 h' v h r) : PAt l false (mi 194).1 h0 v h' 89 [(0, 7, 110), (2, 0, x2), (3, 0, x3), (4, 0, x4)] [(0, z0)] h :=
  pat_w ok_sdX3_findAll rkX3_findAll h8 (foX3_findAll n) (fun v1 h1 q => by cases q) (List.forall_mem_cons.mpr ⟨(fun a c h H => by
      dsimp only at H
      split at H
      · exact hbk _ _ _ _ _ _ H hG
      · cases H), (List.forall_mem_cons.mpr ⟨(fun a c h H => by
      dsimp only at H
      split at H
      · cases H
        exact hG
      · cases H), (fun q9 h9 => by cases h9)⟩)⟩) ((eJX3_findAll_89 n bk x2 x3 x4 z0 h).symm.trans H)
theorem sJX3_findAll_84 {l : Launch} {h0 h' : Hp} {v : Int} (h8 : nOf h0 = 148) (n : Nat) (bk : Int → Int → Int → Int → Hp → Option (Int × Int × Int × Hp)) (hbk : ∀ (x1 : Int) (x2 : Int) (x3 : Int) (x4 : Int) (h : Hp) (r : Int × Int × Int × Hp), bk x1 x2 x3 x4 h = some r → GX3_findAll_63 l h0 h' v h r → PAt l false (mi 194).1 h0 v h' 63 [(0, 7, 110), (1, 0, x1), (2, 0, x2), (3, 0, x3), (4, 0, x4)] [] h) (x2 : Int) (x3 : Int) (x4 : Int) (h : Hp) {r : Int × Int × Int × Hp} (H : JX3_findAll_84 n bk x2 x3 x4 h = some r) (hG : GX3_findAll_63 l h0 h' v h r) : PAt l false (mi 194).1 h0 v h' 84 [(0, 7, 110), (2, 0, x2), (3, 0, x3), (4, 0, x4)] [] h :=
  pat_w ok_sdX3_findAll rkX3_findAll h8 (foX3_findAll n) (fun v1 h1 q => by cases q) (List.forall_mem_cons.mpr ⟨(fun a c h H => by
      dsimp only at H
      split at H
      · exact hbk _ _ _ _ _ _ H hG
      · cases H), (List.forall_mem_cons.mpr ⟨(fun a c h H => by
      dsimp only at H
      split at H
      · cases H
        exact hG
      · cases H), (List.forall_mem_cons.mpr ⟨(fun a c h H => by
      dsimp only at H
      split at H
      · exact sJX3_findAll_89 h8 n bk hbk _ _ _ _ _ H hG
      · cases H), (fun q9 h9 => by cases h9)⟩)⟩)⟩) ((eJX3_findAll_84 n bk x2 x3 x4 h).symm.trans H)
theorem sBX3_findAll_63 {l : Launch} {h0 h' : Hp} {v : Int} (h8 : nOf h0 = 148) (n : Nat) : ∀ (f : Nat) (x1 : Int) (x2 : Int) (x3 : Int) (x4 : Int) (h : Hp) {r : Int × Int × Int × Hp}, BX3_findAll_63 n f x1 x2 x3 x4 h = some r → GX3_findAll_63 l h0 h' v h r → PAt l false (mi 194).1 h0 v h' 63 [(0, 7, 110), (1, 0, x1), (2, 0, x2), (3, 0, x3), (4, 0, x4)] [] h := by
  intro f
  induction f with
  | zero =>
    intro x1 x2 x3 x4 h r H _
    have H2 : (none : Option (Int × Int × Int × Hp)) = some r := H
    cases H2
  | succ f ih =>
    intro x1 x2 x3 x4 h r H hG
    have ihk : ∀ (x1 : Int) (x2 : Int) (x3 : Int) (x4 : Int) (h : Hp) (r : Int × Int × Int × Hp), BX3_findAll_63 n f x1 x2 x3 x4 h = some r → GX3_findAll_63 l h0 h' v h r → PAt l false (mi 194).1 h0 v h' 63 [(0, 7, 110), (1, 0, x1), (2, 0, x2), (3, 0, x3), (4, 0, x4)] [] h := fun x1 x2 x3 x4 h r9 a9 b9 => ih x1 x2 x3 x4 h a9 b9
    exact pat_w ok_sdX3_findAll rkX3_findAll h8 (foX3_findAll n) (fun v1 h1 q => by cases q) (List.forall_mem_cons.mpr ⟨(fun a c h H => by
      dsimp only at H
      split at H
      · exact ih _ _ _ _ _ H hG
      · cases H), (List.forall_mem_cons.mpr ⟨(fun a c h H => by
      dsimp only at H
      split at H
      · cases H
        exact hG
      · cases H), (List.forall_mem_cons.mpr ⟨(fun a c h H => by
      dsimp only at H
      split at H
      · exact sJX3_findAll_89 h8 n (BX3_findAll_63 n f) ihk _ _ _ _ _ H hG
      · cases H), (List.forall_mem_cons.mpr ⟨(fun a c h H => by
      dsimp only at H
      split at H
      · exact sJX3_findAll_84 h8 n (BX3_findAll_63 n f) ihk _ _ _ _ H hG
      · cases H), (fun q9 h9 => by cases h9)⟩)⟩)⟩)⟩) ((eBX3_findAll_63 n f x1 x2 x3 x4 h).symm.trans H)
theorem sJX3_findAll_96 {l : Launch} {h0 h' : Hp} {v : Int} (h8 : nOf h0 = 148) (n : Nat) (bk : Int → Int → Int → Hp → Option (Int × Int × Hp)) (hbk : ∀ (x1 : Int) (x2 : Int) (x3 : Int) (h : Hp) (r : Int × Int × Hp), bk x1 x2 x3 h = some r → GX3_findAll_54 l h0 h' v h r → PAt l false (mi 194).1 h0 v h' 54 [(0, 7, 110), (1, 0, x1), (2, 0, x2), (3, 0, x3)] [] h) (x1 : Int) (x2 : Int) (x3 : Int) (h : Hp) {r : Int × Int × Hp} (H : JX3_findAll_96 n bk x1 x2 x3 h = some r) (hG : GX3_findAll_54 l h0 h' v h r) : PAt l false (mi 194).1 h0 v h' 96 [(0, 7, 110), (1, 0, x1), (2, 0, x2), (3, 0, x3)] [] h :=
  pat_w ok_sdX3_findAll rkX3_findAll h8 (foX3_findAll n) (fun v1 h1 q => by cases q) (List.forall_mem_cons.mpr ⟨(fun a c h H => by
      dsimp only at H
      split at H
      · exact hbk _ _ _ _ _ H hG
      · cases H), (List.forall_mem_cons.mpr ⟨(fun a c h H => by
      dsimp only at H
      split at H
      · cases H
        exact hG
      · cases H), (fun q9 h9 => by cases h9)⟩)⟩) ((eJX3_findAll_96 n bk x1 x2 x3 h).symm.trans H)
theorem sLX3_findAll_63 {l : Launch} {h0 h' : Hp} {v : Int} (h8 : nOf h0 = 148) (n : Nat) (bk : Int → Int → Int → Hp → Option (Int × Int × Hp)) (hbk : ∀ (x1 : Int) (x2 : Int) (x3 : Int) (h : Hp) (r : Int × Int × Hp), bk x1 x2 x3 h = some r → GX3_findAll_54 l h0 h' v h r → PAt l false (mi 194).1 h0 v h' 54 [(0, 7, 110), (1, 0, x1), (2, 0, x2), (3, 0, x3)] [] h) (x1 : Int) (x2 : Int) (x3 : Int) (x4 : Int) (h : Hp) {r : Int × Int × Hp} (H : LX3_findAll_63 n bk x1 x2 x3 x4 h = some r) (hG : GX3_findAll_54 l h0 h' v h r) : PAt l false (mi 194).1 h0 v h' 63 [(0, 7, 110), (1, 0, x1), (2, 0, x2), (3, 0, x3), (4, 0, x4)] [] h := by
  obtain ⟨e9, h2, h3⟩ := bndx_some H
  obtain ⟨e1, e2, e3, h1⟩ := e9
  exact sBX3_findAll_63 h8 n n x1 x2 x3 x4 h h2 (sJX3_findAll_96 h8 n bk hbk e1 e2 e3 h1 h3 hG)
theorem sBX3_findAll_54 {l : Launch} {h0 h' : Hp} {v : Int} (h8 : nOf h0 = 148) (n : Nat) : ∀ (f : Nat) (x1 : Int) (x2 : Int) (x3 : Int) (h : Hp) {r : Int × Int × Hp}, BX3_findAll_54 n f x1 x2 x3 h = some r → GX3_findAll_54 l h0 h' v h r → PAt l false (mi 194).1 h0 v h' 54 [(0, 7, 110), (1, 0, x1), (2, 0, x2), (3, 0, x3)] [] h := by
  intro f
  induction f with
  | zero =>
    intro x1 x2 x3 h r H _
    have H2 : (none : Option (Int × Int × Hp)) = some r := H
    cases H2
  | succ f ih =>
    intro x1 x2 x3 h r H hG
    have ihk : ∀ (x1 : Int) (x2 : Int) (x3 : Int) (h : Hp) (r : Int × Int × Hp), BX3_findAll_54 n f x1 x2 x3 h = some r → GX3_findAll_54 l h0 h' v h r → PAt l false (mi 194).1 h0 v h' 54 [(0, 7, 110), (1, 0, x1), (2, 0, x2), (3, 0, x3)] [] h := fun x1 x2 x3 h r9 a9 b9 => ih x1 x2 x3 h a9 b9
    exact pat_w ok_sdX3_findAll rkX3_findAll h8 (foX3_findAll n) (fun v1 h1 q => by cases q) (List.forall_mem_cons.mpr ⟨(fun a c h H => by
      dsimp only at H
      split at H
      · exact ih _ _ _ _ H hG
      · cases H), (List.forall_mem_cons.mpr ⟨(fun a c h H => by
      dsimp only at H
      split at H
      · cases H
        exact hG
      · cases H), (List.forall_mem_cons.mpr ⟨(fun a c h H => by
      dsimp only at H
      split at H
      · exact sLX3_findAll_63 h8 n (BX3_findAll_54 n f) ihk _ _ _ _ _ H hG
      · cases H), (fun q9 h9 => by cases h9)⟩)⟩)⟩) ((eBX3_findAll_54 n f x1 x2 x3 h).symm.trans H)
theorem sJX3_findAll_102 {l : Launch} {h0 h' : Hp} {v : Int} (h8 : nOf h0 = 148) (n : Nat) (bk : Int → Int → Hp → Option (Hp)) (hbk : ∀ (x1 : Int) (x2 : Int) (h : Hp) (r : Hp), bk x1 x2 h = some r → gW h' r → PAt l false (mi 194).1 h0 v h' 38 [(0, 7, 110), (1, 0, x1), (2, 0, x2)] [] h) (x1 : Int) (x2 : Int) (h : Hp) {r : Hp} (H : JX3_findAll_102 n bk x1 x2 h = some r) (hG : gW h' r) : PAt l false (mi 194).1 h0 v h' 102 [(0, 7, 110), (1, 0, x1), (2, 0, x2)] [] h :=
  pat_w ok_sdX3_findAll rkX3_findAll h8 (foX3_findAll n) (fun v1 h1 q => by
    cases q
    exact ⟨hG, fun q9 => absurd rfl q9⟩) (List.forall_mem_cons.mpr ⟨(fun a c h H => by
      dsimp only at H
      split at H
      · exact hbk _ _ _ _ H hG
      · cases H), (fun q9 h9 => by cases h9)⟩) ((eJX3_findAll_102 n bk x1 x2 h).symm.trans H)
theorem sLX3_findAll_54 {l : Launch} {h0 h' : Hp} {v : Int} (h8 : nOf h0 = 148) (n : Nat) (bk : Int → Int → Hp → Option (Hp)) (hbk : ∀ (x1 : Int) (x2 : Int) (h : Hp) (r : Hp), bk x1 x2 h = some r → gW h' r → PAt l false (mi 194).1 h0 v h' 38 [(0, 7, 110), (1, 0, x1), (2, 0, x2)] [] h) (x1 : Int) (x2 : Int) (x3 : Int) (h : Hp) {r : Hp} (H : LX3_findAll_54 n bk x1 x2 x3 h = some r) (hG : gW h' r) : PAt l false (mi 194).1 h0 v h' 54 [(0, 7, 110), (1, 0, x1), (2, 0, x2), (3, 0, x3)] [] h := by
  obtain ⟨e9, h2, h3⟩ := bndx_some H
  obtain ⟨e1, e2, h1⟩ := e9
  exact sBX3_findAll_54 h8 n n x1 x2 x3 h h2 (sJX3_findAll_102 h8 n bk hbk e1 e2 h1 h3 hG)
theorem sBX3_findAll_38 {l : Launch} {h0 h' : Hp} {v : Int} (h8 : nOf h0 = 148) (n : Nat) : ∀ (f : Nat) (x1 : Int) (x2 : Int) (h : Hp) {r : Hp}, BX3_findAll_38 n f x1 x2 h = some r → gW h' r → PAt l false (mi 194).1 h0 v h' 38 [(0, 7, 110), (1, 0, x1), (2, 0, x2)] [] h := by
  intro f
  induction f with
  | zero =>
    intro x1 x2 h r H _
    have H2 : (none : Option (Hp)) = some r := H
    cases H2
  | succ f ih =>
    intro x1 x2 h r H hG
    have ihk : ∀ (x1 : Int) (x2 : Int) (h : Hp) (r : Hp), BX3_findAll_38 n f x1 x2 h = some r → gW h' r → PAt l false (mi 194).1 h0 v h' 38 [(0, 7, 110), (1, 0, x1), (2, 0, x2)] [] h := fun x1 x2 h r9 a9 b9 => ih x1 x2 h a9 b9
    exact pat_w ok_sdX3_findAll rkX3_findAll h8 (foX3_findAll n) (fun v1 h1 q => by
    cases q
    exact ⟨hG, fun q9 => absurd rfl q9⟩) (List.forall_mem_cons.mpr ⟨(fun a c h H => by
      dsimp only at H
      split at H
      · exact ih _ _ _ H hG
      · cases H), (List.forall_mem_cons.mpr ⟨(fun a c h H => by
      dsimp only at H
      split at H
      · exact sLX3_findAll_54 h8 n (BX3_findAll_38 n f) ihk _ _ _ _ H hG
      · cases H), (fun q9 h9 => by cases h9)⟩)⟩) ((eBX3_findAll_38 n f x1 x2 h).symm.trans H)
theorem sLX3_findAll_38 {l : Launch} {h0 h' : Hp} {v : Int} (h8 : nOf h0 = 148) (n : Nat) (x1 : Int) (x2 : Int) (h : Hp) {r : Hp} (H : LX3_findAll_38 n x1 x2 h = some r) (hG : gW h' r) : PAt l false (mi 194).1 h0 v h' 38 [(0, 7, 110), (1, 0, x1), (2, 0, x2)] [] h :=
  sBX3_findAll_38 h8 n n x1 x2 h H hG
theorem sJX3_findAll_25 {l : Launch} {h0 h' : Hp} {v : Int} (h8 : nOf h0 = 148) (n : Nat)  (h : Hp) {r : Hp} (H : JX3_findAll_25 n h = some r) (hG : gW h' r) : PAt l false (mi 194).1 h0 v h' 25 [(0, 7, 110)] [] h :=
  pat_w ok_sdX3_findAll rkX3_findAll h8 (foX3_findAll n) (fun v1 h1 q => by
    cases q
    exact ⟨hG, fun q9 => absurd rfl q9⟩) (List.forall_mem_cons.mpr ⟨(fun a c h H => by
      dsimp only at H
      split at H
      · exact sLX3_findAll_38 h8 n _ _ _ H hG
      · cases H), (fun q9 h9 => by cases h9)⟩) ((eJX3_findAll_25 n h).symm.trans H)
theorem sLX3_findAll_2 {l : Launch} {h0 h' : Hp} {v : Int} (h8 : nOf h0 = 148) (n : Nat) (x1 : Int) (h : Hp) {r : Hp} (H : LX3_findAll_2 n x1 h = some r) (hG : gW h' r) : PAt l false (mi 194).1 h0 v h' 2 [(0, 7, 110), (1, 0, x1)] [] h := by
  obtain ⟨h1, h2, h3⟩ := bndx_some H
  exact sBX3_findAll_2 h8 n n x1 h h2 (sJX3_findAll_25 h8 n h1 h3 hG)
theorem sMX3_findAll {l : Launch} {h0 h' : Hp} {v : Int} (h8 : nOf h0 = 148) (n : Nat)  (h : Hp) {r : Hp} (H : MX3_findAll n h = some r) (hG : gW h' r) : PAt l false (mi 194).1 h0 v h' 0 [(0, 7, 110)] [] h :=
  pat_w ok_sdX3_findAll rkX3_findAll h8 (foX3_findAll n) (fun v1 h1 q => by
    cases q
    exact ⟨hG, fun q9 => absurd rfl q9⟩) (List.forall_mem_cons.mpr ⟨(fun a c h H => by
      dsimp only at H
      split at H
      · exact sLX3_findAll_2 h8 n _ _ H hG
      · cases H), (fun q9 h9 => by cases h9)⟩) ((eMX3_findAll n h).symm.trans H)
theorem sndX3_findAll {ρ : Type} {l : Launch} (n : Nat) : SndF (ρ := ρ) l false (mi 194).1 (wX3_findAll n) := by
    intro a h k r H ha ho hn hf
    have h8 := hf rfl
    obtain ⟨x0, rfl⟩ := len1 (show a.length = 1 from ha)
    have u0 := uq7 hn (ho (7, x0) (List.mem_cons_self))
    subst u0
    replace H : bndh (MX3_findAll n h) (fun h2 => k 0 h2) = some r := H
    obtain ⟨h2, H1, H2⟩ := bndh_some H
    exact ⟨0, h2, H2, met_mk (mok_base okX3_findAll).1 (by decide +kernel) (Nat.le_of_ble_eq_true rfl) ho (sMX3_findAll h8 n  h H1 rfl), fun q => by cases q⟩
/-! X3_wayFrom -/
def sdX3_wayFrom : SD := [(0, [(0, .iload_n 1, 1, [], 0), (1, .ifCond .lt 21, 3, [], 0)]),
  (4, [(4, .iload_n 1, 1, [], 0), (5, .bipush 40, 2, [], 0), (7, .if_icmp .gt 15, 3, [], 0)]),
  (10, [(10, .iload_n 2, 1, [], 0), (11, .bipush (-6), 2, [], 0), (13, .if_icmp .lt 9, 3, [], 0)]),
  (16, [(16, .iload_n 2, 1, [], 0), (17, .bipush 6, 2, [], 0), (19, .if_icmp .le 5, 3, [], 0)]),
  (22, [(22, .iconst (-1), 1, [], 0), (23, .ireturn, 1, [], 0)]),
  (24, [(24, .aload_n 0, 1, [], 0), (25, .getfield 15, 3, [3, 1, 0, 0, 557, 0], 0), (28, .ifCond .ne 12, 3, [], 0)]),
  (31, [(31, .aload_n 0, 1, [], 0), (32, .invokevirtual 19, 3, [0, 0, 1, 194, 1162, 7], 0), (35, .aload_n 0, 1, [], 0), (36, .iconst 1, 1, [], 0), (37, .putfield 15, 3, [3, 1, 0, 0, 1, 557], 0)]),
  (40, [(40, .aload_n 0, 1, [], 0), (41, .iload_n 1, 1, [], 0), (42, .iload_n 2, 1, [], 0), (43, .invokevirtual 22, 3, [1, 1, 1, 192, 1171, 0, 0, 7], 0), (46, .istore_n 3, 1, [], 0), (47, .iload_n 3, 1, [], 0), (48, .ldc 26, 2, [0, 1166], 1000000000), (50, .if_icmp .lt 8, 3, [], 0)]),
  (53, [(53, .bipush (-2), 2, [], 0), (55, .goto 4, 3, [], 0)]),
  (58, [(58, .iload_n 3, 1, [], 0)]),
  (59, [(59, .ireturn, 1, [], 0)])]
def JX3_wayFrom_40 (n : Nat) (x1 x2 : Int) (h : Hp) : Option (Int × Hp) :=
(bndp (MX3_sumOf x1 x2 h) fun r1 =>
(ltt r1 fun y1 =>
(if y1 < 1000000000 then
(some (y1, h))
else
(some ((-2), h)))))
def MX3_wayFrom (n : Nat) (x1 x2 : Int) (h : Hp) : Option (Int × Hp) :=
(if x1 < 0 then
(some ((-1), h))
else
(if 40 < x1 then
(some ((-1), h))
else
(if x2 < (-6) then
(some ((-1), h))
else
(if x2 ≤ 6 then
(if (h 110 1) ≠ 0 then
(JX3_wayFrom_40 n x1 x2 h)
else
(bndh (MX3_findAll n h) fun h1 =>
(ltt (up h1 110 1 1) fun h2 =>
(JX3_wayFrom_40 n x1 x2 h2))))
else
(some ((-1), h))))))
def wX3_wayFrom {ρ : Type} (n : Nat) : FN ρ := fun a h k => match a with
  | [_, x1, x2] => bnd (MX3_wayFrom n x1 x2 h) (fun r h2 => k r h2)
  | _ => none
def fsX3_wayFrom (n : Nat) (ρ : Type) : List (FN ρ) := [wX3_findAll n, wX3_sumOf]
def KJX3_wayFrom_40 (_ : Nat) : CT (Int × Hp) := []
set_option maxRecDepth 100000 in
theorem eJX3_wayFrom_40 (n : Nat) (x1 : Int) (x2 : Int) (h : Hp) : JX3_wayFrom_40 n x1 x2 h =
  goAt false (kct (KJX3_wayFrom_40 n)) (fun v h => some ((v, h))) (fsX3_wayFrom n _) sdX3_wayFrom 1000 40 [(0, 7, 110), (1, 0, x1), (2, 0, x2)] [] h := rfl
def KMX3_wayFrom (n : Nat) : CT (Int × Hp) := [(40, [(0, 7, (some 110)), (1, 0, none), (2, 0, none)], [], fun a c h => match a, c with
    | [x1, x2], [] => JX3_wayFrom_40 n x1 x2 h
    | _, _ => none)]
set_option maxRecDepth 100000 in
theorem eMX3_wayFrom (n : Nat) (x1 : Int) (x2 : Int) (h : Hp) : MX3_wayFrom n x1 x2 h =
  goAt false (kct (KMX3_wayFrom n)) (fun v h => some ((v, h))) (fsX3_wayFrom n _) sdX3_wayFrom 1000 0 [(0, 7, 110), (1, 0, x1), (2, 0, x2)] [] h := rfl
theorem okX3_wayFrom : mokb (mi 195) = true := by decide +kernel
theorem rkX3_wayFrom : rkOK 1 (mi 195).1.2.2.2.2.2.2.1 (mi 195).1.2.2.2.1 := Or.inr (Or.inl ⟨rfl, rfl, rfl⟩)
def calX3_wayFrom : List Nat := [194, 192]
theorem foX3_wayFrom {l : Launch} {ρ : Type} (n : Nat) : fsOK l false mi calX3_wayFrom (fsX3_wayFrom n ρ) := ⟨(sndX3_findAll n), ⟨sndX3_sumOf, trivial⟩⟩
theorem ok_sdX3_wayFrom : sdb (mi 195).1.2.1 (insOK mi (mi 195).1.1.cls (mi 195).1.2.2.1 (mi 195).1.2.2.2.2.1 (mi 195).1.2.2.2.2.2.1 calX3_wayFrom false 1) sdX3_wayFrom = true := by decide +kernel
theorem sJX3_wayFrom_40 {l : Launch} {h0 h' : Hp} {v : Int} (h8 : nOf h0 = 148) (n : Nat) (x1 : Int) (x2 : Int) (h : Hp) {r : Int × Hp} (H : JX3_wayFrom_40 n x1 x2 h = some r) (hG : gWV v h' r) : PAt l false (mi 195).1 h0 v h' 40 [(0, 7, 110), (1, 0, x1), (2, 0, x2)] [] h :=
  pat_w ok_sdX3_wayFrom rkX3_wayFrom h8 (foX3_wayFrom n) (fun v1 h1 q => by
    cases q
    exact ⟨hG.1, fun _ => hG.2⟩) (fun q9 h9 => by cases h9) ((eJX3_wayFrom_40 n x1 x2 h).symm.trans H)
theorem sMX3_wayFrom {l : Launch} {h0 h' : Hp} {v : Int} (h8 : nOf h0 = 148) (n : Nat) (x1 : Int) (x2 : Int) (h : Hp) {r : Int × Hp} (H : MX3_wayFrom n x1 x2 h = some r) (hG : gWV v h' r) : PAt l false (mi 195).1 h0 v h' 0 [(0, 7, 110), (1, 0, x1), (2, 0, x2)] [] h :=
  pat_w ok_sdX3_wayFrom rkX3_wayFrom h8 (foX3_wayFrom n) (fun v1 h1 q => by
    cases q
    exact ⟨hG.1, fun _ => hG.2⟩) (List.forall_mem_cons.mpr ⟨(fun a c h H => by
      dsimp only at H
      split at H
      · exact sJX3_wayFrom_40 h8 n _ _ _ H hG
      · cases H), (fun q9 h9 => by cases h9)⟩) ((eMX3_wayFrom n x1 x2 h).symm.trans H)
theorem sndX3_wayFrom {ρ : Type} {l : Launch} (n : Nat) : SndF (ρ := ρ) l false (mi 195).1 (wX3_wayFrom n) := by
    intro a h k r H ha ho hn hf
    have h8 := hf rfl
    obtain ⟨x0, x1, x2, rfl⟩ := len3 (show a.length = 3 from ha)
    have u0 := uq7 hn (ho (7, x0) (List.mem_cons_self))
    subst u0
    replace H : bnd (MX3_wayFrom n x1 x2 h) (fun r h2 => k r h2) = some r := H
    obtain ⟨v2, h2, H1, H2⟩ := bnd_some H
    exact ⟨v2, h2, H2, met_mk (mok_base okX3_wayFrom).1 (by decide +kernel) (Nat.le_of_ble_eq_true rfl) ho (sMX3_wayFrom h8 n x1 x2 h H1 ⟨rfl, rfl⟩), fun q => by cases q⟩
/-! X11_least -/
def sdX11_least : SD := [(0, [(0, .aload_n 0, 1, [], 0), (1, .getfield 89, 3, [11, 13, 7, 1, 703, 0], 110), (4, .iload_n 1, 1, [], 0), (5, .iload_n 2, 1, [], 0), (6, .invokevirtual 252, 3, [1, 0, 1, 195, 1158, 0, 0, 7], 0), (9, .ireturn, 1, [], 0)])]
def MX11_least (n : Nat) (x1 x2 : Int) (h : Hp) : Option (Int × Hp) :=
(bnd (MX3_wayFrom n x1 x2 h) fun r1 h1 =>
(some (r1, h1)))
def wX11_least {ρ : Type} (n : Nat) : FN ρ := fun a h k => match a with
  | [_, x1, x2] => bnd (MX11_least n x1 x2 h) (fun r h2 => k r h2)
  | _ => none
def fsX11_least (n : Nat) (ρ : Type) : List (FN ρ) := [wX3_wayFrom n]
def KMX11_least (_ : Nat) : CT (Int × Hp) := []
set_option maxRecDepth 100000 in
theorem eMX11_least (n : Nat) (x1 : Int) (x2 : Int) (h : Hp) : MX11_least n x1 x2 h =
  goAt false (kct (KMX11_least n)) (fun v h => some ((v, h))) (fsX11_least n _) sdX11_least 1000 0 [(0, 15, 0), (1, 0, x1), (2, 0, x2)] [] h := rfl
theorem okX11_least : mokb (mi 196) = true := by decide +kernel
theorem rkX11_least : rkOK 1 (mi 196).1.2.2.2.2.2.2.1 (mi 196).1.2.2.2.1 := Or.inr (Or.inl ⟨rfl, rfl, rfl⟩)
def calX11_least : List Nat := [195]
theorem foX11_least {l : Launch} {ρ : Type} (n : Nat) : fsOK l false mi calX11_least (fsX11_least n ρ) := ⟨(sndX3_wayFrom n), trivial⟩
theorem ok_sdX11_least : sdb (mi 196).1.2.1 (insOK mi (mi 196).1.1.cls (mi 196).1.2.2.1 (mi 196).1.2.2.2.2.1 (mi 196).1.2.2.2.2.2.1 calX11_least false 1) sdX11_least = true := by decide +kernel
theorem sMX11_least {l : Launch} {h0 h' : Hp} {v : Int} (h8 : nOf h0 = 148) (n : Nat) (x1 : Int) (x2 : Int) (h : Hp) {r : Int × Hp} (H : MX11_least n x1 x2 h = some r) (hG : gWV v h' r) : PAt l false (mi 196).1 h0 v h' 0 [(0, 15, 0), (1, 0, x1), (2, 0, x2)] [] h :=
  pat_w ok_sdX11_least rkX11_least h8 (foX11_least n) (fun v1 h1 q => by
    cases q
    exact ⟨hG.1, fun _ => hG.2⟩) (fun q9 h9 => by cases h9) ((eMX11_least n x1 x2 h).symm.trans H)
theorem sndX11_least {ρ : Type} {l : Launch} (n : Nat) : SndF (ρ := ρ) l false (mi 196).1 (wX11_least n) := by
    intro a h k r H ha ho hn hf
    have h8 := hf rfl
    obtain ⟨x0, x1, x2, rfl⟩ := len3 (show a.length = 3 from ha)
    have u0 := uq15 hn (ho (15, x0) (List.mem_cons_self))
    subst u0
    replace H : bnd (MX11_least n x1 x2 h) (fun r h2 => k r h2) = some r := H
    obtain ⟨v2, h2, H1, H2⟩ := bnd_some H
    exact ⟨v2, h2, H2, met_mk (mok_base okX11_least).1 (by decide +kernel) (Nat.le_of_ble_eq_true rfl) ho (sMX11_least h8 n x1 x2 h H1 ⟨rfl, rfl⟩), fun q => by cases q⟩
/-! X12_paceAt -/
def sdX12_paceAt : SD := [(0, [(0, .bipush 13, 2, [], 0), (2, .iload_n 0, 1, [], 0), (3, .imul, 1, [], 0), (4, .iload_n 1, 1, [], 0), (5, .iadd, 1, [], 0), (6, .bipush 6, 2, [], 0), (8, .iadd, 1, [], 0), (9, .ireturn, 1, [], 0)])]
def MX12_paceAt (x0 x1 : Int) : Option (Int) :=
(some (w32 ((w32 ((w32 (13 * x0)) + x1)) + 6)))
def wX12_paceAt {ρ : Type} : FN ρ := fun a h k => match a with
  | [x0, x1] => bndp (MX12_paceAt x0 x1) (fun r => k r h)
  | _ => none
def fsX12_paceAt (ρ : Type) : List (FN ρ) := []
def KMX12_paceAt  : CT (Int) := []
set_option maxRecDepth 100000 in
theorem eMX12_paceAt (x0 : Int) (x1 : Int) (h : Hp) : MX12_paceAt x0 x1 =
  goAt false (kct (KMX12_paceAt)) (fun v _ => some (v)) (fsX12_paceAt _) sdX12_paceAt 1000 0 [(0, 0, x0), (1, 0, x1)] [] h := rfl
theorem okX12_paceAt : mokb (mi 197) = true := by decide +kernel
theorem rkX12_paceAt : rkOK 1 (mi 197).1.2.2.2.2.2.2.1 (mi 197).1.2.2.2.1 := Or.inr (Or.inl ⟨rfl, rfl, rfl⟩)
def calX12_paceAt : List Nat := []
theorem foX12_paceAt {l : Launch} {ρ : Type} : fsOK l false mi calX12_paceAt (fsX12_paceAt ρ) := trivial
theorem frX12_paceAt {ρ : Type} : ∀ fn ∈ fsX12_paceAt ρ, RoF fn := (fun q9 h9 => by cases h9)
theorem ok_sdX12_paceAt : sdb (mi 197).1.2.1 (insOK mi (mi 197).1.1.cls (mi 197).1.2.2.1 (mi 197).1.2.2.2.2.1 (mi 197).1.2.2.2.2.2.1 calX12_paceAt false 1) sdX12_paceAt = true := by decide +kernel
theorem sMX12_paceAt {l : Launch} {h0 : Hp} {v : Int} (h8 : nOf h0 = 148)  (x0 : Int) (x1 : Int) (h : Hp) {r : Int} (H : MX12_paceAt x0 x1 = some r) (hG : gV v r) : PAt l false (mi 197).1 h0 v h 0 [(0, 0, x0), (1, 0, x1)] [] h :=
  pat_ro ok_sdX12_paceAt rfl rkX12_paceAt h8 (foX12_paceAt) (frX12_paceAt) (fun v1 q => by
    cases q
    exact ⟨rfl, fun _ => hG⟩) (fun q9 h9 => by cases h9) ((eMX12_paceAt x0 x1 h).symm.trans H)
theorem sndX12_paceAt {ρ : Type} {l : Launch} : SndF (ρ := ρ) l false (mi 197).1 (wX12_paceAt) := by
    intro a h k r H ha ho hn hf
    have h8 := hf rfl
    obtain ⟨x0, x1, rfl⟩ := len2 (show a.length = 2 from ha)
    replace H : bndp (MX12_paceAt x0 x1) (fun r => k r h) = some r := H
    obtain ⟨v2, H1, H2⟩ := bndp_some H
    exact ⟨v2, h, H2, met_mk (mok_base okX12_paceAt).1 (by decide +kernel) (Nat.le_of_ble_eq_true rfl) ho (sMX12_paceAt h8 x0 x1 h H1 rfl), fun q => by cases q⟩
theorem roX12_paceAt {ρ : Type} : RoF (wX12_paceAt : FN ρ) := fun a h k k2 hk => by
  unfold wX12_paceAt
  split
  · exact bndp_ro hk
  · rfl
/-! X12_leastFrom -/
def sdX12_leastFrom : SD := [(0, [(0, .ldc_w 498, 3, [0, 1871], 1000000), (3, .istore_n 3, 1, [], 0), (4, .iconst (-1), 1, [], 0), (5, .istore 4, 2, [], 0)]),
  (7, [(7, .iload 4, 2, [], 0), (9, .iconst 1, 1, [], 0), (10, .if_icmp .gt 69, 3, [], 0)]),
  (13, [(13, .iload_n 2, 1, [], 0), (14, .iload 4, 2, [], 0), (16, .iadd, 1, [], 0), (17, .istore 5, 2, [], 0), (19, .iload_n 1, 1, [], 0), (20, .iload 5, 2, [], 0), (22, .iadd, 1, [], 0), (23, .istore 6, 2, [], 0), (25, .iload 5, 2, [], 0), (27, .i2l, 1, [], 0), (28, .ldc2_w 499, 3, [1, 1869], (-6)), (31, .ldc2_w 501, 3, [1, 1870], 6), (34, .invokestatic 217, 3, [1, 0, 3, 81, 1561, 1, 1, 1], 0), (37, .ifCond .eq 36, 3, [], 0)]),
  (40, [(40, .iload 6, 2, [], 0), (42, .i2l, 1, [], 0), (43, .lconst 0, 1, [], 0), (44, .ldc2_w 457, 3, [1, 1672], 60), (47, .invokestatic 217, 3, [1, 0, 3, 81, 1561, 1, 1, 1], 0), (50, .ifCond .eq 23, 3, [], 0)]),
  (53, [(53, .iload_n 3, 1, [], 0), (54, .iload 6, 2, [], 0), (56, .aload_n 0, 1, [], 0), (57, .getfield 92, 3, [12, 56, 6364, 1, 1378, 0], 27), (60, .iload 6, 2, [], 0), (62, .iload 5, 2, [], 0), (64, .invokestatic 503, 3, [1, 1, 3, 197, 1872, 0, 0], 0), (67, .iaload, 1, [], 0), (68, .iadd, 1, [], 0), (69, .invokestatic 258, 3, [1, 2, 3, 261, 1596, 0, 0], 0), (72, .istore_n 3, 1, [], 0)]),
  (73, [(73, .iinc 4 1, 3, [], 0), (76, .goto (-69), 3, [], 0)]),
  (79, [(79, .iload_n 3, 1, [], 0), (80, .ireturn, 1, [], 0)])]
def BX12_leastFrom_7 (n : Nat) : Nat → Int → Int → Int → Int → Hp → Option (Int)
  | 0, _, _, _, _, _ => none
  | f + 1, x1, x2, x3, x4, h =>
    (if 1 < x4 then
    (some x3)
    else
    (ltt (w32 (x2 + x4)) fun y1 =>
    (ltt (w32 (x1 + y1)) fun y2 =>
    (bndp (MX12_in y1 (-6) 6) fun r1 =>
    (if r1 = 0 then
    (ltt (w32 (x4 + 1)) fun y3 =>
    (BX12_leastFrom_7 n f x1 x2 x3 y3 h))
    else
    (bndp (MX12_in y2 0 60) fun r2 =>
    (if r2 = 0 then
    (ltt (w32 (x4 + 1)) fun y4 =>
    (BX12_leastFrom_7 n f x1 x2 x3 y4 h))
    else
    (bndp (MX12_paceAt y2 y1) fun r3 =>
    (grd (0 ≤ r3 ∧ r3 < alen 6364)
    (ltt (min x3 (w32 (y2 + (h 140 r3)))) fun y5 =>
    (ltt (w32 (x4 + 1)) fun y6 =>
    (BX12_leastFrom_7 n f x1 x2 y5 y6 h))))))))))))
def LX12_leastFrom_7 (n : Nat) (x1 x2 x3 x4 : Int) (h : Hp) : Option (Int) :=
(BX12_leastFrom_7 n n x1 x2 x3 x4 h)
def MX12_leastFrom (n : Nat) (x1 x2 : Int) (h : Hp) : Option (Int) :=
(ltt 1000000 fun y1 =>
(ltt (-1) fun y2 =>
(LX12_leastFrom_7 n x1 x2 y1 y2 h)))
def wX12_leastFrom {ρ : Type} (n : Nat) : FN ρ := fun a h k => match a with
  | [_, x1, x2] => bndp (MX12_leastFrom n x1 x2 h) (fun r => k r h)
  | _ => none
def fsX12_leastFrom (n : Nat) (ρ : Type) : List (FN ρ) := [wX12_in, wX12_paceAt, fmin]
def KBX12_leastFrom_7 (_ : Nat) (bk : Int → Int → Int → Int → Hp → Option (Int)) : CT (Int) := [(7, [(0, 16, (some 113)), (1, 0, none), (2, 0, none), (3, 0, none), (4, 0, none)], [], fun a c h => match a, c with
    | [x1, x2, x3, x4], [] => bk x1 x2 x3 x4 h
    | _, _ => none)]
set_option maxRecDepth 100000 in
theorem eBX12_leastFrom_7 (n f : Nat) (x1 : Int) (x2 : Int) (x3 : Int) (x4 : Int) (h : Hp) : BX12_leastFrom_7 n (f + 1) x1 x2 x3 x4 h =
  goAt false (kct (KBX12_leastFrom_7 n (BX12_leastFrom_7 n f))) (fun v _ => some (v)) (fsX12_leastFrom n _) sdX12_leastFrom 1000 7 [(0, 16, 113), (1, 0, x1), (2, 0, x2), (3, 0, x3), (4, 0, x4)] [] h := rfl
def KMX12_leastFrom (n : Nat) : CT (Int) := [(7, [(0, 16, (some 113)), (1, 0, none), (2, 0, none), (3, 0, none), (4, 0, none)], [], fun a c h => match a, c with
    | [x1, x2, x3, x4], [] => LX12_leastFrom_7 n x1 x2 x3 x4 h
    | _, _ => none)]
set_option maxRecDepth 100000 in
theorem eMX12_leastFrom (n : Nat) (x1 : Int) (x2 : Int) (h : Hp) : MX12_leastFrom n x1 x2 h =
  goAt false (kct (KMX12_leastFrom n)) (fun v _ => some (v)) (fsX12_leastFrom n _) sdX12_leastFrom 1000 0 [(0, 16, 113), (1, 0, x1), (2, 0, x2)] [] h := rfl
theorem okX12_leastFrom : mokb (mi 198) = true := by decide +kernel
theorem rkX12_leastFrom : rkOK 1 (mi 198).1.2.2.2.2.2.2.1 (mi 198).1.2.2.2.1 := Or.inr (Or.inl ⟨rfl, rfl, rfl⟩)
def calX12_leastFrom : List Nat := [81, 197, 261]
theorem foX12_leastFrom {l : Launch} {ρ : Type} (n : Nat) : fsOK l false mi calX12_leastFrom (fsX12_leastFrom n ρ) := ⟨sndX12_in, ⟨sndX12_paceAt, ⟨snd_mmin, trivial⟩⟩⟩
theorem frX12_leastFrom {ρ : Type} (n : Nat) : ∀ fn ∈ fsX12_leastFrom n ρ, RoF fn := (List.forall_mem_cons.mpr ⟨roX12_in, (List.forall_mem_cons.mpr ⟨roX12_paceAt, (List.forall_mem_cons.mpr ⟨ro_mmin, (fun q9 h9 => by cases h9)⟩)⟩)⟩)
theorem ok_sdX12_leastFrom : sdb (mi 198).1.2.1 (insOK mi (mi 198).1.1.cls (mi 198).1.2.2.1 (mi 198).1.2.2.2.2.1 (mi 198).1.2.2.2.2.2.1 calX12_leastFrom false 1) sdX12_leastFrom = true := by decide +kernel
theorem sBX12_leastFrom_7 {l : Launch} {h0 : Hp} {v : Int} (h8 : nOf h0 = 148) (n : Nat) (h : Hp) : ∀ (f : Nat) (x1 : Int) (x2 : Int) (x3 : Int) (x4 : Int) {r : Int}, BX12_leastFrom_7 n f x1 x2 x3 x4 h = some r → gV v r → PAt l false (mi 198).1 h0 v h 7 [(0, 16, 113), (1, 0, x1), (2, 0, x2), (3, 0, x3), (4, 0, x4)] [] h := by
  intro f
  induction f with
  | zero =>
    intro x1 x2 x3 x4 r H _
    have H2 : (none : Option (Int)) = some r := H
    cases H2
  | succ f ih =>
    intro x1 x2 x3 x4 r H hG
    exact pat_ro ok_sdX12_leastFrom rfl rkX12_leastFrom h8 (foX12_leastFrom n) (frX12_leastFrom n) (fun v1 q => by
    cases q
    exact ⟨rfl, fun _ => hG⟩) (List.forall_mem_cons.mpr ⟨(fun a c H => by
      dsimp only at H
      split at H
      · exact ih _ _ _ _ H hG
      · cases H), (fun q9 h9 => by cases h9)⟩) ((eBX12_leastFrom_7 n f x1 x2 x3 x4 h).symm.trans H)
theorem sLX12_leastFrom_7 {l : Launch} {h0 : Hp} {v : Int} (h8 : nOf h0 = 148) (n : Nat) (x1 : Int) (x2 : Int) (x3 : Int) (x4 : Int) (h : Hp) {r : Int} (H : LX12_leastFrom_7 n x1 x2 x3 x4 h = some r) (hG : gV v r) : PAt l false (mi 198).1 h0 v h 7 [(0, 16, 113), (1, 0, x1), (2, 0, x2), (3, 0, x3), (4, 0, x4)] [] h :=
  sBX12_leastFrom_7 h8 n h n x1 x2 x3 x4 H hG
theorem sMX12_leastFrom {l : Launch} {h0 : Hp} {v : Int} (h8 : nOf h0 = 148) (n : Nat) (x1 : Int) (x2 : Int) (h : Hp) {r : Int} (H : MX12_leastFrom n x1 x2 h = some r) (hG : gV v r) : PAt l false (mi 198).1 h0 v h 0 [(0, 16, 113), (1, 0, x1), (2, 0, x2)] [] h :=
  pat_ro ok_sdX12_leastFrom rfl rkX12_leastFrom h8 (foX12_leastFrom n) (frX12_leastFrom n) (fun v1 q => by
    cases q
    exact ⟨rfl, fun _ => hG⟩) (List.forall_mem_cons.mpr ⟨(fun a c H => by
      dsimp only at H
      split at H
      · exact sLX12_leastFrom_7 h8 n _ _ _ _ _ H hG
      · cases H), (fun q9 h9 => by cases h9)⟩) ((eMX12_leastFrom n x1 x2 h).symm.trans H)
theorem sndX12_leastFrom {ρ : Type} {l : Launch} (n : Nat) : SndF (ρ := ρ) l false (mi 198).1 (wX12_leastFrom n) := by
    intro a h k r H ha ho hn hf
    have h8 := hf rfl
    obtain ⟨x0, x1, x2, rfl⟩ := len3 (show a.length = 3 from ha)
    have u0 := uq16 hn (ho (16, x0) (List.mem_cons_self))
    subst u0
    replace H : bndp (MX12_leastFrom n x1 x2 h) (fun r => k r h) = some r := H
    obtain ⟨v2, H1, H2⟩ := bndp_some H
    exact ⟨v2, h, H2, met_mk (mok_base okX12_leastFrom).1 (by decide +kernel) (Nat.le_of_ble_eq_true rfl) ho (sMX12_leastFrom h8 n x1 x2 h H1 rfl), fun q => by cases q⟩
theorem roX12_leastFrom {ρ : Type} (n : Nat) : RoF (wX12_leastFrom n : FN ρ) := fun a h k k2 hk => by
  unfold wX12_leastFrom
  split
  · exact bndp_ro hk
  · rfl
/-! X12_falls -/
def sdX12_falls : SD := [(0, [(0, .iconst 0, 1, [], 0), (1, .istore_n 1, 1, [], 0), (2, .iconst 0, 1, [], 0), (3, .istore_n 2, 1, [], 0)]),
  (4, [(4, .iload_n 2, 1, [], 0), (5, .bipush 61, 2, [], 0), (7, .if_icmp .ge 61, 3, [], 0)]),
  (10, [(10, .bipush (-6), 2, [], 0), (12, .istore_n 3, 1, [], 0)]),
  (13, [(13, .iload_n 3, 1, [], 0), (14, .bipush 6, 2, [], 0), (16, .if_icmp .gt 46, 3, [], 0)]),
  (19, [(19, .aload_n 0, 1, [], 0), (20, .iload_n 2, 1, [], 0), (21, .iload_n 3, 1, [], 0), (22, .invokevirtual 506, 3, [1, 0, 1, 198, 1879, 0, 0, 16], 0), (25, .istore 4, 2, [], 0), (27, .iload 4, 2, [], 0), (29, .aload_n 0, 1, [], 0), (30, .getfield 92, 3, [12, 56, 6364, 1, 1378, 0], 27), (33, .iload_n 2, 1, [], 0), (34, .iload_n 3, 1, [], 0), (35, .invokestatic 503, 3, [1, 1, 3, 197, 1872, 0, 0], 0), (38, .iaload, 1, [], 0), (39, .if_icmp .ge 17, 3, [], 0)]),
  (42, [(42, .aload_n 0, 1, [], 0), (43, .getfield 92, 3, [12, 56, 6364, 1, 1378, 0], 27), (46, .iload_n 2, 1, [], 0), (47, .iload_n 3, 1, [], 0), (48, .invokestatic 503, 3, [1, 1, 3, 197, 1872, 0, 0], 0), (51, .iload 4, 2, [], 0), (53, .iastore, 1, [], 0), (54, .iconst 1, 1, [], 0), (55, .istore_n 1, 1, [], 0)]),
  (56, [(56, .iinc 3 1, 3, [], 0), (59, .goto (-46), 3, [], 0)]),
  (62, [(62, .iinc 2 1, 3, [], 0), (65, .goto (-61), 3, [], 0)]),
  (68, [(68, .iload_n 1, 1, [], 0), (69, .ireturn, 1, [1], 0)])]
def BX12_falls_13 (n : Nat) : Nat → Int → Int → Int → Hp → Option (Int × Int × Hp)
  | 0, _, _, _, _ => none
  | f + 1, x1, x2, x3, h =>
    (if 6 < x3 then
    (some (x1, x2, h))
    else
    (bndp (MX12_leastFrom n x2 x3 h) fun r1 =>
    (ltt r1 fun y1 =>
    (bndp (MX12_paceAt x2 x3) fun r2 =>
    (grd (0 ≤ r2 ∧ r2 < alen 6364)
    (if (h 140 r2) ≤ y1 then
    (ltt (w32 (x3 + 1)) fun y2 =>
    (BX12_falls_13 n f x1 x2 y2 h))
    else
    (bndp (MX12_paceAt x2 x3) fun r3 =>
    (grd (0 ≤ r3 ∧ r3 < alen 6364)
    (ltt (up h 140 r3 y1) fun h1 =>
    (ltt 1 fun y3 =>
    (ltt (w32 (x3 + 1)) fun y4 =>
    (BX12_falls_13 n f y3 x2 y4 h1))))))))))))
def JX12_falls_62 (n : Nat) (bk : Int → Int → Hp → Option (Int × Hp)) (x1 x2 : Int) (h : Hp) : Option (Int × Hp) :=
(ltt (w32 (x2 + 1)) fun y1 =>
(bk x1 y1 h))
def LX12_falls_13 (n : Nat) (bk : Int → Int → Hp → Option (Int × Hp)) (x1 x2 x3 : Int) (h : Hp) : Option (Int × Hp) :=
(bndx (BX12_falls_13 n n x1 x2 x3 h) fun (e1, e2, h1) =>
(JX12_falls_62 n bk e1 e2 h1))
def BX12_falls_4 (n : Nat) : Nat → Int → Int → Hp → Option (Int × Hp)
  | 0, _, _, _ => none
  | f + 1, x1, x2, h =>
    (if 61 ≤ x2 then
    (grd (x1 = 0 ∨ x1 = 1)
    (some (x1, h)))
    else
    (ltt (-6) fun y1 =>
    (LX12_falls_13 n (BX12_falls_4 n f) x1 x2 y1 h)))
def LX12_falls_4 (n : Nat) (x1 x2 : Int) (h : Hp) : Option (Int × Hp) :=
(BX12_falls_4 n n x1 x2 h)
def MX12_falls (n : Nat) (h : Hp) : Option (Int × Hp) :=
(ltt 0 fun y1 =>
(ltt 0 fun y2 =>
(LX12_falls_4 n y1 y2 h)))
def wX12_falls {ρ : Type} (n : Nat) : FN ρ := fun a h k => match a with
  | [_] => bnd (MX12_falls n h) (fun r h2 => k r h2)
  | _ => none
def fsX12_falls (n : Nat) (ρ : Type) : List (FN ρ) := [wX12_leastFrom n, wX12_paceAt]
def KBX12_falls_13 (_ : Nat) (bk : Int → Int → Int → Hp → Option (Int × Int × Hp)) : CT (Int × Int × Hp) := [(13, [(0, 16, (some 113)), (1, 0, none), (2, 0, none), (3, 0, none)], [], fun a c h => match a, c with
    | [x1, x2, x3], [] => bk x1 x2 x3 h
    | _, _ => none),
  (62, [(0, 16, (some 113)), (1, 0, none), (2, 0, none)], [], fun a c h => match a, c with
    | [x1, x2], [] => some (x1, x2, h)
    | _, _ => none)]
set_option maxRecDepth 100000 in
theorem eBX12_falls_13 (n f : Nat) (x1 : Int) (x2 : Int) (x3 : Int) (h : Hp) : BX12_falls_13 n (f + 1) x1 x2 x3 h =
  goAt false (kct (KBX12_falls_13 n (BX12_falls_13 n f))) (fun _ _ => none) (fsX12_falls n _) sdX12_falls 1000 13 [(0, 16, 113), (1, 0, x1), (2, 0, x2), (3, 0, x3)] [] h := rfl
def KJX12_falls_62 (_ : Nat) (bk : Int → Int → Hp → Option (Int × Hp)) : CT (Int × Hp) := [(4, [(0, 16, (some 113)), (1, 0, none), (2, 0, none)], [], fun a c h => match a, c with
    | [x1, x2], [] => bk x1 x2 h
    | _, _ => none)]
set_option maxRecDepth 100000 in
theorem eJX12_falls_62 (n : Nat) (bk : Int → Int → Hp → Option (Int × Hp)) (x1 : Int) (x2 : Int) (h : Hp) : JX12_falls_62 n bk x1 x2 h =
  goAt false (kct (KJX12_falls_62 n bk)) (fun v h => some ((v, h))) (fsX12_falls n _) sdX12_falls 1000 62 [(0, 16, 113), (1, 0, x1), (2, 0, x2)] [] h := rfl
def KBX12_falls_4 (n : Nat) (bk : Int → Int → Hp → Option (Int × Hp)) : CT (Int × Hp) := [(4, [(0, 16, (some 113)), (1, 0, none), (2, 0, none)], [], fun a c h => match a, c with
    | [x1, x2], [] => bk x1 x2 h
    | _, _ => none),
  (13, [(0, 16, (some 113)), (1, 0, none), (2, 0, none), (3, 0, none)], [], fun a c h => match a, c with
    | [x1, x2, x3], [] => LX12_falls_13 n bk x1 x2 x3 h
    | _, _ => none)]
set_option maxRecDepth 100000 in
theorem eBX12_falls_4 (n f : Nat) (x1 : Int) (x2 : Int) (h : Hp) : BX12_falls_4 n (f + 1) x1 x2 h =
  goAt false (kct (KBX12_falls_4 n (BX12_falls_4 n f))) (fun v h => some ((v, h))) (fsX12_falls n _) sdX12_falls 1000 4 [(0, 16, 113), (1, 0, x1), (2, 0, x2)] [] h := rfl
def KMX12_falls (n : Nat) : CT (Int × Hp) := [(4, [(0, 16, (some 113)), (1, 0, none), (2, 0, none)], [], fun a c h => match a, c with
    | [x1, x2], [] => LX12_falls_4 n x1 x2 h
    | _, _ => none)]
set_option maxRecDepth 100000 in
theorem eMX12_falls (n : Nat) (h : Hp) : MX12_falls n h =
  goAt false (kct (KMX12_falls n)) (fun v h => some ((v, h))) (fsX12_falls n _) sdX12_falls 1000 0 [(0, 16, 113)] [] h := rfl
theorem okX12_falls : mokb (mi 199) = true := by decide +kernel
theorem rkX12_falls : rkOK 4 (mi 199).1.2.2.2.2.2.2.1 (mi 199).1.2.2.2.1 := Or.inr (Or.inr (Or.inl ⟨rfl, rfl, rfl⟩))
def calX12_falls : List Nat := [198, 197]
theorem foX12_falls {l : Launch} {ρ : Type} (n : Nat) : fsOK l false mi calX12_falls (fsX12_falls n ρ) := ⟨(sndX12_leastFrom n), ⟨sndX12_paceAt, trivial⟩⟩
theorem ok_sdX12_falls : sdb (mi 199).1.2.1 (insOK mi (mi 199).1.1.cls (mi 199).1.2.2.1 (mi 199).1.2.2.2.2.1 (mi 199).1.2.2.2.2.2.1 calX12_falls false 4) sdX12_falls = true := by decide +kernel
def GX12_falls_13 (l : Launch) (h0 : Hp) (h' : Hp) (v : Int) (_ : Hp) : (Int × Int × Hp) → Prop
  | (e1, e2, h1) => PAt l false (mi 199).1 h0 v h' 62 [(0, 16, 113), (1, 0, e1), (2, 0, e2)] [] h1
theorem sBX12_falls_13 {l : Launch} {h0 h' : Hp} {v : Int} (h8 : nOf h0 = 148) (n : Nat) : ∀ (f : Nat) (x1 : Int) (x2 : Int) (x3 : Int) (h : Hp) {r : Int × Int × Hp}, BX12_falls_13 n f x1 x2 x3 h = some r → GX12_falls_13 l h0 h' v h r → PAt l false (mi 199).1 h0 v h' 13 [(0, 16, 113), (1, 0, x1), (2, 0, x2), (3, 0, x3)] [] h := by
  intro f
  induction f with
  | zero =>
    intro x1 x2 x3 h r H _
    have H2 : (none : Option (Int × Int × Hp)) = some r := H
    cases H2
  | succ f ih =>
    intro x1 x2 x3 h r H hG
    exact pat_w ok_sdX12_falls rkX12_falls h8 (foX12_falls n) (fun v1 h1 q => by cases q) (List.forall_mem_cons.mpr ⟨(fun a c h H => by
      dsimp only at H
      split at H
      · exact ih _ _ _ _ H hG
      · cases H), (List.forall_mem_cons.mpr ⟨(fun a c h H => by
      dsimp only at H
      split at H
      · cases H
        exact hG
      · cases H), (fun q9 h9 => by cases h9)⟩)⟩) ((eBX12_falls_13 n f x1 x2 x3 h).symm.trans H)
theorem sJX12_falls_62 {l : Launch} {h0 h' : Hp} {v : Int} (h8 : nOf h0 = 148) (n : Nat) (bk : Int → Int → Hp → Option (Int × Hp)) (hbk : ∀ (x1 : Int) (x2 : Int) (h : Hp) (r : Int × Hp), bk x1 x2 h = some r → gWV v h' r → PAt l false (mi 199).1 h0 v h' 4 [(0, 16, 113), (1, 0, x1), (2, 0, x2)] [] h) (x1 : Int) (x2 : Int) (h : Hp) {r : Int × Hp} (H : JX12_falls_62 n bk x1 x2 h = some r) (hG : gWV v h' r) : PAt l false (mi 199).1 h0 v h' 62 [(0, 16, 113), (1, 0, x1), (2, 0, x2)] [] h :=
  pat_w ok_sdX12_falls rkX12_falls h8 (foX12_falls n) (fun v1 h1 q => by
    cases q
    exact ⟨hG.1, fun _ => hG.2⟩) (List.forall_mem_cons.mpr ⟨(fun a c h H => by
      dsimp only at H
      split at H
      · exact hbk _ _ _ _ H hG
      · cases H), (fun q9 h9 => by cases h9)⟩) ((eJX12_falls_62 n bk x1 x2 h).symm.trans H)
theorem sLX12_falls_13 {l : Launch} {h0 h' : Hp} {v : Int} (h8 : nOf h0 = 148) (n : Nat) (bk : Int → Int → Hp → Option (Int × Hp)) (hbk : ∀ (x1 : Int) (x2 : Int) (h : Hp) (r : Int × Hp), bk x1 x2 h = some r → gWV v h' r → PAt l false (mi 199).1 h0 v h' 4 [(0, 16, 113), (1, 0, x1), (2, 0, x2)] [] h) (x1 : Int) (x2 : Int) (x3 : Int) (h : Hp) {r : Int × Hp} (H : LX12_falls_13 n bk x1 x2 x3 h = some r) (hG : gWV v h' r) : PAt l false (mi 199).1 h0 v h' 13 [(0, 16, 113), (1, 0, x1), (2, 0, x2), (3, 0, x3)] [] h := by
  obtain ⟨e9, h2, h3⟩ := bndx_some H
  obtain ⟨e1, e2, h1⟩ := e9
  exact sBX12_falls_13 h8 n n x1 x2 x3 h h2 (sJX12_falls_62 h8 n bk hbk e1 e2 h1 h3 hG)
theorem sBX12_falls_4 {l : Launch} {h0 h' : Hp} {v : Int} (h8 : nOf h0 = 148) (n : Nat) : ∀ (f : Nat) (x1 : Int) (x2 : Int) (h : Hp) {r : Int × Hp}, BX12_falls_4 n f x1 x2 h = some r → gWV v h' r → PAt l false (mi 199).1 h0 v h' 4 [(0, 16, 113), (1, 0, x1), (2, 0, x2)] [] h := by
  intro f
  induction f with
  | zero =>
    intro x1 x2 h r H _
    have H2 : (none : Option (Int × Hp)) = some r := H
    cases H2
  | succ f ih =>
    intro x1 x2 h r H hG
    have ihk : ∀ (x1 : Int) (x2 : Int) (h : Hp) (r : Int × Hp), BX12_falls_4 n f x1 x2 h = some r → gWV v h' r → PAt l false (mi 199).1 h0 v h' 4 [(0, 16, 113), (1, 0, x1), (2, 0, x2)] [] h := fun x1 x2 h r9 a9 b9 => ih x1 x2 h a9 b9
    exact pat_w ok_sdX12_falls rkX12_falls h8 (foX12_falls n) (fun v1 h1 q => by
    cases q
    exact ⟨hG.1, fun _ => hG.2⟩) (List.forall_mem_cons.mpr ⟨(fun a c h H => by
      dsimp only at H
      split at H
      · exact ih _ _ _ H hG
      · cases H), (List.forall_mem_cons.mpr ⟨(fun a c h H => by
      dsimp only at H
      split at H
      · exact sLX12_falls_13 h8 n (BX12_falls_4 n f) ihk _ _ _ _ H hG
      · cases H), (fun q9 h9 => by cases h9)⟩)⟩) ((eBX12_falls_4 n f x1 x2 h).symm.trans H)
theorem sLX12_falls_4 {l : Launch} {h0 h' : Hp} {v : Int} (h8 : nOf h0 = 148) (n : Nat) (x1 : Int) (x2 : Int) (h : Hp) {r : Int × Hp} (H : LX12_falls_4 n x1 x2 h = some r) (hG : gWV v h' r) : PAt l false (mi 199).1 h0 v h' 4 [(0, 16, 113), (1, 0, x1), (2, 0, x2)] [] h :=
  sBX12_falls_4 h8 n n x1 x2 h H hG
theorem sMX12_falls {l : Launch} {h0 h' : Hp} {v : Int} (h8 : nOf h0 = 148) (n : Nat)  (h : Hp) {r : Int × Hp} (H : MX12_falls n h = some r) (hG : gWV v h' r) : PAt l false (mi 199).1 h0 v h' 0 [(0, 16, 113)] [] h :=
  pat_w ok_sdX12_falls rkX12_falls h8 (foX12_falls n) (fun v1 h1 q => by
    cases q
    exact ⟨hG.1, fun _ => hG.2⟩) (List.forall_mem_cons.mpr ⟨(fun a c h H => by
      dsimp only at H
      split at H
      · exact sLX12_falls_4 h8 n _ _ _ H hG
      · cases H), (fun q9 h9 => by cases h9)⟩) ((eMX12_falls n h).symm.trans H)
theorem sndX12_falls {ρ : Type} {l : Launch} (n : Nat) : SndF (ρ := ρ) l false (mi 199).1 (wX12_falls n) := by
    intro a h k r H ha ho hn hf
    have h8 := hf rfl
    obtain ⟨x0, rfl⟩ := len1 (show a.length = 1 from ha)
    have u0 := uq16 hn (ho (16, x0) (List.mem_cons_self))
    subst u0
    replace H : bnd (MX12_falls n h) (fun r h2 => k r h2) = some r := H
    obtain ⟨v2, h2, H1, H2⟩ := bnd_some H
    exact ⟨v2, h2, H2, met_mk (mok_base okX12_falls).1 (by decide +kernel) (Nat.le_of_ble_eq_true rfl) ho (sMX12_falls h8 n  h H1 ⟨rfl, rfl⟩), fun q => by cases q⟩
/-! X12_least -/
def sdX12_least : SD := [(0, [(0, .iload_n 1, 1, [], 0), (1, .i2l, 1, [], 0), (2, .lconst 0, 1, [], 0), (3, .ldc2_w 509, 3, [1, 1868], 40), (6, .invokestatic 217, 3, [1, 0, 3, 81, 1561, 1, 1, 1], 0), (9, .ifCond .eq 17, 3, [], 0)]),
  (12, [(12, .iload_n 2, 1, [], 0), (13, .i2l, 1, [], 0), (14, .ldc2_w 499, 3, [1, 1869], (-6)), (17, .ldc2_w 501, 3, [1, 1870], 6), (20, .invokestatic 217, 3, [1, 0, 3, 81, 1561, 1, 1, 1], 0), (23, .ifCond .ne 5, 3, [], 0)]),
  (26, [(26, .iconst (-1), 1, [], 0), (27, .ireturn, 1, [], 0)]),
  (28, [(28, .iconst 0, 1, [], 0), (29, .istore_n 3, 1, [], 0)]),
  (30, [(30, .iload_n 3, 1, [], 0), (31, .sipush 793, 3, [], 0), (34, .if_icmp .ge 18, 3, [], 0)]),
  (37, [(37, .aload_n 0, 1, [], 0), (38, .getfield 92, 3, [12, 56, 6364, 1, 1378, 0], 27), (41, .iload_n 3, 1, [], 0), (42, .ldc_w 498, 3, [0, 1871], 1000000), (45, .iastore, 1, [], 0), (46, .iinc 3 1, 3, [], 0), (49, .goto (-19), 3, [], 0)]),
  (52, [(52, .aload_n 0, 1, [], 0), (53, .getfield 92, 3, [12, 56, 6364, 1, 1378, 0], 27), (56, .iconst 0, 1, [], 0), (57, .iconst 0, 1, [], 0), (58, .invokestatic 503, 3, [1, 1, 3, 197, 1872, 0, 0], 0), (61, .iconst 0, 1, [], 0), (62, .iastore, 1, [], 0), (63, .iconst 1, 1, [], 0), (64, .istore_n 3, 1, [], 0)]),
  (65, [(65, .iload_n 3, 1, [], 0), (66, .ifCond .eq 11, 3, [], 0)]),
  (69, [(69, .aload_n 0, 1, [], 0), (70, .invokevirtual 511, 3, [1, 2, 1, 199, 1875, 16], 0), (73, .istore_n 3, 1, [], 0), (74, .goto (-9), 3, [], 0)]),
  (77, [(77, .aload_n 0, 1, [], 0), (78, .getfield 92, 3, [12, 56, 6364, 1, 1378, 0], 27), (81, .iload_n 1, 1, [], 0), (82, .iload_n 2, 1, [], 0), (83, .invokestatic 503, 3, [1, 1, 3, 197, 1872, 0, 0], 0), (86, .iaload, 1, [], 0), (87, .istore 4, 2, [], 0), (89, .iload 4, 2, [], 0), (91, .ldc_w 498, 3, [0, 1871], 1000000), (94, .if_icmp .lt 8, 3, [], 0)]),
  (97, [(97, .bipush (-2), 2, [], 0), (99, .goto 5, 3, [], 0)]),
  (102, [(102, .iload 4, 2, [], 0)]),
  (104, [(104, .ireturn, 1, [], 0)])]
def BX12_least_30 (n : Nat) : Nat → Int → Int → Int → Hp → Option (Int × Int × Hp)
  | 0, _, _, _, _ => none
  | f + 1, x1, x2, x3, h =>
    (if 793 ≤ x3 then
    (some (x1, x2, h))
    else
    (grd (0 ≤ x3 ∧ x3 < alen 6364)
    (ltt (up h 140 x3 1000000) fun h1 =>
    (ltt (w32 (x3 + 1)) fun y1 =>
    (BX12_least_30 n f x1 x2 y1 h1)))))
def BX12_least_65 (n : Nat) : Nat → Int → Int → Int → Hp → Option (Int × Int × Hp)
  | 0, _, _, _, _ => none
  | f + 1, x1, x2, x3, h =>
    (if x3 = 0 then
    (some (x1, x2, h))
    else
    (bnd (MX12_falls n h) fun r1 h1 =>
    (ltt r1 fun y1 =>
    (BX12_least_65 n f x1 x2 y1 h1))))
def JX12_least_77 (n : Nat) (x1 x2 : Int) (h : Hp) : Option (Int × Hp) :=
(bndp (MX12_paceAt x1 x2) fun r1 =>
(grd (0 ≤ r1 ∧ r1 < alen 6364)
(ltt (h 140 r1) fun y1 =>
(if y1 < 1000000 then
(some (y1, h))
else
(some ((-2), h))))))
def LX12_least_65 (n : Nat) (x1 x2 x3 : Int) (h : Hp) : Option (Int × Hp) :=
(bndx (BX12_least_65 n n x1 x2 x3 h) fun (e1, e2, h1) =>
(JX12_least_77 n e1 e2 h1))
def JX12_least_52 (n : Nat) (x1 x2 : Int) (h : Hp) : Option (Int × Hp) :=
(bndp (MX12_paceAt 0 0) fun r1 =>
(grd (0 ≤ r1 ∧ r1 < alen 6364)
(ltt (up h 140 r1 0) fun h1 =>
(ltt 1 fun y1 =>
(LX12_least_65 n x1 x2 y1 h1)))))
def LX12_least_30 (n : Nat) (x1 x2 x3 : Int) (h : Hp) : Option (Int × Hp) :=
(bndx (BX12_least_30 n n x1 x2 x3 h) fun (e1, e2, h1) =>
(JX12_least_52 n e1 e2 h1))
def MX12_least (n : Nat) (x1 x2 : Int) (h : Hp) : Option (Int × Hp) :=
(bndp (MX12_in x1 0 40) fun r1 =>
(if r1 = 0 then
(some ((-1), h))
else
(bndp (MX12_in x2 (-6) 6) fun r2 =>
(if r2 ≠ 0 then
(ltt 0 fun y1 =>
(LX12_least_30 n x1 x2 y1 h))
else
(some ((-1), h))))))
def wX12_least {ρ : Type} (n : Nat) : FN ρ := fun a h k => match a with
  | [_, x1, x2] => bnd (MX12_least n x1 x2 h) (fun r h2 => k r h2)
  | _ => none
def fsX12_least (n : Nat) (ρ : Type) : List (FN ρ) := [wX12_in, wX12_paceAt, wX12_falls n]
def KBX12_least_30 (_ : Nat) (bk : Int → Int → Int → Hp → Option (Int × Int × Hp)) : CT (Int × Int × Hp) := [(30, [(0, 16, (some 113)), (1, 0, none), (2, 0, none), (3, 0, none)], [], fun a c h => match a, c with
    | [x1, x2, x3], [] => bk x1 x2 x3 h
    | _, _ => none),
  (52, [(0, 16, (some 113)), (1, 0, none), (2, 0, none)], [], fun a c h => match a, c with
    | [x1, x2], [] => some (x1, x2, h)
    | _, _ => none)]
set_option maxRecDepth 100000 in
theorem eBX12_least_30 (n f : Nat) (x1 : Int) (x2 : Int) (x3 : Int) (h : Hp) : BX12_least_30 n (f + 1) x1 x2 x3 h =
  goAt false (kct (KBX12_least_30 n (BX12_least_30 n f))) (fun _ _ => none) (fsX12_least n _) sdX12_least 1000 30 [(0, 16, 113), (1, 0, x1), (2, 0, x2), (3, 0, x3)] [] h := rfl
def KBX12_least_65 (_ : Nat) (bk : Int → Int → Int → Hp → Option (Int × Int × Hp)) : CT (Int × Int × Hp) := [(65, [(0, 16, (some 113)), (1, 0, none), (2, 0, none), (3, 0, none)], [], fun a c h => match a, c with
    | [x1, x2, x3], [] => bk x1 x2 x3 h
    | _, _ => none),
  (77, [(0, 16, (some 113)), (1, 0, none), (2, 0, none)], [], fun a c h => match a, c with
    | [x1, x2], [] => some (x1, x2, h)
    | _, _ => none)]
set_option maxRecDepth 100000 in
theorem eBX12_least_65 (n f : Nat) (x1 : Int) (x2 : Int) (x3 : Int) (h : Hp) : BX12_least_65 n (f + 1) x1 x2 x3 h =
  goAt false (kct (KBX12_least_65 n (BX12_least_65 n f))) (fun _ _ => none) (fsX12_least n _) sdX12_least 1000 65 [(0, 16, 113), (1, 0, x1), (2, 0, x2), (3, 0, x3)] [] h := rfl
def KJX12_least_77 (_ : Nat) : CT (Int × Hp) := []
set_option maxRecDepth 100000 in
theorem eJX12_least_77 (n : Nat) (x1 : Int) (x2 : Int) (h : Hp) : JX12_least_77 n x1 x2 h =
  goAt false (kct (KJX12_least_77 n)) (fun v h => some ((v, h))) (fsX12_least n _) sdX12_least 1000 77 [(0, 16, 113), (1, 0, x1), (2, 0, x2)] [] h := rfl
def KJX12_least_52 (n : Nat) : CT (Int × Hp) := [(65, [(0, 16, (some 113)), (1, 0, none), (2, 0, none), (3, 0, none)], [], fun a c h => match a, c with
    | [x1, x2, x3], [] => LX12_least_65 n x1 x2 x3 h
    | _, _ => none)]
set_option maxRecDepth 100000 in
theorem eJX12_least_52 (n : Nat) (x1 : Int) (x2 : Int) (h : Hp) : JX12_least_52 n x1 x2 h =
  goAt false (kct (KJX12_least_52 n)) (fun v h => some ((v, h))) (fsX12_least n _) sdX12_least 1000 52 [(0, 16, 113), (1, 0, x1), (2, 0, x2)] [] h := rfl
def KMX12_least (n : Nat) : CT (Int × Hp) := [(30, [(0, 16, (some 113)), (1, 0, none), (2, 0, none), (3, 0, none)], [], fun a c h => match a, c with
    | [x1, x2, x3], [] => LX12_least_30 n x1 x2 x3 h
    | _, _ => none)]
set_option maxRecDepth 100000 in
theorem eMX12_least (n : Nat) (x1 : Int) (x2 : Int) (h : Hp) : MX12_least n x1 x2 h =
  goAt false (kct (KMX12_least n)) (fun v h => some ((v, h))) (fsX12_least n _) sdX12_least 1000 0 [(0, 16, 113), (1, 0, x1), (2, 0, x2)] [] h := rfl
theorem okX12_least : mokb (mi 200) = true := by decide +kernel
theorem rkX12_least : rkOK 1 (mi 200).1.2.2.2.2.2.2.1 (mi 200).1.2.2.2.1 := Or.inr (Or.inl ⟨rfl, rfl, rfl⟩)
def calX12_least : List Nat := [81, 197, 199]
theorem foX12_least {l : Launch} {ρ : Type} (n : Nat) : fsOK l false mi calX12_least (fsX12_least n ρ) := ⟨sndX12_in, ⟨sndX12_paceAt, ⟨(sndX12_falls n), trivial⟩⟩⟩
theorem ok_sdX12_least : sdb (mi 200).1.2.1 (insOK mi (mi 200).1.1.cls (mi 200).1.2.2.1 (mi 200).1.2.2.2.2.1 (mi 200).1.2.2.2.2.2.1 calX12_least false 1) sdX12_least = true := by decide +kernel
def GX12_least_30 (l : Launch) (h0 : Hp) (h' : Hp) (v : Int) (_ : Hp) : (Int × Int × Hp) → Prop
  | (e1, e2, h1) => PAt l false (mi 200).1 h0 v h' 52 [(0, 16, 113), (1, 0, e1), (2, 0, e2)] [] h1
def GX12_least_65 (l : Launch) (h0 : Hp) (h' : Hp) (v : Int) (_ : Hp) : (Int × Int × Hp) → Prop
  | (e1, e2, h1) => PAt l false (mi 200).1 h0 v h' 77 [(0, 16, 113), (1, 0, e1), (2, 0, e2)] [] h1
theorem sBX12_least_30 {l : Launch} {h0 h' : Hp} {v : Int} (h8 : nOf h0 = 148) (n : Nat) : ∀ (f : Nat) (x1 : Int) (x2 : Int) (x3 : Int) (h : Hp) {r : Int × Int × Hp}, BX12_least_30 n f x1 x2 x3 h = some r → GX12_least_30 l h0 h' v h r → PAt l false (mi 200).1 h0 v h' 30 [(0, 16, 113), (1, 0, x1), (2, 0, x2), (3, 0, x3)] [] h := by
  intro f
  induction f with
  | zero =>
    intro x1 x2 x3 h r H _
    have H2 : (none : Option (Int × Int × Hp)) = some r := H
    cases H2
  | succ f ih =>
    intro x1 x2 x3 h r H hG
    exact pat_w ok_sdX12_least rkX12_least h8 (foX12_least n) (fun v1 h1 q => by cases q) (List.forall_mem_cons.mpr ⟨(fun a c h H => by
      dsimp only at H
      split at H
      · exact ih _ _ _ _ H hG
      · cases H), (List.forall_mem_cons.mpr ⟨(fun a c h H => by
      dsimp only at H
      split at H
      · cases H
        exact hG
      · cases H), (fun q9 h9 => by cases h9)⟩)⟩) ((eBX12_least_30 n f x1 x2 x3 h).symm.trans H)
theorem sBX12_least_65 {l : Launch} {h0 h' : Hp} {v : Int} (h8 : nOf h0 = 148) (n : Nat) : ∀ (f : Nat) (x1 : Int) (x2 : Int) (x3 : Int) (h : Hp) {r : Int × Int × Hp}, BX12_least_65 n f x1 x2 x3 h = some r → GX12_least_65 l h0 h' v h r → PAt l false (mi 200).1 h0 v h' 65 [(0, 16, 113), (1, 0, x1), (2, 0, x2), (3, 0, x3)] [] h := by
  intro f
  induction f with
  | zero =>
    intro x1 x2 x3 h r H _
    have H2 : (none : Option (Int × Int × Hp)) = some r := H
    cases H2
  | succ f ih =>
    intro x1 x2 x3 h r H hG
    exact pat_w ok_sdX12_least rkX12_least h8 (foX12_least n) (fun v1 h1 q => by cases q) (List.forall_mem_cons.mpr ⟨(fun a c h H => by
      dsimp only at H
      split at H
      · exact ih _ _ _ _ H hG
      · cases H), (List.forall_mem_cons.mpr ⟨(fun a c h H => by
      dsimp only at H
      split at H
      · cases H
        exact hG
      · cases H), (fun q9 h9 => by cases h9)⟩)⟩) ((eBX12_least_65 n f x1 x2 x3 h).symm.trans H)
theorem sJX12_least_77 {l : Launch} {h0 h' : Hp} {v : Int} (h8 : nOf h0 = 148) (n : Nat) (x1 : Int) (x2 : Int) (h : Hp) {r : Int × Hp} (H : JX12_least_77 n x1 x2 h = some r) (hG : gWV v h' r) : PAt l false (mi 200).1 h0 v h' 77 [(0, 16, 113), (1, 0, x1), (2, 0, x2)] [] h :=
  pat_w ok_sdX12_least rkX12_least h8 (foX12_least n) (fun v1 h1 q => by
    cases q
    exact ⟨hG.1, fun _ => hG.2⟩) (fun q9 h9 => by cases h9) ((eJX12_least_77 n x1 x2 h).symm.trans H)
theorem sLX12_least_65 {l : Launch} {h0 h' : Hp} {v : Int} (h8 : nOf h0 = 148) (n : Nat) (x1 : Int) (x2 : Int) (x3 : Int) (h : Hp) {r : Int × Hp} (H : LX12_least_65 n x1 x2 x3 h = some r) (hG : gWV v h' r) : PAt l false (mi 200).1 h0 v h' 65 [(0, 16, 113), (1, 0, x1), (2, 0, x2), (3, 0, x3)] [] h := by
  obtain ⟨e9, h2, h3⟩ := bndx_some H
  obtain ⟨e1, e2, h1⟩ := e9
  exact sBX12_least_65 h8 n n x1 x2 x3 h h2 (sJX12_least_77 h8 n e1 e2 h1 h3 hG)
theorem sJX12_least_52 {l : Launch} {h0 h' : Hp} {v : Int} (h8 : nOf h0 = 148) (n : Nat) (x1 : Int) (x2 : Int) (h : Hp) {r : Int × Hp} (H : JX12_least_52 n x1 x2 h = some r) (hG : gWV v h' r) : PAt l false (mi 200).1 h0 v h' 52 [(0, 16, 113), (1, 0, x1), (2, 0, x2)] [] h :=
  pat_w ok_sdX12_least rkX12_least h8 (foX12_least n) (fun v1 h1 q => by
    cases q
    exact ⟨hG.1, fun _ => hG.2⟩) (List.forall_mem_cons.mpr ⟨(fun a c h H => by
      dsimp only at H
      split at H
      · exact sLX12_least_65 h8 n _ _ _ _ H hG
      · cases H), (fun q9 h9 => by cases h9)⟩) ((eJX12_least_52 n x1 x2 h).symm.trans H)
theorem sLX12_least_30 {l : Launch} {h0 h' : Hp} {v : Int} (h8 : nOf h0 = 148) (n : Nat) (x1 : Int) (x2 : Int) (x3 : Int) (h : Hp) {r : Int × Hp} (H : LX12_least_30 n x1 x2 x3 h = some r) (hG : gWV v h' r) : PAt l false (mi 200).1 h0 v h' 30 [(0, 16, 113), (1, 0, x1), (2, 0, x2), (3, 0, x3)] [] h := by
  obtain ⟨e9, h2, h3⟩ := bndx_some H
  obtain ⟨e1, e2, h1⟩ := e9
  exact sBX12_least_30 h8 n n x1 x2 x3 h h2 (sJX12_least_52 h8 n e1 e2 h1 h3 hG)
theorem sMX12_least {l : Launch} {h0 h' : Hp} {v : Int} (h8 : nOf h0 = 148) (n : Nat) (x1 : Int) (x2 : Int) (h : Hp) {r : Int × Hp} (H : MX12_least n x1 x2 h = some r) (hG : gWV v h' r) : PAt l false (mi 200).1 h0 v h' 0 [(0, 16, 113), (1, 0, x1), (2, 0, x2)] [] h :=
  pat_w ok_sdX12_least rkX12_least h8 (foX12_least n) (fun v1 h1 q => by
    cases q
    exact ⟨hG.1, fun _ => hG.2⟩) (List.forall_mem_cons.mpr ⟨(fun a c h H => by
      dsimp only at H
      split at H
      · exact sLX12_least_30 h8 n _ _ _ _ H hG
      · cases H), (fun q9 h9 => by cases h9)⟩) ((eMX12_least n x1 x2 h).symm.trans H)
theorem sndX12_least {ρ : Type} {l : Launch} (n : Nat) : SndF (ρ := ρ) l false (mi 200).1 (wX12_least n) := by
    intro a h k r H ha ho hn hf
    have h8 := hf rfl
    obtain ⟨x0, x1, x2, rfl⟩ := len3 (show a.length = 3 from ha)
    have u0 := uq16 hn (ho (16, x0) (List.mem_cons_self))
    subst u0
    replace H : bnd (MX12_least n x1 x2 h) (fun r h2 => k r h2) = some r := H
    obtain ⟨v2, h2, H1, H2⟩ := bnd_some H
    exact ⟨v2, h2, H2, met_mk (mok_base okX12_least).1 (by decide +kernel) (Nat.le_of_ble_eq_true rfl) ho (sMX12_least h8 n x1 x2 h H1 ⟨rfl, rfl⟩), fun q => by cases q⟩
/-! X11_spots -/
def sdX11_spots : SD := [(0, [(0, .aload_n 0, 1, [], 0), (1, .getfield 40, 3, [11, 4, 11, 1, 694, 0], 39), (4, .getfield 270, 3, [7, 4, 0, 0, 369, 0], 0), (7, .ireturn, 1, [], 0)])]
def MX11_spots (h : Hp) : Option (Int) :=
(some (h 39 4))
def wX11_spots {ρ : Type} : FN ρ := fun a h k => match a with
  | [_] => bndp (MX11_spots h) (fun r => k r h)
  | _ => none
def fsX11_spots (ρ : Type) : List (FN ρ) := []
def KMX11_spots  : CT (Int) := []
set_option maxRecDepth 100000 in
theorem eMX11_spots (h : Hp) : MX11_spots h =
  goAt false (kct (KMX11_spots)) (fun v _ => some (v)) (fsX11_spots _) sdX11_spots 1000 0 [(0, 15, 0)] [] h := rfl
theorem okX11_spots : mokb (mi 201) = true := by decide +kernel
theorem rkX11_spots : rkOK 1 (mi 201).1.2.2.2.2.2.2.1 (mi 201).1.2.2.2.1 := Or.inr (Or.inl ⟨rfl, rfl, rfl⟩)
def calX11_spots : List Nat := []
theorem foX11_spots {l : Launch} {ρ : Type} : fsOK l false mi calX11_spots (fsX11_spots ρ) := trivial
theorem frX11_spots {ρ : Type} : ∀ fn ∈ fsX11_spots ρ, RoF fn := (fun q9 h9 => by cases h9)
theorem ok_sdX11_spots : sdb (mi 201).1.2.1 (insOK mi (mi 201).1.1.cls (mi 201).1.2.2.1 (mi 201).1.2.2.2.2.1 (mi 201).1.2.2.2.2.2.1 calX11_spots false 1) sdX11_spots = true := by decide +kernel
theorem sMX11_spots {l : Launch} {h0 : Hp} {v : Int} (h8 : nOf h0 = 148)   (h : Hp) {r : Int} (H : MX11_spots h = some r) (hG : gV v r) : PAt l false (mi 201).1 h0 v h 0 [(0, 15, 0)] [] h :=
  pat_ro ok_sdX11_spots rfl rkX11_spots h8 (foX11_spots) (frX11_spots) (fun v1 q => by
    cases q
    exact ⟨rfl, fun _ => hG⟩) (fun q9 h9 => by cases h9) ((eMX11_spots h).symm.trans H)
theorem sndX11_spots {ρ : Type} {l : Launch} : SndF (ρ := ρ) l false (mi 201).1 (wX11_spots) := by
    intro a h k r H ha ho hn hf
    have h8 := hf rfl
    obtain ⟨x0, rfl⟩ := len1 (show a.length = 1 from ha)
    have u0 := uq15 hn (ho (15, x0) (List.mem_cons_self))
    subst u0
    replace H : bndp (MX11_spots h) (fun r => k r h) = some r := H
    obtain ⟨v2, H1, H2⟩ := bndp_some H
    exact ⟨v2, h, H2, met_mk (mok_base okX11_spots).1 (by decide +kernel) (Nat.le_of_ble_eq_true rfl) ho (sMX11_spots h8  h H1 rfl), fun q => by cases q⟩
theorem roX11_spots {ρ : Type} : RoF (wX11_spots : FN ρ) := fun a h k k2 hk => by
  unfold wX11_spots
  split
  · exact bndp_ro hk
  · rfl
/-! X12_isSame -/
def sdX12_isSame : SD := [(0, [(0, .aload_n 0, 1, [], 0), (1, .getfield 37, 3, [12, 14, 1580, 1, 1336, 0], 9), (4, .iconst 3, 1, [], 0), (5, .iload_n 1, 1, [], 0), (6, .imul, 1, [], 0), (7, .iaload, 1, [], 0), (8, .aload_n 0, 1, [], 0), (9, .getfield 37, 3, [12, 14, 1580, 1, 1336, 0], 9), (12, .iconst 3, 1, [], 0), (13, .iload_n 2, 1, [], 0), (14, .imul, 1, [], 0), (15, .iaload, 1, [], 0), (16, .if_icmp .ne 53, 3, [], 0)]),
  (19, [(19, .aload_n 0, 1, [], 0), (20, .getfield 37, 3, [12, 14, 1580, 1, 1336, 0], 9), (23, .iconst 3, 1, [], 0), (24, .iload_n 1, 1, [], 0), (25, .imul, 1, [], 0), (26, .iconst 1, 1, [], 0), (27, .iadd, 1, [], 0), (28, .iaload, 1, [], 0), (29, .aload_n 0, 1, [], 0), (30, .getfield 37, 3, [12, 14, 1580, 1, 1336, 0], 9), (33, .iconst 3, 1, [], 0), (34, .iload_n 2, 1, [], 0), (35, .imul, 1, [], 0), (36, .iconst 1, 1, [], 0), (37, .iadd, 1, [], 0), (38, .iaload, 1, [], 0), (39, .if_icmp .ne 30, 3, [], 0)]),
  (42, [(42, .aload_n 0, 1, [], 0), (43, .getfield 37, 3, [12, 14, 1580, 1, 1336, 0], 9), (46, .iconst 3, 1, [], 0), (47, .iload_n 1, 1, [], 0), (48, .imul, 1, [], 0), (49, .iconst 2, 1, [], 0), (50, .iadd, 1, [], 0), (51, .iaload, 1, [], 0), (52, .aload_n 0, 1, [], 0), (53, .getfield 37, 3, [12, 14, 1580, 1, 1336, 0], 9), (56, .iconst 3, 1, [], 0), (57, .iload_n 2, 1, [], 0), (58, .imul, 1, [], 0), (59, .iconst 2, 1, [], 0), (60, .iadd, 1, [], 0), (61, .iaload, 1, [], 0), (62, .if_icmp .ne 7, 3, [], 0)]),
  (65, [(65, .iconst 1, 1, [], 0), (66, .goto 4, 3, [], 0)]),
  (69, [(69, .iconst 0, 1, [], 0)]),
  (70, [(70, .ireturn, 1, [1], 0)])]
def MX12_isSame (x1 x2 : Int) (h : Hp) : Option (Int) :=
(grd (0 ≤ (w32 (3 * x1)) ∧ (w32 (3 * x1)) < alen 1580)
(grd (0 ≤ (w32 (3 * x2)) ∧ (w32 (3 * x2)) < alen 1580)
(if (h 122 (w32 (3 * x1))) ≠ (h 122 (w32 (3 * x2))) then
(some 0)
else
(grd (0 ≤ (w32 ((w32 (3 * x1)) + 1)) ∧ (w32 ((w32 (3 * x1)) + 1)) < alen 1580)
(grd (0 ≤ (w32 ((w32 (3 * x2)) + 1)) ∧ (w32 ((w32 (3 * x2)) + 1)) < alen 1580)
(if (h 122 (w32 ((w32 (3 * x1)) + 1))) ≠ (h 122 (w32 ((w32 (3 * x2)) + 1))) then
(some 0)
else
(grd (0 ≤ (w32 ((w32 (3 * x1)) + 2)) ∧ (w32 ((w32 (3 * x1)) + 2)) < alen 1580)
(grd (0 ≤ (w32 ((w32 (3 * x2)) + 2)) ∧ (w32 ((w32 (3 * x2)) + 2)) < alen 1580)
(if (h 122 (w32 ((w32 (3 * x1)) + 2))) ≠ (h 122 (w32 ((w32 (3 * x2)) + 2))) then
(some 0)
else
(some 1))))))))))
def wX12_isSame {ρ : Type} : FN ρ := fun a h k => match a with
  | [_, x1, x2] => bndp (MX12_isSame x1 x2 h) (fun r => k r h)
  | _ => none
def fsX12_isSame (ρ : Type) : List (FN ρ) := []
def KMX12_isSame  : CT (Int) := []
set_option maxRecDepth 100000 in
theorem eMX12_isSame (x1 : Int) (x2 : Int) (h : Hp) : MX12_isSame x1 x2 h =
  goAt false (kct (KMX12_isSame)) (fun v _ => some (v)) (fsX12_isSame _) sdX12_isSame 1000 0 [(0, 16, 113), (1, 0, x1), (2, 0, x2)] [] h := rfl
theorem okX12_isSame : mokb (mi 202) = true := by decide +kernel
theorem rkX12_isSame : rkOK 4 (mi 202).1.2.2.2.2.2.2.1 (mi 202).1.2.2.2.1 := Or.inr (Or.inr (Or.inl ⟨rfl, rfl, rfl⟩))
def calX12_isSame : List Nat := []
theorem foX12_isSame {l : Launch} {ρ : Type} : fsOK l false mi calX12_isSame (fsX12_isSame ρ) := trivial
theorem frX12_isSame {ρ : Type} : ∀ fn ∈ fsX12_isSame ρ, RoF fn := (fun q9 h9 => by cases h9)
theorem ok_sdX12_isSame : sdb (mi 202).1.2.1 (insOK mi (mi 202).1.1.cls (mi 202).1.2.2.1 (mi 202).1.2.2.2.2.1 (mi 202).1.2.2.2.2.2.1 calX12_isSame false 4) sdX12_isSame = true := by decide +kernel
theorem sMX12_isSame {l : Launch} {h0 : Hp} {v : Int} (h8 : nOf h0 = 148)  (x1 : Int) (x2 : Int) (h : Hp) {r : Int} (H : MX12_isSame x1 x2 h = some r) (hG : gV v r) : PAt l false (mi 202).1 h0 v h 0 [(0, 16, 113), (1, 0, x1), (2, 0, x2)] [] h :=
  pat_ro ok_sdX12_isSame rfl rkX12_isSame h8 (foX12_isSame) (frX12_isSame) (fun v1 q => by
    cases q
    exact ⟨rfl, fun _ => hG⟩) (fun q9 h9 => by cases h9) ((eMX12_isSame x1 x2 h).symm.trans H)
theorem sndX12_isSame {ρ : Type} {l : Launch} : SndF (ρ := ρ) l false (mi 202).1 (wX12_isSame) := by
    intro a h k r H ha ho hn hf
    have h8 := hf rfl
    obtain ⟨x0, x1, x2, rfl⟩ := len3 (show a.length = 3 from ha)
    have u0 := uq16 hn (ho (16, x0) (List.mem_cons_self))
    subst u0
    replace H : bndp (MX12_isSame x1 x2 h) (fun r => k r h) = some r := H
    obtain ⟨v2, H1, H2⟩ := bndp_some H
    exact ⟨v2, h, H2, met_mk (mok_base okX12_isSame).1 (by decide +kernel) (Nat.le_of_ble_eq_true rfl) ho (sMX12_isSame h8 x1 x2 h H1 rfl), fun q => by cases q⟩
theorem roX12_isSame {ρ : Type} : RoF (wX12_isSame : FN ρ) := fun a h k k2 hk => by
  unfold wX12_isSame
  split
  · exact bndp_ro hk
  · rfl
/-! X12_laysSpots -/
def sdX12_laysSpots : SD := [(0, [(0, .aload_n 0, 1, [], 0), (1, .iconst 0, 1, [], 0), (2, .putfield 514, 3, [12, 59, 0, 0, 0, 1381], 0), (5, .iconst 0, 1, [], 0), (6, .istore_n 1, 1, [], 0)]),
  (7, [(7, .iload_n 1, 1, [], 0), (8, .aload_n 0, 1, [], 0), (9, .getfield 140, 3, [12, 6, 0, 0, 1328, 0], 0), (12, .if_icmp .gt 88, 3, [], 0)]),
  (15, [(15, .aload_n 0, 1, [], 0), (16, .getfield 140, 3, [12, 6, 0, 0, 1328, 0], 0), (19, .ifCond .le 81, 3, [], 0)]),
  (22, [(22, .iconst 0, 1, [], 0), (23, .istore_n 2, 1, [], 0)]),
  (24, [(24, .iload_n 2, 1, [], 0), (25, .aload_n 0, 1, [], 0), (26, .getfield 514, 3, [12, 59, 0, 0, 1381, 0], 0), (29, .if_icmp .ge 23, 3, [], 0)]),
  (32, [(32, .aload_n 0, 1, [], 0), (33, .aload_n 0, 1, [], 0), (34, .getfield 95, 3, [12, 57, 540, 1, 1379, 0], 28), (37, .iload_n 2, 1, [], 0), (38, .iaload, 1, [], 0), (39, .iload_n 1, 1, [], 0), (40, .invokevirtual 517, 3, [1, 0, 1, 202, 1891, 0, 0, 16], 0), (43, .ifCond .ne 9, 3, [], 0)]),
  (46, [(46, .iinc 2 1, 3, [], 0), (49, .goto (-25), 3, [], 0)]),
  (52, [(52, .iload_n 2, 1, [], 0), (53, .aload_n 0, 1, [], 0), (54, .getfield 514, 3, [12, 59, 0, 0, 1381, 0], 0), (57, .if_icmp .ne 27, 3, [], 0)]),
  (60, [(60, .aload_n 0, 1, [], 0), (61, .getfield 95, 3, [12, 57, 540, 1, 1379, 0], 28), (64, .iload_n 2, 1, [], 0), (65, .iload_n 1, 1, [], 0), (66, .iastore, 1, [], 0), (67, .aload_n 0, 1, [], 0), (68, .getfield 98, 3, [12, 58, 540, 1, 1380, 0], 29), (71, .iload_n 2, 1, [], 0), (72, .iconst 0, 1, [], 0), (73, .iastore, 1, [], 0), (74, .aload_n 0, 1, [], 0), (75, .dup, 1, [], 0), (76, .getfield 514, 3, [12, 59, 0, 0, 1381, 0], 0), (79, .iconst 1, 1, [], 0), (80, .iadd, 1, [], 0), (81, .putfield 514, 3, [12, 59, 0, 0, 0, 1381], 0)]),
  (84, [(84, .aload_n 0, 1, [], 0), (85, .getfield 98, 3, [12, 58, 540, 1, 1380, 0], 29), (88, .iload_n 2, 1, [], 0), (89, .dup2, 1, [], 0), (90, .iaload, 1, [], 0), (91, .iconst 1, 1, [], 0), (92, .iadd, 1, [], 0), (93, .iastore, 1, [], 0), (94, .iinc 1 1, 3, [], 0), (97, .goto (-90), 3, [], 0)]),
  (100, [(100, .return_, 1, [], 0)])]
def sdX12_laysSpots_24 : SD := [(24, [(24, .iload_n 2, 1, [], 0), (25, .aload_n 0, 1, [], 0), (26, .getfield 514, 3, [12, 59, 0, 0, 1381, 0], 0), (29, .if_icmp .ge 23, 3, [], 0)]),
  (32, [(32, .aload_n 0, 1, [], 0), (33, .aload_n 0, 1, [], 0), (34, .getfield 95, 3, [12, 57, 540, 1, 1379, 0], 28), (37, .iload_n 2, 1, [], 0), (38, .iaload, 1, [], 0), (39, .iload_n 1, 1, [], 0), (40, .invokevirtual 517, 3, [1, 0, 1, 202, 1891, 0, 0, 16], 0), (43, .ifCond .ne 9, 3, [], 0)]),
  (46, [(46, .iinc 2 1, 3, [], 0), (49, .goto (-25), 3, [], 0)])]
def BX12_laysSpots_24 (n : Nat) : Nat → Int → Int → Hp → Option (Int × Int)
  | 0, _, _, _ => none
  | f + 1, x1, x2, h =>
    (if (h 113 59) ≤ x2 then
    (some (x1, x2))
    else
    (grd (0 ≤ x2 ∧ x2 < alen 540)
    (bndp (MX12_isSame (h 141 x2) x1 h) fun r1 =>
    (if r1 ≠ 0 then
    (some (x1, x2))
    else
    (ltt (w32 (x2 + 1)) fun y1 =>
    (BX12_laysSpots_24 n f x1 y1 h))))))
def JX12_laysSpots_84 (n : Nat) (bk : Int → Hp → Option (Hp)) (x1 x2 : Int) (h : Hp) : Option (Hp) :=
(grd (0 ≤ x2 ∧ x2 < alen 540)
(grd (0 ≤ x2 ∧ x2 < alen 540)
(ltt (up h 142 x2 (w32 ((h 142 x2) + 1))) fun h1 =>
(ltt (w32 (x1 + 1)) fun y1 =>
(bk y1 h1)))))
def JX12_laysSpots_52 (n : Nat) (bk : Int → Hp → Option (Hp)) (x1 x2 : Int) (h : Hp) : Option (Hp) :=
(if x2 ≠ (h 113 59) then
(JX12_laysSpots_84 n bk x1 x2 h)
else
(grd (0 ≤ x2 ∧ x2 < alen 540)
(ltt (up h 141 x2 x1) fun h1 =>
(grd (0 ≤ x2 ∧ x2 < alen 540)
(ltt (up h1 142 x2 0) fun h2 =>
(ltt (up h2 113 59 (w32 ((h2 113 59) + 1))) fun h3 =>
(JX12_laysSpots_84 n bk x1 x2 h3)))))))
def LX12_laysSpots_24 (n : Nat) (bk : Int → Hp → Option (Hp)) (x1 x2 : Int) (h : Hp) : Option (Hp) :=
(bndx (BX12_laysSpots_24 n n x1 x2 h) fun (e1, e2) =>
(JX12_laysSpots_52 n bk e1 e2 h))
def BX12_laysSpots_7 (n : Nat) : Nat → Int → Hp → Option (Hp)
  | 0, _, _ => none
  | f + 1, x1, h =>
    (if (h 113 6) < x1 then
    (some h)
    else
    (if (h 113 6) ≤ 0 then
    (some h)
    else
    (ltt 0 fun y1 =>
    (LX12_laysSpots_24 n (BX12_laysSpots_7 n f) x1 y1 h))))
def LX12_laysSpots_7 (n : Nat) (x1 : Int) (h : Hp) : Option (Hp) :=
(BX12_laysSpots_7 n n x1 h)
def MX12_laysSpots (n : Nat) (h : Hp) : Option (Hp) :=
(ltt (up h 113 59 0) fun h1 =>
(ltt 0 fun y1 =>
(LX12_laysSpots_7 n y1 h1)))
def wX12_laysSpots {ρ : Type} (n : Nat) : FN ρ := fun a h k => match a with
  | [_] => bndh (MX12_laysSpots n h) (fun h2 => k 0 h2)
  | _ => none
def fsX12_laysSpots (n : Nat) (ρ : Type) : List (FN ρ) := [wX12_isSame]
def fsX12_laysSpots_24 (n : Nat) (ρ : Type) : List (FN ρ) := [wX12_isSame]
def KBX12_laysSpots_24 (_ : Nat) (bk : Int → Int → Hp → Option (Int × Int)) : CT (Int × Int) := [(24, [(0, 16, (some 113)), (1, 0, none), (2, 0, none)], [], fun a c h => match a, c with
    | [x1, x2], [] => bk x1 x2 h
    | _, _ => none),
  (52, [(0, 16, (some 113)), (1, 0, none), (2, 0, none)], [], fun a c _ => match a, c with
    | [x1, x2], [] => some (x1, x2)
    | _, _ => none)]
set_option maxRecDepth 100000 in
theorem eBX12_laysSpots_24 (n f : Nat) (x1 : Int) (x2 : Int) (h : Hp) : BX12_laysSpots_24 n (f + 1) x1 x2 h =
  goAt false (kct (KBX12_laysSpots_24 n (BX12_laysSpots_24 n f))) (fun _ _ => none) (fsX12_laysSpots_24 n _) sdX12_laysSpots_24 1000 24 [(0, 16, 113), (1, 0, x1), (2, 0, x2)] [] h := rfl
def KJX12_laysSpots_84 (_ : Nat) (bk : Int → Hp → Option (Hp)) : CT (Hp) := [(7, [(0, 16, (some 113)), (1, 0, none)], [], fun a c h => match a, c with
    | [x1], [] => bk x1 h
    | _, _ => none)]
set_option maxRecDepth 100000 in
theorem eJX12_laysSpots_84 (n : Nat) (bk : Int → Hp → Option (Hp)) (x1 : Int) (x2 : Int) (h : Hp) : JX12_laysSpots_84 n bk x1 x2 h =
  goAt false (kct (KJX12_laysSpots_84 n bk)) (fun _ h => some (h)) (fsX12_laysSpots n _) sdX12_laysSpots 1000 84 [(0, 16, 113), (1, 0, x1), (2, 0, x2)] [] h := rfl
def KJX12_laysSpots_52 (n : Nat) (bk : Int → Hp → Option (Hp)) : CT (Hp) := [(7, [(0, 16, (some 113)), (1, 0, none)], [], fun a c h => match a, c with
    | [x1], [] => bk x1 h
    | _, _ => none),
  (84, [(0, 16, (some 113)), (1, 0, none), (2, 0, none)], [], fun a c h => match a, c with
    | [x1, x2], [] => JX12_laysSpots_84 n bk x1 x2 h
    | _, _ => none)]
set_option maxRecDepth 100000 in
theorem eJX12_laysSpots_52 (n : Nat) (bk : Int → Hp → Option (Hp)) (x1 : Int) (x2 : Int) (h : Hp) : JX12_laysSpots_52 n bk x1 x2 h =
  goAt false (kct (KJX12_laysSpots_52 n bk)) (fun _ h => some (h)) (fsX12_laysSpots n _) sdX12_laysSpots 1000 52 [(0, 16, 113), (1, 0, x1), (2, 0, x2)] [] h := rfl
def KBX12_laysSpots_7 (n : Nat) (bk : Int → Hp → Option (Hp)) : CT (Hp) := [(7, [(0, 16, (some 113)), (1, 0, none)], [], fun a c h => match a, c with
    | [x1], [] => bk x1 h
    | _, _ => none),
  (24, [(0, 16, (some 113)), (1, 0, none), (2, 0, none)], [], fun a c h => match a, c with
    | [x1, x2], [] => LX12_laysSpots_24 n bk x1 x2 h
    | _, _ => none)]
set_option maxRecDepth 100000 in
theorem eBX12_laysSpots_7 (n f : Nat) (x1 : Int) (h : Hp) : BX12_laysSpots_7 n (f + 1) x1 h =
  goAt false (kct (KBX12_laysSpots_7 n (BX12_laysSpots_7 n f))) (fun _ h => some (h)) (fsX12_laysSpots n _) sdX12_laysSpots 1000 7 [(0, 16, 113), (1, 0, x1)] [] h := rfl
def KMX12_laysSpots (n : Nat) : CT (Hp) := [(7, [(0, 16, (some 113)), (1, 0, none)], [], fun a c h => match a, c with
    | [x1], [] => LX12_laysSpots_7 n x1 h
    | _, _ => none)]
set_option maxRecDepth 100000 in
theorem eMX12_laysSpots (n : Nat) (h : Hp) : MX12_laysSpots n h =
  goAt false (kct (KMX12_laysSpots n)) (fun _ h => some (h)) (fsX12_laysSpots n _) sdX12_laysSpots 1000 0 [(0, 16, 113)] [] h := rfl
theorem okX12_laysSpots : mokb (mi 203) = true := by decide +kernel
theorem rkX12_laysSpots : rkOK 0 (mi 203).1.2.2.2.2.2.2.1 (mi 203).1.2.2.2.1 := Or.inl ⟨rfl, rfl, rfl⟩
def calX12_laysSpots : List Nat := [202]
theorem foX12_laysSpots {l : Launch} {ρ : Type} (n : Nat) : fsOK l false mi calX12_laysSpots (fsX12_laysSpots n ρ) := ⟨sndX12_isSame, trivial⟩
theorem ok_sdX12_laysSpots : sdb (mi 203).1.2.1 (insOK mi (mi 203).1.1.cls (mi 203).1.2.2.1 (mi 203).1.2.2.2.2.1 (mi 203).1.2.2.2.2.2.1 calX12_laysSpots false 0) sdX12_laysSpots = true := by decide +kernel
def calX12_laysSpots_24 : List Nat := [202]
theorem foX12_laysSpots_24 {l : Launch} {ρ : Type} (n : Nat) : fsOK l false mi calX12_laysSpots_24 (fsX12_laysSpots_24 n ρ) := ⟨sndX12_isSame, trivial⟩
theorem frX12_laysSpots_24 {ρ : Type} (n : Nat) : ∀ fn ∈ fsX12_laysSpots_24 n ρ, RoF fn := (List.forall_mem_cons.mpr ⟨roX12_isSame, (fun q9 h9 => by cases h9)⟩)
theorem ok_sdX12_laysSpots_24 : sdb (mi 203).1.2.1 (insOK mi (mi 203).1.1.cls (mi 203).1.2.2.1 (mi 203).1.2.2.2.2.1 (mi 203).1.2.2.2.2.2.1 calX12_laysSpots_24 false 0) sdX12_laysSpots_24 = true := by decide +kernel
def GX12_laysSpots_24 (l : Launch) (h0 : Hp) (h' : Hp) (v : Int) (h : Hp) : (Int × Int) → Prop
  | (e1, e2) => PAt l false (mi 203).1 h0 v h' 52 [(0, 16, 113), (1, 0, e1), (2, 0, e2)] [] h
theorem sBX12_laysSpots_24 {l : Launch} {h0 h' : Hp} {v : Int} (h8 : nOf h0 = 148) (n : Nat) (h : Hp) : ∀ (f : Nat) (x1 : Int) (x2 : Int) {r : Int × Int}, BX12_laysSpots_24 n f x1 x2 h = some r → GX12_laysSpots_24 l h0 h' v h r → PAt l false (mi 203).1 h0 v h' 24 [(0, 16, 113), (1, 0, x1), (2, 0, x2)] [] h := by
  intro f
  induction f with
  | zero =>
    intro x1 x2 r H _
    have H2 : (none : Option (Int × Int)) = some r := H
    cases H2
  | succ f ih =>
    intro x1 x2 r H hG
    exact pat_ro ok_sdX12_laysSpots_24 rfl rkX12_laysSpots h8 (foX12_laysSpots_24 n) (frX12_laysSpots_24 n) (fun v1 q => by cases q) (List.forall_mem_cons.mpr ⟨(fun a c H => by
      dsimp only at H
      split at H
      · exact ih _ _ H hG
      · cases H), (List.forall_mem_cons.mpr ⟨(fun a c H => by
      dsimp only at H
      split at H
      · cases H
        exact hG
      · cases H), (fun q9 h9 => by cases h9)⟩)⟩) ((eBX12_laysSpots_24 n f x1 x2 h).symm.trans H)
theorem sJX12_laysSpots_84 {l : Launch} {h0 h' : Hp} {v : Int} (h8 : nOf h0 = 148) (n : Nat) (bk : Int → Hp → Option (Hp)) (hbk : ∀ (x1 : Int) (h : Hp) (r : Hp), bk x1 h = some r → gW h' r → PAt l false (mi 203).1 h0 v h' 7 [(0, 16, 113), (1, 0, x1)] [] h) (x1 : Int) (x2 : Int) (h : Hp) {r : Hp} (H : JX12_laysSpots_84 n bk x1 x2 h = some r) (hG : gW h' r) : PAt l false (mi 203).1 h0 v h' 84 [(0, 16, 113), (1, 0, x1), (2, 0, x2)] [] h :=
  pat_w ok_sdX12_laysSpots rkX12_laysSpots h8 (foX12_laysSpots n) (fun v1 h1 q => by
    cases q
    exact ⟨hG, fun q9 => absurd rfl q9⟩) (List.forall_mem_cons.mpr ⟨(fun a c h H => by
      dsimp only at H
      split at H
      · exact hbk _ _ _ H hG
      · cases H), (fun q9 h9 => by cases h9)⟩) ((eJX12_laysSpots_84 n bk x1 x2 h).symm.trans H)
theorem sJX12_laysSpots_52 {l : Launch} {h0 h' : Hp} {v : Int} (h8 : nOf h0 = 148) (n : Nat) (bk : Int → Hp → Option (Hp)) (hbk : ∀ (x1 : Int) (h : Hp) (r : Hp), bk x1 h = some r → gW h' r → PAt l false (mi 203).1 h0 v h' 7 [(0, 16, 113), (1, 0, x1)] [] h) (x1 : Int) (x2 : Int) (h : Hp) {r : Hp} (H : JX12_laysSpots_52 n bk x1 x2 h = some r) (hG : gW h' r) : PAt l false (mi 203).1 h0 v h' 52 [(0, 16, 113), (1, 0, x1), (2, 0, x2)] [] h :=
  pat_w ok_sdX12_laysSpots rkX12_laysSpots h8 (foX12_laysSpots n) (fun v1 h1 q => by
    cases q
    exact ⟨hG, fun q9 => absurd rfl q9⟩) (List.forall_mem_cons.mpr ⟨(fun a c h H => by
      dsimp only at H
      split at H
      · exact hbk _ _ _ H hG
      · cases H), (List.forall_mem_cons.mpr ⟨(fun a c h H => by
      dsimp only at H
      split at H
      · exact sJX12_laysSpots_84 h8 n bk hbk _ _ _ H hG
      · cases H), (fun q9 h9 => by cases h9)⟩)⟩) ((eJX12_laysSpots_52 n bk x1 x2 h).symm.trans H)
theorem sLX12_laysSpots_24 {l : Launch} {h0 h' : Hp} {v : Int} (h8 : nOf h0 = 148) (n : Nat) (bk : Int → Hp → Option (Hp)) (hbk : ∀ (x1 : Int) (h : Hp) (r : Hp), bk x1 h = some r → gW h' r → PAt l false (mi 203).1 h0 v h' 7 [(0, 16, 113), (1, 0, x1)] [] h) (x1 : Int) (x2 : Int) (h : Hp) {r : Hp} (H : LX12_laysSpots_24 n bk x1 x2 h = some r) (hG : gW h' r) : PAt l false (mi 203).1 h0 v h' 24 [(0, 16, 113), (1, 0, x1), (2, 0, x2)] [] h := by
  obtain ⟨e9, h2, h3⟩ := bndx_some H
  obtain ⟨e1, e2⟩ := e9
  exact sBX12_laysSpots_24 h8 n h n x1 x2 h2 (sJX12_laysSpots_52 h8 n bk hbk e1 e2 h h3 hG)
theorem sBX12_laysSpots_7 {l : Launch} {h0 h' : Hp} {v : Int} (h8 : nOf h0 = 148) (n : Nat) : ∀ (f : Nat) (x1 : Int) (h : Hp) {r : Hp}, BX12_laysSpots_7 n f x1 h = some r → gW h' r → PAt l false (mi 203).1 h0 v h' 7 [(0, 16, 113), (1, 0, x1)] [] h := by
  intro f
  induction f with
  | zero =>
    intro x1 h r H _
    have H2 : (none : Option (Hp)) = some r := H
    cases H2
  | succ f ih =>
    intro x1 h r H hG
    have ihk : ∀ (x1 : Int) (h : Hp) (r : Hp), BX12_laysSpots_7 n f x1 h = some r → gW h' r → PAt l false (mi 203).1 h0 v h' 7 [(0, 16, 113), (1, 0, x1)] [] h := fun x1 h r9 a9 b9 => ih x1 h a9 b9
    exact pat_w ok_sdX12_laysSpots rkX12_laysSpots h8 (foX12_laysSpots n) (fun v1 h1 q => by
    cases q
    exact ⟨hG, fun q9 => absurd rfl q9⟩) (List.forall_mem_cons.mpr ⟨(fun a c h H => by
      dsimp only at H
      split at H
      · exact ih _ _ H hG
      · cases H), (List.forall_mem_cons.mpr ⟨(fun a c h H => by
      dsimp only at H
      split at H
      · exact sLX12_laysSpots_24 h8 n (BX12_laysSpots_7 n f) ihk _ _ _ H hG
      · cases H), (fun q9 h9 => by cases h9)⟩)⟩) ((eBX12_laysSpots_7 n f x1 h).symm.trans H)
theorem sLX12_laysSpots_7 {l : Launch} {h0 h' : Hp} {v : Int} (h8 : nOf h0 = 148) (n : Nat) (x1 : Int) (h : Hp) {r : Hp} (H : LX12_laysSpots_7 n x1 h = some r) (hG : gW h' r) : PAt l false (mi 203).1 h0 v h' 7 [(0, 16, 113), (1, 0, x1)] [] h :=
  sBX12_laysSpots_7 h8 n n x1 h H hG
theorem sMX12_laysSpots {l : Launch} {h0 h' : Hp} {v : Int} (h8 : nOf h0 = 148) (n : Nat)  (h : Hp) {r : Hp} (H : MX12_laysSpots n h = some r) (hG : gW h' r) : PAt l false (mi 203).1 h0 v h' 0 [(0, 16, 113)] [] h :=
  pat_w ok_sdX12_laysSpots rkX12_laysSpots h8 (foX12_laysSpots n) (fun v1 h1 q => by
    cases q
    exact ⟨hG, fun q9 => absurd rfl q9⟩) (List.forall_mem_cons.mpr ⟨(fun a c h H => by
      dsimp only at H
      split at H
      · exact sLX12_laysSpots_7 h8 n _ _ H hG
      · cases H), (fun q9 h9 => by cases h9)⟩) ((eMX12_laysSpots n h).symm.trans H)
theorem sndX12_laysSpots {ρ : Type} {l : Launch} (n : Nat) : SndF (ρ := ρ) l false (mi 203).1 (wX12_laysSpots n) := by
    intro a h k r H ha ho hn hf
    have h8 := hf rfl
    obtain ⟨x0, rfl⟩ := len1 (show a.length = 1 from ha)
    have u0 := uq16 hn (ho (16, x0) (List.mem_cons_self))
    subst u0
    replace H : bndh (MX12_laysSpots n h) (fun h2 => k 0 h2) = some r := H
    obtain ⟨h2, H1, H2⟩ := bndh_some H
    exact ⟨0, h2, H2, met_mk (mok_base okX12_laysSpots).1 (by decide +kernel) (Nat.le_of_ble_eq_true rfl) ho (sMX12_laysSpots h8 n  h H1 rfl), fun q => by cases q⟩
