/-! X11_hold -/
def sdX11_hold : SD := [(0, [(0, .aload_n 0, 1, [], 0), (1, .getfield 57, 3, [11, 7, 12, 1, 697, 0], 64), (4, .getfield 206, 3, [8, 5, 0, 0, 497, 0], 0), (7, .ifCond .eq 5, 3, [], 0)]),
  (10, [(10, .iconst 0, 1, [], 0), (11, .ireturn, 1, [1], 0)]),
  (12, [(12, .aload_n 0, 1, [], 0), (13, .getfield 67, 3, [11, 9, 9, 1, 699, 0], 66), (16, .aload_n 0, 1, [], 0), (17, .getfield 57, 3, [11, 7, 12, 1, 697, 0], 64), (20, .invokevirtual 192, 3, [0, 0, 1, 125, 1015, 12, 9], 0), (23, .aload_n 0, 1, [], 0), (24, .getfield 57, 3, [11, 7, 12, 1, 697, 0], 64), (27, .iconst 1, 1, [], 0), (28, .putfield 206, 3, [8, 5, 0, 0, 1, 497], 0), (31, .iconst 1, 1, [], 0), (32, .ireturn, 1, [1], 0)])]
def MX11_hold (h : Hp) : Option (Int × Hp) :=
(if (h 64 5) = 0 then
(bndh (MX5_note 64 h) fun h1 =>
(ltt (up h1 64 5 1) fun h2 =>
(some (1, h2))))
else
(some (0, h)))
def wX11_hold {ρ : Type} : FN ρ := fun a h k => match a with
  | [_] => bnd (MX11_hold h) (fun r h2 => k r h2)
  | _ => none
def fsX11_hold (ρ : Type) : List (FN ρ) := [wX5_note]
def KMX11_hold  : CT (Int × Hp) := []
set_option maxRecDepth 100000 in
theorem eMX11_hold (h : Hp) : MX11_hold h =
  goAt false (kct (KMX11_hold)) (fun v h => some ((v, h))) (fsX11_hold _) sdX11_hold 1000 0 [(0, 15, 0)] [] h := rfl
theorem okX11_hold : mokb (mi 156) = true := by decide +kernel
theorem rkX11_hold : rkOK 4 (mi 156).1.2.2.2.2.2.2.1 (mi 156).1.2.2.2.1 := Or.inr (Or.inr (Or.inl ⟨rfl, rfl, rfl⟩))
def calX11_hold : List Nat := [125]
theorem foX11_hold {l : Launch} {ρ : Type} : fsOK l false mi calX11_hold (fsX11_hold ρ) := ⟨sndX5_note, trivial⟩
theorem ok_sdX11_hold : sdb (mi 156).1.2.1 (insOK mi (mi 156).1.1.cls (mi 156).1.2.2.1 (mi 156).1.2.2.2.2.1 (mi 156).1.2.2.2.2.2.1 calX11_hold false 4) sdX11_hold = true := by decide +kernel
theorem sMX11_hold {l : Launch} {h0 h' : Hp} {v : Int} (h8 : nOf h0 = 148)   (h : Hp) {r : Int × Hp} (H : MX11_hold h = some r) (hG : gWV v h' r) : PAt l false (mi 156).1 h0 v h' 0 [(0, 15, 0)] [] h :=
  pat_w ok_sdX11_hold rkX11_hold h8 (foX11_hold) (fun v1 h1 q => by
    cases q
    exact ⟨hG.1, fun _ => hG.2⟩) (fun q9 h9 => by cases h9) ((eMX11_hold h).symm.trans H)
theorem sndX11_hold {ρ : Type} {l : Launch} : SndF (ρ := ρ) l false (mi 156).1 (wX11_hold) := by
    intro a h k r H ha ho hn hf
    have h8 := hf rfl
    obtain ⟨x0, rfl⟩ := len1 (show a.length = 1 from ha)
    have u0 := uq15 hn (ho (15, x0) (List.mem_cons_self))
    subst u0
    replace H : bnd (MX11_hold h) (fun r h2 => k r h2) = some r := H
    obtain ⟨v2, h2, H1, H2⟩ := bnd_some H
    exact ⟨v2, h2, H2, met_mk (mok_base okX11_hold).1 (by decide +kernel) (Nat.le_of_ble_eq_true rfl) ho (sMX11_hold h8  h H1 ⟨rfl, rfl⟩), fun q => by cases q⟩
/-! X12_hold -/
def sdX12_hold : SD := [(0, [(0, .aload_n 0, 1, [], 0), (1, .getfield 161, 3, [12, 47, 0, 0, 1369, 0], 0), (4, .ifCond .eq 5, 3, [], 0)]),
  (7, [(7, .iconst 0, 1, [], 0), (8, .ireturn, 1, [1], 0)]),
  (9, [(9, .aload_n 0, 1, [], 0), (10, .invokevirtual 465, 3, [0, 0, 1, 143, 1719, 16], 0), (13, .aload_n 0, 1, [], 0), (14, .iconst 1, 1, [], 0), (15, .putfield 161, 3, [12, 47, 0, 0, 1, 1369], 0), (18, .iconst 1, 1, [], 0), (19, .ireturn, 1, [1], 0)])]
def MX12_hold (n : Nat) (h : Hp) : Option (Int × Hp) :=
(if (h 113 47) = 0 then
(bndh (MX12_remembers n h) fun h1 =>
(ltt (up h1 113 47 1) fun h2 =>
(some (1, h2))))
else
(some (0, h)))
def wX12_hold {ρ : Type} (n : Nat) : FN ρ := fun a h k => match a with
  | [_] => bnd (MX12_hold n h) (fun r h2 => k r h2)
  | _ => none
def fsX12_hold (n : Nat) (ρ : Type) : List (FN ρ) := [wX12_remembers n]
def KMX12_hold (_ : Nat) : CT (Int × Hp) := []
set_option maxRecDepth 100000 in
theorem eMX12_hold (n : Nat) (h : Hp) : MX12_hold n h =
  goAt false (kct (KMX12_hold n)) (fun v h => some ((v, h))) (fsX12_hold n _) sdX12_hold 1000 0 [(0, 16, 113)] [] h := rfl
theorem okX12_hold : mokb (mi 157) = true := by decide +kernel
theorem rkX12_hold : rkOK 4 (mi 157).1.2.2.2.2.2.2.1 (mi 157).1.2.2.2.1 := Or.inr (Or.inr (Or.inl ⟨rfl, rfl, rfl⟩))
def calX12_hold : List Nat := [143]
theorem foX12_hold {l : Launch} {ρ : Type} (n : Nat) : fsOK l false mi calX12_hold (fsX12_hold n ρ) := ⟨(sndX12_remembers n), trivial⟩
theorem ok_sdX12_hold : sdb (mi 157).1.2.1 (insOK mi (mi 157).1.1.cls (mi 157).1.2.2.1 (mi 157).1.2.2.2.2.1 (mi 157).1.2.2.2.2.2.1 calX12_hold false 4) sdX12_hold = true := by decide +kernel
theorem sMX12_hold {l : Launch} {h0 h' : Hp} {v : Int} (h8 : nOf h0 = 148) (n : Nat)  (h : Hp) {r : Int × Hp} (H : MX12_hold n h = some r) (hG : gWV v h' r) : PAt l false (mi 157).1 h0 v h' 0 [(0, 16, 113)] [] h :=
  pat_w ok_sdX12_hold rkX12_hold h8 (foX12_hold n) (fun v1 h1 q => by
    cases q
    exact ⟨hG.1, fun _ => hG.2⟩) (fun q9 h9 => by cases h9) ((eMX12_hold n h).symm.trans H)
theorem sndX12_hold {ρ : Type} {l : Launch} (n : Nat) : SndF (ρ := ρ) l false (mi 157).1 (wX12_hold n) := by
    intro a h k r H ha ho hn hf
    have h8 := hf rfl
    obtain ⟨x0, rfl⟩ := len1 (show a.length = 1 from ha)
    have u0 := uq16 hn (ho (16, x0) (List.mem_cons_self))
    subst u0
    replace H : bnd (MX12_hold n h) (fun r h2 => k r h2) = some r := H
    obtain ⟨v2, h2, H1, H2⟩ := bnd_some H
    exact ⟨v2, h2, H2, met_mk (mok_base okX12_hold).1 (by decide +kernel) (Nat.le_of_ble_eq_true rfl) ho (sMX12_hold h8 n  h H1 ⟨rfl, rfl⟩), fun q => by cases q⟩
/-! X11_letGo -/
def sdX11_letGo : SD := [(0, [(0, .aload_n 0, 1, [], 0), (1, .getfield 57, 3, [11, 7, 12, 1, 697, 0], 64), (4, .getfield 206, 3, [8, 5, 0, 0, 497, 0], 0), (7, .ifCond .ne 5, 3, [], 0)]),
  (10, [(10, .iconst 0, 1, [], 0), (11, .ireturn, 1, [1], 0)]),
  (12, [(12, .aload_n 0, 1, [], 0), (13, .getfield 67, 3, [11, 9, 9, 1, 699, 0], 66), (16, .aload_n 0, 1, [], 0), (17, .getfield 57, 3, [11, 7, 12, 1, 697, 0], 64), (20, .invokevirtual 192, 3, [0, 0, 1, 125, 1015, 12, 9], 0), (23, .aload_n 0, 1, [], 0), (24, .getfield 57, 3, [11, 7, 12, 1, 697, 0], 64), (27, .iconst 0, 1, [], 0), (28, .putfield 206, 3, [8, 5, 0, 0, 1, 497], 0), (31, .iconst 1, 1, [], 0), (32, .ireturn, 1, [1], 0)])]
def MX11_letGo (h : Hp) : Option (Int × Hp) :=
(if (h 64 5) ≠ 0 then
(bndh (MX5_note 64 h) fun h1 =>
(ltt (up h1 64 5 0) fun h2 =>
(some (1, h2))))
else
(some (0, h)))
def wX11_letGo {ρ : Type} : FN ρ := fun a h k => match a with
  | [_] => bnd (MX11_letGo h) (fun r h2 => k r h2)
  | _ => none
def fsX11_letGo (ρ : Type) : List (FN ρ) := [wX5_note]
def KMX11_letGo  : CT (Int × Hp) := []
set_option maxRecDepth 100000 in
theorem eMX11_letGo (h : Hp) : MX11_letGo h =
  goAt false (kct (KMX11_letGo)) (fun v h => some ((v, h))) (fsX11_letGo _) sdX11_letGo 1000 0 [(0, 15, 0)] [] h := rfl
theorem okX11_letGo : mokb (mi 158) = true := by decide +kernel
theorem rkX11_letGo : rkOK 4 (mi 158).1.2.2.2.2.2.2.1 (mi 158).1.2.2.2.1 := Or.inr (Or.inr (Or.inl ⟨rfl, rfl, rfl⟩))
def calX11_letGo : List Nat := [125]
theorem foX11_letGo {l : Launch} {ρ : Type} : fsOK l false mi calX11_letGo (fsX11_letGo ρ) := ⟨sndX5_note, trivial⟩
theorem ok_sdX11_letGo : sdb (mi 158).1.2.1 (insOK mi (mi 158).1.1.cls (mi 158).1.2.2.1 (mi 158).1.2.2.2.2.1 (mi 158).1.2.2.2.2.2.1 calX11_letGo false 4) sdX11_letGo = true := by decide +kernel
theorem sMX11_letGo {l : Launch} {h0 h' : Hp} {v : Int} (h8 : nOf h0 = 148)   (h : Hp) {r : Int × Hp} (H : MX11_letGo h = some r) (hG : gWV v h' r) : PAt l false (mi 158).1 h0 v h' 0 [(0, 15, 0)] [] h :=
  pat_w ok_sdX11_letGo rkX11_letGo h8 (foX11_letGo) (fun v1 h1 q => by
    cases q
    exact ⟨hG.1, fun _ => hG.2⟩) (fun q9 h9 => by cases h9) ((eMX11_letGo h).symm.trans H)
theorem sndX11_letGo {ρ : Type} {l : Launch} : SndF (ρ := ρ) l false (mi 158).1 (wX11_letGo) := by
    intro a h k r H ha ho hn hf
    have h8 := hf rfl
    obtain ⟨x0, rfl⟩ := len1 (show a.length = 1 from ha)
    have u0 := uq15 hn (ho (15, x0) (List.mem_cons_self))
    subst u0
    replace H : bnd (MX11_letGo h) (fun r h2 => k r h2) = some r := H
    obtain ⟨v2, h2, H1, H2⟩ := bnd_some H
    exact ⟨v2, h2, H2, met_mk (mok_base okX11_letGo).1 (by decide +kernel) (Nat.le_of_ble_eq_true rfl) ho (sMX11_letGo h8  h H1 ⟨rfl, rfl⟩), fun q => by cases q⟩
/-! X12_letGo -/
def sdX12_letGo : SD := [(0, [(0, .aload_n 0, 1, [], 0), (1, .getfield 161, 3, [12, 47, 0, 0, 1369, 0], 0), (4, .ifCond .ne 5, 3, [], 0)]),
  (7, [(7, .iconst 0, 1, [], 0), (8, .ireturn, 1, [1], 0)]),
  (9, [(9, .aload_n 0, 1, [], 0), (10, .invokevirtual 465, 3, [0, 0, 1, 143, 1719, 16], 0), (13, .aload_n 0, 1, [], 0), (14, .iconst 0, 1, [], 0), (15, .putfield 161, 3, [12, 47, 0, 0, 1, 1369], 0), (18, .iconst 1, 1, [], 0), (19, .ireturn, 1, [1], 0)])]
def MX12_letGo (n : Nat) (h : Hp) : Option (Int × Hp) :=
(if (h 113 47) ≠ 0 then
(bndh (MX12_remembers n h) fun h1 =>
(ltt (up h1 113 47 0) fun h2 =>
(some (1, h2))))
else
(some (0, h)))
def wX12_letGo {ρ : Type} (n : Nat) : FN ρ := fun a h k => match a with
  | [_] => bnd (MX12_letGo n h) (fun r h2 => k r h2)
  | _ => none
def fsX12_letGo (n : Nat) (ρ : Type) : List (FN ρ) := [wX12_remembers n]
def KMX12_letGo (_ : Nat) : CT (Int × Hp) := []
set_option maxRecDepth 100000 in
theorem eMX12_letGo (n : Nat) (h : Hp) : MX12_letGo n h =
  goAt false (kct (KMX12_letGo n)) (fun v h => some ((v, h))) (fsX12_letGo n _) sdX12_letGo 1000 0 [(0, 16, 113)] [] h := rfl
theorem okX12_letGo : mokb (mi 159) = true := by decide +kernel
theorem rkX12_letGo : rkOK 4 (mi 159).1.2.2.2.2.2.2.1 (mi 159).1.2.2.2.1 := Or.inr (Or.inr (Or.inl ⟨rfl, rfl, rfl⟩))
def calX12_letGo : List Nat := [143]
theorem foX12_letGo {l : Launch} {ρ : Type} (n : Nat) : fsOK l false mi calX12_letGo (fsX12_letGo n ρ) := ⟨(sndX12_remembers n), trivial⟩
theorem ok_sdX12_letGo : sdb (mi 159).1.2.1 (insOK mi (mi 159).1.1.cls (mi 159).1.2.2.1 (mi 159).1.2.2.2.2.1 (mi 159).1.2.2.2.2.2.1 calX12_letGo false 4) sdX12_letGo = true := by decide +kernel
theorem sMX12_letGo {l : Launch} {h0 h' : Hp} {v : Int} (h8 : nOf h0 = 148) (n : Nat)  (h : Hp) {r : Int × Hp} (H : MX12_letGo n h = some r) (hG : gWV v h' r) : PAt l false (mi 159).1 h0 v h' 0 [(0, 16, 113)] [] h :=
  pat_w ok_sdX12_letGo rkX12_letGo h8 (foX12_letGo n) (fun v1 h1 q => by
    cases q
    exact ⟨hG.1, fun _ => hG.2⟩) (fun q9 h9 => by cases h9) ((eMX12_letGo n h).symm.trans H)
theorem sndX12_letGo {ρ : Type} {l : Launch} (n : Nat) : SndF (ρ := ρ) l false (mi 159).1 (wX12_letGo n) := by
    intro a h k r H ha ho hn hf
    have h8 := hf rfl
    obtain ⟨x0, rfl⟩ := len1 (show a.length = 1 from ha)
    have u0 := uq16 hn (ho (16, x0) (List.mem_cons_self))
    subst u0
    replace H : bnd (MX12_letGo n h) (fun r h2 => k r h2) = some r := H
    obtain ⟨v2, h2, H1, H2⟩ := bnd_some H
    exact ⟨v2, h2, H2, met_mk (mok_base okX12_letGo).1 (by decide +kernel) (Nat.le_of_ble_eq_true rfl) ho (sMX12_letGo h8 n  h H1 ⟨rfl, rfl⟩), fun q => by cases q⟩
/-! X5_recall -/
def sdX5_recall : SD := [(0, [(0, .aload_n 0, 1, [], 0), (1, .getfield 16, 3, [5, 1, 0, 0, 525, 0], 0), (4, .ifCond .ne 8, 3, [], 0)]),
  (7, [(7, .bipush 19, 2, [], 0), (9, .goto 9, 3, [], 0)]),
  (12, [(12, .aload_n 0, 1, [], 0), (13, .getfield 16, 3, [5, 1, 0, 0, 525, 0], 0), (16, .iconst 1, 1, [], 0), (17, .isub, 1, [], 0)]),
  (18, [(18, .istore_n 2, 1, [], 0), (19, .aload_n 0, 1, [], 0), (20, .getfield 24, 3, [5, 2, 0, 0, 526, 0], 0), (23, .ifCond .eq 13, 3, [], 0)]),
  (26, [(26, .iload_n 2, 1, [], 0), (27, .ifCond .lt 9, 3, [], 0)]),
  (30, [(30, .iload_n 2, 1, [], 0), (31, .bipush 20, 2, [], 0), (33, .if_icmp .lt 4, 3, [], 0)]),
  (36, [(36, .return_, 1, [], 0)]),
  (37, [(37, .aload_n 1, 1, [], 0), (38, .aload_n 0, 1, [], 0), (39, .getfield 11, 3, [5, 0, 184, 1, 524, 0], 1), (42, .iload_n 2, 1, [], 0), (43, .aaload, 1, [], 0), (44, .invokevirtual 20, 3, [0, 0, 1, 124, 1019, 12, 12], 0), (47, .aload_n 0, 1, [], 0), (48, .iload_n 2, 1, [], 0), (49, .putfield 16, 3, [5, 1, 0, 0, 0, 525], 0), (52, .aload_n 0, 1, [], 0), (53, .dup, 1, [], 0), (54, .getfield 24, 3, [5, 2, 0, 0, 526, 0], 0), (57, .iconst 1, 1, [], 0), (58, .isub, 1, [], 0), (59, .putfield 24, 3, [5, 2, 0, 0, 0, 526], 0), (62, .return_, 1, [], 0)])]
def JX5_recall_18 (x1 z0 : Int) (h : Hp) : Option (Hp) :=
(ltt z0 fun y1 =>
(if (h 66 2) = 0 then
(some h)
else
(if y1 < 0 then
(some h)
else
(if y1 < 20 then
(grd (0 ≤ y1 ∧ y1 < alen 184)
(bndh (MX8_become x1 (68 + y1) h) fun h1 =>
(ltt (up h1 66 1 y1) fun h2 =>
(ltt (up h2 66 2 (w32 ((h2 66 2) - 1))) fun h3 =>
(some h3)))))
else
(some h)))))
def MX5_recall (x1 : Int) (h : Hp) : Option (Hp) :=
(if (h 66 1) ≠ 0 then
(JX5_recall_18 x1 (w32 ((h 66 1) - 1)) h)
else
(JX5_recall_18 x1 19 h))
def wX5_recall {ρ : Type} : FN ρ := fun a h k => match a with
  | [_, x1] => bndh (MX5_recall x1 h) (fun h2 => k 0 h2)
  | _ => none
def fsX5_recall (ρ : Type) : List (FN ρ) := [wX8_become]
def KJX5_recall_18  : CT (Hp) := []
set_option maxRecDepth 100000 in
theorem eJX5_recall_18 (x1 : Int) (z0 : Int) (h : Hp) : JX5_recall_18 x1 z0 h =
  goAt false (kct (KJX5_recall_18)) (fun _ h => some (h)) (fsX5_recall _) sdX5_recall 1000 18 [(0, 9, 66), (1, 12, x1)] [(0, z0)] h := rfl
def KMX5_recall  : CT (Hp) := [(18, [(0, 9, (some 66)), (1, 12, none)], [(0, none)], fun a c h => match a, c with
    | [x1], [z0] => JX5_recall_18 x1 z0 h
    | _, _ => none)]
set_option maxRecDepth 100000 in
theorem eMX5_recall (x1 : Int) (h : Hp) : MX5_recall x1 h =
  goAt false (kct (KMX5_recall)) (fun _ h => some (h)) (fsX5_recall _) sdX5_recall 1000 0 [(0, 9, 66), (1, 12, x1)] [] h := rfl
theorem okX5_recall : mokb (mi 160) = true := by decide +kernel
theorem rkX5_recall : rkOK 0 (mi 160).1.2.2.2.2.2.2.1 (mi 160).1.2.2.2.1 := Or.inl ⟨rfl, rfl, rfl⟩
def calX5_recall : List Nat := [124]
theorem foX5_recall {l : Launch} {ρ : Type} : fsOK l false mi calX5_recall (fsX5_recall ρ) := ⟨sndX8_become, trivial⟩
theorem ok_sdX5_recall : sdb (mi 160).1.2.1 (insOK mi (mi 160).1.1.cls (mi 160).1.2.2.1 (mi 160).1.2.2.2.2.1 (mi 160).1.2.2.2.2.2.1 calX5_recall false 0) sdX5_recall = true := by decide +kernel
theorem sJX5_recall_18 {l : Launch} {h0 h' : Hp} {v : Int} (h8 : nOf h0 = 148)  (x1 : Int) (z0 : Int) (h : Hp) {r : Hp} (H : JX5_recall_18 x1 z0 h = some r) (hG : gW h' r) : PAt l false (mi 160).1 h0 v h' 18 [(0, 9, 66), (1, 12, x1)] [(0, z0)] h :=
  pat_w ok_sdX5_recall rkX5_recall h8 (foX5_recall) (fun v1 h1 q => by
    cases q
    exact ⟨hG, fun q9 => absurd rfl q9⟩) (fun q9 h9 => by cases h9) ((eJX5_recall_18 x1 z0 h).symm.trans H)
theorem sMX5_recall {l : Launch} {h0 h' : Hp} {v : Int} (h8 : nOf h0 = 148)  (x1 : Int) (h : Hp) {r : Hp} (H : MX5_recall x1 h = some r) (hG : gW h' r) : PAt l false (mi 160).1 h0 v h' 0 [(0, 9, 66), (1, 12, x1)] [] h :=
  pat_w ok_sdX5_recall rkX5_recall h8 (foX5_recall) (fun v1 h1 q => by
    cases q
    exact ⟨hG, fun q9 => absurd rfl q9⟩) (List.forall_mem_cons.mpr ⟨(fun a c h H => by
      dsimp only at H
      split at H
      · exact sJX5_recall_18 h8 _ _ _ H hG
      · cases H), (fun q9 h9 => by cases h9)⟩) ((eMX5_recall x1 h).symm.trans H)
theorem sndX5_recall {ρ : Type} {l : Launch} : SndF (ρ := ρ) l false (mi 160).1 (wX5_recall) := by
    intro a h k r H ha ho hn hf
    have h8 := hf rfl
    obtain ⟨x0, x1, rfl⟩ := len2 (show a.length = 2 from ha)
    have u0 := uq9 hn (ho (9, x0) (List.mem_cons_self))
    subst u0
    replace H : bndh (MX5_recall x1 h) (fun h2 => k 0 h2) = some r := H
    obtain ⟨h2, H1, H2⟩ := bndh_some H
    exact ⟨0, h2, H2, met_mk (mok_base okX5_recall).1 (by decide +kernel) (Nat.le_of_ble_eq_true rfl) ho (sMX5_recall h8 x1 h H1 rfl), fun q => by cases q⟩
/-! X11_undo -/
def sdX11_undo : SD := [(0, [(0, .aload_n 0, 1, [], 0), (1, .getfield 67, 3, [11, 9, 9, 1, 699, 0], 66), (4, .getfield 210, 3, [5, 2, 0, 0, 527, 0], 0), (7, .ifCond .ne 6, 3, [], 0)]),
  (10, [(10, .bipush (-2), 2, [], 0), (12, .ireturn, 1, [], 0)]),
  (13, [(13, .aload_n 0, 1, [], 0), (14, .getfield 67, 3, [11, 9, 9, 1, 699, 0], 66), (17, .aload_n 0, 1, [], 0), (18, .getfield 57, 3, [11, 7, 12, 1, 697, 0], 64), (21, .invokevirtual 211, 3, [0, 0, 1, 160, 1082, 12, 9], 0), (24, .aload_n 0, 1, [], 0), (25, .getfield 47, 3, [11, 5, 5, 1, 695, 0], 50), (28, .aload_n 0, 1, [], 0), (29, .getfield 57, 3, [11, 7, 12, 1, 697, 0], 64), (32, .getfield 203, 3, [8, 4, 0, 0, 494, 0], 0), (35, .invokevirtual 125, 3, [1, 1, 1, 59, 601, 0, 5], 0), (38, .pop, 1, [], 0), (39, .aload_n 0, 1, [], 0), (40, .getfield 67, 3, [11, 9, 9, 1, 699, 0], 66), (43, .getfield 210, 3, [5, 2, 0, 0, 527, 0], 0), (46, .ireturn, 1, [], 0)])]
def MX11_undo (n : Nat) (h : Hp) : Option (Int × Hp) :=
(if (h 66 2) ≠ 0 then
(bndh (MX5_recall 64 h) fun h1 =>
(bnd (MX1_grant n 50 (h1 64 4) h1) fun r1 h2 =>
(some ((h2 66 2), h2))))
else
(some ((-2), h)))
def wX11_undo {ρ : Type} (n : Nat) : FN ρ := fun a h k => match a with
  | [_] => bnd (MX11_undo n h) (fun r h2 => k r h2)
  | _ => none
def fsX11_undo (n : Nat) (ρ : Type) : List (FN ρ) := [wX5_recall, wX1_grant n]
def KMX11_undo (_ : Nat) : CT (Int × Hp) := []
set_option maxRecDepth 100000 in
theorem eMX11_undo (n : Nat) (h : Hp) : MX11_undo n h =
  goAt false (kct (KMX11_undo n)) (fun v h => some ((v, h))) (fsX11_undo n _) sdX11_undo 1000 0 [(0, 15, 0)] [] h := rfl
theorem okX11_undo : mokb (mi 161) = true := by decide +kernel
theorem rkX11_undo : rkOK 1 (mi 161).1.2.2.2.2.2.2.1 (mi 161).1.2.2.2.1 := Or.inr (Or.inl ⟨rfl, rfl, rfl⟩)
def calX11_undo : List Nat := [160, 59]
theorem foX11_undo {l : Launch} {ρ : Type} (n : Nat) : fsOK l false mi calX11_undo (fsX11_undo n ρ) := ⟨sndX5_recall, ⟨(sndX1_grant n), trivial⟩⟩
theorem ok_sdX11_undo : sdb (mi 161).1.2.1 (insOK mi (mi 161).1.1.cls (mi 161).1.2.2.1 (mi 161).1.2.2.2.2.1 (mi 161).1.2.2.2.2.2.1 calX11_undo false 1) sdX11_undo = true := by decide +kernel
theorem sMX11_undo {l : Launch} {h0 h' : Hp} {v : Int} (h8 : nOf h0 = 148) (n : Nat)  (h : Hp) {r : Int × Hp} (H : MX11_undo n h = some r) (hG : gWV v h' r) : PAt l false (mi 161).1 h0 v h' 0 [(0, 15, 0)] [] h :=
  pat_w ok_sdX11_undo rkX11_undo h8 (foX11_undo n) (fun v1 h1 q => by
    cases q
    exact ⟨hG.1, fun _ => hG.2⟩) (fun q9 h9 => by cases h9) ((eMX11_undo n h).symm.trans H)
theorem sndX11_undo {ρ : Type} {l : Launch} (n : Nat) : SndF (ρ := ρ) l false (mi 161).1 (wX11_undo n) := by
    intro a h k r H ha ho hn hf
    have h8 := hf rfl
    obtain ⟨x0, rfl⟩ := len1 (show a.length = 1 from ha)
    have u0 := uq15 hn (ho (15, x0) (List.mem_cons_self))
    subst u0
    replace H : bnd (MX11_undo n h) (fun r h2 => k r h2) = some r := H
    obtain ⟨v2, h2, H1, H2⟩ := bnd_some H
    exact ⟨v2, h2, H2, met_mk (mok_base okX11_undo).1 (by decide +kernel) (Nat.le_of_ble_eq_true rfl) ho (sMX11_undo h8 n  h H1 ⟨rfl, rfl⟩), fun q => by cases q⟩
/-! X12_laysFrom -/
def sdX12_laysFrom : SD := [(0, [(0, .aload_n 0, 1, [], 0), (1, .aload_n 1, 1, [], 0), (2, .iload_n 2, 1, [], 0), (3, .iaload, 1, [], 0), (4, .putfield 165, 3, [12, 42, 0, 0, 0, 1364], 0), (7, .aload_n 0, 1, [], 0), (8, .aload_n 1, 1, [], 0), (9, .iload_n 2, 1, [], 0), (10, .iconst 1, 1, [], 0), (11, .iadd, 1, [], 0), (12, .iaload, 1, [], 0), (13, .putfield 168, 3, [12, 43, 0, 0, 0, 1365], 0), (16, .aload_n 0, 1, [], 0), (17, .aload_n 1, 1, [], 0), (18, .iload_n 2, 1, [], 0), (19, .iconst 2, 1, [], 0), (20, .iadd, 1, [], 0), (21, .iaload, 1, [], 0), (22, .putfield 171, 3, [12, 44, 0, 0, 0, 1366], 0), (25, .aload_n 0, 1, [], 0), (26, .aload_n 1, 1, [], 0), (27, .iload_n 2, 1, [], 0), (28, .iconst 3, 1, [], 0), (29, .iadd, 1, [], 0), (30, .iaload, 1, [], 0), (31, .putfield 158, 3, [12, 45, 0, 0, 0, 1367], 0), (34, .aload_n 0, 1, [], 0), (35, .aload_n 1, 1, [], 0), (36, .iload_n 2, 1, [], 0), (37, .iconst 4, 1, [], 0), (38, .iadd, 1, [], 0), (39, .iaload, 1, [], 0), (40, .iconst 1, 1, [], 0), (41, .if_icmp .ne 7, 3, [], 0)]),
  (44, [(44, .iconst 1, 1, [], 0), (45, .goto 4, 3, [], 0)]),
  (48, [(48, .iconst 0, 1, [], 0)]),
  (49, [(49, .putfield 161, 3, [12, 47, 0, 0, 1, 1369], 0), (52, .aload_n 0, 1, [], 0), (53, .aload_n 1, 1, [], 0), (54, .iload_n 2, 1, [], 0), (55, .iconst 5, 1, [], 0), (56, .iadd, 1, [], 0), (57, .iaload, 1, [], 0), (58, .putfield 174, 3, [12, 46, 0, 0, 0, 1368], 0), (61, .return_, 1, [], 0)])]
def JX12_laysFrom_49 (x2 z1 : Int) (h : Hp) : Option (Hp) :=
(grd (z1 = 0 ∨ z1 = 1)
(ltt (up h 113 47 z1) fun h1 =>
(grd (0 ≤ (w32 (x2 + 5)) ∧ (w32 (x2 + 5)) < alen 980)
(ltt (up h1 113 46 (h1 138 (w32 (x2 + 5)))) fun h2 =>
(some h2)))))
def MX12_laysFrom (x2 : Int) (h : Hp) : Option (Hp) :=
(grd (0 ≤ x2 ∧ x2 < alen 980)
(ltt (up h 113 42 (h 138 x2)) fun h1 =>
(grd (0 ≤ (w32 (x2 + 1)) ∧ (w32 (x2 + 1)) < alen 980)
(ltt (up h1 113 43 (h1 138 (w32 (x2 + 1)))) fun h2 =>
(grd (0 ≤ (w32 (x2 + 2)) ∧ (w32 (x2 + 2)) < alen 980)
(ltt (up h2 113 44 (h2 138 (w32 (x2 + 2)))) fun h3 =>
(grd (0 ≤ (w32 (x2 + 3)) ∧ (w32 (x2 + 3)) < alen 980)
(ltt (up h3 113 45 (h3 138 (w32 (x2 + 3)))) fun h4 =>
(grd (0 ≤ (w32 (x2 + 4)) ∧ (w32 (x2 + 4)) < alen 980)
(if (h4 138 (w32 (x2 + 4))) ≠ 1 then
(JX12_laysFrom_49 x2 0 h4)
else
(JX12_laysFrom_49 x2 1 h4)))))))))))
def wX12_laysFrom {ρ : Type} : FN ρ := fun a h k => match a with
  | [_, _, x2] => bndh (MX12_laysFrom x2 h) (fun h2 => k 0 h2)
  | _ => none
def fsX12_laysFrom (ρ : Type) : List (FN ρ) := []
def KJX12_laysFrom_49  : CT (Hp) := []
set_option maxRecDepth 100000 in
theorem eJX12_laysFrom_49 (x2 : Int) (z1 : Int) (h : Hp) : JX12_laysFrom_49 x2 z1 h =
  goAt false (kct (KJX12_laysFrom_49)) (fun _ h => some (h)) (fsX12_laysFrom _) sdX12_laysFrom 1000 49 [(0, 16, 113), (1, 980, 138), (2, 0, x2)] [(0, z1), (16, 113)] h := rfl
def KMX12_laysFrom  : CT (Hp) := [(49, [(0, 16, (some 113)), (1, 980, (some 138)), (2, 0, none)], [(0, none), (16, (some 113))], fun a c h => match a, c with
    | [x2], [z1] => JX12_laysFrom_49 x2 z1 h
    | _, _ => none)]
set_option maxRecDepth 100000 in
theorem eMX12_laysFrom (x2 : Int) (h : Hp) : MX12_laysFrom x2 h =
  goAt false (kct (KMX12_laysFrom)) (fun _ h => some (h)) (fsX12_laysFrom _) sdX12_laysFrom 1000 0 [(0, 16, 113), (1, 980, 138), (2, 0, x2)] [] h := rfl
theorem okX12_laysFrom : mokb (mi 162) = true := by decide +kernel
theorem rkX12_laysFrom : rkOK 0 (mi 162).1.2.2.2.2.2.2.1 (mi 162).1.2.2.2.1 := Or.inl ⟨rfl, rfl, rfl⟩
def calX12_laysFrom : List Nat := []
theorem foX12_laysFrom {l : Launch} {ρ : Type} : fsOK l false mi calX12_laysFrom (fsX12_laysFrom ρ) := trivial
theorem ok_sdX12_laysFrom : sdb (mi 162).1.2.1 (insOK mi (mi 162).1.1.cls (mi 162).1.2.2.1 (mi 162).1.2.2.2.2.1 (mi 162).1.2.2.2.2.2.1 calX12_laysFrom false 0) sdX12_laysFrom = true := by decide +kernel
theorem sJX12_laysFrom_49 {l : Launch} {h0 h' : Hp} {v : Int} (h8 : nOf h0 = 148)  (x2 : Int) (z1 : Int) (h : Hp) {r : Hp} (H : JX12_laysFrom_49 x2 z1 h = some r) (hG : gW h' r) : PAt l false (mi 162).1 h0 v h' 49 [(0, 16, 113), (1, 980, 138), (2, 0, x2)] [(0, z1), (16, 113)] h :=
  pat_w ok_sdX12_laysFrom rkX12_laysFrom h8 (foX12_laysFrom) (fun v1 h1 q => by
    cases q
    exact ⟨hG, fun q9 => absurd rfl q9⟩) (fun q9 h9 => by cases h9) ((eJX12_laysFrom_49 x2 z1 h).symm.trans H)
theorem sMX12_laysFrom {l : Launch} {h0 h' : Hp} {v : Int} (h8 : nOf h0 = 148)  (x2 : Int) (h : Hp) {r : Hp} (H : MX12_laysFrom x2 h = some r) (hG : gW h' r) : PAt l false (mi 162).1 h0 v h' 0 [(0, 16, 113), (1, 980, 138), (2, 0, x2)] [] h :=
  pat_w ok_sdX12_laysFrom rkX12_laysFrom h8 (foX12_laysFrom) (fun v1 h1 q => by
    cases q
    exact ⟨hG, fun q9 => absurd rfl q9⟩) (List.forall_mem_cons.mpr ⟨(fun a c h H => by
      dsimp only at H
      split at H
      · exact sJX12_laysFrom_49 h8 _ _ _ H hG
      · cases H), (fun q9 h9 => by cases h9)⟩) ((eMX12_laysFrom x2 h).symm.trans H)
theorem sndX12_laysFrom {ρ : Type} {l : Launch} : SndF (ρ := ρ) l false (mi 162).1 (wX12_laysFrom) := by
    intro a h k r H ha ho hn hf
    have h8 := hf rfl
    obtain ⟨x0, x1, x2, rfl⟩ := len3 (show a.length = 3 from ha)
    have u0 := uq16 hn (ho (16, x0) (List.mem_cons_self))
    subst u0
    have u1 := uq980 hn (ho (980, x1) (List.mem_cons_of_mem _ List.mem_cons_self))
    subst u1
    replace H : bndh (MX12_laysFrom x2 h) (fun h2 => k 0 h2) = some r := H
    obtain ⟨h2, H1, H2⟩ := bndh_some H
    exact ⟨0, h2, H2, met_mk (mok_base okX12_laysFrom).1 (by decide +kernel) (Nat.le_of_ble_eq_true rfl) ho (sMX12_laysFrom h8 x2 h H1 rfl), fun q => by cases q⟩
/-! X12_undo -/
def sdX12_undo : SD := [(0, [(0, .aload_n 0, 1, [], 0), (1, .getfield 177, 3, [12, 54, 0, 0, 1376, 0], 0), (4, .ifCond .ne 6, 3, [], 0)]),
  (7, [(7, .bipush (-2), 2, [], 0), (9, .ireturn, 1, [], 0)]),
  (10, [(10, .aload_n 0, 1, [], 0), (11, .dup, 1, [], 0), (12, .getfield 177, 3, [12, 54, 0, 0, 1376, 0], 0), (15, .iconst 1, 1, [], 0), (16, .isub, 1, [], 0), (17, .putfield 177, 3, [12, 54, 0, 0, 0, 1376], 0), (20, .aload_n 0, 1, [], 0), (21, .aload_n 0, 1, [], 0), (22, .getfield 86, 3, [12, 53, 980, 1, 1375, 0], 25), (25, .bipush 6, 2, [], 0), (27, .aload_n 0, 1, [], 0), (28, .getfield 177, 3, [12, 54, 0, 0, 1376, 0], 0), (31, .imul, 1, [], 0), (32, .invokevirtual 454, 3, [0, 0, 1, 162, 1664, 0, 980, 16], 0), (35, .aload_n 0, 1, [], 0), (36, .getfield 177, 3, [12, 54, 0, 0, 1376, 0], 0), (39, .ireturn, 1, [], 0)])]
def MX12_undo (h : Hp) : Option (Int × Hp) :=
(if (h 113 54) ≠ 0 then
(ltt (up h 113 54 (w32 ((h 113 54) - 1))) fun h1 =>
(bndh (MX12_laysFrom (w32 (6 * (h1 113 54))) h1) fun h2 =>
(some ((h2 113 54), h2))))
else
(some ((-2), h)))
def wX12_undo {ρ : Type} : FN ρ := fun a h k => match a with
  | [_] => bnd (MX12_undo h) (fun r h2 => k r h2)
  | _ => none
def fsX12_undo (ρ : Type) : List (FN ρ) := [wX12_laysFrom]
def KMX12_undo  : CT (Int × Hp) := []
set_option maxRecDepth 100000 in
theorem eMX12_undo (h : Hp) : MX12_undo h =
  goAt false (kct (KMX12_undo)) (fun v h => some ((v, h))) (fsX12_undo _) sdX12_undo 1000 0 [(0, 16, 113)] [] h := rfl
theorem okX12_undo : mokb (mi 163) = true := by decide +kernel
theorem rkX12_undo : rkOK 1 (mi 163).1.2.2.2.2.2.2.1 (mi 163).1.2.2.2.1 := Or.inr (Or.inl ⟨rfl, rfl, rfl⟩)
def calX12_undo : List Nat := [162]
theorem foX12_undo {l : Launch} {ρ : Type} : fsOK l false mi calX12_undo (fsX12_undo ρ) := ⟨sndX12_laysFrom, trivial⟩
theorem ok_sdX12_undo : sdb (mi 163).1.2.1 (insOK mi (mi 163).1.1.cls (mi 163).1.2.2.1 (mi 163).1.2.2.2.2.1 (mi 163).1.2.2.2.2.2.1 calX12_undo false 1) sdX12_undo = true := by decide +kernel
theorem sMX12_undo {l : Launch} {h0 h' : Hp} {v : Int} (h8 : nOf h0 = 148)   (h : Hp) {r : Int × Hp} (H : MX12_undo h = some r) (hG : gWV v h' r) : PAt l false (mi 163).1 h0 v h' 0 [(0, 16, 113)] [] h :=
  pat_w ok_sdX12_undo rkX12_undo h8 (foX12_undo) (fun v1 h1 q => by
    cases q
    exact ⟨hG.1, fun _ => hG.2⟩) (fun q9 h9 => by cases h9) ((eMX12_undo h).symm.trans H)
theorem sndX12_undo {ρ : Type} {l : Launch} : SndF (ρ := ρ) l false (mi 163).1 (wX12_undo) := by
    intro a h k r H ha ho hn hf
    have h8 := hf rfl
    obtain ⟨x0, rfl⟩ := len1 (show a.length = 1 from ha)
    have u0 := uq16 hn (ho (16, x0) (List.mem_cons_self))
    subst u0
    replace H : bnd (MX12_undo h) (fun r h2 => k r h2) = some r := H
    obtain ⟨v2, h2, H1, H2⟩ := bnd_some H
    exact ⟨v2, h2, H2, met_mk (mok_base okX12_undo).1 (by decide +kernel) (Nat.le_of_ble_eq_true rfl) ho (sMX12_undo h8  h H1 ⟨rfl, rfl⟩), fun q => by cases q⟩
/-! X4_isRounded -/
def sdX4_isRounded : SD := [(0, [(0, .aload_n 0, 1, [], 0), (1, .getfield 34, 3, [4, 0, 14, 0, 430, 0], 0), (4, .iload_n 1, 1, [], 0), (5, .invokevirtual 138, 3, [1, 0, 1, 119, 1102, 0, 14], 0), (8, .ifCond .eq 56, 3, [], 0)]),
  (11, [(11, .aload_n 0, 1, [], 0), (12, .getfield 25, 3, [4, 5, 532, 1, 441, 0], 2), (15, .iload_n 1, 1, [], 0), (16, .iaload, 1, [], 0), (17, .ifCond .le 47, 3, [], 0)]),
  (20, [(20, .iload_n 2, 1, [], 0), (21, .aload_n 0, 1, [], 0), (22, .getfield 34, 3, [4, 0, 14, 0, 430, 0], 0), (25, .getfield 125, 3, [10, 3, 532, 1, 178, 0], 7), (28, .iload_n 1, 1, [], 0), (29, .iaload, 1, [], 0), (30, .aload_n 0, 1, [], 0), (31, .getfield 25, 3, [4, 5, 532, 1, 441, 0], 2), (34, .iload_n 1, 1, [], 0), (35, .iaload, 1, [], 0), (36, .isub, 1, [], 0), (37, .if_icmp .lt 27, 3, [], 0)]),
  (40, [(40, .iload_n 2, 1, [], 0), (41, .aload_n 0, 1, [], 0), (42, .getfield 34, 3, [4, 0, 14, 0, 430, 0], 0), (45, .getfield 125, 3, [10, 3, 532, 1, 178, 0], 7), (48, .iload_n 1, 1, [], 0), (49, .iaload, 1, [], 0), (50, .aload_n 0, 1, [], 0), (51, .getfield 25, 3, [4, 5, 532, 1, 441, 0], 2), (54, .iload_n 1, 1, [], 0), (55, .iaload, 1, [], 0), (56, .iadd, 1, [], 0), (57, .if_icmp .gt 7, 3, [], 0)]),
  (60, [(60, .iconst 1, 1, [], 0), (61, .goto 4, 3, [], 0)]),
  (64, [(64, .iconst 0, 1, [], 0)]),
  (65, [(65, .ireturn, 1, [1], 0)])]
def MX4_isRounded (x0 x1 x2 : Int) (h : Hp) : Option (Int) :=
(bndp (MX10_hasCorner (h x0 0) x1 h) fun r1 =>
(if r1 = 0 then
(some 0)
else
(grd (0 ≤ x1 ∧ x1 < alen 532)
(if (h (x0 + 2) x1) ≤ 0 then
(some 0)
else
(grd (0 ≤ x1 ∧ x1 < alen 532)
(grd (0 ≤ x1 ∧ x1 < alen 532)
(if x2 < (w32 ((h ((h x0 0) + 7) x1) - (h (x0 + 2) x1))) then
(some 0)
else
(grd (0 ≤ x1 ∧ x1 < alen 532)
(grd (0 ≤ x1 ∧ x1 < alen 532)
(if (w32 ((h ((h x0 0) + 7) x1) + (h (x0 + 2) x1))) < x2 then
(some 0)
else
(some 1)))))))))))
def wX4_isRounded {ρ : Type} : FN ρ := fun a h k => match a with
  | [x0, x1, x2] => bndp (MX4_isRounded x0 x1 x2 h) (fun r => k r h)
  | _ => none
def fsX4_isRounded (ρ : Type) : List (FN ρ) := [wX10_hasCorner]
def KMX4_isRounded  : CT (Int) := []
set_option maxRecDepth 100000 in
theorem eMX4_isRounded (x0 : Int) (x1 : Int) (x2 : Int) (h : Hp) : MX4_isRounded x0 x1 x2 h =
  goAt false (kct (KMX4_isRounded)) (fun v _ => some (v)) (fsX4_isRounded _) sdX4_isRounded 1000 0 [(0, 8, x0), (1, 0, x1), (2, 0, x2)] [] h := rfl
theorem okX4_isRounded : mokb (mi 164) = true := by decide +kernel
theorem rkX4_isRounded : rkOK 4 (mi 164).1.2.2.2.2.2.2.1 (mi 164).1.2.2.2.1 := Or.inr (Or.inr (Or.inl ⟨rfl, rfl, rfl⟩))
def calX4_isRounded : List Nat := [119]
theorem foX4_isRounded {l : Launch} {ρ : Type} : fsOK l false mi calX4_isRounded (fsX4_isRounded ρ) := ⟨sndX10_hasCorner, trivial⟩
theorem frX4_isRounded {ρ : Type} : ∀ fn ∈ fsX4_isRounded ρ, RoF fn := (List.forall_mem_cons.mpr ⟨roX10_hasCorner, (fun q9 h9 => by cases h9)⟩)
theorem ok_sdX4_isRounded : sdb (mi 164).1.2.1 (insOK mi (mi 164).1.1.cls (mi 164).1.2.2.1 (mi 164).1.2.2.2.2.1 (mi 164).1.2.2.2.2.2.1 calX4_isRounded false 4) sdX4_isRounded = true := by decide +kernel
theorem sMX4_isRounded {l : Launch} {h0 : Hp} {v : Int} (h8 : nOf h0 = 148)  (x0 : Int) (x1 : Int) (x2 : Int) (h : Hp) {r : Int} (H : MX4_isRounded x0 x1 x2 h = some r) (hG : gV v r) : PAt l false (mi 164).1 h0 v h 0 [(0, 8, x0), (1, 0, x1), (2, 0, x2)] [] h :=
  pat_ro ok_sdX4_isRounded rfl rkX4_isRounded h8 (foX4_isRounded) (frX4_isRounded) (fun v1 q => by
    cases q
    exact ⟨rfl, fun _ => hG⟩) (fun q9 h9 => by cases h9) ((eMX4_isRounded x0 x1 x2 h).symm.trans H)
theorem sndX4_isRounded {ρ : Type} {l : Launch} : SndF (ρ := ρ) l false (mi 164).1 (wX4_isRounded) := by
    intro a h k r H ha ho hn hf
    have h8 := hf rfl
    obtain ⟨x0, x1, x2, rfl⟩ := len3 (show a.length = 3 from ha)
    replace H : bndp (MX4_isRounded x0 x1 x2 h) (fun r => k r h) = some r := H
    obtain ⟨v2, H1, H2⟩ := bndp_some H
    exact ⟨v2, h, H2, met_mk (mok_base okX4_isRounded).1 (by decide +kernel) (Nat.le_of_ble_eq_true rfl) ho (sMX4_isRounded h8 x0 x1 x2 h H1 rfl), fun q => by cases q⟩
theorem roX4_isRounded {ρ : Type} : RoF (wX4_isRounded : FN ρ) := fun a h k k2 hk => by
  unfold wX4_isRounded
  split
  · exact bndp_ro hk
  · rfl
/-! X4_part -/
def sdX4_part : SD := [(0, [(0, .aload_n 0, 1, [], 0), (1, .getfield 34, 3, [4, 0, 14, 0, 430, 0], 0), (4, .iload_n 1, 1, [], 0), (5, .iload_n 3, 1, [], 0), (6, .invokevirtual 135, 3, [1, 0, 1, 44, 1111, 0, 0, 14], 0), (9, .i2l, 1, [], 0), (10, .iload_n 2, 1, [], 0), (11, .i2l, 1, [], 0), (12, .lmul, 1, [], 0), (13, .aload_n 0, 1, [], 0), (14, .getfield 34, 3, [4, 0, 14, 0, 430, 0], 0), (17, .getfield 69, 3, [10, 2, 532, 1, 173, 0], 6), (20, .iload_n 1, 1, [], 0), (21, .iaload, 1, [], 0), (22, .i2l, 1, [], 0), (23, .invokestatic 46, 3, [1, 1, 4, 36, 575, 1, 1], 0), (26, .ireturn, 1, [], 0)])]
def MX4_part (x0 x1 x2 x3 : Int) (h : Hp) : Option (Int) :=
(bndp (MX10_step (h x0 0) x1 x3 h) fun r1 =>
(grd (0 ≤ x1 ∧ x1 < alen 532)
(bndp (MX11_share (w64 (r1 * x2)) (h ((h x0 0) + 6) x1)) fun r2 =>
(some r2))))
def wX4_part {ρ : Type} : FN ρ := fun a h k => match a with
  | [x0, x1, x2, x3] => bndp (MX4_part x0 x1 x2 x3 h) (fun r => k r h)
  | _ => none
def fsX4_part (ρ : Type) : List (FN ρ) := [wX10_step, wX11_share]
def KMX4_part  : CT (Int) := []
set_option maxRecDepth 100000 in
theorem eMX4_part (x0 : Int) (x1 : Int) (x2 : Int) (x3 : Int) (h : Hp) : MX4_part x0 x1 x2 x3 h =
  goAt false (kct (KMX4_part)) (fun v _ => some (v)) (fsX4_part _) sdX4_part 1000 0 [(0, 8, x0), (1, 0, x1), (2, 0, x2), (3, 0, x3)] [] h := rfl
theorem okX4_part : mokb (mi 165) = true := by decide +kernel
theorem rkX4_part : rkOK 1 (mi 165).1.2.2.2.2.2.2.1 (mi 165).1.2.2.2.1 := Or.inr (Or.inl ⟨rfl, rfl, rfl⟩)
def calX4_part : List Nat := [44, 36]
theorem foX4_part {l : Launch} {ρ : Type} : fsOK l false mi calX4_part (fsX4_part ρ) := ⟨sndX10_step, ⟨sndX11_share, trivial⟩⟩
theorem frX4_part {ρ : Type} : ∀ fn ∈ fsX4_part ρ, RoF fn := (List.forall_mem_cons.mpr ⟨roX10_step, (List.forall_mem_cons.mpr ⟨roX11_share, (fun q9 h9 => by cases h9)⟩)⟩)
theorem ok_sdX4_part : sdb (mi 165).1.2.1 (insOK mi (mi 165).1.1.cls (mi 165).1.2.2.1 (mi 165).1.2.2.2.2.1 (mi 165).1.2.2.2.2.2.1 calX4_part false 1) sdX4_part = true := by decide +kernel
theorem sMX4_part {l : Launch} {h0 : Hp} {v : Int} (h8 : nOf h0 = 148)  (x0 : Int) (x1 : Int) (x2 : Int) (x3 : Int) (h : Hp) {r : Int} (H : MX4_part x0 x1 x2 x3 h = some r) (hG : gV v r) : PAt l false (mi 165).1 h0 v h 0 [(0, 8, x0), (1, 0, x1), (2, 0, x2), (3, 0, x3)] [] h :=
  pat_ro ok_sdX4_part rfl rkX4_part h8 (foX4_part) (frX4_part) (fun v1 q => by
    cases q
    exact ⟨rfl, fun _ => hG⟩) (fun q9 h9 => by cases h9) ((eMX4_part x0 x1 x2 x3 h).symm.trans H)
theorem sndX4_part {ρ : Type} {l : Launch} : SndF (ρ := ρ) l false (mi 165).1 (wX4_part) := by
    intro a h k r H ha ho hn hf
    have h8 := hf rfl
    obtain ⟨x0, x1, x2, x3, rfl⟩ := len4 (show a.length = 4 from ha)
    replace H : bndp (MX4_part x0 x1 x2 x3 h) (fun r => k r h) = some r := H
    obtain ⟨v2, H1, H2⟩ := bndp_some H
    exact ⟨v2, h, H2, met_mk (mok_base okX4_part).1 (by decide +kernel) (Nat.le_of_ble_eq_true rfl) ho (sMX4_part h8 x0 x1 x2 x3 h H1 rfl), fun q => by cases q⟩
theorem roX4_part {ρ : Type} : RoF (wX4_part : FN ρ) := fun a h k k2 hk => by
  unfold wX4_part
  split
  · exact bndp_ro hk
  · rfl
/-! X4_roundedAt -/
def sdX4_roundedAt : SD := [(0, [(0, .aload_n 0, 1, [], 0), (1, .getfield 34, 3, [4, 0, 14, 0, 430, 0], 0), (4, .getfield 128, 3, [10, 1, 50, 1, 171, 0], 2), (7, .iload_n 3, 1, [], 0), (8, .aaload, 1, [], 0), (9, .iload_n 1, 1, [], 0), (10, .iconst 1, 1, [], 0), (11, .iadd, 1, [], 0), (12, .iaload, 1, [], 0), (13, .i2l, 1, [], 0), (14, .lstore 4, 2, [], 0), (16, .lload 4, 2, [], 0), (18, .aload_n 0, 1, [], 0), (19, .iload_n 1, 1, [], 0), (20, .aload_n 0, 1, [], 0), (21, .getfield 25, 3, [4, 5, 532, 1, 441, 0], 2), (24, .iload_n 1, 1, [], 0), (25, .iaload, 1, [], 0), (26, .iload_n 3, 1, [], 0), (27, .invokevirtual 132, 3, [1, 0, 1, 165, 1107, 0, 0, 0, 8], 0), (30, .i2l, 1, [], 0), (31, .lsub, 1, [], 0), (32, .lstore 6, 2, [], 0), (34, .lload 4, 2, [], 0), (36, .aload_n 0, 1, [], 0), (37, .iload_n 1, 1, [], 0), (38, .iconst 1, 1, [], 0), (39, .iadd, 1, [], 0), (40, .aload_n 0, 1, [], 0), (41, .getfield 25, 3, [4, 5, 532, 1, 441, 0], 2), (44, .iload_n 1, 1, [], 0), (45, .iaload, 1, [], 0), (46, .iload_n 3, 1, [], 0), (47, .invokevirtual 132, 3, [1, 0, 1, 165, 1107, 0, 0, 0, 8], 0), (50, .i2l, 1, [], 0), (51, .ladd, 1, [], 0), (52, .lstore 8, 2, [], 0), (54, .ldc2_w 76, 3, [1, 594], 2), (57, .aload_n 0, 1, [], 0), (58, .getfield 25, 3, [4, 5, 532, 1, 441, 0], 2), (61, .iload_n 1, 1, [], 0), (62, .iaload, 1, [], 0), (63, .i2l, 1, [], 0), (64, .lmul, 1, [], 0), (65, .lstore 10, 2, [], 0), (67, .iload_n 2, 1, [], 0), (68, .aload_n 0, 1, [], 0), (69, .getfield 34, 3, [4, 0, 14, 0, 430, 0], 0), (72, .getfield 125, 3, [10, 3, 532, 1, 178, 0], 7), (75, .iload_n 1, 1, [], 0), (76, .iaload, 1, [], 0), (77, .aload_n 0, 1, [], 0), (78, .getfield 25, 3, [4, 5, 532, 1, 441, 0], 2), (81, .iload_n 1, 1, [], 0), (82, .iaload, 1, [], 0), (83, .isub, 1, [], 0), (84, .isub, 1, [], 0), (85, .i2l, 1, [], 0), (86, .lstore 12, 2, [], 0), (88, .lload 10, 2, [], 0), (90, .lload 12, 2, [], 0), (92, .lsub, 1, [], 0), (93, .lstore 14, 2, [], 0), (95, .lload 6, 2, [], 0), (97, .lload 14, 2, [], 0), (99, .lmul, 1, [], 0), (100, .lload 14, 2, [], 0), (102, .lmul, 1, [], 0), (103, .lload 4, 2, [], 0), (105, .ldc2_w 76, 3, [1, 594], 2), (108, .lmul, 1, [], 0), (109, .lload 12, 2, [], 0), (111, .lmul, 1, [], 0), (112, .lload 14, 2, [], 0), (114, .lmul, 1, [], 0), (115, .ladd, 1, [], 0), (116, .lload 8, 2, [], 0), (118, .lload 12, 2, [], 0), (120, .lmul, 1, [], 0), (121, .lload 12, 2, [], 0), (123, .lmul, 1, [], 0), (124, .ladd, 1, [], 0), (125, .lload 10, 2, [], 0), (127, .lload 10, 2, [], 0), (129, .lmul, 1, [], 0), (130, .invokestatic 46, 3, [1, 1, 4, 36, 575, 1, 1], 0), (133, .ireturn, 1, [], 0)])]
def MX4_roundedAt (x0 x1 x2 x3 : Int) (h : Hp) : Option (Int) :=
(grd (0 ≤ x3 ∧ x3 < alen 50)
(grd (0 ≤ (w32 (x1 + 1)) ∧ (w32 (x1 + 1)) < alen 540)
(ltt (h (((h x0 0) + 2) + 1 + x3) (w32 (x1 + 1))) fun y1 =>
(grd (0 ≤ x1 ∧ x1 < alen 532)
(bndp (MX4_part x0 x1 (h (x0 + 2) x1) x3 h) fun r1 =>
(ltt (w64 (y1 - r1)) fun y2 =>
(grd (0 ≤ x1 ∧ x1 < alen 532)
(bndp (MX4_part x0 (w32 (x1 + 1)) (h (x0 + 2) x1) x3 h) fun r2 =>
(ltt (w64 (y1 + r2)) fun y3 =>
(grd (0 ≤ x1 ∧ x1 < alen 532)
(ltt (w64 (2 * (h (x0 + 2) x1))) fun y4 =>
(grd (0 ≤ x1 ∧ x1 < alen 532)
(grd (0 ≤ x1 ∧ x1 < alen 532)
(ltt (w32 (x2 - (w32 ((h ((h x0 0) + 7) x1) - (h (x0 + 2) x1))))) fun y5 =>
(ltt (w64 (y4 - y5)) fun y6 =>
(bndp (MX11_share (w64 ((w64 ((w64 ((w64 (y2 * y6)) * y6)) + (w64 ((w64 ((w64 (y1 * 2)) * y5)) * y6)))) + (w64 ((w64 (y3 * y5)) * y5)))) (w64 (y4 * y4))) fun r3 =>
(some r3)))))))))))))))))
def wX4_roundedAt {ρ : Type} : FN ρ := fun a h k => match a with
  | [x0, x1, x2, x3] => bndp (MX4_roundedAt x0 x1 x2 x3 h) (fun r => k r h)
  | _ => none
def fsX4_roundedAt (ρ : Type) : List (FN ρ) := [wX4_part, wX11_share]
def KMX4_roundedAt  : CT (Int) := []
set_option maxRecDepth 100000 in
theorem eMX4_roundedAt (x0 : Int) (x1 : Int) (x2 : Int) (x3 : Int) (h : Hp) : MX4_roundedAt x0 x1 x2 x3 h =
  goAt false (kct (KMX4_roundedAt)) (fun v _ => some (v)) (fsX4_roundedAt _) sdX4_roundedAt 1000 0 [(0, 8, x0), (1, 0, x1), (2, 0, x2), (3, 0, x3)] [] h := rfl
theorem okX4_roundedAt : mokb (mi 166) = true := by decide +kernel
theorem rkX4_roundedAt : rkOK 1 (mi 166).1.2.2.2.2.2.2.1 (mi 166).1.2.2.2.1 := Or.inr (Or.inl ⟨rfl, rfl, rfl⟩)
def calX4_roundedAt : List Nat := [165, 36]
theorem foX4_roundedAt {l : Launch} {ρ : Type} : fsOK l false mi calX4_roundedAt (fsX4_roundedAt ρ) := ⟨sndX4_part, ⟨sndX11_share, trivial⟩⟩
theorem frX4_roundedAt {ρ : Type} : ∀ fn ∈ fsX4_roundedAt ρ, RoF fn := (List.forall_mem_cons.mpr ⟨roX4_part, (List.forall_mem_cons.mpr ⟨roX11_share, (fun q9 h9 => by cases h9)⟩)⟩)
theorem ok_sdX4_roundedAt : sdb (mi 166).1.2.1 (insOK mi (mi 166).1.1.cls (mi 166).1.2.2.1 (mi 166).1.2.2.2.2.1 (mi 166).1.2.2.2.2.2.1 calX4_roundedAt false 1) sdX4_roundedAt = true := by decide +kernel
theorem sMX4_roundedAt {l : Launch} {h0 : Hp} {v : Int} (h8 : nOf h0 = 148)  (x0 : Int) (x1 : Int) (x2 : Int) (x3 : Int) (h : Hp) {r : Int} (H : MX4_roundedAt x0 x1 x2 x3 h = some r) (hG : gV v r) : PAt l false (mi 166).1 h0 v h 0 [(0, 8, x0), (1, 0, x1), (2, 0, x2), (3, 0, x3)] [] h :=
  pat_ro ok_sdX4_roundedAt rfl rkX4_roundedAt h8 (foX4_roundedAt) (frX4_roundedAt) (fun v1 q => by
    cases q
    exact ⟨rfl, fun _ => hG⟩) (fun q9 h9 => by cases h9) ((eMX4_roundedAt x0 x1 x2 x3 h).symm.trans H)
theorem sndX4_roundedAt {ρ : Type} {l : Launch} : SndF (ρ := ρ) l false (mi 166).1 (wX4_roundedAt) := by
    intro a h k r H ha ho hn hf
    have h8 := hf rfl
    obtain ⟨x0, x1, x2, x3, rfl⟩ := len4 (show a.length = 4 from ha)
    replace H : bndp (MX4_roundedAt x0 x1 x2 x3 h) (fun r => k r h) = some r := H
    obtain ⟨v2, H1, H2⟩ := bndp_some H
    exact ⟨v2, h, H2, met_mk (mok_base okX4_roundedAt).1 (by decide +kernel) (Nat.le_of_ble_eq_true rfl) ho (sMX4_roundedAt h8 x0 x1 x2 x3 h H1 rfl), fun q => by cases q⟩
theorem roX4_roundedAt {ρ : Type} : RoF (wX4_roundedAt : FN ρ) := fun a h k k2 hk => by
  unfold wX4_roundedAt
  split
  · exact bndp_ro hk
  · rfl
/-! X4_placeAt -/
def sdX4_placeAt : SD := [(0, [(0, .aload_n 0, 1, [], 0), (1, .getfield 34, 3, [4, 0, 14, 0, 430, 0], 0), (4, .iload_n 1, 1, [], 0), (5, .invokevirtual 113, 3, [1, 0, 1, 72, 1096, 0, 14], 0), (8, .istore_n 3, 1, [], 0), (9, .aload_n 0, 1, [], 0), (10, .getfield 34, 3, [4, 0, 14, 0, 430, 0], 0), (13, .iload_n 3, 1, [], 0), (14, .invokevirtual 105, 3, [1, 1, 1, 43, 994, 0, 14], 0), (17, .ifCond .eq 10, 3, [], 0)]),
  (20, [(20, .iload_n 2, 1, [], 0), (21, .invokestatic 116, 3, [1, 2, 4, 30, 1097, 0], 0), (24, .ifCond .ne 5, 3, [], 0)]),
  (27, [(27, .iconst 0, 1, [], 0), (28, .ireturn, 1, [], 0)]),
  (29, [(29, .aload_n 0, 1, [], 0), (30, .iload_n 3, 1, [], 0), (31, .iconst 1, 1, [], 0), (32, .isub, 1, [], 0), (33, .iload_n 1, 1, [], 0), (34, .invokevirtual 119, 3, [1, 3, 1, 164, 1098, 0, 0, 8], 0), (37, .ifCond .eq 13, 3, [], 0)]),
  (40, [(40, .aload_n 0, 1, [], 0), (41, .iload_n 3, 1, [], 0), (42, .iconst 1, 1, [], 0), (43, .isub, 1, [], 0), (44, .iload_n 1, 1, [], 0), (45, .iload_n 2, 1, [], 0), (46, .invokevirtual 122, 3, [1, 4, 1, 166, 1103, 0, 0, 0, 8], 0), (49, .ireturn, 1, [], 0)]),
  (50, [(50, .aload_n 0, 1, [], 0), (51, .iload_n 3, 1, [], 0), (52, .iload_n 1, 1, [], 0), (53, .invokevirtual 119, 3, [1, 3, 1, 164, 1098, 0, 0, 8], 0), (56, .ifCond .eq 11, 3, [], 0)]),
  (59, [(59, .aload_n 0, 1, [], 0), (60, .iload_n 3, 1, [], 0), (61, .iload_n 1, 1, [], 0), (62, .iload_n 2, 1, [], 0), (63, .invokevirtual 122, 3, [1, 4, 1, 166, 1103, 0, 0, 0, 8], 0), (66, .ireturn, 1, [], 0)]),
  (67, [(67, .aload_n 0, 1, [], 0), (68, .getfield 34, 3, [4, 0, 14, 0, 430, 0], 0), (71, .getfield 125, 3, [10, 3, 532, 1, 178, 0], 7), (74, .iload_n 3, 1, [], 0), (75, .iaload, 1, [], 0), (76, .aload_n 0, 1, [], 0), (77, .getfield 34, 3, [4, 0, 14, 0, 430, 0], 0), (80, .getfield 69, 3, [10, 2, 532, 1, 173, 0], 6), (83, .iload_n 3, 1, [], 0), (84, .iaload, 1, [], 0), (85, .isub, 1, [], 0), (86, .istore 4, 2, [], 0), (88, .aload_n 0, 1, [], 0), (89, .getfield 34, 3, [4, 0, 14, 0, 430, 0], 0), (92, .getfield 128, 3, [10, 1, 50, 1, 171, 0], 2), (95, .iload_n 2, 1, [], 0), (96, .aaload, 1, [], 0), (97, .iload_n 3, 1, [], 0), (98, .iaload, 1, [], 0), (99, .aload_n 0, 1, [], 0), (100, .iload_n 3, 1, [], 0), (101, .iload_n 1, 1, [], 0), (102, .iload 4, 2, [], 0), (104, .isub, 1, [], 0), (105, .iload_n 2, 1, [], 0), (106, .invokevirtual 132, 3, [1, 5, 1, 165, 1107, 0, 0, 0, 8], 0), (109, .iadd, 1, [], 0), (110, .ireturn, 1, [], 0)])]
def MX4_placeAt (n : Nat) (x0 x1 x2 : Int) (h : Hp) : Option (Int) :=
(bndp (MX10_blockOf n (h x0 0) x1 h) fun r1 =>
(ltt r1 fun y1 =>
(bndp (MX10_has (h x0 0) y1 h) fun r2 =>
(if r2 = 0 then
(some 0)
else
(bndp (MX11_isAxis x2) fun r3 =>
(if r3 ≠ 0 then
(bndp (MX4_isRounded x0 (w32 (y1 - 1)) x1 h) fun r4 =>
(if r4 = 0 then
(bndp (MX4_isRounded x0 y1 x1 h) fun r5 =>
(if r5 = 0 then
(grd (0 ≤ y1 ∧ y1 < alen 532)
(grd (0 ≤ y1 ∧ y1 < alen 532)
(ltt (w32 ((h ((h x0 0) + 7) y1) - (h ((h x0 0) + 6) y1))) fun y2 =>
(grd (0 ≤ x2 ∧ x2 < alen 50)
(grd (0 ≤ y1 ∧ y1 < alen 540)
(bndp (MX4_part x0 y1 (w32 (x1 - y2)) x2 h) fun r6 =>
(some (w32 ((h (((h x0 0) + 2) + 1 + x2) y1) + r6)))))))))
else
(bndp (MX4_roundedAt x0 y1 x1 x2 h) fun r7 =>
(some r7))))
else
(bndp (MX4_roundedAt x0 (w32 (y1 - 1)) x1 x2 h) fun r8 =>
(some r8))))
else
(some 0)))))))
def wX4_placeAt {ρ : Type} (n : Nat) : FN ρ := fun a h k => match a with
  | [x0, x1, x2] => bndp (MX4_placeAt n x0 x1 x2 h) (fun r => k r h)
  | _ => none
def fsX4_placeAt (n : Nat) (ρ : Type) : List (FN ρ) := [wX10_blockOf n, wX10_has, wX11_isAxis, wX4_isRounded, wX4_roundedAt, wX4_part]
def KMX4_placeAt (_ : Nat) : CT (Int) := []
set_option maxRecDepth 100000 in
theorem eMX4_placeAt (n : Nat) (x0 : Int) (x1 : Int) (x2 : Int) (h : Hp) : MX4_placeAt n x0 x1 x2 h =
  goAt false (kct (KMX4_placeAt n)) (fun v _ => some (v)) (fsX4_placeAt n _) sdX4_placeAt 1000 0 [(0, 8, x0), (1, 0, x1), (2, 0, x2)] [] h := rfl
theorem okX4_placeAt : mokb (mi 167) = true := by decide +kernel
theorem rkX4_placeAt : rkOK 1 (mi 167).1.2.2.2.2.2.2.1 (mi 167).1.2.2.2.1 := Or.inr (Or.inl ⟨rfl, rfl, rfl⟩)
def calX4_placeAt : List Nat := [72, 43, 30, 164, 166, 165]
theorem foX4_placeAt {l : Launch} {ρ : Type} (n : Nat) : fsOK l false mi calX4_placeAt (fsX4_placeAt n ρ) := ⟨(sndX10_blockOf n), ⟨sndX10_has, ⟨sndX11_isAxis, ⟨sndX4_isRounded, ⟨sndX4_roundedAt, ⟨sndX4_part, trivial⟩⟩⟩⟩⟩⟩
theorem frX4_placeAt {ρ : Type} (n : Nat) : ∀ fn ∈ fsX4_placeAt n ρ, RoF fn := (List.forall_mem_cons.mpr ⟨(roX10_blockOf n), (List.forall_mem_cons.mpr ⟨roX10_has, (List.forall_mem_cons.mpr ⟨roX11_isAxis, (List.forall_mem_cons.mpr ⟨roX4_isRounded, (List.forall_mem_cons.mpr ⟨roX4_roundedAt, (List.forall_mem_cons.mpr ⟨roX4_part, (fun q9 h9 => by cases h9)⟩)⟩)⟩)⟩)⟩)⟩)
theorem ok_sdX4_placeAt : sdb (mi 167).1.2.1 (insOK mi (mi 167).1.1.cls (mi 167).1.2.2.1 (mi 167).1.2.2.2.2.1 (mi 167).1.2.2.2.2.2.1 calX4_placeAt false 1) sdX4_placeAt = true := by decide +kernel
theorem sMX4_placeAt {l : Launch} {h0 : Hp} {v : Int} (h8 : nOf h0 = 148) (n : Nat) (x0 : Int) (x1 : Int) (x2 : Int) (h : Hp) {r : Int} (H : MX4_placeAt n x0 x1 x2 h = some r) (hG : gV v r) : PAt l false (mi 167).1 h0 v h 0 [(0, 8, x0), (1, 0, x1), (2, 0, x2)] [] h :=
  pat_ro ok_sdX4_placeAt rfl rkX4_placeAt h8 (foX4_placeAt n) (frX4_placeAt n) (fun v1 q => by
    cases q
    exact ⟨rfl, fun _ => hG⟩) (fun q9 h9 => by cases h9) ((eMX4_placeAt n x0 x1 x2 h).symm.trans H)
theorem sndX4_placeAt {ρ : Type} {l : Launch} (n : Nat) : SndF (ρ := ρ) l false (mi 167).1 (wX4_placeAt n) := by
    intro a h k r H ha ho hn hf
    have h8 := hf rfl
    obtain ⟨x0, x1, x2, rfl⟩ := len3 (show a.length = 3 from ha)
    replace H : bndp (MX4_placeAt n x0 x1 x2 h) (fun r => k r h) = some r := H
    obtain ⟨v2, H1, H2⟩ := bndp_some H
    exact ⟨v2, h, H2, met_mk (mok_base okX4_placeAt).1 (by decide +kernel) (Nat.le_of_ble_eq_true rfl) ho (sMX4_placeAt h8 n x0 x1 x2 h H1 rfl), fun q => by cases q⟩
theorem roX4_placeAt {ρ : Type} (n : Nat) : RoF (wX4_placeAt n : FN ρ) := fun a h k k2 hk => by
  unfold wX4_placeAt
  split
  · exact bndp_ro hk
  · rfl
/-! X11_where -/
def sdX11_where : SD := [(0, [(0, .iload_n 1, 1, [], 0), (1, .invokestatic 214, 3, [1, 0, 3, 30, 1090, 0], 0), (4, .ifCond .ne 6, 3, [], 0)]),
  (7, [(7, .ldc 217, 2, [0, 1091], (-2147483648)), (9, .ireturn, 1, [], 0)]),
  (10, [(10, .aload_n 0, 1, [], 0), (11, .getfield 47, 3, [11, 5, 5, 1, 695, 0], 50), (14, .getfield 157, 3, [1, 0, 8, 1, 465, 0], 2), (17, .aload_n 0, 1, [], 0), (18, .getfield 57, 3, [11, 7, 12, 1, 697, 0], 64), (21, .getfield 200, 3, [8, 0, 0, 0, 483, 0], 0), (24, .iload_n 1, 1, [], 0), (25, .invokevirtual 218, 3, [1, 1, 1, 167, 1092, 0, 0, 8], 0), (28, .ireturn, 1, [], 0)])]
def MX11_where (n : Nat) (x1 : Int) (h : Hp) : Option (Int) :=
(bndp (MX11_isAxis x1) fun r1 =>
(if r1 ≠ 0 then
(bndp (MX4_placeAt n 52 (h 64 0) x1 h) fun r2 =>
(some r2))
else
(some (-2147483648))))
def wX11_where {ρ : Type} (n : Nat) : FN ρ := fun a h k => match a with
  | [_, x1] => bndp (MX11_where n x1 h) (fun r => k r h)
  | _ => none
def fsX11_where (n : Nat) (ρ : Type) : List (FN ρ) := [wX11_isAxis, wX4_placeAt n]
def KMX11_where (_ : Nat) : CT (Int) := []
set_option maxRecDepth 100000 in
theorem eMX11_where (n : Nat) (x1 : Int) (h : Hp) : MX11_where n x1 h =
  goAt false (kct (KMX11_where n)) (fun v _ => some (v)) (fsX11_where n _) sdX11_where 1000 0 [(0, 15, 0), (1, 0, x1)] [] h := rfl
theorem okX11_where : mokb (mi 168) = true := by decide +kernel
theorem rkX11_where : rkOK 1 (mi 168).1.2.2.2.2.2.2.1 (mi 168).1.2.2.2.1 := Or.inr (Or.inl ⟨rfl, rfl, rfl⟩)
def calX11_where : List Nat := [30, 167]
theorem foX11_where {l : Launch} {ρ : Type} (n : Nat) : fsOK l false mi calX11_where (fsX11_where n ρ) := ⟨sndX11_isAxis, ⟨(sndX4_placeAt n), trivial⟩⟩
theorem frX11_where {ρ : Type} (n : Nat) : ∀ fn ∈ fsX11_where n ρ, RoF fn := (List.forall_mem_cons.mpr ⟨roX11_isAxis, (List.forall_mem_cons.mpr ⟨(roX4_placeAt n), (fun q9 h9 => by cases h9)⟩)⟩)
theorem ok_sdX11_where : sdb (mi 168).1.2.1 (insOK mi (mi 168).1.1.cls (mi 168).1.2.2.1 (mi 168).1.2.2.2.2.1 (mi 168).1.2.2.2.2.2.1 calX11_where false 1) sdX11_where = true := by decide +kernel
theorem sMX11_where {l : Launch} {h0 : Hp} {v : Int} (h8 : nOf h0 = 148) (n : Nat) (x1 : Int) (h : Hp) {r : Int} (H : MX11_where n x1 h = some r) (hG : gV v r) : PAt l false (mi 168).1 h0 v h 0 [(0, 15, 0), (1, 0, x1)] [] h :=
  pat_ro ok_sdX11_where rfl rkX11_where h8 (foX11_where n) (frX11_where n) (fun v1 q => by
    cases q
    exact ⟨rfl, fun _ => hG⟩) (fun q9 h9 => by cases h9) ((eMX11_where n x1 h).symm.trans H)
theorem sndX11_where {ρ : Type} {l : Launch} (n : Nat) : SndF (ρ := ρ) l false (mi 168).1 (wX11_where n) := by
    intro a h k r H ha ho hn hf
    have h8 := hf rfl
    obtain ⟨x0, x1, rfl⟩ := len2 (show a.length = 2 from ha)
    have u0 := uq15 hn (ho (15, x0) (List.mem_cons_self))
    subst u0
    replace H : bndp (MX11_where n x1 h) (fun r => k r h) = some r := H
    obtain ⟨v2, H1, H2⟩ := bndp_some H
    exact ⟨v2, h, H2, met_mk (mok_base okX11_where).1 (by decide +kernel) (Nat.le_of_ble_eq_true rfl) ho (sMX11_where h8 n x1 h H1 rfl), fun q => by cases q⟩
theorem roX11_where {ρ : Type} (n : Nat) : RoF (wX11_where n : FN ρ) := fun a h k k2 hk => by
  unfold wX11_where
  split
  · exact bndp_ro hk
  · rfl
/-! X12_cornerAt -/
def sdX12_cornerAt : SD := [(0, [(0, .iconst 0, 1, [], 0), (1, .istore_n 2, 1, [], 0)]),
  (2, [(2, .iload_n 2, 1, [], 0), (3, .iconst 1, 1, [], 0), (4, .iadd, 1, [], 0), (5, .aload_n 0, 1, [], 0), (6, .getfield 140, 3, [12, 6, 0, 0, 1328, 0], 0), (9, .if_icmp .ge 42, 3, [], 0)]),
  (12, [(12, .aload_n 0, 1, [], 0), (13, .getfield 80, 3, [12, 38, 532, 1, 1360, 0], 23), (16, .iload_n 2, 1, [], 0), (17, .iaload, 1, [], 0), (18, .ifCond .le 27, 3, [], 0)]),
  (21, [(21, .iload_n 1, 1, [], 0), (22, .aload_n 0, 1, [], 0), (23, .getfield 49, 3, [12, 18, 540, 1, 1340, 0], 13), (26, .iload_n 2, 1, [], 0), (27, .iconst 1, 1, [], 0), (28, .iadd, 1, [], 0), (29, .iaload, 1, [], 0), (30, .isub, 1, [], 0), (31, .invokestatic 286, 3, [1, 0, 3, 263, 1625, 0], 0), (34, .aload_n 0, 1, [], 0), (35, .getfield 80, 3, [12, 38, 532, 1, 1360, 0], 23), (38, .iload_n 2, 1, [], 0), (39, .iaload, 1, [], 0), (40, .if_icmp .gt 5, 3, [], 0)]),
  (43, [(43, .iload_n 2, 1, [], 0), (44, .ireturn, 1, [], 0)]),
  (45, [(45, .iinc 2 1, 3, [], 0), (48, .goto (-46), 3, [], 0)]),
  (51, [(51, .iconst (-1), 1, [], 0), (52, .ireturn, 1, [], 0)])]
def BX12_cornerAt_2 (n : Nat) : Nat → Int → Int → Hp → Option (Int)
  | 0, _, _, _ => none
  | f + 1, x1, x2, h =>
    (if (h 113 6) ≤ (w32 (x2 + 1)) then
    (some (-1))
    else
    (grd (0 ≤ x2 ∧ x2 < alen 532)
    (if (h 136 x2) ≤ 0 then
    (ltt (w32 (x2 + 1)) fun y1 =>
    (BX12_cornerAt_2 n f x1 y1 h))
    else
    (grd (0 ≤ (w32 (x2 + 1)) ∧ (w32 (x2 + 1)) < alen 540)
    (grd (0 ≤ x2 ∧ x2 < alen 532)
    (if (h 136 x2) < (jabs (w32 (x1 - (h 126 (w32 (x2 + 1)))))) then
    (ltt (w32 (x2 + 1)) fun y2 =>
    (BX12_cornerAt_2 n f x1 y2 h))
    else
    (some x2)))))))
def LX12_cornerAt_2 (n : Nat) (x1 x2 : Int) (h : Hp) : Option (Int) :=
(BX12_cornerAt_2 n n x1 x2 h)
def MX12_cornerAt (n : Nat) (x1 : Int) (h : Hp) : Option (Int) :=
(ltt 0 fun y1 =>
(LX12_cornerAt_2 n x1 y1 h))
def wX12_cornerAt {ρ : Type} (n : Nat) : FN ρ := fun a h k => match a with
  | [_, x1] => bndp (MX12_cornerAt n x1 h) (fun r => k r h)
  | _ => none
def fsX12_cornerAt (n : Nat) (ρ : Type) : List (FN ρ) := [fabs]
def KBX12_cornerAt_2 (_ : Nat) (bk : Int → Int → Hp → Option (Int)) : CT (Int) := [(2, [(0, 16, (some 113)), (1, 0, none), (2, 0, none)], [], fun a c h => match a, c with
    | [x1, x2], [] => bk x1 x2 h
    | _, _ => none)]
set_option maxRecDepth 100000 in
theorem eBX12_cornerAt_2 (n f : Nat) (x1 : Int) (x2 : Int) (h : Hp) : BX12_cornerAt_2 n (f + 1) x1 x2 h =
  goAt false (kct (KBX12_cornerAt_2 n (BX12_cornerAt_2 n f))) (fun v _ => some (v)) (fsX12_cornerAt n _) sdX12_cornerAt 1000 2 [(0, 16, 113), (1, 0, x1), (2, 0, x2)] [] h := rfl
def KMX12_cornerAt (n : Nat) : CT (Int) := [(2, [(0, 16, (some 113)), (1, 0, none), (2, 0, none)], [], fun a c h => match a, c with
    | [x1, x2], [] => LX12_cornerAt_2 n x1 x2 h
    | _, _ => none)]
set_option maxRecDepth 100000 in
theorem eMX12_cornerAt (n : Nat) (x1 : Int) (h : Hp) : MX12_cornerAt n x1 h =
  goAt false (kct (KMX12_cornerAt n)) (fun v _ => some (v)) (fsX12_cornerAt n _) sdX12_cornerAt 1000 0 [(0, 16, 113), (1, 0, x1)] [] h := rfl
theorem okX12_cornerAt : mokb (mi 169) = true := by decide +kernel
theorem rkX12_cornerAt : rkOK 1 (mi 169).1.2.2.2.2.2.2.1 (mi 169).1.2.2.2.1 := Or.inr (Or.inl ⟨rfl, rfl, rfl⟩)
def calX12_cornerAt : List Nat := [263]
theorem foX12_cornerAt {l : Launch} {ρ : Type} (n : Nat) : fsOK l false mi calX12_cornerAt (fsX12_cornerAt n ρ) := ⟨snd_mabs, trivial⟩
theorem frX12_cornerAt {ρ : Type} (n : Nat) : ∀ fn ∈ fsX12_cornerAt n ρ, RoF fn := (List.forall_mem_cons.mpr ⟨ro_mabs, (fun q9 h9 => by cases h9)⟩)
theorem ok_sdX12_cornerAt : sdb (mi 169).1.2.1 (insOK mi (mi 169).1.1.cls (mi 169).1.2.2.1 (mi 169).1.2.2.2.2.1 (mi 169).1.2.2.2.2.2.1 calX12_cornerAt false 1) sdX12_cornerAt = true := by decide +kernel
theorem sBX12_cornerAt_2 {l : Launch} {h0 : Hp} {v : Int} (h8 : nOf h0 = 148) (n : Nat) (h : Hp) : ∀ (f : Nat) (x1 : Int) (x2 : Int) {r : Int}, BX12_cornerAt_2 n f x1 x2 h = some r → gV v r → PAt l false (mi 169).1 h0 v h 2 [(0, 16, 113), (1, 0, x1), (2, 0, x2)] [] h := by
  intro f
  induction f with
  | zero =>
    intro x1 x2 r H _
    have H2 : (none : Option (Int)) = some r := H
    cases H2
  | succ f ih =>
    intro x1 x2 r H hG
    exact pat_ro ok_sdX12_cornerAt rfl rkX12_cornerAt h8 (foX12_cornerAt n) (frX12_cornerAt n) (fun v1 q => by
    cases q
    exact ⟨rfl, fun _ => hG⟩) (List.forall_mem_cons.mpr ⟨(fun a c H => by
      dsimp only at H
      split at H
      · exact ih _ _ H hG
      · cases H), (fun q9 h9 => by cases h9)⟩) ((eBX12_cornerAt_2 n f x1 x2 h).symm.trans H)
theorem sLX12_cornerAt_2 {l : Launch} {h0 : Hp} {v : Int} (h8 : nOf h0 = 148) (n : Nat) (x1 : Int) (x2 : Int) (h : Hp) {r : Int} (H : LX12_cornerAt_2 n x1 x2 h = some r) (hG : gV v r) : PAt l false (mi 169).1 h0 v h 2 [(0, 16, 113), (1, 0, x1), (2, 0, x2)] [] h :=
  sBX12_cornerAt_2 h8 n h n x1 x2 H hG
theorem sMX12_cornerAt {l : Launch} {h0 : Hp} {v : Int} (h8 : nOf h0 = 148) (n : Nat) (x1 : Int) (h : Hp) {r : Int} (H : MX12_cornerAt n x1 h = some r) (hG : gV v r) : PAt l false (mi 169).1 h0 v h 0 [(0, 16, 113), (1, 0, x1)] [] h :=
  pat_ro ok_sdX12_cornerAt rfl rkX12_cornerAt h8 (foX12_cornerAt n) (frX12_cornerAt n) (fun v1 q => by
    cases q
    exact ⟨rfl, fun _ => hG⟩) (List.forall_mem_cons.mpr ⟨(fun a c H => by
      dsimp only at H
      split at H
      · exact sLX12_cornerAt_2 h8 n _ _ _ H hG
      · cases H), (fun q9 h9 => by cases h9)⟩) ((eMX12_cornerAt n x1 h).symm.trans H)
theorem sndX12_cornerAt {ρ : Type} {l : Launch} (n : Nat) : SndF (ρ := ρ) l false (mi 169).1 (wX12_cornerAt n) := by
    intro a h k r H ha ho hn hf
    have h8 := hf rfl
    obtain ⟨x0, x1, rfl⟩ := len2 (show a.length = 2 from ha)
    have u0 := uq16 hn (ho (16, x0) (List.mem_cons_self))
    subst u0
    replace H : bndp (MX12_cornerAt n x1 h) (fun r => k r h) = some r := H
    obtain ⟨v2, H1, H2⟩ := bndp_some H
    exact ⟨v2, h, H2, met_mk (mok_base okX12_cornerAt).1 (by decide +kernel) (Nat.le_of_ble_eq_true rfl) ho (sMX12_cornerAt h8 n x1 h H1 rfl), fun q => by cases q⟩
theorem roX12_cornerAt {ρ : Type} (n : Nat) : RoF (wX12_cornerAt n : FN ρ) := fun a h k k2 hk => by
  unfold wX12_cornerAt
  split
  · exact bndp_ro hk
  · rfl
/-! X12_placeAt -/
def sdX12_placeAt : SD := [(0, [(0, .aload_n 0, 1, [], 0), (1, .getfield 140, 3, [12, 6, 0, 0, 1328, 0], 0), (4, .ifCond .ne 5, 3, [], 0)]),
  (7, [(7, .iconst 0, 1, [], 0), (8, .ireturn, 1, [], 0)]),
  (9, [(9, .aload_n 0, 1, [], 0), (10, .invokevirtual 459, 3, [0, 0, 1, 116, 1673, 16], 0), (13, .aload_n 0, 1, [], 0), (14, .iload_n 1, 1, [], 0), (15, .invokevirtual 473, 3, [1, 1, 1, 169, 1802, 0, 16], 0), (18, .istore_n 3, 1, [], 0), (19, .iload_n 3, 1, [], 0), (20, .iconst (-1), 1, [], 0), (21, .if_icmp .ne 52, 3, [], 0)]),
  (24, [(24, .aload_n 0, 1, [], 0), (25, .iload_n 1, 1, [], 0), (26, .invokevirtual 396, 3, [1, 2, 1, 148, 1757, 0, 16], 0), (29, .istore 4, 2, [], 0), (31, .aload_n 0, 1, [], 0), (32, .getfield 37, 3, [12, 14, 1580, 1, 1336, 0], 9), (35, .iconst 3, 1, [], 0), (36, .iload 4, 2, [], 0), (38, .imul, 1, [], 0), (39, .iload_n 2, 1, [], 0), (40, .iadd, 1, [], 0), (41, .iaload, 1, [], 0), (42, .aload_n 0, 1, [], 0), (43, .iload 4, 2, [], 0), (45, .iload_n 2, 1, [], 0), (46, .invokevirtual 146, 3, [1, 3, 1, 106, 1310, 0, 0, 16], 0), (49, .i2l, 1, [], 0), (50, .iload_n 1, 1, [], 0), (51, .aload_n 0, 1, [], 0), (52, .getfield 49, 3, [12, 18, 540, 1, 1340, 0], 13), (55, .iload 4, 2, [], 0), (57, .iaload, 1, [], 0), (58, .isub, 1, [], 0), (59, .i2l, 1, [], 0), (60, .lmul, 1, [], 0), (61, .aload_n 0, 1, [], 0), (62, .getfield 46, 3, [12, 17, 532, 1, 1339, 0], 12), (65, .iload 4, 2, [], 0), (67, .iaload, 1, [], 0), (68, .i2l, 1, [], 0), (69, .ldiv, 1, [], 0), (70, .l2i, 1, [], 0), (71, .iadd, 1, [], 0), (72, .ireturn, 1, [], 0)]),
  (73, [(73, .aload_n 0, 1, [], 0), (74, .getfield 80, 3, [12, 38, 532, 1, 1360, 0], 23), (77, .iload_n 3, 1, [], 0), (78, .iaload, 1, [], 0), (79, .i2l, 1, [], 0), (80, .lstore 4, 2, [], 0), (82, .aload_n 0, 1, [], 0), (83, .getfield 37, 3, [12, 14, 1580, 1, 1336, 0], 9), (86, .iconst 3, 1, [], 0), (87, .iload_n 3, 1, [], 0), (88, .iconst 1, 1, [], 0), (89, .iadd, 1, [], 0), (90, .imul, 1, [], 0), (91, .iload_n 2, 1, [], 0), (92, .iadd, 1, [], 0), (93, .iaload, 1, [], 0), (94, .i2l, 1, [], 0), (95, .lstore 6, 2, [], 0), (97, .lload 6, 2, [], 0), (99, .aload_n 0, 1, [], 0), (100, .iload_n 3, 1, [], 0), (101, .iload_n 2, 1, [], 0), (102, .invokevirtual 146, 3, [1, 3, 1, 106, 1310, 0, 0, 16], 0), (105, .i2l, 1, [], 0), (106, .lload 4, 2, [], 0), (108, .lmul, 1, [], 0), (109, .aload_n 0, 1, [], 0), (110, .getfield 46, 3, [12, 17, 532, 1, 1339, 0], 12), (113, .iload_n 3, 1, [], 0), (114, .iaload, 1, [], 0), (115, .i2l, 1, [], 0), (116, .ldiv, 1, [], 0), (117, .lsub, 1, [], 0), (118, .lstore 8, 2, [], 0), (120, .lload 6, 2, [], 0), (122, .aload_n 0, 1, [], 0), (123, .iload_n 3, 1, [], 0), (124, .iconst 1, 1, [], 0), (125, .iadd, 1, [], 0), (126, .iload_n 2, 1, [], 0), (127, .invokevirtual 146, 3, [1, 3, 1, 106, 1310, 0, 0, 16], 0), (130, .i2l, 1, [], 0), (131, .lload 4, 2, [], 0), (133, .lmul, 1, [], 0), (134, .aload_n 0, 1, [], 0), (135, .getfield 46, 3, [12, 17, 532, 1, 1339, 0], 12), (138, .iload_n 3, 1, [], 0), (139, .iconst 1, 1, [], 0), (140, .iadd, 1, [], 0), (141, .iaload, 1, [], 0), (142, .i2l, 1, [], 0), (143, .ldiv, 1, [], 0), (144, .ladd, 1, [], 0), (145, .lstore 10, 2, [], 0), (147, .iload_n 1, 1, [], 0), (148, .aload_n 0, 1, [], 0), (149, .getfield 49, 3, [12, 18, 540, 1, 1340, 0], 13), (152, .iload_n 3, 1, [], 0), (153, .iconst 1, 1, [], 0), (154, .iadd, 1, [], 0), (155, .iaload, 1, [], 0), (156, .isub, 1, [], 0), (157, .i2l, 1, [], 0), (158, .lload 4, 2, [], 0), (160, .ladd, 1, [], 0), (161, .lstore 12, 2, [], 0), (163, .ldc2_w 125, 3, [1, 1321], 2), (166, .lload 4, 2, [], 0), (168, .lmul, 1, [], 0), (169, .lload 12, 2, [], 0), (171, .lsub, 1, [], 0), (172, .lstore 14, 2, [], 0), (174, .lload 8, 2, [], 0), (176, .lload 14, 2, [], 0), (178, .lmul, 1, [], 0), (179, .lload 14, 2, [], 0), (181, .lmul, 1, [], 0), (182, .lload 6, 2, [], 0), (184, .ldc2_w 125, 3, [1, 1321], 2), (187, .lmul, 1, [], 0), (188, .lload 12, 2, [], 0), (190, .lmul, 1, [], 0), (191, .lload 14, 2, [], 0), (193, .lmul, 1, [], 0), (194, .ladd, 1, [], 0), (195, .lload 10, 2, [], 0), (197, .lload 12, 2, [], 0), (199, .lmul, 1, [], 0), (200, .lload 12, 2, [], 0), (202, .lmul, 1, [], 0), (203, .ladd, 1, [], 0), (204, .ldc2_w 383, 3, [1, 1702], 4), (207, .lload 4, 2, [], 0), (209, .lmul, 1, [], 0), (210, .lload 4, 2, [], 0), (212, .lmul, 1, [], 0), (213, .ldiv, 1, [], 0), (214, .l2i, 1, [], 0), (215, .ireturn, 1, [], 0)])]
def MX12_placeAt (n : Nat) (x1 x2 : Int) (h : Hp) : Option (Int × Hp) :=
(if (h 113 6) ≠ 0 then
(bndh (MX12_laysNow n h) fun h1 =>
(bndp (MX12_cornerAt n x1 h1) fun r1 =>
(ltt r1 fun y1 =>
(if y1 ≠ (-1) then
(grd (0 ≤ y1 ∧ y1 < alen 532)
(ltt (h1 136 y1) fun y2 =>
(grd (0 ≤ (w32 ((w32 (3 * (w32 (y1 + 1)))) + x2)) ∧ (w32 ((w32 (3 * (w32 (y1 + 1)))) + x2)) < alen 1580)
(ltt (h1 122 (w32 ((w32 (3 * (w32 (y1 + 1)))) + x2))) fun y3 =>
(bndp (MX12_goes y1 x2 h1) fun r2 =>
(grd (0 ≤ y1 ∧ y1 < alen 532)
(grd (¬ (h1 125 y1) = 0)
(ltt (w64 (y3 - (w64 (Int.tdiv (w64 (r2 * y2)) (h1 125 y1))))) fun y4 =>
(bndp (MX12_goes (w32 (y1 + 1)) x2 h1) fun r3 =>
(grd (0 ≤ (w32 (y1 + 1)) ∧ (w32 (y1 + 1)) < alen 532)
(grd (¬ (h1 125 (w32 (y1 + 1))) = 0)
(ltt (w64 (y3 + (w64 (Int.tdiv (w64 (r3 * y2)) (h1 125 (w32 (y1 + 1))))))) fun y5 =>
(grd (0 ≤ (w32 (y1 + 1)) ∧ (w32 (y1 + 1)) < alen 540)
(ltt (w64 ((w32 (x1 - (h1 126 (w32 (y1 + 1))))) + y2)) fun y6 =>
(ltt (w64 ((w64 (2 * y2)) - y6)) fun y7 =>
(grd (¬ (w64 ((w64 (4 * y2)) * y2)) = 0)
(some ((w32 (w64 (Int.tdiv (w64 ((w64 ((w64 ((w64 (y4 * y7)) * y7)) + (w64 ((w64 ((w64 (y3 * 2)) * y6)) * y7)))) + (w64 ((w64 (y5 * y6)) * y6)))) (w64 ((w64 (4 * y2)) * y2))))), h1))))))))))))))))))
else
(bndp (MX12_blockAt n x1 h1) fun r4 =>
(ltt r4 fun y8 =>
(grd (0 ≤ (w32 ((w32 (3 * y8)) + x2)) ∧ (w32 ((w32 (3 * y8)) + x2)) < alen 1580)
(bndp (MX12_goes y8 x2 h1) fun r5 =>
(grd (0 ≤ y8 ∧ y8 < alen 540)
(grd (0 ≤ y8 ∧ y8 < alen 532)
(grd (¬ (h1 125 y8) = 0)
(some ((w32 ((h1 122 (w32 ((w32 (3 * y8)) + x2))) + (w32 (w64 (Int.tdiv (w64 (r5 * (w32 (x1 - (h1 126 y8))))) (h1 125 y8)))))), h1)))))))))))))
else
(some (0, h)))
def wX12_placeAt {ρ : Type} (n : Nat) : FN ρ := fun a h k => match a with
  | [_, x1, x2] => bnd (MX12_placeAt n x1 x2 h) (fun r h2 => k r h2)
  | _ => none
def fsX12_placeAt (n : Nat) (ρ : Type) : List (FN ρ) := [wX12_laysNow n, wX12_cornerAt n, wX12_blockAt n, wX12_goes]
def KMX12_placeAt (_ : Nat) : CT (Int × Hp) := []
set_option maxRecDepth 100000 in
theorem eMX12_placeAt (n : Nat) (x1 : Int) (x2 : Int) (h : Hp) : MX12_placeAt n x1 x2 h =
  goAt false (kct (KMX12_placeAt n)) (fun v h => some ((v, h))) (fsX12_placeAt n _) sdX12_placeAt 1000 0 [(0, 16, 113), (1, 0, x1), (2, 0, x2)] [] h := rfl
theorem okX12_placeAt : mokb (mi 170) = true := by decide +kernel
theorem rkX12_placeAt : rkOK 1 (mi 170).1.2.2.2.2.2.2.1 (mi 170).1.2.2.2.1 := Or.inr (Or.inl ⟨rfl, rfl, rfl⟩)
def calX12_placeAt : List Nat := [116, 169, 148, 106]
theorem foX12_placeAt {l : Launch} {ρ : Type} (n : Nat) : fsOK l false mi calX12_placeAt (fsX12_placeAt n ρ) := ⟨(sndX12_laysNow n), ⟨(sndX12_cornerAt n), ⟨(sndX12_blockAt n), ⟨sndX12_goes, trivial⟩⟩⟩⟩
theorem ok_sdX12_placeAt : sdb (mi 170).1.2.1 (insOK mi (mi 170).1.1.cls (mi 170).1.2.2.1 (mi 170).1.2.2.2.2.1 (mi 170).1.2.2.2.2.2.1 calX12_placeAt false 1) sdX12_placeAt = true := by decide +kernel
theorem sMX12_placeAt {l : Launch} {h0 h' : Hp} {v : Int} (h8 : nOf h0 = 148) (n : Nat) (x1 : Int) (x2 : Int) (h : Hp) {r : Int × Hp} (H : MX12_placeAt n x1 x2 h = some r) (hG : gWV v h' r) : PAt l false (mi 170).1 h0 v h' 0 [(0, 16, 113), (1, 0, x1), (2, 0, x2)] [] h :=
  pat_w ok_sdX12_placeAt rkX12_placeAt h8 (foX12_placeAt n) (fun v1 h1 q => by
    cases q
    exact ⟨hG.1, fun _ => hG.2⟩) (fun q9 h9 => by cases h9) ((eMX12_placeAt n x1 x2 h).symm.trans H)
theorem sndX12_placeAt {ρ : Type} {l : Launch} (n : Nat) : SndF (ρ := ρ) l false (mi 170).1 (wX12_placeAt n) := by
    intro a h k r H ha ho hn hf
    have h8 := hf rfl
    obtain ⟨x0, x1, x2, rfl⟩ := len3 (show a.length = 3 from ha)
    have u0 := uq16 hn (ho (16, x0) (List.mem_cons_self))
    subst u0
    replace H : bnd (MX12_placeAt n x1 x2 h) (fun r h2 => k r h2) = some r := H
    obtain ⟨v2, h2, H1, H2⟩ := bnd_some H
    exact ⟨v2, h2, H2, met_mk (mok_base okX12_placeAt).1 (by decide +kernel) (Nat.le_of_ble_eq_true rfl) ho (sMX12_placeAt h8 n x1 x2 h H1 ⟨rfl, rfl⟩), fun q => by cases q⟩
/-! X12_where -/
def sdX12_where : SD := [(0, [(0, .iload_n 1, 1, [], 0), (1, .i2l, 1, [], 0), (2, .lconst 0, 1, [], 0), (3, .ldc2_w 125, 3, [1, 1321], 2), (6, .invokestatic 217, 3, [1, 0, 3, 81, 1561, 1, 1, 1], 0), (9, .ifCond .eq 15, 3, [], 0)]),
  (12, [(12, .aload_n 0, 1, [], 0), (13, .aload_n 0, 1, [], 0), (14, .getfield 165, 3, [12, 42, 0, 0, 1364, 0], 0), (17, .iload_n 1, 1, [], 0), (18, .invokevirtual 476, 3, [1, 1, 1, 170, 1798, 0, 0, 16], 0), (21, .goto 6, 3, [], 0)]),
  (24, [(24, .ldc_w 479, 3, [0, 1806], (-2147483648))]),
  (27, [(27, .ireturn, 1, [], 0)])]
def MX12_where (n : Nat) (x1 : Int) (h : Hp) : Option (Int × Hp) :=
(bndp (MX12_in x1 0 2) fun r1 =>
(if r1 = 0 then
(some ((-2147483648), h))
else
(bnd (MX12_placeAt n (h 113 42) x1 h) fun r2 h1 =>
(some (r2, h1)))))
def wX12_where {ρ : Type} (n : Nat) : FN ρ := fun a h k => match a with
  | [_, x1] => bnd (MX12_where n x1 h) (fun r h2 => k r h2)
  | _ => none
def fsX12_where (n : Nat) (ρ : Type) : List (FN ρ) := [wX12_in, wX12_placeAt n]
def KMX12_where (_ : Nat) : CT (Int × Hp) := []
set_option maxRecDepth 100000 in
theorem eMX12_where (n : Nat) (x1 : Int) (h : Hp) : MX12_where n x1 h =
  goAt false (kct (KMX12_where n)) (fun v h => some ((v, h))) (fsX12_where n _) sdX12_where 1000 0 [(0, 16, 113), (1, 0, x1)] [] h := rfl
theorem okX12_where : mokb (mi 171) = true := by decide +kernel
theorem rkX12_where : rkOK 1 (mi 171).1.2.2.2.2.2.2.1 (mi 171).1.2.2.2.1 := Or.inr (Or.inl ⟨rfl, rfl, rfl⟩)
def calX12_where : List Nat := [81, 170]
theorem foX12_where {l : Launch} {ρ : Type} (n : Nat) : fsOK l false mi calX12_where (fsX12_where n ρ) := ⟨sndX12_in, ⟨(sndX12_placeAt n), trivial⟩⟩
theorem ok_sdX12_where : sdb (mi 171).1.2.1 (insOK mi (mi 171).1.1.cls (mi 171).1.2.2.1 (mi 171).1.2.2.2.2.1 (mi 171).1.2.2.2.2.2.1 calX12_where false 1) sdX12_where = true := by decide +kernel
theorem sMX12_where {l : Launch} {h0 h' : Hp} {v : Int} (h8 : nOf h0 = 148) (n : Nat) (x1 : Int) (h : Hp) {r : Int × Hp} (H : MX12_where n x1 h = some r) (hG : gWV v h' r) : PAt l false (mi 171).1 h0 v h' 0 [(0, 16, 113), (1, 0, x1)] [] h :=
  pat_w ok_sdX12_where rkX12_where h8 (foX12_where n) (fun v1 h1 q => by
    cases q
    exact ⟨hG.1, fun _ => hG.2⟩) (fun q9 h9 => by cases h9) ((eMX12_where n x1 h).symm.trans H)
theorem sndX12_where {ρ : Type} {l : Launch} (n : Nat) : SndF (ρ := ρ) l false (mi 171).1 (wX12_where n) := by
    intro a h k r H ha ho hn hf
    have h8 := hf rfl
    obtain ⟨x0, x1, rfl⟩ := len2 (show a.length = 2 from ha)
    have u0 := uq16 hn (ho (16, x0) (List.mem_cons_self))
    subst u0
    replace H : bnd (MX12_where n x1 h) (fun r h2 => k r h2) = some r := H
    obtain ⟨v2, h2, H1, H2⟩ := bnd_some H
    exact ⟨v2, h2, H2, met_mk (mok_base okX12_where).1 (by decide +kernel) (Nat.le_of_ble_eq_true rfl) ho (sMX12_where h8 n x1 h H1 ⟨rfl, rfl⟩), fun q => by cases q⟩
/-! X11_place -/
def sdX11_place : SD := [(0, [(0, .iload_n 2, 1, [], 0), (1, .invokestatic 214, 3, [1, 0, 3, 30, 1090, 0], 0), (4, .ifCond .eq 18, 3, [], 0)]),
  (7, [(7, .iload_n 1, 1, [], 0), (8, .ifCond .lt 14, 3, [], 0)]),
  (11, [(11, .iload_n 1, 1, [], 0), (12, .aload_n 0, 1, [], 0), (13, .getfield 10, 3, [11, 2, 14, 0, 692, 0], 0), (16, .getfield 222, 3, [10, 14, 0, 0, 215, 0], 0), (19, .if_icmp .le 6, 3, [], 0)]),
  (22, [(22, .ldc 217, 2, [0, 1091], (-2147483648)), (24, .ireturn, 1, [], 0)]),
  (25, [(25, .aload_n 0, 1, [], 0), (26, .getfield 47, 3, [11, 5, 5, 1, 695, 0], 50), (29, .getfield 157, 3, [1, 0, 8, 1, 465, 0], 2), (32, .iload_n 1, 1, [], 0), (33, .iload_n 2, 1, [], 0), (34, .invokevirtual 218, 3, [1, 1, 1, 167, 1092, 0, 0, 8], 0), (37, .ireturn, 1, [], 0)])]
def MX11_place (n : Nat) (x1 x2 : Int) (h : Hp) : Option (Int) :=
(bndp (MX11_isAxis x2) fun r1 =>
(if r1 = 0 then
(some (-2147483648))
else
(if x1 < 0 then
(some (-2147483648))
else
(if x1 ≤ (h (h 0 2) 14) then
(bndp (MX4_placeAt n 52 x1 x2 h) fun r2 =>
(some r2))
else
(some (-2147483648))))))
def wX11_place {ρ : Type} (n : Nat) : FN ρ := fun a h k => match a with
  | [_, x1, x2] => bndp (MX11_place n x1 x2 h) (fun r => k r h)
  | _ => none
def fsX11_place (n : Nat) (ρ : Type) : List (FN ρ) := [wX11_isAxis, wX4_placeAt n]
def KMX11_place (_ : Nat) : CT (Int) := []
set_option maxRecDepth 100000 in
theorem eMX11_place (n : Nat) (x1 : Int) (x2 : Int) (h : Hp) : MX11_place n x1 x2 h =
  goAt false (kct (KMX11_place n)) (fun v _ => some (v)) (fsX11_place n _) sdX11_place 1000 0 [(0, 15, 0), (1, 0, x1), (2, 0, x2)] [] h := rfl
theorem okX11_place : mokb (mi 172) = true := by decide +kernel
theorem rkX11_place : rkOK 1 (mi 172).1.2.2.2.2.2.2.1 (mi 172).1.2.2.2.1 := Or.inr (Or.inl ⟨rfl, rfl, rfl⟩)
def calX11_place : List Nat := [30, 167]
theorem foX11_place {l : Launch} {ρ : Type} (n : Nat) : fsOK l false mi calX11_place (fsX11_place n ρ) := ⟨sndX11_isAxis, ⟨(sndX4_placeAt n), trivial⟩⟩
theorem frX11_place {ρ : Type} (n : Nat) : ∀ fn ∈ fsX11_place n ρ, RoF fn := (List.forall_mem_cons.mpr ⟨roX11_isAxis, (List.forall_mem_cons.mpr ⟨(roX4_placeAt n), (fun q9 h9 => by cases h9)⟩)⟩)
theorem ok_sdX11_place : sdb (mi 172).1.2.1 (insOK mi (mi 172).1.1.cls (mi 172).1.2.2.1 (mi 172).1.2.2.2.2.1 (mi 172).1.2.2.2.2.2.1 calX11_place false 1) sdX11_place = true := by decide +kernel
theorem sMX11_place {l : Launch} {h0 : Hp} {v : Int} (h8 : nOf h0 = 148) (n : Nat) (x1 : Int) (x2 : Int) (h : Hp) {r : Int} (H : MX11_place n x1 x2 h = some r) (hG : gV v r) : PAt l false (mi 172).1 h0 v h 0 [(0, 15, 0), (1, 0, x1), (2, 0, x2)] [] h :=
  pat_ro ok_sdX11_place rfl rkX11_place h8 (foX11_place n) (frX11_place n) (fun v1 q => by
    cases q
    exact ⟨rfl, fun _ => hG⟩) (fun q9 h9 => by cases h9) ((eMX11_place n x1 x2 h).symm.trans H)
theorem sndX11_place {ρ : Type} {l : Launch} (n : Nat) : SndF (ρ := ρ) l false (mi 172).1 (wX11_place n) := by
    intro a h k r H ha ho hn hf
    have h8 := hf rfl
    obtain ⟨x0, x1, x2, rfl⟩ := len3 (show a.length = 3 from ha)
    have u0 := uq15 hn (ho (15, x0) (List.mem_cons_self))
    subst u0
    replace H : bndp (MX11_place n x1 x2 h) (fun r => k r h) = some r := H
    obtain ⟨v2, H1, H2⟩ := bndp_some H
    exact ⟨v2, h, H2, met_mk (mok_base okX11_place).1 (by decide +kernel) (Nat.le_of_ble_eq_true rfl) ho (sMX11_place h8 n x1 x2 h H1 rfl), fun q => by cases q⟩
theorem roX11_place {ρ : Type} (n : Nat) : RoF (wX11_place n : FN ρ) := fun a h k k2 hk => by
  unfold wX11_place
  split
  · exact bndp_ro hk
  · rfl
/-! X12_place -/
def sdX12_place : SD := [(0, [(0, .iload_n 1, 1, [], 0), (1, .i2l, 1, [], 0), (2, .lconst 0, 1, [], 0), (3, .aload_n 0, 1, [], 0), (4, .invokevirtual 393, 3, [1, 0, 1, 139, 1715, 16], 0), (7, .i2l, 1, [], 0), (8, .invokestatic 217, 3, [1, 1, 3, 81, 1561, 1, 1, 1], 0), (11, .ifCond .eq 24, 3, [], 0)]),
  (14, [(14, .iload_n 2, 1, [], 0), (15, .i2l, 1, [], 0), (16, .lconst 0, 1, [], 0), (17, .ldc2_w 125, 3, [1, 1321], 2), (20, .invokestatic 217, 3, [1, 1, 3, 81, 1561, 1, 1, 1], 0), (23, .ifCond .eq 12, 3, [], 0)]),
  (26, [(26, .aload_n 0, 1, [], 0), (27, .iload_n 1, 1, [], 0), (28, .iload_n 2, 1, [], 0), (29, .invokevirtual 476, 3, [1, 2, 1, 170, 1798, 0, 0, 16], 0), (32, .goto 6, 3, [], 0)]),
  (35, [(35, .ldc_w 479, 3, [0, 1806], (-2147483648))]),
  (38, [(38, .ireturn, 1, [], 0)])]
def MX12_place (n : Nat) (x1 x2 : Int) (h : Hp) : Option (Int × Hp) :=
(bndp (MX12_all h) fun r1 =>
(bndp (MX12_in x1 0 r1) fun r2 =>
(if r2 = 0 then
(some ((-2147483648), h))
else
(bndp (MX12_in x2 0 2) fun r3 =>
(if r3 = 0 then
(some ((-2147483648), h))
else
(bnd (MX12_placeAt n x1 x2 h) fun r4 h1 =>
(some (r4, h1))))))))
def wX12_place {ρ : Type} (n : Nat) : FN ρ := fun a h k => match a with
  | [_, x1, x2] => bnd (MX12_place n x1 x2 h) (fun r h2 => k r h2)
  | _ => none
def fsX12_place (n : Nat) (ρ : Type) : List (FN ρ) := [wX12_all, wX12_in, wX12_placeAt n]
def KMX12_place (_ : Nat) : CT (Int × Hp) := []
set_option maxRecDepth 100000 in
theorem eMX12_place (n : Nat) (x1 : Int) (x2 : Int) (h : Hp) : MX12_place n x1 x2 h =
  goAt false (kct (KMX12_place n)) (fun v h => some ((v, h))) (fsX12_place n _) sdX12_place 1000 0 [(0, 16, 113), (1, 0, x1), (2, 0, x2)] [] h := rfl
theorem okX12_place : mokb (mi 173) = true := by decide +kernel
theorem rkX12_place : rkOK 1 (mi 173).1.2.2.2.2.2.2.1 (mi 173).1.2.2.2.1 := Or.inr (Or.inl ⟨rfl, rfl, rfl⟩)
def calX12_place : List Nat := [139, 81, 170]
theorem foX12_place {l : Launch} {ρ : Type} (n : Nat) : fsOK l false mi calX12_place (fsX12_place n ρ) := ⟨sndX12_all, ⟨sndX12_in, ⟨(sndX12_placeAt n), trivial⟩⟩⟩
theorem ok_sdX12_place : sdb (mi 173).1.2.1 (insOK mi (mi 173).1.1.cls (mi 173).1.2.2.1 (mi 173).1.2.2.2.2.1 (mi 173).1.2.2.2.2.2.1 calX12_place false 1) sdX12_place = true := by decide +kernel
theorem sMX12_place {l : Launch} {h0 h' : Hp} {v : Int} (h8 : nOf h0 = 148) (n : Nat) (x1 : Int) (x2 : Int) (h : Hp) {r : Int × Hp} (H : MX12_place n x1 x2 h = some r) (hG : gWV v h' r) : PAt l false (mi 173).1 h0 v h' 0 [(0, 16, 113), (1, 0, x1), (2, 0, x2)] [] h :=
  pat_w ok_sdX12_place rkX12_place h8 (foX12_place n) (fun v1 h1 q => by
    cases q
    exact ⟨hG.1, fun _ => hG.2⟩) (fun q9 h9 => by cases h9) ((eMX12_place n x1 x2 h).symm.trans H)
theorem sndX12_place {ρ : Type} {l : Launch} (n : Nat) : SndF (ρ := ρ) l false (mi 173).1 (wX12_place n) := by
    intro a h k r H ha ho hn hf
    have h8 := hf rfl
    obtain ⟨x0, x1, x2, rfl⟩ := len3 (show a.length = 3 from ha)
    have u0 := uq16 hn (ho (16, x0) (List.mem_cons_self))
    subst u0
    replace H : bnd (MX12_place n x1 x2 h) (fun r h2 => k r h2) = some r := H
    obtain ⟨v2, h2, H1, H2⟩ := bnd_some H
    exact ⟨v2, h2, H2, met_mk (mok_base okX12_place).1 (by decide +kernel) (Nat.le_of_ble_eq_true rfl) ho (sMX12_place h8 n x1 x2 h H1 ⟨rfl, rfl⟩), fun q => by cases q⟩
/-! X1_goOn -/
def sdX1_goOn : SD := [(0, [(0, .iconst 0, 1, [], 0), (1, .istore_n 3, 1, [], 0)]),
  (2, [(2, .iload_n 3, 1, [], 0), (3, .iload_n 2, 1, [], 0), (4, .if_icmp .ge 23, 3, [], 0)]),
  (7, [(7, .aload_n 0, 1, [], 0), (8, .aload_n 1, 1, [], 0), (9, .invokevirtual 124, 3, [1, 0, 1, 123, 1125, 12, 5], 0), (12, .ifCond .ne 15, 3, [], 0)]),
  (15, [(15, .aload_n 0, 1, [], 0), (16, .aload_n 1, 1, [], 0), (17, .invokevirtual 128, 3, [1, 1, 1, 135, 1126, 12, 5], 0), (20, .pop, 1, [], 0), (21, .iinc 3 1, 3, [], 0), (24, .goto (-22), 3, [], 0)]),
  (27, [(27, .return_, 1, [], 0)])]
def BX1_goOn_2 (n : Nat) : Nat → Int → Int → Int → Int → Hp → Option (Hp)
  | 0, _, _, _, _, _ => none
  | f + 1, x0, x1, x2, x3, h =>
    (if x2 ≤ x3 then
    (some h)
    else
    (bndp (MX1_isDone x0 x1 h) fun r1 =>
    (if r1 ≠ 0 then
    (some h)
    else
    (bnd (MX1_tick n x0 x1 h) fun r2 h1 =>
    (ltt (w32 (x3 + 1)) fun y1 =>
    (BX1_goOn_2 n f x0 x1 x2 y1 h1))))))
def LX1_goOn_2 (n : Nat) (x0 x1 x2 x3 : Int) (h : Hp) : Option (Hp) :=
(BX1_goOn_2 n n x0 x1 x2 x3 h)
def MX1_goOn (n : Nat) (x0 x1 x2 : Int) (h : Hp) : Option (Hp) :=
(ltt 0 fun y1 =>
(LX1_goOn_2 n x0 x1 x2 y1 h))
def wX1_goOn {ρ : Type} (n : Nat) : FN ρ := fun a h k => match a with
  | [x0, x1, x2] => bndh (MX1_goOn n x0 x1 x2 h) (fun h2 => k 0 h2)
  | _ => none
def fsX1_goOn (n : Nat) (ρ : Type) : List (FN ρ) := [wX1_isDone, wX1_tick n]
def KBX1_goOn_2 (_ : Nat) (bk : Int → Int → Int → Int → Hp → Option (Hp)) : CT (Hp) := [(2, [(0, 5, none), (1, 12, none), (2, 0, none), (3, 0, none)], [], fun a c h => match a, c with
    | [x0, x1, x2, x3], [] => bk x0 x1 x2 x3 h
    | _, _ => none)]
set_option maxRecDepth 100000 in
theorem eBX1_goOn_2 (n f : Nat) (x0 : Int) (x1 : Int) (x2 : Int) (x3 : Int) (h : Hp) : BX1_goOn_2 n (f + 1) x0 x1 x2 x3 h =
  goAt false (kct (KBX1_goOn_2 n (BX1_goOn_2 n f))) (fun _ h => some (h)) (fsX1_goOn n _) sdX1_goOn 1000 2 [(0, 5, x0), (1, 12, x1), (2, 0, x2), (3, 0, x3)] [] h := rfl
def KMX1_goOn (n : Nat) : CT (Hp) := [(2, [(0, 5, none), (1, 12, none), (2, 0, none), (3, 0, none)], [], fun a c h => match a, c with
    | [x0, x1, x2, x3], [] => LX1_goOn_2 n x0 x1 x2 x3 h
    | _, _ => none)]
set_option maxRecDepth 100000 in
theorem eMX1_goOn (n : Nat) (x0 : Int) (x1 : Int) (x2 : Int) (h : Hp) : MX1_goOn n x0 x1 x2 h =
  goAt false (kct (KMX1_goOn n)) (fun _ h => some (h)) (fsX1_goOn n _) sdX1_goOn 1000 0 [(0, 5, x0), (1, 12, x1), (2, 0, x2)] [] h := rfl
theorem okX1_goOn : mokb (mi 174) = true := by decide +kernel
theorem rkX1_goOn : rkOK 0 (mi 174).1.2.2.2.2.2.2.1 (mi 174).1.2.2.2.1 := Or.inl ⟨rfl, rfl, rfl⟩
def calX1_goOn : List Nat := [123, 135]
theorem foX1_goOn {l : Launch} {ρ : Type} (n : Nat) : fsOK l false mi calX1_goOn (fsX1_goOn n ρ) := ⟨sndX1_isDone, ⟨(sndX1_tick n), trivial⟩⟩
theorem ok_sdX1_goOn : sdb (mi 174).1.2.1 (insOK mi (mi 174).1.1.cls (mi 174).1.2.2.1 (mi 174).1.2.2.2.2.1 (mi 174).1.2.2.2.2.2.1 calX1_goOn false 0) sdX1_goOn = true := by decide +kernel
theorem sBX1_goOn_2 {l : Launch} {h0 h' : Hp} {v : Int} (h8 : nOf h0 = 148) (n : Nat) : ∀ (f : Nat) (x0 : Int) (x1 : Int) (x2 : Int) (x3 : Int) (h : Hp) {r : Hp}, BX1_goOn_2 n f x0 x1 x2 x3 h = some r → gW h' r → PAt l false (mi 174).1 h0 v h' 2 [(0, 5, x0), (1, 12, x1), (2, 0, x2), (3, 0, x3)] [] h := by
  intro f
  induction f with
  | zero =>
    intro x0 x1 x2 x3 h r H _
    have H2 : (none : Option (Hp)) = some r := H
    cases H2
  | succ f ih =>
    intro x0 x1 x2 x3 h r H hG
    exact pat_w ok_sdX1_goOn rkX1_goOn h8 (foX1_goOn n) (fun v1 h1 q => by
    cases q
    exact ⟨hG, fun q9 => absurd rfl q9⟩) (List.forall_mem_cons.mpr ⟨(fun a c h H => by
      dsimp only at H
      split at H
      · exact ih _ _ _ _ _ H hG
      · cases H), (fun q9 h9 => by cases h9)⟩) ((eBX1_goOn_2 n f x0 x1 x2 x3 h).symm.trans H)
theorem sLX1_goOn_2 {l : Launch} {h0 h' : Hp} {v : Int} (h8 : nOf h0 = 148) (n : Nat) (x0 : Int) (x1 : Int) (x2 : Int) (x3 : Int) (h : Hp) {r : Hp} (H : LX1_goOn_2 n x0 x1 x2 x3 h = some r) (hG : gW h' r) : PAt l false (mi 174).1 h0 v h' 2 [(0, 5, x0), (1, 12, x1), (2, 0, x2), (3, 0, x3)] [] h :=
  sBX1_goOn_2 h8 n n x0 x1 x2 x3 h H hG
theorem sMX1_goOn {l : Launch} {h0 h' : Hp} {v : Int} (h8 : nOf h0 = 148) (n : Nat) (x0 : Int) (x1 : Int) (x2 : Int) (h : Hp) {r : Hp} (H : MX1_goOn n x0 x1 x2 h = some r) (hG : gW h' r) : PAt l false (mi 174).1 h0 v h' 0 [(0, 5, x0), (1, 12, x1), (2, 0, x2)] [] h :=
  pat_w ok_sdX1_goOn rkX1_goOn h8 (foX1_goOn n) (fun v1 h1 q => by
    cases q
    exact ⟨hG, fun q9 => absurd rfl q9⟩) (List.forall_mem_cons.mpr ⟨(fun a c h H => by
      dsimp only at H
      split at H
      · exact sLX1_goOn_2 h8 n _ _ _ _ _ H hG
      · cases H), (fun q9 h9 => by cases h9)⟩) ((eMX1_goOn n x0 x1 x2 h).symm.trans H)
theorem sndX1_goOn {ρ : Type} {l : Launch} (n : Nat) : SndF (ρ := ρ) l false (mi 174).1 (wX1_goOn n) := by
    intro a h k r H ha ho hn hf
    have h8 := hf rfl
    obtain ⟨x0, x1, x2, rfl⟩ := len3 (show a.length = 3 from ha)
    replace H : bndh (MX1_goOn n x0 x1 x2 h) (fun h2 => k 0 h2) = some r := H
    obtain ⟨h2, H1, H2⟩ := bndh_some H
    exact ⟨0, h2, H2, met_mk (mok_base okX1_goOn).1 (by decide +kernel) (Nat.le_of_ble_eq_true rfl) ho (sMX1_goOn h8 n x0 x1 x2 h H1 rfl), fun q => by cases q⟩
/-! X11_ahead -/
def sdX11_ahead : SD := [(0, [(0, .iload_n 1, 1, [], 0), (1, .ifCond .lt 19, 3, [], 0)]),
  (4, [(4, .iload_n 1, 1, [], 0), (5, .sipush 300, 3, [], 0), (8, .if_icmp .gt 12, 3, [], 0)]),
  (11, [(11, .iload_n 2, 1, [], 0), (12, .ifCond .lt 8, 3, [], 0)]),
  (15, [(15, .iload_n 2, 1, [], 0), (16, .iconst 3, 1, [], 0), (17, .if_icmp .le 6, 3, [], 0)]),
  (20, [(20, .ldc 217, 2, [0, 1091], (-2147483648)), (22, .ireturn, 1, [], 0)]),
  (23, [(23, .aload_n 0, 1, [], 0), (24, .getfield 61, 3, [11, 8, 12, 1, 698, 0], 65), (27, .aload_n 0, 1, [], 0), (28, .getfield 57, 3, [11, 7, 12, 1, 697, 0], 64), (31, .invokevirtual 225, 3, [0, 0, 1, 124, 1120, 12, 12], 0), (34, .aload_n 0, 1, [], 0), (35, .getfield 47, 3, [11, 5, 5, 1, 695, 0], 50), (38, .aload_n 0, 1, [], 0), (39, .getfield 61, 3, [11, 8, 12, 1, 698, 0], 65), (42, .iload_n 1, 1, [], 0), (43, .invokevirtual 228, 3, [0, 1, 1, 174, 1121, 0, 12, 5], 0), (46, .iload_n 2, 1, [], 0), (47, .tableswitch 49 0 2 #[25, 33, 41], 25, [], 0)]),
  (72, [(72, .aload_n 0, 1, [], 0), (73, .getfield 61, 3, [11, 8, 12, 1, 698, 0], 65), (76, .getfield 200, 3, [8, 0, 0, 0, 483, 0], 0), (79, .ireturn, 1, [], 0)]),
  (80, [(80, .aload_n 0, 1, [], 0), (81, .getfield 61, 3, [11, 8, 12, 1, 698, 0], 65), (84, .getfield 232, 3, [8, 1, 0, 0, 486, 0], 0), (87, .ireturn, 1, [], 0)]),
  (88, [(88, .aload_n 0, 1, [], 0), (89, .getfield 61, 3, [11, 8, 12, 1, 698, 0], 65), (92, .getfield 235, 3, [8, 2, 0, 0, 489, 0], 0), (95, .ireturn, 1, [], 0)]),
  (96, [(96, .aload_n 0, 1, [], 0), (97, .getfield 61, 3, [11, 8, 12, 1, 698, 0], 65), (100, .getfield 238, 3, [8, 3, 0, 0, 492, 0], 0), (103, .ireturn, 1, [], 0)])]
def MX11_ahead (n : Nat) (x1 x2 : Int) (h : Hp) : Option (Int × Hp) :=
(if x1 < 0 then
(some ((-2147483648), h))
else
(if 300 < x1 then
(some ((-2147483648), h))
else
(if x2 < 0 then
(some ((-2147483648), h))
else
(if x2 ≤ 3 then
(bndh (MX8_become 65 64 h) fun h1 =>
(bndh (MX1_goOn n 50 65 x1 h1) fun h2 =>
(if x2 = 0 then
(some ((h2 65 0), h2))
else
(if x2 = 1 then
(some ((h2 65 1), h2))
else
(if x2 = 2 then
(some ((h2 65 2), h2))
else
(some ((h2 65 3), h2)))))))
else
(some ((-2147483648), h))))))
def wX11_ahead {ρ : Type} (n : Nat) : FN ρ := fun a h k => match a with
  | [_, x1, x2] => bnd (MX11_ahead n x1 x2 h) (fun r h2 => k r h2)
  | _ => none
def fsX11_ahead (n : Nat) (ρ : Type) : List (FN ρ) := [wX8_become, wX1_goOn n]
def KMX11_ahead (_ : Nat) : CT (Int × Hp) := []
set_option maxRecDepth 100000 in
theorem eMX11_ahead (n : Nat) (x1 : Int) (x2 : Int) (h : Hp) : MX11_ahead n x1 x2 h =
  goAt false (kct (KMX11_ahead n)) (fun v h => some ((v, h))) (fsX11_ahead n _) sdX11_ahead 1000 0 [(0, 15, 0), (1, 0, x1), (2, 0, x2)] [] h := rfl
theorem okX11_ahead : mokb (mi 175) = true := by decide +kernel
theorem rkX11_ahead : rkOK 1 (mi 175).1.2.2.2.2.2.2.1 (mi 175).1.2.2.2.1 := Or.inr (Or.inl ⟨rfl, rfl, rfl⟩)
def calX11_ahead : List Nat := [124, 174]
theorem foX11_ahead {l : Launch} {ρ : Type} (n : Nat) : fsOK l false mi calX11_ahead (fsX11_ahead n ρ) := ⟨sndX8_become, ⟨(sndX1_goOn n), trivial⟩⟩
theorem ok_sdX11_ahead : sdb (mi 175).1.2.1 (insOK mi (mi 175).1.1.cls (mi 175).1.2.2.1 (mi 175).1.2.2.2.2.1 (mi 175).1.2.2.2.2.2.1 calX11_ahead false 1) sdX11_ahead = true := by decide +kernel
theorem sMX11_ahead {l : Launch} {h0 h' : Hp} {v : Int} (h8 : nOf h0 = 148) (n : Nat) (x1 : Int) (x2 : Int) (h : Hp) {r : Int × Hp} (H : MX11_ahead n x1 x2 h = some r) (hG : gWV v h' r) : PAt l false (mi 175).1 h0 v h' 0 [(0, 15, 0), (1, 0, x1), (2, 0, x2)] [] h :=
  pat_w ok_sdX11_ahead rkX11_ahead h8 (foX11_ahead n) (fun v1 h1 q => by
    cases q
    exact ⟨hG.1, fun _ => hG.2⟩) (fun q9 h9 => by cases h9) ((eMX11_ahead n x1 x2 h).symm.trans H)
theorem sndX11_ahead {ρ : Type} {l : Launch} (n : Nat) : SndF (ρ := ρ) l false (mi 175).1 (wX11_ahead n) := by
    intro a h k r H ha ho hn hf
    have h8 := hf rfl
    obtain ⟨x0, x1, x2, rfl⟩ := len3 (show a.length = 3 from ha)
    have u0 := uq15 hn (ho (15, x0) (List.mem_cons_self))
    subst u0
    replace H : bnd (MX11_ahead n x1 x2 h) (fun r h2 => k r h2) = some r := H
    obtain ⟨v2, h2, H1, H2⟩ := bnd_some H
    exact ⟨v2, h2, H2, met_mk (mok_base okX11_ahead).1 (by decide +kernel) (Nat.le_of_ble_eq_true rfl) ho (sMX11_ahead h8 n x1 x2 h H1 ⟨rfl, rfl⟩), fun q => by cases q⟩
/-! X12_goesOn -/
def sdX12_goesOn : SD := [(0, [(0, .aload_n 0, 1, [], 0), (1, .invokevirtual 459, 3, [0, 0, 1, 116, 1673, 16], 0), (4, .aload_n 0, 1, [], 0), (5, .invokevirtual 462, 3, [0, 1, 1, 137, 1703, 16], 0), (8, .iconst 0, 1, [], 0), (9, .istore_n 2, 1, [], 0)]),
  (10, [(10, .iload_n 2, 1, [], 0), (11, .iload_n 1, 1, [], 0), (12, .if_icmp .ge 13, 3, [], 0)]),
  (15, [(15, .aload_n 0, 1, [], 0), (16, .invokevirtual 443, 3, [0, 2, 1, 152, 1730, 16], 0), (19, .iinc 2 1, 3, [], 0), (22, .goto (-12), 3, [], 0)]),
  (25, [(25, .return_, 1, [], 0)])]
def BX12_goesOn_10 (n : Nat) : Nat → Int → Int → Hp → Option (Hp)
  | 0, _, _, _ => none
  | f + 1, x1, x2, h =>
    (if x1 ≤ x2 then
    (some h)
    else
    (bndh (MX12_tick n h) fun h1 =>
    (ltt (w32 (x2 + 1)) fun y1 =>
    (BX12_goesOn_10 n f x1 y1 h1))))
def LX12_goesOn_10 (n : Nat) (x1 x2 : Int) (h : Hp) : Option (Hp) :=
(BX12_goesOn_10 n n x1 x2 h)
def MX12_goesOn (n : Nat) (x1 : Int) (h : Hp) : Option (Hp) :=
(bndh (MX12_laysNow n h) fun h1 =>
(bndh (MX12_begins h1) fun h2 =>
(ltt 0 fun y1 =>
(LX12_goesOn_10 n x1 y1 h2))))
def wX12_goesOn {ρ : Type} (n : Nat) : FN ρ := fun a h k => match a with
  | [_, x1] => bndh (MX12_goesOn n x1 h) (fun h2 => k 0 h2)
  | _ => none
def fsX12_goesOn (n : Nat) (ρ : Type) : List (FN ρ) := [wX12_laysNow n, wX12_begins, wX12_tick n]
def KBX12_goesOn_10 (_ : Nat) (bk : Int → Int → Hp → Option (Hp)) : CT (Hp) := [(10, [(0, 16, (some 113)), (1, 0, none), (2, 0, none)], [], fun a c h => match a, c with
    | [x1, x2], [] => bk x1 x2 h
    | _, _ => none)]
set_option maxRecDepth 100000 in
theorem eBX12_goesOn_10 (n f : Nat) (x1 : Int) (x2 : Int) (h : Hp) : BX12_goesOn_10 n (f + 1) x1 x2 h =
  goAt false (kct (KBX12_goesOn_10 n (BX12_goesOn_10 n f))) (fun _ h => some (h)) (fsX12_goesOn n _) sdX12_goesOn 1000 10 [(0, 16, 113), (1, 0, x1), (2, 0, x2)] [] h := rfl
def KMX12_goesOn (n : Nat) : CT (Hp) := [(10, [(0, 16, (some 113)), (1, 0, none), (2, 0, none)], [], fun a c h => match a, c with
    | [x1, x2], [] => LX12_goesOn_10 n x1 x2 h
    | _, _ => none)]
set_option maxRecDepth 100000 in
theorem eMX12_goesOn (n : Nat) (x1 : Int) (h : Hp) : MX12_goesOn n x1 h =
  goAt false (kct (KMX12_goesOn n)) (fun _ h => some (h)) (fsX12_goesOn n _) sdX12_goesOn 1000 0 [(0, 16, 113), (1, 0, x1)] [] h := rfl
theorem okX12_goesOn : mokb (mi 176) = true := by decide +kernel
theorem rkX12_goesOn : rkOK 0 (mi 176).1.2.2.2.2.2.2.1 (mi 176).1.2.2.2.1 := Or.inl ⟨rfl, rfl, rfl⟩
def calX12_goesOn : List Nat := [116, 137, 152]
theorem foX12_goesOn {l : Launch} {ρ : Type} (n : Nat) : fsOK l false mi calX12_goesOn (fsX12_goesOn n ρ) := ⟨(sndX12_laysNow n), ⟨sndX12_begins, ⟨(sndX12_tick n), trivial⟩⟩⟩
theorem ok_sdX12_goesOn : sdb (mi 176).1.2.1 (insOK mi (mi 176).1.1.cls (mi 176).1.2.2.1 (mi 176).1.2.2.2.2.1 (mi 176).1.2.2.2.2.2.1 calX12_goesOn false 0) sdX12_goesOn = true := by decide +kernel
theorem sBX12_goesOn_10 {l : Launch} {h0 h' : Hp} {v : Int} (h8 : nOf h0 = 148) (n : Nat) : ∀ (f : Nat) (x1 : Int) (x2 : Int) (h : Hp) {r : Hp}, BX12_goesOn_10 n f x1 x2 h = some r → gW h' r → PAt l false (mi 176).1 h0 v h' 10 [(0, 16, 113), (1, 0, x1), (2, 0, x2)] [] h := by
  intro f
  induction f with
  | zero =>
    intro x1 x2 h r H _
    have H2 : (none : Option (Hp)) = some r := H
    cases H2
  | succ f ih =>
    intro x1 x2 h r H hG
    exact pat_w ok_sdX12_goesOn rkX12_goesOn h8 (foX12_goesOn n) (fun v1 h1 q => by
    cases q
    exact ⟨hG, fun q9 => absurd rfl q9⟩) (List.forall_mem_cons.mpr ⟨(fun a c h H => by
      dsimp only at H
      split at H
      · exact ih _ _ _ H hG
      · cases H), (fun q9 h9 => by cases h9)⟩) ((eBX12_goesOn_10 n f x1 x2 h).symm.trans H)
theorem sLX12_goesOn_10 {l : Launch} {h0 h' : Hp} {v : Int} (h8 : nOf h0 = 148) (n : Nat) (x1 : Int) (x2 : Int) (h : Hp) {r : Hp} (H : LX12_goesOn_10 n x1 x2 h = some r) (hG : gW h' r) : PAt l false (mi 176).1 h0 v h' 10 [(0, 16, 113), (1, 0, x1), (2, 0, x2)] [] h :=
  sBX12_goesOn_10 h8 n n x1 x2 h H hG
theorem sMX12_goesOn {l : Launch} {h0 h' : Hp} {v : Int} (h8 : nOf h0 = 148) (n : Nat) (x1 : Int) (h : Hp) {r : Hp} (H : MX12_goesOn n x1 h = some r) (hG : gW h' r) : PAt l false (mi 176).1 h0 v h' 0 [(0, 16, 113), (1, 0, x1)] [] h :=
  pat_w ok_sdX12_goesOn rkX12_goesOn h8 (foX12_goesOn n) (fun v1 h1 q => by
    cases q
    exact ⟨hG, fun q9 => absurd rfl q9⟩) (List.forall_mem_cons.mpr ⟨(fun a c h H => by
      dsimp only at H
      split at H
      · exact sLX12_goesOn_10 h8 n _ _ _ H hG
      · cases H), (fun q9 h9 => by cases h9)⟩) ((eMX12_goesOn n x1 h).symm.trans H)
theorem sndX12_goesOn {ρ : Type} {l : Launch} (n : Nat) : SndF (ρ := ρ) l false (mi 176).1 (wX12_goesOn n) := by
    intro a h k r H ha ho hn hf
    have h8 := hf rfl
    obtain ⟨x0, x1, rfl⟩ := len2 (show a.length = 2 from ha)
    have u0 := uq16 hn (ho (16, x0) (List.mem_cons_self))
    subst u0
    replace H : bndh (MX12_goesOn n x1 h) (fun h2 => k 0 h2) = some r := H
    obtain ⟨h2, H1, H2⟩ := bndh_some H
    exact ⟨0, h2, H2, met_mk (mok_base okX12_goesOn).1 (by decide +kernel) (Nat.le_of_ble_eq_true rfl) ho (sMX12_goesOn h8 n x1 h H1 rfl), fun q => by cases q⟩
/-! X12_ahead -/
def sdX12_ahead : SD := [(0, [(0, .iload_n 1, 1, [], 0), (1, .i2l, 1, [], 0), (2, .lconst 0, 1, [], 0), (3, .ldc2_w 480, 3, [1, 1815], 300), (6, .invokestatic 217, 3, [1, 0, 3, 81, 1561, 1, 1, 1], 0), (9, .ifCond .eq 15, 3, [], 0)]),
  (12, [(12, .iload_n 2, 1, [], 0), (13, .i2l, 1, [], 0), (14, .lconst 0, 1, [], 0), (15, .ldc2_w 482, 3, [1, 1816], 3), (18, .invokestatic 217, 3, [1, 0, 3, 81, 1561, 1, 1, 1], 0), (21, .ifCond .ne 7, 3, [], 0)]),
  (24, [(24, .ldc_w 479, 3, [0, 1806], (-2147483648)), (27, .ireturn, 1, [], 0)]),
  (28, [(28, .aload_n 0, 1, [], 0), (29, .iload_n 1, 1, [], 0), (30, .invokevirtual 484, 3, [0, 1, 1, 176, 1817, 0, 16], 0), (33, .iload_n 2, 1, [], 0), (34, .ifCond .ne 10, 3, [], 0)]),
  (37, [(37, .aload_n 0, 1, [], 0), (38, .getfield 406, 3, [12, 48, 0, 0, 1370, 0], 0), (41, .goto 35, 3, [], 0)]),
  (44, [(44, .iload_n 2, 1, [], 0), (45, .iconst 1, 1, [], 0), (46, .if_icmp .ne 10, 3, [], 0)]),
  (49, [(49, .aload_n 0, 1, [], 0), (50, .getfield 409, 3, [12, 49, 0, 0, 1371, 0], 0), (53, .goto 23, 3, [], 0)]),
  (56, [(56, .iload_n 2, 1, [], 0), (57, .iconst 2, 1, [], 0), (58, .if_icmp .ne 10, 3, [], 0)]),
  (61, [(61, .aload_n 0, 1, [], 0), (62, .getfield 412, 3, [12, 50, 0, 0, 1372, 0], 0), (65, .goto 11, 3, [], 0)]),
  (68, [(68, .aload_n 0, 1, [], 0), (69, .aload_n 0, 1, [], 0), (70, .getfield 406, 3, [12, 48, 0, 0, 1370, 0], 0), (73, .invokevirtual 396, 3, [1, 2, 1, 148, 1757, 0, 16], 0)]),
  (76, [(76, .ireturn, 1, [], 0)])]
def MX12_ahead (n : Nat) (x1 x2 : Int) (h : Hp) : Option (Int × Hp) :=
(bndp (MX12_in x1 0 300) fun r1 =>
(if r1 = 0 then
(some ((-2147483648), h))
else
(bndp (MX12_in x2 0 3) fun r2 =>
(if r2 ≠ 0 then
(bndh (MX12_goesOn n x1 h) fun h1 =>
(if x2 ≠ 0 then
(if x2 ≠ 1 then
(if x2 ≠ 2 then
(bndp (MX12_blockAt n (h1 113 48) h1) fun r3 =>
(some (r3, h1)))
else
(some ((h1 113 50), h1)))
else
(some ((h1 113 49), h1)))
else
(some ((h1 113 48), h1))))
else
(some ((-2147483648), h))))))
def wX12_ahead {ρ : Type} (n : Nat) : FN ρ := fun a h k => match a with
  | [_, x1, x2] => bnd (MX12_ahead n x1 x2 h) (fun r h2 => k r h2)
  | _ => none
def fsX12_ahead (n : Nat) (ρ : Type) : List (FN ρ) := [wX12_in, wX12_goesOn n, wX12_blockAt n]
def KMX12_ahead (_ : Nat) : CT (Int × Hp) := []
set_option maxRecDepth 100000 in
theorem eMX12_ahead (n : Nat) (x1 : Int) (x2 : Int) (h : Hp) : MX12_ahead n x1 x2 h =
  goAt false (kct (KMX12_ahead n)) (fun v h => some ((v, h))) (fsX12_ahead n _) sdX12_ahead 1000 0 [(0, 16, 113), (1, 0, x1), (2, 0, x2)] [] h := rfl
theorem okX12_ahead : mokb (mi 177) = true := by decide +kernel
theorem rkX12_ahead : rkOK 1 (mi 177).1.2.2.2.2.2.2.1 (mi 177).1.2.2.2.1 := Or.inr (Or.inl ⟨rfl, rfl, rfl⟩)
def calX12_ahead : List Nat := [81, 176, 148]
theorem foX12_ahead {l : Launch} {ρ : Type} (n : Nat) : fsOK l false mi calX12_ahead (fsX12_ahead n ρ) := ⟨sndX12_in, ⟨(sndX12_goesOn n), ⟨(sndX12_blockAt n), trivial⟩⟩⟩
theorem ok_sdX12_ahead : sdb (mi 177).1.2.1 (insOK mi (mi 177).1.1.cls (mi 177).1.2.2.1 (mi 177).1.2.2.2.2.1 (mi 177).1.2.2.2.2.2.1 calX12_ahead false 1) sdX12_ahead = true := by decide +kernel
theorem sMX12_ahead {l : Launch} {h0 h' : Hp} {v : Int} (h8 : nOf h0 = 148) (n : Nat) (x1 : Int) (x2 : Int) (h : Hp) {r : Int × Hp} (H : MX12_ahead n x1 x2 h = some r) (hG : gWV v h' r) : PAt l false (mi 177).1 h0 v h' 0 [(0, 16, 113), (1, 0, x1), (2, 0, x2)] [] h :=
  pat_w ok_sdX12_ahead rkX12_ahead h8 (foX12_ahead n) (fun v1 h1 q => by
    cases q
    exact ⟨hG.1, fun _ => hG.2⟩) (fun q9 h9 => by cases h9) ((eMX12_ahead n x1 x2 h).symm.trans H)
theorem sndX12_ahead {ρ : Type} {l : Launch} (n : Nat) : SndF (ρ := ρ) l false (mi 177).1 (wX12_ahead n) := by
    intro a h k r H ha ho hn hf
    have h8 := hf rfl
    obtain ⟨x0, x1, x2, rfl⟩ := len3 (show a.length = 3 from ha)
    have u0 := uq16 hn (ho (16, x0) (List.mem_cons_self))
    subst u0
    replace H : bnd (MX12_ahead n x1 x2 h) (fun r h2 => k r h2) = some r := H
    obtain ⟨v2, h2, H1, H2⟩ := bnd_some H
    exact ⟨v2, h2, H2, met_mk (mok_base okX12_ahead).1 (by decide +kernel) (Nat.le_of_ble_eq_true rfl) ho (sMX12_ahead h8 n x1 x2 h H1 ⟨rfl, rfl⟩), fun q => by cases q⟩
/-! X1_ticksToEnd -/
def sdX1_ticksToEnd : SD := [(0, [(0, .iconst 0, 1, [], 0), (1, .istore_n 3, 1, [], 0)]),
  (2, [(2, .iload_n 3, 1, [], 0), (3, .iload_n 2, 1, [], 0), (4, .if_icmp .gt 25, 3, [], 0)]),
  (7, [(7, .aload_n 0, 1, [], 0), (8, .aload_n 1, 1, [], 0), (9, .invokevirtual 124, 3, [1, 0, 1, 123, 1125, 12, 5], 0), (12, .ifCond .eq 5, 3, [], 0)]),
  (15, [(15, .iload_n 3, 1, [], 0), (16, .ireturn, 1, [], 0)]),
  (17, [(17, .aload_n 0, 1, [], 0), (18, .aload_n 1, 1, [], 0), (19, .invokevirtual 128, 3, [1, 1, 1, 135, 1126, 12, 5], 0), (22, .pop, 1, [], 0), (23, .iinc 3 1, 3, [], 0), (26, .goto (-24), 3, [], 0)]),
  (29, [(29, .bipush (-2), 2, [], 0), (31, .ireturn, 1, [], 0)])]
def BX1_ticksToEnd_2 (n : Nat) : Nat → Int → Int → Int → Int → Hp → Option (Int × Hp)
  | 0, _, _, _, _, _ => none
  | f + 1, x0, x1, x2, x3, h =>
    (if x2 < x3 then
    (some ((-2), h))
    else
    (bndp (MX1_isDone x0 x1 h) fun r1 =>
    (if r1 = 0 then
    (bnd (MX1_tick n x0 x1 h) fun r2 h1 =>
    (ltt (w32 (x3 + 1)) fun y1 =>
    (BX1_ticksToEnd_2 n f x0 x1 x2 y1 h1)))
    else
    (some (x3, h)))))
def LX1_ticksToEnd_2 (n : Nat) (x0 x1 x2 x3 : Int) (h : Hp) : Option (Int × Hp) :=
(BX1_ticksToEnd_2 n n x0 x1 x2 x3 h)
def MX1_ticksToEnd (n : Nat) (x0 x1 x2 : Int) (h : Hp) : Option (Int × Hp) :=
(ltt 0 fun y1 =>
(LX1_ticksToEnd_2 n x0 x1 x2 y1 h))
def wX1_ticksToEnd {ρ : Type} (n : Nat) : FN ρ := fun a h k => match a with
  | [x0, x1, x2] => bnd (MX1_ticksToEnd n x0 x1 x2 h) (fun r h2 => k r h2)
  | _ => none
def fsX1_ticksToEnd (n : Nat) (ρ : Type) : List (FN ρ) := [wX1_isDone, wX1_tick n]
def KBX1_ticksToEnd_2 (_ : Nat) (bk : Int → Int → Int → Int → Hp → Option (Int × Hp)) : CT (Int × Hp) := [(2, [(0, 5, none), (1, 12, none), (2, 0, none), (3, 0, none)], [], fun a c h => match a, c with
    | [x0, x1, x2, x3], [] => bk x0 x1 x2 x3 h
    | _, _ => none)]
set_option maxRecDepth 100000 in
theorem eBX1_ticksToEnd_2 (n f : Nat) (x0 : Int) (x1 : Int) (x2 : Int) (x3 : Int) (h : Hp) : BX1_ticksToEnd_2 n (f + 1) x0 x1 x2 x3 h =
  goAt false (kct (KBX1_ticksToEnd_2 n (BX1_ticksToEnd_2 n f))) (fun v h => some ((v, h))) (fsX1_ticksToEnd n _) sdX1_ticksToEnd 1000 2 [(0, 5, x0), (1, 12, x1), (2, 0, x2), (3, 0, x3)] [] h := rfl
def KMX1_ticksToEnd (n : Nat) : CT (Int × Hp) := [(2, [(0, 5, none), (1, 12, none), (2, 0, none), (3, 0, none)], [], fun a c h => match a, c with
    | [x0, x1, x2, x3], [] => LX1_ticksToEnd_2 n x0 x1 x2 x3 h
    | _, _ => none)]
set_option maxRecDepth 100000 in
theorem eMX1_ticksToEnd (n : Nat) (x0 : Int) (x1 : Int) (x2 : Int) (h : Hp) : MX1_ticksToEnd n x0 x1 x2 h =
  goAt false (kct (KMX1_ticksToEnd n)) (fun v h => some ((v, h))) (fsX1_ticksToEnd n _) sdX1_ticksToEnd 1000 0 [(0, 5, x0), (1, 12, x1), (2, 0, x2)] [] h := rfl
theorem okX1_ticksToEnd : mokb (mi 178) = true := by decide +kernel
theorem rkX1_ticksToEnd : rkOK 1 (mi 178).1.2.2.2.2.2.2.1 (mi 178).1.2.2.2.1 := Or.inr (Or.inl ⟨rfl, rfl, rfl⟩)
def calX1_ticksToEnd : List Nat := [123, 135]
theorem foX1_ticksToEnd {l : Launch} {ρ : Type} (n : Nat) : fsOK l false mi calX1_ticksToEnd (fsX1_ticksToEnd n ρ) := ⟨sndX1_isDone, ⟨(sndX1_tick n), trivial⟩⟩
theorem ok_sdX1_ticksToEnd : sdb (mi 178).1.2.1 (insOK mi (mi 178).1.1.cls (mi 178).1.2.2.1 (mi 178).1.2.2.2.2.1 (mi 178).1.2.2.2.2.2.1 calX1_ticksToEnd false 1) sdX1_ticksToEnd = true := by decide +kernel
theorem sBX1_ticksToEnd_2 {l : Launch} {h0 h' : Hp} {v : Int} (h8 : nOf h0 = 148) (n : Nat) : ∀ (f : Nat) (x0 : Int) (x1 : Int) (x2 : Int) (x3 : Int) (h : Hp) {r : Int × Hp}, BX1_ticksToEnd_2 n f x0 x1 x2 x3 h = some r → gWV v h' r → PAt l false (mi 178).1 h0 v h' 2 [(0, 5, x0), (1, 12, x1), (2, 0, x2), (3, 0, x3)] [] h := by
  intro f
  induction f with
  | zero =>
    intro x0 x1 x2 x3 h r H _
    have H2 : (none : Option (Int × Hp)) = some r := H
    cases H2
  | succ f ih =>
    intro x0 x1 x2 x3 h r H hG
    exact pat_w ok_sdX1_ticksToEnd rkX1_ticksToEnd h8 (foX1_ticksToEnd n) (fun v1 h1 q => by
    cases q
    exact ⟨hG.1, fun _ => hG.2⟩) (List.forall_mem_cons.mpr ⟨(fun a c h H => by
      dsimp only at H
      split at H
      · exact ih _ _ _ _ _ H hG
      · cases H), (fun q9 h9 => by cases h9)⟩) ((eBX1_ticksToEnd_2 n f x0 x1 x2 x3 h).symm.trans H)
theorem sLX1_ticksToEnd_2 {l : Launch} {h0 h' : Hp} {v : Int} (h8 : nOf h0 = 148) (n : Nat) (x0 : Int) (x1 : Int) (x2 : Int) (x3 : Int) (h : Hp) {r : Int × Hp} (H : LX1_ticksToEnd_2 n x0 x1 x2 x3 h = some r) (hG : gWV v h' r) : PAt l false (mi 178).1 h0 v h' 2 [(0, 5, x0), (1, 12, x1), (2, 0, x2), (3, 0, x3)] [] h :=
  sBX1_ticksToEnd_2 h8 n n x0 x1 x2 x3 h H hG
theorem sMX1_ticksToEnd {l : Launch} {h0 h' : Hp} {v : Int} (h8 : nOf h0 = 148) (n : Nat) (x0 : Int) (x1 : Int) (x2 : Int) (h : Hp) {r : Int × Hp} (H : MX1_ticksToEnd n x0 x1 x2 h = some r) (hG : gWV v h' r) : PAt l false (mi 178).1 h0 v h' 0 [(0, 5, x0), (1, 12, x1), (2, 0, x2)] [] h :=
  pat_w ok_sdX1_ticksToEnd rkX1_ticksToEnd h8 (foX1_ticksToEnd n) (fun v1 h1 q => by
    cases q
    exact ⟨hG.1, fun _ => hG.2⟩) (List.forall_mem_cons.mpr ⟨(fun a c h H => by
      dsimp only at H
      split at H
      · exact sLX1_ticksToEnd_2 h8 n _ _ _ _ _ H hG
      · cases H), (fun q9 h9 => by cases h9)⟩) ((eMX1_ticksToEnd n x0 x1 x2 h).symm.trans H)
theorem sndX1_ticksToEnd {ρ : Type} {l : Launch} (n : Nat) : SndF (ρ := ρ) l false (mi 178).1 (wX1_ticksToEnd n) := by
    intro a h k r H ha ho hn hf
    have h8 := hf rfl
    obtain ⟨x0, x1, x2, rfl⟩ := len3 (show a.length = 3 from ha)
    replace H : bnd (MX1_ticksToEnd n x0 x1 x2 h) (fun r h2 => k r h2) = some r := H
    obtain ⟨v2, h2, H1, H2⟩ := bnd_some H
    exact ⟨v2, h2, H2, met_mk (mok_base okX1_ticksToEnd).1 (by decide +kernel) (Nat.le_of_ble_eq_true rfl) ho (sMX1_ticksToEnd h8 n x0 x1 x2 h H1 ⟨rfl, rfl⟩), fun q => by cases q⟩
/-! X11_till -/
def sdX11_till : SD := [(0, [(0, .aload_n 0, 1, [], 0), (1, .getfield 47, 3, [11, 5, 5, 1, 695, 0], 50), (4, .aload_n 0, 1, [], 0), (5, .getfield 57, 3, [11, 7, 12, 1, 697, 0], 64), (8, .invokevirtual 188, 3, [1, 0, 1, 123, 1007, 12, 5], 0), (11, .ifCond .eq 5, 3, [], 0)]),
  (14, [(14, .iconst 0, 1, [], 0), (15, .ireturn, 1, [], 0)]),
  (16, [(16, .aload_n 0, 1, [], 0), (17, .getfield 57, 3, [11, 7, 12, 1, 697, 0], 64), (20, .getfield 206, 3, [8, 5, 0, 0, 497, 0], 0), (23, .ifCond .eq 6, 3, [], 0)]),
  (26, [(26, .bipush (-2), 2, [], 0), (28, .ireturn, 1, [], 0)]),
  (29, [(29, .aload_n 0, 1, [], 0), (30, .getfield 61, 3, [11, 8, 12, 1, 698, 0], 65), (33, .aload_n 0, 1, [], 0), (34, .getfield 57, 3, [11, 7, 12, 1, 697, 0], 64), (37, .invokevirtual 225, 3, [0, 1, 1, 124, 1120, 12, 12], 0), (40, .aload_n 0, 1, [], 0), (41, .getfield 47, 3, [11, 5, 5, 1, 695, 0], 50), (44, .aload_n 0, 1, [], 0), (45, .getfield 61, 3, [11, 8, 12, 1, 698, 0], 65), (48, .sipush 3000, 3, [], 0), (51, .invokevirtual 241, 3, [1, 2, 1, 178, 1131, 0, 12, 5], 0), (54, .ireturn, 1, [], 0)])]
def MX11_till (n : Nat) (h : Hp) : Option (Int × Hp) :=
(bndp (MX1_isDone 50 64 h) fun r1 =>
(if r1 = 0 then
(if (h 64 5) = 0 then
(bndh (MX8_become 65 64 h) fun h1 =>
(bnd (MX1_ticksToEnd n 50 65 3000 h1) fun r2 h2 =>
(some (r2, h2))))
else
(some ((-2), h)))
else
(some (0, h))))
def wX11_till {ρ : Type} (n : Nat) : FN ρ := fun a h k => match a with
  | [_] => bnd (MX11_till n h) (fun r h2 => k r h2)
  | _ => none
def fsX11_till (n : Nat) (ρ : Type) : List (FN ρ) := [wX1_isDone, wX8_become, wX1_ticksToEnd n]
def KMX11_till (_ : Nat) : CT (Int × Hp) := []
set_option maxRecDepth 100000 in
theorem eMX11_till (n : Nat) (h : Hp) : MX11_till n h =
  goAt false (kct (KMX11_till n)) (fun v h => some ((v, h))) (fsX11_till n _) sdX11_till 1000 0 [(0, 15, 0)] [] h := rfl
theorem okX11_till : mokb (mi 179) = true := by decide +kernel
theorem rkX11_till : rkOK 1 (mi 179).1.2.2.2.2.2.2.1 (mi 179).1.2.2.2.1 := Or.inr (Or.inl ⟨rfl, rfl, rfl⟩)
def calX11_till : List Nat := [123, 124, 178]
theorem foX11_till {l : Launch} {ρ : Type} (n : Nat) : fsOK l false mi calX11_till (fsX11_till n ρ) := ⟨sndX1_isDone, ⟨sndX8_become, ⟨(sndX1_ticksToEnd n), trivial⟩⟩⟩
theorem ok_sdX11_till : sdb (mi 179).1.2.1 (insOK mi (mi 179).1.1.cls (mi 179).1.2.2.1 (mi 179).1.2.2.2.2.1 (mi 179).1.2.2.2.2.2.1 calX11_till false 1) sdX11_till = true := by decide +kernel
theorem sMX11_till {l : Launch} {h0 h' : Hp} {v : Int} (h8 : nOf h0 = 148) (n : Nat)  (h : Hp) {r : Int × Hp} (H : MX11_till n h = some r) (hG : gWV v h' r) : PAt l false (mi 179).1 h0 v h' 0 [(0, 15, 0)] [] h :=
  pat_w ok_sdX11_till rkX11_till h8 (foX11_till n) (fun v1 h1 q => by
    cases q
    exact ⟨hG.1, fun _ => hG.2⟩) (fun q9 h9 => by cases h9) ((eMX11_till n h).symm.trans H)
theorem sndX11_till {ρ : Type} {l : Launch} (n : Nat) : SndF (ρ := ρ) l false (mi 179).1 (wX11_till n) := by
    intro a h k r H ha ho hn hf
    have h8 := hf rfl
    obtain ⟨x0, rfl⟩ := len1 (show a.length = 1 from ha)
    have u0 := uq15 hn (ho (15, x0) (List.mem_cons_self))
    subst u0
    replace H : bnd (MX11_till n h) (fun r h2 => k r h2) = some r := H
    obtain ⟨v2, h2, H1, H2⟩ := bnd_some H
    exact ⟨v2, h2, H2, met_mk (mok_base okX11_till).1 (by decide +kernel) (Nat.le_of_ble_eq_true rfl) ho (sMX11_till h8 n  h H1 ⟨rfl, rfl⟩), fun q => by cases q⟩
