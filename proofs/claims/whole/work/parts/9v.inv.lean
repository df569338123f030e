/-! WHAT IS ALWAYS TRUE. -/
/-- the program alone -/
def pg (h : Hp) : Hp := fun c => if c = 115 then h 115 else if c = 122 then h 122 else if c = 123 then h 123 else if c = 124 then h 124 else if c = 125 then h 125 else if c = 126 then h 126 else if c = 113 then (fun i => if i = 5 then h 113 5 else if i = 6 then h 113 6 else if i = 7 then h 113 7 else 0) else fun _ => 0
theorem pg_wf {h : Hp} : WFp (pg h) = WFp h := rfl
theorem pg_rw {m h : Hp} {w : Int} : RW (pg m) h w = RW m h w := rfl
theorem pg_nB {h : Hp} : nB (pg h) = nB h := rfl
theorem pg_ee {h : Hp} : ee (pg h) = ee h := rfl
theorem pg_lb {h : Hp} : lb (pg h) = lb h := rfl
theorem pg_cut {h : Hp} : cutS (pg h) = cutS h := rfl
theorem pg_pace {h : Hp} : paceS (pg h) = paceS h := rfl
theorem pg_lim {h : Hp} : limS (pg h) = limS h := rfl
theorem pg_rchN {h : Hp} (j : Int) : ∀ k, rchN (pg h) j k = rchN h j k
  | 0 => rfl
  | k + 1 => by
    show min (rchN (pg h) j k) (lb (pg h) k 3 / j) = _
    rw [pg_rchN j k]
    rfl
theorem pg_rch {h : Hp} : rchS (pg h) = rchS h := by
  funext j
  show max 1 (rchN (pg h) j (nB (pg h)).toNat) = _
  rw [pg_rchN]
  rfl
theorem pg_spR {h : Hp} : ∀ k, spR (pg h) k = spR h k
  | 0 => rfl
  | k + 1 => by
    show spS (pg h) (spR (pg h) k) k = spS h (spR h k) k
    rw [pg_spR k]
    rfl
theorem pg_spT {h : Hp} : spT (pg h) = spT h := by
  show (if nB h ≤ 0 then spR (pg h) 0 else spR (pg h) (nB h + 1).toNat) = _
  rw [pg_spR, pg_spR]
  rfl
theorem pg_flk {h : Hp} : flk (pg h) = flk h := rfl
theorem pg_twR {h : Hp} : ∀ k, twR (pg h) k = twR h k
  | 0 => rfl
  | k + 1 => by
    show twR (pg h) k + (if flk (pg h) k = k then 0 else 1) = _
    rw [pg_twR k]
    rfl
theorem pg_lcR {h : Hp} (v : Int) : ∀ k, lcR (pg h) v k = lcR h v k
  | 0 => rfl
  | k + 1 => by
    show lcR (pg h) v k + (if gD (pg h) k 2 = 0 ∧ hz (pg h) k = v then 1 else 0) = _
    rw [pg_lcR v k]
    rfl
theorem pg_llR {h : Hp} (v : Int) : ∀ k, llR (pg h) v k = llR h v k
  | 0 => rfl
  | k + 1 => by
    show llR (pg h) v k + (if gD (pg h) k 2 = 0 ∧ hz (pg h) k = v then ln (pg h) k else 0) = _
    rw [pg_llR v k]
    rfl
theorem pg_lyR {h : Hp} : ∀ k, lyR (pg h) k = lyR h k
  | 0 => rfl
  | k + 1 => by
    show lyS (pg h) (lyR (pg h) k) (k : Int) = lyS h (lyR h k) k
    rw [pg_lyR k]
    rfl
theorem pg_mtI {h : Hp} (i : Int) : ∀ (r : Nat) (k : Int) (T), mtI (pg h) i r k T = mtI h i r k T
  | 0, k, T => rfl
  | r + 1, k, T => by
    show mtI (pg h) i r (k + 1) (mtS (pg h) T i k) = mtI h i r (k + 1) (mtS h T i k)
    rw [pg_mtI i r]
    rfl
theorem pg_mtO {h : Hp} : ∀ (r : Nat) (i : Int) (T), mtO (pg h) r i T = mtO h r i T
  | 0, i, T => rfl
  | r + 1, i, T => by
    show mtO (pg h) r (i + 1) (mtI (pg h) i (nB h - (i + 2)).toNat (i + 2) T) = mtO h r (i + 1) (mtI h i (nB h - (i + 2)).toNat (i + 2) T)
    rw [pg_mtO r, pg_mtI]
theorem pg_mtA {h : Hp} : mtA (pg h) = mtA h := pg_mtO _ _ _
theorem pg_kpN {h : Hp} : ∀ k, kpN (pg h) k = kpN h k
  | 0 => rfl
  | k + 1 => by
    show kpN (pg h) k + (if flk (pg h) k = k then 1 else 0) = _
    rw [pg_kpN k]
    rfl
theorem pg_pB {h : Hp} : ∀ (r : Nat) (x : Int) (P), pB (pg h) r x P = pB h r x P
  | 0, i, T => rfl
  | r + 1, x, P => by
    show pB (pg h) r (x - 1) (updI P x (min (P x) (ovr h x (P (x + 1))))) = _
    rw [pg_pB r]
    rfl
theorem pg_pF {h : Hp} : ∀ (r : Nat) (x : Int) (P), pF (pg h) r x P = pF h r x P
  | 0, i, T => rfl
  | r + 1, x, P => by
    show pF (pg h) r (x + 1) (updI P (x + 1) (min (P (x + 1)) (ovr h x (P x)))) = _
    rw [pg_pF r]
    rfl
theorem pg_pass {h : Hp} : passS (pg h) = passS h := by
  funext t j
  show pF (pg h) (nB h).toNat 0 (pB (pg h) (nB h - 1).toNat (nB h - 1) (pP h t j)) = _
  rw [pg_pF, pg_pB]
  rfl
theorem pg_block {m m' : Hp} (e : pg m' = pg m) (e4 : m' 113 45 = m 113 45) : blockS m' = blockS m := by
  have a1 : nB m' = nB m := (show nB (pg m') = nB (pg m) from congrArg nB e)
  have a2 : m' 122 = m 122 := congrFun e 122
  have a3 : m' 123 = m 123 := congrFun e 123
  have a4 : m' 124 = m 124 := congrFun e 124
  have a5 : m' 115 = m 115 := congrFun e 115
  have a6 : ln m' = ln m := (show ln (pg m') = ln (pg m) from congrArg ln e)
  have a7 : lb m' = lb m := (show lb (pg m') = lb (pg m) from congrArg lb e)
  have a8 : limS m' = limS m := (show limS (pg m') = limS (pg m) from congrArg limS e)
  have a9 : passS m' = passS m := by rw [← pg_pass (h := m'), e, pg_pass]
  funext x y
  unfold blockS
  rw [a1, a2, a3, a4, a5, a6, a7, a8, a9, e4]
theorem pg_keep {m m' : Hp} (e : pg m' = pg m) : keepS m' = keepS m := by
  funext k
  unfold keepS
  have a1 : nB m' = nB m := (show nB (pg m') = nB (pg m) from congrArg nB e)
  rw [a1, ← pg_kpN (h := m'), e, pg_kpN]
theorem pg_ce {m m' h : Hp} (e : pg m' = pg m) {D w t j p : Int} (C : CE m h D w t j p) : CE m' h D w t j p := by
  have a1 : nB m' = nB m := (show nB (pg m') = nB (pg m) from congrArg nB e)
  have a2 : rchS m' = rchS m := by rw [← pg_rch (h := m'), e, pg_rch]
  have a3 : cutS m' = cutS m := (show cutS (pg m') = cutS (pg m) from congrArg cutS e)
  have a4 : paceS m' = paceS m := (show paceS (pg m') = paceS (pg m) from congrArg paceS e)
  have a5 : limS m' = limS m := (show limS (pg m') = limS (pg m) from congrArg limS e)
  have a6 : RW m' h w = RW m h w := (show RW (pg m') h w = RW (pg m) h w from congrArg (fun x => RW x h w) e)
  unfold CE RLc at C ⊢
  rw [a1, a2, a3, a4, a5, a6]
  exact C
theorem pg_sh {m m' h : Hp} (e : pg m' = pg m) {w : Int} (C : RSh m h w) : RSh m' h w := by
  have a1 : nB m' = nB m := (show nB (pg m') = nB (pg m) from congrArg nB e)
  have a2 : spT m' = spT m := by rw [← pg_spT (h := m'), e, pg_spT]
  have a3 : flk m' = flk m := (show flk (pg m') = flk (pg m) from congrArg flk e)
  have a4 : twR m' = twR m := by funext k; rw [← pg_twR (h := m'), e, pg_twR]
  have a5 : lcR m' = lcR m := by funext v k; rw [← pg_lcR (h := m'), e, pg_lcR]
  have a6 : llR m' = llR m := by funext v k; rw [← pg_llR (h := m'), e, pg_llR]
  have a7 : lyR m' = lyR m := by funext k; rw [← pg_lyR (h := m'), e, pg_lyR]
  have a8 : mtA m' = mtA m := by rw [← pg_mtA (h := m'), e, pg_mtA]
  have a9 : m' 122 = m 122 := congrFun e 122
  unfold RSh CSp CFi CLy at C ⊢
  rw [a1, a2, a3, a4, a5, a6, a7, a8, a9]
  exact C
/-- the state of a ride, as it may be -/
def RSt (m : Hp) (s w u : Int) : Prop := RS (nB m) (m 115 6) (rchS m (m 115 6)) (ee m) s w u
theorem pg_rst {m m' : Hp} (e : pg m' = pg m) {s w u : Int} (C : RSt m s w u) : RSt m' s w u := by
  have a1 : nB m' = nB m := (show nB (pg m') = nB (pg m) from congrArg nB e)
  have a2 : rchS m' = rchS m := by rw [← pg_rch (h := m'), e, pg_rch]
  have a3 : ee m' = ee m := (show ee (pg m') = ee (pg m) from congrArg ee e)
  have a4 : m' 115 = m 115 := congrFun e 115
  unfold RSt at C ⊢
  rw [a1, a2, a3, a4]
  exact C
/-- a row of states of the model that may be laid -/
def RWo (m : Hp) (c r : Int) : Prop := RSt m (m c r) (m c (r + 1)) (m c (r + 2)) ∧ (1 ≤ m c (r + 3) ∧ m c (r + 3) ≤ 200) ∧ (m c (r + 4) = 0 ∨ m c (r + 4) = 1)
/-- the cell x of the class holds the row r of the model's cell c -/
def SRo (m h : Hp) (x c r : Int) : Prop := CR m h x (m c r) (m c (r + 1)) (m c (r + 2)) ∧ h x 4 = m c (r + 3) ∧ h x 5 = m c (r + 4) ∧ h x 6 = m c (r + 5)
/-- what is always true of the model -/
def MI (m : Hp) : Prop := WFp m ∧ (1 ≤ m 113 45 ∧ m 113 45 ≤ 200) ∧ (m 113 47 = 0 ∨ m 113 47 = 1) ∧ RSt m (m 113 42) (m 113 43) (m 113 44) ∧ (0 ≤ m 113 54 ∧ m 113 54 ≤ 20) ∧ (∀ k, 0 ≤ k → k < m 113 54 → RWo m 138 (6 * k)) ∧ (∀ k, 0 ≤ k → k < 3 → (m 147 k = 0 ∨ m 147 k = 1) ∧ (m 147 k = 1 → RWo m 146 (6 * k))) ∧ ∀ k, 0 ≤ k → k ≤ 1 → -1 ≤ m 144 k ∧ m 144 k ≤ 64
def slot (x y k : Int) : Int := (x - y + k) % 20
/-- what the class has of what the model has -/
def CI (m h : Hp) : Prop :=
  ((h 0 2 = 1 ∨ h 0 2 = 14) ∧ h 0 3 = 15 - h 0 2) ∧ (CE m h 50 (h 0 2) (m 115 7) (m 115 6) (m 113 45) ∧ h 52 2 = m 113 45 ∧ h 50 2 = rchS m (m 115 6)) ∧ (FC h 57 (h 57 2) ∧ 1 ≤ h 57 2 ∧ h 57 2 ≤ 12) ∧
  (CR m h 64 (m 113 42) (m 113 43) (m 113 44) ∧ h 64 4 = m 113 45 ∧ h 64 5 = m 113 47 ∧ h 64 6 = m 113 46) ∧
  (h 66 2 = m 113 54 ∧ (0 ≤ h 66 1 ∧ h 66 1 < 20) ∧ ∀ k, 0 ≤ k → k < m 113 54 → SRo m h (68 + slot (h 66 1) (h 66 2) k) 138 (6 * k)) ∧
  (∀ k, 0 ≤ k → k < 3 → h 92 k = m 147 k ∧ (m 147 k = 1 → SRo m h (89 + k) 146 (6 * k))) ∧ RSh m h (h 0 2) ∧ RK m h ∧ RLs h ∧ TPR h m
def Inv (h : Hp) : Prop := MI h ∧ CI h h
/-- the class's own scratch -/
def scr (c : Int) : Prop := c = 51 ∨ c = 56 ∨ (57 ≤ c ∧ c ≤ 63) ∨ c = 65 ∨ c = 110 ∨ c = 111 ∨ c = 112
