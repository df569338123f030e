/-! A LINE: both programs. -/
theorem kw0 {T : Int → Int} {a : Int} : kwS T a 0 = -1 := by
  have f : ∀ k : Int, 0 ≤ k → k < 8 → ¬ kwb T a 0 k = true := fun k k0 k1 q => by
    unfold kwb at q
    rw [Bool.and_eq_true] at q
    have := of_decide_eq_true q.1
    have := (sl_b k0 k1).1
    omega
  unfold kwS
  rw [fnd8, if_neg (f 0 (by decide) (by decide)), if_neg (f 1 (by decide) (by decide)), if_neg (f 2 (by decide) (by decide)), if_neg (f 3 (by decide) (by decide)), if_neg (f 4 (by decide) (by decide)), if_neg (f 5 (by decide) (by decide)), if_neg (f 6 (by decide) (by decide)), if_neg (f 7 (by decide) (by decide))]
theorem kw_r {T : Int → Int} {a l : Int} : kwS T a l = -1 ∨ (0 ≤ kwS T a l ∧ kwS T a l ≤ 7) := by
  unfold kwS
  have q := fnd_ok (p := kwb T a l) 8 0
  split
  · exact Or.inl rfl
  · exact Or.inr (by omega)
/-- the class's reader between two lines -/
def Rk (h : Hp) (T : Int → Int) (z : Int) (s : St3) : Prop := h 29 8 = s.1 ∧ (s.1 = -1 → TPc h T z s.2.1) ∧ (s.1 ≠ -1 → 0 ≤ s.1)
theorem Rc.k {h : Hp} {T : Int → Int} {z : Int} {s : St3} (A : Rc h T z s) : Rk h T z s := ⟨A.1, fun q => (A.2.1 q).1, A.2.2⟩
/-- what is true of both programs between two lines -/
def LNI (hc hm : Hp) (T : Int → Int) (z w : Int) (s : St3) : Prop :=
  Rk hc T z s ∧ Rm hm T z s ∧ hc 29 7 = w ∧ (s.1 = -1 → PG hc hm T z w) ∧ (hc 29 10 = hm 113 33 ∧ (hm 113 33 = 0 ∨ hm 113 33 = 1)) ∧ ((0 ≤ hm 113 32 ∧ hm 113 32 < 8) ∧ ∀ k, 0 ≤ k → k < 3 → hc 38 k = tbt (hm 113 32) k) ∧ (s.1 = -1 → hm 113 33 = 0 → hm 113 2 = 0 ∧ hm 113 3 = 0 ∧ hm 113 4 = 0)
/-- what reading may change -/
def FRB (w : Int) (h h' : Hp) : Prop := (∀ c, c ≠ 27 → c ≠ 29 → (c < 30 ∨ 38 < c) → (c < w ∨ w + 12 < c) → h' c = h c) ∧ ∀ i, i < 2 → h' 27 i = h 27 i
theorem FRB.rf {w : Int} {h : Hp} : FRB w h h := ⟨fun _ _ _ _ _ => rfl, fun _ _ => rfl⟩
theorem FRB.tr {w : Int} {h g k : Hp} (a : FRB w h g) (b : FRB w g k) : FRB w h k := ⟨fun c h1 h2 h3 h4 => (b.1 c h1 h2 h3 h4).trans (a.1 c h1 h2 h3 h4), fun i hi => (b.2 i hi).trans (a.2 i hi)⟩
theorem FRA.rb {w : Int} {h g : Hp} (a : FRA w h g) : FRB w h g := ⟨fun c h1 h2 h3 h4 => a.1 c h1 h2 (by omega) h4, a.2.1⟩
def FMB (h h' : Hp) : Prop := (∀ c, c ≠ 113 → c ≠ 114 → (c < 116 ∨ 121 < c) → c ≠ 128 → c ≠ 129 → c ≠ 130 → c ≠ 131 → h' c = h c) ∧ ∀ i, i ≠ 2 → i ≠ 3 → i ≠ 4 → (i < 21 ∨ 27 < i) → i ≠ 30 → i ≠ 32 → i ≠ 33 → h' 113 i = h 113 i
theorem FMB.rf {h : Hp} : FMB h h := ⟨fun _ _ _ _ _ _ _ _ => rfl, fun _ _ _ _ _ _ _ _ => rfl⟩
theorem FMB.tr {h g k : Hp} (a : FMB h g) (b : FMB g k) : FMB h k := ⟨fun c h1 h2 h3 h4 h5 h6 h7 => (b.1 c h1 h2 h3 h4 h5 h6 h7).trans (a.1 c h1 h2 h3 h4 h5 h6 h7), fun i h1 h2 h3 h4 h5 h6 h7 => (b.2 i h1 h2 h3 h4 h5 h6 h7).trans (a.2 i h1 h2 h3 h4 h5 h6 h7)⟩
theorem FML.mb {h g : Hp} (a : FML h g) : FMB h g := ⟨fun c h1 _ h3 h4 h5 h6 h7 => a.1 c h1 h3 h4 h5 h6 h7, fun i h1 h2 h3 h4 h5 _ _ => a.2 i h1 h2 h3 h4 h5⟩
section
variable {n : Nat}
theorem keyword_w (hn : 1000 ≤ n) {h : Hp} {T : Int → Int} {z a : Int} (a0 : 0 ≤ a) (az : a ≤ z) (h3 : h 27 3 = a) (h2 : h 27 2 = tkK T z a) (A : TPc h T z (tkE T z a)) : MX6_keyword n h = some (kwS T a (wnd T z a - a)) := by
  have eb := A.2.2.1
  have ab : a ≤ tkE T z a := by
    by_cases hk : tkK T z a = 1
    · rw [en_w az hk]
      exact (wnd_b az).1
    · unfold tkE
      split
      · exact Int.le_refl a
      · split
        · exact (wnd_b az).1
        · split
          · exact (dnd_b az).1
          · omega
  rw [keyword_c (by omega) A h3 a0 ab, h2]
  by_cases hk : tkK T z a = 1
  · rw [if_pos hk, en_w az hk]
  · have l0 : wnd T z a - a = 0 := by
      have := (wnd_b (T := T) az).1
      have := fun (q : 1 ≤ wnd T z a - a) => hk ((kd_w (T := T) az).mpr q)
      have h1 : ¬ 1 ≤ wnd T z a - a := this
      omega
    rw [if_neg hk, l0, kw0]
/-- a line of settings -/
theorem setLine (hn : 1000 ≤ n) {hc hm : Hp} {T : Int → Int} {z w k a : Int} {s : St3} (hw : w = 1 ∨ w = 14) (hk : 0 ≤ k ∧ k ≤ 2) (A : Rc hc T z s) (hs : s.1 = -1) (sa : s.2.2 = a) (ha : 0 ≤ a ∧ a ≤ 400) (B : Rm hm T z s) (e7 : hc 29 7 = w) (P : PG hc hm T z w) (eo : hc 29 10 = hm 113 33) (et : (0 ≤ hm 113 32 ∧ hm 113 32 < 8) ∧ ∀ k, 0 ≤ k → k < 3 → hc 38 k = tbt (hm 113 32) k) (e0 : hm 113 33 = 0 → hm 113 2 = 0 ∧ hm 113 3 = 0 ∧ hm 113 4 = 0) : ∃ hc1 hc2 hm' s', MX6_readSetting n k hc = some hc1 ∧ JX6_readLine_65 n k hc1 = some (k, hc2) ∧ (if hm 113 33 = 0 then (if tbt (hm 113 32) k = 1 then MX12_fails 3 a hm else MX12_readsSetting n k hm) else MX12_fails 1 a hm) = some hm' ∧ FRB w hc hc2 ∧ FMB hm hm' ∧ hm' 113 33 = hm 113 33 ∧ Rc hc2 T z s' ∧ Rm hm' T z s' ∧ (s'.1 = -1 → LNI hc2 hm' T z w s' ∧ s.2.1 < s'.2.1) := by
  have c3 : hc 27 3 = a := (A.2.1 hs).2.1.trans sa
  have c8 : hc 29 8 = -1 := A.1.trans hs
  have bs := A.bd hs
  have h38 : hc 38 k = tbt (hm 113 32) k := et.2 k hk.1 (by omega)
  have t01 : tbt (hm 113 32) k = 0 ∨ tbt (hm 113 32) k = 1 := by
    unfold tbt
    split
    · omega
    · split <;> omega
  -- where it can't stand
  have bad : ∀ v : Int, v = 1 ∨ v = 3 → ∃ hc1 hc2, JX6_readSetting_57 n k (up hc 29 8 (8 * a + v)) = some hc1 ∧ JX6_readLine_65 n k hc1 = some (k, hc2) ∧ FRB w hc hc2 ∧ Rc hc2 T z (8 * a + v, s.2) ∧ MX12_fails v a hm = some (up hm 113 22 (8 * a + v)) ∧ Rm (up hm 113 22 (8 * a + v)) T z (8 * a + v, s.2) := fun v hv => by
    have A1 : Rc (up hc 29 8 (8 * a + v)) T z (8 * a + v, s.2) := ⟨up_s, fun q => by have : 8 * a + v = -1 := q; omega, fun _ => by show 0 ≤ 8 * a + v; omega⟩
    have B1 : Rm (up hm 113 22 (8 * a + v)) T z (8 * a + v, s.2) := ⟨up_s, fun q => by have : 8 * a + v = -1 := q; omega, fun _ => by show 0 ≤ 8 * a + v; omega⟩
    have S1 : STR (up hc 29 8 (8 * a + v)) (up hm 113 22 (8 * a + v)) w := P.str.mv (up_row (by omega)) (up_c (by omega)) (up_c (by omega)) (up_row (by decide))
    obtain ⟨hc1, hc2, -, x1, x2, -, f1, f2, f3, f4, f5, -, -, r1, -, -⟩ := sets hn hw hk A1 B1 ((up_i (by decide)).trans e7) S1 (up_i (by decide)) et.1
    have rf : rdE T z (rdK T z k (8 * a + v, s.2)) = (8 * a + v, s.2) := by
      have nf : ¬ (8 * a + v) = -1 := by omega
      have e1 : ∀ lo hi, (rdU T z lo hi (8 * a + v, s.2)).1 = (8 * a + v, s.2) := fun lo hi => by rw [rdU_f nf]
      have e2 : ∀ (r : Nat) (i : Int), rdA T z r i (8 * a + v, s.2) = (8 * a + v, s.2) := fun r => by
        induction r with
        | zero => exact fun i => rfl
        | succ r ih =>
          intro i
          show rdA T z r (i + 1) (rdU T z 1 (if i < 3 then 5000 else 500) (8 * a + v, s.2)).1 = _
          rw [e1]
          exact ih (i + 1)
      have e3 : rdK T z k (8 * a + v, s.2) = (8 * a + v, s.2) := by
        unfold rdK
        rw [e2, e1, e1]
        split
        · rfl
        · split <;> rfl
      rw [e3, rdE_f nf]
    rw [rf] at r1
    refine ⟨hc1, hc2, x1, x2, ⟨fun c h1 h2 h3 h4 => (f1 c h1 h2 (by omega) (by omega) (by omega)).trans (up_row h2), fun i hi => (f2 i hi).trans (up_c (by decide))⟩, r1, ?_, B1⟩
    rw [fails_m (by omega) (by omega), B.1, if_pos hs]
  have FMu : ∀ v, FMB hm (up hm 113 22 v) := fun v => ⟨fun c h1 _ _ _ _ _ _ => up_row h1, fun i _ _ _ h4 _ _ _ => up_i (by omega)⟩
  unfold MX6_readSetting
  rw [if_neg (by omega), al46, if_pos (by omega), eo, h38, c3]
  by_cases hb : hm 113 33 = 0
  · rw [if_pos hb, if_pos hb, grd_t (by omega)]
    obtain ⟨m2, m3, m4⟩ := e0 hb
    by_cases ht : tbt (hm 113 32) k = 1
    · obtain ⟨hc1, hc2, x1, x2, f, r1, y, r2⟩ := bad 3 (Or.inr rfl)
      rw [if_neg (by omega), if_pos ht, fail_c (by decide) (by omega), c8, if_pos rfl, bndh_s]
      exact ⟨hc1, hc2, _, _, x1, x2, y, f, FMu _, up_i (by decide), r1, r2, fun q => by have : 8 * a + 3 = -1 := q; omega⟩
    · obtain ⟨hc1, hc2, hm', x1, x2, y, f1, f2, f3, f4, f5, g, g32, r1, r2, st⟩ := sets hn hw hk A B e7 P.str rfl et.1
      rw [if_pos (by omega), if_neg ht]
      have g33 : hm' 113 33 = hm 113 33 := g.2 33 (by decide) (by decide)
      refine ⟨hc1, hc2, hm', _, x1, x2, y, ⟨fun c h1 h2 h3 h4 => f1 c h1 h2 (by omega) (by omega) (by omega), f2⟩, ⟨fun c h1 h2 _ _ _ _ _ => g.1 c h1 h2, fun i _ _ _ h4 _ h6 _ => g.2 i (by omega) h6⟩, g33, r1, r2, fun ok => ⟨⟨r1.k, r2, (f3 7 (by decide)).trans e7, fun _ => ?pg, ⟨by rw [f3 10 (by decide), g33]; exact eo, by rw [g33]; exact Or.inl hb⟩, ⟨?t1, fun j j0 j1 => ?td⟩, fun _ _ => by rw [g.2 2 (by decide) (by decide), g.2 3 (by decide) (by decide), g.2 4 (by decide) (by decide)]; exact ⟨m2, m3, m4⟩⟩, ?pr⟩⟩
      case pg =>
        have R := P.2.1
        have hp := P.2.2.1
        have n0 : nB (pv hm) = 0 := m3
        have r14 := R.1.2.2.2.2.2
        rw [n0, P.1.2.2.2.2.2.2.1] at r14
        refine PG.of0 (st ok) ((f4 11 (Or.inr (by decide))).trans (R.1.2.2.1.trans m3)) ((f4 12 (Or.inr (by decide))).trans (R.1.2.2.2.1.trans m2)) ((f4 13 (Or.inr (by decide))).trans (R.1.2.2.2.2.1.trans m4)) ((f4 14 (Or.inr (by decide))).trans r14) ((g.2 2 (by decide) (by decide)).trans m2) ((g.2 3 (by decide) (by decide)).trans m3) ((g.2 4 (by decide) (by decide)).trans m4) (fun b b0 b1 => ?_)
        have t := R.2.2.1 b 0 b0 b1 (Int.le_refl 0) (by rw [n0]; exact Int.le_refl 0)
        have t2 := hp b b0 b1
        rw [m3, show 3 * 0 + b = b by omega] at t2
        rw [pv_122, show 3 * 0 + b = b by omega] at t
        have t3 := P.1.2.2.2.2.1 b b0 (by rw [n0]; omega)
        rw [pv_122] at t3
        rw [f1 (w + 2 + 1 + b) (by omega) (by omega) (by omega) (by omega) (by omega), g.1 119 (by decide) (by decide), g.1 128 (by decide) (by decide)]
        exact ⟨t, t2, t3⟩
      case t1 =>
        rw [g32]
        exact (tbt_ok et.1.1 et.1.2 hk.1 (by omega)).2.1
      case td =>
        rw [g32, f5 j, (tbt_ok et.1.1 et.1.2 hk.1 (by omega)).2.2 j j0 j1]
        by_cases hj : j = k
        · rw [if_pos hj, if_pos hj]
        · rw [if_neg hj, if_neg hj]
          exact et.2 j j0 j1
      case pr =>
        have mk := rdK_mo bs.1 bs.2 (rdE_ok ok)
        have me := rdE_mo (by omega) mk.2.2 ok
        omega
  · obtain ⟨hc1, hc2, x1, x2, f, r1, y, r2⟩ := bad 1 (Or.inl rfl)
    rw [if_neg hb, if_neg hb, fail_c (by decide) (by omega), c8, if_pos rfl, bndh_s]
    exact ⟨hc1, hc2, _, _, x1, x2, y, f, FMu _, up_i (by decide), r1, r2, fun q => by have : 8 * a + 1 = -1 := q; omega⟩
end
