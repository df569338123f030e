/-! A MOVE IS MADE: the model. -/
section
variable {n : Nat}
/-- behind k points of a move -/
def PS (g : Hp) (px py pz : PF) (N0 f0 M f : Int) (k : Nat) (h : Hp) : Prop :=
  FW0 g h ∧ WS h (px k) (py k) (pz k) (min 64 (N0 + gN px py pz k)) (ci (∃ j : Int, 1 ≤ j ∧ j ≤ k ∧ chg px py pz j ∧ beyP px py pz j) 1 0) (if f0 = 1 ∨ 64 < N0 + gN px py pz k then 1 else 0) M ∧ (∀ i, i < 3 * (N0 + 1) → h 119 i = g 119 i) ∧ (∀ b, b < N0 → h 120 b = g 120 b ∧ h 121 b = g 121 b) ∧
  ∀ j : Nat, 1 ≤ j → j ≤ k → chg px py pz j → N0 + gN px py pz j ≤ 64 → (h 119 (3 * (N0 + gN px py pz j)) = px j ∧ h 119 (3 * (N0 + gN px py pz j) + 1) = py j ∧ h 119 (3 * (N0 + gN px py pz j) + 2) = pz j) ∧ h 120 (N0 + gN px py pz j - 1) = f ∧ h 121 (N0 + gN px py pz j - 1) = M - 1
theorem PS_0 {h : Hp} {px py pz : PF} {N0 f0 M f : Int} (W : WS h (px 0) (py 0) (pz 0) N0 0 f0 M) (hN : 0 ≤ N0 ∧ N0 ≤ 64) (hf : f0 = 0 ∨ f0 = 1) : PS h px py pz N0 f0 M f 0 h := by
  refine ⟨FW0.rf, ?_, fun _ _ => rfl, fun _ _ => ⟨rfl, rfl⟩, fun j j1 j0 => by omega⟩
  have e1 : min 64 (N0 + gN px py pz 0) = N0 := by
    show min 64 (N0 + 0) = N0
    omega
  have e2 : ci (∃ j : Int, 1 ≤ j ∧ j ≤ ((0 : Nat) : Int) ∧ chg px py pz j ∧ beyP px py pz j) (1 : Int) 0 = 0 := ci_f (fun q => by
    obtain ⟨j, j0, j1, -⟩ := q
    omega)
  have e3 : (if f0 = 1 ∨ 64 < N0 + gN px py pz 0 then (1 : Int) else 0) = f0 := by
    show (if f0 = 1 ∨ 64 < N0 + 0 then (1 : Int) else 0) = f0
    rcases hf with e | e
    · rw [if_neg (by omega), e]
    · rw [if_pos (Or.inl e), e]
  rw [e1, e2, e3]
  exact W
theorem PS_st (hn : 10 ≤ n) {g h : Hp} {px py pz : PF} {N0 f0 M f : Int} {k : Nat} (P : PS g px py pz N0 f0 M f k h) (hN : 0 ≤ N0 ∧ N0 ≤ 64) (hM : 0 ≤ M ∧ M ≤ 40) {p q r : Int} (ep : p = px ((k : Int) + 1)) (eq' : q = py ((k : Int) + 1)) (er : r = pz ((k : Int) + 1)) : ∃ h', MX12_comesTo n p q r f h = some h' ∧ FW0 h h' ∧ PS g px py pz N0 f0 M f (k + 1) h' := by
  subst ep
  subst eq'
  subst er
  obtain ⟨F, W, O1, O2, V⟩ := P
  have gb := gN_b (px := px) (py := py) (pz := pz) k
  have hb : ci (∃ j : Int, 1 ≤ j ∧ j ≤ (k : Int) ∧ chg px py pz j ∧ beyP px py pz j) (1 : Int) 0 = 0 ∨ ci (∃ j : Int, 1 ≤ j ∧ j ≤ (k : Int) ∧ chg px py pz j ∧ beyP px py pz j) (1 : Int) 0 = 1 := (ci_01 _).elim (fun t => Or.inl t.1) (fun t => Or.inr t.1)
  obtain ⟨h', e, F', W', P1, P2, P3⟩ := comesTo_m hn (p := px ((k : Int) + 1)) (q := py ((k : Int) + 1)) (r := pz ((k : Int) + 1)) (f := f) W (by omega) hM hb
  have ec : chg px py pz ((k : Int) + 1) ↔ (px ((k : Int) + 1) ≠ px k ∨ py ((k : Int) + 1) ≠ py k ∨ pz ((k : Int) + 1) ≠ pz k) := by
    unfold chg
    rw [Int.add_sub_cancel]
  have ek : ((k + 1 : Nat) : Int) = (k : Int) + 1 := by omega
  have eg := gN_s (px := px) (py := py) (pz := pz) (k := k)
  refine ⟨h', e, F', F.tr F', ?_, fun i hi => (P1 i (by omega)).trans (O1 i hi), fun b hb' => ?_, fun j j1 j2 jc jN => ?_⟩
  · rw [ek]
    have e1 : (if (px ((k : Int) + 1) ≠ px k ∨ py ((k : Int) + 1) ≠ py k ∨ pz ((k : Int) + 1) ≠ pz k) ∧ min 64 (N0 + gN px py pz k) < 64 then min 64 (N0 + gN px py pz k) + 1 else min 64 (N0 + gN px py pz k)) = min 64 (N0 + gN px py pz (k + 1)) := by
      rw [eg]
      by_cases h1 : chg px py pz ((k : Int) + 1)
      · rw [if_pos h1]
        by_cases h2 : min 64 (N0 + gN px py pz k) < 64
        · rw [if_pos ⟨ec.mp h1, h2⟩]
          omega
        · rw [if_neg (fun t => h2 t.2)]
          omega
      · rw [if_neg h1, if_neg (fun t => h1 (ec.mpr t.1)), Int.add_zero]
    have e2 : (if (px ((k : Int) + 1) ≠ px k ∨ py ((k : Int) + 1) ≠ py k ∨ pz ((k : Int) + 1) ≠ pz k) ∧ (¬ far_ (px ((k : Int) + 1)) ∨ ¬ far_ (py ((k : Int) + 1)) ∨ ¬ far_ (pz ((k : Int) + 1))) then 1 else ci (∃ j : Int, 1 ≤ j ∧ j ≤ (k : Int) ∧ chg px py pz j ∧ beyP px py pz j) (1 : Int) 0) = ci (∃ j : Int, 1 ≤ j ∧ j ≤ (k : Int) + 1 ∧ chg px py pz j ∧ beyP px py pz j) (1 : Int) 0 := by
      by_cases h1 : (px ((k : Int) + 1) ≠ px k ∨ py ((k : Int) + 1) ≠ py k ∨ pz ((k : Int) + 1) ≠ pz k) ∧ (¬ far_ (px ((k : Int) + 1)) ∨ ¬ far_ (py ((k : Int) + 1)) ∨ ¬ far_ (pz ((k : Int) + 1)))
      · rw [if_pos h1, ci_t ⟨(k : Int) + 1, by omega, by omega, ec.mpr h1.1, h1.2⟩]
      · rw [if_neg h1]
        refine ci_c ⟨fun ⟨j, j0, j1, j2⟩ => ⟨j, j0, by omega, j2⟩, fun ⟨j, j0, j1, j2⟩ => ⟨j, j0, ?_, j2⟩⟩
        by_cases hj : j = (k : Int) + 1
        · rw [hj] at j2
          exact absurd ⟨ec.mp j2.1, j2.2⟩ h1
        · omega
    have e3 : (if (px ((k : Int) + 1) ≠ px k ∨ py ((k : Int) + 1) ≠ py k ∨ pz ((k : Int) + 1) ≠ pz k) ∧ min 64 (N0 + gN px py pz k) = 64 then 1 else if f0 = 1 ∨ 64 < N0 + gN px py pz k then (1 : Int) else 0) = if f0 = 1 ∨ 64 < N0 + gN px py pz (k + 1) then 1 else 0 := by
      rw [eg]
      by_cases h1 : chg px py pz ((k : Int) + 1)
      · rw [if_pos h1]
        by_cases h2 : min 64 (N0 + gN px py pz k) = 64
        · rw [if_pos ⟨ec.mp h1, h2⟩, if_pos (by omega)]
        · rw [if_neg (fun t => h2 t.2)]
          by_cases h3 : f0 = 1
          · rw [if_pos (Or.inl h3), if_pos (Or.inl h3)]
          · rw [if_neg (by omega), if_neg (by omega)]
      · rw [if_neg h1, if_neg (fun t => h1 (ec.mpr t.1)), Int.add_zero]
    rw [e1, e2, e3] at W'
    exact W'
  · obtain ⟨a, b'⟩ := O2 b hb'
    obtain ⟨c, d⟩ := P2 b (by omega)
    exact ⟨c.trans a, d.trans b'⟩
  · by_cases hj : j = k + 1
    · subst hj
      rw [ek] at jc ⊢
      have h3 := ec.mp jc
      rw [eg, if_pos jc] at jN
      rw [eg, if_pos jc]
      have r := P3 ⟨h3, by omega⟩
      rw [show min 64 (N0 + gN px py pz k) = N0 + gN px py pz k by omega] at r
      rw [show N0 + (gN px py pz k + 1) = N0 + gN px py pz k + 1 by omega, Int.add_sub_cancel]
      exact r
    · have v := V j j1 (by omega) jc jN
      have mono := gN_m (px := px) (py := py) (pz := pz) (k - j) j
      rw [show j + (k - j) = k by omega] at mono
      have gj := gN_b (px := px) (py := py) (pz := pz) j
      have q1 := P2 (N0 + gN px py pz j - 1) (by omega)
      rw [P1 _ (by omega), P1 _ (by omega), P1 _ (by omega), q1.1, q1.2]
      exact v
theorem turnsm_l (hn : 10 ≤ n) {g : Hp} {px py pz : PF} {N0 f0 M f d X Y z c : Int} {V : Int → P2} (hN : 0 ≤ N0 ∧ N0 ≤ 64) (hM : 0 ≤ M ∧ M ≤ 40) (hc : 1 ≤ c ∧ c ≤ 32) (hV : ∀ k, 0 ≤ k → k ≤ c → bdP 200000 (V k)) (hX : -300000 ≤ X ∧ X ≤ 300000) (hY : -300000 ≤ Y ∧ Y ≤ 300000) (hz : far_ z) (hd : far_ d) (ex : ∀ i, 0 ≤ i → i ≤ c → px i = X + (V i).1 ∧ py i = Y + (V i).2 ∧ pz i = z + (d * i).tdiv c) : ∀ (r k fu : Nat) (h : Hp), (k : Int) + r = c → r < fu → CVm h c V → PS g px py pz N0 f0 M f k h → ∃ h', BX12_turns_207 n fu d f X Y z ((k : Int) + 1) h = some h' ∧ PS g px py pz N0 f0 M f c.toNat h'
  | 0, k, fu + 1, h, hk, hf, C, P => by
    rw [BX12_turns_207, C.1, if_pos (by omega), show c.toNat = k by omega]
    exact ⟨h, rfl, P⟩
  | r + 1, k, fu + 1, h, hk, hf, C, P => by
    have v := C.2 ((k : Int) + 1) (by omega) (by omega)
    have b := hV ((k : Int) + 1) (by omega) (by omega)
    have p := mp_b (a := d) (A := 100000) (b := (k : Int) + 1) (B := 32) (by omega) (by omega)
    have t := td_b (x := d * ((k : Int) + 1)) (y := c) (B := 3200000) (by omega) (by omega)
    have e := ex ((k : Int) + 1) (by omega) (by omega)
    obtain ⟨h', e', F', P'⟩ := PS_st hn P hN hM (p := X + (V ((k : Int) + 1)).1) (q := Y + (V ((k : Int) + 1)).2) (r := z + (d * ((k : Int) + 1)).tdiv c) e.1.symm e.2.1.symm e.2.2.symm
    have C' : CVm h' c V := ⟨(F'.2 30 (by decide) (by decide) (by decide)).trans C.1, fun i i0 i1 => by rw [F'.1 129 (by decide) (by decide) (by decide) (by decide) (by decide), F'.1 130 (by decide) (by decide) (by decide) (by decide) (by decide)]; exact C.2 i i0 i1⟩
    rw [BX12_turns_207, C.1, if_neg (by omega), al285, grd_t (by omega), grd_t (by omega), grd_t (by omega), v.1, v.2, w32_i (x := (V ((k : Int) + 1)).1) (by omega), w32_i (x := (V ((k : Int) + 1)).2) (by omega), w32_i (x := X + (V ((k : Int) + 1)).1) (by omega), w32_i (x := Y + (V ((k : Int) + 1)).2) (by omega), w64_i (x := d * ((k : Int) + 1)) (by omega), w64_i (x := (d * ((k : Int) + 1)).tdiv c) (by omega), w32_i (x := (d * ((k : Int) + 1)).tdiv c) (by omega), w32_i (x := z + (d * ((k : Int) + 1)).tdiv c) (by omega), e', bndh_s, ltt_e, w32_i (x := (k : Int) + 1 + 1) (by omega), show (k : Int) + 1 = ((k + 1 : Nat) : Int) by omega]
    exact turnsm_l hn hN hM hc hV hX hY hz hd ex r (k + 1) fu h' (by omega) (by omega) C' P'
/-- behind all points of a move -/
def MVd (h h' : Hp) (px py pz : PF) (c N0 f0 M f : Int) : Prop :=
  (∀ c, c ≠ 113 → c ≠ 119 → c ≠ 120 → c ≠ 121 → c ≠ 128 → c ≠ 129 → c ≠ 130 → h' c = h c) ∧ (∀ i, i ≠ 3 → i ≠ 26 → i ≠ 27 → i ≠ 30 → h' 113 i = h 113 i) ∧ WS h' (px c) (py c) (pz c) (min 64 (N0 + gN px py pz c.toNat)) (ci (∃ j : Int, 1 ≤ j ∧ j ≤ c ∧ chg px py pz j ∧ beyP px py pz j) 1 0) (if f0 = 1 ∨ 64 < N0 + gN px py pz c.toNat then 1 else 0) M ∧ (∀ i, i < 3 * (N0 + 1) → h' 119 i = h 119 i) ∧ (∀ b, b < N0 → h' 120 b = h 120 b ∧ h' 121 b = h 121 b) ∧
  ∀ j : Int, 1 ≤ j → j ≤ c → chg px py pz j → N0 + gN px py pz j.toNat ≤ 64 → (h' 119 (3 * (N0 + gN px py pz j.toNat)) = px j ∧ h' 119 (3 * (N0 + gN px py pz j.toNat) + 1) = py j ∧ h' 119 (3 * (N0 + gN px py pz j.toNat) + 2) = pz j) ∧ h' 120 (N0 + gN px py pz j.toNat - 1) = f ∧ h' 121 (N0 + gN px py pz j.toNat - 1) = M - 1
theorem PS.mvd {h g h' : Hp} {px py pz : PF} {c N0 f0 M f : Int} (hc : 0 ≤ c) (G : FCm h g) (P : PS g px py pz N0 f0 M f c.toNat h') : MVd h h' px py pz c N0 f0 M f := by
  obtain ⟨F, W, O1, O2, V⟩ := P
  have ec : ((c.toNat : Nat) : Int) = c := by omega
  rw [ec] at W
  refine ⟨fun d h1 h2 h3 h4 h5 h6 h7 => (F.1 d h1 h2 h3 h4 h5).trans (G.1 d h1 h6 h7), fun i h1 h2 h3 h4 => (F.2 i h1 h2 h3).trans (G.2 i h4), W, fun i hi => (O1 i hi).trans (by rw [G.1 119 (by decide) (by decide) (by decide)]), fun b hb => ?_, fun j j0 j1 jc jN => ?_⟩
  · have := O2 b hb
    rw [G.1 120 (by decide) (by decide) (by decide), G.1 121 (by decide) (by decide) (by decide)] at this
    exact this
  · have ej : ((j.toNat : Nat) : Int) = j := by omega
    have v := V j.toNat (by omega) (by omega) (by rw [ej]; exact jc) jN
    rw [ej] at v
    exact v
theorem lv_0 {R : Int} {V : Int → P2} : ∀ i : Nat, lvV R V i 0 = V 0
  | 0 => rfl
  | i + 1 => by
    have := lv_0 (R := R) (V := V) i
    show hvV R (lvV R V i) 0 = V 0
    rw [show (0 : Int) = 2 * 0 from rfl, hv_e]
    exact this
theorem mv_0 {tol k a b c d x y z : Int} : mvX tol k a b c x 0 = x ∧ mvY tol k a b c y 0 = y ∧ mvZ tol k a b c d z 0 = z := by
  unfold mvX mvY mvZ
  by_cases h : k = 5
  · rw [if_pos h, if_pos h, if_pos h, lv_0, Int.mul_zero, Int.zero_tdiv]
    refine ⟨?_, ?_, by omega⟩
    · show x + a + -a = x
      omega
    · show y + b + -b = y
      omega
  · rw [if_neg h, if_neg h, if_neg h]
    exact ⟨rfl, rfl, rfl⟩
theorem mvN_b {tol k a b c d f : Int} (V : VR k a b c d f) : 1 ≤ mvN tol k a b c ∧ mvN tol k a b c ≤ 32 := by
  unfold mvN
  by_cases h : k = 5
  · rw [if_pos h]
    have vc : 1 ≤ c * sdq c ∧ c * sdq c ≤ 4 := V.2.1.elim (fun q => q.2.2) (fun q => by omega)
    have t := trL_b (R := tR_ a b) (tol := tol) (V := tV a b c) 3 0
    exact (cL_b vc _).1 (by omega)
  · rw [if_neg h]
    omega
theorem jabs_s {c : Int} (h : 1 ≤ c * sdq c ∧ c * sdq c ≤ 4) : jabs c = c * sdq c := by
  unfold sdq jabs at *
  by_cases h0 : 0 ≤ c
  · rw [if_pos h0] at h ⊢
    rw [if_neg (by omega)]
    omega
  · rw [if_neg h0] at h ⊢
    rw [if_pos (by omega), w32_i (by omega)]
    omega
theorem turns_m (hn : 100 ≤ n) {h : Hp} {a b c d f tol x y z N0 f0 M : Int} (ha : far_ a) (hb : far_ b) (hd : far_ d) (hx : far_ x) (hy : far_ y) (hz : far_ z) (hab : a ≠ 0 ∨ b ≠ 0) (hc : 1 ≤ c * sdq c ∧ c * sdq c ≤ 4) (et : h 114 7 = tol) (W : WS h x y z N0 0 f0 M) (hN : 0 ≤ N0 ∧ N0 ≤ 64) (hM : 0 ≤ M ∧ M ≤ 40) (hf : f0 = 0 ∨ f0 = 1) : ∃ h', MX12_turns n a b c d f h = some h' ∧ MVd h h' (mvX tol 5 a b c x) (mvY tol 5 a b c y) (mvZ tol 5 a b c d z) (mvN tol 5 a b c) N0 f0 M f := by
  have s1 := sq_le ha.1 ha.2
  have s2 := sq_le hb.1 hb.2
  have n1 := sq_nn a
  have n2 := sq_nn b
  have tb' := tR_b ha hb
  have hp : (-a, -b).1 ≠ 0 ∨ (-a, -b).2 ≠ 0 := hab.elim (fun q => Or.inl (by show -a ≠ 0; omega)) (fun q => Or.inr (by show -b ≠ 0; omega))
  have bd0 := lv_b (sdq_1 c) hp (tR_e a b) 0 (by decide)
  have lb' := trL_b (R := tR_ a b) (tol := tol) (V := tV a b c) 3 0
  have bdL := lv_b (sdq_1 c) hp (tR_e a b) (tL tol a b c) (by omega)
  have cb := (cL_b hc (tL tol a b c)).1 (by omega)
  have eN : mvN tol 5 a b c = cL (c * sdq c) (tL tol a b c) := if_pos rfl
  have eX : ∀ k, mvX tol 5 a b c x k = x + a + (lvV (tR_ a b) (tV a b c) (tL tol a b c) k).1 := fun k => if_pos rfl
  have eY : ∀ k, mvY tol 5 a b c y k = y + b + (lvV (tR_ a b) (tV a b c) (tL tol a b c) k).2 := fun k => if_pos rfl
  have eZ : ∀ k, mvZ tol 5 a b c d z k = z + (d * k).tdiv (cL (c * sdq c) (tL tol a b c)) := fun k => (if_pos rfl).trans (by rw [eN])
  have F0 : FCm h (up (up (up h 113 30 (c * sdq c)) 129 0 (-a)) 130 0 (-b)) := ((FCm.rf.pf).put (Or.inl rfl)).put (Or.inr rfl)
  obtain ⟨h1, q1, F1, C1⟩ := spinm_l (n := n) (x1 := a) (x2 := b) (x4 := d) (x5 := f) (x6 := tR_ a b) (sdq_1 c) (p := (-a, -b)) (R := tR_ a b) hc.2 tb'.2 (fun k k0 => bd0 k k0) (c * sdq c).toNat n 1 (up (up (up h 113 30 (c * sdq c)) 129 0 (-a)) 130 0 (-b)) (by omega) (by omega) (by decide) ((up_c (by decide)).trans ((up_c (by decide)).trans up_s)) (fun j j0 j1 => by
    have ej : j = 0 := by omega
    subst ej
    rw [up_c (by decide), up_s, up_s]
    exact ⟨rfl, rfl⟩)
  have G1 := F0.tr F1
  obtain ⟨h2, q2, F2, C2⟩ := trn_m (n := n) hn (x1 := a) (x2 := b) (x4 := d) (x5 := f) (tol := tol) ha hb hab hc 3 n 0 h1 (by decide) (by omega) (by rw [G1.1 114 (by decide) (by decide) (by decide)]; exact et) C1
  have G2 := G1.tr F2
  obtain ⟨⟨w1, w2, w3⟩, w4, w5, w6, w7⟩ := W
  have m0 := mv_0 (tol := tol) (k := 5) (a := a) (b := b) (c := c) (d := d) (x := x) (y := y) (z := z)
  have e128 : h2 128 = h 128 := G2.1 128 (by decide) (by decide) (by decide)
  have W2 : WS h2 (mvX tol 5 a b c x 0) (mvY tol 5 a b c y 0) (mvZ tol 5 a b c d z 0) N0 0 f0 M := by
    unfold WS
    rw [e128, m0.1, m0.2.1, m0.2.2, G2.2 3 (by decide), G2.2 26 (by decide), G2.2 27 (by decide), G2.2 2 (by decide)]
    exact ⟨⟨w1, w2, w3⟩, w4, w5, w6, w7⟩
  obtain ⟨h3, q3, P3⟩ := turnsm_l (n := n) (by omega) (px := mvX tol 5 a b c x) (py := mvY tol 5 a b c y) (pz := mvZ tol 5 a b c d z) (f := f) (d := d) (X := x + a) (Y := y + b) (z := z) (c := cL (c * sdq c) (tL tol a b c)) hN hM cb (fun k k0 _ => by
    have b : bdP (tR_ a b) (lvV (tR_ a b) (tV a b c) (tL tol a b c) k) := bdL k k0
    exact ⟨⟨by omega, by omega⟩, by omega, by omega⟩) (by omega) (by omega) hz hd (fun i _ _ => ⟨eX i, eY i, eZ i⟩) (cL (c * sdq c) (tL tol a b c)).toNat 0 n h2 (by omega) (by omega) C2 (PS_0 W2 hN hf)
  rw [eN]
  refine ⟨h3, ?_, P3.mvd (by omega) G2⟩
  unfold MX12_turns
  rw [square_m, bndp_s, square_m, bndp_s, w64_i (x := a * a) (by omega), w64_i (x := b * b) (by omega), w64_i (x := a * a + b * b) (by omega), root_m (by omega) (by omega) (by omega), bndp_s, ltt_e]
  have J : ∀ v : Int, v = (if sdq c = 1 then 1 else 0) → JX12_turns_25 n a b c d f (tR_ a b) v h = some h3 := fun v hv => by
    subst hv
    unfold JX12_turns_25 LX12_turns_56
    rw [ltt_e, jabs_s hc, ltt_e, al285, grd_t (by decide), w32_i (x := -a) (by omega), ltt_e, grd_t (by decide), w32_i (x := -b) (by omega), ltt_e, ltt_e, q1, bndx_s]
    show JX12_turns_139 n a b d f (tR_ a b) h1 = _
    unfold JX12_turns_139 LX12_turns_142
    have q2' : BX12_turns_142 n n a b d f (tR_ a b) 0 h1 = some (a, b, d, f, h2) := q2
    rw [ltt_e, q2', bndx_s]
    show JX12_turns_176 n a b d f h2 = _
    unfold JX12_turns_176 LX12_turns_207
    rw [al44, grd_t (by decide), e128, w1, w32_i (x := x + a) (by omega), ltt_e, grd_t (by decide), w2, w32_i (x := y + b) (by omega), ltt_e, grd_t (by decide), w3, ltt_e, ltt_e]
    exact q3
  by_cases h0 : c ≤ 0
  · rw [if_pos h0]
    refine J 0 ?_
    have : sdq c = -1 := by
      unfold sdq at hc ⊢
      by_cases h1 : 0 ≤ c
      · rw [if_pos h1] at hc
        omega
      · rw [if_neg h1]
    rw [this]
    rfl
  · rw [if_neg h0]
    refine J 1 ?_
    have : sdq c = 1 := if_pos (by omega)
    rw [this]
    rfl
end
