/-! TWO HEAPS: the model's cells in m, the class's in h. -/
def Inv2 (m h : Hp) : Prop := MI m ∧ CI m h
/-- two calls that answer alike, from what is always true -/
def Two (A B : Hp → Option (Int × Hp)) : Prop := ∀ m h : Hp, Inv2 m h → ∃ v h' m', A h = some (v, h') ∧ B m = some (v, m') ∧ (∀ c, c < 0 ∨ 113 ≤ c → h' c = h c) ∧ (∀ c, c < 113 → m' c = m c) ∧ Inv2 m' h'
section
variable {m m' h h' : Hp}
theorem mkInv2 (H : WFp m) (a : MNw m) (b : MRg m) (c : MMg m) (d : (h 0 2 = 1 ∨ h 0 2 = 14) ∧ h 0 3 = 15 - h 0 2) (e : CDr m h) (f : CTr h) (g : CNw m h) (i : CRg m h) (j : CMg m h) (k : RSh m h (h 0 2)) (l : RK m h) (o : RLs h) (p : TPR h m) : Inv2 m h :=
  ⟨⟨H, a.1, a.2.1, a.2.2, b.1, b.2, c, fun k k0 k1 => (l k k0 k1).2.1⟩, d, e, f, g, i, j, k, l, o, p⟩
theorem Inv2.wf (I : Inv2 m h) : WFp m := I.1.1
theorem Inv2.mnw (I : Inv2 m h) : MNw m := ⟨I.1.2.1, I.1.2.2.1, I.1.2.2.2.1⟩
theorem Inv2.mrg (I : Inv2 m h) : MRg m := ⟨I.1.2.2.2.2.1, I.1.2.2.2.2.2.1⟩
theorem Inv2.mmg (I : Inv2 m h) : MMg m := I.1.2.2.2.2.2.2.1
theorem Inv2.w (I : Inv2 m h) : (h 0 2 = 1 ∨ h 0 2 = 14) ∧ h 0 3 = 15 - h 0 2 := I.2.1
theorem Inv2.dr (I : Inv2 m h) : CDr m h := I.2.2.1
theorem Inv2.tr (I : Inv2 m h) : CTr h := I.2.2.2.1
theorem Inv2.nw (I : Inv2 m h) : CNw m h := I.2.2.2.2.1
theorem Inv2.rg (I : Inv2 m h) : CRg m h := I.2.2.2.2.2.1
theorem Inv2.mg (I : Inv2 m h) : CMg m h := I.2.2.2.2.2.2.1
theorem Inv2.sh (I : Inv2 m h) : RSh m h (h 0 2) := I.2.2.2.2.2.2.2.1
theorem Inv2.rk (I : Inv2 m h) : RK m h := I.2.2.2.2.2.2.2.2.1
theorem Inv2.rl (I : Inv2 m h) : RLs h := I.2.2.2.2.2.2.2.2.2.1
theorem Inv2.tp (I : Inv2 m h) : TPR h m := I.2.2.2.2.2.2.2.2.2.2
theorem Inv2.rw (I : Inv2 m h) : RW m h (h 0 2) := I.dr.1.2.1
theorem Inv2.ce (I : Inv2 m h) : CE m h 50 (h 0 2) (m 115 7) (m 115 6) (m 113 45) := I.dr.1
theorem Inv2.f5 (I : Inv2 m h) : FC h 50 (rchS m (m 115 6)) := I.dr.1.2.2.2.2.2
/-- each side may be seen in any heap that has its cells -/
theorem Inv2.see (I : Inv2 m h) (em : ∀ c, 113 ≤ c → m' c = m c) (eh : ∀ c, c < 113 → h' c = h c) : Inv2 m' h' := by
  have K : KQ m m' := KQ.lo em
  have e := K.p
  have w := I.w
  refine mkInv2 (pg_wf2 e I.wf) (I.mnw.mv e fun i _ _ _ => by rw [em 113 (by decide)]) (I.mrg.mv e (by rw [em 113 (by decide)]) (em _ (by decide))) (I.mmg.mv e (em _ (by decide)) (em _ (by decide))) (by rw [eh 0 (by decide)]; exact w) ?_ ?_ ?_ ?_ ?_ ?_ ?_ ?_ ?_
  · exact I.dr.mv w.1 e (by rw [em 113 (by decide)]) (by rw [eh 0 (by decide)]) (fun c _ _ => eh c (by omega)) (fun c _ _ _ => eh c (by omega)) (I.f5.mv (eh _ (by decide)))
  · exact I.tr.mv (by rw [eh 57 (by decide)]) (eh _ (by decide))
  · exact I.nw.mv e (fun i _ _ => by rw [em 113 (by decide)]) (fun i _ _ => by rw [eh 64 (by decide)])
  · exact I.rg.mv e (by rw [em 113 (by decide)]) (em _ (by decide)) (fun c _ _ => eh c (by omega))
  · exact I.mg.mv e (em _ (by decide)) (em _ (by decide)) (fun c _ _ => eh c (by omega))
  · rw [eh 0 (by decide)]
    exact I.sh.mv2 e (fun c _ _ => eh c (by omega))
  · exact I.rk.mv (em _ (by decide)) (em _ (by decide)) (fun c _ _ => eh c (by omega))
  · exact I.rl.mv (eh _ (by decide)) (eh _ (by decide))
  · exact I.tp.mv (by rw [eh 27 (by decide)]) (eh _ (by decide)) (by rw [em 113 (by decide)]) (em _ (by decide))
theorem Inv.two (I : Inv h) : Inv2 h h := I
/-- so they answer alike one behind the other -/
theorem Two.run {A B : Hp → Option (Int × Hp)} (T : Two A B) (I : Inv h) : ∃ v h1 h2, A h = some (v, h1) ∧ B h1 = some (v, h2) ∧ Inv h2 ∧ SE h h1 ∧ SE h h2 := by
  obtain ⟨v, h1, -, e1, -, f1, -, -⟩ := T h h I.two
  obtain ⟨v', h1', m', e1', e2', -, f2, J⟩ := T h1 h (I.two.see (fun c c0 => f1 c (Or.inr c0)) (fun _ _ => rfl))
  rw [e1] at e1'
  have ev : v = v' := congrArg Prod.fst (Option.some.inj e1')
  have eh : h1 = h1' := congrArg Prod.snd (Option.some.inj e1')
  subst ev
  subst eh
  exact ⟨v, h1, m', e1, e2', J.see (fun _ _ => rfl) f2, SE.fr (fun c c0 => f1 c (Or.inl c0)), SE.fr (fun c c0 => by rw [f2 c (by omega), f1 c (Or.inl c0)])⟩
/-- what an act leaves as it was -/
theorem Inv2.act (I : Inv2 m h) (e : pg m' = pg m) (e7 : m' 127 = m 127) (e3 : m' 143 = m 143) (e4 : m' 144 = m 144) (e20 : m' 113 20 = m 113 20) (g : ∀ c, c < 113 → (c < 50 ∨ 56 < c) → (c < 64 ∨ 92 < c) → h' c = h c) (a : MNw m') (b : MRg m') (c : MMg m') (d : CDr m' h') (n : CNw m' h') (r : CRg m' h') (q : CMg m' h') : Inv2 m' h' := by
  refine mkInv2 (pg_wf2 e I.wf) a b c (by rw [g 0 (by decide) (by decide) (by decide)]; exact I.w) d ?_ n r q ?_ ?_ ?_ ?_
  · exact I.tr.mv (by rw [g 57 (by decide) (by decide) (by decide)]) (g _ (by decide) (by decide) (by decide))
  · rw [g 0 (by decide) (by decide) (by decide)]
    exact I.sh.mv2 e (fun c _ _ => g c (by omega) (by omega) (by omega))
  · exact I.rk.mv e3 e4 (fun c _ _ => g c (by omega) (by omega) (by omega))
  · exact I.rl.mv (g _ (by decide) (by decide) (by decide)) (g _ (by decide) (by decide) (by decide))
  · exact I.tp.mv (by rw [g 27 (by decide) (by decide) (by decide)]) (g _ (by decide) (by decide) (by decide)) e20 e7
/-! what was, noted -/
def NTc (h h' : Hp) : Prop := (∀ c, c ≠ 66 → c ≠ 68 + h 66 1 → h' c = h c) ∧ (∀ i, 0 ≤ i → i ≤ 6 → h' (68 + h 66 1) i = h 64 i) ∧ h' 66 1 = (h 66 1 + 1) % 20 ∧ h' 66 2 = min 20 (h 66 2 + 1)
def NTm (m m' : Hp) : Prop := (∀ c, c ≠ 113 → c ≠ 138 → m' c = m c) ∧ (∀ i, i ≠ 54 → m' 113 i = m 113 i) ∧ m' 113 54 = min 20 (m 113 54 + 1) ∧ (∀ k z, 0 ≤ k → k < m' 113 54 - 1 → 0 ≤ z → z < 6 → m' 138 (6 * k + z) = m 138 (6 * (k + (if m 113 54 = 20 then 1 else 0)) + z)) ∧ m' 138 (6 * (m' 113 54 - 1)) = m 113 42 ∧ m' 138 (6 * (m' 113 54 - 1) + 1) = m 113 43 ∧ m' 138 (6 * (m' 113 54 - 1) + 2) = m 113 44 ∧ m' 138 (6 * (m' 113 54 - 1) + 3) = m 113 45 ∧ m' 138 (6 * (m' 113 54 - 1) + 4) = m 113 47 ∧ m' 138 (6 * (m' 113 54 - 1) + 5) = m 113 46
theorem NTm.p (b : NTm m m') : pg m' = pg m := pg_of (b.2.1 5 (by decide)) (b.2.1 6 (by decide)) (b.2.1 7 (by decide)) (b.1 _ (by decide) (by decide)) (b.1 _ (by decide) (by decide)) (b.1 _ (by decide) (by decide)) (b.1 _ (by decide) (by decide)) (b.1 _ (by decide) (by decide)) (b.1 _ (by decide) (by decide))
theorem ring_nt (C : CRg m h) (M : MRg m) (N : CNw m h) (L : MNw m) (a : NTc h h') (b : NTm m m') : CRg m' h' ∧ MRg m' := by
  have e := b.p
  obtain ⟨a1, a2, a3, a4⟩ := a
  obtain ⟨b1, b2, b3, b4, c0, c1, c2, c3, c4, c5⟩ := b
  obtain ⟨C1, C2, C3⟩ := C
  obtain ⟨M1, M2⟩ := M
  have rows : ∀ k, 0 ≤ k → k < m' 113 54 - 1 → RWo m' 138 (6 * k) := fun k k0 k1 => by
    have R : RWo m 138 (6 * (k + (if m 113 54 = 20 then 1 else 0))) := M2 _ (by split <;> omega) (by split <;> omega)
    have e0 := b4 k 0 k0 k1 (by decide) (by decide)
    rw [Int.add_zero, Int.add_zero] at e0
    unfold RWo at R ⊢
    rw [e0, b4 k 1 k0 k1 (by decide) (by decide), b4 k 2 k0 k1 (by decide) (by decide), b4 k 3 k0 k1 (by decide) (by decide), b4 k 4 k0 k1 (by decide) (by decide)]
    exact ⟨pg_rst e R.1, R.2⟩
  have last : RWo m' 138 (6 * (m' 113 54 - 1)) := by
    unfold RWo
    rw [c0, c1, c2, c3, c4]
    exact ⟨pg_rst e L.2.2, L.1, L.2.1⟩
  refine ⟨⟨by rw [a4, b3, C1], by omega, fun k k0 k1 => ?_⟩, by omega, fun k k0 k1 => ?_⟩
  · by_cases hk : k = m' 113 54 - 1
    · have sl : slot (h' 66 1) (h' 66 2) k = h 66 1 := by
        unfold slot
        omega
      rw [sl, hk]
      unfold SRo CR
      rw [a2 0 (by decide) (by decide), a2 1 (by decide) (by decide), a2 2 (by decide) (by decide), a2 3 (by decide) (by decide), a2 4 (by decide) (by decide), a2 5 (by decide) (by decide), a2 6 (by decide) (by decide), c0, c1, c2, c3, c4, c5]
      have N1 := pg_cr e N.1
      exact ⟨N1, N.2⟩
    · have sl : slot (h' 66 1) (h' 66 2) k = slot (h 66 1) (h 66 2) (k + (if m 113 54 = 20 then 1 else 0)) ∧ slot (h' 66 1) (h' 66 2) k ≠ h 66 1 := by
        unfold slot
        split <;> omega
      have R : SRo m h (68 + slot (h 66 1) (h 66 2) (k + (if m 113 54 = 20 then 1 else 0))) 138 (6 * (k + (if m 113 54 = 20 then 1 else 0))) := C3 _ (by split <;> omega) (by split <;> omega)
      rw [← sl.1] at R
      have e0 := b4 k 0 k0 (by omega) (by decide) (by decide)
      rw [Int.add_zero, Int.add_zero] at e0
      have sk := slot_ok (x := h' 66 1) (y := h' 66 2) (k := k)
      have gx : h' (68 + slot (h' 66 1) (h' 66 2) k) = h (68 + slot (h' 66 1) (h' 66 2) k) := a1 _ (by omega) (by omega)
      unfold SRo at R ⊢
      rw [e0, b4 k 1 k0 (by omega) (by decide) (by decide), b4 k 2 k0 (by omega) (by decide) (by decide), b4 k 3 k0 (by omega) (by decide) (by decide), b4 k 4 k0 (by omega) (by decide) (by decide), b4 k 5 k0 (by omega) (by decide) (by decide)]
      unfold CR at R ⊢
      rw [gx]
      exact ⟨pg_cr (h := h) e R.1, R.2⟩
  · by_cases hk : k = m' 113 54 - 1
    · rw [hk]
      exact last
    · exact rows k k0 (by omega)
theorem become_c {x y : Int} (hxy : x ≠ y) (h5 : h y 5 = 0 ∨ h y 5 = 1) : ∃ h', MX8_become x y h = some h' ∧ (∀ c, c ≠ x → h' c = h c) ∧ ∀ i, 0 ≤ i → i ≤ 6 → h' x i = h y i := by
  have g : ∀ i v, ∀ k : Hp, up k x i v y = k y := fun i v k => up_ne (by omega)
  refine ⟨up (up (up (up (up (up (up h x 0 (h y 0)) x 1 (h y 1)) x 2 (h y 2)) x 3 (h y 3)) x 4 (h y 4)) x 5 (h y 5)) x 6 (h y 6), ?_, fun c hc => by rw [up_ne hc, up_ne hc, up_ne hc, up_ne hc, up_ne hc, up_ne hc, up_ne hc], fun i i0 i1 => ?_⟩
  · unfold MX8_become
    rw [ltt_e, g, ltt_e, g, g, ltt_e, g, g, g, ltt_e, g, g, g, g, ltt_e, g, g, g, g, g, grd_t h5, ltt_e, g, g, g, g, g, g, ltt_e]
  · rcases (by omega : i = 0 ∨ i = 1 ∨ i = 2 ∨ i = 3 ∨ i = 4 ∨ i = 5 ∨ i = 6) with q | q | q | q | q | q | q <;> subst q
    · rw [up_i (by decide), up_i (by decide), up_i (by decide), up_i (by decide), up_i (by decide), up_i (by decide), up_at]
    · rw [up_i (by decide), up_i (by decide), up_i (by decide), up_i (by decide), up_i (by decide), up_at]
    · rw [up_i (by decide), up_i (by decide), up_i (by decide), up_i (by decide), up_at]
    · rw [up_i (by decide), up_i (by decide), up_i (by decide), up_at]
    · rw [up_i (by decide), up_i (by decide), up_at]
    · rw [up_i (by decide), up_at]
    · rw [up_at]
theorem note_c (C1 : 0 ≤ h 66 1 ∧ h 66 1 < 20) (C2 : 0 ≤ h 66 2 ∧ h 66 2 ≤ 20) (h5 : h 64 5 = 0 ∨ h 64 5 = 1) : ∃ h', MX5_note 64 h = some h' ∧ NTc h h' := by
  obtain ⟨h1, e1, f1, g1⟩ := become_c (h := h) (x := 68 + h 66 1) (y := 64) (by omega) h5
  have x66 : h1 66 = h 66 := f1 66 (by omega)
  have fin : ∀ z, z = (h 66 1 + 1) % 20 → NTc h (up (up h1 66 1 z) 66 2 (min 20 (h 66 2 + 1))) := fun z hz => ⟨fun c c0 c1 => by rw [up_ne c0, up_ne c0, f1 c c1], fun i i0 i1 => by rw [up_ne (by omega), up_ne (by omega), g1 i i0 i1], by rw [up_i (by decide), up_at, hz], up_at⟩
  have J : ∀ z, JX5_note_52 z h1 = some (up (up h1 66 1 z) 66 2 (min 20 (h 66 2 + 1))) := fun z => by
    unfold JX5_note_52
    rw [ltt_e, up_i (i := 1) (j := 2) (by decide), x66, w32_i (x := h 66 2 + 1) (by omega), ltt_e]
  unfold MX5_note
  rw [if_neg (by omega), if_pos C1.2, show alen 184 = 20 by decide, grd_t C1, e1, bndh_s, x66, w32_i (x := h 66 1 + 1) (by omega)]
  by_cases hz : h 66 1 + 1 = 20
  · rw [if_neg (by omega), J]
    exact ⟨_, rfl, fin 0 (by omega)⟩
  · rw [if_pos hz, J]
    exact ⟨_, rfl, fin _ (by omega)⟩
theorem alen980 : alen 980 = 120 := by decide
theorem keepsIn_m {r : Int} (r0 : 0 ≤ r) (r1 : r + 5 < 120) (h7 : m 113 47 = 0 ∨ m 113 47 = 1) : ∃ m', MX12_keepsIn r m = some m' ∧ (∀ c, c ≠ 138 → m' c = m c) ∧ (∀ i, (i < r ∨ r + 5 < i) → m' 138 i = m 138 i) ∧ m' 138 r = m 113 42 ∧ m' 138 (r + 1) = m 113 43 ∧ m' 138 (r + 2) = m 113 44 ∧ m' 138 (r + 3) = m 113 45 ∧ m' 138 (r + 4) = m 113 47 ∧ m' 138 (r + 5) = m 113 46 := by
  have g : ∀ i v, ∀ k : Hp, up k 138 i v 113 = k 113 := fun i v k => up_ne (by decide)
  have tr : ∀ x : Int, x = 0 ∨ x = 1 → MX12_truth x = some x := fun x hx => by
    unfold MX12_truth
    rcases hx with q | q <;> subst q
    · rw [if_pos rfl]
    · rw [if_neg (by decide)]
  refine ⟨up (up (up (up (up (up m 138 r (m 113 42)) 138 (r + 1) (m 113 43)) 138 (r + 2) (m 113 44)) 138 (r + 3) (m 113 45)) 138 (r + 4) (m 113 47)) 138 (r + 5) (m 113 46), ?_, fun c hc => by rw [up_ne hc, up_ne hc, up_ne hc, up_ne hc, up_ne hc, up_ne hc], fun i hi => by rw [up_i (by omega), up_i (by omega), up_i (by omega), up_i (by omega), up_i (by omega), up_i (by omega)], ?_, ?_, ?_, ?_, ?_, ?_⟩
  · unfold MX12_keepsIn
    rw [w32_i (x := r + 1) (by omega), w32_i (x := r + 2) (by omega), w32_i (x := r + 3) (by omega), w32_i (x := r + 4) (by omega), w32_i (x := r + 5) (by omega), alen980, grd_t (by omega), ltt_e, grd_t (by omega), g, ltt_e, grd_t (by omega), g, g, ltt_e, grd_t (by omega), g, g, g, ltt_e, g, g, g, g, tr _ h7, bndp_s, grd_t (by omega), ltt_e, grd_t (by omega), g, g, g, g, g, ltt_e]
  · rw [up_i (by omega), up_i (by omega), up_i (by omega), up_i (by omega), up_i (by omega), up_at]
  · rw [up_i (by omega), up_i (by omega), up_i (by omega), up_i (by omega), up_at]
  · rw [up_i (by omega), up_i (by omega), up_i (by omega), up_at]
  · rw [up_i (by omega), up_i (by omega), up_at]
  · rw [up_i (by omega), up_at]
  · rw [up_at]
theorem shift_m {n : Nat} : ∀ (r f : Nat) (x : Int) (h : Hp), (r : Int) = 114 - x → 0 ≤ x → r < f → ∃ h', BX12_remembers_11 n f x h = some h' ∧ (∀ c, c ≠ 138 → h' c = h c) ∧ (∀ i, i < x → h' 138 i = h 138 i) ∧ ∀ i, x ≤ i → i < 114 → h' 138 i = h 138 (i + 6)
  | 0, f + 1, x, h, e, x0, hf => ⟨h, by rw [BX12_remembers_11, if_pos (by omega)], fun _ _ => rfl, fun _ _ => rfl, fun i i0 i1 => by omega⟩
  | r + 1, f + 1, x, h, e, x0, hf => by
    obtain ⟨h', q1, q2, q3, q4⟩ := shift_m r f (x + 1) (up h 138 x (h 138 (x + 6))) (by omega) (by omega) (by omega)
    refine ⟨h', ?_, fun c hc => by rw [q2 c hc, up_ne hc], fun i hi => by rw [q3 i (by omega), up_i (by omega)], fun i i0 i1 => ?_⟩
    · rw [BX12_remembers_11, if_neg (by omega), w32_i (x := x + 6) (by omega), alen980, grd_t (by omega), grd_t (by omega), ltt_e, w32_i (x := x + 1) (by omega), ltt_e]
      exact q1
    · by_cases hx : i = x
      · rw [q3 i (by omega), hx, up_at]
      · rw [q4 i (by omega) i1, up_i (by omega)]
theorem remembers_m {n : Nat} (hn : 200 ≤ n) (N5 : 0 ≤ m 113 54 ∧ m 113 54 ≤ 20) (h7 : m 113 47 = 0 ∨ m 113 47 = 1) : ∃ m', MX12_remembers n m = some m' ∧ NTm m m' := by
  unfold MX12_remembers
  by_cases hN : m 113 54 = 20
  · obtain ⟨m1, e1, f1, -, s1⟩ := shift_m (n := n) 114 n 0 m (by decide) (by decide) (by omega)
    have x113 : m1 113 = m 113 := f1 113 (by decide)
    have y : ∀ i, i ≠ 54 → up m1 113 54 19 113 i = m 113 i := fun i hi => by rw [up_i hi, x113]
    obtain ⟨m2, e2, f2, s2, a0, a1, a2, a3, a4, a5⟩ := keepsIn_m (m := up m1 113 54 19) (r := 114) (by decide) (by decide) (by rw [y 47 (by decide)]; exact h7)
    have z54 : m2 113 54 = 19 := by rw [f2 113 (by decide), up_at]
    rw [if_neg (by omega), ltt_e]
    unfold LX12_remembers_11
    rw [e1, bndx_s]
    show ∃ m', JX12_remembers_38 n m1 = some m' ∧ NTm m m'
    unfold JX12_remembers_38
    rw [x113, hN, show w32 ((20 : Int) - 1) = 19 from w32_i (by omega), ltt_e]
    unfold JX12_remembers_48
    rw [up_at, show w32 (6 * (19 : Int)) = 114 from w32_i (by omega), e2, bndh_s, z54, show w32 ((19 : Int) + 1) = 20 from w32_i (by omega), ltt_e]
    refine ⟨_, rfl, fun c c0 c1 => by rw [up_ne c0, f2 c c1, up_ne c0, f1 c c1], fun i hi => by rw [up_i hi, f2 113 (by decide), y i hi], by rw [up_at, hN]; decide, fun k z k0 k1 z0 z1 => ?_, ?_, ?_, ?_, ?_, ?_, ?_⟩
    · rw [up_at] at k1
      rw [if_pos hN, up_ne (by decide), s2 _ (by omega), up_ne (by decide), s1 _ (by omega) (by omega), show 6 * k + z + 6 = 6 * (k + 1) + z by omega]
    · rw [up_at, up_ne (by decide), show 6 * ((20 : Int) - 1) = 114 by decide, a0, y _ (by decide)]
    · rw [up_at, up_ne (by decide), show 6 * ((20 : Int) - 1) = 114 by decide, a1, y _ (by decide)]
    · rw [up_at, up_ne (by decide), show 6 * ((20 : Int) - 1) = 114 by decide, a2, y _ (by decide)]
    · rw [up_at, up_ne (by decide), show 6 * ((20 : Int) - 1) = 114 by decide, a3, y _ (by decide)]
    · rw [up_at, up_ne (by decide), show 6 * ((20 : Int) - 1) = 114 by decide, a4, y _ (by decide)]
    · rw [up_at, up_ne (by decide), show 6 * ((20 : Int) - 1) = 114 by decide, a5, y _ (by decide)]
  · obtain ⟨m2, e2, f2, s2, a0, a1, a2, a3, a4, a5⟩ := keepsIn_m (m := m) (r := 6 * m 113 54) (by omega) (by omega) h7
    have z54 : m2 113 54 = m 113 54 := by rw [f2 113 (by decide)]
    rw [if_pos hN]
    unfold JX12_remembers_48
    rw [w32_i (x := 6 * m 113 54) (by omega), e2, bndh_s, z54, w32_i (x := m 113 54 + 1) (by omega), ltt_e]
    have q : m 113 54 + 1 - 1 = m 113 54 := by omega
    refine ⟨_, rfl, fun c c0 c1 => by rw [up_ne c0, f2 c c1], fun i hi => by rw [up_i hi, f2 113 (by decide)], by rw [up_at]; omega, fun k z k0 k1 z0 z1 => ?_, ?_, ?_, ?_, ?_, ?_, ?_⟩
    · rw [up_at] at k1
      rw [if_neg hN, up_ne (by decide), s2 _ (by omega), Int.add_zero]
    · rw [up_at, up_ne (by decide), q, a0]
    · rw [up_at, up_ne (by decide), q, a1]
    · rw [up_at, up_ne (by decide), q, a2]
    · rw [up_at, up_ne (by decide), q, a3]
    · rw [up_at, up_ne (by decide), q, a4]
    · rw [up_at, up_ne (by decide), q, a5]
end
