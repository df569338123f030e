section
variable {m m' h h' : Hp} {n : Nat}
theorem tilM_v {tol j p : Int} {hd : Prop} : ∀ (k : Nat) (q : Int × Int × Int), tilM m tol j p hd k q = -2 ∨ 0 ≤ tilM m tol j p hd k q := by
  have g : ∀ (k : Nat) (i : Int) (q : Int × Int × Int), 0 ≤ i → tillS (nB m) j (rchS m j) (ee m) (limS m j p) (paceS m tol j) hd k i q = -2 ∨ 0 ≤ tillS (nB m) j (rchS m j) (ee m) (limS m j p) (paceS m tol j) hd k i q := by
    intro k
    induction k with
    | zero =>
      intro i q hi
      show ci _ i (-2) = -2 ∨ 0 ≤ ci _ i (-2)
      by_cases d : dn (nB m) (ee m) q
      · rw [ci_t d]
        exact Or.inr hi
      · rw [ci_f d]
        exact Or.inl rfl
    | succ k ih =>
      intro i q hi
      show ci _ i _ = -2 ∨ 0 ≤ ci _ i _
      by_cases d : dn (nB m) (ee m) q
      · rw [ci_t d]
        exact Or.inr hi
      · rw [ci_f d]
        exact ih (i + 1) _ (by omega)
  exact fun k q => g k 0 q (by decide)
theorem tilM_pg (e : pg m' = pg m) {tol j p : Int} {hd : Prop} {k : Nat} {q : Int × Int × Int} : tilM m' tol j p hd k q = tilM m tol j p hd k q := by
  have a1 : nB m' = nB m := (show nB (pg m') = nB (pg m) from congrArg nB e)
  have a2 : rchS m' = rchS m := by rw [← pg_rch (h := m'), e, pg_rch]
  have a3 : ee m' = ee m := (show ee (pg m') = ee (pg m) from congrArg ee e)
  have a4 : paceS m' = paceS m := (show paceS (pg m') = paceS (pg m) from congrArg paceS e)
  have a5 : limS m' = limS m := (show limS (pg m') = limS (pg m) from congrArg limS e)
  unfold tilM
  rw [a1, a2, a3, a4, a5]
/-- the slowest of the feeds that are in time, from p on -/
noncomputable def sloS (m : Hp) (k : Nat) : Nat → Int → Int
  | 0, _ => -2
  | r + 1, p => ci (tilM m (m 115 7) (m 115 6) p False k (now m) = -2) (sloS m k r (p + 10)) p
theorem sloS_0 {k : Nat} {p : Int} : sloS m k 0 p = -2 := rfl
theorem sloM_l (hn : 5000 ≤ n) (I : Inv2 m h) {k : Nat} (hk : k ≤ 3000) : ∀ (r f : Nat) (p : Int) (g : Hp), (r : Int) * 10 = 210 - p → 10 ≤ p → r < f → KM m g → ∃ g', BX12_slowest_17 n f k p g = some (sloS m k r p, g') ∧ KM m g'
  | 0, f + 1, p, g, hp, hr, hf, K => by
    have hp' : (200 : Int) < p := by omega
    rw [sloS_0]
    exact ⟨g, by rw [BX12_slowest_17, if_pos hp'], K⟩
  | r + 1, f + 1, p, g, hp, hr, hf, K => by
    have e := (KQ.of K).p
    have H := pg_wf2 e I.wf
    have q15 : g 115 = m 115 := K.r (by decide)
    have L := I.mnw.mv e (fun i i0 i1 _ => K.2 i (by omega) (by omega) (by omega) (by omega))
    have en : now g = now m := by
      unfold now
      rw [K.2 42 (by decide) (by decide) (by decide) (by decide), K.2 43 (by decide) (by decide) (by decide) (by decide), K.2 44 (by decide) (by decide) (by decide) (by decide)]
    obtain ⟨g1, e1, D1⟩ := lays_m (n := n) (by omega) H H.2.2.2.1 H.2.2.1 (pc := p) (by omega)
    obtain ⟨g2, e2, D2, M2, x52⟩ := begun D1 L.2.1
    have M3 : MQr (up g2 113 52 0) (now g) := by
      unfold MQr MR at M2 ⊢
      rw [up_i (by decide), up_i (by decide), up_i (by decide)]
      exact M2
    obtain ⟨g4, e4, F4⟩ := tillDone_m (n := n) (cnt := k) hn H H.2.2.1 hk (D2.up (i := 52) (v := 0) (by decide)) M3 L.2.2 up_at
    have K4 : KM m g4 := K.tr ((D2.up (i := 52) (v := 0) (by decide)).fr F4).km
    have e4' : MX12_tillDone_ n k (up g2 113 52 0) = some (tilM m (m 115 7) (m 115 6) p False k (now m), g4) := by
      rw [e4, ← tilM_pg e, ← en, ← q15]
      rfl
    rw [BX12_slowest_17, if_neg (by omega), al84, grd_t (by decide), grd_t (by decide), e1, bndh_s, e2, bndh_s, ltt_e, e4', bnd_s]
    show ∃ g', (if tilM m (m 115 7) (m 115 6) p False k (now m) < 0 then ltt (w32 (p + 10)) fun y1 => BX12_slowest_17 n f k y1 g4 else some (p, g4)) = some (ci (tilM m (m 115 7) (m 115 6) p False k (now m) = -2) (sloS m k r (p + 10)) p, g') ∧ KM m g'
    rcases tilM_v (m := m) (tol := m 115 7) (j := m 115 6) (p := p) (hd := False) k (now m) with q | q
    · obtain ⟨g5, e5, K5⟩ := sloM_l hn I hk r f (p + 10) g4 (by omega) (by omega) (by omega) K4
      rw [if_pos (by omega), w32_i (x := p + 10) (by omega), ltt_e, ci_t q]
      exact ⟨g5, e5, K5⟩
    · rw [if_neg (by omega), ci_f (by omega)]
      exact ⟨g4, rfl, K4⟩
/-- the class while it looks for the slowest -/
def SLo (m h g : Hp) (k : Nat) (p : Int) : Prop := (∀ c, (c < 57 ∨ 62 < c) → c ≠ 65 → g c = h c) ∧ g 57 2 = rchS m (m 115 6) ∧ (RW m g (h 0 2) ∧ g (57 + 2) 0 = h 0 2 ∧ RLc m g (57 + 2) (m 115 7) (m 115 6) ∧ FC g 57 (rchS m (m 115 6))) ∧ (p ≠ 10 → (∀ i : Int, 0 ≤ i → i < nB m → g (57 + 3) i = limS m (m 115 6) (p - 10) i) ∧ tilM m (m 115 7) (m 115 6) (p - 10) False k (now m) = -2)
theorem slo_c (hn : 5000 ≤ n) (I : Inv2 m h) {k : Nat} (hk : k ≤ 3000) : ∀ (r f : Nat) (p : Int) (g : Hp), (r : Int) * 10 = 210 - p → 10 ≤ p → r < f → SLo m h g k p → ∃ g', BX11_slowest_41 n f k p g = some (sloS m k r p, g') ∧ (∀ c, (c < 57 ∨ 62 < c) → c ≠ 65 → g' c = h c) ∧ g' 57 2 = rchS m (m 115 6) ∧ FC g' 57 (rchS m (m 115 6))
  | 0, f + 1, p, g, hp, hr, hf, S => by
    have hp' : (200 : Int) < p := by omega
    rw [sloS_0]
    exact ⟨g, by rw [BX11_slowest_41, if_pos hp'], S.1, S.2.1, S.2.2.1.2.2.2⟩
  | r + 1, f + 1, p, g, hp, hr, hf, S => by
    have H := I.wf
    have hj := H.2.2.1
    have w := I.w.1
    obtain ⟨S1, S2, ⟨S3, S4, S5, S6⟩, S7⟩ := S
    obtain ⟨o, g1, e1, o1, o2, f1, -, -, C1⟩ := grant1_c (n := n) (x := 57) (pc := p) (by omega) H S3 hj (by omega) (by omega) (by omega) S4 S5 S6
    have z5 : g1 64 = h 64 := by rw [f1 64 (by decide) (by decide), S1 64 (by decide) (by decide)]
    have z57 : g1 57 = g 57 := f1 57 (by decide) (by decide)
    obtain ⟨g2, e2, f2, b2⟩ := become_c (h := g1) (x := 65) (y := 64) (by decide) (by rw [z5, I.nw.2.2.1]; exact I.mnw.2.1)
    have fT : ∀ c, c ≠ 65 → up g2 65 5 0 c = g1 c := fun c c0 => by rw [up_ne c0, f2 c c0]
    have QT : CQ m (up g2 65 5 0) 65 (now m) := by
      have N1 := I.nw.1
      unfold CR at N1
      unfold CQ CR
      rw [up_i (by decide), up_i (by decide), up_i (by decide), up_i (by decide), b2 0 (by decide) (by decide), b2 1 (by decide) (by decide), b2 2 (by decide) (by decide), b2 3 (by decide) (by decide), z5]
      exact N1
    have tick : ∀ p', CE m g1 57 (h 0 2) (m 115 7) (m 115 6) p' → ∃ g3, MX1_ticksToEnd n 57 65 k (up g2 65 5 0) = some (tilM m (m 115 7) (m 115 6) p' False k (now m), g3) ∧ FT 57 65 (up g2 65 5 0) g3 ∧ FC g3 57 (rchS m (m 115 6)) := fun p' C' => by
      have := ticksTo_c (n := n) (D := 57) (x := 65) (k := (k : Int)) hn H hj (by decide) (C'.mv (x := 65) (by decide) (fun c c0 _ => fT c c0) (C'.2.2.2.2.2.mv (fT _ (by decide)))) QT I.rsq up_at (by omega)
      exact this
    obtain ⟨g3, e3, F3, FC3⟩ := tick p C1
    have lo3 : ∀ c, (c < 57 ∨ 62 < c) → c ≠ 65 → g3 c = h c := fun c c0 c1 => by rw [F3.1 c c1 (by omega), fT c c1, f1 c (by omega) (by omega), S1 c c0 c1]
    have x3 : g3 57 2 = rchS m (m 115 6) := by rw [F3.1 57 (by decide) (by decide), fT 57 (by decide), z57]; exact S2
    have k3 : ∀ c, c ≠ 65 → c ≠ 58 → g3 c = g1 c := fun c c0 c1 => by rw [F3.1 c c0 c1, fT c c0]
    have w32p : p ≠ 210 → w32 (p + 10) = p + 10 := fun _ => w32_i (by omega)
    -- with a ride
    have ride : ∃ g', JX11_slowest_67 n (BX11_slowest_41 n f) k p g1 = some (sloS m k (r + 1) p, g') ∧ (∀ c, (c < 57 ∨ 62 < c) → c ≠ 65 → g' c = h c) ∧ g' 57 2 = rchS m (m 115 6) ∧ FC g' 57 (rchS m (m 115 6)) := by
      unfold JX11_slowest_67
      rw [e2, bndh_s, ltt_e, e3, bnd_s]
      show ∃ g', (if tilM m (m 115 7) (m 115 6) p False k (now m) = -2 then ltt (w32 (p + 10)) fun y1 => BX11_slowest_41 n f k y1 g3 else some (p, g3)) = some (ci (tilM m (m 115 7) (m 115 6) p False k (now m) = -2) (sloS m k r (p + 10)) p, g') ∧ _
      by_cases q : tilM m (m 115 7) (m 115 6) p False k (now m) = -2
      · obtain ⟨d1, d2, d3, d4, d5, d6⟩ := C1
        obtain ⟨g5, e5, K5⟩ := slo_c hn I hk r f (p + 10) g3 (by omega) (by omega) (by omega) ⟨lo3, x3, ⟨d2.mv (fun c c0 c1 => k3 c (by omega) (by omega)), by rw [k3 _ (by decide) (by decide)]; exact d3, by
          unfold RLc at d4 ⊢
          rw [k3 (57 + 2) (by decide) (by decide), k3 (57 + 2 + 2) (by decide) (by decide), k3 (57 + 2 + 3) (by decide) (by decide)]
          exact d4, FC3⟩, fun _ => ⟨fun i i0 i1 => by rw [k3 (57 + 3) (by decide) (by decide), show p + 10 - 10 = p by omega]; exact d5 i i0 i1, by rw [show p + 10 - 10 = p by omega]; exact q⟩⟩
        rw [if_pos q, w32_i (x := p + 10) (by omega), ltt_e, ci_t q]
        exact ⟨g5, e5, K5⟩
      · rw [if_neg q, ci_f q]
        exact ⟨g3, rfl, lo3, x3, FC3⟩
    rw [BX11_slowest_41, if_neg (by omega), e1, bnd_s, ltt_e]
    by_cases hp10 : p = 10
    · rw [if_pos hp10]
      exact ride
    rw [if_neg hp10]
    by_cases ho : o = 0
    · -- no limit is another: it is late as before
      obtain ⟨d1, d2, d3, d4, d5, d6⟩ := C1
      have l1 : ∀ i : Int, 0 ≤ i → i < nB m → g1 (57 + 2 + 1) i = limS m (m 115 6) (p - 10) i := fun i i0 i1 => by
        have := o2 ho i i0 i1
        rw [show (57 + 2 + 1 : Int) = 57 + 3 by decide, this]
        exact (S7 hp10).1 i i0 i1
      obtain ⟨g3', e3', -, -⟩ := tick (p - 10) ⟨d1, d2, d3, d4, l1, d6⟩
      have q : tilM m (m 115 7) (m 115 6) p False k (now m) = -2 := by
        rw [e3] at e3'
        have := congrArg Prod.fst (Option.some.inj e3')
        have t : tilM m (m 115 7) (m 115 6) p False k (now m) = tilM m (m 115 7) (m 115 6) (p - 10) False k (now m) := this
        rw [t]
        exact (S7 hp10).2
      obtain ⟨g5, e5, K5⟩ := slo_c hn I hk r f (p + 10) g1 (by omega) (by omega) (by omega) ⟨fun c c0 c1 => by rw [f1 c (by omega) (by omega), S1 c c0 c1], by rw [z57]; exact S2, ⟨d2, d3, d4, d6⟩, fun _ => ⟨fun i i0 i1 => by rw [show p + 10 - 10 = p by omega]; exact d5 i i0 i1, by rw [show p + 10 - 10 = p by omega]; exact q⟩⟩
      rw [if_pos ho, w32_i (x := p + 10) (by omega), ltt_e]
      show ∃ g', _ = some (ci (tilM m (m 115 7) (m 115 6) p False k (now m) = -2) (sloS m k r (p + 10)) p, g') ∧ _
      rw [ci_t q]
      exact ⟨g5, e5, K5⟩
    · rw [if_neg ho]
      exact ride
theorem q_slowest (hn : 5000 ≤ n) (x : Int) : Two (MX11_slowest n x) (MX12_slowest n x) := fun m h I => by
  have H := I.wf
  have w := I.w.1
  have R := I.rw.1
  unfold MX11_slowest MX12_slowest
  rw [in_m, bndp_s]
  by_cases c0 : x < 0
  · rw [if_pos c0, if_neg (c := 0 ≤ x ∧ x ≤ 3000) (by omega), if_neg (by decide)]
    exact ⟨_, _, _, rfl, rfl, fun _ _ => rfl, fun _ _ => rfl, I⟩
  rw [if_neg c0]
  by_cases c1 : x ≤ 3000
  · obtain ⟨k, hk⟩ : ∃ k : Nat, x = (k : Int) := ⟨x.toNat, by omega⟩
    subst hk
    obtain ⟨h1, e1, f1, f1', a2, -, a0, al, aF⟩ := settle1_c (n := n) (x := 57) (by omega) H I.rw H.2.2.2.1 H.2.2.1 (by omega) (by omega) I.tr.1
    obtain ⟨h2, e2, g1, g2, g3⟩ := slo_c hn I (k := k) (by omega) 20 n 10 h1 (by decide) (by decide) (by omega) ⟨fun c c0 c1 => f1 c (by omega) (by omega) (by omega) (by omega) (by omega), a2, ⟨I.rw.mv (fun c c0 c1 => f1 c (by omega) (by omega) (by omega) (by omega) (by omega)), a0, al, aF⟩, fun q => absurd rfl q⟩
    obtain ⟨m2, e3, K⟩ := sloM_l hn I (k := k) (by omega) 20 n 10 m (by decide) (by decide) (by omega) KM.rf
    have E := env_ok H (tol := m 115 7) (p := 1) H.2.2.1
    rw [if_pos c1, if_pos (c := 0 ≤ (k : Int) ∧ (k : Int) ≤ 3000) (by omega), if_pos (by decide), R.2.1, R.1, e1, bndh_s, ltt_e, ltt_e]
    exact ⟨_, _, _, e2, e3, I.ask2 K (fun c c0 => g1 c (by have := not_scr c0; omega) (not_scr c0).2.2.2.1) (g1 _ (by decide) (by decide)) (g1 _ (by decide) (by decide)) (g1 _ (by decide) (by decide)) E.2.2.1 g2 g3⟩
  · rw [if_neg c1, if_neg (c := 0 ≤ x ∧ x ≤ 3000) (by omega), if_neg (by decide)]
    exact ⟨_, _, _, rfl, rfl, fun _ _ => rfl, fun _ _ => rfl, I⟩
end
