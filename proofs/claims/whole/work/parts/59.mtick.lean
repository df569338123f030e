/-! THE MODEL'S TICK. -/
/-- but for the ride's own numbers nothing has changed -/
def FR (h h' : Hp) : Prop := (∀ c : Int, c ≠ 113 → h' c = h c) ∧ ∀ i : Int, (i < 48 ∨ 51 < i) → h' 113 i = h 113 i
theorem FR.rf {h : Hp} : FR h h := ⟨fun _ _ => rfl, fun _ _ => rfl⟩
theorem FR.tr {h g k : Hp} (a : FR h g) (b : FR g k) : FR h k := ⟨fun c hc => (b.1 c hc).trans (a.1 c hc), fun i hi => (b.2 i hi).trans (a.2 i hi)⟩
theorem FR.put {h g : Hp} (a : FR h g) {i v : Int} (hi : 48 ≤ i ∧ i ≤ 51) : FR h (up g 113 i v) :=
  ⟨fun c hc => by rw [up_row hc]; exact a.1 c hc, fun k hk => by rw [up_i (by omega)]; exact a.2 k hk⟩
theorem LD.fr {m h h' : Hp} {tol j p : Int} (D : LD m tol j p h) (F : FR h h') : LD m tol j p h' := by
  obtain ⟨K, e1, e2, e3, e4⟩ := D
  refine ⟨⟨fun c h1 h2 h3 h4 => (F.1 c h1).trans (K.1 c h1 h2 h3 h4), fun i h1 h2 h3 h4 => (F.2 i (by omega)).trans (K.2 i h1 h2 h3 h4)⟩, by rw [F.2 40 (by decide)]; exact e1, by rw [F.2 41 (by decide)]; exact e2, fun i i0 i1 => ?_, fun i i0 i1 i2 => ?_⟩
  · rw [F.1 132 (by decide), F.1 133 (by decide), F.1 134 (by decide)]
    exact e3 i i0 i1
  · rw [F.1 135 (by decide), F.1 136 (by decide), F.1 137 (by decide)]
    exact e4 i i0 i1 i2
/-- the ride is at s, w, u -/
def MR (h : Hp) (s w u : Int) : Prop := h 113 48 = s ∧ h 113 49 = w ∧ h 113 50 = u
section
variable {n : Nat} {m h : Hp} {tol j p : Int}
theorem goesBy_m {s w u jj : Int} (hj : 1 ≤ j ∧ j ≤ 50) (ej : h 113 40 = j) (hr : MR h s w u) (hs : 0 ≤ s ∧ s ≤ 22170240) (hw : -500 ≤ w ∧ w ≤ 500) (hu : -50 ≤ u ∧ u ≤ 50) (hjj : -1 ≤ jj ∧ jj ≤ 1) : ∃ h', MX12_goesBy jj h = some h' ∧ FR h h' ∧ MR h' (s + (w + (u + jj)) * j) (w + (u + jj)) (u + jj) ∧ h' 113 51 = jj := by
  obtain ⟨e1, e2, e3⟩ := hr
  have q1 : (w + (u + jj)) * j ≤ 600 * 50 := by
    by_cases h0 : 0 ≤ w + (u + jj)
    · exact Int.mul_le_mul (by omega) hj.2 (by omega) (by decide)
    · have := Int.mul_nonneg (a := -(w + (u + jj))) (b := j) (by omega) (by omega)
      rw [Int.neg_mul] at this
      omega
  have q2 : -(600 * 50) ≤ (w + (u + jj)) * j := by
    by_cases h0 : 0 ≤ w + (u + jj)
    · have := Int.mul_nonneg h0 (show 0 ≤ j by omega)
      omega
    · have := Int.mul_le_mul (a := -(w + (u + jj))) (b := j) (c := 600) (d := 50) (by omega) hj.2 (by omega) (by decide)
      rw [Int.neg_mul] at this
      omega
  unfold MX12_goesBy
  rw [ltt_e, up_i (j := 50) (by decide), e3, w32_i (x := u + jj) (by omega), ltt_e, up_i (j := 49) (by decide), up_i (j := 49) (by decide), e2, up_s, w32_i (x := w + (u + jj)) (by omega), ltt_e, up_i (j := 48) (by decide), up_i (j := 48) (by decide), up_i (j := 48) (by decide), e1, up_s, up_i (j := 40) (by decide), up_i (j := 40) (by decide), up_i (j := 40) (by decide), ej, w32_i (x := (w + (u + jj)) * j) (by omega), w32_i (x := s + (w + (u + jj)) * j) (by omega), ltt_e]
  refine ⟨_, rfl, (((FR.rf.put (by decide)).put (by decide)).put (by decide)).put (by decide), ⟨up_s, ?_, ?_⟩, ?_⟩
  · rw [up_i (by decide), up_s]
  · rw [up_i (by decide), up_i (by decide), up_s]
  · rw [up_i (by decide), up_i (by decide), up_i (by decide), up_s]
theorem slows_m (hn : 100 ≤ n) (H : WFp m) (hj : 1 ≤ j ∧ j ≤ 50) (D : LD m tol j p h) {s w u : Int} (hr : MR h s w u) (S : RS (nB m) j (rchS m j) (ee m) s w u) (hz : ¬ (w = 0 ∧ u = 0)) : ∃ h', MX12_slows n h = some h' ∧ FR h h' ∧ MR h' (s + (w + (u + brk (rchS m j) w u)) * j) (w + (u + brk (rchS m j) w u)) (u + brk (rchS m j) w u) ∧ h' 113 51 = brk (rchS m j) w u := by
  have E := env_ok H (tol := tol) (p := p) hj
  have hR := E.2.2.1
  have hle := S.le E
  have hA := AL_bd E
  obtain ⟨b, hu, hw, hp, h0, h2, h3⟩ := S
  obtain ⟨q1, q2, -, -⟩ := brk_ok hR.1 b hz
  have b1 := b.1
  have b2 := b.2.1
  obtain ⟨h', g1, g2⟩ := goesBy_m hj D.2.1 hr (jj := brk (rchS m j) w u) (by omega) (by omega) (by omega) q2
  refine ⟨h', ?_, g2⟩
  unfold MX12_slows
  rw [hr.2.1, hr.2.2, brakeOf_m hn D.2.2.1 hR (by omega) (by omega), bndp_s, g1]
  rfl
theorem goesIfSafe_m (hn : 1000 ≤ n) (H : WFp m) (hj : 1 ≤ j ∧ j ≤ 50) (D : LD m tol j p h) {s w u jj : Int} (hr : MR h s w u) (S : RS (nB m) j (rchS m j) (ee m) s w u) (hN : 0 < nB m) (hjj : -1 ≤ jj ∧ jj ≤ 1) :
    (¬ Fit (nB m) j (rchS m j) (ee m) (limS m j p) (paceS m tol j) s w u jj → MX12_goesIfSafe n jj h = some (0, h)) ∧ (Fit (nB m) j (rchS m j) (ee m) (limS m j p) (paceS m tol j) s w u jj → ∃ h', MX12_goesIfSafe n jj h = some (1, h') ∧ FR h h' ∧ MR h' (s + (w + (u + jj)) * j) (w + (u + jj)) (u + jj) ∧ h' 113 51 = jj) := by
  have E := env_ok H (tol := tol) (p := p) hj
  have hR := E.2.2.1
  have hle := S.le E
  have hA := AL_bd E
  obtain ⟨b, hu, hw, hp, h0, h2, h3⟩ := S
  have b1 := b.1
  have b2 := b.2.1
  have hm := may_m (n := n) (by omega) H hj D hN (s := s) (w := w) (u := u) (jj := jj) (by omega) (by omega) (by omega) hjj
  unfold MX12_goesIfSafe
  rw [hr.2.2, hr.2.1, hr.1, D.2.1, ltt_e, w32_i (x := u + jj) (by omega), ltt_e, w32_i (x := w + (u + jj)) (by omega), hm, bndp_s]
  unfold Fit
  by_cases hM : May (nB m) j (rchS m j) (ee m) (limS m j p) (paceS m tol j) s w u jj
  · have c2 := hM.2.1.2.1
    have hm2 : 0 ≤ (w + (u + jj)) * j := Int.mul_nonneg c2 (by omega)
    have h3 := hM.2.2.1
    have hm3 : (w + (u + jj)) * j ≤ 600 * 50 := Int.mul_le_mul (by omega) hj.2 (by omega) (by decide)
    have hl := (bear_lim E hN (by omega) hM.2.2.2).2.2
    rw [ci_t hM, if_neg (by decide), w32_i (x := (w + (u + jj)) * j) (by omega), w32_i (x := s + (w + (u + jj)) * j) (by omega), isSafe_m hn H hj D hN hM.2.1 hM.1 hl ⟨by omega, h3⟩, bndp_s]
    constructor
    · intro hF
      rw [ci_f (fun q => hF ⟨hM, q⟩), if_neg (by decide)]
    · intro hF
      obtain ⟨h', g1, g2⟩ := goesBy_m hj D.2.1 hr (jj := jj) (by omega) (by omega) (by omega) hjj
      refine ⟨h', ?_, g2⟩
      rw [ci_t hF.2, if_pos (by decide), g1]
      rfl
  · rw [ci_f hM, if_pos rfl]
    exact ⟨fun _ => rfl, fun q => absurd q.1 hM⟩
theorem isRest_m {s w u : Int} (hr : MR h s w u) : MX12_isRest h = some (if w = 0 ∧ u = 0 then 1 else 0) := by
  unfold MX12_isRest
  rw [hr.2.1, hr.2.2]
  by_cases h1 : w = 0
  · rw [if_neg (fun q => q h1)]
    by_cases h2 : u = 0
    · rw [if_neg (fun q => q h2), if_pos ⟨h1, h2⟩]
    · rw [if_pos h2, if_neg (fun q => h2 q.2)]
  · rw [if_pos h1, if_neg (fun q => h1 q.1)]
theorem isDone_m (H : WFp m) (K : KM m h) {s w u : Int} (hr : MR h s w u) : MX12_isDone h = some (if (w = 0 ∧ u = 0) ∧ s = AL (nB m) (ee m) then 1 else 0) := by
  unfold MX12_isDone
  rw [isRest_m hr, bndp_s]
  by_cases h1 : w = 0 ∧ u = 0
  · rw [if_pos h1, if_neg (by decide), all_m H K.eN (K.r (by decide)), bndp_s, hr.1]
    by_cases h2 : s = AL (nB m) (ee m)
    · rw [if_neg (fun q => q h2), if_pos ⟨h1, h2⟩]
    · rw [if_pos h2, if_neg (fun q => h2 q.2)]
  · rw [if_neg h1, if_pos rfl, if_neg (fun q => h1 q.1)]
/-- one tick of the model -/
theorem tick_m (hn : 1000 ≤ n) (H : WFp m) (hj : 1 ≤ j ∧ j ≤ 50) (D : LD m tol j p h) {s w u : Int} (hr : MR h s w u) (S : RS (nB m) j (rchS m j) (ee m) s w u) : ∃ h', MX12_tick n h = some h' ∧ FR h h' ∧ MR h' (tickS (nB m) j (rchS m j) (ee m) (limS m j p) (paceS m tol j) (h 113 52 ≠ 0) s w u).1 (tickS (nB m) j (rchS m j) (ee m) (limS m j p) (paceS m tol j) (h 113 52 ≠ 0) s w u).2.1 (tickS (nB m) j (rchS m j) (ee m) (limS m j p) (paceS m tol j) (h 113 52 ≠ 0) s w u).2.2.1 ∧ h' 113 51 = (tickS (nB m) j (rchS m j) (ee m) (limS m j p) (paceS m tol j) (h 113 52 ≠ 0) s w u).2.2.2 := by
  have E := env_ok H (tol := tol) (p := p) hj
  have hR := E.2.2.1
  have hle := S.le E
  have hA := AL_bd E
  have h0 := S.2.2.2.2.1
  have F1 : FR h (up h 113 51 0) := FR.rf.put (by decide)
  have D1 := D.fr F1
  have r1 : MR (up h 113 51 0) s w u := by
    unfold MR
    rw [up_i (by decide), up_i (by decide), up_i (by decide)]
    exact hr
  have e52 : up h 113 51 0 113 52 = h 113 52 := up_i (by decide)
  have e51 : up h 113 51 0 113 51 = 0 := up_s
  unfold MX12_tick
  rw [ltt_e, isDone_m H D1.1 r1, bndp_s, e52]
  generalize up h 113 51 0 = g at *
  unfold tickS
  by_cases c1 : (w = 0 ∧ u = 0) ∧ s = AL (nB m) (ee m)
  · rw [if_pos c1, if_pos (by decide), ci_t ⟨c1.1, Or.inr c1.2⟩]
    exact ⟨g, rfl, F1, r1, e51⟩
  · rw [if_neg c1, if_neg (by decide)]
    have hN : 0 < nB m := by
      rcases S.2.2.2.2.2.2 with hN | hN
      · exact hN
      · by_cases h9 : 0 < nB m
        · exact h9
        · have : AL (nB m) (ee m) = 0 := if_pos (by omega)
          exact absurd ⟨hN, by omega⟩ c1
    have t27 : ¬ ((w = 0 ∧ u = 0) ∧ (h 113 52 ≠ 0 ∨ s = AL (nB m) (ee m))) → ∃ h', JX12_tick_27 n g = some h' ∧ FR h h' ∧ MR h' (ci (h 113 52 ≠ 0) (goS j s w u (brk (rchS m j) w u)) (ci (w = 0 ∧ u = 0) (ci (Fit (nB m) j (rchS m j) (ee m) (limS m j p) (paceS m tol j) s w u 1) (goS j s w u 1) (ci (AL (nB m) (ee m) - s < 2 * j) (AL (nB m) (ee m), w, u, 0) (s, w, u, 0))) (ci (Fit (nB m) j (rchS m j) (ee m) (limS m j p) (paceS m tol j) s w u 1) (goS j s w u 1) (ci (Fit (nB m) j (rchS m j) (ee m) (limS m j p) (paceS m tol j) s w u 0) (goS j s w u 0) (ci (Fit (nB m) j (rchS m j) (ee m) (limS m j p) (paceS m tol j) s w u (-1)) (goS j s w u (-1)) (goS j s w u (brk (rchS m j) w u))))))).1 (ci (h 113 52 ≠ 0) (goS j s w u (brk (rchS m j) w u)) (ci (w = 0 ∧ u = 0) (ci (Fit (nB m) j (rchS m j) (ee m) (limS m j p) (paceS m tol j) s w u 1) (goS j s w u 1) (ci (AL (nB m) (ee m) - s < 2 * j) (AL (nB m) (ee m), w, u, 0) (s, w, u, 0))) (ci (Fit (nB m) j (rchS m j) (ee m) (limS m j p) (paceS m tol j) s w u 1) (goS j s w u 1) (ci (Fit (nB m) j (rchS m j) (ee m) (limS m j p) (paceS m tol j) s w u 0) (goS j s w u 0) (ci (Fit (nB m) j (rchS m j) (ee m) (limS m j p) (paceS m tol j) s w u (-1)) (goS j s w u (-1)) (goS j s w u (brk (rchS m j) w u))))))).2.1 (ci (h 113 52 ≠ 0) (goS j s w u (brk (rchS m j) w u)) (ci (w = 0 ∧ u = 0) (ci (Fit (nB m) j (rchS m j) (ee m) (limS m j p) (paceS m tol j) s w u 1) (goS j s w u 1) (ci (AL (nB m) (ee m) - s < 2 * j) (AL (nB m) (ee m), w, u, 0) (s, w, u, 0))) (ci (Fit (nB m) j (rchS m j) (ee m) (limS m j p) (paceS m tol j) s w u 1) (goS j s w u 1) (ci (Fit (nB m) j (rchS m j) (ee m) (limS m j p) (paceS m tol j) s w u 0) (goS j s w u 0) (ci (Fit (nB m) j (rchS m j) (ee m) (limS m j p) (paceS m tol j) s w u (-1)) (goS j s w u (-1)) (goS j s w u (brk (rchS m j) w u))))))).2.2.1 ∧ h' 113 51 = (ci (h 113 52 ≠ 0) (goS j s w u (brk (rchS m j) w u)) (ci (w = 0 ∧ u = 0) (ci (Fit (nB m) j (rchS m j) (ee m) (limS m j p) (paceS m tol j) s w u 1) (goS j s w u 1) (ci (AL (nB m) (ee m) - s < 2 * j) (AL (nB m) (ee m), w, u, 0) (s, w, u, 0))) (ci (Fit (nB m) j (rchS m j) (ee m) (limS m j p) (paceS m tol j) s w u 1) (goS j s w u 1) (ci (Fit (nB m) j (rchS m j) (ee m) (limS m j p) (paceS m tol j) s w u 0) (goS j s w u 0) (ci (Fit (nB m) j (rchS m j) (ee m) (limS m j p) (paceS m tol j) s w u (-1)) (goS j s w u (-1)) (goS j s w u (brk (rchS m j) w u))))))).2.2.2 := by
      intro hnr
      have gis := fun jj (hjj : -1 ≤ jj ∧ jj ≤ 1) => goesIfSafe_m hn H hj D1 r1 S hN (jj := jj) hjj
      unfold JX12_tick_27
      rw [e52]
      by_cases c2 : h 113 52 = 0
      · rw [if_pos c2, ci_f (fun q => q c2), isRest_m r1, bndp_s]
        by_cases c3 : w = 0 ∧ u = 0
        · rw [if_pos c3, if_neg (by decide), ci_t c3]
          by_cases c4 : Fit (nB m) j (rchS m j) (ee m) (limS m j p) (paceS m tol j) s w u 1
          · obtain ⟨h', g1, g2, g3, g4⟩ := (gis 1 (by decide)).2 c4
            rw [g1, bnd_s, if_pos (by decide), ci_t c4]
            exact ⟨h', rfl, F1.tr g2, g3, g4⟩
          · rw [(gis 1 (by decide)).1 c4, bnd_s, if_neg (by decide), ci_f c4, all_m H D1.1.eN (D1.1.r (by decide)), bndp_s, D1.2.1, r1.1, w32_i (x := 2 * j) (by omega), w32_i (x := AL (nB m) (ee m) - s) (by omega)]
            by_cases c5 : AL (nB m) (ee m) - s < 2 * j
            · rw [if_neg (by omega), ci_t c5, bndp_s, ltt_e]
              refine ⟨_, rfl, F1.put (by decide), ⟨up_s, ?_, ?_⟩, ?_⟩
              · rw [up_i (by decide)]; exact r1.2.1
              · rw [up_i (by decide)]; exact r1.2.2
              · rw [up_i (by decide)]; exact e51
            · rw [if_pos (by omega), ci_f c5]
              exact ⟨g, rfl, F1, r1, e51⟩
        · rw [if_neg c3, if_pos rfl, ci_f c3, ltt_e]
          unfold LX12_tick_83
          obtain ⟨n', e⟩ : ∃ n', n = n' + 4 := ⟨n - 4, by omega⟩
          have st : ∀ f : Nat, ∃ h', BX12_tick_83 n (f + 4) 1 g = some h' ∧ FR h h' ∧ MR h' (ci (Fit (nB m) j (rchS m j) (ee m) (limS m j p) (paceS m tol j) s w u 1) (goS j s w u 1) (ci (Fit (nB m) j (rchS m j) (ee m) (limS m j p) (paceS m tol j) s w u 0) (goS j s w u 0) (ci (Fit (nB m) j (rchS m j) (ee m) (limS m j p) (paceS m tol j) s w u (-1)) (goS j s w u (-1)) (goS j s w u (brk (rchS m j) w u))))).1 (ci (Fit (nB m) j (rchS m j) (ee m) (limS m j p) (paceS m tol j) s w u 1) (goS j s w u 1) (ci (Fit (nB m) j (rchS m j) (ee m) (limS m j p) (paceS m tol j) s w u 0) (goS j s w u 0) (ci (Fit (nB m) j (rchS m j) (ee m) (limS m j p) (paceS m tol j) s w u (-1)) (goS j s w u (-1)) (goS j s w u (brk (rchS m j) w u))))).2.1 (ci (Fit (nB m) j (rchS m j) (ee m) (limS m j p) (paceS m tol j) s w u 1) (goS j s w u 1) (ci (Fit (nB m) j (rchS m j) (ee m) (limS m j p) (paceS m tol j) s w u 0) (goS j s w u 0) (ci (Fit (nB m) j (rchS m j) (ee m) (limS m j p) (paceS m tol j) s w u (-1)) (goS j s w u (-1)) (goS j s w u (brk (rchS m j) w u))))).2.2.1 ∧ h' 113 51 = (ci (Fit (nB m) j (rchS m j) (ee m) (limS m j p) (paceS m tol j) s w u 1) (goS j s w u 1) (ci (Fit (nB m) j (rchS m j) (ee m) (limS m j p) (paceS m tol j) s w u 0) (goS j s w u 0) (ci (Fit (nB m) j (rchS m j) (ee m) (limS m j p) (paceS m tol j) s w u (-1)) (goS j s w u (-1)) (goS j s w u (brk (rchS m j) w u))))).2.2.2 := by
            intro f
            rw [BX12_tick_83, if_neg (by decide)]
            by_cases c4 : Fit (nB m) j (rchS m j) (ee m) (limS m j p) (paceS m tol j) s w u 1
            · obtain ⟨h', g1, g2, g3, g4⟩ := (gis 1 (by decide)).2 c4
              rw [g1, bnd_s, if_neg (by decide), ci_t c4]
              exact ⟨h', rfl, F1.tr g2, g3, g4⟩
            · rw [(gis 1 (by decide)).1 c4, bnd_s, if_pos rfl, ci_f c4, ltt_e, w32_i (x := 1 + -1) (by decide), show (1 + -1 : Int) = 0 from rfl, BX12_tick_83, if_neg (by decide)]
              by_cases c5 : Fit (nB m) j (rchS m j) (ee m) (limS m j p) (paceS m tol j) s w u 0
              · obtain ⟨h', g1, g2, g3, g4⟩ := (gis 0 (by decide)).2 c5
                rw [g1, bnd_s, if_neg (by decide), ci_t c5]
                exact ⟨h', rfl, F1.tr g2, g3, g4⟩
              · rw [(gis 0 (by decide)).1 c5, bnd_s, if_pos rfl, ci_f c5, ltt_e, w32_i (x := 0 + -1) (by decide), show (0 + -1 : Int) = -1 from rfl, BX12_tick_83, if_neg (by decide)]
                by_cases c6 : Fit (nB m) j (rchS m j) (ee m) (limS m j p) (paceS m tol j) s w u (-1)
                · obtain ⟨h', g1, g2, g3, g4⟩ := (gis (-1) (by decide)).2 c6
                  rw [g1, bnd_s, if_neg (by decide), ci_t c6]
                  exact ⟨h', rfl, F1.tr g2, g3, g4⟩
                · obtain ⟨h', g1, g2, g3, g4⟩ := slows_m (n := n) (by omega) H hj D1 r1 S c3
                  rw [(gis (-1) (by decide)).1 c6, bnd_s, if_pos rfl, ci_f c6, ltt_e, w32_i (x := -1 + -1) (by decide), show (-1 + -1 : Int) = -2 from rfl, BX12_tick_83, if_pos (by decide), g1]
                  exact ⟨h', rfl, F1.tr g2, g3, g4⟩
          have := st n'
          rw [← e] at this
          exact this
      · obtain ⟨h', g1, g2, g3, g4⟩ := slows_m (n := n) (by omega) H hj D1 r1 S (fun z => hnr ⟨z, Or.inl c2⟩)
        rw [if_neg c2, ci_t c2, g1]
        exact ⟨h', rfl, F1.tr g2, g3, g4⟩
    by_cases c2 : h 113 52 = 0
    · have c3 : ¬ ((w = 0 ∧ u = 0) ∧ (h 113 52 ≠ 0 ∨ s = AL (nB m) (ee m))) := fun q => by
        rcases q.2 with q2 | q2
        · exact q2 c2
        · exact c1 ⟨q.1, q2⟩
      rw [if_pos c2, ci_f c3]
      exact t27 c3
    · rw [if_neg c2, isRest_m r1, bndp_s]
      by_cases c3 : w = 0 ∧ u = 0
      · rw [if_pos c3, if_neg (by decide), ci_t ⟨c3, Or.inl c2⟩]
        exact ⟨g, rfl, F1, r1, e51⟩
      · have c4 : ¬ ((w = 0 ∧ u = 0) ∧ (h 113 52 ≠ 0 ∨ s = AL (nB m) (ee m))) := fun q => c3 q.1
        rw [if_neg c3, if_pos rfl, ci_f c4]
        exact t27 c4
end
