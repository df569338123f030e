/-! THE CLASS'S TICK, whole. -/
section
variable {n : Nat} {m h : Hp} {D w0 tol j p : Int}
theorem RS_N {N J R : Int} {e lim pc : Int → Int} (E : EnvOK N J R e lim pc) {s w u : Int} (S : RS N J R e s w u) (h : ¬ ((w = 0 ∧ u = 0) ∧ s = AL N e)) : 0 < N := by
  rcases S.2.2.2.2.2.2 with hN | hN
  · exact hN
  · by_cases h9 : 0 < N
    · exact h9
    · have h0 := S.2.2.2.2.1
      have := S.le E
      have : AL N e = 0 := if_pos (by omega)
      exact absurd ⟨hN, by omega⟩ h
theorem fit_st (hn : 2000 ≤ n) (H : WFp m) (hj : 1 ≤ j ∧ j ≤ 50) (C : CE m h D w0 tol j p) (hN : 0 < nB m) {x s w u jj y z : Int} (hx : D + 6 < x) (hr : CR m h x s w u) (S : RS (nB m) j (rchS m j) (ee m) s w u) (hjj : -1 ≤ jj ∧ jj ≤ 1) (hz : z ≤ jj) (f : Nat) :
    (¬ Fit (nB m) j (rchS m j) (ee m) (limS m j p) (paceS m tol j) s w u jj → ∃ g, BX1_tick_59 n (f + 1) D x y z jj h = BX1_tick_59 n f D x y z (jj - 1) g ∧ (∀ c : Int, c ≠ D + 1 → g c = h c) ∧ FC g D (rchS m j)) ∧
    (Fit (nB m) j (rchS m j) (ee m) (limS m j p) (paceS m tol j) s w u jj → ∃ g, BX1_tick_59 n (f + 1) D x y z jj h = some (.inr (jj, g)) ∧ FT D x h g ∧ FC g D (rchS m j) ∧ CR m g x (s + (w + (u + jj)) * j) (w + (u + jj)) (u + jj)) := by
  obtain ⟨g, g1, g2, g3⟩ := isFit_c hn H hj C hN hr S hjj
  have Cg : CE m g D w0 tol j p := C.mv (x := D + 7) (by omega) (fun c _ hc => g3 c hc) g2
  have hrg : CR m g x s w u := hr.mv (g3 x (by omega))
  constructor
  · intro hF
    rw [BX1_tick_59, if_neg (by omega), g1, ci_f hF, bnd_s, if_pos rfl, ltt_e, w32_i (x := jj + -1) (by omega)]
    exact ⟨g, rfl, g3, g2⟩
  · intro hF
    obtain ⟨k, k1, k2, k3⟩ := go_c (n := n) (by omega) H hj Cg hN hx hrg S hjj hF.1.2.1.2.1
    rw [BX1_tick_59, if_neg (by omega), g1, ci_t hF, bnd_s, if_neg (by decide), k1, bnd_s]
    exact ⟨k, rfl, (FT.of hx g3).tr k2.ft, g2.of (k2.1 _ (by omega)), k3⟩
theorem slow_c (hn : 2000 ≤ n) (H : WFp m) (hj : 1 ≤ j ∧ j ≤ 50) (C : CE m h D w0 tol j p) (hN : 0 < nB m) {x s w u : Int} (hx : D + 6 < x) (hr : CR m h x s w u) (S : RS (nB m) j (rchS m j) (ee m) s w u) (hz : ¬ (w = 0 ∧ u = 0)) :
    ∃ h', JX1_tick_89 n D x 0 h = some (brk (rchS m j) w u, h') ∧ FT D x h h' ∧ FC h' D (rchS m j) ∧ CR m h' x (s + (w + (u + brk (rchS m j) w u)) * j) (w + (u + brk (rchS m j) w u)) (u + brk (rchS m j) w u) := by
  have E := env_ok H (tol := tol) (p := p) hj
  have hR := E.2.2.1
  obtain ⟨q1, q2, -, -⟩ := brk_ok hR.1 S.1 hz
  have b1 := S.1.1
  have b2 := S.1.2.1
  have hu := S.2.1
  have hw := S.2.2.1
  obtain ⟨k, k1, k2, k3⟩ := go_c (n := n) (by omega) H hj C hN hx hr S q2 q1.2.1
  unfold JX1_tick_89
  rw [if_pos rfl, hr.2.1, hr.2.2.1, brake_c C.2.2.2.1.2.1 hR (by omega) (by omega), bndp_s, k1, bnd_s]
  exact ⟨k, rfl, k2.ft, C.2.2.2.2.2.of (k2.1 _ (by omega)), k3⟩
theorem tick_c (hn : 2000 ≤ n) (H : WFp m) (hj : 1 ≤ j ∧ j ≤ 50) (C : CE m h D w0 tol j p) {x s w u : Int} (hx : D + 6 < x) (hr : CR m h x s w u) (S : RS (nB m) j (rchS m j) (ee m) s w u) :
    ∃ h', MX1_tick n D x h = some ((tickS (nB m) j (rchS m j) (ee m) (limS m j p) (paceS m tol j) (h x 5 ≠ 0) s w u).2.2.2, h') ∧ FT D x h h' ∧ FC h' D (rchS m j) ∧ CR m h' x (tickS (nB m) j (rchS m j) (ee m) (limS m j p) (paceS m tol j) (h x 5 ≠ 0) s w u).1 (tickS (nB m) j (rchS m j) (ee m) (limS m j p) (paceS m tol j) (h x 5 ≠ 0) s w u).2.1 (tickS (nB m) j (rchS m j) (ee m) (limS m j p) (paceS m tol j) (h x 5 ≠ 0) s w u).2.2.1 := by
  have hB := H.1
  have E := env_ok H (tol := tol) (p := p) hj
  have hR := E.2.2.1
  have hle := S.le E
  have hA := AL_bd E
  have h0 := S.2.2.2.2.1
  unfold MX1_tick
  rw [rests_c hr, bndp_s, ltt_e]
  by_cases cr : w = 0 ∧ u = 0
  · rw [if_pos cr, if_neg (by decide)]
    by_cases ch : h x 5 ≠ 0
    · rw [if_pos ch]
      have eT : tickS (nB m) j (rchS m j) (ee m) (limS m j p) (paceS m tol j) (h x 5 ≠ 0) s w u = (s, w, u, 0) := ci_t ⟨cr, Or.inl ch⟩
      rw [eT]
      exact ⟨h, rfl, FT.rf, C.2.2.2.2.2, hr⟩
    · rw [if_neg ch, hr.1, C.2.2.1, C.2.1.1.2.2.2.2.2, ← AL_m H]
      by_cases ce : s < AL (nB m) (ee m)
      · have hN := RS_N E S (fun q => by omega)
        rw [if_pos ce]
        unfold JX1_tick_35
        rw [if_pos (by omega), if_neg (by decide)]
        unfold JX1_tick_55 LX1_tick_59
        rw [ltt_e, ltt_e]
        obtain ⟨n', en⟩ : ∃ n', n = n' + 1 + 1 := ⟨n - 2, by omega⟩
        have eT : tickS (nB m) j (rchS m j) (ee m) (limS m j p) (paceS m tol j) (h x 5 ≠ 0) s w u = ci (Fit (nB m) j (rchS m j) (ee m) (limS m j p) (paceS m tol j) s w u 1) (goS j s w u 1) (ci (AL (nB m) (ee m) - s < 2 * j) (AL (nB m) (ee m), w, u, 0) (s, w, u, 0)) := by
          unfold tickS
          rw [ci_f (fun q => by
            rcases q.2 with q | q
            · exact ch q
            · omega), ci_f ch, ci_t cr]
        rw [eT]
        have fs := fit_st hn H hj C hN hx hr S (jj := 1) (y := 1) (z := 1) (by decide) (by decide) (n' + 1)
        rw [← en] at fs
        by_cases cF : Fit (nB m) j (rchS m j) (ee m) (limS m j p) (paceS m tol j) s w u 1
        · obtain ⟨g, g1, g2, g3, g4⟩ := fs.2 cF
          rw [g1, bnds_r, ci_t cF]
          exact ⟨g, rfl, g2, g3, g4⟩
        · obtain ⟨g, g1, g2, g3⟩ := fs.1 cF
          rw [g1, show (1 - 1 : Int) = 0 from rfl, BX1_tick_59, if_pos (by decide), bnds_l, ci_f cF]
          show ∃ h', JX1_tick_89 n D x 1 g = _ ∧ _
          have hrg : CR m g x s w u := hr.mv (g2 x (by omega))
          have Cg : CE m g D w0 tol j p := C.mv (x := D + 7) (by omega) (fun c _ hc => g2 c hc) g3
          unfold JX1_tick_89 MX1_creep
          rw [if_neg (by decide), Cg.2.2.2.1.1, Cg.2.2.1, Cg.2.1.1.2.2.2.2.2, ← AL_m H, hrg.1, w32_i (x := 2 * j) (by omega), w32_i (x := AL (nB m) (ee m) - s) (by omega)]
          by_cases c5 : AL (nB m) (ee m) - s < 2 * j
          · have hw0 := Cg.1
            rw [if_neg (by omega), ci_t c5, ltt_e, up_c (b := D + 2) (by omega), Cg.2.2.1, up_c (b := w0) (by omega), Cg.2.1.1.2.2.1, w32_i (x := nB m - 1) (by omega), ltt_e, bndh_s]
            refine ⟨_, rfl, (FT.of hx g2).tr (((FX.rf.put (by decide)).put (by decide)).ft), g3.of (by rw [up_row (by omega), up_row (by omega)]), ?_, ?_, ?_, ?_⟩
            · rw [up_i (by decide), up_s]
            · rw [up_i (by decide), up_i (by decide)]; exact hrg.2.1
            · rw [up_i (by decide), up_i (by decide)]; exact hrg.2.2.1
            · rw [up_s]
              refine (blk_uq E (b := nB m - 1) (by omega) (by omega) ?_ (Or.inr rfl)).symm
              by_cases hz : nB m - 1 = 0
              · exact Or.inl hz
              · rw [AL_e hN]
                exact Or.inr (e_le E (by omega) (by omega) (by omega))
          · rw [if_pos (by omega), ci_f c5, bndh_s]
            exact ⟨g, rfl, FT.of hx g2, g3, hrg⟩
      · rw [if_neg ce]
        have eT : tickS (nB m) j (rchS m j) (ee m) (limS m j p) (paceS m tol j) (h x 5 ≠ 0) s w u = (s, w, u, 0) := ci_t ⟨cr, Or.inr (by omega)⟩
        rw [eT]
        exact ⟨h, rfl, FT.rf, C.2.2.2.2.2, hr⟩
  · have hN := RS_N E S (fun q => cr q.1)
    rw [if_neg cr, if_pos rfl]
    unfold JX1_tick_35
    by_cases ch : h x 5 ≠ 0
    · have eT : tickS (nB m) j (rchS m j) (ee m) (limS m j p) (paceS m tol j) (h x 5 ≠ 0) s w u = goS j s w u (brk (rchS m j) w u) := by
        unfold tickS
        rw [ci_f (fun q => cr q.1), ci_t ch]
      rw [if_neg ch, eT]
      unfold JX1_tick_55 LX1_tick_59
      obtain ⟨n', en⟩ : ∃ n', n = n' + 1 := ⟨n - 1, by omega⟩
      have e1 : BX1_tick_59 n n D x 0 2 1 h = some (.inl (D, x, 0, h)) := by
        conv => lhs; arg 2; rw [en]
        rw [BX1_tick_59, if_pos (by decide)]
      rw [ltt_e, ltt_e, e1, bnds_l]
      exact slow_c hn H hj C hN hx hr S cr
    · have eT : tickS (nB m) j (rchS m j) (ee m) (limS m j p) (paceS m tol j) (h x 5 ≠ 0) s w u = ci (Fit (nB m) j (rchS m j) (ee m) (limS m j p) (paceS m tol j) s w u 1) (goS j s w u 1) (ci (Fit (nB m) j (rchS m j) (ee m) (limS m j p) (paceS m tol j) s w u 0) (goS j s w u 0) (ci (Fit (nB m) j (rchS m j) (ee m) (limS m j p) (paceS m tol j) s w u (-1)) (goS j s w u (-1)) (goS j s w u (brk (rchS m j) w u)))) := by
        unfold tickS
        rw [ci_f (fun q => cr q.1), ci_f ch, ci_f cr]
      rw [if_pos (by omega), if_pos rfl, eT]
      unfold JX1_tick_55 LX1_tick_59
      rw [ltt_e, ltt_e]
      obtain ⟨n', en⟩ : ∃ n', n = n' + 1 + 1 + 1 + 1 := ⟨n - 4, by omega⟩
      have fs := fit_st hn H hj C hN hx hr S (jj := 1) (y := 0) (z := -1) (by decide) (by decide) (n' + 1 + 1 + 1)
      rw [← en] at fs
      by_cases cF : Fit (nB m) j (rchS m j) (ee m) (limS m j p) (paceS m tol j) s w u 1
      · obtain ⟨g, g1, g2, g3, g4⟩ := fs.2 cF
        rw [g1, bnds_r, ci_t cF]
        exact ⟨g, rfl, g2, g3, g4⟩
      · obtain ⟨g, g1, g2, g3⟩ := fs.1 cF
        have hrg : CR m g x s w u := hr.mv (g2 x (by omega))
        have Cg : CE m g D w0 tol j p := C.mv (x := D + 7) (by omega) (fun c _ hc => g2 c hc) g3
        rw [g1, show (1 - 1 : Int) = 0 from rfl, ci_f cF]
        have fs2 := fit_st hn H hj Cg hN hx hrg S (jj := 0) (y := 0) (z := -1) (by decide) (by decide) (n' + 1 + 1)
        by_cases cF2 : Fit (nB m) j (rchS m j) (ee m) (limS m j p) (paceS m tol j) s w u 0
        · obtain ⟨k, k1, k2, k3, k4⟩ := fs2.2 cF2
          rw [k1, bnds_r, ci_t cF2]
          exact ⟨k, rfl, (FT.of hx g2).tr k2, k3, k4⟩
        · obtain ⟨k, k1, k2, k3⟩ := fs2.1 cF2
          have hrk : CR m k x s w u := hrg.mv (k2 x (by omega))
          have Ck : CE m k D w0 tol j p := Cg.mv (x := D + 7) (by omega) (fun c _ hc => k2 c hc) k3
          rw [k1, show (0 - 1 : Int) = -1 from rfl, ci_f cF2]
          have fs3 := fit_st hn H hj Ck hN hx hrk S (jj := -1) (y := 0) (z := -1) (by decide) (by decide) (n' + 1)
          by_cases cF3 : Fit (nB m) j (rchS m j) (ee m) (limS m j p) (paceS m tol j) s w u (-1)
          · obtain ⟨q, q1, q2, q3, q4⟩ := fs3.2 cF3
            rw [q1, bnds_r, ci_t cF3]
            exact ⟨q, rfl, ((FT.of hx g2).tr (FT.of hx k2)).tr q2, q3, q4⟩
          · obtain ⟨q, q1, q2, q3⟩ := fs3.1 cF3
            have hrq : CR m q x s w u := hrk.mv (q2 x (by omega))
            have Cq : CE m q D w0 tol j p := Ck.mv (x := D + 7) (by omega) (fun c _ hc => q2 c hc) q3
            rw [q1, show (-1 - 1 : Int) = -2 from rfl, BX1_tick_59, if_pos (by decide), bnds_l, ci_f cF3]
            obtain ⟨v, v1, v2, v3, v4⟩ := slow_c hn H hj Cq hN hx hrq S cr
            refine ⟨v, v1, (((FT.of hx g2).tr (FT.of hx k2)).tr (FT.of hx q2)).tr v2, v3, v4⟩
end
