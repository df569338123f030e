/-! THE CLASS'S TICK. -/
section
variable {n : Nat} {m h : Hp} {D w0 tol j p : Int}
theorem corner_c {w b : Int} (H : WFp m) (R : RW m h w) : MX10_hasCorner w b h = some (if 0 ≤ b ∧ b + 1 < nB m then 1 else 0) := by
  have hB := H.1
  unfold MX10_hasCorner
  rw [R.1.2.2.1, w32_i (x := nB m - 1) (by omega)]
  by_cases h1 : b < 0
  · rw [if_pos h1, if_neg (by omega)]
  · rw [if_neg h1]
    by_cases h2 : nB m - 1 ≤ b
    · rw [if_pos h2, if_neg (by omega)]
    · rw [if_neg h2, if_pos (by omega)]
theorem pk_2 {w u l : Int} (hu : 1 ≤ u) : pk w u l ↔ w + u * (u - 1) / 2 ≤ l := by
  unfold pk
  rw [Int.mul_comm (u - 1) u]
  have t1 := tri_0 (u - 1)
  have t2 : (u * (u - 1)) % 2 = 0 := by
    rw [Int.mul_emod]
    rcases (show u % 2 = 0 ∨ u % 2 = 1 by omega) with h9 | h9
    · rw [h9, Int.zero_mul]; rfl
    · rw [show (u - 1) % 2 = 0 by omega, Int.mul_zero]; rfl
  by_cases h1 : u = 1
  · subst h1
    have e0 : (1 : Int) * (1 - 1) = 0 := rfl
    rw [e0]
    omega
  · generalize u * (u - 1) = X at *
    omega
theorem isSafe_c (hn : 2000 ≤ n) (H : WFp m) (hj : 1 ≤ j ∧ j ≤ 50) (C : CE m h D w0 tol j p) (hN : 0 < nB m) {s w u : Int} (hb : bears (rchS m j) w u) (hu : u ≤ rchS m j) (hw : w ≤ 100) (hs : 0 ≤ s ∧ s ≤ AL (nB m) (ee m)) (hl : w ≤ limS m j p (blk (ee m) (nB m) s)) :
    ∃ h', MX1_isSafe n D s w u (blk (ee m) (nB m) s) h = some (ci (SafeF (nB m) j (rchS m j) (ee m) (limS m j p) (paceS m tol j) 1000 s w u) 1 0, h') ∧ FC h' D (rchS m j) ∧ ∀ c : Int, c ≠ D + 1 → h' c = h c := by
  have hB := H.1
  have E := env_ok H (tol := tol) (p := p) hj
  have hR := E.2.2.1
  have hA := AL_bd E
  have b1 := hb.1
  have b2 := hb.2.1
  have hbd := far_bd hR.1 hb (by omega) (by omega)
  have hk := (blk_ok E (s := s) hN)
  obtain ⟨h1, f1, f2, f3⟩ := farness_c hn C.2.2.2.1.2.1 hR C.2.2.2.2.2 hb hu hw
  have C1 : CE m h1 D w0 tol j p := C.mv (x := D + 7) (by omega) (fun c _ hc => f3 c hc) f2
  have hfj : 0 ≤ far (rchS m j) w u * j := Int.mul_nonneg hbd.1 (by omega)
  have hfj2 : far (rchS m j) w u * j ≤ 300000 * 50 := Int.mul_le_mul hbd.2 hj.2 (by omega) (by decide)
  refine ⟨h1, ?_, f2, f3⟩
  unfold MX1_isSafe
  rw [f1, bnd_s, ltt_e, C1.2.2.2.1.1, w32_i (x := far (rchS m j) w u * j) (by omega), w32_i (x := s + far (rchS m j) w u * j) (by omega), C1.2.2.1, C1.2.1.1.2.2.2.2.2, ← AL_m H]
  by_cases hend : s + far (rchS m j) w u * j ≤ AL (nB m) (ee m)
  · rw [if_pos hend]
    have hsafe1 := fun hc => safe_one E hN 1000 s w u hb hu (by omega) (by unfold nu; omega) hend hc (fun _ => hl)
    have key : ∀ z0 z1 : Int, (z0 = w ∧ -1000 ≤ z1 ∧ z1 ≤ 1000 ∧ (z0 + z1 ≤ limS m j p (blk (ee m) (nB m) s) ↔ pk w u (limS m j p (blk (ee m) (nB m) s)))) → JX1_isSafe_51 n D s w u (blk (ee m) (nB m) s) (s + far (rchS m j) w u * j) z0 z1 h1 = some (ci (SafeF (nB m) j (rchS m j) (ee m) (limS m j p) (paceS m tol j) 1000 s w u) 1 0, h1) := by
      intro z0 z1 ⟨e0, z2, z3, z4⟩
      have one : (blk (ee m) (nB m) s = nB m - 1 ∨ s + far (rchS m j) w u * j < ee m (blk (ee m) (nB m) s)) → JX1_isSafe_87 n D s w u (blk (ee m) (nB m) s) (z0 + z1) h1 = some (ci (SafeF (nB m) j (rchS m j) (ee m) (limS m j p) (paceS m tol j) 1000 s w u) 1 0, h1) := by
        intro hc
        have eL : h1 (D + 2 + 1) (blk (ee m) (nB m) s) = limS m j p (blk (ee m) (nB m) s) := C1.2.2.2.2.1 _ hk.1.1 hk.1.2
        have hs1 := hsafe1 hc
        unfold JX1_isSafe_87 JX1_isSafe_92
        rw [ltt_e, if_neg (by decide), al532, grd_t (by omega), eL]
        by_cases h9 : z0 + z1 ≤ limS m j p (blk (ee m) (nB m) s)
        · rw [if_neg (by omega), ci_t (hs1.mpr (z4.mp h9))]
        · rw [if_pos (by omega), ci_f (fun q => h9 (z4.mpr (hs1.mp q)))]
      unfold JX1_isSafe_51
      rw [ltt_e, w32_i (x := z0 + z1) (by omega), C1.2.2.1, corner_c H C1.2.1, bndp_s]
      by_cases h2 : 0 ≤ blk (ee m) (nB m) s ∧ blk (ee m) (nB m) s + 1 < nB m
      · rw [if_pos h2, if_neg (by decide), al532, grd_t (by omega), (C1.2.1.2.2.2.1 _ hk.1.1 hk.1.2).2.1]
        by_cases h3 : bg m (blk (ee m) (nB m) s + 1) ≤ s + far (rchS m j) w u * j
        · rw [if_pos h3]
          unfold JX1_isSafe_92 MX1_brakesBear LX1_brakesBear_3
          rw [ltt_e, if_pos rfl, ltt_e, brakesBear_l (by omega) H hj C1 hN 1000 n s w u 0 (by decide) (by omega) (by decide) hb hu (by omega) hs, bndp_s, grd_t]
          by_cases h9 : SafeF (nB m) j (rchS m j) (ee m) (limS m j p) (paceS m tol j) 1000 s w u
          · rw [ci_t h9]; exact Or.inr rfl
          · rw [ci_f h9]; exact Or.inl rfl
        · rw [if_neg h3]
          exact one (Or.inr (by show _ < bg m (_ + 1); omega))
      · rw [if_neg h2, if_pos rfl]
        exact one (Or.inl (by omega))
    by_cases hu1 : u ≤ 0
    · rw [if_pos hu1]
      refine key w 0 ⟨rfl, by decide, by decide, ?_⟩
      rw [Int.add_zero]
      exact ⟨fun _ => Or.inl hu1, fun _ => hl⟩
    · have t2 := sq_le (g := u) (B := 12) (by omega) (by omega)
      have t3 : u * (u - 1) = u * u - u := by rw [Int.mul_sub, Int.mul_one]
      have t4 := Int.mul_nonneg (a := u) (b := u - 1) (by omega) (by omega)
      rw [if_neg hu1, grd_t (by decide), w32_i (x := u - 1) (by omega), w32_i (x := u * (u - 1)) (by omega), Int.tdiv_eq_ediv_of_nonneg t4, w32_i (x := u * (u - 1) / 2) (by omega)]
      exact key w _ ⟨rfl, by omega, by omega, (pk_2 (by omega)).symm⟩
  · rw [if_neg hend, ci_f (fun q => hend (safe_end E 1000 s w u hb (by omega) (by omega) hs.2 q))]
/-- the state x is at s, w, u -/
def CR (m h : Hp) (x s w u : Int) : Prop := h x 0 = s ∧ h x 1 = w ∧ h x 2 = u ∧ h x 3 = blk (ee m) (nB m) s
theorem isFit_c (hn : 2000 ≤ n) (H : WFp m) (hj : 1 ≤ j ∧ j ≤ 50) (C : CE m h D w0 tol j p) (hN : 0 < nB m) {x s w u jj : Int} (hr : CR m h x s w u) (S : RS (nB m) j (rchS m j) (ee m) s w u) (hjj : -1 ≤ jj ∧ jj ≤ 1) :
    ∃ h', MX1_isFit n D x jj h = some (ci (Fit (nB m) j (rchS m j) (ee m) (limS m j p) (paceS m tol j) s w u jj) 1 0, h') ∧ FC h' D (rchS m j) ∧ ∀ c : Int, c ≠ D + 1 → h' c = h c := by
  have E := env_ok H (tol := tol) (p := p) hj
  have hR := E.2.2.1
  have hle := S.le E
  have hA := AL_bd E
  obtain ⟨r1, r2, r3, r4⟩ := hr
  obtain ⟨b, hu, hw, hp, h0, h2, h3⟩ := S
  have b1 := b.1
  have b2 := b.2.1
  unfold MX1_isFit
  rw [r1, r2, r3, r4, C.2.2.2.1.1, C.2.2.2.1.2.1, ltt_e, w32_i (x := u + jj) (by omega), ltt_e, w32_i (x := w + (u + jj)) (by omega)]
  unfold Fit May bears
  by_cases c1 : rchS m j < u + jj
  · rw [if_pos c1, ci_f (fun q => by have := q.1.1; omega)]
    exact ⟨h, rfl, C.2.2.2.2.2, fun _ _ => rfl⟩
  · rw [if_neg c1, bears_c C.2.2.2.1.2.1 hR (by omega) (by omega), bndp_s]
    by_cases c2 : -rchS m j ≤ u + jj ∧ 0 ≤ w + (u + jj) ∧ (0 ≤ u + jj ∨ (u + jj) * (u + jj + 1) ≤ 2 * (w + (u + jj)))
    · have hm2 : 0 ≤ (w + (u + jj)) * j := Int.mul_nonneg c2.2.1 (by omega)
      have hm3 : (w + (u + jj)) * j ≤ 600 * 50 := Int.mul_le_mul (by omega) hj.2 (by omega) (by decide)
      rw [if_pos c2, if_pos (by decide), ltt_e, w32_i (x := (w + (u + jj)) * j) (by omega), w32_i (x := s + (w + (u + jj)) * j) (by omega), reached_c (by omega) H hj C hN (by omega), bndp_s, ltt_e]
      by_cases hM : s + (w + (u + jj)) * j ≤ AL (nB m) (ee m) ∧ Bear (ee m) (limS m j p) (paceS m tol j) (nB m) s (s + (w + (u + jj)) * j) (w + (u + jj))
      · have hk := (blk_ok E (s := s + (w + (u + jj)) * j) hN).1
        have hl := bear_lim E hN (by omega) hM.2
        obtain ⟨h', g1, g2, g3⟩ := isSafe_c hn H hj C hN (s := s + (w + (u + jj)) * j) (w := w + (u + jj)) (u := u + jj) c2 (by omega) hl.2.2 ⟨by omega, hM.1⟩ hl.2.1
        refine ⟨h', ?_, g2, g3⟩
        rw [ci_t hM, if_neg (by omega), g1, bnd_s]
        by_cases hS : SafeF (nB m) j (rchS m j) (ee m) (limS m j p) (paceS m tol j) 1000 (s + (w + (u + jj)) * j) (w + (u + jj)) (u + jj)
        · rw [ci_t hS, if_neg (by decide), ci_t ⟨⟨by omega, c2, hM.1, hM.2⟩, hS⟩]
        · rw [ci_f hS, if_pos rfl, ci_f (fun q => hS q.2)]
      · rw [ci_f hM, if_pos rfl, ci_f (fun q => hM ⟨q.1.2.2.1, q.1.2.2.2⟩)]
        exact ⟨h, rfl, C.2.2.2.2.2, fun _ _ => rfl⟩
    · rw [if_neg c2, if_neg (fun q => q rfl), ci_f (fun q => c2 q.1.2.1)]
      exact ⟨h, rfl, C.2.2.2.2.2, fun _ _ => rfl⟩
/-- but for the first numbers of x nothing has changed -/
def FX (x : Int) (h h' : Hp) : Prop := (∀ c : Int, c ≠ x → h' c = h c) ∧ ∀ i : Int, (i < 0 ∨ 3 < i) → h' x i = h x i
theorem FX.tr {x : Int} {h g k : Hp} (a : FX x h g) (b : FX x g k) : FX x h k := ⟨fun c hc => (b.1 c hc).trans (a.1 c hc), fun i hi => (b.2 i hi).trans (a.2 i hi)⟩
theorem FX.put {x : Int} {h g : Hp} (a : FX x h g) {i v : Int} (hi : 0 ≤ i ∧ i ≤ 3) : FX x h (up g x i v) :=
  ⟨fun c hc => by rw [up_row hc]; exact a.1 c hc, fun k hk => by rw [up_i (by omega)]; exact a.2 k hk⟩
theorem FX.rf {x : Int} {h : Hp} : FX x h h := ⟨fun _ _ => rfl, fun _ _ => rfl⟩
theorem go_l (H : WFp m) (hj : 1 ≤ j ∧ j ≤ 50) {x t : Int} (hx : D + 6 < x) (hD : w0 + 12 < D ∧ 0 < w0) (jj : Int) (hN : 0 < nB m) : ∀ (r k f : Nat) (h : Hp), blk (ee m) (nB m) t = (k : Int) + r → r < f → RW m h w0 → h (D + 2) 0 = w0 → h x 0 = t → h x 3 = k → ∃ h', BX1_go_44 n f D x jj h = some (jj, h') ∧ (∀ c : Int, c ≠ x → h' c = h c) ∧ (∀ i : Int, i ≠ 3 → h' x i = h x i) ∧ h' x 3 = blk (ee m) (nB m) t
  | r, k, f + 1, h, hk, hf, R, e0, e1, e3 => by
    have hB := H.1
    have E := env_ok H (tol := 0) (p := 100) hj
    obtain ⟨b1, b2, b3⟩ := blk_ok E (s := t) hN
    rw [BX1_go_44, e3, if_neg (by omega), e0, R.1.2.2.1, w32_i (x := (k : Int) + 1) (by omega)]
    by_cases h1 : nB m ≤ (k : Int) + 1
    · rw [if_pos h1]
      exact ⟨h, rfl, fun _ _ => rfl, fun _ _ => rfl, by omega⟩
    · rw [if_neg h1, al532, grd_t (by omega), (R.2.2.2.1 k (by omega) (by omega)).2.1, e1]
      by_cases h2 : t < bg m (k + 1)
      · have hkb : blk (ee m) (nB m) t = (k : Int) := by
          by_cases hz : blk (ee m) (nB m) t = (k : Int)
          · exact hz
          · rcases b2 with b2 | b2
            · omega
            · have := e_le E (a := (k : Int)) (b := blk (ee m) (nB m) t - 1) (by omega) (by omega) (by omega)
              have h4 : ee m (k : Int) = bg m (k + 1) := rfl
              omega
        rw [if_pos h2]
        exact ⟨h, rfl, fun _ _ => rfl, fun _ _ => rfl, by omega⟩
      · have hkb : (k : Int) < blk (ee m) (nB m) t := by
          rcases b3 with b3 | b3
          · by_cases hz : (k : Int) < blk (ee m) (nB m) t
            · exact hz
            · have : blk (ee m) (nB m) t = (k : Int) := by omega
              rw [this] at b3
              exact absurd b3 h2
          · omega
        obtain ⟨r', rfl⟩ : ∃ r', r = r' + 1 := ⟨r - 1, by omega⟩
        rw [if_neg h2, ltt_e]
        obtain ⟨h', p1, p2, p3, p4⟩ := go_l H hj (t := t) hx hD jj hN r' (k + 1) f (up h x 3 ((k : Int) + 1)) (by omega) (by omega) (R.mv (fun c c0 c1 => up_row (by omega))) (by rw [up_c (by omega)]; exact e0) (by rw [up_i (by decide)]; exact e1) (by rw [up_s]; omega)
        exact ⟨h', p1, fun c hc => (p2 c hc).trans (up_row hc), fun i hi => (p3 i hi).trans (up_i hi), p4⟩
theorem go_c (hn : 100 ≤ n) (H : WFp m) (hj : 1 ≤ j ∧ j ≤ 50) (C : CE m h D w0 tol j p) (hN : 0 < nB m) {x s w u jj : Int} (hx : D + 6 < x) (hr : CR m h x s w u) (S : RS (nB m) j (rchS m j) (ee m) s w u) (hjj : -1 ≤ jj ∧ jj ≤ 1) (hv : 0 ≤ w + (u + jj)) :
    ∃ h', MX1_go n D x jj h = some (jj, h') ∧ FX x h h' ∧ CR m h' x (s + (w + (u + jj)) * j) (w + (u + jj)) (u + jj) := by
  have hB := H.1
  have E := env_ok H (tol := tol) (p := p) hj
  have hR := E.2.2.1
  have hle := S.le E
  have hA := AL_bd E
  obtain ⟨r1, r2, r3, r4⟩ := hr
  obtain ⟨b, hu, hw, hp, h0, h2, h3⟩ := S
  have b1 := b.1
  have b2 := b.2.1
  have hm2 : 0 ≤ (w + (u + jj)) * j := Int.mul_nonneg hv (by omega)
  have hm3 : (w + (u + jj)) * j ≤ 600 * 50 := Int.mul_le_mul (by omega) hj.2 (by omega) (by decide)
  unfold MX1_go
  rw [r3, w32_i (x := u + jj) (by omega), ltt_e, up_i (j := 1) (by decide), r2, up_s, w32_i (x := w + (u + jj)) (by omega), ltt_e, up_i (j := 0) (by decide), up_i (j := 0) (by decide), r1, up_s, up_c (b := D + 2) (by omega), up_c (b := D + 2) (by omega), C.2.2.2.1.1, w32_i (x := (w + (u + jj)) * j) (by omega), w32_i (x := s + (w + (u + jj)) * j) (by omega), ltt_e]
  have F1 : FX x h (up (up (up h x 2 (u + jj)) x 1 (w + (u + jj))) x 0 (s + (w + (u + jj)) * j)) := ((FX.rf.put (by decide)).put (by decide)).put (by decide)
  have a0 : up (up (up h x 2 (u + jj)) x 1 (w + (u + jj))) x 0 (s + (w + (u + jj)) * j) x 0 = s + (w + (u + jj)) * j := up_s
  have a1 : up (up (up h x 2 (u + jj)) x 1 (w + (u + jj))) x 0 (s + (w + (u + jj)) * j) x 1 = w + (u + jj) := by rw [up_i (by decide), up_s]
  have a2 : up (up (up h x 2 (u + jj)) x 1 (w + (u + jj))) x 0 (s + (w + (u + jj)) * j) x 2 = u + jj := by rw [up_i (by decide), up_i (by decide), up_s]
  have a3 : up (up (up h x 2 (u + jj)) x 1 (w + (u + jj))) x 0 (s + (w + (u + jj)) * j) x 3 = blk (ee m) (nB m) s := by rw [up_i (by decide), up_i (by decide), up_i (by decide)]; exact r4
  generalize up (up (up h x 2 (u + jj)) x 1 (w + (u + jj))) x 0 (s + (w + (u + jj)) * j) = g at *
  have bs := (blk_ok E (s := s) hN).1
  have bt := (blk_ok E (s := s + (w + (u + jj)) * j) hN).1
  have bm := blk_mono E (s := s) (t := s + (w + (u + jj)) * j) hN (by omega)
  obtain ⟨h', p1, p2, p3, p4⟩ := go_l (n := n) (x := x) (t := s + (w + (u + jj)) * j) H hj hx C.1 jj hN (blk (ee m) (nB m) (s + (w + (u + jj)) * j) - blk (ee m) (nB m) s).toNat (blk (ee m) (nB m) s).toNat n g (by omega) (by omega) (C.2.1.mv (fun c c0 c1 => F1.1 c (by have := C.1; omega))) (by rw [F1.1 _ (by omega)]; exact C.2.2.1) a0 (by rw [a3]; omega)
  refine ⟨h', p1, F1.tr ⟨p2, fun i hi => p3 i (by omega)⟩, by rw [p3 0 (by decide)]; exact a0, by rw [p3 1 (by decide)]; exact a1, by rw [p3 2 (by decide)]; exact a2, p4⟩
/-- what a tick of the class may change -/
def FT (D x : Int) (h h' : Hp) : Prop := (∀ c : Int, c ≠ x → c ≠ D + 1 → h' c = h c) ∧ ∀ i : Int, (i < 0 ∨ 3 < i) → h' x i = h x i
theorem FT.tr {D x : Int} {h g k : Hp} (a : FT D x h g) (b : FT D x g k) : FT D x h k := ⟨fun c hc h2 => (b.1 c hc h2).trans (a.1 c hc h2), fun i hi => (b.2 i hi).trans (a.2 i hi)⟩
theorem FT.rf {D x : Int} {h : Hp} : FT D x h h := ⟨fun _ _ _ => rfl, fun _ _ => rfl⟩
theorem FX.ft {D x : Int} {h g : Hp} (a : FX x h g) : FT D x h g := ⟨fun c hc _ => a.1 c hc, a.2⟩
theorem FT.of {D x : Int} {h g : Hp} (hx : D + 6 < x) (a : ∀ c : Int, c ≠ D + 1 → g c = h c) : FT D x h g := ⟨fun c _ hc => a c hc, fun i _ => by rw [a x (by omega)]⟩
theorem CR.mv {x s w u : Int} {g : Hp} (hr : CR m h x s w u) (hx : g x = h x) : CR m g x s w u := by
  unfold CR
  rw [hx]
  exact hr
theorem rests_c {x s w u : Int} (hr : CR m h x s w u) : MX8_rests x h = some (if w = 0 ∧ u = 0 then 1 else 0) := by
  unfold MX8_rests
  rw [hr.2.1, hr.2.2.1]
  by_cases h1 : w = 0
  · rw [if_neg (fun q => q h1)]
    by_cases h2 : u = 0
    · rw [if_neg (fun q => q h2), if_pos ⟨h1, h2⟩]
    · rw [if_pos h2, if_neg (fun q => h2 q.2)]
  · rw [if_pos h1, if_neg (fun q => h1 q.1)]
theorem isDone_c (H : WFp m) (C : CE m h D w0 tol j p) {x s w u : Int} (hr : CR m h x s w u) (hs : s ≤ AL (nB m) (ee m)) : MX1_isDone D x h = some (if (w = 0 ∧ u = 0) ∧ s = AL (nB m) (ee m) then 1 else 0) := by
  unfold MX1_isDone
  rw [rests_c hr, bndp_s]
  by_cases h1 : w = 0 ∧ u = 0
  · rw [if_pos h1, if_neg (by decide), hr.1, C.2.2.1, C.2.1.1.2.2.2.2.2, ← AL_m H]
    by_cases h2 : s = AL (nB m) (ee m)
    · rw [if_neg (by omega), if_pos ⟨h1, h2⟩]
    · rw [if_pos (by omega), if_neg (fun q => h2 q.2)]
  · rw [if_neg h1, if_pos rfl, if_neg (fun q => h1 q.1)]
end
