/-! THE MODEL'S RIDE. -/
/-- ends of blocks -/
def ee (m : Hp) : Int → Int := fun b => bg m (b + 1)
theorem env_ok {m : Hp} (H : WFp m) {tol j p : Int} (hj : 1 ≤ j ∧ j ≤ 50) : EnvOK (nB m) j (rchS m j) (ee m) (limS m j p) (paceS m tol j) := by
  have hr := rchN_ok H hj.1 (nB m).toNat (by have := H.1; omega)
  refine ⟨H.1, hj, by unfold rchS; omega, fun b b0 b1 => ?_, fun b _ _ => clm_ok _, fun b _ _ => ?_⟩
  · have h1 := wf_bgi H (b := b + 1) (by omega) (by omega)
    unfold ee
    refine ⟨by omega, h1.2, fun b2 => ?_⟩
    have h2 := wf_bgs H (b := b + 1) (by omega) b2
    have h3 := (wf_blk H (b := b + 1) (by omega) b2).1
    omega
  · unfold paceS
    split
    · omega
    · exact clm_ok _
theorem AL_m {m : Hp} (H : WFp m) : AL (nB m) (ee m) = bg m (nB m) := by
  unfold AL ee
  split
  · have : nB m = 0 := by have := H.1; omega
    rw [this]
    exact H.2.2.2.2.2.2.1.symm
  · rw [Int.sub_add_cancel]
section
variable {n : Nat} {m h : Hp} {tol j p : Int}
theorem blockAt_l (H : WFp m) (hN : h 113 6 = nB m) (hb : h 126 = m 126) (s : Int) : ∀ (r k f : Nat), nB m = (k : Int) + r → r < f → BX12_blockAt_2 n f s k h = some (blkL (ee m) (nB m) s r k)
  | 0, k, f + 1, hk, hf => by
    have := H.1
    rw [BX12_blockAt_2, hN, if_pos (by omega), w32_i (by omega)]
    rfl
  | r + 1, k, f + 1, hk, hf => by
    have hB := H.1
    rw [BX12_blockAt_2, hN, if_neg (by omega), w32_i (x := (k : Int) + 1) (by omega), al540, grd_t (by omega), hb, ltt_e]
    unfold blkL
    show (if bg m (k + 1) ≤ s then _ else _) = some (if s < bg m (k + 1) then _ else _)
    by_cases hc : s < bg m (k + 1)
    · rw [if_neg (by omega), if_pos hc]
    · rw [if_pos (by omega), if_neg hc]
      exact blockAt_l H hN hb s r (k + 1) f (by omega) (by omega)
theorem blockAt_m (hn : 100 ≤ n) (H : WFp m) (hN : h 113 6 = nB m) (hb : h 126 = m 126) (s : Int) : MX12_blockAt n s h = some (blk (ee m) (nB m) s) := by
  have hB := H.1
  unfold MX12_blockAt LX12_blockAt_2
  rw [ltt_e]
  exact blockAt_l H hN hb s (nB m).toNat 0 n (by omega) (by omega)
theorem all_m (H : WFp m) (hN : h 113 6 = nB m) (hb : h 126 = m 126) : MX12_all h = some (AL (nB m) (ee m)) := by
  have hB := H.1
  unfold MX12_all
  rw [hN, al540, grd_t (by omega), hb, AL_m H]
  rfl
theorem tri_bd {u : Int} (h : -200 ≤ u ∧ u ≤ 200) : 0 ≤ u * (u + 1) ∧ u * (u + 1) ≤ 40200 := by
  refine ⟨tri_0 u, ?_⟩
  have := sq_le (g := u) (B := 200) h.1 h.2
  rw [Int.mul_add, Int.mul_one]
  omega
theorem steady_m {w u : Int} (hw : -10000 ≤ w ∧ w ≤ 10000) (hu : -200 ≤ u ∧ u ≤ 200) : MX12_isSteady w u = some (if 0 ≤ w ∧ (0 ≤ u ∨ u * (u + 1) ≤ 2 * w) then 1 else 0) := by
  have ht := tri_bd hu
  unfold MX12_isSteady
  rw [w32_i (x := 2 * w) (by omega), w32_i (x := u + 1) (by omega), w32_i (x := u * (u + 1)) (by omega)]
  by_cases h1 : w < 0
  · rw [if_pos h1, if_neg (by omega)]
  · rw [if_neg h1]
    by_cases h2 : 0 ≤ u
    · rw [if_pos h2, if_pos (by omega)]
    · rw [if_neg h2]
      by_cases h3 : 2 * w < u * (u + 1)
      · rw [if_pos h3, if_neg (by omega)]
      · rw [if_neg h3, if_pos (by omega)]
theorem brakeOf_m {R : Int} (hn : 100 ≤ n) (hR : h 113 41 = R) (hRb : 1 ≤ R ∧ R ≤ 12) {w u : Int} (hw : -1000 ≤ w ∧ w ≤ 1000) (hu : -100 ≤ u ∧ u ≤ 100) : MX12_brakeOf n w u h = some (brk R w u) := by
  obtain ⟨n', rfl⟩ : ∃ n', n = n' + 3 := ⟨n - 3, by omega⟩
  unfold MX12_brakeOf LX12_brakeOf_2 brk
  rw [ltt_e, BX12_brakeOf_2, if_neg (by decide), hR, w32_i (x := u + -1) (by omega), w32_i (x := -R) (by omega), w32_i (x := w + u) (by omega), w32_i (x := w + u + -1) (by omega), w32_i (x := -1 + 1) (by decide), steady_m (by omega) (by omega), bndp_s, ltt_e]
  have e1 : u + -1 = u - 1 := by omega
  have e2 : w + u + -1 = w + u - 1 := by omega
  have e3 : u - 1 + 1 = u := by omega
  have st2 : BX12_brakeOf_2 (n' + 3) (n' + 2) w u (-1 + 1) h = some (if -R ≤ u ∧ 0 ≤ w + u ∧ (0 ≤ u ∨ u * (u + 1) ≤ 2 * (w + u)) then 0 else 1) := by
    rw [BX12_brakeOf_2, if_neg (by decide), hR, show (-1 + 1 : Int) = 0 from rfl, w32_i (x := u + 0) (by omega), w32_i (x := -R) (by omega), w32_i (x := w + u) (by omega), w32_i (x := w + u + 0) (by omega), w32_i (x := 0 + 1) (by decide), steady_m (by omega) (by omega), bndp_s, ltt_e, Int.add_zero, Int.add_zero]
    have st3 : BX12_brakeOf_2 (n' + 3) (n' + 1) w u (0 + 1) h = some 1 := by
      rw [BX12_brakeOf_2, if_pos (by decide)]
    rw [st3]
    by_cases h1 : u < -R
    · rw [if_pos h1, if_neg (by omega)]
    · rw [if_neg h1]
      by_cases h2 : 0 ≤ w + u ∧ (0 ≤ u ∨ u * (u + 1) ≤ 2 * (w + u))
      · rw [if_pos h2, if_neg (by decide), if_pos ⟨by omega, h2⟩]
      · rw [if_neg h2, if_pos rfl, if_neg (fun q => h2 q.2)]
  rw [st2, e1, e2, e3]
  by_cases h1 : u - 1 < -R
  · rw [if_pos h1]
    exact congrArg some (if_neg (fun q => by omega)).symm
  · rw [if_neg h1]
    by_cases h2 : 0 ≤ w + u - 1 ∧ (0 ≤ u - 1 ∨ (u - 1) * u ≤ 2 * (w + u - 1))
    · rw [if_pos h2, if_neg (by decide), if_pos ⟨by omega, h2⟩]
    · rw [if_neg h2, if_pos rfl]
      exact congrArg some (if_neg (fun q => h2 q.2)).symm
theorem LD.km (D : LD m tol j p h) : KM m h := D.1
theorem may_l (H : WFp m) (D : LD m tol j p h) {v t : Int} (ht : t < nB m) : ∀ (r k f : Nat), t + 1 = (k : Int) + r → r < f → BX12_may_83 n f v t k h = some (ci (∀ b : Int, (k : Int) ≤ b → b ≤ t → v ≤ limS m j p b ∧ (b < t → v ≤ paceS m tol j b)) 1 0)
  | 0, k, f + 1, hk, hf => by
    rw [BX12_may_83, if_pos (by omega), ci_t (fun b b0 b1 => by omega)]
  | r + 1, k, f + 1, hk, hf => by
    have hB := H.1
    obtain ⟨K, ej, er, ea, ec⟩ := D
    rw [BX12_may_83, if_neg (by omega), if_neg (by omega), al532, grd_t (by omega), (ea k (by omega) (by omega)).2.2, w32_i (x := (k : Int) + 1) (by omega), ltt_e, grd_t (by omega)]
    have ih := may_l H ⟨K, ej, er, ea, ec⟩ (v := v) ht r (k + 1) f (by omega) (by omega)
    have e1 : ((k + 1 : Nat) : Int) = (k : Int) + 1 := by omega
    rw [e1] at ih
    by_cases h1 : limS m j p k < v
    · rw [if_pos h1, ci_f (fun q => by have := (q k (Int.le_refl _) (by omega)).1; omega)]
    · rw [if_neg h1]
      by_cases h2 : t ≤ (k : Int)
      · rw [if_pos h2, ih]
        rw [ci_t (fun b b0 b1 => by omega), ci_t (fun b b0 b1 => by
          have : b = (k : Int) := by omega
          subst this
          exact ⟨by omega, fun z => by omega⟩)]
      · rw [if_neg h2, (ec k (by omega) (by omega) (by omega)).2.2]
        by_cases h3 : v ≤ paceS m tol j k
        · rw [if_pos h3, ih]
          refine congrArg some (ci_c ⟨fun q b b0 b1 => ?_, fun q b b0 b1 => q b (by omega) b1⟩)
          by_cases hb : b = (k : Int)
          · subst hb
            exact ⟨by omega, fun _ => h3⟩
          · exact q b (by omega) b1
        · rw [if_neg h3, ci_f (fun q => h3 ((q k (Int.le_refl _) (by omega)).2 (by omega)))]
theorem may_m (hn : 100 ≤ n) (H : WFp m) (hj : 1 ≤ j ∧ j ≤ 50) (D : LD m tol j p h) (hN : 0 < nB m) {s w u jj : Int} (hs : 0 ≤ s ∧ s ≤ 22170240) (hw : -500 ≤ w ∧ w ≤ 500) (hu : -50 ≤ u ∧ u ≤ 50) (hjj : -1 ≤ jj ∧ jj ≤ 1) : MX12_may n s w u jj h = some (ci (May (nB m) j (rchS m j) (ee m) (limS m j p) (paceS m tol j) s w u jj) 1 0) := by
  have hB := H.1
  have E := env_ok H (tol := tol) (p := p) hj
  obtain ⟨K, ej, er, ea, ec⟩ := D
  have hR := E.2.2.1
  have hA := AL_bd E
  unfold MX12_may
  have q1 : (w + (u + jj)) * j ≤ 600 * 50 := by
    by_cases h0 : 0 ≤ w + (u + jj)
    · exact Int.mul_le_mul (by omega) hj.2 (by omega) (by decide)
    · have := Int.mul_nonneg (a := -(w + (u + jj))) (b := j) (by omega) (by omega)
      rw [Int.neg_mul] at this
      omega
  have q2 : -(600 * 50) ≤ (w + (u + jj)) * j := by
    by_cases h0 : 0 ≤ w + (u + jj)
    · have := Int.mul_nonneg h0 (show 0 ≤ j by omega)
      omega
    · have := Int.mul_le_mul (a := -(w + (u + jj))) (b := j) (c := 600) (d := 50) (by omega) hj.2 (by omega) (by decide)
      rw [Int.neg_mul] at this
      omega
  rw [ltt_e, ltt_e, ltt_e, ej, er, w32_i (x := u + jj) (by omega), w32_i (x := w + (u + jj)) (by omega), w32_i (x := (w + (u + jj)) * j) (by omega), w32_i (x := s + (w + (u + jj)) * j) (by omega), w32_i (x := -(rchS m j)) (by omega), in_m, bndp_s]
  unfold May bears
  by_cases c1 : -rchS m j ≤ u + jj ∧ u + jj ≤ rchS m j
  · rw [if_pos c1, if_neg (by decide), steady_m (by omega) (by omega), bndp_s]
    by_cases c2 : 0 ≤ w + (u + jj) ∧ (0 ≤ u + jj ∨ (u + jj) * (u + jj + 1) ≤ 2 * (w + (u + jj)))
    · rw [if_pos c2, if_neg (by decide), all_m H K.eN (K.r (by decide)), bndp_s]
      by_cases c3 : s + (w + (u + jj)) * j ≤ AL (nB m) (ee m)
      · rw [if_pos c3, blockAt_m hn H K.eN (K.r (by decide)), bndp_s, ltt_e, blockAt_m hn H K.eN (K.r (by decide)), bndp_s, ltt_e, ltt_e]
        have b1 := (blk_ok E (s := s) hN).1
        have b2 := (blk_ok E (s := s + (w + (u + jj)) * j) hN).1
        have b3 := blk_mono E (s := s) (t := s + (w + (u + jj)) * j) hN (by have := Int.mul_nonneg c2.1 (show 0 ≤ j by omega); omega)
        unfold LX12_may_83
        have := may_l (n := n) H ⟨K, ej, er, ea, ec⟩ (v := w + (u + jj)) b2.2 (blk (ee m) (nB m) (s + (w + (u + jj)) * j) + 1 - blk (ee m) (nB m) s).toNat (blk (ee m) (nB m) s).toNat n (by omega) (by omega)
        rw [show (((blk (ee m) (nB m) s).toNat : Nat) : Int) = blk (ee m) (nB m) s by omega] at this
        rw [this]
        refine congrArg some (ci_c ⟨fun q => ⟨c1.2, ⟨c1.1, c2.1, c2.2⟩, c3, q⟩, fun q => q.2.2.2⟩)
      · rw [if_neg c3, ci_f (fun q => c3 q.2.2.1)]
    · rw [if_neg c2, if_pos rfl, ci_f (fun q => c2 ⟨q.2.1.2.1, q.2.1.2.2⟩)]
  · rw [if_neg c1, if_pos rfl, ci_f (fun q => c1 ⟨q.2.1.1, q.1⟩)]
theorem isSafe_l (hn : 100 ≤ n) (H : WFp m) (hj : 1 ≤ j ∧ j ≤ 50) (D : LD m tol j p h) (hN : 0 < nB m) : ∀ (f : Nat) (s w u : Int), bears (rchS m j) w u → u ≤ rchS m j → w + 12 * max u 0 ≤ 300 → (0 ≤ s ∧ s ≤ AL (nB m) (ee m)) → nu w u < f → BX12_isSafe_9 n f s w u h = some (ci (SafeF (nB m) j (rchS m j) (ee m) (limS m j p) (paceS m tol j) f s w u) 1 0)
  | f + 1, s, w, u, hb, hu, hw, hs, hf => by
    have E := env_ok H (tol := tol) (p := p) hj
    have hR := E.2.2.1
    have hA := AL_bd E
    have ej := D.2.1
    have er := D.2.2.1
    have hw0 := hb.2.1
    have hu0 := hb.1
    have go1 : ¬ (w = 0 ∧ u = 0) → JX12_isSafe_19 n (BX12_isSafe_9 n f) s w u h = some (ci (SafeF (nB m) j (rchS m j) (ee m) (limS m j p) (paceS m tol j) (f + 1) s w u) 1 0) := by
      intro hn0
      obtain ⟨q1, q2, q3, q4⟩ := brk_ok hR.1 hb hn0
      have hu2 := brk_u hR.1 hb hn0
      have hmu := brk_m hR.1 hb (by omega) hn0
      have hnu := nu_dec hR.1 hb (by omega) hn0
      have c2 := q1.2.1
      have g1 := q1.1
      have hz := nu_ne hb hn0
      unfold JX12_isSafe_19
      rw [brakeOf_m hn er hR (by omega) (by omega), bndp_s, ltt_e, may_m hn H hj D hN (by omega) (by omega) (by omega) q2, bndp_s]
      by_cases hM : May (nB m) j (rchS m j) (ee m) (limS m j p) (paceS m tol j) s w u (brk (rchS m j) w u)
      · have hm2 : 0 ≤ (w + (u + brk (rchS m j) w u)) * j := Int.mul_nonneg c2 (by omega)
        have h3 := hM.2.2.1
        have hm3 : (w + (u + brk (rchS m j) w u)) * j ≤ 300 * 50 := Int.mul_le_mul (by omega) hj.2 (by omega) (by decide)
        rw [ci_t hM, if_pos (by decide), ltt_e, ltt_e, ltt_e, ej, w32_i (x := u + brk (rchS m j) w u) (by omega), w32_i (x := w + (u + brk (rchS m j) w u)) (by omega), w32_i (x := (w + (u + brk (rchS m j) w u)) * j) (by omega), w32_i (x := s + (w + (u + brk (rchS m j) w u)) * j) (by omega)]
        have key : BX12_isSafe_9 n f (s + (w + (u + brk (rchS m j) w u)) * j) (w + (u + brk (rchS m j) w u)) (u + brk (rchS m j) w u) h = some (ci (SafeF (nB m) j (rchS m j) (ee m) (limS m j p) (paceS m tol j) f (s + (w + (u + brk (rchS m j) w u)) * j) (w + (u + brk (rchS m j) w u)) (u + brk (rchS m j) w u)) 1 0) :=
          isSafe_l hn H hj D hN f _ _ _ q1 (by omega) (by omega) (by omega) (by
            rcases hnu with h9 | h9
            · rw [h9.1, h9.2]
              show (0 : Nat) < f
              omega
            · omega)
        rw [key]
        refine congrArg some (ci_c ⟨fun q => Or.inr ⟨hn0, hM, q⟩, fun q => ?_⟩)
        rw [SafeF] at q
        rcases q with q | q
        · exact absurd q hn0
        · exact q.2.2
      · rw [ci_f hM, if_neg (by decide), ci_f (fun q => by
          rw [SafeF] at q
          rcases q with q | q
          · exact hn0 q
          · exact hM q.2.1)]
    rw [BX12_isSafe_9]
    by_cases hw1 : w = 0
    · rw [if_neg (fun q => q hw1)]
      by_cases hu1 : u = 0
      · rw [if_pos hu1, ci_t (by rw [SafeF]; exact Or.inl ⟨hw1, hu1⟩)]
      · rw [if_neg hu1]
        exact go1 (fun q => hu1 q.2)
    · rw [if_pos hw1]
      exact go1 (fun q => hw1 q.1)
theorem isSafe_m (hn : 1000 ≤ n) (H : WFp m) (hj : 1 ≤ j ∧ j ≤ 50) (D : LD m tol j p h) (hN : 0 < nB m) {s w u : Int} (hb : bears (rchS m j) w u) (hu : u ≤ rchS m j) (hw : w ≤ 100) (hs : 0 ≤ s ∧ s ≤ AL (nB m) (ee m)) : MX12_isSafe n s w u h = some (ci (SafeF (nB m) j (rchS m j) (ee m) (limS m j p) (paceS m tol j) 1000 s w u) 1 0) := by
  have E := env_ok H (tol := tol) (p := p) hj
  have hR := E.2.2.1
  have h0 := hb.2.1
  have hnu : nu w u < 1000 := by unfold nu; omega
  unfold MX12_isSafe LX12_isSafe_9
  rw [ltt_e, ltt_e, ltt_e, isSafe_l (by omega) H hj D hN n s w u hb hu (by omega) hs (by omega)]
  exact congrArg some (ci_c (SafeF_eq hR.1 n 1000 s w u hb (by omega) (by omega) hnu))
end
