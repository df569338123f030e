/-! A NEW PROGRAM, in the class. -/
section
variable {n : Nat}
theorem zero_l {x : Int} : ∀ (r f : Nat) (k : Int) (h : Hp), (r : Int) = 2525 - k → 0 ≤ k → r < f → ∃ h', BX1_settle_38 n f x k h = some h' ∧ (∀ c, c ≠ x + 1 → h' c = h c) ∧ (∀ i, i < k → h' (x + 1) i = h (x + 1) i) ∧ ∀ i, k ≤ i → i < 2525 → h' (x + 1) i = 0
  | 0, f + 1, k, h, e, x0, hf => ⟨h, by rw [BX1_settle_38, al20220, if_pos (by omega)], fun _ _ => rfl, fun _ _ => rfl, fun i i0 i1 => by omega⟩
  | r + 1, f + 1, k, h, e, x0, hf => by
    obtain ⟨h', q1, q2, q3, q4⟩ := zero_l r f (k + 1) (up h (x + 1) k 0) (by omega) (by omega) (by omega)
    refine ⟨h', ?_, fun c hc => by rw [q2 c hc, up_ne hc], fun i hi => by rw [q3 i (by omega), up_i (by omega)], fun i i0 i1 => ?_⟩
    · rw [BX1_settle_38, al20220, if_neg (by omega), grd_t (by omega), ltt_e, w32_i (x := k + 1) (by omega), ltt_e]
      exact q1
    · by_cases hx : i = k
      · rw [q3 i (by omega), hx, up_at]
      · exact q4 i (by omega) i1
theorem imd_l : ∀ (r f : Nat) (k : Int) (h : Hp), (r : Int) = 3 - k → 0 ≤ k → r < f → ∃ h', BX11_startAnew_76 n f k h = some h' ∧ (∀ c, c ≠ 92 → h' c = h c) ∧ (∀ i, i < k → h' 92 i = h 92 i) ∧ ∀ i, k ≤ i → i < 3 → h' 92 i = 0
  | 0, f + 1, k, h, e, x0, hf => ⟨h, by rw [BX11_startAnew_76, if_pos (by omega)], fun _ _ => rfl, fun _ _ => rfl, fun i i0 i1 => by omega⟩
  | r + 1, f + 1, k, h, e, x0, hf => by
    obtain ⟨h', q1, q2, q3, q4⟩ := imd_l r f (k + 1) (up h 92 k 0) (by omega) (by omega) (by omega)
    refine ⟨h', ?_, fun c hc => by rw [q2 c hc, up_ne hc], fun i hi => by rw [q3 i (by omega), up_i (by omega)], fun i i0 i1 => ?_⟩
    · rw [BX11_startAnew_76, if_neg (by omega), al46, grd_t (by omega), ltt_e, w32_i (x := k + 1) (by omega), ltt_e]
      exact q1
    · by_cases hx : i = k
      · rw [q3 i (by omega), hx, up_at]
      · exact q4 i (by omega) i1
/-- settling a drive at x (its limits at x + 2) keeps what is right of how far brakes go -/
theorem settle1_c (hn : 2600 ≤ n) {m h : Hp} (H : WFp m) {w x : Int} (R : RW m h w) {tol j : Int} (ht : 0 ≤ tol ∧ tol ≤ 2000) (hj : 1 ≤ j ∧ j ≤ 50) (hwL : w + 12 < x) (hw : 0 < w) (F : FC h x (h x 2)) : ∃ h', MX1_settle n x w tol j h = some h' ∧ (∀ c, c ≠ x → c ≠ x + 1 → c ≠ x + 2 → c ≠ x + 4 → c ≠ x + 5 → h' c = h c) ∧ (∀ i, i ≠ 2 → h' x i = h x i) ∧ h' x 2 = rchS m j ∧ (∀ i, i ≠ 0 → i ≠ 1 → i ≠ 3 → h' (x + 2) i = h (x + 2) i) ∧ h' (x + 2) 0 = w ∧ RLc m h' (x + 2) tol j ∧ FC h' x (rchS m j) := by
  obtain ⟨h1, e1, ⟨S1, S1'⟩, a0, a1⟩ := settle_c (L := x + 2) (n := n) (by omega) H R ht hj (by omega)
  have g : ∀ c, c ≠ x + 2 → c ≠ x + 4 → c ≠ x + 5 → h1 c = h c := fun c c0 c1 c2 => S1 c c0 (by omega) (by omega)
  have gx : h1 x = h x := g x (by omega) (by omega) (by omega)
  have r3 : h1 (x + 2) 3 = rchS m j := a1.2.1
  by_cases hr : h1 (x + 2) 3 = h1 x 2
  · refine ⟨h1, by unfold MX1_settle; rw [e1, bndh_s, if_pos hr], fun c _ _ c2 c3 c4 => g c c2 c3 c4, fun i _ => by rw [gx], by rw [← hr, r3], S1', a0, a1, ?_⟩
    rw [← r3, hr, gx]
    exact F.mv (g (x + 1) (by omega) (by omega) (by omega))
  · obtain ⟨h2, e2, q2, -, q4⟩ := zero_l (n := n) (x := x) 2525 n 0 (up h1 x 2 (h1 (x + 2) 3)) (by decide) (by decide) (by omega)
    have g2 : ∀ c, c ≠ x → c ≠ x + 1 → h2 c = h1 c := fun c c0 c1 => by rw [q2 c c1, up_ne c0]
    refine ⟨h2, by unfold MX1_settle LX1_settle_38; rw [e1, bndh_s, if_neg hr, ltt_e, ltt_e]; exact e2, fun c c0 c1 c2 c3 c4 => by rw [g2 c c0 c1, g c c2 c3 c4], fun i hi => by rw [q2 x (by omega), up_i hi, gx], by rw [q2 x (by omega), up_at, r3], fun i i0 i1 i3 => by rw [g2 _ (by omega) (by omega)]; exact S1' i i0 i1 i3, by rw [g2 _ (by omega) (by omega)]; exact a0, ?_, fun w u w0 w1 u0 u1 => Or.inl (q4 _ (by omega) (by omega))⟩
    unfold RLc at a1 ⊢
    rw [g2 (x + 2) (by omega) (by omega), g2 (x + 2 + 2) (by omega) (by omega), g2 (x + 2 + 3) (by omega) (by omega)]
    exact a1
/-- a drive settled and granted -/
theorem grant1_c (hn : 100 ≤ n) {m h : Hp} (H : WFp m) {w x : Int} (R : RW m h w) {tol j pc : Int} (hj : 1 ≤ j ∧ j ≤ 50) (hp : 1 ≤ pc ∧ pc ≤ 200) (hwL : w + 12 < x) (hw : 0 < w) (e0 : h (x + 2) 0 = w) (e1 : RLc m h (x + 2) tol j) (F : FC h x (rchS m j)) : ∃ o h', MX1_grant n x pc h = some (o, h') ∧ (o = 0 ∨ o = 1) ∧ (o = 0 → ∀ i : Int, 0 ≤ i → i < nB m → h' (x + 3) i = h (x + 3) i) ∧ (∀ c, c ≠ x + 2 → c ≠ x + 3 → h' c = h c) ∧ (∀ i, i ≠ 2 → h' (x + 2) i = h (x + 2) i) ∧ h' (x + 2) 2 = pc ∧ CE m h' x w tol j pc := by
  obtain ⟨o, h', q1, q2, q3, q4, q5, q6, q7⟩ := grant_c (L := x + 2) hn H R hj hp (by omega) e0 e1.1
  have e3 : x + 2 + 1 = x + 3 := by omega
  rw [e3] at q3 q4 q7
  refine ⟨o, h', by unfold MX1_grant; rw [q1, bnd_s, grd_t q2], q2, q3, q4, q5, q6, ⟨hwL, hw⟩, R.mv (fun c c0 c1 => q4 c (by omega) (by omega)), by rw [q5 0 (by decide)]; exact e0, ?_, by rw [e3]; exact q7, F.mv (q4 _ (by omega) (by omega))⟩
  unfold RLc at e1 ⊢
  rw [q5 1 (by decide), q5 3 (by decide), q4 (x + 2 + 2) (by omega) (by omega), q4 (x + 2 + 3) (by omega) (by omega)]
  exact e1
theorem anew_c (hn : 2600 ≤ n) {m h : Hp} (H : WFp m) {w : Int} (hw : w = 1 ∨ w = 14) (h02 : h 0 2 = w) (R : RW m h w) (F : FC h 50 (h 50 2)) : ∃ h', MX11_startAnew n h = some h' ∧ (∀ c, (c < 39 ∨ 55 < c) → c ≠ 64 → c ≠ 66 → c ≠ 92 → h' c = h c) ∧ (CE m h' 50 w (m 115 7) (m 115 6) 100 ∧ h' 52 2 = 100 ∧ h' 50 2 = rchS m (m 115 6)) ∧ RSh m h' w ∧ (CR m h' 64 0 0 0 ∧ h' 64 4 = 100 ∧ h' 64 5 = 0 ∧ h' 64 6 = 0) ∧ (h' 66 2 = 0 ∧ h' 66 1 = h 66 1) ∧ ∀ k, 0 ≤ k → k < 3 → h' 92 k = 0 := by
  have hj := H.2.2.1
  have ht := H.2.2.2.1
  obtain ⟨h1, e1, f1, -, a2, -, a0, al, aF⟩ := settle1_c (x := 50) hn H R ht hj (by omega) (by omega) F
  have R1 : RW m h1 w := R.mv (fun c c0 c1 => f1 c (by omega) (by omega) (by omega) (by omega) (by omega))
  obtain ⟨o, h2, e2, -, -, f2, f2', b2, C2⟩ := grant1_c (n := n) (x := 50) (pc := 100) (by omega) H R1 hj (by decide) (by omega) (by omega) a0 al aF
  have h02' : h2 0 2 = w := by rw [f2 0 (by decide) (by decide), f1 0 (by decide) (by decide) (by decide) (by decide) (by decide)]; exact h02
  obtain ⟨h3, e3, f3, S3⟩ := look_c (n := n) (by omega) H hw C2.2.1
  have R3 : RW m h3 w := C2.2.1.mv (fun c c0 c1 => f3 c (by omega))
  have R4 : RW m (up (up (up h3 64 0 0) 64 1 0) 64 2 0) w := R3.mv (fun c c0 c1 => by rw [up_ne (by omega), up_ne (by omega), up_ne (by omega)])
  obtain ⟨h5, e5, f5, -, s5⟩ := imd_l (n := n) 3 n 0 (up (up (up (up (up (up (up (up h3 64 0 0) 64 1 0) 64 2 0) 64 3 (blk (ee m) (nB m) 0)) 64 4 100) 64 5 0) 64 6 0) 66 2 0) (by decide) (by decide) (by omega)
  have fl : ∀ c, c ≠ 64 → c ≠ 66 → c ≠ 92 → h5 c = h3 c := fun c c0 c1 c2 => by rw [f5 c c2, up_ne c1, up_ne c0, up_ne c0, up_ne c0, up_ne c0, up_ne c0, up_ne c0, up_ne c0]
  refine ⟨h5, ?_, fun c c0 c1 c2 c3 => by rw [fl c c1 c2 c3, f3 c (by omega), f2 c (by omega) (by omega), f1 c (by omega) (by omega) (by omega) (by omega) (by omega)], ⟨?_, ?_, ?_⟩, ?_, ⟨?_, ?_, ?_, ?_⟩, ⟨?_, ?_⟩, s5⟩
  · unfold MX11_startAnew LX11_startAnew_76
    rw [h02, R.1.2.1, R.1.1, e1, bndh_s, e2, bnd_s, h02', e3, bndh_s]
    unfold MX8_begin
    rw [f3 0 (by decide), h02', ltt_e, ltt_e, ltt_e, blockOf_c (by omega) H R4, bndp_s, ltt_e, ltt_e, ltt_e, bndh_s, ltt_e]
    unfold MX5_forget
    rw [ltt_e, bndh_s, ltt_e]
    exact e5
  · have g : ∀ c, (c < 39 ∨ 49 < c) → c ≠ 64 → c ≠ 66 → c ≠ 92 → h5 c = h2 c := fun c c0 c1 c2 c3 => by rw [fl c c1 c2 c3, f3 c (by omega)]
    obtain ⟨q1, q2, q3, q4, q5, q6⟩ := C2
    refine ⟨q1, q2.mv (fun c c0 c1 => g c (by omega) (by omega) (by omega) (by omega)), by rw [g _ (by decide) (by decide) (by decide) (by decide)]; exact q3, ?_, fun i i0 i1 => by rw [g _ (by decide) (by decide) (by decide) (by decide)]; exact q5 i i0 i1, q6.mv (g _ (by decide) (by decide) (by decide) (by decide))⟩
    unfold RLc at q4 ⊢
    rw [g (50 + 2) (by decide) (by decide) (by decide) (by decide), g (50 + 2 + 2) (by decide) (by decide) (by decide) (by decide), g (50 + 2 + 3) (by decide) (by decide) (by decide) (by decide)]
    exact q4
  · rw [fl 52 (by decide) (by decide) (by decide), f3 52 (by decide)]
    exact b2
  · rw [fl 50 (by decide) (by decide) (by decide), f3 50 (by decide), f2 50 (by decide) (by decide)]
    exact a2
  · exact S3.mv2 rfl (fun c _ _ => fl c (by omega) (by omega) (by omega))
  · unfold CR
    rw [f5 64 (by decide)]
    refine ⟨?_, ?_, ?_, ?_⟩
    · rw [up_ne (by decide), up_i (by decide), up_i (by decide), up_i (by decide), up_i (by decide), up_i (by decide), up_i (by decide), up_at]
    · rw [up_ne (by decide), up_i (by decide), up_i (by decide), up_i (by decide), up_i (by decide), up_i (by decide), up_at]
    · rw [up_ne (by decide), up_i (by decide), up_i (by decide), up_i (by decide), up_i (by decide), up_at]
    · rw [up_ne (by decide), up_i (by decide), up_i (by decide), up_i (by decide), up_at]
  · rw [f5 64 (by decide), up_ne (by decide), up_i (by decide), up_i (by decide), up_at]
  · rw [f5 64 (by decide), up_ne (by decide), up_i (by decide), up_at]
  · rw [f5 64 (by decide), up_ne (by decide), up_at]
  · rw [f5 66 (by decide), up_at]
  · rw [f5 66 (by decide), up_i (by decide), up_ne (by decide), up_ne (by decide), up_ne (by decide), up_ne (by decide), up_ne (by decide), up_ne (by decide), up_ne (by decide), f3 66 (by decide), f2 66 (by decide) (by decide), f1 66 (by decide) (by decide) (by decide) (by decide) (by decide)]
end
