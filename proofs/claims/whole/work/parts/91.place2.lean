/-! WHERE IT IS: the model, and the answers. -/
section
variable {n : Nat} {m : Hp}
theorem nrc_blk (H : WFp m) {tol s c : Int} (ht : 0 ≤ tol ∧ tol ≤ 2000) (s0 : 0 ≤ s) (s1 : s ≤ AL (nB m) (ee m)) (Q : nrc m tol s c) : c = blk (ee m) (nB m) s - 1 ∨ c = blk (ee m) (nB m) s := by
  have hB := H.1
  obtain ⟨hc, c1, c2, c3⟩ := Q
  have E := env_ok (p := 100) (tol := tol) H H.2.2.1
  have b := blk_ok E (s := s) (by omega)
  have k := cut_ok H ht hc.1 hc.2
  generalize blk (ee m) (nB m) s = y at *
  by_cases h1 : c + 2 ≤ y
  · have e1 : ee m (c + 1) ≤ ee m (y - 1) := e_le E (by omega) (by omega) (by omega)
    have e2 : ee m (c + 1) = bg m (c + 1) + ln m (c + 1) := by
      unfold ee
      exact wf_bgs H (by omega) hc.2
    rcases b.2.1 with e | e <;> omega
  · by_cases h2 : y + 1 ≤ c
    · have e1 : ee m y ≤ ee m (c - 1) := e_le E (by omega) (by omega) (by omega)
      have e2 : ee m (c - 1) = bg m c := by
        unfold ee
        rw [Int.sub_add_cancel]
      have e3 := wf_bgs H hc.1 (by omega)
      rcases b.2.2 with e | e <;> omega
    · omega
theorem cornerAt_l {h : Hp} (H : WFp m) {tol j p s : Int} (ht : 0 ≤ tol ∧ tol ≤ 2000) (D : LD m tol j p h) (s0 : 0 ≤ s) (s1 : s ≤ AL (nB m) (ee m)) : ∀ (r f : Nat) (k : Int), nB m ≤ k + 1 + r → r < f → 0 ≤ k → k ≤ 64 → BX12_cornerAt_2 n f s k h = some (if nrc m tol s (blk (ee m) (nB m) s - 1) ∧ k ≤ blk (ee m) (nB m) s - 1 then blk (ee m) (nB m) s - 1 else if nrc m tol s (blk (ee m) (nB m) s) ∧ k ≤ blk (ee m) (nB m) s then blk (ee m) (nB m) s else -1)
  | r, f + 1, k, hk, hf, k0, k1 => by
    have hB := H.1
    have K := D.km
    rw [BX12_cornerAt_2, K.2 6 (by decide) (by decide) (by decide) (by decide), show m 113 6 = nB m from rfl, w32_i (x := k + 1) (by omega)]
    by_cases hd : nB m ≤ k + 1
    · rw [if_pos hd, if_neg (fun q => by have := q.1.1; omega), if_neg (fun q => by have := q.1.1; omega)]
    · obtain ⟨r, rfl⟩ : ∃ r', r = r' + 1 := ⟨r - 1, by omega⟩
      have ih := cornerAt_l H ht D s0 s1 r f (k + 1) (by omega) (by omega) (by omega) (by omega)
      have e1 := (D.2.2.2.2 k k0 (by omega) (by omega)).2.1
      have e2 : h 126 (k + 1) = bg m (k + 1) := by rw [K.r (c := 126) (by decide)]; rfl
      have g1 := wf_bgi H (b := k + 1) (by omega) (by omega)
      have g2 := wf_bgi H (b := nB m) (by omega) (by omega)
      have eA := AL_m H
      have c1 := cut_ok H ht k0 (by omega)
      have ej : jabs (s - bg m (k + 1)) ≤ cutS m tol k ↔ (bg m (k + 1) - cutS m tol k ≤ s ∧ s ≤ bg m (k + 1) + cutS m tol k) := by
        unfold jabs
        split
        · rw [w32_i (by omega)]
          omega
        · omega
      rw [if_neg hd, al532, al540, grd_t (by omega), e1, grd_t (by omega), grd_t (by omega), e2, w32_i (x := s - bg m (k + 1)) (by omega), ltt_e, ih]
      by_cases hQ : nrc m tol s k
      · have hb := nrc_blk H ht s0 s1 hQ
        rw [if_neg (show ¬ cutS m tol k ≤ 0 by have := hQ.2.1; omega), if_neg (show ¬ cutS m tol k < jabs (s - bg m (k + 1)) by have := ej.mpr hQ.2.2; omega)]
        rcases hb with e | e
        · rw [if_pos ⟨e ▸ hQ, by omega⟩, e]
        · rw [if_neg (fun q => by have := q.2; omega), if_pos ⟨e ▸ hQ, by omega⟩, e]
      · have n1 : (nrc m tol s (blk (ee m) (nB m) s - 1) ∧ k ≤ blk (ee m) (nB m) s - 1) ↔ (nrc m tol s (blk (ee m) (nB m) s - 1) ∧ k + 1 ≤ blk (ee m) (nB m) s - 1) := by
          constructor
          · rintro ⟨q1, q2⟩
            refine ⟨q1, ?_⟩
            by_cases he : k = blk (ee m) (nB m) s - 1
            · exact absurd (he ▸ q1) hQ
            · omega
          · rintro ⟨q1, q2⟩
            exact ⟨q1, by omega⟩
        have n2 : (nrc m tol s (blk (ee m) (nB m) s) ∧ k ≤ blk (ee m) (nB m) s) ↔ (nrc m tol s (blk (ee m) (nB m) s) ∧ k + 1 ≤ blk (ee m) (nB m) s) := by
          constructor
          · rintro ⟨q1, q2⟩
            refine ⟨q1, ?_⟩
            by_cases he : k = blk (ee m) (nB m) s
            · exact absurd (he ▸ q1) hQ
            · omega
          · rintro ⟨q1, q2⟩
            exact ⟨q1, by omega⟩
        have fin : (if cutS m tol k ≤ 0 then some (if nrc m tol s (blk (ee m) (nB m) s - 1) ∧ k + 1 ≤ blk (ee m) (nB m) s - 1 then blk (ee m) (nB m) s - 1 else if nrc m tol s (blk (ee m) (nB m) s) ∧ k + 1 ≤ blk (ee m) (nB m) s then blk (ee m) (nB m) s else -1) else if cutS m tol k < jabs (s - bg m (k + 1)) then some (if nrc m tol s (blk (ee m) (nB m) s - 1) ∧ k + 1 ≤ blk (ee m) (nB m) s - 1 then blk (ee m) (nB m) s - 1 else if nrc m tol s (blk (ee m) (nB m) s) ∧ k + 1 ≤ blk (ee m) (nB m) s then blk (ee m) (nB m) s else -1) else some k) = some (if nrc m tol s (blk (ee m) (nB m) s - 1) ∧ k ≤ blk (ee m) (nB m) s - 1 then blk (ee m) (nB m) s - 1 else if nrc m tol s (blk (ee m) (nB m) s) ∧ k ≤ blk (ee m) (nB m) s then blk (ee m) (nB m) s else -1) := by
          simp only [n1, n2]
          by_cases h1 : cutS m tol k ≤ 0
          · rw [if_pos h1]
          · rw [if_neg h1, if_pos (show cutS m tol k < jabs (s - bg m (k + 1)) from Int.lt_of_not_ge (fun q => hQ ⟨⟨k0, by omega⟩, by omega, ej.mp q⟩))]
        exact fin
theorem placeAt_m (hn : 100 ≤ n) (H : WFp m) (hp : 1 ≤ m 113 45 ∧ m 113 45 ≤ 200) {s a : Int} (s0 : 0 ≤ s) (s1 : s ≤ AL (nB m) (ee m)) (a0 : 0 ≤ a) (a1 : a < 3) : ∃ h', MX12_placeAt n s a m = some (plc m (m 115 7) s a, h') ∧ KM m h' := by
  have hB := H.1
  unfold MX12_placeAt plc
  by_cases hN : nB m ≤ 0
  · rw [if_neg (fun q => q (by show nB m = 0; omega)), if_pos hN]
    exact ⟨m, rfl, KM.rf⟩
  · obtain ⟨h', e, D⟩ := laysNow_m hn H hp
    have K := D.km
    have ht := H.2.2.2.1
    have eN : h' 113 6 = nB m := K.eN
    have e126 : h' 126 = m 126 := K.r (c := 126) (by decide)
    have e125 : h' 125 = m 125 := K.r (c := 125) (by decide)
    have e122 : h' 122 = m 122 := K.r (c := 122) (by decide)
    have E := env_ok (p := 100) (tol := m 115 7) H H.2.2.1
    have b := blk_ok E (s := s) (by omega)
    have cl : MX12_cornerAt n s h' = some (if nrc m (m 115 7) s (blk (ee m) (nB m) s - 1) ∧ 0 ≤ blk (ee m) (nB m) s - 1 then blk (ee m) (nB m) s - 1 else if nrc m (m 115 7) s (blk (ee m) (nB m) s) ∧ 0 ≤ blk (ee m) (nB m) s then blk (ee m) (nB m) s else -1) := by
      unfold MX12_cornerAt LX12_cornerAt_2
      rw [ltt_e]
      exact cornerAt_l H ht D s0 s1 (nB m).toNat n 0 (by omega) (by omega) (by decide) (by decide)
    have gs : ∀ b', 0 ≤ b' → b' < nB m → MX12_goes b' a h' = some (gD m b' a) := fun b' q0 q1 => by
      rw [goes_m (K.wf H) q0 (by rw [K.eN]; exact q1) a0 a1, K.eG]
    have eA := AL_m H
    refine ⟨h', ?_, K⟩
    rw [if_pos (show m 113 6 ≠ 0 from fun q => hN (by show m 113 6 ≤ 0; omega)), if_neg hN, e, bndh_s, cl, bndp_s, ltt_e]
    have rn : ∀ c, nrc m (m 115 7) s c → ∀ X : Option (Int × Hp), (if c ≠ -1 then (grd (0 ≤ c ∧ c < alen 532) (ltt (h' 136 c) fun y2 => (grd (0 ≤ (w32 ((w32 (3 * (w32 (c + 1)))) + a)) ∧ (w32 ((w32 (3 * (w32 (c + 1)))) + a)) < alen 1580) (ltt (h' 122 (w32 ((w32 (3 * (w32 (c + 1)))) + a))) fun y3 => (bndp (MX12_goes c a h') fun r2 => (grd (0 ≤ c ∧ c < alen 532) (grd (¬ (h' 125 c) = 0) (ltt (w64 (y3 - (w64 (Int.tdiv (w64 (r2 * y2)) (h' 125 c))))) fun y4 => (bndp (MX12_goes (w32 (c + 1)) a h') fun r3 => (grd (0 ≤ (w32 (c + 1)) ∧ (w32 (c + 1)) < alen 532) (grd (¬ (h' 125 (w32 (c + 1))) = 0) (ltt (w64 (y3 + (w64 (Int.tdiv (w64 (r3 * y2)) (h' 125 (w32 (c + 1))))))) fun y5 => (grd (0 ≤ (w32 (c + 1)) ∧ (w32 (c + 1)) < alen 540) (ltt (w64 ((w32 (s - (h' 126 (w32 (c + 1))))) + y2)) fun y6 => (ltt (w64 ((w64 (2 * y2)) - y6)) fun y7 => (grd (¬ (w64 ((w64 (4 * y2)) * y2)) = 0) (some ((w32 (w64 (Int.tdiv (w64 ((w64 ((w64 ((w64 (y4 * y7)) * y7)) + (w64 ((w64 ((w64 (y3 * 2)) * y6)) * y7)))) + (w64 ((w64 (y5 * y6)) * y6)))) (w64 ((w64 (4 * y2)) * y2))))), h')))))))))))))))))) else X) = some (rnd m (m 115 7) c s a, h') := fun c Q X => by
      obtain ⟨hc, c1, c2, c3⟩ := Q
      have e1 := (D.2.2.2.2 c hc.1 (by omega) hc.2).2.1
      have k := cut_ok H ht hc.1 hc.2
      have b := wf_bgi H (b := c + 1) (by omega) (by omega)
      have p0 := wf_pl H (b := c + 1) (a := a) (by omega) (by omega) a0 a1
      have k1 := wf_blk H hc.1 (by omega)
      have k2 := wf_blk H (b := c + 1) (by omega) hc.2
      have q1 := tq_ok (x := cutS m (m 115 7) c) k1.1.1 (k1.2.1 a a0 a1) (by omega)
      have q2 := tq_ok (x := cutS m (m 115 7) c) k2.1.1 (k2.2.1 a a0 a1) (by omega)
      have g1 := wf_go H hc.1 (by omega) a0 a1
      have g2 := wf_go H (b := c + 1) (by omega) hc.2 a0 a1
      have m1 := mp_b (a := gD m c a) (A := 200000) (b := cutS m (m 115 7) c) (B := 173205) (by omega) (by omega)
      have m2 := mp_b (a := gD m (c + 1) a) (A := 200000) (b := cutS m (m 115 7) c) (B := 173205) (by omega) (by omega)
      have q := qdr_b (P := m 122 (3 * (c + 1) + a) - prt m c a (cutS m (m 115 7) c)) (C := m 122 (3 * (c + 1) + a)) (Q := m 122 (3 * (c + 1) + a) + prt m (c + 1) a (cutS m (m 115 7) c)) (z := cutS m (m 115 7) c) (t := s - (bg m (c + 1) - cutS m (m 115 7) c)) (by unfold prt; omega) (by omega) (by unfold prt; omega) (by omega) (by omega)
      have s4 := cut4 (z := cutS m (m 115 7) c) (by omega)
      rw [if_pos (by omega), al532, al1580, al540, grd_t (by omega), ltt_e, e1, e122, e125, e126, w32_i (x := c + 1) (by omega), w32_i (x := 3 * (c + 1)) (by omega), w32_i (x := 3 * (c + 1) + a) (by omega), grd_t (by omega), ltt_e, gs c hc.1 (by omega), bndp_s, grd_t (by omega), grd_t (show ¬ m 125 c = 0 by show ¬ ln m c = 0; omega), ltt_e, gs (c + 1) (by omega) hc.2, bndp_s, grd_t (by omega), grd_t (show ¬ m 125 (c + 1) = 0 by show ¬ ln m (c + 1) = 0; omega), ltt_e, grd_t (by omega), ltt_e, ltt_e]
      rw [show m 125 c = ln m c from rfl, show m 125 (c + 1) = ln m (c + 1) from rfl, show m 126 (c + 1) = bg m (c + 1) from rfl, w64_i (x := gD m c a * cutS m (m 115 7) c) (by omega), w64_i (x := gD m (c + 1) a * cutS m (m 115 7) c) (by omega)]
      unfold rnd
      rw [show (gD m c a * cutS m (m 115 7) c).tdiv (ln m c) = prt m c a (cutS m (m 115 7) c) from rfl, show (gD m (c + 1) a * cutS m (m 115 7) c).tdiv (ln m (c + 1)) = prt m (c + 1) a (cutS m (m 115 7) c) from rfl] at *
      generalize hP : prt m c a (cutS m (m 115 7) c) = u at *
      generalize hQ : prt m (c + 1) a (cutS m (m 115 7) c) = v at *
      generalize hz : cutS m (m 115 7) c = z at *
      generalize hg : bg m (c + 1) = g at *
      generalize hC : m 122 (3 * (c + 1) + a) = e at *
      rw [w64_i (x := u) (by omega), w64_i (x := v) (by omega), w64_i (x := e - u) (by omega), w64_i (x := e + v) (by omega), w64_i (x := 2 * z) (by omega), w32_i (x := s - g) (by omega), show s - g + z = s - (g - z) by omega, w64_i (x := s - (g - z)) (by omega), w64_i (x := 2 * z - (s - (g - z))) (by omega)]
      generalize ht' : s - (g - z) = t at *
      rw [w64_i (x := (e - u) * (2 * z - t)) (by omega), w64_i (x := (e - u) * (2 * z - t) * (2 * z - t)) (by omega), w64_i (x := e * 2) (by omega), w64_i (x := e * 2 * t) (by omega), w64_i (x := e * 2 * t * (2 * z - t)) (by omega), w64_i (x := (e - u) * (2 * z - t) * (2 * z - t) + e * 2 * t * (2 * z - t)) (by omega), w64_i (x := (e + v) * t) (by omega), w64_i (x := (e + v) * t * t) (by omega), w64_i (x := (e - u) * (2 * z - t) * (2 * z - t) + e * 2 * t * (2 * z - t) + (e + v) * t * t) (by omega), w64_i (x := 4 * z) (by omega), w64_i (x := 4 * z * z) (by omega), grd_t (by omega)]
      have d := td_b (x := qdr (e - u) e (e + v) z t) (B := 96000000000000000) (by unfold qdr; omega) s4.1
      unfold qdr at d
      unfold qdr
      rw [w64_i (x := ((e - u) * (2 * z - t) * (2 * z - t) + e * 2 * t * (2 * z - t) + (e + v) * t * t).tdiv (4 * z * z)) (by omega)]
    by_cases h1 : nrc m (m 115 7) s (blk (ee m) (nB m) s - 1)
    · rw [if_pos h1, if_pos (show _ ∧ _ from ⟨h1, h1.1.1⟩)]
      exact rn _ h1 _
    · rw [if_neg h1, if_neg (show ¬ (_ ∧ _) from fun q => h1 q.1)]
      by_cases h2 : nrc m (m 115 7) s (blk (ee m) (nB m) s)
      · rw [if_pos h2, if_pos (show _ ∧ _ from ⟨h2, h2.1.1⟩)]
        exact rn _ h2 _
      · rw [if_neg h2, if_neg (show ¬ (_ ∧ _) from fun q => h2 q.1), if_neg (show ¬ ((-1 : Int) ≠ -1) from fun q => q rfl), blockAt_m hn H eN e126, bndp_s, ltt_e]
        generalize blk (ee m) (nB m) s = y at *
        have g1 := wf_bgi H (b := y) (by omega) (by omega)
        have g4 := wf_bgi H (b := nB m) (by omega) (by omega)
        have gs' := wf_bgs H (b := y) (by omega) (by omega)
        have k := wf_blk H (b := y) (by omega) (by omega)
        have g2 : bg m y ≤ s := by
          rcases b.2.1 with e | e
          · rw [e, H.2.2.2.2.2.2.1]
            exact s0
          · have : ee m (y - 1) = bg m y := by
              unfold ee
              rw [Int.sub_add_cancel]
            omega
        have g3 : s ≤ bg m (y + 1) := by
          rcases b.2.2 with e | e
          · have : ee m y = bg m (y + 1) := rfl
            omega
          · rw [e, Int.sub_add_cancel]
            omega
        have q := tq_ok (x := s - bg m y) k.1.1 (k.2.1 a a0 a1) (by omega)
        have g := wf_go H (b := y) (by omega) (by omega) a0 a1
        have p := mp_b (a := gD m y a) (A := 200000) (b := s - bg m y) (B := 346410) (by omega) (by omega)
        rw [al1580, al540, al532, w32_i (x := 3 * y) (by omega), w32_i (x := 3 * y + a) (by omega), grd_t (by omega), gs y (by omega) (by omega), bndp_s, grd_t (by omega), grd_t (by omega), e122, e125, e126, show m 125 y = ln m y from rfl, show m 126 y = bg m y from rfl, grd_t (by omega), w32_i (x := s - bg m y) (by omega), w64_i (x := gD m y a * (s - bg m y)) (by omega), w64_i (x := (gD m y a * (s - bg m y)).tdiv (ln m y)) (by omega)]
        rfl
def whereS (m : Hp) (s a : Int) : Int := if 0 ≤ a ∧ a < 3 then plc m (m 115 7) s a else -2147483648
def placeS (m : Hp) (s a : Int) : Int := if (0 ≤ a ∧ a < 3) ∧ 0 ≤ s ∧ s ≤ AL (nB m) (ee m) then plc m (m 115 7) s a else -2147483648
theorem where_a (hn : 100 ≤ n) {h : Hp} (H : WFp m) {w p : Int} (C : CE m h 50 w (m 115 7) (m 115 6) p) {s : Int} (es : h 64 0 = s) (s0 : 0 ≤ s) (s1 : s ≤ AL (nB m) (ee m)) (a : Int) : MX11_where n a h = some (whereS m s a) := by
  unfold MX11_where whereS
  rw [isAxis_c, bndp_s, es]
  by_cases ha : 0 ≤ a ∧ a < 3
  · rw [if_pos ha, if_pos (by decide), if_pos ha, placeAt_c (L := 52) hn H H.2.2.2.1 C.2.1 C.2.2.1 C.2.2.2.1 s0 s1 ha.1 ha.2, bndp_s]
  · rw [if_neg ha, if_neg (by decide), if_neg ha]
theorem where_b (hn : 100 ≤ n) (H : WFp m) (hp : 1 ≤ m 113 45 ∧ m 113 45 ≤ 200) {s : Int} (es : m 113 42 = s) (s0 : 0 ≤ s) (s1 : s ≤ AL (nB m) (ee m)) (a : Int) : ∃ h', MX12_where n a m = some (whereS m s a, h') ∧ KM m h' := by
  unfold MX12_where whereS
  rw [in_m, bndp_s, es]
  by_cases ha : 0 ≤ a ∧ a < 3
  · obtain ⟨h', e, K⟩ := placeAt_m hn H hp s0 s1 ha.1 ha.2
    rw [if_pos (show 0 ≤ a ∧ a ≤ 2 by omega), if_neg (by decide), if_pos ha, e, bnd_s]
    exact ⟨h', rfl, K⟩
  · rw [if_neg (show ¬ (0 ≤ a ∧ a ≤ 2) by omega), if_pos rfl, if_neg ha]
    exact ⟨m, rfl, KM.rf⟩
theorem place_a (hn : 100 ≤ n) {h : Hp} (H : WFp m) {w p : Int} (hw : h 0 2 = w) (C : CE m h 50 w (m 115 7) (m 115 6) p) (s a : Int) : MX11_place n s a h = some (placeS m s a) := by
  have eA := AL_m H
  unfold MX11_place placeS
  rw [isAxis_c, bndp_s, hw, C.2.1.1.2.2.2.2.2, ← eA]
  by_cases ha : 0 ≤ a ∧ a < 3
  · rw [if_pos ha, if_neg (by decide)]
    by_cases h1 : s < 0
    · rw [if_pos h1, if_neg (fun q => by omega)]
    · rw [if_neg h1]
      by_cases h2 : s ≤ AL (nB m) (ee m)
      · rw [if_pos h2, if_pos ⟨ha, by omega, h2⟩, placeAt_c (L := 52) hn H H.2.2.2.1 C.2.1 C.2.2.1 C.2.2.2.1 (by omega) h2 ha.1 ha.2, bndp_s]
      · rw [if_neg h2, if_neg (fun q => h2 q.2.2)]
  · rw [if_neg ha, if_pos rfl, if_neg (fun q => ha q.1)]
theorem place_b (hn : 100 ≤ n) (H : WFp m) (hp : 1 ≤ m 113 45 ∧ m 113 45 ≤ 200) (s a : Int) : ∃ h', MX12_place n s a m = some (placeS m s a, h') ∧ KM m h' := by
  unfold MX12_place placeS
  rw [all_m H rfl rfl, bndp_s, in_m, bndp_s, in_m, bndp_s]
  by_cases hs : 0 ≤ s ∧ s ≤ AL (nB m) (ee m)
  · rw [if_pos hs, if_neg (by decide)]
    by_cases ha : 0 ≤ a ∧ a < 3
    · obtain ⟨h', e, K⟩ := placeAt_m hn H hp hs.1 hs.2 ha.1 ha.2
      rw [if_pos (show 0 ≤ a ∧ a ≤ 2 by omega), if_neg (by decide), if_pos ⟨ha, hs⟩, e, bnd_s]
      exact ⟨h', rfl, K⟩
    · rw [if_neg (show ¬ (0 ≤ a ∧ a ≤ 2) by omega), if_pos rfl, if_neg (fun q => ha q.1)]
      exact ⟨m, rfl, KM.rf⟩
  · rw [if_neg hs, if_pos rfl, if_neg (fun q => hs q.2)]
    exact ⟨m, rfl, KM.rf⟩
end
