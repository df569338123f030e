/-! A MOVE IS TOLD: it stands in both programs, or both find the same fault. -/
section
variable {n : Nat}
/-- a move that is told goes to 5 if it ends beyond all, to 4 if there is no room -/
theorem tell_j (hn : 100 ≤ n) {hc hm hm' : Hp} {T : Int → Int} {z w k a b c d f f0 M' at_ : Int} (hw : w = 1 ∨ w = 14) (P : PG hc hm T z w) (V : VR k a b c d f) (e7 : hc 29 7 = w) (e8 : hc 29 8 = -1) (e9 : hc 29 9 = at_) (hat : 0 ≤ at_ ∧ at_ ≤ 1000) (er : hc 34 (6 * hm 113 2) = k ∧ hc 34 (6 * hm 113 2 + 1) = a ∧ hc 34 (6 * hm 113 2 + 2) = b ∧ hc 34 (6 * hm 113 2 + 3) = c ∧ hc 34 (6 * hm 113 2 + 4) = d ∧ hc 34 (6 * hm 113 2 + 5) = f) (ef0 : f0 = if hm 113 2 < 40 then 0 else 1) (eM' : M' = if hm 113 2 < 40 then hm 113 2 + 1 else hm 113 2) (Q : MVr hm hm' k a b c d f f0 M') : ∃ hc', MX6_tellMove n hc = some hc' ∧ FTl w hc hc' ∧ ((hm' 113 26 = 1 ∧ hc' 29 8 = 8 * at_ + 5) ∨ (hm' 113 26 = 0 ∧ hm' 113 27 = 1 ∧ hc' 29 8 = 8 * at_ + 4) ∨ (hm' 113 26 = 0 ∧ hm' 113 27 = 0 ∧ hc' 29 8 = -1 ∧ PG hc' hm' T z w ∧ hm' 113 2 = hm 113 2 + 1)) := by
  obtain ⟨H, R, hh, rows, vrs, mks, mkb'⟩ := P
  have hB := H.1
  rw [pv_6] at hB
  have hMv := H.2.2.2.2.2.2.2.1
  rw [pv_5] at hMv
  have ht := H.2.2.2.1
  rw [pv_115] at ht
  obtain ⟨Q1, Q2, Q3, Q4, Q5, Q6, Q7, Q8⟩ := Q
  -- where it begins
  have hp : ∀ a, 0 ≤ a → a < 3 → far_ (hm 128 a) := fun a a0 a1 => by
    rw [hh a a0 a1]
    exact H.2.2.2.2.1 _ (by omega) (by rw [pv_6]; omega)
  have R3 : ∀ a, 0 ≤ a → a < 3 → hc (w + 2 + 1 + a) (hm 113 3) = hm 128 a := fun a a0 a1 => by
    have := R.2.2.1 a (hm 113 3) a0 a1 hB.1 (by rw [pv_6]; exact Int.le_refl _)
    rw [this, hh a a0 a1]
    rfl
  have eN : hc w 11 = hm 113 3 := R.1.2.2.1
  have eT : hc w 10 = hm 114 7 := R.1.2.1
  have eMc : hc w 12 = hm 113 2 := R.1.2.2.2.1
  obtain ⟨g, e1, F1, c1, A1⟩ := lay_c hn hw (row := 6 * hm 113 2) (N := hm 113 3) (tol := hm 114 7) (x := hm 128 0) (y := hm 128 1) (z := hm 128 2) (by omega) eN hB eT (R3 0 (by decide) (by decide)) (R3 1 (by decide) (by decide)) (R3 2 (by decide) (by decide)) (hp 0 (by decide) (by decide)) (hp 1 (by decide) (by decide)) (hp 2 (by decide) (by decide)) er.1 er.2.1 er.2.2.1 er.2.2.2.1 er.2.2.2.2.1 V
  have nb := mvN_b (tol := hm 114 7) V
  have m0 := mv_0 (tol := hm 114 7) (k := k) (a := a) (b := b) (c := c) (d := d) (x := hm 128 0) (y := hm 128 1) (z := hm 128 2)
  generalize hpx : mvX (hm 114 7) k a b c (hm 128 0) = px at *
  generalize hpy : mvY (hm 114 7) k a b c (hm 128 1) = py at *
  generalize hpz : mvZ (hm 114 7) k a b c d (hm 128 2) = pz at *
  generalize hcn : mvN (hm 114 7) k a b c = cn at *
  have Cp : CPt g cn px py pz := ⟨c1, A1⟩
  have b0 : ¬ beyP px py pz 0 := fun q => by
    have q0 := hp 0 (by decide) (by decide)
    have q1 := hp 1 (by decide) (by decide)
    have q2 := hp 2 (by decide) (by decide)
    rw [← m0.1] at q0
    rw [← m0.2.1] at q1
    rw [← m0.2.2] at q2
    exact q.elim (fun q => q q0) (fun q => q.elim (fun q => q q1) (fun q => q q2))
  have gb := gN_b (px := px) (py := py) (pz := pz) cn.toNat
  obtain ⟨W1, W2, W3, W4, W5⟩ := Q5
  rw [ci_c (bey_iff b0)] at W3
  have gB := goBeyond_c (n := n) hn (by omega) Cp
  have gG := goings_c (n := n) hn (by omega) Cp
  have g7 : g 29 7 = w := by rw [F1.1 29 (by decide)]; exact e7
  have g8 : g 29 8 = -1 := by rw [F1.1 29 (by decide)]; exact e8
  have g9 : g 29 9 = at_ := by rw [F1.1 29 (by decide)]; exact e9
  have g12 : g w 12 = hm 113 2 := by rw [F1.1 w (by omega)]; exact eMc
  have g11 : g w 11 = hm 113 3 := by rw [F1.1 w (by omega)]; exact eN
  have FL : FTl w hc g := ⟨fun c _ h2 _ => F1.1 c h2, fun i _ => by rw [F1.1 29 (by decide)]⟩
  have FLp : ∀ v, FTl w hc (up g 29 8 v) := fun v => ⟨fun c h1 h2 h3 => (up_row h1).trans (FL.1 c h1 h2 h3), fun i hi => (up_i hi).trans (FL.2 i hi)⟩
  unfold MX6_tellMove
  rw [e7, eMc, rowOf_c hMv, bndp_s, ltt_e, e1, bndh_s, gB, bndp_s, g7, g12]
  rcases ci_01 (∃ j : Int, 1 ≤ j ∧ j ≤ cn ∧ beyP px py pz j) with q | q
  · rw [q.1] at W3 ⊢
    rw [if_pos rfl]
    by_cases hfull : hm 113 2 < 40 ∧ hm 113 3 + gN px py pz cn.toNat ≤ 64
    · -- it stands
      have f00 : f0 = 0 := by rw [ef0, if_pos hfull.1]
      have eM1 : M' = hm 113 2 + 1 := by rw [eM', if_pos hfull.1]
      rw [if_neg (show ¬ (f0 = 1 ∨ 64 < hm 113 3 + gN px py pz cn.toNat) by omega)] at W4
      rw [show min 64 (hm 113 3 + gN px py pz cn.toNat) = hm 113 3 + gN px py pz cn.toNat by omega] at W2
      have e114 : hm' 114 = hm 114 := Q1 114 (by decide) (by decide) (by decide) (by decide) (by decide) (by decide) (by decide) (by decide)
      have e4 : hm' 113 4 = hm 113 4 := Q2 4 (by decide) (by decide) (by decide) (by decide) (by decide)
      -- all places
      have PL : ∀ j : Nat, (j : Int) ≤ cn → hm' 119 (3 * (hm 113 3 + gN px py pz j)) = px j ∧ hm' 119 (3 * (hm 113 3 + gN px py pz j) + 1) = py j ∧ hm' 119 (3 * (hm 113 3 + gN px py pz j) + 2) = pz j := fun j => by
        induction j with
        | zero =>
          intro _
          have e : gN px py pz 0 = 0 := rfl
          have h0 := hh 0 (by decide) (by decide)
          have h1 := hh 1 (by decide) (by decide)
          have h2 := hh 2 (by decide) (by decide)
          rw [Int.add_zero] at h0
          rw [e, Int.add_zero, Q6 _ (by omega), Q6 _ (by omega), Q6 _ (by omega), ← h0, ← h1, ← h2]
          exact ⟨m0.1.symm, m0.2.1.symm, m0.2.2.symm⟩
        | succ j ih =>
          intro hj
          have ek : ((j + 1 : Nat) : Int) = (j : Int) + 1 := by omega
          have eg := gN_s (px := px) (py := py) (pz := pz) (k := j)
          have mono := gN_m (px := px) (py := py) (pz := pz) (cn.toNat - (j + 1)) (j + 1)
          rw [show j + 1 + (cn.toNat - (j + 1)) = cn.toNat by omega] at mono
          by_cases hch : chg px py pz ((j : Int) + 1)
          · have t := (Q8 ((j : Int) + 1) (by omega) (by omega) hch (by rw [show ((j : Int) + 1).toNat = j + 1 by omega]; omega)).1
            rw [show ((j : Int) + 1).toNat = j + 1 by omega] at t
            rw [ek]
            exact t
          · have i := ih (by omega)
            rw [eg, if_neg hch, Int.add_zero, ek]
            unfold chg at hch
            rw [Int.add_sub_cancel] at hch
            have x1 : px ((j : Int) + 1) = px j := Classical.not_not.mp (fun t => hch (Or.inl t))
            have x2 : py ((j : Int) + 1) = py j := Classical.not_not.mp (fun t => hch (Or.inr (Or.inl t)))
            have x3 : pz ((j : Int) + 1) = pz j := Classical.not_not.mp (fun t => hch (Or.inr (Or.inr t)))
            rw [x1, x2, x3]
            exact i
      have farP : ∀ j : Nat, (j : Int) ≤ cn → far_ (px j) ∧ far_ (py j) ∧ far_ (pz j) := fun j hj => by
        have nb' : ¬ beyP px py pz j := fun t => by
          by_cases h0 : j = 0
          · subst h0
            exact b0 t
          · exact q.2 ⟨j, by omega, hj, t⟩
        exact ⟨Classical.not_not.mp (fun t => nb' (Or.inl t)), Classical.not_not.mp (fun t => nb' (Or.inr (Or.inl t))), Classical.not_not.mp (fun t => nb' (Or.inr (Or.inr t)))⟩
      -- a new block
      have NB : ∀ b', hm 113 3 ≤ b' → b' < hm 113 3 + gN px py pz cn.toNat → ∃ j : Nat, (j : Int) + 1 ≤ cn ∧ hm 113 3 + gN px py pz j = b' ∧ hm 113 3 + gN px py pz (j + 1) = b' + 1 ∧ chg px py pz ((j : Int) + 1) ∧ hm' 120 b' = f ∧ hm' 121 b' = hm 113 2 := fun b' h1 h2 => by
        obtain ⟨j, j1, j2, j3⟩ := gN_ex (px := px) (py := py) (pz := pz) cn.toNat (b' - hm 113 3) (by omega) (by omega)
        have eg := gN_s (px := px) (py := py) (pz := pz) (k := j)
        rw [if_pos j3] at eg
        have t := (Q8 ((j : Int) + 1) (by omega) (by omega) j3 (by rw [show ((j : Int) + 1).toNat = j + 1 by omega]; omega)).2
        rw [show ((j : Int) + 1).toNat = j + 1 by omega, show hm 113 3 + gN px py pz (j + 1) - 1 = b' by omega, eM1, Int.add_sub_cancel] at t
        exact ⟨j, by omega, by omega, by omega, j3, t.1, t.2⟩
      have wf : WFp (pv hm') := by
        unfold WFp
        rw [pv_6, W2, pv_5, pv_7, W5, e4, eM1]
        refine ⟨by omega, ?_, ?_, ?_, fun i i0 i1 => ?_, fun b' b0' b1' => ?_, rfl, by omega, H.2.2.2.2.2.2.2.2⟩
        · have := H.2.1
          unfold pv at this ⊢
          rw [e114]
          exact this
        · have := H.2.2.1
          unfold pv at this ⊢
          rw [e114]
          exact this
        · have := H.2.2.2.1
          unfold pv at this ⊢
          rw [e114]
          exact this
        · rw [pv_122]
          by_cases hi : i < 3 * (hm 113 3 + 1)
          · rw [Q6 i hi]
            exact H.2.2.2.2.1 i i0 (by rw [pv_6]; exact hi)
          · obtain ⟨b', a', hb', ha⟩ : ∃ b' a', i = 3 * (b' + 1) + a' ∧ (0 ≤ a' ∧ a' < 3) := ⟨i / 3 - 1, i % 3, by omega, by omega⟩
            obtain ⟨j, j1, j2, j3, j4, -⟩ := NB b' (by omega) (by omega)
            have p1 := PL (j + 1) (by omega)
            have f1 := farP (j + 1) (by omega)
            rw [j3] at p1
            rw [hb']
            rcases (by omega : a' = 0 ∨ a' = 1 ∨ a' = 2) with e | e | e
            · rw [e, Int.add_zero, p1.1]
              exact f1.1
            · rw [e, p1.2.1]
              exact f1.2.1
            · rw [e, p1.2.2]
              exact f1.2.2
        · unfold WFb
          rw [pv_123, pv_124]
          refine ⟨?_, rfl, pv_b hm' b0', ?_⟩
          · by_cases hb' : b' < hm 113 3
            · have t := (H.2.2.2.2.2.1 b' b0' (by rw [pv_6]; exact hb')).1
              unfold gD at t ⊢
              simp only [pv_122] at t ⊢
              rw [Q6 _ (by omega), Q6 _ (by omega), Q6 _ (by omega), Q6 _ (by omega), Q6 _ (by omega), Q6 _ (by omega)]
              exact t
            · obtain ⟨j, j1, j2, j3, j4, -⟩ := NB b' (by omega) b1'
              have p0 := PL j (by omega)
              have p1 := PL (j + 1) (by omega)
              rw [j2] at p0
              rw [j3, show ((j + 1 : Nat) : Int) = (j : Int) + 1 by omega] at p1
              unfold chg at j4
              rw [Int.add_sub_cancel] at j4
              unfold gD
              simp only [pv_122]
              rw [Int.add_zero, Int.add_zero, p0.1, p0.2.1, p0.2.2, p1.1, p1.2.1, p1.2.2]
              rcases j4 with t | t | t
              · exact Or.inl (by omega)
              · exact Or.inr (Or.inl (by omega))
              · exact Or.inr (Or.inr (by omega))
          · by_cases hb' : b' < hm 113 3
            · have t := H.2.2.2.2.2.1 b' b0' (by rw [pv_6]; exact hb')
              have t' := Q7 b' hb'
              rw [t'.1, t'.2]
              exact t.2.2.2
            · obtain ⟨j, -, -, -, -, j5, j6⟩ := NB b' (by omega) b1'
              rw [j5, j6]
              have vf := V.2.2
              exact ⟨vf, by omega, hfull.1⟩
      -- the way, as far as before
      have R0 : RW (trP (pv hm') (hm 113 3) (hm 113 2)) hc w := by
        refine R.cg (by rw [pv_6]; exact hB.2) (by rw [pv_6]; rfl) (by rw [trP_5, pv_5]) (by rw [trP_7, pv_7, pv_7, e4]) ?_ (fun i i0 i1 => ?_) (fun b' b0' b1' => ?_) (fun b' b0' b1' => ?_) (by rw [pv_6]; exact hB.1)
        · rw [trP_o (by decide)]
          funext i
          rw [pv_115, pv_115, e114]
        · rw [pv_6] at i1
          rw [trP_o (by decide), pv_122, pv_122, Q6 i i1]
        · rw [pv_6] at b1'
          have t' := Q7 b' b1'
          rw [trP_o (c := 123) (by decide), trP_o (c := 124) (by decide), trP_ln, pv_123, pv_123, pv_124, pv_124, t'.1, t'.2]
          refine ⟨rfl, rfl, ?_⟩
          show lnP hm' b' = lnP hm b'
          unfold lnP
          rw [Q6 _ (by omega), Q6 _ (by omega), Q6 _ (by omega), Q6 _ (by omega), Q6 _ (by omega), Q6 _ (by omega)]
        · rw [pv_6] at b1'
          rw [trP_bg]
          show bgP hm' b'.toNat = bgP hm b'.toNat
          exact bgP_of Q6 _ (by omega)
      have Rg : RW (trP (pv hm') (hm 113 3 + gN px py pz 0) (hm 113 2)) g w := by
        have e : gN px py pz 0 = 0 := rfl
        rw [e, Int.add_zero]
        exact R0.mv (fun c c0 c1 => F1.1 c (by omega))
      obtain ⟨h', e', F', R'⟩ := adds_l (n := n) hn wf (px := px) (py := py) (pz := pz) (N0 := hm 113 3) (M0 := hm 113 2) (f := f) (c := cn) (row := 6 * hm 113 2) hw (by omega) hB.1 hMv nb (by rw [pv_6, W2]) PL (fun b' b1 b2 => by
        rw [pv_6, W2] at b2
        obtain ⟨j, -, -, -, -, j5, j6⟩ := NB b' b1 b2
        exact ⟨j5, j6⟩) cn.toNat 0 n g (by omega) (by omega) Cp g7 (by rw [F1.1 34 (by decide)]; exact er.2.2.2.2.2) Rg
      have e' : BX6_tellMove_95 n n (6 * hm 113 2) 1 g = some h' := e'
      have h7 : h' 29 7 = w := by rw [F'.1 29 (by omega)]; exact g7
      have h12 : h' w 12 = hm 113 2 := by rw [F'.2.1 12 (by decide) (by decide)]; exact g12
      rw [if_neg (show ¬ 40 ≤ hm 113 2 by omega), gG, bndp_s, g11, w32_i (x := hm 113 3 + gN px py pz cn.toNat) (by omega), if_pos hfull.2, ltt_e]
      unfold LX6_tellMove_95
      rw [e', bndx_s]
      unfold JX6_tellMove_160
      rw [h7, h12, w32_i (x := hm 113 2 + 1) (by omega), ltt_e]
      have R2 := R'.mv5 (M' := hm 113 2 + 1)
      have R3' : RW (pv hm') (up h' w 12 (hm 113 2 + 1)) w := by
        have e : pv hm' = trP (pv hm') (nB (pv hm')) (hm 113 2 + 1) := by
          have := trP_me (m := pv hm')
          rw [pv_5, W5, eM1] at this
          exact this.symm
        rw [e]
        exact R2
      have FF : ∀ c, (c < 30 ∨ 33 < c) → (c < w ∨ w + 12 < c) → up h' w 12 (hm 113 2 + 1) c = hc c := fun c h2 h3 => (up_row (by omega)).trans ((F'.1 c h3).trans (F1.1 c h2))
      refine ⟨_, rfl, ⟨fun c _ h2 h3 => FF c h2 h3, fun i hi => by rw [FF 29 (by decide) (by omega)]⟩, Or.inr (Or.inr ⟨W3, W4, by rw [FF 29 (by decide) (by omega)]; exact e8, ⟨wf, R3', fun a' a0 a1 => ?_, fun i i0 i1 => ?_, fun j j0 j1 => ?_, ?_, fun j j0 j1 => ?_⟩, by rw [W5, eM1]⟩)⟩
      · have p := PL cn.toNat (by omega)
        rw [show ((cn.toNat : Nat) : Int) = cn by omega] at p
        rw [W2]
        rcases (by omega : a' = 0 ∨ a' = 1 ∨ a' = 2) with e | e | e
        · rw [e, Int.add_zero, W1.1, p.1]
        · rw [e, W1.2.1, p.2.1]
        · rw [e, W1.2.2, p.2.2]
      · rw [W5, eM1] at i1
        rw [FF 34 (by decide) (by omega)]
        by_cases hi : i < 6 * hm 113 2
        · rw [Q3 i hi]
          exact rows i i0 hi
        · obtain ⟨s0, s1, s2, s3, s4, s5⟩ := Q4 hfull.1
          obtain ⟨t0, t1, t2, t3, t4, t5⟩ := er
          rcases (by omega : i = 6 * hm 113 2 ∨ i = 6 * hm 113 2 + 1 ∨ i = 6 * hm 113 2 + 2 ∨ i = 6 * hm 113 2 + 3 ∨ i = 6 * hm 113 2 + 4 ∨ i = 6 * hm 113 2 + 5) with e | e | e | e | e | e
          · rw [e, t0, s0]
          · rw [e, t1, s1]
          · rw [e, t2, s2]
          · rw [e, t3, s3]
          · rw [e, t4, s4]
          · rw [e, t5, s5]
      · rw [W5, eM1] at j1
        by_cases hj : j < hm 113 2
        · rw [Q3 _ (by omega), Q3 _ (by omega), Q3 _ (by omega), Q3 _ (by omega), Q3 _ (by omega), Q3 _ (by omega)]
          exact vrs j j0 hj
        · obtain ⟨s0, s1, s2, s3, s4, s5⟩ := Q4 hfull.1
          have ej : j = hm 113 2 := by omega
          rw [ej, s0, s1, s2, s3, s4, s5]
          exact V
      · rw [e4]
        unfold MKS
        rw [FF 35 (by decide) (by omega), FF 36 (by decide) (by omega), Q1 117 (by decide) (by decide) (by decide) (by decide) (by decide) (by decide) (by decide) (by decide)]
        exact mks
      · rw [e4] at j1
        rw [FF 37 (by decide) (by omega), Q1 118 (by decide) (by decide) (by decide) (by decide) (by decide) (by decide) (by decide) (by decide), W5, eM1]
        have t := mkb' j j0 j1
        exact ⟨t.1, t.2.1, by omega⟩
    · -- no room
      have W4' : hm' 113 27 = 1 := by
        rw [W4, if_pos (by
          rw [ef0]
          by_cases h40 : hm 113 2 < 40
          · exact Or.inr (by omega)
          · exact Or.inl (by rw [if_neg h40]))]
      have J : (if 40 ≤ hm 113 2 then JX6_tellMove_81 n g else bndp (MX0_goings n g) fun r3 => if w32 (g w 11 + r3) ≤ 64 then ltt 1 fun y2 => LX6_tellMove_95 n (6 * hm 113 2) y2 g else JX6_tellMove_81 n g) = JX6_tellMove_81 n g := by
        by_cases h40 : 40 ≤ hm 113 2
        · rw [if_pos h40]
        · rw [if_neg h40, gG, bndp_s, g11, w32_i (x := hm 113 3 + gN px py pz cn.toNat) (by omega), if_neg (by omega)]
      rw [J]
      unfold JX6_tellMove_81
      rw [g9, fail_c (by decide) hat, g8, if_pos rfl, bndh_s]
      exact ⟨_, rfl, FLp _, Or.inr (Or.inl ⟨W3, W4', up_s⟩)⟩
  · rw [q.1] at W3 ⊢
    rw [if_neg (by decide), g9, fail_c (by decide) hat, g8, if_pos rfl, bndh_s]
    exact ⟨_, rfl, FLp _, Or.inl ⟨W3, up_s⟩⟩
end
