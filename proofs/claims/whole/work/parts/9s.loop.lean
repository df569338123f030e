/-! ALL LINES: both programs. -/
section
variable {n : Nat}
theorem read_ok {f : Nat} {x2 : Int} {hc g hc2 : Hp} {k : Int} (x0 : x2 ≤ 400) (x00 : 0 ≤ x2) (h8 : hc 29 8 = -1) (e1 : MX9_next n hc = some g) (g2 : g 27 2 ≠ 0) (e2 : MX6_readLine n (up g 29 9 (g 27 3)) = some (k, hc2)) (h82 : hc2 29 8 = -1) : BX6_read_55 n (f + 1) x2 hc = (if k = 6 then bndh (MX6_putMark hc2) (fun h => BX6_read_55 n f (x2 + 1) h) else if k = 7 then bndh (MX6_tellAgain n hc2) (fun h => BX6_read_55 n f (x2 + 1) h) else if k < 3 then BX6_read_55 n f (x2 + 1) hc2 else bndh (MX6_tellMove n hc2) (fun h => BX6_read_55 n f (x2 + 1) h)) := by
  rw [BX6_read_55, if_neg (by omega), if_neg (fun q => q h8), e1, bndh_s, if_pos g2, ltt_e, e2, bnd_s, ltt_e, if_pos h82, w32_i (x := x2 + 1) (by omega)]
  simp only [ltt_e]
  by_cases k6 : k = 6
  · rw [if_neg (fun q => q k6), if_pos k6]
  · rw [if_pos k6, if_neg k6]
    by_cases k7 : k = 7
    · rw [if_neg (fun q => q k7), if_pos k7]
    · rw [if_pos k7, if_neg k7]
theorem read_no {f : Nat} {x2 : Int} {hc g hc2 : Hp} {k : Int} (x0 : x2 ≤ 400) (h8 : hc 29 8 = -1) (e1 : MX9_next n hc = some g) (g2 : g 27 2 ≠ 0) (e2 : MX6_readLine n (up g 29 9 (g 27 3)) = some (k, hc2)) (h82 : hc2 29 8 ≠ -1) : BX6_read_55 n (f + 1) x2 hc = some (hc2 29 8, hc2) := by
  rw [BX6_read_55, if_neg (by omega), if_neg (fun q => q h8), e1, bndh_s, if_pos g2, ltt_e, e2, bnd_s, ltt_e, if_neg h82]
theorem tk0 {T : Int → Int} {z a : Int} : tkK T z a = 0 ↔ z ≤ a := by
  unfold tkK
  by_cases h1 : z ≤ a
  · rw [if_pos h1]
    exact ⟨fun _ => h1, fun _ => rfl⟩
  · rw [if_neg h1]
    constructor
    · intro q
      exfalso
      split at q
      · omega
      · split at q
        · omega
        · split at q
          · omega
          · split at q <;> omega
    · exact fun q => absurd q h1
theorem lineStep (hn : 1000 ≤ n) {hc hm : Hp} {T : Int → Int} {z w : Int} {s : St3} (hw : w = 1 ∨ w = 14) (L : LNI hc hm T z w s) (hs : s.1 = -1) (hz : skp T z s.2.1 < z) : ∃ hm1 hm' s', MX12_next n hm = some (sgn T z (skp T z s.2.1), hm1) ∧ MX12_readsLine n hm1 = some hm' ∧ Rm hm' T z s' ∧ FMB hm hm' ∧ ((∃ hc', FRB w hc hc' ∧ Rc hc' T z s' ∧ s'.1 ≠ -1 ∧ ∀ (f : Nat) (x2 : Int), 0 ≤ x2 → x2 ≤ 400 → BX6_read_55 n (f + 1) x2 hc = some (s'.1, hc')) ∨ (∃ hc', FRB w hc hc' ∧ Rc hc' T z s' ∧ (s'.1 = -1 → LNI hc' hm' T z w s' ∧ s.2.1 < s'.2.1) ∧ ∀ (f : Nat) (x2 : Int), 0 ≤ x2 → x2 ≤ 400 → BX6_read_55 n (f + 1) x2 hc = BX6_read_55 n f (x2 + 1) hc')) := by
  obtain ⟨A, B, e7, P, ⟨eo, eo'⟩, et, e0⟩ := L
  have P0 := P hs
  have e00 := e0 hs
  have A1 := A.2.1 hs
  have h8 : hc 29 8 = -1 := A.1.trans hs
  have b := A1.2.2.1
  have sb := skp_b (T := T) (z := z) (p := s.2.1) b.2.1
  obtain ⟨g, x1, F, g3, g2, Ag, -⟩ := next_c hn A1
  obtain ⟨hm1, y1, G, Bg⟩ := next_m hn (B.2.1 hs)
  generalize ha : skp T z s.2.1 = a at *
  have wb := wnd_b (T := T) (z := z) (p := a) (by omega)
  have g20 : g 27 2 ≠ 0 := by rw [g2]; exact fun q => by have := tk0.mp q; omega
  have Fh : FRB w hc (up g 29 9 a) := ⟨fun c h1 h2 _ _ => (up_row h2).trans (F.1 c h1), fun i hi => (up_c (by decide)).trans (F.2 i hi)⟩
  have h22 : hm1 113 22 = -1 := by rw [G.2 22 (by decide), B.1]; exact hs
  have A2 : TPc (up g 29 9 a) T z (tkE T z a) := Ag.st (up_row (by decide)) (by rw [up_row (by decide)]) (by rw [up_row (by decide)]; exact Ag.2.1) (by have := Ag.2.2.1; omega)
  have q3 : up g 29 9 a 27 3 = a := by rw [up_c (by decide)]; exact g3
  have q2 : up g 29 9 a 27 2 = tkK T z a := by rw [up_c (by decide)]; exact g2
  have q8 : up g 29 9 a 29 8 = -1 := by rw [up_i (by decide), F.1 29 (by decide)]; exact h8
  have q9 : up g 29 9 a 29 9 = a := up_s
  have q7 : up g 29 9 a 29 7 = w := by rw [up_i (by decide), F.1 29 (by decide)]; exact e7
  have q10 : up g 29 9 a 29 10 = hm 113 33 := by rw [up_i (by decide), F.1 29 (by decide)]; exact eo
  have qc : ∀ c, c ≠ 27 → c ≠ 29 → up g 29 9 a c = hc c := fun c h1 h2 => (up_row h2).trans (F.1 c h1)
  have kw := keyword_w hn (T := T) (z := z) (a := a) (by omega) (by omega) q3 q2 A2
  have kwm := wordHere_m hn Bg
  have r33 : hm1 113 33 = hm 113 33 := G.2 33 (by decide)
  have r32 : hm1 113 32 = hm 113 32 := G.2 32 (by decide)
  refine ⟨hm1, ?_⟩
  have rl : MX12_readsLine n hm1 = (if kwS T a (wnd T z a - a) = -1 then JX12_readsLine_27 n a hm1 else if 2 < kwS T a (wnd T z a - a) then JX12_readsLine_34 n a (kwS T a (wnd T z a - a)) hm1 else if hm1 113 33 = 0 then JX12_readsLine_34 n a (kwS T a (wnd T z a - a)) hm1 else JX12_readsLine_27 n a hm1) := by
    unfold MX12_readsLine
    rw [Bg.2.1, ltt_e, kwm, bndp_s, ltt_e]
  have rc : MX6_readLine n (up g 29 9 (g 27 3)) = (if kwS T a (wnd T z a - a) ≠ -1 then (if 2 < kwS T a (wnd T z a - a) then (if 5 < kwS T a (wnd T z a - a) then bndh (MX6_readName n (kwS T a (wnd T z a - a)) (up (up g 29 9 a) 29 10 1)) (fun h2 => JX6_readLine_65 n (kwS T a (wnd T z a - a)) h2) else bndh (MX6_readMove n (kwS T a (wnd T z a - a)) (up (up g 29 9 a) 29 10 1)) (fun h4 => JX6_readLine_65 n (kwS T a (wnd T z a - a)) h4)) else bndh (MX6_readSetting n (kwS T a (wnd T z a - a)) (up g 29 9 a)) (fun h5 => JX6_readLine_65 n (kwS T a (wnd T z a - a)) h5)) else bndh (MX6_fail 1 a (up g 29 9 a)) (fun h6 => some (-1, h6))) := by
    unfold MX6_readLine
    rw [g3, kw, bndp_s, ltt_e, q3]
    rfl
  rcases kw_r (T := T) (a := a) (l := wnd T z a - a) with hk | hk
  · -- no word that begins a line
    rw [rl, if_pos hk]
    unfold JX12_readsLine_27
    rw [fails_m (by decide) (by omega), h22, if_pos rfl, bndh_s]
    rw [if_neg (fun q => q hk), fail_c (by decide) (by omega), q8, if_pos rfl, bndh_s] at rc
    have R1 : Rc (up (up g 29 9 a) 29 8 (8 * a + 1)) T z (8 * a + 1, s.2) := ⟨up_s, fun q => by have : 8 * a + 1 = -1 := q; omega, fun _ => by show 0 ≤ 8 * a + 1; omega⟩
    refine ⟨_, (8 * a + 1, s.2), y1, rfl, ⟨up_s, fun q => by have : 8 * a + 1 = -1 := q; omega, fun _ => by show 0 ≤ 8 * a + 1; omega⟩, ⟨fun c h1 _ _ _ _ _ _ => (up_row h1).trans (G.1 c h1), fun i _ _ _ h4 _ _ _ => (up_i (by omega)).trans (G.2 i (by omega))⟩, Or.inl ⟨_, ⟨fun c h1 h2 h3 h4 => (up_row h2).trans (Fh.1 c h1 h2 h3 h4), fun i hi => (up_c (by decide)).trans (Fh.2 i hi)⟩, R1, by show 8 * a + 1 ≠ -1; omega, fun f x2 _ x0 => ?_⟩⟩
    have t := read_no (f := f) x0 h8 x1 g20 rc (by rw [up_s]; omega)
    rw [up_s] at t
    exact t
  · have hkn : kwS T a (wnd T z a - a) ≠ -1 := by omega
    have l1 : tkK T z a = 1 := by
      refine (kd_w (by omega)).mpr ?_
      by_cases q : 1 ≤ wnd T z a - a
      · exact q
      · have e : wnd T z a - a = 0 := by omega
        rw [e] at hkn
        exact absurd kw0 hkn
    have ee := en_w (T := T) (z := z) (a := a) (by omega) l1
    rw [ee] at A2
    have Rc2 : Rc (up g 29 9 a) T z (-1, wnd T z a, a) := ⟨q8, fun _ => ⟨A2, q3, by show 0 ≤ a; omega, wb.1⟩, fun q => absurd rfl q⟩
    -- the model behind the word
    have Rm2 : ∀ v : Int, Rm (up (up hm1 113 21 (wnd T z a)) 113 33 v) T z (-1, wnd T z a, a) := fun v => ⟨by rw [up_i (by decide), up_i (by decide)]; exact h22, fun _ => (Bg.go (p' := wnd T z a) (by omega)).st (up_row (by decide)) (up_i (by decide)) ((up_i (by decide)).trans up_s) (show 0 ≤ wnd T z a ∧ wnd T z a ≤ z by omega), fun q => absurd rfl q⟩
    have mm : ∀ (v : Int) c, c ≠ 113 → up (up hm1 113 21 (wnd T z a)) 113 33 v c = hm c := fun v c hc' => by rw [up_row hc', up_row hc', G.1 c hc']
    have mi : ∀ (v : Int) i, i ≠ 21 → i ≠ 33 → up (up hm1 113 21 (wnd T z a)) 113 33 v 113 i = hm 113 i := fun v i h1 h2 => by rw [up_i h2, up_i h1, G.2 i h1]
    have PGu : ∀ (v : Int) (y : Hp), (∀ c, c ≠ 27 → c ≠ 29 → y c = hc c) → PG y (up (up hm1 113 21 (wnd T z a)) 113 33 v) T z w := fun v y hy => P0.mv (fun c c0 c1 => hy c (by omega) (by omega)) (fun i _ _ => by rw [hy 34 (by decide) (by decide)]) (hy 35 (by decide) (by decide)) (hy 36 (by decide) (by decide)) (hy 37 (by decide) (by decide)) (mm v 114 (by decide)) (mm v 119 (by decide)) (mm v 120 (by decide)) (mm v 121 (by decide)) (mi v 2 (by decide) (by decide)) (mi v 3 (by decide) (by decide)) (mi v 4 (by decide) (by decide)) (mm v 128 (by decide)) (fun i _ _ => by rw [mm v 116 (by decide)]) (mm v 117 (by decide)) (mm v 118 (by decide))
    have FMu : ∀ v : Int, FMB hm (up (up hm1 113 21 (wnd T z a)) 113 33 v) := fun v => ⟨fun c h1 _ _ _ _ _ _ => mm v c h1, fun i _ _ _ h4 _ _ h7 => mi v i (by omega) h7⟩
    -- the model's way to a line
    have j58 : ∀ k : Int, JX12_readsLine_58 n a k hm1 = JX12_readsLine_89 n a k (if hm 113 33 ≠ 0 then 1 else if k ≤ 2 then 0 else 1) (up hm1 113 21 (wnd T z a)) := fun k => by
      unfold JX12_readsLine_58 JX12_readsLine_84
      rw [wlen_m hn Bg, bndp_s, Bg.2.1, show a + (wnd T z a - a) = wnd T z a by omega, w32_i (x := wnd T z a) (by omega), ltt_e, up_i (by decide), r33]
      by_cases h1 : hm 113 33 = 0
      · rw [if_neg (show ¬ hm 113 33 ≠ 0 from fun q => q h1), if_neg (show ¬ hm 113 33 ≠ 0 from fun q => q h1)]
        by_cases h2 : k ≤ 2
        · rw [if_pos h2, if_pos h2]
        · rw [if_neg h2, if_neg h2]
      · rw [if_pos h1, if_pos h1]
    generalize hkk : kwS T a (wnd T z a - a) = k at *
    rw [if_pos hkn] at rc
    rw [if_neg hkn] at rl
    by_cases k2 : k ≤ 2
    · -- settings
      rw [if_neg (show ¬ 2 < k by omega)] at rc rl
      obtain ⟨hc1, hc2, hm', s', z1, z2, z3, z4, z5, z6, z7, z8, z9⟩ := setLine hn hw (k := k) (a := a) (by omega) Rc2 rfl rfl (by omega) (Rm2 (hm 113 33)) q7 (PGu _ _ qc) (by rw [q10, up_s]) (by rw [mi _ 32 (by decide) (by decide)]; exact ⟨et.1, fun j j0 j1 => by rw [qc 38 (by decide) (by decide)]; exact et.2 j j0 j1⟩) (fun q => by
        rw [up_s] at q
        rw [mi _ 2 (by decide) (by decide), mi _ 3 (by decide) (by decide), mi _ 4 (by decide) (by decide)]
        exact e00 q)
      rw [up_s, mi _ 32 (by decide) (by decide)] at z3
      rw [z1, bndh_s, z2] at rc
      have FC : FRB w hc hc2 := Fh.tr z4
      have cls : s'.1 ≠ -1 → ∀ (f : Nat) (x2 : Int), 0 ≤ x2 → x2 ≤ 400 → BX6_read_55 n (f + 1) x2 hc = some (s'.1, hc2) := fun q f x2 _ x0 => by
        have t := read_no (f := f) x0 h8 x1 g20 rc (fun q' => q (z7.1.symm.trans q'))
        rw [t, z7.1]
      -- where the model finds a fault
      have flt : ∀ v : Int, (v = 1 ∨ v = 3) → MX12_fails v a (up (up hm1 113 21 (wnd T z a)) 113 33 (hm 113 33)) = some hm' → ∃ hm' s', MX12_next n hm = some (sgn T z a, hm1) ∧ (MX12_fails v a hm1) = some hm' ∧ Rm hm' T z s' ∧ FMB hm hm' ∧ ((∃ hc', FRB w hc hc' ∧ Rc hc' T z s' ∧ s'.1 ≠ -1 ∧ ∀ (f : Nat) (x2 : Int), 0 ≤ x2 → x2 ≤ 400 → BX6_read_55 n (f + 1) x2 hc = some (s'.1, hc')) ∨ (∃ hc', FRB w hc hc' ∧ Rc hc' T z s' ∧ (s'.1 = -1 → LNI hc' hm' T z w s' ∧ s.2.1 < s'.2.1) ∧ ∀ (f : Nat) (x2 : Int), 0 ≤ x2 → x2 ≤ 400 → BX6_read_55 n (f + 1) x2 hc = BX6_read_55 n f (x2 + 1) hc')) := fun v hv ez => by
        rw [fails_m (by omega) (by omega), (Rm2 (hm 113 33)).1, if_pos rfl] at ez
        cases ez
        have es : s'.1 = 8 * a + v := z8.1.symm.trans up_s
        rw [fails_m (by omega) (by omega), h22, if_pos rfl]
        exact ⟨_, s', y1, rfl, ⟨up_s.trans es.symm, fun q => by omega, fun _ => by omega⟩, ⟨fun c h1 _ _ _ _ _ _ => (up_row h1).trans (G.1 c h1), fun i _ _ _ h4 _ _ _ => (up_i (by omega)).trans (G.2 i (by omega))⟩, Or.inl ⟨hc2, FC, z7, by omega, cls (by omega)⟩⟩
      by_cases h33 : hm 113 33 = 0
      · rw [if_pos h33] at z3
        rw [r33, if_pos h33] at rl
        by_cases ht : tbt (hm 113 32) k = 1
        · rw [if_pos ht] at z3
          have rl' : MX12_readsLine n hm1 = MX12_fails 3 a hm1 := by
            rw [rl]
            unfold JX12_readsLine_34
            rw [if_neg (show ¬ 2 < k by omega), r32, (tbt_ok et.1.1 et.1.2 hk.1 (by omega)).1, if_neg (fun q => q ht), fails_m (by decide) (by omega), bndh_s]
          rw [rl']
          exact flt 3 (Or.inr rfl) z3
        · rw [if_neg ht] at z3
          have rl' : MX12_readsLine n hm1 = some hm' := by
            rw [rl]
            unfold JX12_readsLine_34
            rw [if_neg (show ¬ 2 < k by omega), r32, (tbt_ok et.1.1 et.1.2 hk.1 (by omega)).1, if_pos ht, j58, if_neg (fun q => q h33), if_pos k2]
            unfold JX12_readsLine_89
            rw [grd_t (Or.inl rfl), ltt_e, if_neg (show ¬ 2 < k by omega)]
            rw [h33] at z3
            rw [z3, bndh_s]
          refine ⟨hm', s', y1, rl', z8, (FMu _).tr z5, ?_⟩
          by_cases ok : s'.1 = -1
          · refine Or.inr ⟨hc2, FC, z7, fun q => ⟨(z9 q).1, by have t : wnd T z a < s'.2.1 := (z9 q).2; omega⟩, fun f x2 x00 x0 => ?_⟩
            rw [read_ok x0 x00 h8 x1 g20 rc (z7.1.trans ok), if_neg (by omega), if_neg (by omega), if_pos (by omega)]
          · exact Or.inl ⟨hc2, FC, z7, ok, cls ok⟩
      · rw [if_neg h33] at z3
        rw [r33, if_neg h33] at rl
        have rl' : MX12_readsLine n hm1 = MX12_fails 1 a hm1 := by
          rw [rl]
          unfold JX12_readsLine_27
          rw [fails_m (by decide) (by omega), bndh_s]
        rw [rl']
        exact flt 1 (Or.inl rfl) z3
    · -- the other lines
      rw [if_pos (show 2 < k by omega)] at rc rl
      have j34 : JX12_readsLine_34 n a k hm1 = JX12_readsLine_89 n a k 1 (up hm1 113 21 (wnd T z a)) := by
        unfold JX12_readsLine_34
        rw [if_pos (show 2 < k by omega), j58]
        by_cases h33 : hm 113 33 = 0
        · rw [if_neg (fun q => q h33), if_neg k2]
        · rw [if_pos h33]
      rw [j34] at rl
      have A3 : Rc (up (up g 29 9 a) 29 10 1) T z (-1, wnd T z a, a) := Rc2.up29 (by decide)
      have u7 : up (up g 29 9 a) 29 10 1 29 7 = w := by rw [up_i (by decide)]; exact q7
      have u9 : up (up g 29 9 a) 29 10 1 29 9 = a := by rw [up_i (by decide), up_s]
      have u10 : up (up g 29 9 a) 29 10 1 29 10 = 1 := up_s
      have uc : ∀ c, c ≠ 27 → c ≠ 29 → up (up g 29 9 a) 29 10 1 c = hc c := fun c h1 h2 => by rw [up_row h2, qc c h1 h2]
      have P3 := PGu 1 _ uc
      have FU : FRB w hc (up (up g 29 9 a) 29 10 1) := ⟨fun c h1 h2 _ _ => uc c h1 h2, fun i hi => by rw [up_c (by decide)]; exact Fh.2 i hi⟩
      -- the end of such a line
      have fin : ∀ (k' : Int) (TELL : Hp → Option Hp) (hc2 hm' : Hp) (s' : St3), (∀ (f : Nat) (x2 : Int), 0 ≤ x2 → x2 ≤ 400 → hc2 29 8 = -1 → BX6_read_55 n (f + 1) x2 hc = bndh (TELL hc2) (fun h => BX6_read_55 n f (x2 + 1) h)) → MX6_readLine n (up g 29 9 (g 27 3)) = some (k', hc2) → Rm hm' T z s' → FML (up (up hm1 113 21 (wnd T z a)) 113 33 1) hm' → FRA w (up (up g 29 9 a) 29 10 1) hc2 → ((hc2 29 8 ≠ -1 ∧ Rc hc2 T z s' ∧ s'.1 ≠ -1) ∨ (hc2 29 8 = -1 ∧ ∃ hc3, TELL hc2 = some hc3 ∧ FRA w (up (up g 29 9 a) 29 10 1) hc3 ∧ Rc hc3 T z s' ∧ (s'.1 = -1 → PG hc3 hm' T z w ∧ wnd T z a < s'.2.1))) → MX12_readsLine n hm1 = some hm' → ∃ hm' s', MX12_next n hm = some (sgn T z a, hm1) ∧ MX12_readsLine n hm1 = some hm' ∧ Rm hm' T z s' ∧ FMB hm hm' ∧ ((∃ hc', FRB w hc hc' ∧ Rc hc' T z s' ∧ s'.1 ≠ -1 ∧ ∀ (f : Nat) (x2 : Int), 0 ≤ x2 → x2 ≤ 400 → BX6_read_55 n (f + 1) x2 hc = some (s'.1, hc')) ∨ (∃ hc', FRB w hc hc' ∧ Rc hc' T z s' ∧ (s'.1 = -1 → LNI hc' hm' T z w s' ∧ s.2.1 < s'.2.1) ∧ ∀ (f : Nat) (x2 : Int), 0 ≤ x2 → x2 ≤ 400 → BX6_read_55 n (f + 1) x2 hc = BX6_read_55 n f (x2 + 1) hc')) := fun k' TELL hc2 hm' s' rd rdl rm fm fa tri rlm => by
        refine ⟨hm', s', y1, rlm, rm, (FMu 1).tr fm.mb, ?_⟩
        rcases tri with ⟨t1, t2, t3⟩ | ⟨t1, hc3, t2, t3, t4, t5⟩
        · refine Or.inl ⟨hc2, FU.tr fa.rb, t2, t3, fun f x2 _ x0 => ?_⟩
          rw [read_no x0 h8 x1 g20 rdl t1, t2.1]
        · refine Or.inr ⟨hc3, FU.tr t3.rb, t4, fun ok => ⟨⟨t4.k, rm, (t3.2.2 7 (by decide)).trans u7, fun _ => (t5 ok).1, ⟨?_, Or.inr ?_⟩, ⟨?_, fun j j0 j1 => ?_⟩, fun _ q => ?_⟩, by have := (t5 ok).2; omega⟩, fun f x2 x00 x0 => by rw [rd f x2 x00 x0 t1, t2, bndh_s]⟩
          · rw [t3.2.2 10 (by decide), u10, fm.2 33 (by decide) (by decide) (by decide) (by decide) (by decide), up_s]
          · rw [fm.2 33 (by decide) (by decide) (by decide) (by decide) (by decide), up_s]
          · rw [fm.2 32 (by decide) (by decide) (by decide) (by decide) (by decide), mi 1 32 (by decide) (by decide)]
            exact et.1
          · rw [fm.2 32 (by decide) (by decide) (by decide) (by decide) (by decide), mi 1 32 (by decide) (by decide), t3.1 38 (by decide) (by decide) (by decide) (by omega), uc 38 (by decide) (by decide)]
            exact et.2 j j0 j1
          · rw [fm.2 33 (by decide) (by decide) (by decide) (by decide) (by decide), up_s] at q
            omega
      by_cases k5 : k ≤ 5
      · obtain ⟨hc1, hc2, hm', s', z1, z2, z3, z4, z5, z6, z7⟩ := moveLine hn (k := k) (at_ := a) (by omega) hw A3 (Rm2 1) rfl P3 u7 u9 (by omega)
        rw [if_neg (show ¬ 5 < k by omega), z1, bndh_s, z2] at rc
        refine fin k (MX6_tellMove n) hc2 hm' s' (fun f x2 x00 x0 q => ?_) rc z4 z5 z6 (z7.imp id (fun t => ⟨t.1, t.2.imp (fun hc3 t => ⟨t.1, t.2.1, t.2.2.1, fun q => ⟨(t.2.2.2 q).1, (t.2.2.2 q).2.2⟩⟩)⟩)) ?_
        · rw [read_ok x0 x00 h8 x1 g20 rc q, if_neg (by omega), if_neg (by omega), if_neg (by omega)]
        · rw [rl]
          unfold JX12_readsLine_89
          rw [grd_t (Or.inr rfl), ltt_e, if_pos (show 2 < k by omega), if_neg (show ¬ 5 < k by omega), z3, bndh_s]
      · rw [if_pos (show 5 < k by omega)] at rc
        by_cases k6 : k = 6
        · subst k6
          obtain ⟨hc1, hc2, hm', s', z1, z2, z3, z4, z5, z6, z7⟩ := markLine hn (at_ := a) hw A3 (Rm2 1) rfl P3 u7 u9 (by omega)
          rw [z1, bndh_s, z2] at rc
          refine fin 6 MX6_putMark hc2 hm' s' (fun f x2 x00 x0 q => ?_) rc z4 z5 z6 z7 ?_
          · rw [read_ok x0 x00 h8 x1 g20 rc q, if_pos rfl]
          · rw [rl]
            unfold JX12_readsLine_89
            rw [grd_t (Or.inr rfl), ltt_e, if_pos (by decide), if_pos (by decide), if_neg (fun q => q rfl), z3, bndh_s]
        · have k7 : k = 7 := by omega
          subst k7
          obtain ⟨hc1, hc2, hm', s', z1, z2, z3, z4, z5, z6, z7⟩ := againLine hn (at_ := a) hw A3 (Rm2 1) rfl P3 u7 u9 (by omega)
          rw [z1, bndh_s, z2] at rc
          refine fin 7 (MX6_tellAgain n) hc2 hm' s' (fun f x2 x00 x0 q => ?_) rc z4 z5 z6 z7 ?_
          · rw [read_ok x0 x00 h8 x1 g20 rc q, if_neg (by decide), if_pos rfl]
          · rw [rl]
            unfold JX12_readsLine_89
            rw [grd_t (Or.inr rfl), ltt_e, if_pos (by decide), if_pos (by decide), if_pos (by decide), z3, bndh_s]
end
