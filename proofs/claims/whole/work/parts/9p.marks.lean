/-! A LINE WITH A MARK. -/
def st7 (m : Hp) (v : Int) : Hp := fun c i => if c = 113 ∧ i = 7 then v else m c i
theorem st7_o {m : Hp} {v c : Int} (hc : c ≠ 113) : st7 m v c = m c := by
  funext i
  unfold st7
  rw [if_neg (fun q => hc q.1)]
theorem st7_gD {m : Hp} {v : Int} : gD (st7 m v) = gD m := by
  funext b a
  unfold gD
  rw [st7_o (by decide)]
theorem st7_ln {m : Hp} {v : Int} : ln (st7 m v) = ln m := by
  funext b
  unfold ln
  rw [st7_o (by decide)]
theorem st7_bg {m : Hp} {v : Int} : bg (st7 m v) = bg m := by
  funext b
  unfold bg
  rw [st7_o (by decide)]
theorem st7_wf {m : Hp} (H : WFp m) {v : Int} (hv : 0 ≤ v ∧ v ≤ 8) : WFp (st7 m v) := by
  unfold WFp
  rw [show nB (st7 m v) = nB m from rfl, show st7 m v 113 5 = m 113 5 from rfl, show st7 m v 113 7 = v from rfl, st7_bg, st7_o (c := 115) (by decide), st7_o (c := 122) (by decide)]
  refine ⟨H.1, H.2.1, H.2.2.1, H.2.2.2.1, H.2.2.2.2.1, fun b b0 b1 => ?_, H.2.2.2.2.2.2.1, H.2.2.2.2.2.2.2.1, hv⟩
  have := H.2.2.2.2.2.1 b b0 b1
  unfold WFb at this ⊢
  rw [st7_gD, st7_ln, st7_bg, st7_o (c := 123) (by decide), st7_o (c := 124) (by decide)]
  exact this
theorem RW.mv7 {m h : Hp} {w v : Int} (R : RW m h w) : RW (st7 m v) (up h w 13 v) w := by
  obtain ⟨⟨r9, r10, r11, r12, r13, r14⟩, r2, r3, r4, r5⟩ := R
  have eb : ∀ b k, lb (st7 m v) b k = lb m b k := fun b k => by
    unfold lb
    rw [st7_ln, st7_gD, st7_o (c := 115) (by decide)]
  have es : ∀ b, shp (st7 m v) b = shp m b := fun b => by
    unfold shp bend
    rw [st7_ln, st7_gD]
  have e15 : st7 m v 115 = m 115 := st7_o (by decide)
  refine ⟨⟨(up_i (by decide)).trans (r9.trans (by rw [e15])), (up_i (by decide)).trans (r10.trans (by rw [e15])), (up_i (by decide)).trans r11, (up_i (by decide)).trans r12, up_s, (up_i (by decide)).trans (by rw [st7_bg]; exact r14)⟩, fun k k0 k1 => (up_c (by omega)).trans ((r2 k k0 k1).trans (by rw [e15])), fun a k a0 a1 k0 k1 => (up_c (by omega)).trans ((r3 a k a0 a1 k0 k1).trans (by rw [st7_o (by decide)])), fun b b0 b1 => ?_, fun b b0 b1 => ?_⟩
  · have t := r4 b b0 b1
    rw [up_row (by omega), up_row (by omega), up_row (by omega), up_row (by omega), up_row (by omega), up_row (by omega), st7_ln, st7_bg, eb, eb, st7_o (c := 123) (by decide), st7_o (c := 124) (by decide)]
    exact t
  · rw [up_row (by omega), es]
    exact r5 b b0 b1
theorem pv_4 {hm hm' : Hp} (e114 : hm' 114 = hm 114) (e119 : hm' 119 = hm 119) (e120 : hm' 120 = hm 120) (e121 : hm' 121 = hm 121) (e2 : hm' 113 2 = hm 113 2) (e3 : hm' 113 3 = hm 113 3) : pv hm' = st7 (pv hm) (hm' 113 4) := by
  have el : lnP hm' = lnP hm := by
    funext b
    unfold lnP
    rw [e119]
  have eb : ∀ k : Nat, bgP hm' k = bgP hm k := fun k => by
    induction k with
    | zero => rfl
    | succ k ih =>
      show bgP hm' k + lnP hm' k = bgP hm k + lnP hm k
      rw [ih, el]
  funext c i
  unfold st7
  by_cases h1 : c = 113 ∧ i = 7
  · rw [if_pos h1, h1.1, h1.2]
    rfl
  · rw [if_neg h1]
    unfold pv
    rw [e114, e119, e120, e121, e2, e3, el, eb]
    by_cases hc : c = 113
    · rw [if_neg (show ¬ i = 7 from fun q => h1 ⟨hc, q⟩), if_neg (show ¬ i = 7 from fun q => h1 ⟨hc, q⟩)]
    · rw [if_neg hc, if_neg hc]
/-- a name that was read -/
theorem rdW_v {T : Int → Int} {z : Int} {s : St3} (hs : s.1 = -1) (h0 : 0 ≤ s.2.1) (hz : s.2.1 ≤ z) (ok : (rdW T z s).1 = -1) : (1 ≤ (rdW T z s).2.1 - (rdW T z s).2.2 ∧ (rdW T z s).2.1 - (rdW T z s).2.2 ≤ 7) ∧ (0 ≤ (rdW T z s).2.2 ∧ (rdW T z s).2.1 ≤ z) ∧ ltrs T (rdW T z s).2.2 ((rdW T z s).2.1 - (rdW T z s).2.2).toNat := by
  have sb := skp_b (T := T) (z := z) (p := s.2.1) hz
  have eu : rdW T z s = if nmOK T z (skp T z s.2.1) then (-1, wnd T z (skp T z s.2.1), skp T z s.2.1) else (8 * skp T z s.2.1 + 1, skp T z s.2.1, skp T z s.2.1) := if_pos hs
  rw [eu] at ok ⊢
  by_cases hq : nmOK T z (skp T z s.2.1)
  · rw [if_pos hq]
    have wb := wnd_b (T := T) (z := z) (p := skp T z s.2.1) sb.2
    exact ⟨hq.1, ⟨by show 0 ≤ skp T z s.2.1; omega, wb.2⟩, fun i i0 i1 => by
      have t : i < ((wnd T z (skp T z s.2.1) - skp T z s.2.1).toNat : Int) := i1
      show ltr (T (skp T z s.2.1 + i))
      exact wnd_d sb.2 (by omega) (by omega)⟩
  · rw [if_neg hq] at ok
    have t : 8 * skp T z s.2.1 + 1 = -1 := ok
    omega
theorem rdM_W {T : Int → Int} {z M k : Int} {N : Int → Int} {s : St3} (hs : s.1 = -1) (h0 : 0 ≤ s.2.1) (hz : s.2.1 ≤ z) (ok : (rdM T z N M k s).1 = -1) : (rdW T z s).1 = -1 ∧ rdM T z N M k s = rdW T z s ∧ ¬ (mkF N (wv T (rdW T z s).2.2 ((rdW T z s).2.1 - (rdW T z s).2.2).toNat) M = -1 ↔ k = 7) := by
  unfold rdM at ok ⊢
  by_cases h1 : (rdW T z s).1 = -1
  · rw [if_pos h1] at ok ⊢
    by_cases h2 : mkF N (wv T (rdW T z s).2.2 ((rdW T z s).2.1 - (rdW T z s).2.2).toNat) M = -1 ↔ k = 7
    · rw [if_pos h2] at ok
      have t : 8 * (rdW T z s).2.2 + 3 = -1 := ok
      have := (rdW_v hs h0 hz h1).2.1.1
      omega
    · rw [if_neg h2]
      exact ⟨h1, rfl, h2⟩
  · rw [if_neg h1] at ok
    exact absurd ok h1
section
variable {n : Nat}
/-- behind the name, the model is where the class is -/
theorem nameM (hn : 1000 ≤ n) {T : Int → Int} {z k M : Int} {s : St3} {h : Hp} (hk : k = 6 ∨ k = 7) (A : Rm h T z s) (hs : s.1 = -1) (h4 : h 113 4 = M) (hM : 0 ≤ M ∧ M ≤ 8) : ∃ v h1, MX12_name n h = some (v, h1) ∧ FMr h h1 ∧ Rm h1 T z (rdW T z s) ∧ h1 117 = h 117 ∧ MX12_markOf n v h1 = some (mkF (h 117) v M) ∧ ((rdW T z s).1 = -1 → v = wv T (rdW T z s).2.2 ((rdW T z s).2.1 - (rdW T z s).2.2).toNat ∧ h1 113 24 = (rdW T z s).2.2 ∧ (0 ≤ (rdW T z s).2.2 ∧ (rdW T z s).2.2 ≤ 400)) := by
  obtain ⟨v, h1, e, F, R, V⟩ := name_m hn A hs
  have A1 := (A.2.1 hs).2.2.1
  have e117 : h1 117 = h 117 := F.1 117 (by decide)
  refine ⟨v, h1, e, F, R, e117, ?_, fun ok => ?_⟩
  · rw [markOf_m (n := n) (by omega) (h := h1) (M := M) (by rw [F.2 4 (by decide)]; exact h4) hM, e117]
  · have t := rdW_v hs A1.1 A1.2.1 ok
    exact ⟨(V ok).1, (V ok).2, by omega⟩
theorem rdM_m (hn : 1000 ≤ n) {T : Int → Int} {z k M v : Int} {s : St3} {h1 : Hp} {N : Int → Int} (R : Rm h1 T z (rdW T z s)) (V : (rdW T z s).1 = -1 → v = wv T (rdW T z s).2.2 ((rdW T z s).2.1 - (rdW T z s).2.2).toNat ∧ h1 113 24 = (rdW T z s).2.2 ∧ (0 ≤ (rdW T z s).2.2 ∧ (rdW T z s).2.2 ≤ 400)) : ∃ h2, (if (rdW T z s).1 = -1 then (if (mkF N v M = -1 ↔ k = 7) then MX12_fails 3 (h1 113 24) h1 else some h1) else some h1) = some h2 ∧ FMr h1 h2 ∧ Rm h2 T z (rdM T z N M k s) := by
  unfold rdM
  by_cases ok : (rdW T z s).1 = -1
  · obtain ⟨v1, v2, v3⟩ := V ok
    rw [if_pos ok, if_pos ok, ← v1]
    by_cases h2 : mkF N v M = -1 ↔ k = 7
    · rw [if_pos h2, if_pos h2, v2, fails_m (by decide) (by omega), R.1, if_pos ok]
      exact ⟨_, rfl, FMr.rf.put (by decide), up_s, fun q => by have : 8 * (rdW T z s).2.2 + 3 = -1 := q; omega, fun _ => by show 0 ≤ 8 * (rdW T z s).2.2 + 3; omega⟩
    · rw [if_neg h2, if_neg h2]
      exact ⟨h1, rfl, FMr.rf, R⟩
  · rw [if_neg ok, if_neg ok]
    exact ⟨h1, rfl, FMr.rf, R⟩
theorem markLine (hn : 1000 ≤ n) {hc hm : Hp} {T : Int → Int} {z w at_ : Int} {s : St3} (hw : w = 1 ∨ w = 14) (A : Rc hc T z s) (B : Rm hm T z s) (hs : s.1 = -1) (P : PG hc hm T z w) (e7 : hc 29 7 = w) (e9 : hc 29 9 = at_) (hat : 0 ≤ at_ ∧ at_ ≤ 1000) : ∃ hc1 hc2 hm' s', MX6_readName n 6 hc = some hc1 ∧ JX6_readLine_65 n 6 hc1 = some (6, hc2) ∧ MX12_readsMark n at_ hm = some hm' ∧ Rm hm' T z s' ∧ FML hm hm' ∧ FRA w hc hc2 ∧ ((hc2 29 8 ≠ -1 ∧ Rc hc2 T z s' ∧ s'.1 ≠ -1) ∨ (hc2 29 8 = -1 ∧ ∃ hc3, MX6_putMark hc2 = some hc3 ∧ FRA w hc hc3 ∧ Rc hc3 T z s' ∧ (s'.1 = -1 → PG hc3 hm' T z w ∧ s.2.1 < s'.2.1))) := by
  have hMk := P.1.2.2.2.2.2.2.2.2
  rw [pv_7] at hMk
  have e13 : hc w 13 = hm 113 4 := P.2.1.1.2.2.2.2.1
  have e12 : hc w 12 = hm 113 2 := P.2.1.1.2.2.2.1
  have bs := A.bd hs
  obtain ⟨hc1, x1, F1, R1, V1, -⟩ := readName_c (M := hm 113 4) hn (Or.inl rfl) A hs e7 (by omega) e13 hMk P.2.2.2.2.2.1
  rw [if_neg (by decide)] at R1
  obtain ⟨hc2, x2, F2, R2⟩ := endLine_c (x := 6) hn R1
  obtain ⟨v, h1, y1, G1, S1, e117, y2, W1⟩ := nameM (k := 6) hn (Or.inl rfl) B hs rfl hMk
  obtain ⟨h2, y3, G2, S2⟩ := rdM_m (k := 6) (M := hm 113 4) (N := hm 117) hn S1 W1
  obtain ⟨h3, y4, G3, S3⟩ := ends_m hn S2
  have GG := (G1.tr G2).tr G3
  have FA : FRA w hc hc2 := ⟨fun c h1 h2 _ _ => (F2.1 c h1 h2).trans (F1.1 c h1 h2), fun i hi => (F2.2.1 i hi).trans (F1.2.1 i hi), fun i hi => (F2.2.2 i (by omega)).trans (F1.2.2 i (by omega))⟩
  have y : MX12_readsMark n at_ hm = (bndp (MX12_isRight h3) fun r1 => if r1 = 0 then JX12_readsMark_56 n v h3 else if h3 113 4 ≠ 8 then JX12_readsMark_56 n v h3 else bndh (MX12_fails 4 at_ h3) fun h2 => JX12_readsMark_56 n v h2) := by
    unfold MX12_readsMark
    rw [y1, bnd_s, ltt_e, isRight_m, bndp_s, S1.1, y2, bndp_s]
    by_cases ok : (rdW T z s).1 = -1
    · rw [if_pos ok] at y3
      rw [if_pos ok, if_neg (by decide)]
      by_cases hf : mkF (hm 117) v (hm 113 4) = -1
      · rw [if_neg (fun q => absurd (q.mp hf) (by decide))] at y3
        cases y3
        rw [if_pos hf]
        unfold JX12_readsMark_30
        rw [y4, bndh_s]
      · rw [if_pos ⟨fun q => absurd q hf, fun q => absurd q (by decide)⟩] at y3
        rw [if_neg hf, y3, bndh_s]
        unfold JX12_readsMark_30
        rw [y4, bndh_s]
    · rw [if_neg ok] at y3
      cases y3
      rw [if_neg ok, if_pos rfl]
      unfold JX12_readsMark_30
      rw [y4, bndh_s]
  refine ⟨hc1, hc2, ?_⟩
  rw [y, isRight_m, bndp_s, S3.1]
  by_cases ok : (rdE T z (rdM T z (hm 117) (hm 113 4) 6 s)).1 = -1
  · have okM := rdE_ok ok
    obtain ⟨okW, eM, -⟩ := rdM_W hs bs.1 bs.2 okM
    obtain ⟨t11, t12, -⟩ := V1 okM
    obtain ⟨w1, -, -⟩ := W1 okW
    obtain ⟨l1, l2, l3⟩ := rdW_v hs bs.1 bs.2 okW
    have c8 : hc2 29 8 = -1 := R2.1.trans ok
    have k11 : hc2 29 11 = (rdW T z s).2.2 := (F2.2.2 11 (by decide)).trans t11
    have k12 : hc2 29 12 = (rdW T z s).2.1 - (rdW T z s).2.2 := (F2.2.2 12 (by decide)).trans t12
    have k7 : hc2 29 7 = w := by rw [F2.2.2 7 (by decide), F1.2.2 7 (by decide)]; exact e7
    have k9 : hc2 29 9 = at_ := by rw [F2.2.2 9 (by decide), F1.2.2 9 (by decide)]; exact e9
    have kw : hc2 w = hc w := by rw [F2.1 w (by omega) (by omega), F1.1 w (by omega) (by omega)]
    have n4 : h3 113 4 = hm 113 4 := GG.2 4 (by decide)
    have n2 : h3 113 2 = hm 113 2 := GG.2 2 (by decide)
    rw [if_pos ok, if_neg (by decide), n4]
    by_cases h8 : hm 113 4 = 8
    · rw [if_neg (fun q => q h8), fails_m (by decide) hat, S3.1, if_pos ok, bndh_s]
      unfold JX12_readsMark_56 MX6_putMark JX6_putMark_18
      rw [isRight_m, up_s, if_neg (by omega), bndp_s, if_pos rfl, k7, kw, e13, ltt_e, if_neg (by omega), if_neg (by omega), k9, fail_c (by decide) hat, c8, if_pos rfl, bndh_s]
      exact ⟨_, (8 * at_ + 4, s.2), x1, x2, rfl, ⟨up_s, fun q => by have : 8 * at_ + 4 = -1 := q; omega, fun _ => by show 0 ≤ 8 * at_ + 4; omega⟩, ⟨fun c h1 _ _ _ _ _ => (up_row h1).trans (GG.1 c h1), fun i _ _ _ h4 _ => (up_i (by omega)).trans (GG.2 i (by omega))⟩, FA, Or.inr ⟨rfl, _, rfl, ⟨fun c h1 h2 h3 h4 => (up_row h2).trans (FA.1 c h1 h2 h3 h4), fun i hi => (up_c (by decide)).trans (FA.2.1 i hi), fun i hi => (up_i (by omega)).trans (FA.2.2 i hi)⟩, ⟨up_s, fun q => by have : 8 * at_ + 4 = -1 := q; omega, fun _ => by show 0 ≤ 8 * at_ + 4; omega⟩, fun q => by have : 8 * at_ + 4 = -1 := q; omega⟩⟩
    · rw [if_pos h8]
      unfold JX12_readsMark_56 MX6_putMark
      rw [isRight_m, S3.1, if_pos ok, bndp_s, if_neg (by decide), n4, al85, grd_t (by omega), ltt_e, up_c (by decide), n4, al84, grd_t (by omega), up_c (b := 113) (by decide), n2, ltt_e, up_c (b := 113) (by decide), up_c (b := 113) (by decide), n4, w32_i (x := hm 113 4 + 1) (by omega), ltt_e, k7, kw, e13, ltt_e, if_neg (by omega), if_pos (by omega), grd_t (by omega), k11, ltt_e, grd_t (by omega), up_c (b := 29) (by decide), k12, ltt_e, grd_t (by omega), up_c (b := 29) (by decide), up_c (b := 29) (by decide), k7, up_c (b := w) (by omega), up_c (b := w) (by omega), kw, e12, ltt_e, up_c (b := 29) (by decide), up_c (b := 29) (by decide), up_c (b := 29) (by decide), k7, w32_i (x := hm 113 4 + 1) (by omega), ltt_e]
      refine ⟨_, _, x1, x2, rfl, S3.mv (by rw [up_i (by decide), up_c (by decide), up_c (by decide)]) (by rw [up_i (by decide), up_c (by decide), up_c (by decide)]) (by rw [up_i (by decide), up_c (by decide), up_c (by decide)]) (by rw [up_row (by decide), up_row (by decide), up_row (by decide)]), ⟨fun c h1 h2 h3 h4 h5 h6 => by rw [up_row h1, up_row (by omega), up_row (by omega)]; exact GG.1 c h1, fun i h1 h2 h3 h4 h5 => by rw [up_i h3, up_c (by decide), up_c (by decide)]; exact GG.2 i (by omega)⟩, FA, Or.inr ⟨c8, _, rfl, ⟨fun c h1 h2 h3 h4 => by rw [up_row (by omega), up_row (by omega), up_row (by omega), up_row (by omega)]; exact FA.1 c h1 h2 h3 h4, fun i hi => by rw [up_c (by omega), up_c (by decide), up_c (by decide), up_c (by decide)]; exact FA.2.1 i hi, fun i hi => by rw [up_c (by omega), up_c (by decide), up_c (by decide), up_c (by decide)]; exact FA.2.2 i hi⟩, R2.mv (by rw [up_row (by omega), up_row (by decide), up_row (by decide), up_row (by decide)]) (by rw [up_row (by omega), up_row (by decide), up_row (by decide), up_row (by decide)]) (by rw [up_c (by omega), up_c (by decide), up_c (by decide), up_c (by decide)]), fun _ => ?_⟩⟩
      obtain ⟨p1, p2, p3, p4, p5, p6, p7⟩ := P
      have epv : pv (up (up (up h3 117 (hm 113 4) v) 118 (hm 113 4) (hm 113 2)) 113 4 (hm 113 4 + 1)) = st7 (pv hm) (hm 113 4 + 1) := by
        have t := pv_4 (hm := hm) (hm' := up (up (up h3 117 (hm 113 4) v) 118 (hm 113 4) (hm 113 2)) 113 4 (hm 113 4 + 1)) (by rw [up_row (by decide), up_row (by decide), up_row (by decide)]; exact GG.1 114 (by decide)) (by rw [up_row (by decide), up_row (by decide), up_row (by decide)]; exact GG.1 119 (by decide)) (by rw [up_row (by decide), up_row (by decide), up_row (by decide)]; exact GG.1 120 (by decide)) (by rw [up_row (by decide), up_row (by decide), up_row (by decide)]; exact GG.1 121 (by decide)) (by rw [up_i (by decide), up_c (by decide), up_c (by decide)]; exact n2) (by rw [up_i (by decide), up_c (by decide), up_c (by decide)]; exact GG.2 3 (by decide))
        rw [up_s] at t
        exact t
      have kc : ∀ c, c ≠ 27 → c ≠ 29 → hc2 c = hc c := fun c h1 h2 => (F2.1 c h1 h2).trans (F1.1 c h1 h2)
      have q2 : up (up (up h3 117 (hm 113 4) v) 118 (hm 113 4) (hm 113 2)) 113 4 (hm 113 4 + 1) 113 2 = hm 113 2 := by rw [up_i (by decide), up_c (by decide), up_c (by decide)]; exact n2
      have q3 : up (up (up h3 117 (hm 113 4) v) 118 (hm 113 4) (hm 113 2)) 113 4 (hm 113 4 + 1) 113 3 = hm 113 3 := by rw [up_i (by decide), up_c (by decide), up_c (by decide)]; exact GG.2 3 (by decide)
      have q4 : up (up (up h3 117 (hm 113 4) v) 118 (hm 113 4) (hm 113 2)) 113 4 (hm 113 4 + 1) 113 4 = hm 113 4 + 1 := up_s
      have q128 : up (up (up h3 117 (hm 113 4) v) 118 (hm 113 4) (hm 113 2)) 113 4 (hm 113 4 + 1) 128 = hm 128 := by rw [up_row (by decide), up_row (by decide), up_row (by decide)]; exact GG.1 128 (by decide)
      have q119 : up (up (up h3 117 (hm 113 4) v) 118 (hm 113 4) (hm 113 2)) 113 4 (hm 113 4 + 1) 119 = hm 119 := by rw [up_row (by decide), up_row (by decide), up_row (by decide)]; exact GG.1 119 (by decide)
      have q116 : up (up (up h3 117 (hm 113 4) v) 118 (hm 113 4) (hm 113 2)) 113 4 (hm 113 4 + 1) 116 = hm 116 := by rw [up_row (by decide), up_row (by decide), up_row (by decide)]; exact GG.1 116 (by decide)
      refine ⟨?_, ?_⟩
      rotate_left
      · have m1 := rdW_mo bs.1 bs.2 hs okW
        rw [← eM] at m1
        have me := rdE_mo (by omega) m1.2 ok
        omega
      unfold PG
      rw [epv, q2, q3, q4, q128, q119, q116]
      refine ⟨st7_wf p1 (by omega), ?_, p3, fun i i0 i1 => ?_, p5, fun k k0 k1 => ?_, fun k k0 k1 => ?_⟩
      · refine RW.mv7 (p2.mv (fun c c0 c1 => ?_))
        rw [up_row (by omega), up_row (by omega), up_row (by omega)]
        exact kc c (by omega) (by omega)
      · rw [up_row (by omega), up_row (by decide), up_row (by decide), up_row (by decide), kc 34 (by decide) (by decide)]
        exact p4 i i0 i1
      · rw [up_c (b := 36) (by omega), up_c (b := 36) (by decide), up_c (b := 35) (by omega), up_c (b := 35) (by decide), up_c (b := 35) (by decide), up_c (b := 117) (by decide), up_c (b := 117) (by decide)]
        by_cases hk : k = hm 113 4
        · rw [hk, up_s, up_s, up_s]
          exact ⟨l1, ⟨l2.1, by omega⟩, l3, w1⟩
        · rw [up_i hk, up_i hk, up_i hk, up_c (by decide), kc 36 (by decide) (by decide), kc 35 (by decide) (by decide), GG.1 117 (by decide)]
          exact p6 k k0 (by omega)
      · rw [up_c (b := 37) (by omega), up_c (b := 118) (by decide)]
        by_cases hk : k = hm 113 4
        · rw [hk, up_s, up_s]
          have := p1.2.2.2.2.2.2.2.1
          rw [pv_5] at this
          exact ⟨rfl, this.1, Int.le_refl _⟩
        · rw [up_i hk, up_i hk, up_c (b := 37) (by decide), up_c (b := 37) (by decide), up_c (b := 118) (by decide), kc 37 (by decide) (by decide), GG.1 118 (by decide)]
          exact p7 k k0 (by omega)
  · have c8 : hc2 29 8 ≠ -1 := fun q => ok (R2.1.symm.trans q)
    rw [if_neg ok, if_pos rfl]
    unfold JX12_readsMark_56
    rw [isRight_m, S3.1, if_neg ok, bndp_s, if_pos rfl]
    exact ⟨h3, _, x1, x2, rfl, S3, ⟨fun c h1 _ _ _ _ _ => GG.1 c h1, fun i _ _ _ h4 _ => GG.2 i (by omega)⟩, FA, Or.inl ⟨c8, R2, ok⟩⟩
end
