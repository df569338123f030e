/-! NAMES: the class's lines. -/
/-- behind the name of a mark (k 6) or of again (k 7) -/
def rdM (T : Int → Int) (z : Int) (N : Int → Int) (M k : Int) (s : St3) : St3 := if (rdW T z s).1 = -1 then (if (mkF N (wv T (rdW T z s).2.2 ((rdW T z s).2.1 - (rdW T z s).2.2).toNat) M = -1 ↔ k = 7) then (8 * (rdW T z s).2.2 + 3, (rdW T z s).2) else rdW T z s) else rdW T z s
theorem mkF_b {N : Int → Int} {v M : Int} (hM : 0 ≤ M) : mkF N v M = -1 ∨ (0 ≤ mkF N v M ∧ mkF N v M < M) := by
  have q := fnd_ok (p := mkb N v) M.toNat 0
  unfold mkF
  split
  · exact Or.inl rfl
  · exact Or.inr (by omega)
section
variable {n : Nat}
/-- but for tokens, the fault and the name, h' is as h -/
def FRn (h h' : Hp) : Prop := (∀ c, c ≠ 27 → c ≠ 29 → h' c = h c) ∧ (∀ i, i < 2 → h' 27 i = h 27 i) ∧ ∀ i, i < 8 ∨ i = 9 ∨ i = 10 → h' 29 i = h 29 i
theorem FRn.rf {h : Hp} : FRn h h := ⟨fun _ _ _ => rfl, fun _ _ => rfl, fun _ _ => rfl⟩
theorem FRn.tr {h g k : Hp} (a : FRn h g) (b : FRn g k) : FRn h k := ⟨fun c h1 h2 => (b.1 c h1 h2).trans (a.1 c h1 h2), fun i hi => (b.2.1 i hi).trans (a.2.1 i hi), fun i hi => (b.2.2 i hi).trans (a.2.2 i hi)⟩
theorem FRd.rn {h g : Hp} (a : FRd h g) : FRn h g := ⟨a.1, a.2.1, fun i hi => a.2.2 i (by omega)⟩
theorem FRn.pf {h g : Hp} (a : FRn h g) {i v : Int} (hi : 11 ≤ i) : FRn h (up g 29 i v) := ⟨fun c h1 h2 => (up_row h2).trans (a.1 c h1 h2), fun i hi => (up_c (by decide)).trans (a.2.1 i hi), fun j hj => (up_i (by omega)).trans (a.2.2 j hj)⟩
theorem Rc.mv {h g : Hp} {T : Int → Int} {z : Int} {s : St3} (A : Rc h T z s) (e27 : g 27 = h 27) (e28 : g 28 = h 28) (e8 : g 29 8 = h 29 8) : Rc g T z s := ⟨e8.trans A.1, fun q => by
  obtain ⟨a, b⟩ := A.2.1 q
  refine ⟨a.st e28 (by rw [e27]) (by rw [e27]; exact a.2.1) ⟨a.2.2.1.1, a.2.2.1.2.1⟩, by rw [e27]; exact b⟩, A.2.2⟩
theorem Rc.up29 {h : Hp} {T : Int → Int} {z : Int} {s : St3} (A : Rc h T z s) {i v : Int} (hi : i ≠ 8) : Rc (up h 29 i v) T z s := A.mv (up_row (by decide)) (up_row (by decide)) (up_i (by omega))
/-- the times of again -/
theorem times_c (hn : 1000 ≤ n) {T : Int → Int} {z k : Int} {s : St3} {h : Hp} (hk : k = 6 ∨ k = 7) (A : Rc h T z s) : ∃ h', JX6_readName_127 n k h = some h' ∧ FRn h h' ∧ Rc h' T z (if k = 7 then (rdU T z 1 3 s).1 else s) ∧ (∀ i, i ≠ 8 → i ≠ 14 → h' 29 i = h 29 i) ∧ (k = 7 → (rdU T z 1 3 s).1.1 = -1 → h' 29 14 = (rdU T z 1 3 s).2) := by
  unfold JX6_readName_127
  rcases hk with e | e
  · subst e
    rw [if_pos (by decide), if_neg (by decide)]
    exact ⟨h, rfl, FRn.rf, A, fun _ _ _ => rfl, fun q => absurd q (by decide)⟩
  · subst e
    obtain ⟨v, g, e1, F, R1, R2⟩ := readNumber_c hn (lo := 1) (hi := 3) (by decide) A
    rw [if_neg (by decide), e1, bnd_s, ltt_e, if_pos rfl]
    exact ⟨_, rfl, F.rn.pf (by decide), R1.up29 (by decide), fun i i8 i14 => (up_i i14).trans (F.2.2 i i8), fun _ q => up_s.trans (R2 q)⟩
/-- a name of the class -/
theorem readName_c (hn : 1000 ≤ n) {T : Int → Int} {z k M w : Int} {s : St3} {h hm : Hp} (hk : k = 6 ∨ k = 7) (A : Rc h T z s) (hs : s.1 = -1) (hw : h 29 7 = w) (w27 : w < 27) (h7 : h w 13 = M) (hM : 0 ≤ M ∧ M ≤ 8) (K : MKS h hm T z M) : ∃ h', MX6_readName n k h = some h' ∧ FRn h h' ∧ Rc h' T z (if k = 7 then (rdU T z 1 3 (rdM T z (hm 117) M k s)).1 else rdM T z (hm 117) M k s) ∧ ((rdM T z (hm 117) M k s).1 = -1 → h' 29 11 = (rdW T z s).2.2 ∧ h' 29 12 = (rdW T z s).2.1 - (rdW T z s).2.2 ∧ h' 29 13 = mkF (hm 117) (wv T (rdW T z s).2.2 ((rdW T z s).2.1 - (rdW T z s).2.2).toNat) M) ∧ (k = 7 → (rdU T z 1 3 (rdM T z (hm 117) M k s)).1.1 = -1 → h' 29 14 = (rdU T z 1 3 (rdM T z (hm 117) M k s)).2) := by
  obtain ⟨A1, -⟩ := A.2.1 hs
  have b := A1.2.2.1
  have sb := skp_b (T := T) (z := z) (p := s.2.1) b.2.1
  obtain ⟨g, e, F, g3, g2, Ag, g5⟩ := next_c hn A1
  have eu : rdW T z s = if nmOK T z (skp T z s.2.1) then (-1, wnd T z (skp T z s.2.1), skp T z s.2.1) else (8 * skp T z s.2.1 + 1, skp T z s.2.1, skp T z s.2.1) := if_pos hs
  unfold MX6_readName
  rw [e, bndh_s, Ag.2.1, g3]
  generalize skp T z s.2.1 = a at *
  have wb := wnd_b (T := T) (z := z) (p := a) (by omega)
  have eb := Ag.2.2.1
  have e8 : up g 29 12 (tkE T z a - a) 29 8 = -1 := by rw [up_i (by decide), F.1 29 (by decide), A.1]; exact hs
  have F2 : FRn h (up g 29 12 (tkE T z a - a)) := F.rd.rn.pf (by decide)
  have A2 : TPc (up g 29 12 (tkE T z a - a)) T z (tkE T z a) := Ag.st (up_row (by decide)) (by rw [up_row (by decide)]) (by rw [up_row (by decide)]; exact Ag.2.1) (by omega)
  have g3' : up g 29 12 (tkE T z a - a) 27 3 = a := by rw [up_c (by decide)]; exact g3
  have g2' : up g 29 12 (tkE T z a - a) 27 2 = tkK T z a := by rw [up_c (by decide)]; exact g2
  have bad : ¬ nmOK T z a → ∃ h', JX6_readName_54 n (up g 29 12 (tkE T z a - a)) = some h' ∧ FRn h h' ∧ Rc h' T z (if k = 7 then (rdU T z 1 3 (rdM T z (hm 117) M k s)).1 else rdM T z (hm 117) M k s) ∧ ((rdM T z (hm 117) M k s).1 = -1 → h' 29 11 = (rdW T z s).2.2 ∧ h' 29 12 = (rdW T z s).2.1 - (rdW T z s).2.2 ∧ h' 29 13 = mkF (hm 117) (wv T (rdW T z s).2.2 ((rdW T z s).2.1 - (rdW T z s).2.2).toNat) M) ∧ (k = 7 → (rdU T z 1 3 (rdM T z (hm 117) M k s)).1.1 = -1 → h' 29 14 = (rdU T z 1 3 (rdM T z (hm 117) M k s)).2) := fun hq => by
    have e1 : rdW T z s = (8 * a + 1, a, a) := by rw [eu, if_neg hq]
    have e2 : rdM T z (hm 117) M k s = (8 * a + 1, a, a) := by
      unfold rdM
      rw [e1, if_neg (show ¬ (8 * a + 1 = -1) by omega)]
    have e3 : (if k = 7 then (rdU T z 1 3 ((8 * a + 1, a, a) : St3)).1 else (8 * a + 1, a, a)) = (8 * a + 1, a, a) := by
      rw [rdU_f (show ¬ (8 * a + 1 = -1) by omega)]
      split <;> rfl
    unfold JX6_readName_54
    rw [g3', fail_c (by decide) (by omega), e8, if_pos rfl, bndh_s, e2, e3]
    exact ⟨_, rfl, ⟨fun c h1 h2 => (up_row h2).trans (F2.1 c h1 h2), fun i hi => (up_c (by decide)).trans (F2.2.1 i hi), fun j hj => (up_i (by omega)).trans (F2.2.2 j hj)⟩, ⟨up_s, fun q => by have : 8 * a + 1 = -1 := q; omega, fun _ => by show 0 ≤ 8 * a + 1; omega⟩, fun q => by have : 8 * a + 1 = -1 := q; omega, fun _ q => by
      rw [rdU_f (show ¬ (8 * a + 1 = -1) by omega)] at q
      have : 8 * a + 1 = -1 := q
      omega⟩
  rw [w32_i (x := tkE T z a - a) (by omega), ltt_e, g2', up_s]
  by_cases hk1 : tkK T z a = 1
  · have ee := en_w (T := T) (z := z) (a := a) (by omega) hk1
    have l1 := (kd_w (T := T) (z := z) (a := a) (by omega)).mp hk1
    rw [if_neg (fun q => q hk1)]
    by_cases h7' : wnd T z a - a ≤ 7
    · rw [if_neg (show ¬ 7 < tkE T z a - a by rw [ee]; omega), keyword_c (by omega) A2 g3' (by omega) (by omega), bndp_s, g2', if_pos hk1, ee]
      by_cases hkw : kwS T a (wnd T z a - a) = -1
      · have e1 : rdW T z s = (-1, wnd T z a, a) := by rw [eu, if_pos ⟨⟨l1, h7'⟩, hkw⟩]
        have L : ltrs T a (wnd T z a - a).toNat := fun i i0 i1 => wnd_d (z := z) (p := a) (by omega) (by omega) (by omega)
        rw [ee] at A2 e8 F2 g3'
        have F3 : FRn h (up (up g 29 12 (wnd T z a - a)) 29 11 a) := F2.pf (by decide)
        have A3 : TPc (up (up g 29 12 (wnd T z a - a)) 29 11 a) T z (wnd T z a) := A2.st (up_row (by decide)) (by rw [up_row (by decide)]) (by rw [up_row (by decide)]; exact A2.2.1) (by omega)
        have x7 : (up (up g 29 12 (wnd T z a - a)) 29 11 a) ((up (up g 29 12 (wnd T z a - a)) 29 11 a) 29 7) 13 = M := by
          rw [F3.2.2 7 (by decide), hw, F3.1 w (by omega) (by omega)]
          exact h7
        have K3 : MKS (up (up g 29 12 (wnd T z a - a)) 29 11 a) hm T z M := by
          unfold MKS
          rw [F3.1 35 (by decide) (by decide), F3.1 36 (by decide) (by decide)]
          exact K
        rw [if_pos hkw, g3', ltt_e, findMark_c (by omega) A3 (by rw [up_c (by decide)]; exact g3') (by omega) (by omega) L x7 hM K3, bndp_s, ltt_e, up_s]
        have e2 : rdM T z (hm 117) M k s = if (mkF (hm 117) (wv T a (wnd T z a - a).toNat) M = -1 ↔ k = 7) then (8 * a + 3, wnd T z a, a) else (-1, wnd T z a, a) := by
          unfold rdM
          rw [e1, if_pos rfl]
        rw [e2, e1]
        generalize hmk : mkF (hm 117) (wv T a (wnd T z a - a).toNat) M = mk at *
        have F4 : FRn h (up (up (up g 29 12 (wnd T z a - a)) 29 11 a) 29 13 mk) := F3.pf (by decide)
        have A4 : TPc (up (up (up g 29 12 (wnd T z a - a)) 29 11 a) 29 13 mk) T z (wnd T z a) := A3.st (up_row (by decide)) (by rw [up_row (by decide)]) (by rw [up_row (by decide)]; exact A3.2.1) (by omega)
        have e84 : up (up (up g 29 12 (wnd T z a - a)) 29 11 a) 29 13 mk 29 8 = -1 := by rw [up_i (by decide), up_i (by decide)]; exact e8
        have g34 : up (up (up g 29 12 (wnd T z a - a)) 29 11 a) 29 13 mk 27 3 = a := by rw [up_c (by decide), up_c (by decide)]; exact g3'
        have v11 : up (up (up g 29 12 (wnd T z a - a)) 29 11 a) 29 13 mk 29 11 = a := by rw [up_i (by decide), up_s]
        have v12 : up (up (up g 29 12 (wnd T z a - a)) 29 11 a) 29 13 mk 29 12 = wnd T z a - a := by rw [up_i (by decide), up_i (by decide), up_s]
        have v13 : up (up (up g 29 12 (wnd T z a - a)) 29 11 a) 29 13 mk 29 13 = mk := up_s
        generalize up (up (up g 29 12 (wnd T z a - a)) 29 11 a) 29 13 mk = y at *
        have fin : ∃ h', (if (mk = -1 ↔ k = 7) then bndh (MX6_fail 3 (y 27 3) y) (fun h1 => JX6_readName_127 n k h1) else JX6_readName_127 n k y) = some h' ∧ FRn h h' ∧ Rc h' T z (if k = 7 then (rdU T z 1 3 (if (mk = -1 ↔ k = 7) then ((8 * a + 3, wnd T z a, a) : St3) else (-1, wnd T z a, a))).1 else (if (mk = -1 ↔ k = 7) then (8 * a + 3, wnd T z a, a) else (-1, wnd T z a, a))) ∧ ((if (mk = -1 ↔ k = 7) then ((8 * a + 3, wnd T z a, a) : St3) else (-1, wnd T z a, a)).1 = -1 → h' 29 11 = a ∧ h' 29 12 = wnd T z a - a ∧ h' 29 13 = mk) ∧ (k = 7 → (rdU T z 1 3 (if (mk = -1 ↔ k = 7) then ((8 * a + 3, wnd T z a, a) : St3) else (-1, wnd T z a, a))).1.1 = -1 → h' 29 14 = (rdU T z 1 3 (if (mk = -1 ↔ k = 7) then ((8 * a + 3, wnd T z a, a) : St3) else (-1, wnd T z a, a))).2) := by
          by_cases hc : mk = -1 ↔ k = 7
          · rw [if_pos hc, if_pos hc, g34, fail_c (by decide) (by omega), e84, if_pos rfl, bndh_s]
            have R : Rc (up y 29 8 (8 * a + 3)) T z (8 * a + 3, wnd T z a, a) := ⟨up_s, fun q => by have : 8 * a + 3 = -1 := q; omega, fun _ => by show 0 ≤ 8 * a + 3; omega⟩
            obtain ⟨h', t1, t2, t3, t4, t5⟩ := times_c hn hk R
            have F5 : FRn h (up y 29 8 (8 * a + 3)) := ⟨fun c h1 h2 => (up_row h2).trans (F4.1 c h1 h2), fun i hi => (up_c (by decide)).trans (F4.2.1 i hi), fun j hj => (up_i (by omega)).trans (F4.2.2 j hj)⟩
            exact ⟨h', t1, F5.tr t2, t3, fun q => by have : 8 * a + 3 = -1 := q; omega, t5⟩
          · rw [if_neg hc, if_neg hc]
            have R : Rc y T z (-1, wnd T z a, a) := ⟨e84, fun _ => ⟨A4, g34, by show 0 ≤ a; omega, wb.1⟩, fun q => absurd rfl q⟩
            obtain ⟨h', t1, t2, t3, t4, t5⟩ := times_c hn hk R
            exact ⟨h', t1, F4.tr t2, t3, fun _ => ⟨(t4 11 (by decide) (by decide)).trans v11, (t4 12 (by decide) (by decide)).trans v12, (t4 13 (by decide) (by decide)).trans v13⟩, t5⟩
        have J : (if mk = -1 then JX6_readName_99 n k 0 y else JX6_readName_99 n k 1 y) = (if (mk = -1 ↔ k = 7) then bndh (MX6_fail 3 (y 27 3) y) (fun h1 => JX6_readName_127 n k h1) else JX6_readName_127 n k y) := by
          unfold JX6_readName_99 JX6_readName_112
          simp only [ltt_e]
          rcases hk with e | e
          · subst e
            by_cases hm1 : mk = -1
            · rw [if_pos hm1, if_neg (by decide), if_pos (by decide), if_neg (fun q => absurd (q.mp hm1) (by decide))]
            · rw [if_neg hm1, if_neg (by decide), if_neg (by decide), if_pos ⟨fun q => absurd q hm1, fun q => absurd q (by decide)⟩]
          · subst e
            by_cases hm1 : mk = -1
            · rw [if_pos hm1, if_pos (by decide), if_neg (by decide), if_pos ⟨fun _ => rfl, fun _ => hm1⟩]
            · rw [if_neg hm1, if_pos (by decide), if_pos (by decide), if_neg (fun q => hm1 (q.mpr rfl))]
        rw [J]
        exact fin
      · rw [if_neg hkw, ← ee]
        exact bad (fun q => hkw q.2)
    · rw [if_pos (show 7 < tkE T z a - a by rw [ee]; omega)]
      exact bad (fun q => h7' q.1.2)
  · rw [if_pos hk1]
    exact bad (fun q => hk1 ((kd_w (by omega)).mpr q.1.1))
end
