/-! SETTINGS. -/
def rdA (T : Int → Int) (z : Int) : Nat → Int → St3 → St3
  | 0, _, s => s
  | r + 1, i, s => rdA T z r (i + 1) (rdU T z 1 (if i < 3 then 5000 else 500) s).1
def rdK (T : Int → Int) (z k : Int) (s : St3) : St3 := if k = 0 then rdA T z 6 0 s else if k = 1 then (rdU T z 1 50 s).1 else (rdU T z 0 2000 s).1
/-- the settings of both programs -/
def STR (hc hm : Hp) (w : Int) : Prop := (∀ k, 0 ≤ k → k < 6 → hc (w + 1) k = hm 114 k ∧ 1 ≤ hm 114 k ∧ hm 114 k ≤ (if k < 3 then 5000 else 500)) ∧ (hc w 9 = hm 114 6 ∧ 1 ≤ hm 114 6 ∧ hm 114 6 ≤ 50) ∧ hc w 10 = hm 114 7 ∧ 0 ≤ hm 114 7 ∧ hm 114 7 ≤ 2000
theorem STR.mv {hc hm hc' hm' : Hp} {w : Int} (S : STR hc hm w) (e1 : hc' (w + 1) = hc (w + 1)) (e9 : hc' w 9 = hc w 9) (e10 : hc' w 10 = hc w 10) (em : hm' 114 = hm 114) : STR hc' hm' w := by
  unfold STR
  rw [e1, e9, e10, em]
  exact S
theorem rdU_v {T : Int → Int} {z lo hi : Int} {s : St3} (h : (rdU T z lo hi s).1.1 = -1) (hz : s.2.1 ≤ z) (h0 : 0 ≤ s.2.1) : lo ≤ (rdU T z lo hi s).2 ∧ (rdU T z lo hi s).2 ≤ hi := by
  have hs := rdU_ok h
  have sb := skp_b (T := T) (z := z) (p := s.2.1) hz
  have e : rdU T z lo hi s = rdN T z lo hi (skp T z s.2.1) false := if_pos hs
  rw [e] at h ⊢
  by_cases hd : skp T z s.2.1 < z ∧ dgt (T (skp T z s.2.1))
  · by_cases hv : lo ≤ nmV 10000000 T (skp T z s.2.1) (dnd T z (skp T z s.2.1)) ∧ nmV 10000000 T (skp T z s.2.1) (dnd T z (skp T z s.2.1)) ≤ hi
    · rw [rdN_o hd hv]
      exact hv
    · rw [rdN_r hd hv] at h
      have t : 8 * skp T z s.2.1 + 2 = -1 := h
      omega
  · rw [rdN_f hd] at h
    have t : 8 * skp T z s.2.1 + 1 = -1 := h
    omega
/-- what a line of settings may change in the class -/
def FSc (w : Int) (h h' : Hp) : Prop := (∀ c, c ≠ 27 → c ≠ 29 → c ≠ w → c ≠ w + 1 → h' c = h c) ∧ (∀ i, i < 2 → h' 27 i = h 27 i) ∧ (∀ i, i ≠ 8 → h' 29 i = h 29 i) ∧ ∀ i, i < 9 ∨ 10 < i → h' w i = h w i
theorem FSc.rf {w : Int} {h : Hp} : FSc w h h := ⟨fun _ _ _ _ _ => rfl, fun _ _ => rfl, fun _ _ => rfl, fun _ _ => rfl⟩
theorem FSc.tr {w : Int} {h g k : Hp} (a : FSc w h g) (b : FSc w g k) : FSc w h k := ⟨fun c h1 h2 h3 h4 => (b.1 c h1 h2 h3 h4).trans (a.1 c h1 h2 h3 h4), fun i hi => (b.2.1 i hi).trans (a.2.1 i hi), fun i hi => (b.2.2.1 i hi).trans (a.2.2.1 i hi), fun i hi => (b.2.2.2 i hi).trans (a.2.2.2 i hi)⟩
theorem FRd.sc {w : Int} {h g : Hp} (a : FRd h g) (hw : w < 27) : FSc w h g := ⟨fun c h1 h2 _ _ => a.1 c h1 h2, a.2.1, a.2.2, fun i _ => by rw [a.1 w (by omega) (by omega)]⟩
def FSm (h h' : Hp) : Prop := (∀ c, c ≠ 113 → c ≠ 114 → h' c = h c) ∧ ∀ i, (i < 21 ∨ 24 < i) → i ≠ 32 → h' 113 i = h 113 i
theorem FSm.tr {h g k : Hp} (a : FSm h g) (b : FSm g k) : FSm h k := ⟨fun c h1 h2 => (b.1 c h1 h2).trans (a.1 c h1 h2), fun i hi h2 => (b.2 i hi h2).trans (a.2 i hi h2)⟩
theorem FSm.rf {h : Hp} : FSm h h := ⟨fun _ _ _ => rfl, fun _ _ _ => rfl⟩
theorem FMr.sm {h g : Hp} (a : FMr h g) : FSm h g := ⟨fun c h1 _ => a.1 c h1, fun i hi _ => a.2 i hi⟩
section
variable {n : Nat}
theorem Rm.mv {h g : Hp} {T : Int → Int} {z : Int} {s : St3} (A : Rm h T z s) (e20 : g 113 20 = h 113 20) (e21 : g 113 21 = h 113 21) (e22 : g 113 22 = h 113 22) (e127 : g 127 = h 127) : Rm g T z s := ⟨e22.trans A.1, fun q => by
  have a := A.2.1 q
  exact a.st e127 e20 (e21.trans a.2.1) ⟨a.2.2.1.1, a.2.2.1.2.1⟩, A.2.2⟩
theorem set6 (hn : 1000 ≤ n) {T : Int → Int} {z w : Int} (hw : w = 1 ∨ w = 14) : ∀ (r f : Nat) (i : Int) (s : St3) (hc hm : Hp), i + r = 6 → r < f → 0 ≤ i → Rc hc T z s → Rm hm T z s → hc 29 7 = w → (s.1 = -1 → STR hc hm w) → ∃ hc' hm', BX6_readSetting_111 n f i hc = some hc' ∧ BX12_readsSetting_18 n f i hm = some hm' ∧ FSc w hc hc' ∧ FSm hm hm' ∧ hm' 113 32 = hm 113 32 ∧ Rc hc' T z (rdA T z r i s) ∧ Rm hm' T z (rdA T z r i s) ∧ ((rdA T z r i s).1 = -1 → STR hc' hm' w)
  | 0, f + 1, i, s, hc, hm, hi, hf, i0, A, B, e7, S => by
    rw [BX6_readSetting_111, BX12_readsSetting_18, if_pos (by omega), if_pos (by omega)]
    exact ⟨hc, hm, rfl, rfl, FSc.rf, FSm.rf, rfl, A, B, S⟩
  | r + 1, f + 1, i, s, hc, hm, hi, hf, i0, A, B, e7, S => by
    have main : ∀ b : Int, b = (if i < 3 then 5000 else 500) → ∃ hc' hm', JX6_readSetting_141 n (BX6_readSetting_111 n f) i (w + 1) i 1 b hc = some hc' ∧ JX12_readsSetting_45 n (BX12_readsSetting_18 n f) i 114 i 1 b hm = some hm' ∧ FSc w hc hc' ∧ FSm hm hm' ∧ hm' 113 32 = hm 113 32 ∧ Rc hc' T z (rdA T z (r + 1) i s) ∧ Rm hm' T z (rdA T z (r + 1) i s) ∧ ((rdA T z (r + 1) i s).1 = -1 → STR hc' hm' w) := fun b hb => by
      have hb2 : b ≤ 5000 := by
        rw [hb]
        split <;> decide
      obtain ⟨v, g, e1, F, R1, R2⟩ := readNumber_c hn (lo := 1) (hi := b) (by omega) A
      obtain ⟨u, k, e2, G, P1, P2⟩ := numU_m hn (lo := 1) (hi := b) (by decide) B
      have er : rdA T z (r + 1) i s = rdA T z r (i + 1) (rdU T z 1 b s).1 := by rw [hb]; rfl
      unfold JX6_readSetting_141 JX12_readsSetting_45
      rw [e1, bnd_s, e2, bnd_s, al68, al84, grd_t (by omega), grd_t (by omega), ltt_e, ltt_e, ltt_e, ltt_e, w32_i (x := i + 1) (by omega), er]
      have F' : FSc w hc (up g (w + 1) i v) := ⟨fun c h1 h2 h3 h4 => (up_row h4).trans (F.1 c h1 h2), fun j hj => (up_c (by omega)).trans (F.2.1 j hj), fun j hj => (up_c (by omega)).trans (F.2.2 j hj), fun j _ => (up_c (by omega)).trans (by rw [F.1 w (by omega) (by omega)])⟩
      have G' : FSm hm (up k 114 i u) := ⟨fun c h1 h2 => (up_row h2).trans (G.1 c h1), fun j hj _ => (up_c (by decide)).trans (G.2 j hj)⟩
      have R1' : Rc (up g (w + 1) i v) T z (rdU T z 1 b s).1 := R1.mv (up_row (by omega)) (up_row (by omega)) (up_c (by omega))
      have P1' : Rm (up k 114 i u) T z (rdU T z 1 b s).1 := P1.mv (up_c (by decide)) (up_c (by decide)) (up_c (by decide)) (up_row (by decide))
      obtain ⟨hc', hm', q1, q2, q3, q4, q5, q6, q7, q8⟩ := set6 hn hw r f (i + 1) (rdU T z 1 b s).1 (up g (w + 1) i v) (up k 114 i u) (by omega) (by omega) (by omega) R1' P1' ((up_c (by omega)).trans ((F.2.2 7 (by decide)).trans e7)) (fun ok => by
        have ok0 := rdU_ok ok
        have st := S ok0
        have bd := A.2.1 ok0
        have vv := rdU_v ok bd.1.2.2.1.2.1 bd.1.2.2.1.1
        have ev := R2 ok
        have eu := P2 ok
        refine ⟨fun j j0 j1 => ?_, ?_, ?_⟩
        · by_cases hj : j = i
          · rw [hj, up_s, up_s, ev, eu]
            rw [hb] at vv ⊢
            exact ⟨rfl, vv.1, vv.2⟩
          · rw [up_i hj, up_i hj, F.1 (w + 1) (by omega) (by omega), G.1 114 (by decide)]
            exact st.1 j j0 j1
        · rw [up_c (by omega), up_i (by omega), F.1 w (by omega) (by omega), G.1 114 (by decide)]
          exact st.2.1
        · rw [up_c (by omega), up_i (by omega), F.1 w (by omega) (by omega), G.1 114 (by decide)]
          exact st.2.2)
      exact ⟨hc', hm', q1, q2, F'.tr q3, G'.tr q4, q5.trans ((up_c (by decide)).trans (G.2 32 (by decide))), q6, q7, q8⟩
    rw [BX6_readSetting_111, BX12_readsSetting_18, if_neg (show ¬ 6 ≤ i by omega), if_neg (show ¬ 6 ≤ i by omega), e7]
    by_cases h3 : 3 ≤ i
    · rw [if_pos h3, if_pos h3]
      exact main 500 (by rw [if_neg (by omega)])
    · rw [if_neg h3, if_neg h3]
      exact main 5000 (by rw [if_pos (by omega)])
/-! which settings were told -/
def tbt (t k : Int) : Int := if k = 0 then t % 2 else if k = 1 then t / 2 % 2 else t / 4 % 2
theorem tbt_all : ((List.range 8).all fun t => (List.range 3).all fun k => decide (iand (ishr (Int.ofNat t) (Int.ofNat k)) 1 = tbt (Int.ofNat t) (Int.ofNat k)) && decide (0 ≤ ior (Int.ofNat t) (ishl 1 (Int.ofNat k)) ∧ ior (Int.ofNat t) (ishl 1 (Int.ofNat k)) < 8) && (List.range 3).all fun j => decide (tbt (ior (Int.ofNat t) (ishl 1 (Int.ofNat k))) (Int.ofNat j) = if j = k then 1 else tbt (Int.ofNat t) (Int.ofNat j))) = true := by decide +kernel
theorem tbt_ok {t k : Int} (t0 : 0 ≤ t) (t1 : t < 8) (k0 : 0 ≤ k) (k1 : k < 3) : iand (ishr t k) 1 = tbt t k ∧ (0 ≤ ior t (ishl 1 k) ∧ ior t (ishl 1 k) < 8) ∧ ∀ j, 0 ≤ j → j < 3 → tbt (ior t (ishl 1 k)) j = if j = k then 1 else tbt t j := by
  have h := List.all_eq_true.mp (List.all_eq_true.mp tbt_all t.toNat (List.mem_range.mpr (by omega))) k.toNat (List.mem_range.mpr (by omega))
  have e1 : Int.ofNat t.toNat = t := by
    show ((t.toNat : Nat) : Int) = t
    omega
  have e2 : Int.ofNat k.toNat = k := by
    show ((k.toNat : Nat) : Int) = k
    omega
  rw [e1, e2, Bool.and_eq_true, Bool.and_eq_true] at h
  refine ⟨of_decide_eq_true h.1.1, of_decide_eq_true h.1.2, fun j j0 j1 => ?_⟩
  have h3 := List.all_eq_true.mp h.2 j.toNat (List.mem_range.mpr (by omega))
  have e3 : Int.ofNat j.toNat = j := by
    show ((j.toNat : Nat) : Int) = j
    omega
  rw [e3] at h3
  have h4 := of_decide_eq_true h3
  rw [h4]
  by_cases hj : j = k
  · rw [if_pos hj, if_pos (by omega)]
  · rw [if_neg hj, if_neg (by omega)]
/-- a line of settings, both programs, behind its word -/
theorem sets (hn : 1000 ≤ n) {T : Int → Int} {z w k t : Int} (hw : w = 1 ∨ w = 14) (hk : 0 ≤ k ∧ k ≤ 2) {s : St3} {hc hm : Hp} (A : Rc hc T z s) (B : Rm hm T z s) (e7 : hc 29 7 = w) (S : STR hc hm w) (et : hm 113 32 = t) (tl : 0 ≤ t ∧ t < 8) : ∃ hc1 hc' hm', JX6_readSetting_57 n k hc = some hc1 ∧ JX6_readLine_65 n k hc1 = some (k, hc') ∧ MX12_readsSetting n k hm = some hm' ∧ (∀ c, c ≠ 27 → c ≠ 29 → c ≠ 38 → c ≠ w → c ≠ w + 1 → hc' c = hc c) ∧ (∀ i, i < 2 → hc' 27 i = hc 27 i) ∧ (∀ i, i ≠ 8 → hc' 29 i = hc 29 i) ∧ (∀ i, i < 9 ∨ 10 < i → hc' w i = hc w i) ∧ (∀ i, hc' 38 i = if i = k then 1 else hc 38 i) ∧ FSm hm hm' ∧ hm' 113 32 = ior t (ishl 1 k) ∧ Rc hc' T z (rdE T z (rdK T z k s)) ∧ Rm hm' T z (rdE T z (rdK T z k s)) ∧ ((rdE T z (rdK T z k s)).1 = -1 → STR hc' hm' w) := by
  have A1 : Rc (up hc 38 k (1 % 2)) T z s := A.mv (up_row (by decide)) (up_row (by decide)) (up_c (by decide))
  have B1 : Rm (up hm 113 32 (ior t (ishl 1 k))) T z s := B.mv (up_i (by decide)) (up_i (by decide)) (up_i (by decide)) (up_row (by decide))
  have S1 : STR (up hc 38 k (1 % 2)) (up hm 113 32 (ior t (ishl 1 k))) w := S.mv (up_row (by omega)) (up_c (by omega)) (up_c (by omega)) (up_row (by decide))
  have G1 : FSm hm (up hm 113 32 (ior t (ishl 1 k))) := ⟨fun c h1 _ => up_row h1, fun i _ h2 => up_i h2⟩
  have m1 : up hm 113 32 (ior t (ishl 1 k)) 113 32 = ior t (ishl 1 k) := up_s
  have e38 : ∀ i, up hc 38 k (1 % 2) 38 i = if i = k then 1 else hc 38 i := fun i => by
    by_cases hi : i = k
    · rw [hi, up_s, if_pos rfl]
      rfl
    · rw [up_i hi, if_neg hi]
  have c0 : ∀ c, c ≠ 38 → up hc 38 k (1 % 2) c = hc c := fun c hc' => up_row hc'
  have e71' : up hc 38 k (1 % 2) 29 7 = w := (up_c (by decide)).trans e7
  unfold JX6_readSetting_57 MX12_readsSetting
  rw [al46, grd_t (by omega), ltt_e, et, ltt_e, e71']
  generalize up hc 38 k (1 % 2) = hc1 at *
  generalize up hm 113 32 (ior t (ishl 1 k)) = hm1 at *
  have e71 : hc1 29 7 = w := by rw [c0 29 (by decide)]; exact e7
  -- what follows the numbers
  have fin : ∀ (s' : St3) (g : Hp) (k' : Hp), Rc g T z s' → Rm k' T z s' → FSc w hc1 g → FSm hm1 k' → k' 113 32 = hm1 113 32 → (s'.1 = -1 → STR g k' w) → s' = rdK T z k s → ∃ hc' hm', JX6_readLine_65 n k g = some (k, hc') ∧ MX12_ends n k' = some hm' ∧ (∀ c, c ≠ 27 → c ≠ 29 → c ≠ 38 → c ≠ w → c ≠ w + 1 → hc' c = hc c) ∧ (∀ i, i < 2 → hc' 27 i = hc 27 i) ∧ (∀ i, i ≠ 8 → hc' 29 i = hc 29 i) ∧ (∀ i, i < 9 ∨ 10 < i → hc' w i = hc w i) ∧ (∀ i, hc' 38 i = if i = k then 1 else hc 38 i) ∧ FSm hm hm' ∧ hm' 113 32 = ior t (ishl 1 k) ∧ Rc hc' T z (rdE T z (rdK T z k s)) ∧ Rm hm' T z (rdE T z (rdK T z k s)) ∧ ((rdE T z (rdK T z k s)).1 = -1 → STR hc' hm' w) := fun s' g k' a b F G e32 st es => by
    subst es
    obtain ⟨hc', q1, q2, q3⟩ := endLine_c (x := k) hn a
    obtain ⟨hm', p1, p2, p3⟩ := ends_m hn b
    have FF := F.tr (q2.sc (w := w) (by omega))
    refine ⟨hc', hm', q1, p1, fun c h1 h2 h3 h4 h5 => (FF.1 c h1 h2 h4 h5).trans (c0 c h3), fun i hi => (FF.2.1 i hi).trans (by rw [c0 27 (by decide)]), fun i hi => (FF.2.2.1 i hi).trans (by rw [c0 29 (by decide)]), fun i hi => (FF.2.2.2 i hi).trans (by rw [c0 w (by omega)]), fun i => by rw [FF.1 38 (by decide) (by decide) (by omega) (by omega)]; exact e38 i, (G1.tr G).tr p2.sm, ?_, q3, p3, fun ok => ?_⟩
    · rw [p2.2 32 (by decide), e32]
      exact m1
    · exact (st (rdE_ok ok)).mv (q2.1 (w + 1) (by omega) (by omega)) (by rw [q2.1 w (by omega) (by omega)]) (by rw [q2.1 w (by omega) (by omega)]) (p2.1 114 (by decide))
  by_cases k1 : k = 1
  · obtain ⟨v, g, e1, F, R1, R2⟩ := readNumber_c hn (lo := 1) (hi := 50) (by decide) A1
    obtain ⟨u, k', e2, G, P1, P2⟩ := numU_m hn (lo := 1) (hi := 50) (by decide) B1
    obtain ⟨hc', hm', r1, r2, r3⟩ := fin _ (up g w 9 v) (up k' 114 6 u) (R1.mv (up_row (by omega)) (up_row (by omega)) (up_c (by omega))) (P1.mv (up_c (by decide)) (up_c (by decide)) (up_c (by decide)) (up_row (by decide))) ⟨fun c h1 h2 h3 h4 => (up_row h3).trans (F.1 c h1 h2), fun j hj => (up_c (by omega)).trans (F.2.1 j hj), fun j hj => (up_c (by omega)).trans (F.2.2 j hj), fun j hj => (up_i (by omega)).trans (by rw [F.1 w (by omega) (by omega)])⟩ ⟨fun c h1 h2 => (up_row h2).trans (G.1 c h1), fun j hj _ => (up_c (by decide)).trans (G.2 j hj)⟩ ((up_c (by decide)).trans (G.2 32 (by decide))) (fun ok => by
      have ok0 := rdU_ok ok
      have bd := A1.2.1 ok0
      have vv := rdU_v ok bd.1.2.2.1.2.1 bd.1.2.2.1.1
      refine ⟨fun j j0 j1 => ?_, ?_, ?_⟩
      · rw [up_c (by omega), up_i (by omega), F.1 (w + 1) (by omega) (by omega), G.1 114 (by decide)]
        exact S1.1 j j0 j1
      · rw [up_s, up_s, R2 ok, P2 ok]
        exact ⟨rfl, vv⟩
      · rw [up_i (by decide), up_i (by decide), F.1 w (by omega) (by omega), G.1 114 (by decide)]
        exact S1.2.2) (by unfold rdK; rw [if_neg (by omega), if_pos k1])
    rw [if_neg (fun q => q k1), e1, bnd_s, ltt_e, ltt_e, if_pos (show k ≠ 0 by omega), if_pos (show k ≠ 2 by omega), e2, bnd_s, al84, grd_t (by decide), ltt_e, r2, bndh_s]
    exact ⟨_, hc', hm', rfl, r1, rfl, r3⟩
  · by_cases k2 : k = 2
    · obtain ⟨v, g, e1, F, R1, R2⟩ := readNumber_c hn (lo := 0) (hi := 2000) (by decide) A1
      obtain ⟨u, k', e2, G, P1, P2⟩ := numU_m hn (lo := 0) (hi := 2000) (by decide) B1
      obtain ⟨hc', hm', r1, r2, r3⟩ := fin _ (up g w 10 v) (up k' 114 7 u) (R1.mv (up_row (by omega)) (up_row (by omega)) (up_c (by omega))) (P1.mv (up_c (by decide)) (up_c (by decide)) (up_c (by decide)) (up_row (by decide))) ⟨fun c h1 h2 h3 h4 => (up_row h3).trans (F.1 c h1 h2), fun j hj => (up_c (by omega)).trans (F.2.1 j hj), fun j hj => (up_c (by omega)).trans (F.2.2 j hj), fun j hj => (up_i (by omega)).trans (by rw [F.1 w (by omega) (by omega)])⟩ ⟨fun c h1 h2 => (up_row h2).trans (G.1 c h1), fun j hj _ => (up_c (by decide)).trans (G.2 j hj)⟩ ((up_c (by decide)).trans (G.2 32 (by decide))) (fun ok => by
        have ok0 := rdU_ok ok
        have bd := A1.2.1 ok0
        have vv := rdU_v ok bd.1.2.2.1.2.1 bd.1.2.2.1.1
        refine ⟨fun j j0 j1 => ?_, ?_, ?_⟩
        · rw [up_c (by omega), up_i (by omega), F.1 (w + 1) (by omega) (by omega), G.1 114 (by decide)]
          exact S1.1 j j0 j1
        · rw [up_i (by decide), up_i (by decide), F.1 w (by omega) (by omega), G.1 114 (by decide)]
          exact S1.2.1
        · rw [up_s, up_s, R2 ok, P2 ok]
          exact ⟨rfl, vv⟩) (by unfold rdK; rw [if_neg (by omega), if_neg k1])
      rw [if_pos k1, if_neg (fun q => q k2), e1, bnd_s, ltt_e, ltt_e, if_pos (show k ≠ 0 by omega), if_neg (show ¬ k ≠ 2 from fun q => q k2), e2, bnd_s, al84, grd_t (by decide), ltt_e, r2, bndh_s]
      exact ⟨_, hc', hm', rfl, r1, rfl, r3⟩
    · have k0 : k = 0 := by omega
      obtain ⟨g, k', e1, e2, F, G, e32, R1, P1, st⟩ := set6 hn hw 6 n 0 s hc1 hm1 (by decide) (by omega) (by decide) A1 B1 e71 (fun _ => S1)
      obtain ⟨hc', hm', r1, r2, r3⟩ := fin _ g k' R1 P1 F G e32 st (by unfold rdK; rw [if_pos k0])
      unfold LX6_readSetting_111 LX12_readsSetting_18
      rw [if_pos k1, if_pos k2, ltt_e, ltt_e, if_neg (show ¬ k ≠ 0 from fun q => q k0), e1, e2, bndx_s]
      show ∃ hc1 hc' hm', some g = some hc1 ∧ _ ∧ JX12_readsSetting_55 n k' = some hm' ∧ _
      unfold JX12_readsSetting_55
      rw [r2, bndh_s]
      exact ⟨g, hc', hm', rfl, r1, rfl, r3⟩
end
