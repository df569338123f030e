/-! THE CLASS'S SHAPE. -/
/-- the class's shape is that of the way w, which holds m's program -/
def RSh (m h : Hp) (w : Int) : Prop := h 39 0 = w ∧ CSp m h (spT m) ∧ CFi m h (nB m).toNat ∧ CLy m h (nB m).toNat (lyR m (nB m).toNat) ∧ CM h (mtA m)
theorem RSh.mv {m g h : Hp} {w : Int} (R : RSh m g w) (hc : ∀ c, 39 ≤ c → c ≤ 49 → h c = g c) : RSh m h w := by
  unfold RSh CSp CFi CLy CM at *
  rw [hc 39 (by decide) (by decide), hc (41 + 0) (by decide) (by decide), hc (41 + 1) (by decide) (by decide), hc (41 + 2) (by decide) (by decide), hc 44 (by decide) (by decide), hc 46 (by decide) (by decide), hc 47 (by decide) (by decide), hc 48 (by decide) (by decide), hc 49 (by decide) (by decide)]
  exact R
theorem look_c {n : Nat} {m g : Hp} (hn : 200 ≤ n) (H : WFp m) {w : Int} (hw : w = 1 ∨ w = 14) (R : RW m g w) : ∃ h', MX7_look n w g = some h' ∧ (∀ c, c < 39 ∨ 49 < c → h' c = g c) ∧ RSh m h' w := by
  have F0 : ∀ c, c < 39 ∨ 49 < c → up g 39 0 w c = g c := fun c hc => up_row (by omega)
  have R0 : RW m (up g 39 0 w) w := R.mv (fun c c1 c2 => F0 c (by omega))
  obtain ⟨h1, e1, K1, S1, O1⟩ := findSpots_c (n := n) (by omega) H hw R0 up_s
  have z1 : h1 39 0 = w := K1.2.trans up_s
  have R1 := K1.rw' R0 (by omega)
  obtain ⟨h2, e2, K2, S2⟩ := findFirsts_c (n := n) (by omega) H hw R1 z1 O1
  have z2 : h2 39 0 = w := K2.1.2.trans z1
  have R2 := K2.1.rw' R1 (by omega)
  obtain ⟨h3, e3, K3, S3⟩ := findLayers_c hn H hw R2 z2
  have z3 : h3 39 0 = w := K3.1.2.trans z2
  have R3 := K3.1.rw' R2 (by omega)
  obtain ⟨h4, e4, K4, S4⟩ := findMeetings_c hn H hw R3 z3
  have z4 : h4 39 0 = w := K4.ks.2.trans z3
  refine ⟨h4, ?_, fun c hc => ?_, z4, ?_, ?_, ?_, S4⟩
  · unfold MX7_look
    rw [ltt_e, e1, bndh_s, e2, bndh_s, e3, bndh_s, e4, bndh_s]
  · rw [K4.ks.1 c hc, K3.1.1 c hc, K2.1.1 c hc, K1.1 c hc, F0 c hc]
  · have a := K2.sp S1
    have b : CSp m h3 (spT m) := a.mv (fun c c1 c2 => K3.2.1 c (by omega) (by omega) (by omega) (by omega)) (K3.2.2 4 (by decide))
    exact b.mv (fun c c1 c2 => K4.1 c (by omega)) (K4.2 4 (by decide) (by decide) (by decide))
  · unfold CFi at *
    rw [K4.1 46 (by decide), K4.2 6 (by decide) (by decide) (by decide), K3.2.1 46 (by decide) (by decide) (by decide) (by decide), K3.2.2 6 (by decide)]
    exact S2
  · unfold CLy at *
    rw [K4.1 47 (by decide), K4.1 48 (by decide), K4.1 49 (by decide), K4.2 10 (by decide) (by decide) (by decide)]
    exact S3
