theorem rst_0 {m : Hp} (H : WFp m) : RSt m 0 0 0 := by
  have hj := H.2.2.1
  have E := env_ok H (tol := 0) (p := 1) hj
  have hR := E.2.2.1
  have hA := AL_bd E
  refine ⟨⟨by omega, by decide, Or.inl (by decide)⟩, by omega, by decide, Or.inl (by decide), by decide, ?_, Or.inr ⟨rfl, rfl⟩⟩
  rw [far_rest]
  omega
theorem pv_up {g : Hp} {v : Int} : pv (up g 113 20 v) = pv g := by
  funext c i
  unfold pv
  rw [lnP_of (g := g) (up_ne (by decide)), bgP_e (g := g) (up_ne (by decide)), up_ne (b := 114) (by decide), up_ne (b := 119) (by decide), up_ne (b := 120) (by decide), up_ne (b := 121) (by decide), up_i (j := 2) (by decide), up_i (j := 3) (by decide), up_i (j := 4) (by decide)]
theorem q_program {n : Nat} {h : Hp} (hn : 2600 ≤ n) (I : Inv h) : ∃ v h1 h2, MX11_program n h = some (v, h1) ∧ MX12_program n h1 = some (v, h2) ∧ Inv h2 ∧ SE h h1 ∧ SE h h2 := by
  have hw := I.w
  have hW : h 0 3 = 1 ∨ h 0 3 = 14 := by omega
  obtain ⟨v, hc, hm, e1, e2, e3, e4, FB, FM, PF⟩ := read_cm (n := n) (by omega) hW I.tp
  have fB : ∀ c, c ≠ 27 → (c < 29 ∨ 38 < c) → (c < h 0 3 ∨ h 0 3 + 12 < c) → hc c = h c := fun c c0 c1 c2 => FB.1 c c0 (by omega) (by omega) c2
  have b0 : hc 0 = h 0 := fB 0 (by decide) (by decide) (by omega)
  by_cases hv : v = -1
  · subst hv
    have P := PF rfl
    have H0 : WFp (pv hm) := P.1
    have k4 : ∀ c, c ≠ 0 → c ≠ 27 → up (up (up hc 27 1 0) 0 3 (up hc 27 1 0 0 2)) 0 2 (up hc 27 1 0 0 3) c = hc c := fun c c0 c1 => by rw [up_ne c0, up_ne c0, up_ne c1]
    have z2 : up (up (up hc 27 1 0) 0 3 (up hc 27 1 0 0 2)) 0 2 (up hc 27 1 0 0 3) 0 2 = h 0 3 := by rw [up_at, up_ne (by decide), b0]
    have z3 : up (up (up hc 27 1 0) 0 3 (up hc 27 1 0 0 2)) 0 2 (up hc 27 1 0 0 3) 0 3 = h 0 2 := by rw [up_i (by decide), up_at, up_ne (by decide), b0]
    have z4 : up (up (up hc 27 1 0) 0 3 (up hc 27 1 0 0 2)) 0 2 (up hc 27 1 0 0 3) 27 1 = 0 := by rw [up_ne (by decide), up_ne (by decide), up_at]
    generalize eg4 : up (up (up hc 27 1 0) 0 3 (up hc 27 1 0 0 2)) 0 2 (up hc 27 1 0 0 3) = h4 at k4 z2 z3 z4
    have kh : ∀ c, c ≠ 0 → (c < 27 ∨ 38 < c) → (c < h 0 3 ∨ h 0 3 + 12 < c) → h4 c = h c := fun c c0 c1 c2 => by rw [k4 c c0 (by omega), fB c (by omega) (by omega) c2]
    have F4 : FC h4 50 (h4 50 2) := by
      rw [kh 50 (by decide) (by decide) (by omega), I.dr.2.2]
      exact I.f5.mv (kh 51 (by decide) (by decide) (by omega))
    have an : ∀ m : Hp, RW m hc (h 0 3) → RW m h4 (h 0 3) := fun m R => R.mv (fun c c0 c1 => k4 c (by omega) (by omega))
    obtain ⟨h1, a1, a2, -⟩ := anew_c hn H0 hW z2 (an _ P.2.1) F4
    have kh1 : ∀ c, c ≠ 0 → (c < 27 ∨ 55 < c) → (c < h 0 3 ∨ h 0 3 + 12 < c) → c ≠ 64 → c ≠ 66 → c ≠ 92 → h1 c = h c := fun c c0 c1 c2 c3 c4 c5 => by rw [a2 c (by omega) c3 c4 c5, kh c c0 (by omega) c2]
    have hi : ∀ c, 113 ≤ c → h1 c = h c := fun c c0 => kh1 c (by omega) (by omega) (by omega) (by omega) (by omega) (by omega)
    -- the model, after the class
    obtain ⟨v', hc', hm', e1', e2', e3', -, -, FM', PF'⟩ := read_cm (n := n) (by omega) hW (I.tp.mv (m' := h1) rfl rfl (by rw [hi 113 (by decide)]) (hi 127 (by decide)))
    rw [e1] at e1'
    have ev := congrArg Prod.fst (Option.some.inj e1')
    have ec := congrArg Prod.snd (Option.some.inj e1')
    have ev' : (-1 : Int) = v' := ev
    have ec' : hc = hc' := ec
    subst ev'
    subst ec'
    have P' := PF' rfl
    have H1 : WFp (pv (up hm' 113 20 0)) := by rw [pv_up]; exact P'.1
    obtain ⟨m2, x2, C⟩ := copies_m (n := n) (by omega) H1
    have S := C.sm
    rw [pv_up] at S
    have H2 : WFp m2 := S.wf P'.1
    have R2 : RW m2 hc (h 0 3) := S.rw P'.1 P'.2.1
    obtain ⟨h1', y1, -, y3, y4, y5, y6, y7⟩ := anew_c hn H2 hW z2 (an _ R2) F4
    rw [a1] at y1
    have y1' := Option.some.inj y1
    subst y1'
    obtain ⟨c1, c2, ⟨c5, c6, c7⟩, ⟨d45, d47, d42, d43, d44, d46, d54⟩, -, -, -, -, c9⟩ := C
    have lo : ∀ c, c < 113 → m2 c = h1 c := fun c c0 => by rw [c1 c (by omega) (by omega) (by omega) (by omega), up_ne (by omega), FM'.1 c (by omega) (by omega) (by omega) (by omega) (by omega) (by omega) (by omega)]
    have w0 : h1 0 = h4 0 := a2 0 (by decide) (by decide) (by decide) (by decide)
    have w2 : m2 0 2 = h 0 3 := by rw [lo 0 (by decide), w0, z2]
    have w3 : m2 0 3 = h 0 2 := by rw [lo 0 (by decide), w0, z3]
    have h127 : m2 143 = h 143 ∧ m2 144 = h 144 := ⟨by rw [c1 143 (by decide) (by decide) (by decide) (by decide), up_ne (by decide), FM'.1 143 (by decide) (by decide) (by decide) (by decide) (by decide) (by decide) (by decide), hi 143 (by decide)], by rw [c1 144 (by decide) (by decide) (by decide) (by decide), up_ne (by decide), FM'.1 144 (by decide) (by decide) (by decide) (by decide) (by decide) (by decide) (by decide), hi 144 (by decide)]⟩
    have se1 : SE h h1 := SE.fr (fun c c0 => kh1 c (by omega) (by omega) (by omega) (by omega) (by omega) (by omega))
    have se2 : SE h1 m2 := SE.fr (fun c c0 => lo c (by omega))
    refine ⟨m2 113 6, h1, m2, ?_, ?_, mkInv H2 ?_ ?_ ?_ ?_ ?_ ?_ ?_ ?_ ?_ ?_ ?_ ?_ ?_, se1, se1.tr se2⟩
    · unfold MX11_program
      rw [e1, bnd_s, ltt_e, ltt_e, if_pos rfl, ltt_e, ltt_e, eg4, a1, bndh_s]
      have q : h1 (h1 0 2) 11 = m2 113 6 := by
        rw [w0, z2]
        exact y3.1.2.1.1.2.2.1
      rw [q]
    · rw [e2']
      unfold JX12_program_46
      rw [ltt_e, isRight_m, bndp_s, if_pos (by rw [up_i (by decide), e3', if_pos rfl]; decide), x2, bndh_s]
    · exact ⟨by rw [d45]; decide, Or.inl d47, by rw [d42, d43, d44]; exact rst_0 H2⟩
    · exact ⟨by rw [d54]; decide, fun k k0 k1 => by rw [d54] at k1; omega⟩
    · exact fun k k0 k1 => ⟨Or.inl (c9 k k0 k1), fun q => by rw [c9 k k0 k1] at q; exact absurd q (by decide)⟩
    · rw [w2, w3]
      omega
    · have Q : CDr m2 h1 := ⟨by rw [w0, z2, d45]; exact y3.1, by rw [d45]; exact y3.2.1, y3.2.2⟩
      exact Q.mv (by rw [w0, z2]; exact hW) rfl rfl (by rw [lo 0 (by decide)]) (fun c c0 c3 => lo c (by rw [w0, z2] at c3; omega)) (fun c _ _ _ => lo c (by omega)) (Q.1.2.2.2.2.2.mv (lo _ (by decide)))
    · exact I.tr.mv (by rw [lo 57 (by decide), kh1 57 (by decide) (by decide) (by omega) (by decide) (by decide) (by decide)]) (by rw [lo 58 (by decide), kh1 58 (by decide) (by decide) (by omega) (by decide) (by decide) (by decide)])
    · have Q : CNw m2 h1 := ⟨by rw [d42, d43, d44]; exact y5.1, by rw [d45]; exact y5.2.1, by rw [d47]; exact y5.2.2.1, by rw [d46]; exact y5.2.2.2⟩
      exact Q.mv rfl (fun _ _ _ => rfl) (fun i _ _ => by rw [lo 64 (by decide)])
    · refine ⟨by rw [lo 66 (by decide), d54]; exact y6.1, by rw [lo 66 (by decide), y6.2, kh 66 (by decide) (by decide) (by omega)]; exact I.rg.2.1, fun k k0 k1 => by rw [d54] at k1; omega⟩
    · exact fun k k0 k1 => ⟨by rw [lo 92 (by decide), c9 k k0 k1]; exact y7 k k0 k1, fun q => by rw [c9 k k0 k1] at q; exact absurd q (by decide)⟩
    · rw [w2]
      exact y4.mv2 rfl (fun c _ _ => lo c (by omega))
    · exact I.rk.mv h127.1 h127.2 (fun c c0 c1 => by rw [lo c (by omega), kh1 c (by omega) (by omega) (by omega) (by omega) (by omega) (by omega)])
    · exact I.rl.mv (by rw [lo 110 (by decide), kh1 110 (by decide) (by decide) (by omega) (by decide) (by decide) (by decide)]) (by rw [lo 111 (by decide), kh1 111 (by decide) (by decide) (by omega) (by decide) (by decide) (by decide)])
    · have t1 : m2 27 1 = 0 := by rw [lo 27 (by decide), a2 27 (by decide) (by decide) (by decide) (by decide), z4]
      have t2 : m2 113 20 = 0 := by rw [c2 20 (by decide) (by decide) (by decide), up_at]
      exact ⟨by rw [t1]; decide, by rw [t1, t2], fun i i0 i1 => by rw [t1] at i1; omega⟩
  · have k1 : ∀ c, c ≠ 27 → up hc 27 1 0 c = hc c := fun c c0 => up_ne c0
    have hi : ∀ c, 113 ≤ c → up hc 27 1 0 c = h c := fun c c0 => by rw [k1 c (by omega), fB c (by omega) (by omega) (by omega)]
    obtain ⟨v', hc', hm', e1', e2', e3', -, -, FM', -⟩ := read_cm (n := n) (by omega) hW (I.tp.mv (m' := up hc 27 1 0) rfl rfl (by rw [hi 113 (by decide)]) (hi 127 (by decide)))
    rw [e1] at e1'
    have ev : v = v' := congrArg Prod.fst (Option.some.inj e1')
    have ec : hc = hc' := congrArg Prod.snd (Option.some.inj e1')
    subst ev
    subst ec
    have M : ∀ c, c ≠ 113 → c ≠ 114 → (c < 116 ∨ 121 < c) → c ≠ 128 → c ≠ 129 → c ≠ 130 → c ≠ 131 → up hm' 113 20 0 c = up hc 27 1 0 c := fun c c0 c1 c2 c3 c4 c5 c6 => by rw [up_ne c0, FM'.1 c c0 c1 c2 c3 c4 c5 c6]
    have Mf : ∀ i, i ≠ 20 → i ≠ 2 → i ≠ 3 → i ≠ 4 → (i < 21 ∨ 27 < i) → i ≠ 30 → i ≠ 32 → i ≠ 33 → up hm' 113 20 0 113 i = h 113 i := fun i i0 i1 i2 i3 i4 i5 i6 i7 => by rw [up_i i0, FM'.2 i i1 i2 i3 i4 i5 i6 i7, hi 113 (by decide)]
    have Mc : ∀ c, c < 113 → up hm' 113 20 0 c = up hc 27 1 0 c := fun c c0 => M c (by omega) (by omega) (by omega) (by omega) (by omega) (by omega) (by omega)
    have Mh : ∀ c, 113 < c → c ≠ 114 → (c < 116 ∨ 121 < c) → c ≠ 128 → c ≠ 129 → c ≠ 130 → c ≠ 131 → up hm' 113 20 0 c = h c := fun c c0 c1 c2 c3 c4 c5 c6 => by rw [M c (by omega) c1 c2 c3 c4 c5 c6, hi c (by omega)]
    have z20 : up hm' 113 20 0 113 20 = 0 := up_at
    have e3'' : up hm' 113 20 0 113 22 = v := by rw [up_i (by decide), e3']
    have L : ∀ c, c < 113 → (c < 27 ∨ 38 < c) → (c < h 0 3 ∨ h 0 3 + 12 < c) → up hm' 113 20 0 c = h c := fun c c0 c1 c2 => by rw [Mc c c0, k1 c (by omega), fB c (by omega) (by omega) c2]
    have t1 : up hm' 113 20 0 27 1 = 0 := by rw [Mc 27 (by decide), up_at]
    have em : MX12_program n (up hc 27 1 0) = some (w32 (-2 - v), up hm' 113 20 0) := by
      rw [e2']
      unfold JX12_program_46
      rw [ltt_e, isRight_m, bndp_s, e3'', if_neg hv, if_neg (by decide)]
    generalize up hm' 113 20 0 = h2 at M Mf Mc Mh z20 e3'' L t1 em
    have ep : pg h2 = pg h := pg_of (Mf 5 (by decide) (by decide) (by decide) (by decide) (by decide) (by decide) (by decide) (by decide)) (Mf 6 (by decide) (by decide) (by decide) (by decide) (by decide) (by decide) (by decide) (by decide)) (Mf 7 (by decide) (by decide) (by decide) (by decide) (by decide) (by decide) (by decide) (by decide)) (Mh _ (by decide) (by decide) (by decide) (by decide) (by decide) (by decide) (by decide)) (Mh _ (by decide) (by decide) (by decide) (by decide) (by decide) (by decide) (by decide)) (Mh _ (by decide) (by decide) (by decide) (by decide) (by decide) (by decide) (by decide)) (Mh _ (by decide) (by decide) (by decide) (by decide) (by decide) (by decide) (by decide)) (Mh _ (by decide) (by decide) (by decide) (by decide) (by decide) (by decide) (by decide)) (Mh _ (by decide) (by decide) (by decide) (by decide) (by decide) (by decide) (by decide))
    have st : ∀ i, 42 ≤ i → i ≤ 54 → h2 113 i = h 113 i := fun i i0 i1 => Mf i (by omega) (by omega) (by omega) (by omega) (by omega) (by omega) (by omega) (by omega)
    have M138 := Mh 138 (by decide) (by decide) (by decide) (by decide) (by decide) (by decide) (by decide)
    have M146 := Mh 146 (by decide) (by decide) (by decide) (by decide) (by decide) (by decide) (by decide)
    have M147 := Mh 147 (by decide) (by decide) (by decide) (by decide) (by decide) (by decide) (by decide)
    refine ⟨w32 (-2 - v), up hc 27 1 0, h2, ?_, em, mkInv (pg_wf2 ep I.wf) (I.mnw.mv ep fun i i0 i1 _ => st i i0 (by omega)) (I.mrg.mv ep (st 54 (by decide) (by decide)) M138) (I.mmg.mv ep M146 M147) (by rw [L 0 (by decide) (by decide) (by omega)]; exact I.w) ?_ ?_ ?_ ?_ ?_ ?_ ?_ ?_ ?_, SE.fr (fun c c0 => by rw [k1 c (by omega), fB c (by omega) (by omega) (by omega)]), SE.fr (fun c c0 => L c (by omega) (by omega) (by omega))⟩
    · unfold MX11_program
      rw [e1, bnd_s, ltt_e, ltt_e, if_neg hv]
    · exact I.dr.mv I.w.1 ep (st 45 (by decide) (by decide)) (by rw [L 0 (by decide) (by decide) (by omega)]) (fun c c0 c1 => L c (by omega) (by omega) (by omega)) (fun c c0 c1 _ => L c (by omega) (by omega) (by omega)) (I.f5.mv (L _ (by decide) (by decide) (by omega)))
    · exact I.tr.mv (by rw [L 57 (by decide) (by decide) (by omega)]) (L _ (by decide) (by decide) (by omega))
    · exact I.nw.mv ep (fun i i0 i1 => st i i0 (by omega)) (fun i _ _ => by rw [L 64 (by decide) (by decide) (by omega)])
    · exact I.rg.mv ep (st 54 (by decide) (by decide)) M138 (fun c c0 c1 => L c (by omega) (by omega) (by omega))
    · exact I.mg.mv ep M146 M147 (fun c c0 c1 => L c (by omega) (by omega) (by omega))
    · rw [L 0 (by decide) (by decide) (by omega)]
      exact I.sh.mv2 ep (fun c c0 c1 => L c (by omega) (by omega) (by omega))
    · exact I.rk.mv (Mh _ (by decide) (by decide) (by decide) (by decide) (by decide) (by decide) (by decide)) (Mh _ (by decide) (by decide) (by decide) (by decide) (by decide) (by decide) (by decide)) (fun c c0 c1 => L c (by omega) (by omega) (by omega))
    · exact I.rl.mv (L _ (by decide) (by decide) (by omega)) (L _ (by decide) (by decide) (by omega))
    · exact ⟨by rw [t1]; decide, by rw [t1, z20], fun i i0 i1 => by rw [t1] at i1; omega⟩
