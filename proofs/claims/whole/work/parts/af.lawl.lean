/-! THE LAW holds, whatever the script. -/
theorem law_l {n : Nat} (hn : 5000 ≤ n) {N : Int} (hN : 0 ≤ N ∧ N ≤ 3072) : ∀ (r f : Nat) (x : Int) (h : Hp), N - x ≤ (r : Int) → r < f → 0 ≤ x → x ≤ 4000 → Inv h → h (-1) 1 = N → ∃ h', BL_law_18 n f x h = some (1, h')
  | r, f + 1, x, h, hr, hf, x0, x1, I, e => by
    have ew : w32 (N - 6) = N - 6 := w32_i (by omega)
    by_cases hs : N - 6 < x
    · exact ⟨h, by rw [BL_law_18, e, ew, if_pos hs]⟩
    have go : ∀ h2, Inv h2 → SE h h2 → ∃ h', BL_law_18 n f (x + 6) h2 = some (1, h') := fun h2 J s => by
      match r, hr with
      | 0, hr => omega
      | r + 1, hr => exact law_l hn hN r f (x + 6) h2 (by omega) (by omega) (by omega) (by omega) J (by rw [s.1]; exact e)
    rw [BL_law_18, e, ew, if_neg hs, w32_i (x := x + 1) (by omega), w32_i (x := x + 2) (by omega), w32_i (x := x + 3) (by omega), w32_i (x := x + 4) (by omega), w32_i (x := x + 5) (by omega), w32_i (x := x + 6) (by omega), grd_t (by omega)]
    generalize iand (h (-2) x) 63 = c
    by_cases k0 : c = 0
    · obtain ⟨v, h1, h2, e1, e2, J, s1, s2⟩ := (q_feed (n := n) (by omega) (h (-2) (x + 1)) (h (-2) (x + 2)) (h (-2) (x + 3)) (h (-2) (x + 4)) (h (-2) (x + 5))).run I
      rw [if_pos k0, grd_t (by omega), grd_t (by omega), grd_t (by omega), grd_t (by omega), grd_t (by omega), e1, bnd_s, s1.1, e, s1.2, grd_t (by omega), grd_t (by omega), grd_t (by omega), grd_t (by omega), grd_t (by omega), e2, bnd_s, if_pos rfl, ltt_e]
      exact go h2 J s2
    rw [if_neg k0]
    by_cases k1 : c = 1
    · obtain ⟨v, h1, h2, e1, e2, J, s1, s2⟩ := (q_end (h (-2) (x + 1))).run I
      rw [if_pos k1, grd_t (by omega), e1, bnd_s, s1.1, e, s1.2, grd_t (by omega), e2, bnd_s, if_pos rfl, ltt_e]
      exact go h2 J s2
    rw [if_neg k1]
    by_cases k2 : c = 2
    · obtain ⟨v, h1, h2, e1, e2, J, s1, s2⟩ := q_program (n := n) (by omega) I
      rw [if_pos k2, e1, bnd_s, e2, bnd_s, if_pos rfl, ltt_e]
      exact go h2 J s2
    rw [if_neg k2]
    by_cases k3 : c = 3
    · obtain ⟨v, h1, h2, e1, e2, J, s1, s2⟩ := q_block (n := n) (by omega) I (h (-2) (x + 1)) (h (-2) (x + 2))
      rw [if_pos k3, grd_t (by omega), grd_t (by omega), e1, bnd_s, s1.1, e, s1.2, grd_t (by omega), grd_t (by omega), e2, bnd_s, if_pos rfl, ltt_e]
      exact go h2 J s2
    rw [if_neg k3]
    by_cases k4 : c = 4
    · obtain ⟨v, h2, e1, e2, J, s2⟩ := q_corner (n := n) (by omega) I (h (-2) (x + 1)) (h (-2) (x + 2))
      rw [if_pos k4, grd_t (by omega), grd_t (by omega), e1, bndp_s, grd_t (by omega), grd_t (by omega), e2, bnd_s, if_pos rfl, ltt_e]
      exact go h2 J s2
    rw [if_neg k4]
    by_cases k5 : c = 5
    · obtain ⟨v, h1, h2, e1, e2, J, s1, s2⟩ := (q_ticks (n := n) hn (h (-2) (x + 1))).run I
      rw [if_pos k5, grd_t (by omega), e1, bnd_s, s1.1, e, s1.2, grd_t (by omega), e2, bnd_s, if_pos rfl, ltt_e]
      exact go h2 J s2
    rw [if_neg k5]
    by_cases k6 : c = 6
    · obtain ⟨v, h1, h2, e1, e2, J, s1, s2⟩ := (q_give (n := n) (by omega) (h (-2) (x + 1))).run I
      rw [if_pos k6, grd_t (by omega), e1, bnd_s, s1.1, e, s1.2, grd_t (by omega), e2, bnd_s, if_pos rfl, ltt_e]
      exact go h2 J s2
    rw [if_neg k6]
    by_cases k7 : c = 7
    · obtain ⟨v, h1, h2, e1, e2, J, s1, s2⟩ := (q_hold (n := n) (by omega) ).run I
      rw [if_pos k7, e1, bnd_s, e2, bnd_s, if_pos rfl, ltt_e]
      exact go h2 J s2
    rw [if_neg k7]
    by_cases k8 : c = 8
    · obtain ⟨v, h1, h2, e1, e2, J, s1, s2⟩ := (q_letGo (n := n) (by omega) ).run I
      rw [if_pos k8, e1, bnd_s, e2, bnd_s, if_pos rfl, ltt_e]
      exact go h2 J s2
    rw [if_neg k8]
    by_cases k9 : c = 9
    · obtain ⟨v, h1, h2, e1, e2, J, s1, s2⟩ := (q_undo (n := n) (by omega) ).run I
      rw [if_pos k9, e1, bnd_s, e2, bnd_s, if_pos rfl, ltt_e]
      exact go h2 J s2
    rw [if_neg k9]
    by_cases k10 : c = 10
    · obtain ⟨v, h2, e1, e2, J, s2⟩ := q_where (n := n) (by omega) I (h (-2) (x + 1))
      rw [if_pos k10, grd_t (by omega), e1, bndp_s, grd_t (by omega), e2, bnd_s, if_pos rfl, ltt_e]
      exact go h2 J s2
    rw [if_neg k10]
    by_cases k11 : c = 11
    · obtain ⟨v, h2, e1, e2, J, s2⟩ := q_place (n := n) (by omega) I (h (-2) (x + 1)) (h (-2) (x + 2))
      rw [if_pos k11, grd_t (by omega), grd_t (by omega), e1, bndp_s, grd_t (by omega), grd_t (by omega), e2, bnd_s, if_pos rfl, ltt_e]
      exact go h2 J s2
    rw [if_neg k11]
    by_cases k12 : c = 12
    · obtain ⟨v, h1, h2, e1, e2, J, s1, s2⟩ := (q_ahead (n := n) hn (h (-2) (x + 1)) (h (-2) (x + 2))).run I
      rw [if_pos k12, grd_t (by omega), grd_t (by omega), e1, bnd_s, s1.1, e, s1.2, grd_t (by omega), grd_t (by omega), e2, bnd_s, if_pos rfl, ltt_e]
      exact go h2 J s2
    rw [if_neg k12]
    by_cases k13 : c = 13
    · obtain ⟨v, h1, h2, e1, e2, J, s1, s2⟩ := (q_till (n := n) hn ).run I
      rw [if_pos k13, e1, bnd_s, e2, bnd_s, if_pos rfl, ltt_e]
      exact go h2 J s2
    rw [if_neg k13]
    by_cases k14 : c = 14
    · obtain ⟨v, h1, h2, e1, e2, J, s1, s2⟩ := (q_tried (n := n) hn (h (-2) (x + 1)) (h (-2) (x + 2))).run I
      rw [if_pos k14, grd_t (by omega), grd_t (by omega), e1, bnd_s, s1.1, e, s1.2, grd_t (by omega), grd_t (by omega), e2, bnd_s, if_pos rfl, ltt_e]
      exact go h2 J s2
    rw [if_neg k14]
    by_cases k15 : c = 15
    · obtain ⟨v, h1, h2, e1, e2, J, s1, s2⟩ := (q_slowest (n := n) hn (h (-2) (x + 1))).run I
      rw [if_pos k15, grd_t (by omega), e1, bnd_s, s1.1, e, s1.2, grd_t (by omega), e2, bnd_s, if_pos rfl, ltt_e]
      exact go h2 J s2
    rw [if_neg k15]
    by_cases k16 : c = 16
    · obtain ⟨v, h1, h2, e1, e2, J, s1, s2⟩ := (q_brakes (n := n) hn (h (-2) (x + 1))).run I
      rw [if_pos k16, grd_t (by omega), e1, bnd_s, s1.1, e, s1.2, grd_t (by omega), e2, bnd_s, if_pos rfl, ltt_e]
      exact go h2 J s2
    rw [if_neg k16]
    by_cases k17 : c = 17
    · obtain ⟨v, h1, h2, e1, e2, J, s1, s2⟩ := q_least (n := n) (by omega) I (h (-2) (x + 1)) (h (-2) (x + 2))
      rw [if_pos k17, grd_t (by omega), grd_t (by omega), e1, bnd_s, s1.1, e, s1.2, grd_t (by omega), grd_t (by omega), e2, bnd_s, if_pos rfl, ltt_e]
      exact go h2 J s2
    rw [if_neg k17]
    by_cases k18 : c = 18
    · obtain ⟨v, h2, e1, e2, J, s2⟩ := q_spots (n := n) (by omega) I
      rw [if_pos k18, e1, bndp_s, e2, bnd_s, if_pos rfl, ltt_e]
      exact go h2 J s2
    rw [if_neg k18]
    by_cases k19 : c = 19
    · obtain ⟨v, h2, e1, e2, J, s2⟩ := q_spot (n := n) (by omega) I (h (-2) (x + 1)) (h (-2) (x + 2))
      rw [if_pos k19, grd_t (by omega), grd_t (by omega), e1, bndp_s, grd_t (by omega), grd_t (by omega), e2, bnd_s, if_pos rfl, ltt_e]
      exact go h2 J s2
    rw [if_neg k19]
    by_cases k20 : c = 20
    · obtain ⟨v, h2, e1, e2, J, s2⟩ := q_comes (n := n) (by omega) I (h (-2) (x + 1)) (h (-2) (x + 2)) (h (-2) (x + 3))
      rw [if_pos k20, grd_t (by omega), grd_t (by omega), grd_t (by omega), e1, bndp_s, grd_t (by omega), grd_t (by omega), grd_t (by omega), e2, bnd_s, if_pos rfl, ltt_e]
      exact go h2 J s2
    rw [if_neg k20]
    by_cases k21 : c = 21
    · obtain ⟨v, e1, e2⟩ := q_twice (n := n) (by omega) I (h (-2) (x + 1))
      rw [if_pos k21, grd_t (by omega), e1, bndp_s, grd_t (by omega), e2, bndp_s, if_pos rfl, ltt_e]
      exact go h I ⟨rfl, rfl⟩
    rw [if_neg k21]
    by_cases k22 : c = 22
    · obtain ⟨v, h1, h2, e1, e2, J, s1, s2⟩ := (q_run (n := n) hn (h (-2) (x + 1))).run I
      rw [if_pos k22, grd_t (by omega), e1, bnd_s, s1.1, e, s1.2, grd_t (by omega), e2, bnd_s, if_pos rfl, ltt_e]
      exact go h2 J s2
    rw [if_neg k22]
    by_cases k23 : c = 23
    · obtain ⟨v, h1, h2, e1, e2, J, s1, s2⟩ := (q_halt (n := n) hn (h (-2) (x + 1))).run I
      rw [if_pos k23, grd_t (by omega), e1, bnd_s, s1.1, e, s1.2, grd_t (by omega), e2, bnd_s, if_pos rfl, ltt_e]
      exact go h2 J s2
    rw [if_neg k23]
    by_cases k24 : c = 24
    · obtain ⟨v, h1, h2, e1, e2, J, s1, s2⟩ := (q_due (n := n) hn (h (-2) (x + 1))).run I
      rw [if_pos k24, grd_t (by omega), e1, bnd_s, s1.1, e, s1.2, grd_t (by omega), e2, bnd_s, if_pos rfl, ltt_e]
      exact go h2 J s2
    rw [if_neg k24]
    by_cases k25 : c = 25
    · obtain ⟨v, h2, e1, e2, J, s2⟩ := q_binds (n := n) (by omega) I (h (-2) (x + 1))
      rw [if_pos k25, grd_t (by omega), e1, bndp_s, grd_t (by omega), e2, bnd_s, if_pos rfl, ltt_e]
      exact go h2 J s2
    rw [if_neg k25]
    by_cases k26 : c = 26
    · obtain ⟨v, h2, e1, e2, J, s2⟩ := q_layer (n := n) (by omega) I (h (-2) (x + 1)) (h (-2) (x + 2))
      rw [if_pos k26, grd_t (by omega), grd_t (by omega), e1, bndp_s, grd_t (by omega), grd_t (by omega), e2, bnd_s, if_pos rfl, ltt_e]
      exact go h2 J s2
    rw [if_neg k26]
    by_cases k27 : c = 27
    · obtain ⟨v, e1, e2⟩ := q_meets (n := n) (by omega) I (h (-2) (x + 1))
      rw [if_pos k27, grd_t (by omega), e1, bndp_s, grd_t (by omega), e2, bndp_s, if_pos rfl, ltt_e]
      exact go h I ⟨rfl, rfl⟩
    rw [if_neg k27]
    by_cases k28 : c = 28
    · obtain ⟨v, h2, e1, e2, J, s2⟩ := q_box (n := n) (by omega) I (h (-2) (x + 1)) (h (-2) (x + 2))
      rw [if_pos k28, grd_t (by omega), grd_t (by omega), e1, bndp_s, grd_t (by omega), grd_t (by omega), e2, bnd_s, if_pos rfl, ltt_e]
      exact go h2 J s2
    rw [if_neg k28]
    by_cases k29 : c = 29
    · obtain ⟨v, h2, e1, e2, J, s2⟩ := q_near (n := n) (by omega) I (h (-2) (x + 1)) (h (-2) (x + 2)) (h (-2) (x + 3)) (h (-2) (x + 4))
      rw [if_pos k29, grd_t (by omega), grd_t (by omega), grd_t (by omega), grd_t (by omega), e1, bndp_s, grd_t (by omega), grd_t (by omega), grd_t (by omega), grd_t (by omega), e2, bnd_s, if_pos rfl, ltt_e]
      exact go h2 J s2
    rw [if_neg k29]
    by_cases k30 : c = 30
    · obtain ⟨v, h1, h2, e1, e2, J, s1, s2⟩ := q_keep (n := n) (by omega) I (h (-2) (x + 1))
      rw [if_pos k30, grd_t (by omega), e1, bnd_s, s1.1, e, s1.2, grd_t (by omega), e2, bnd_s, if_pos rfl, ltt_e]
      exact go h2 J s2
    rw [if_neg k30]
    by_cases k31 : c = 31
    · obtain ⟨v, e1, e2⟩ := q_common (n := n) (by omega) I (h (-2) (x + 1))
      rw [if_pos k31, grd_t (by omega), e1, bndp_s, grd_t (by omega), e2, bndp_s, if_pos rfl, ltt_e]
      exact go h I ⟨rfl, rfl⟩
    rw [if_neg k31]
    by_cases k32 : c = 32
    · obtain ⟨v, h1, h2, e1, e2, J, s1, s2⟩ := (q_image (h (-2) (x + 1))).run I
      rw [if_pos k32, grd_t (by omega), e1, bnd_s, s1.1, e, s1.2, grd_t (by omega), e2, bnd_s, if_pos rfl, ltt_e]
      exact go h2 J s2
    rw [if_neg k32]
    by_cases k33 : c = 33
    · obtain ⟨v, h1, h2, e1, e2, J, s1, s2⟩ := (q_back (n := n) (by omega) (h (-2) (x + 1))).run I
      rw [if_pos k33, grd_t (by omega), e1, bnd_s, s1.1, e, s1.2, grd_t (by omega), e2, bnd_s, if_pos rfl, ltt_e]
      exact go h2 J s2
    rw [if_neg k33]
    by_cases k34 : c = 34
    · obtain ⟨v, h2, e1, e2, J, s2⟩ := q_count (n := n) (by omega) I (h (-2) (x + 1))
      rw [if_pos k34, grd_t (by omega), e1, bndp_s, grd_t (by omega), e2, bnd_s, if_pos rfl, ltt_e]
      exact go h2 J s2
    rw [if_neg k34]
    rw [ltt_e]
    exact go h I ⟨rfl, rfl⟩
