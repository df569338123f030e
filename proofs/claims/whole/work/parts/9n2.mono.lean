/-! A LINE GOES ON along the tape. -/
theorem rdN_m {T : Int → Int} {z lo hi a : Int} {neg : Bool} (a0 : 0 ≤ a) (ha : a ≤ z) (ok : (rdN T z lo hi a neg).1.1 = -1) : a ≤ (rdN T z lo hi a neg).1.2.1 ∧ (rdN T z lo hi a neg).1.2.1 ≤ z := by
  have db := dnd_b (T := T) ha
  by_cases hd : a < z ∧ dgt (T a)
  · by_cases hv : lo ≤ nmV 10000000 T a (dnd T z a) ∧ nmV 10000000 T a (dnd T z a) ≤ hi
    · rw [rdN_o hd hv]
      exact db
    · rw [rdN_r hd hv]
      exact db
  · rw [rdN_f hd]
    exact ⟨Int.le_refl a, ha⟩
theorem rdU_mo {T : Int → Int} {z lo hi : Int} {s : St3} (h0 : 0 ≤ s.2.1) (hz : s.2.1 ≤ z) (ok : (rdU T z lo hi s).1.1 = -1) : s.2.1 ≤ (rdU T z lo hi s).1.2.1 ∧ (rdU T z lo hi s).1.2.1 ≤ z := by
  have hs := rdU_ok ok
  have sb := skp_b (T := T) (z := z) (p := s.2.1) hz
  have e : rdU T z lo hi s = rdN T z lo hi (skp T z s.2.1) false := if_pos hs
  rw [e] at ok ⊢
  have := rdN_m (by omega) sb.2 ok
  omega
theorem rdS_mo {T : Int → Int} {z lo hi : Int} {s : St3} (h0 : 0 ≤ s.2.1) (hz : s.2.1 ≤ z) (ok : (rdS T z lo hi s).1.1 = -1) : s.2.1 ≤ (rdS T z lo hi s).1.2.1 ∧ (rdS T z lo hi s).1.2.1 ≤ z := by
  have hs := rdS_ok ok
  have sb := skp_b (T := T) (z := z) (p := s.2.1) hz
  have eu : rdS T z lo hi s = (if sgn T z (skp T z s.2.1) = 45 then rdN T z lo hi (skp T z (skp T z s.2.1 + 1)) true else rdN T z lo hi (skp T z s.2.1) false) := if_pos hs
  rw [eu] at ok ⊢
  by_cases h45 : sgn T z (skp T z s.2.1) = 45
  · have ee := en_1 (Or.inl h45)
    have sb2 := skp_b (T := T) (z := z) (p := skp T z s.2.1 + 1) (by omega)
    rw [if_pos h45] at ok ⊢
    have := rdN_m (by omega) sb2.2 ok
    omega
  · rw [if_neg h45] at ok ⊢
    have := rdN_m (by omega) sb.2 ok
    omega
theorem rdE_mo {T : Int → Int} {z : Int} {s : St3} (h0 : 0 ≤ s.2.1) (hz : s.2.1 ≤ z) (ok : (rdE T z s).1 = -1) : s.2.1 < (rdE T z s).2.1 ∧ (rdE T z s).2.1 ≤ z := by
  have hs := rdE_ok ok
  have sb := skp_b (T := T) (z := z) (p := s.2.1) hz
  have eu : rdE T z s = (if sgn T z (skp T z s.2.1) = 59 then (-1, skp T z s.2.1 + 1, skp T z s.2.1) else (8 * skp T z s.2.1 + 1, skp T z s.2.1, skp T z s.2.1)) := if_pos hs
  rw [eu] at ok ⊢
  by_cases h59 : sgn T z (skp T z s.2.1) = 59
  · have ee := en_1 (Or.inr h59)
    rw [if_pos h59]
    exact ⟨by show s.2.1 < skp T z s.2.1 + 1; omega, by show skp T z s.2.1 + 1 ≤ z; omega⟩
  · rw [if_neg h59] at ok
    have t : 8 * skp T z s.2.1 + 1 = -1 := ok
    omega
theorem rdW_mo {T : Int → Int} {z : Int} {s : St3} (h0 : 0 ≤ s.2.1) (hz : s.2.1 ≤ z) (hs : s.1 = -1) (ok : (rdW T z s).1 = -1) : s.2.1 ≤ (rdW T z s).2.1 ∧ (rdW T z s).2.1 ≤ z := by
  have sb := skp_b (T := T) (z := z) (p := s.2.1) hz
  have wb := wnd_b (T := T) (z := z) (p := skp T z s.2.1) sb.2
  have eu : rdW T z s = if nmOK T z (skp T z s.2.1) then (-1, wnd T z (skp T z s.2.1), skp T z s.2.1) else (8 * skp T z s.2.1 + 1, skp T z s.2.1, skp T z s.2.1) := if_pos hs
  rw [eu]
  split
  · exact ⟨by show s.2.1 ≤ wnd T z (skp T z s.2.1); omega, wb.2⟩
  · exact sb
theorem rdA_mo {T : Int → Int} {z : Int} : ∀ (r : Nat) (i : Int) (s : St3), 0 ≤ s.2.1 → s.2.1 ≤ z → (rdA T z r i s).1 = -1 → s.1 = -1 ∧ s.2.1 ≤ (rdA T z r i s).2.1 ∧ (rdA T z r i s).2.1 ≤ z
  | 0, i, s, h0, hz, ok => ⟨ok, Int.le_refl _, hz⟩
  | r + 1, i, s, h0, hz, ok => by
    have e : rdA T z (r + 1) i s = rdA T z r (i + 1) (rdU T z 1 (if i < 3 then 5000 else 500) s).1 := rfl
    rw [e] at ok ⊢
    by_cases hs : s.1 = -1
    · by_cases hu : (rdU T z 1 (if i < 3 then 5000 else 500) s).1.1 = -1
      · have m := rdU_mo h0 hz hu
        have ih := rdA_mo r (i + 1) _ (by omega) m.2 ok
        exact ⟨hs, by omega, ih.2.2⟩
      · exfalso
        have st : ∀ (r : Nat) (i : Int) (s : St3), ¬ s.1 = -1 → ¬ (rdA T z r i s).1 = -1 := fun r => by
          induction r with
          | zero => exact fun i s q => q
          | succ r ih => exact fun i s q => ih (i + 1) _ (by rw [rdU_f q]; exact q)
        exact st r (i + 1) _ hu ok
    · exfalso
      have st : ∀ (r : Nat) (i : Int) (s : St3), ¬ s.1 = -1 → ¬ (rdA T z r i s).1 = -1 := fun r => by
        induction r with
        | zero => exact fun i s q => q
        | succ r ih => exact fun i s q => ih (i + 1) _ (by rw [rdU_f q]; exact q)
      exact st r (i + 1) _ (by rw [rdU_f hs]; exact hs) ok
theorem rdK_mo {T : Int → Int} {z k : Int} {s : St3} (h0 : 0 ≤ s.2.1) (hz : s.2.1 ≤ z) (ok : (rdK T z k s).1 = -1) : s.1 = -1 ∧ s.2.1 ≤ (rdK T z k s).2.1 ∧ (rdK T z k s).2.1 ≤ z := by
  unfold rdK at ok ⊢
  by_cases h1 : k = 0
  · rw [if_pos h1] at ok ⊢
    exact rdA_mo 6 0 s h0 hz ok
  · rw [if_neg h1] at ok ⊢
    by_cases h2 : k = 1
    · rw [if_pos h2] at ok ⊢
      exact ⟨rdU_ok ok, rdU_mo h0 hz ok⟩
    · rw [if_neg h2] at ok ⊢
      exact ⟨rdU_ok ok, rdU_mo h0 hz ok⟩
theorem q6_mo {T : Int → Int} {z k : Int} {s : St3} (h0 : 0 ≤ s.2.1) (hz : s.2.1 ≤ z) (ok : (q6_ T z k s).1.1 = -1) : s.2.1 ≤ (q6_ T z k s).1.2.1 ∧ (q6_ T z k s).1.2.1 ≤ z := by
  have k5 := rdU_ok ok
  have k4 : (q4_ T z k s).1.1 = -1 := by
    unfold q5_ at k5
    by_cases e : k = 5
    · rw [if_pos e] at k5
      exact rdS_ok k5
    · rw [if_neg e] at k5
      exact k5
  have k3 : (q3_ T z k s).1 = -1 := by
    unfold q4_ at k4
    by_cases e : k = 5
    · rw [if_pos e] at k4
      exact rdS_ok k4
    · rw [if_neg e] at k4
      exact rdS_ok k4
  have k2 : (q2_ T z s).1.1 = -1 ∧ ((q3_ T z k s).2 = (q2_ T z s).1.2) := by
    unfold q3_ at k3 ⊢
    by_cases e : k = 5 ∧ (q2_ T z s).1.1 = -1 ∧ (q1_ T z s).2 = 0 ∧ (q2_ T z s).2 = 0
    · rw [if_pos e]
      exact ⟨e.2.1, rfl⟩
    · rw [if_neg e] at k3 ⊢
      exact ⟨k3, rfl⟩
  have k1 : (q1_ T z s).1.1 = -1 := rdS_ok k2.1
  have m1 := rdS_mo h0 hz k1
  have e1 : q1_ T z s = rdS T z 0 100000 s := rfl
  rw [← e1] at m1
  have m2 := rdS_mo (s := (q1_ T z s).1) (by omega) m1.2 k2.1
  have e2 : q2_ T z s = rdS T z 0 100000 (q1_ T z s).1 := rfl
  rw [← e2] at m2
  have m3 : (q3_ T z k s).2.1 = (q2_ T z s).1.2.1 := by rw [k2.2]
  have m4 : (q3_ T z k s).2.1 ≤ (q4_ T z k s).1.2.1 ∧ (q4_ T z k s).1.2.1 ≤ z := by
    unfold q4_ at k4 ⊢
    by_cases e : k = 5
    · rw [if_pos e] at k4 ⊢
      exact rdS_mo (by omega) (by omega) k4
    · rw [if_neg e] at k4 ⊢
      exact rdS_mo (by omega) (by omega) k4
  have m5 : (q4_ T z k s).1.2.1 ≤ (q5_ T z k s).1.2.1 ∧ (q5_ T z k s).1.2.1 ≤ z := by
    unfold q5_ at k5 ⊢
    by_cases e : k = 5
    · rw [if_pos e] at k5 ⊢
      exact rdS_mo (by omega) (by omega) k5
    · rw [if_neg e]
      exact ⟨Int.le_refl _, m4.2⟩
  have m6 := rdU_mo (s := (q5_ T z k s).1) (by omega) m5.2 ok
  have e6 : q6_ T z k s = rdU T z 1 5000 (q5_ T z k s).1 := rfl
  rw [← e6] at m6
  omega
