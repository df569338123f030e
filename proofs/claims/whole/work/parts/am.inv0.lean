/-! THE INVARIANT at the first heap. -/
theorem far0 : far 12 0 0 = 0 := farF_rest _ _
theorem rch0 {m : Hp} {j : Int} (e : nB m = 0) : rchS m j = 12 := by
  unfold rchS
  rw [e]
  rfl
theorem fc0 {h : Hp} {D R : Int} (hz : ∀ k : Int, 0 ≤ k → k < 2525 → h (D + 1) k = 0) : FC h D R := fun w u a b c d => Or.inl (hz _ (by omega) (by omega))
theorem zrow {f : Int → Int} {N : Nat} (h : ((List.range N).all fun j => decide (f (Int.ofNat j) = 0)) = true) : ∀ k : Int, 0 ≤ k → k < (N : Int) → f k = 0 := fun k k0 k1 => by
  have := of_decide_eq_true (List.all_eq_true.mp h k.toNat (List.mem_range.mpr (by omega)))
  have e : Int.ofNat k.toNat = k := by
    show ((k.toNat : Nat) : Int) = k
    omega
  rw [e] at this
  exact this
theorem inv_first {h : Hp} (hc : ∀ c : Int, 0 ≤ c → h c = hF c) : Inv h := by
  obtain ⟨a1, a2, a3, a4, a5, a6, a7, a8, a9, a10, a11, a12, a13, a14, a15, a16, a17, a18, a19, a20, a21, a22, a23, a24, a25, a26⟩ := of_decide_eq_true hF_c1
  obtain ⟨b1, b2, b3, b4, b5, b6, b7, b8, b9, b10, b11, b12, b13, b14, b15, b16, b17, b18, b19, b20, b21, b22, b23, b24, b25, b26, b27, b28, b29, b30, b31, b32⟩ := of_decide_eq_true hF_c2
  obtain ⟨c1, c2, c3, c4, c5, c6, c7, c8, c9, c10, c11, c12, c13, c14, c15⟩ := of_decide_eq_true hF_c3
  have z1 : ∀ k : Int, 0 ≤ k → k < 2525 → hF 51 k = 0 := zrow hF_far
  have z2 : ∀ k : Int, 0 ≤ k → k < 2525 → hF 58 k = 0 := zrow hF_far2
  rw [← hc 113 (by decide)] at a1 a14 a15 a16 a17 a18 a19 a20 a21 b15 b32
  rw [← hc 115 (by decide)] at a2 a3 a4 a5 a6 a7 a8 a9 c7 c8 c9 c10 c11 c12
  rw [← hc 122 (by decide)] at a10 a11 a12
  rw [← hc 126 (by decide)] at a13
  rw [← hc 147 (by decide)] at a22 a23 a24
  rw [← hc 144 (by decide)] at a25 a26
  rw [← hc 0 (by decide)] at b1 b2
  rw [← hc 52 (by decide)] at b3 b4 b5 b6
  rw [← hc 50 (by decide)] at b7
  rw [← hc 57 (by decide)] at b8
  rw [← hc 64 (by decide)] at b9 b10 b11 b12 b13 b14 b15
  rw [← hc 66 (by decide)] at b16 b17
  rw [← hc 92 (by decide)] at b18 b19 b20
  rw [← hc 39 (by decide)] at b21 b22 b23 b24 b25 b26 b27
  rw [← hc 94 (by decide)] at b28
  rw [← hc 102 (by decide)] at b29
  rw [← hc 110 (by decide)] at b30
  rw [← hc 27 (by decide)] at b31
  rw [← hc 1 (by decide)] at c1 c2 c3 c4 c5 c6
  rw [← hc 2 (by decide)] at c7 c8 c9 c10 c11 c12
  rw [← hc 4 (by decide)] at c13
  rw [← hc 5 (by decide)] at c14
  rw [← hc 6 (by decide)] at c15
  rw [← hc 51 (by decide)] at z1
  rw [← hc 58 (by decide)] at z2
  have nb : nB h = 0 := a1
  have wf : WFp h := by
    refine ⟨⟨by omega, by omega⟩, fun k k0 k1 => ?_, ⟨by omega, by omega⟩, ⟨by omega, by omega⟩, fun k k0 k1 => ?_, fun b b0 b1 => absurd b1 (by omega), a13, ⟨by omega, by omega⟩, ⟨by omega, by omega⟩⟩
    · obtain rfl | rfl | rfl : k = 0 ∨ k = 1 ∨ k = 2 := by omega
      · exact ⟨a2, a5⟩
      · exact ⟨a3, a6⟩
      · exact ⟨a4, a7⟩
    · obtain rfl | rfl | rfl : k = 0 ∨ k = 1 ∨ k = 2 := by omega
      · omega
      · omega
      · omega
  have rs : ∀ J : Int, RS (nB h) J 12 (ee h) 0 0 0 := fun J => by
    rw [nb]
    refine ⟨⟨by decide, by decide, Or.inl (by decide)⟩, by decide, by decide, Or.inl (by decide), by decide, ?_, Or.inr ⟨rfl, rfl⟩⟩
    rw [far0]
    unfold AL
    rw [if_pos (show (0 : Int) ≤ 0 by decide)]
    omega
  have rw1 : RW h h 1 := by
    refine ⟨⟨by rw [c1, a8], by rw [c2, a9], by rw [c3, nb], by rw [c4, a14], by rw [c5, a15], ?_⟩, fun k k0 k1 => ?_, fun a k a0' a1' k0 k1 => ?_, fun b b0 b1 => absurd b1 (by omega), fun b b0 b1 => absurd b1 (by omega)⟩
    · rw [nb, c6]
      exact a13.symm
    · show h 2 k = h 115 k
      obtain rfl | rfl | rfl | rfl | rfl | rfl : k = 0 ∨ k = 1 ∨ k = 2 ∨ k = 3 ∨ k = 4 ∨ k = 5 := by omega
      · exact c7
      · exact c8
      · exact c9
      · exact c10
      · exact c11
      · exact c12
    · rw [nb] at k1
      have ek : k = 0 := by omega
      subst ek
      obtain rfl | rfl | rfl : a = 0 ∨ a = 1 ∨ a = 2 := by omega
      · exact c13.trans a10.symm
      · exact c14.trans a11.symm
      · exact c15.trans a12.symm
  have ce : CE h h 50 1 (h 115 7) (h 115 6) (h 113 45) := by
    refine ⟨⟨by decide, by decide⟩, rw1, b3, ⟨by rw [a8]; exact b4, by rw [rch0 nb]; exact b5, fun i i0 i1 => absurd i1 (by omega)⟩, fun i i0 i1 => absurd i1 (by omega), fc0 z1⟩
  refine ⟨⟨wf, ⟨by omega, by omega⟩, Or.inl a17, ?_, ⟨by omega, by omega⟩, fun k k0 k1 => absurd k1 (by omega), fun k k0 k1 => ?_, fun k k0 k1 => ?_⟩, ⟨⟨Or.inl b1, by omega⟩, ⟨?_, by omega, by rw [rch0 nb]; exact b7⟩, ⟨fc0 z2, b8⟩, ⟨?_, by omega, by omega, b15⟩, ⟨by omega, ⟨by omega, by omega⟩, fun k k0 k1 => absurd k1 (by omega)⟩, fun k k0 k1 => ?_, ?_, fun k k0 k1 => ?_, Or.inl b30, ⟨⟨by omega, by omega⟩, by omega, fun i i0 i1 => absurd i1 (by omega)⟩⟩⟩
  · unfold RSt
    rw [rch0 nb, a18, a19, a20]
    exact rs _
  · have e : h 147 k = 0 := by
      obtain rfl | rfl | rfl : k = 0 ∨ k = 1 ∨ k = 2 := by omega
      · exact a22
      · exact a23
      · exact a24
    exact ⟨Or.inl e, fun q => absurd q (by omega)⟩
  · obtain rfl | rfl : k = 0 ∨ k = 1 := by omega
    · omega
    · omega
  · rw [b1]
    exact ce
  · rw [a18, a19, a20]
    refine ⟨b9, b10, b11, ?_⟩
    rw [nb, b12]
    rfl
  · have e : h 147 k = 0 ∧ h 92 k = 0 := by
      obtain rfl | rfl | rfl : k = 0 ∨ k = 1 ∨ k = 2 := by omega
      · exact ⟨a22, b18⟩
      · exact ⟨a23, b19⟩
      · exact ⟨a24, b20⟩
    exact ⟨by omega, fun q => absurd q (by omega)⟩
  · rw [b1]
    have e0 : (nB h).toNat = 0 := by
      rw [nb]
      rfl
    have e1 : spT h = (0, fun _ => 0, fun _ => 0) := by
      unfold spT
      rw [if_pos (show nB h ≤ 0 by omega)]
      rfl
    have e2 : mtA h = (0, -2, -2) := by
      unfold mtA
      rw [e0]
      rfl
    refine ⟨b21, ?_, ?_, ?_, ?_⟩
    · rw [e1]
      exact ⟨b22, fun x x0 x1 => absurd x1 (Int.not_lt.mpr x0)⟩
    · rw [e0]
      exact ⟨fun i i0 i1 => absurd i1 (by omega), b23⟩
    · rw [e0]
      exact ⟨b24, fun x x0 x1 => absurd x1 (Int.not_lt.mpr x0)⟩
    · rw [e2]
      exact ⟨b25, b26, b27⟩
  · have e : h 144 k = -1 ∧ h (94 + 8 * k) 1 = -2 := by
      obtain rfl | rfl : k = 0 ∨ k = 1 := by omega
      · exact ⟨a25, b28⟩
      · exact ⟨a26, b29⟩
    refine ⟨by rw [if_pos e.1]; exact e.2, ⟨by omega, by omega⟩, fun i z i0 i1 => absurd i1 (by omega)⟩
