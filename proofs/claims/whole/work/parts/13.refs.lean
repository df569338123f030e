/-! ROWS OF REFERENCES, the script, lengths. -/
theorem fx_arr4 {t k i : Nat} (ht : 20 ≤ t) (h : aknd t = 4 ∨ aknd t = 6) : fxv t k i = some (Int.ofNat k + 1 + Int.ofNat i) := by
  unfold fxv
  rw [Nat.ble_eq_true_of_le ht]
  dsimp only
  rcases h with h | h <;> rw [h] <;> rfl
theorem fx_arr5 {t k i : Nat} (ht : 20 ≤ t) (h : aknd t = 5) : fxv t k i = some (Int.ofNat k + 1 + 8 * Int.ofNat i) := by
  unfold fxv
  rw [Nat.ble_eq_true_of_le ht]
  dsimp only
  rw [h]
  rfl
theorem abody_q {ad : Nat → Nat} {e n : Nat} {f : Int → Int} (h : 4 ≤ e) : abody ad e n f = .inr (.inr (.inr (.inr (fun j => if f (Int.ofNat j) < 0 ∨ n ≤ j then none else some (ad (f (Int.ofNat j)).toNat))))) := by
  obtain ⟨u, rfl⟩ : ∃ u, e = u + 4 := ⟨e - 4, by omega⟩
  rfl
section
variable {p : Program} {l : Launch} {e : Env} {R : Room} {s : State} {m : MethodId} {args : Array Value} {below : List Frame} {meth : Method} {c : Code}
variable {D : va_G} {ca : Nat → ClassId} {sa : Nat → Nat} {b : Nat} {A : Nat → Prop} {cc : ByteArray} {own : String} {nL : Nat} {z g : Bool} {N : Nat} {xs : Nat → Int32} {n0 : Nat} {h0 : Hp} {ad0 : Nat → Nat} {Q : State → Prop}
variable {ρ : Type} {pc len : Nat} {k : Lc → List AV → Hp → Option ρ} {j : Nat → Lc → List AV → Hp → Option ρ} {L : Lc} {h : Hp} {r : ρ}
theorem p_aaload {t : Nat} {i a y : Int} {rr : List AV} (ht : 20 ≤ t) (he : 4 ≤ aknd t ∧ aknd t ≤ 6) (hg0 : g = true → 0 ≤ a) (hi : 0 ≤ i ∧ i < alen t) (hy : y = h a i ∨ (g = false ∧ ((aknd t = 5 ∧ y = a + 1 + 8 * i) ∨ (aknd t ≠ 5 ∧ y = a + 1 + i)))) (C : Cx p s m args c D ca sa b A cc own nL z N xs h0) (hk : ∀ L' S' h', k L' S' h' = some r → Cfg p l e R s m args below meth c D ca sa b A nL z g n0 h0 ad0 Q (pc + 1) L' S' h') (hd : decode cc pc = .ok (.aaload, 1)) (H : k L ((aetag t, y) :: rr) h = some r) : Cfg p l e R s m args below meth c D ca sa b A nL z g n0 h0 ad0 Q pc L ((0, i) :: (t, a) :: rr) h := by
  intro ad Hh locs ls q
  have hiv : okv g (nOf h) 0 i := OKS.hd q.2.2.2.2.1
  have hix := ix_ok hiv hi.1 hi.2
  obtain ⟨w1, w2, w3⟩ := okref (Nat.le_trans (by decide) ht) (OKS.hd (OKS.tl q.2.2.2.2.1)) hg0
  have hw := q.1.arr ht w1 w2 w3
  have hin : i.toNat < isz t := by rw [isz_arr ht]; have := hi.2; unfold alen at this; simp only [Int.ofNat_eq_natCast] at this; omega
  have hsl := q.1.slot w1 w2 w3 hin
  rw [i_nat hi.1, itag_arr ht] at hsl
  have hyv : y = h a i := by
    rcases hy with hy | ⟨hg, ⟨h5, hy⟩ | ⟨h5, hy⟩⟩
    · exact hy
    · rw [hsl.2 hg _ (fx_arr5 ht h5), hy, i_nat w1, i_nat hi.1]
    · rw [hsl.2 hg _ (fx_arr4 ht (by omega)), hy, i_nat w1, i_nat hi.1]
  subst hyv
  have h4 := aetag_4 he.1
  have hnx := hk _ _ _ H ad Hh locs ls (q.stk (OKS.cons (v := (aetag t, _)) (okz_of (by omega) hsl.1) (OKS.tl (OKS.tl q.2.2.2.2.1))))
  rw [List.map_cons] at hnx
  rw [List.map_cons, List.map_cons, cv0, cv_ok (Nat.le_trans (by decide) ht) w1]
  rw [abody_q he.1] at hw
  have hcell := q.1.1 _ _ hw
  have hlt : i.toNat < (t - 20) / 8 := by rw [isz_arr ht] at hin; exact hin
  have hval : va_rf (if h a (Int.ofNat i.toNat) < 0 ∨ (t - 20) / 8 ≤ i.toNat then none else some (ad (h a (Int.ofNat i.toNat)).toNat)) = cv ad sa b (aetag t, h a i) := by
    rw [i_nat hi.1, cv4 h4]
    by_cases hx : h a i < 0
    · rw [if_pos hx, if_pos (Or.inl hx)]; rfl
    · rw [if_neg hx, if_neg (by omega)]; rfl
  have hty : ∃ ty : FieldType, ty.isReference = true ∧ (tysl ca)[aknd t]? = some (ca (aknd t), ty) := by
    have h9 : aknd t = 4 ∨ aknd t = 5 ∨ aknd t = 6 := by omega
    rcases h9 with h9 | h9 | h9 <;> rw [h9]
    · exact ⟨_, rfl, rfl⟩
    · exact ⟨_, rfl, rfl⟩
    · exact ⟨_, rfl, rfl⟩
  obtain ⟨ty, ty1, ty2⟩ := hty
  have hin9 := hix.1
  refine W.aald (v := cv ad sa b (aetag t, h a i)) (ty := ty) C.1 C.2.1 hcell ((C.2.2.2.2.2.1.2 (aknd t) _ ty2).1 _ (fun j => va_rf (if h a (Int.ofNat j) < 0 ∨ (t - 20) / 8 ≤ j then none else some (ad (h a (Int.ofNat j)).toNat)))) ty1 (fun q => by cases q) (by show ¬ (Int32.ofInt i < 0 ∨ (arrV _ _ _).slots.size ≤ _); rw [arrV_size]; exact hin9) ?_ rfl rfl hd hnx
  show (arrV _ _ _).slots[_]? = _
  rw [hix.2, arrV_read _ _ hlt, hval]
theorem p_alen {t : Nat} {a : Int} {rr : List AV} (ht : 20 ≤ t) (h6 : aknd t ≤ 6) (hsm : (t - 20) / 8 < 2147483648) (hg0 : g = true → 0 ≤ a) (C : Cx p s m args c D ca sa b A cc own nL z N xs h0) (hk : ∀ L' S' h', k L' S' h' = some r → Cfg p l e R s m args below meth c D ca sa b A nL z g n0 h0 ad0 Q (pc + 1) L' S' h') (hd : decode cc pc = .ok (.arraylength, 1)) (H : k L ((0, alen t) :: rr) h = some r) : Cfg p l e R s m args below meth c D ca sa b A nL z g n0 h0 ad0 Q pc L ((t, a) :: rr) h := by
  intro ad Hh locs ls q
  obtain ⟨w1, w2, w3⟩ := okref (Nat.le_trans (by decide) ht) (OKS.hd q.2.2.2.2.1) hg0
  have hw := q.1.arr ht w1 w2 w3
  have hnx := hk _ _ _ H ad Hh locs ls (q.stk (OKS.cons (v := (0, alen t)) ⟨by unfold alen; simp only [Int.ofNat_eq_natCast]; omega, by unfold alen; simp only [Int.ofNat_eq_natCast]; omega⟩ (OKS.tl q.2.2.2.2.1)))
  rw [List.map_cons, cv0] at hnx
  rw [List.map_cons, cv_ok (Nat.le_trans (by decide) ht) w1]
  have hty : ∃ ty : FieldType, (tysl ca)[aknd t]? = some (ca (aknd t), ty) := by
    have h9 : aknd t = 0 ∨ aknd t = 1 ∨ aknd t = 2 ∨ aknd t = 3 ∨ aknd t = 4 ∨ aknd t = 5 ∨ aknd t = 6 := by omega
    rcases h9 with h9 | h9 | h9 | h9 | h9 | h9 | h9 <;> rw [h9] <;> exact ⟨_, rfl⟩
  obtain ⟨ty, hty⟩ := hty
  exact va_alen C.1 C.2.1 C.2.2.2.2.2.1 q.1.1 a.toNat (aknd t) hw hty rfl hd hnx
theorem p_sload {i a : Int} {rr : List AV} (hi : 0 ≤ i ∧ i < h (-1) 1) (C : Cx p s m args c D ca sa b A cc own nL z N xs h0) (hk : ∀ L' S' h', k L' S' h' = some r → Cfg p l e R s m args below meth c D ca sa b A nL z g n0 h0 ad0 Q (pc + 1) L' S' h') (hd : decode cc pc = .ok (.iaload, 1)) (H : k L ((0, h (-2) i) :: rr) h = some r) : Cfg p l e R s m args below meth c D ca sa b A nL z g n0 h0 ad0 Q pc L ((0, i) :: (3, a) :: rr) h := by
  intro ad Hh locs ls q
  have hiv : okv g (nOf h) 0 i := OKS.hd q.2.2.2.2.1
  have hz : z = true ∧ a = 0 := OKS.hd (OKS.tl q.2.2.2.2.1)
  obtain ⟨hX, hb, hbA⟩ := C.2.2.2.2.2.2.2.2.1 hz.1
  obtain ⟨hS1, hS2, hS3⟩ := C.2.2.2.2.2.2.2.2.2 hz.1
  have hne := q.2.2.2.2.2.1
  rw [hne.2, hS1] at hi
  have hlt : i.toNat < N := by simp only [Int.ofNat_eq_natCast] at hi; omega
  have hval : h (-2) i = (xs i.toNat).toInt := by
    rw [hne.1, ← hS3 _ hlt, i_nat hi.1]
  have e32 : (Int32.ofInt i).toInt = i := i32_id hiv.1 hiv.2
  have hix : (Int32.ofInt i).toNatClampNeg = i.toNat := by show (Int32.ofInt i).toInt.toNat = _; rw [e32]
  have hnx := hk _ _ _ H ad Hh locs ls (q.stk (OKS.cons (v := (0, h (-2) i)) (by rw [hval]; exact okI _) (OKS.tl (OKS.tl q.2.2.2.2.1))))
  rw [List.map_cons, cv0, hval, Int32.ofInt_toInt] at hnx
  rw [List.map_cons, List.map_cons, cv0, cv3]
  refine va_sld C.1 C.2.1 hX hb hbA q.2.1 (vp_in_iff.mpr ⟨by rw [e32]; exact hi.1, by rw [e32]; exact hi.2⟩) hd ?_
  rw [hix]
  exact hnx
theorem p_slen {a : Int} {rr : List AV} (C : Cx p s m args c D ca sa b A cc own nL z N xs h0) (hk : ∀ L' S' h', k L' S' h' = some r → Cfg p l e R s m args below meth c D ca sa b A nL z g n0 h0 ad0 Q (pc + 1) L' S' h') (hd : decode cc pc = .ok (.arraylength, 1)) (H : k L ((0, h (-1) 1) :: rr) h = some r) : Cfg p l e R s m args below meth c D ca sa b A nL z g n0 h0 ad0 Q pc L ((3, a) :: rr) h := by
  intro ad Hh locs ls q
  have hz : z = true ∧ a = 0 := OKS.hd q.2.2.2.2.1
  obtain ⟨hX, hb, hbA⟩ := C.2.2.2.2.2.2.2.2.1 hz.1
  obtain ⟨hS1, hS2, hS3⟩ := C.2.2.2.2.2.2.2.2.2 hz.1
  have hne := q.2.2.2.2.2.1
  have hval : h (-1) 1 = Int.ofNat N := by rw [hne.2, hS1]
  have hnx := hk _ _ _ H ad Hh locs ls (q.stk (OKS.cons (v := (0, h (-1) 1)) (by rw [hval]; exact ⟨by simp only [Int.ofNat_eq_natCast]; omega, by simp only [Int.ofNat_eq_natCast]; omega⟩) (OKS.tl q.2.2.2.2.1)))
  rw [List.map_cons, cv0, hval] at hnx
  rw [List.map_cons, cv3]
  exact va_slen C.1 C.2.1 hX hb hbA q.2.1 hd hnx
end
