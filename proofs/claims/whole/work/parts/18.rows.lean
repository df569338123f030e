/-! MAKING ROWS. -/
section
variable {p : Program} {l : Launch} {e : Env} {R : Room} {s : State} {m : MethodId} {args : Array Value} {below : List Frame} {meth : Method} {c : Code}
variable {D : va_G} {ca : Nat → ClassId} {sa : Nat → Nat} {b : Nat} {A : Nat → Prop} {cc : ByteArray} {own : String} {nL : Nat} {z g : Bool} {N : Nat} {xs : Nat → Int32} {n0 : Nat} {h0 : Hp} {ad0 : Nat → Nat} {Q : State → Prop}
variable {ρ : Type} {pc len : Nat} {k : Lc → List AV → Hp → Option ρ} {j : Nat → Lc → List AV → Hp → Option ρ} {L : Lc} {h : Hp} {r : ρ}
theorem arr_len {m e : Nat} (he : e < 8) : (20 + 8 * m + e - 20) / 8 = m ∧ aknd (20 + 8 * m + e) = e ∧ 20 ≤ 20 + 8 * m + e := by
  unfold aknd
  omega
def ety (e : Nat) : FieldType := match e with
  | 0 => .int
  | 1 => .long
  | 2 => .boolean
  | 3 => .byte
  | 4 => .object "PathRide$State"
  | 5 => .object "PathRide$Kept"
  | _ => .array .int
theorem tysl_at {e : Nat} (he : e < 7) : (tysl ca)[e]? = some (ca e, ety e) := by
  have h9 : e = 0 ∨ e = 1 ∨ e = 2 ∨ e = 3 ∨ e = 4 ∨ e = 5 ∨ e = 6 := by omega
  rcases h9 with h9 | h9 | h9 | h9 | h9 | h9 | h9 <;> subst h9 <;> rfl
theorem ca_eq {e : Nat} {cA : ClassId} (he : e < 7) (hK : va_K D vwCl (tysl ca) s) (hK2 : va_K D vwCl (tysl ca ++ [(cA, ety e)]) s) : cA = ca e := by
  have h1 := (hK.2 e _ (tysl_at he)).2
  have h2 := (hK2.2 7 (cA, ety e) rfl).2
  have h9 : e = 0 ∨ e = 1 ∨ e = 2 ∨ e = 3 ∨ e = 4 ∨ e = 5 ∨ e = 6 := by omega
  rcases h9 with h9 | h9 | h9 | h9 | h9 | h9 | h9 <;> subst h9
  · exact Option.some.inj (Eq.trans (Eq.symm h2) h1)
  · exact Option.some.inj (Eq.trans (Eq.symm h2) h1)
  · exact Option.some.inj (Eq.trans (Eq.symm h2) h1)
  · exact Option.some.inj (Eq.trans (Eq.symm h2) h1)
  · obtain ⟨_, _, _, _, _, h1⟩ := h1
    obtain ⟨_, _, _, _, _, h2⟩ := h2
    exact Option.some.inj (h2.symm.trans h1)
  · obtain ⟨_, _, _, _, _, h1⟩ := h1
    obtain ⟨_, _, _, _, _, h2⟩ := h2
    exact Option.some.inj (h2.symm.trans h1)
  · exact Option.some.inj (Eq.trans (Eq.symm h2) h1)
theorem dflt_arr0 {t : Nat} {i : Int} (ht : 20 ≤ t) (he : aknd t < 4) : dflt t i = 0 := by
  apply dflt_0
  rw [itag_arr ht]
  have h9 : aknd t = 0 ∨ aknd t = 1 ∨ aknd t = 2 ∨ aknd t = 3 := by omega
  rcases h9 with h9 | h9 | h9 | h9
  · rw [aknd_0 h9]; decide
  · rw [aknd_1 h9]; decide
  · rw [aknd_2 h9]; decide
  · rw [aknd_3 h9]; decide
theorem dflt_arr4 {t : Nat} {i : Int} (ht : 20 ≤ t) (he : 4 ≤ aknd t) : dflt t i = -1 := by
  apply dflt_4
  rw [itag_arr ht]
  have := aetag_4 he
  omega
/-- what is the same at every making -/
theorem push_end {ad : Nat → Nat} {H H1 : Heap} {locs : List Loc} {ls : Array Slot} {S S' : List AV} {t qa pc' : Nat} (hg : g = true) (q : Sat s D ca sa b A nL z g n0 h0 ad0 L S h ad H locs ls) (hSS : ∀ v ∈ S', v ∈ S) (hk9 : kd (nOf h) = t) (ht : 4 ≤ t) (hlt : nOf h < 148) (hk : Cfg p l e R s m args below meth c D ca sa b A nL z g n0 h0 ad0 Q pc' L ((t, cnt h) :: S') (alc h t))
    (p1 : va_P D vwCl (wsl ca ad (nOf h) h ++ [(qa, entry ca (fun k => if k = nOf h then qa else ad k) t (dflt t))]) H1) (d1 : va_D A (wsl ca ad (nOf h) h ++ [(qa, entry ca (fun k => if k = nOf h then qa else ad k) t (dflt t))])) (s1 : va_S A s.heap H1 locs) :
    W p l e R s m args below meth c H1 locs (nOf h - n0 + 1) (slc (nOf h) - slc n0 + isz t) Q (F0 m pc' ls (.ref qa :: S'.map (cv ad sa b))) := by
  subst hg
  have h0 := q.1.2.2.2.1
  have hn : nOf (alc h t) = nOf h + 1 := nOf_alc h0
  have hsl := slc_succ (nOf h)
  rw [hk9] at hsl
  have hle := q.2.2.2.2.2.2.1
  have hm := slc_mono hle
  have hS'9 : OKS z true (nOf h) S' := fun vv hv => q.2.2.2.2.1 vv (hSS vv hv)
  have hoks : OKS z true (nOf h + 1) ((t, cnt h) :: S') := OKS.cons (okz_new ht h0 hk9) (fun vv hv => okz_mono (by omega) (hS'9 vv hv))
  have hnx := hk _ H1 locs ls (sat_push q rfl hk9 hlt hoks p1 d1 s1)
  have hmp : S'.map (cv (fun k => if k = nOf h then qa else ad k) sa b) = S'.map (cv ad sa b) := List.map_congr_left (fun vv hv => cv_ad (hS'9 vv hv) (fun k hk9 => if_neg (by omega)))
  rw [hn, List.map_cons, hmp, cv_ok ht h0] at hnx
  have hq : (if (cnt h).toNat = nOf h then qa else ad (cnt h).toNat) = qa := if_pos rfl
  rw [hq] at hnx
  have e1 : nOf h - n0 + 1 = nOf h + 1 - n0 := by omega
  have e2 : slc (nOf h) - slc n0 + isz t = slc (nOf h + 1) - slc n0 := by omega
  rw [e1, e2]
  exact hnx
theorem p_newarr {mm : Int} {ek : Nat} {at9 : ArrayType} {S : List AV} (hg : g = true) (he : ek < 4) (hat : newarray.typeOf at9 = ety ek) (hm0 : 0 ≤ mm) (hm1 : mm.toNat ≤ 60000) (hk9 : kd (nOf h) = 20 + 8 * mm.toNat + ek) (hlt : nOf h < 148) (hbd : ∀ L' S' h', k L' S' h' = some r → nOf h' - n0 ≤ R.cells ∧ slc (nOf h') - slc n0 ≤ R.slots) (w1 : (Cond.arrayClass (ety ek)) ∈ lw_u) (C : Cx p s m args c D ca sa b A cc own nL z N xs h0) (hk : ∀ L' S' h', k L' S' h' = some r → Cfg p l e R s m args below meth c D ca sa b A nL z g n0 h0 ad0 Q (pc + 2) L' S' h') (hd : decode cc pc = .ok (.newarray at9, 2)) (H : ltt (alc h (20 + 8 * mm.toNat + ek)) (fun h' => k L ((20 + 8 * mm.toNat + ek, cnt h) :: S) h') = some r) : Cfg p l e R s m args below meth c D ca sa b A nL z g n0 h0 ad0 Q pc L ((0, mm) :: S) h := by
  intro ad Hh locs ls q
  unfold ltt at H
  obtain ⟨a1, a2, a3⟩ := arr_len (m := mm.toNat) (e := ek) (by omega)
  generalize ht : 20 + 8 * mm.toNat + ek = t at *
  have hmv : okv g (nOf h) 0 mm := OKS.hd q.2.2.2.2.1
  have hb := hbd _ _ _ H
  have h0 := q.1.2.2.2.1
  rw [nOf_alc h0, slc_succ, hk9, isz_arr a3, a1] at hb
  have hle := q.2.2.2.2.2.2.1
  have hm := slc_mono hle
  rw [List.map_cons, cv0]
  have h32 : (Int32.ofInt mm).toInt = mm := i32_id hmv.1 hmv.2
  have hcl : (Int32.ofInt mm).toNatClampNeg = mm.toNat := by show (Int32.ofInt mm).toInt.toNat = _; rw [h32]
  have hcb : componentBytes (ety ek) ≤ 8 := by
    have h9 : ek = 0 ∨ ek = 1 ∨ ek = 2 ∨ ek = 3 := by omega
    rcases h9 with h9 | h9 | h9 | h9 <;> subst h9 <;> decide
  refine va_newa (a0 := (mm.toNat, abody ad ek mm.toNat (dflt t))) C.1 C.2.1 (by rw [hat]; exact C.2.2.2.2.1 _ w1) hat C.2.2.2.2.2.1 q.1.1 q.1.2.1 q.2.1 C.2.2.2.2.2.2.2.1 (N' := mm.toNat) ?_ ?_ hcl ?_ (by omega) (by omega) hd (fun qa cA H1 hK2 p1 d1 s1 => ?_)
  · intro cA
    have hd0 : ∀ i, dflt t i = 0 := fun i => dflt_arr0 a3 (by omega)
    have h9 : ek = 0 ∨ ek = 1 ∨ ek = 2 ∨ ek = 3 := by omega
    rcases h9 with h9 | h9 | h9 | h9 <;> subst h9
    · rw [show abody ad 0 mm.toNat (dflt t) = .inl (fun _ => Int32.ofInt 0) from by unfold abody; simp only [hd0]]; rfl
    · rw [show abody ad 1 mm.toNat (dflt t) = .inr (.inl (fun _ => Int64.ofInt 0)) from by unfold abody; simp only [hd0]]; rfl
    · rw [show abody ad 2 mm.toNat (dflt t) = .inl (fun _ => Int32.ofInt 0) from by unfold abody; simp only [hd0]]; rfl
    · rw [show abody ad 3 mm.toNat (dflt t) = .inl (fun _ => Int32.ofInt 0) from by unfold abody; simp only [hd0]]; rfl
  · intro h9
    rw [Int32.lt_iff_toInt_lt, h32] at h9
    have : (0 : Int32).toInt = 0 := rfl
    omega
  · have : mm.toNat * componentBytes (ety ek) ≤ mm.toNat * 8 := Nat.mul_le_mul_left _ hcb
    omega
  · have hcA := ca_eq (by omega) C.2.2.2.2.2.1 hK2
    subst hcA
    have hent : (Sum.inl (ca ek, mm.toNat, abody ad ek mm.toNat (dflt t)) : va_E) = entry ca (fun k => if k = nOf h then qa else ad k) t (dflt t) := by
      rw [entry_arr a3, a1, a2]
      congr 3
      have h9 : ek = 0 ∨ ek = 1 ∨ ek = 2 ∨ ek = 3 := by omega
      rcases h9 with h9 | h9 | h9 | h9 <;> subst h9 <;> rfl
    rw [hent] at p1 d1
    have := push_end hg q (fun v hv => List.mem_cons_of_mem _ hv) hk9 (by omega) hlt (hk _ _ _ H) p1 d1 s1
    rw [isz_arr a3, a1] at this
    exact this
theorem p_anew {mm : Int} {ek i : Nat} {S : List AV} {Cn : String} (hg : g = true) (he : (ek = 4 ∧ Cn = "PathRide$State") ∨ (ek = 5 ∧ Cn = "PathRide$Kept")) (hm0 : 0 ≤ mm) (hm1 : mm.toNat ≤ 60000) (hk9 : kd (nOf h) = 20 + 8 * mm.toNat + ek) (hlt : nOf h < 148) (hbd : ∀ L' S' h', k L' S' h' = some r → nOf h' - n0 ≤ R.cells ∧ slc (nOf h') - slc n0 ≤ R.slots) (w1 : (Cond.classLink own i Cn) ∈ lw_u) (C : Cx p s m args c D ca sa b A cc own nL z N xs h0) (hk : ∀ L' S' h', k L' S' h' = some r → Cfg p l e R s m args below meth c D ca sa b A nL z g n0 h0 ad0 Q (pc + 3) L' S' h') (hd : decode cc pc = .ok (.anewarray i, 3)) (H : ltt (alc h (20 + 8 * mm.toNat + ek)) (fun h' => k L ((20 + 8 * mm.toNat + ek, cnt h) :: S) h') = some r) : Cfg p l e R s m args below meth c D ca sa b A nL z g n0 h0 ad0 Q pc L ((0, mm) :: S) h := by
  intro ad Hh locs ls q
  unfold ltt at H
  obtain ⟨a1, a2, a3⟩ := arr_len (m := mm.toNat) (e := ek) (by omega)
  have hmv : okv g (nOf h) 0 mm := OKS.hd q.2.2.2.2.1
  have hb := hbd _ _ _ H
  have h0 := q.1.2.2.2.1
  rw [nOf_alc h0, slc_succ, hk9, isz_arr a3, a1] at hb
  have hle := q.2.2.2.2.2.2.1
  have hm := slc_mono hle
  rw [List.map_cons, cv0]
  have h32 : (Int32.ofInt mm).toInt = mm := i32_id hmv.1 hmv.2
  have hcl : (Int32.ofInt mm).toNatClampNeg = mm.toNat := by show (Int32.ofInt mm).toInt.toNat = _; rw [h32]
  have hAO : va_AO Cn s := by
    rcases he with ⟨_, h9⟩ | ⟨_, h9⟩
    · subst h9; exact C.2.2.2.2.2.2.1.2.2.2.1
    · subst h9; exact C.2.2.2.2.2.2.1.2.2.2.2.1
  have hty : FieldType.object Cn = ety ek := by
    rcases he with ⟨h8, h9⟩ | ⟨h8, h9⟩
    · subst h8; subst h9; rfl
    · subst h8; subst h9; rfl
  have hneg : ¬ Int32.ofInt mm < 0 := by
    intro h9
    rw [Int32.lt_iff_toInt_lt, h32] at h9
    have : (0 : Int32).toInt = 0 := rfl
    omega
  refine va_newq C.1 C.2.1 C.2.2.2.1 (C.2.2.2.2.1 _ w1) hAO C.2.2.2.2.2.1 q.1.1 q.1.2.1 q.2.1 C.2.2.2.2.2.2.2.1 (N' := mm.toNat) hneg hcl (by omega) (by omega) (by omega) hd (fun qa cA H1 hK2 p1 d1 s1 => ?_)
  rw [hty] at hK2
  have hcA := ca_eq (by omega) C.2.2.2.2.2.1 hK2
  subst hcA
  have hent : (Sum.inl (ca ek, mm.toNat, .inr (.inr (.inr (.inr (fun _ => none))))) : va_E) = entry ca (fun k => if k = nOf h then qa else ad k) (20 + 8 * mm.toNat + ek) (dflt (20 + 8 * mm.toNat + ek)) := by
    rw [entry_arr a3, a1, a2, abody_q (by omega)]
    congr 7
    funext jj
    rw [dflt_arr4 a3 (by omega), if_pos (Or.inl (by decide))]
  rw [hent] at p1 d1
  have := push_end hg q (fun v hv => List.mem_cons_of_mem _ hv) hk9 (by omega) hlt (hk _ _ _ H) p1 d1 s1
  rw [isz_arr a3, a1] at this
  exact this
theorem p_objinit {t i : Nat} {o : Int} {rr : List AV} (ht : 4 ≤ t) (hdp : dpt rr ≤ 8) (hg0 : 0 ≤ o) (w1 : (Cond.methodLink own i Lib.objectInit) ∈ lw_u) (w2 : (Cond.instanceMethod Lib.objectInit) ∈ lw_u) (w3 : (Cond.code Lib.objectInit ⟨#[0xb1]⟩ 1 none) ∈ lw_u) (hR : 1 ≤ R.frames ∧ 20 ≤ R.locals) (C : Cx p s m args c D ca sa b A cc own nL z N xs h0) (hk : ∀ L' S' h', k L' S' h' = some r → Cfg p l e R s m args below meth c D ca sa b A nL z g n0 h0 ad0 Q (pc + 3) L' S' h') (hd : decode cc pc = .ok (.invokespecial i, 3)) (H : k L rr h = some r) : Cfg p l e R s m args below meth c D ca sa b A nL z g n0 h0 ad0 Q pc L ((t, o) :: rr) h := by
  intro ad Hh locs ls q
  rw [List.map_cons, cv_ok ht hg0]
  exact W.objInit C.1 C.2.1 C.2.2.2.1 (C.2.2.2.2.1 _ w1) (C.2.2.2.2.1 _ w2) (C.2.2.2.2.1 _ w3) rfl (by rw [C.2.2.1]; exact q.2.2.1.1) rfl hd hR.1 (by rw [dpt_cat]; show 2 * 0 + _ + 12 ≤ _; omega) (hk _ _ _ H ad Hh locs ls (q.stk (OKS.tl q.2.2.2.2.1)))
end
