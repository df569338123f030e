/-! PLAIN INSTRUCTIONS over the machine. -/
section
variable {p : Program} {l : Launch} {e : Env} {R : Room} {s : State} {m : MethodId} {args : Array Value} {below : List Frame} {meth : Method} {c : Code}
variable {D : va_G} {ca : Nat → ClassId} {sa : Nat → Nat} {b : Nat} {A : Nat → Prop} {cc : ByteArray} {own : String} {nL : Nat} {z g : Bool} {N : Nat} {xs : Nat → Int32} {n0 : Nat} {h0 : Hp} {ad0 : Nat → Nat} {Q : State → Prop}
theorem cv0 {ad sa : Nat → Nat} {b : Nat} {x : Int} : cv ad sa b (0, x) = .int (Int32.ofInt x) := rfl
theorem cv1 {ad sa : Nat → Nat} {b : Nat} {x : Int} : cv ad sa b (1, x) = .long (Int64.ofInt x) := rfl
theorem cv2 {ad sa : Nat → Nat} {b : Nat} {x : Int} : cv ad sa b (2, x) = .ref (sa x.toNat) := rfl
theorem cv3 {ad sa : Nat → Nat} {b : Nat} {x : Int} : cv ad sa b (3, x) = .ref b := rfl
theorem cv4 {ad sa : Nat → Nat} {b t : Nat} {x : Int} (h : 4 ≤ t) : cv ad sa b (t, x) = if x < 0 then .null else .ref (ad x.toNat) := by
  obtain ⟨u, rfl⟩ : ∃ u, t = u + 4 := ⟨t - 4, by omega⟩
  exact rfl
variable {ρ : Type} {pc len : Nat} {k : Lc → List AV → Hp → Option ρ} {j : Nat → Lc → List AV → Hp → Option ρ} {L : Lc} {h : Hp} {r : ρ}
theorem p_iload {i : Nat} {S : List AV} (C : Cx p s m args c D ca sa b A cc own nL z N xs h0) (hk : ∀ L' S' h', k L' S' h' = some r → Cfg p l e R s m args below meth c D ca sa b A nL z g n0 h0 ad0 Q (pc + len) L' S' h') (hd : (decode cc pc = .ok (.iload i, 2) ∧ len = 2) ∨ ∃ f : Fin 4, i = f.val ∧ decode cc pc = .ok (.iload_n f, 1) ∧ len = 1) (H : ldT L i 0 (fun x => k L ((0, x) :: S) h) = some r) : Cfg p l e R s m args below meth c D ca sa b A nL z g n0 h0 ad0 Q pc L S h := by
  obtain ⟨x, kk, hl, hx⟩ := ldT_some H
  intro ad Hh locs ls q
  have hat := lv_at q.2.2.1 kk (cvl_at hl)
  have hok := q.2.2.2.1 _ (List.mem_of_getElem? hl)
  rcases hd with ⟨hd, rfl⟩ | ⟨f, rfl, hd, rfl⟩
  · exact lv_iload C.1 C.2.1 hd hat (hk _ _ _ hx ad Hh locs ls (q.stk (OKS.cons hok q.2.2.2.2.1)))
  · exact lv_iload_n C.1 C.2.1 hd rfl hat (hk _ _ _ hx ad Hh locs ls (q.stk (OKS.cons hok q.2.2.2.2.1)))
theorem p_lload {i : Nat} {S : List AV} (C : Cx p s m args c D ca sa b A cc own nL z N xs h0) (hk : ∀ L' S' h', k L' S' h' = some r → Cfg p l e R s m args below meth c D ca sa b A nL z g n0 h0 ad0 Q (pc + len) L' S' h') (hd : (decode cc pc = .ok (.lload i, 2) ∧ len = 2) ∨ ∃ f : Fin 4, i = f.val ∧ decode cc pc = .ok (.lload_n f, 1) ∧ len = 1) (H : ldT L i 1 (fun x => k L ((1, x) :: S) h) = some r) : Cfg p l e R s m args below meth c D ca sa b A nL z g n0 h0 ad0 Q pc L S h := by
  obtain ⟨x, kk, hl, hx⟩ := ldT_some H
  intro ad Hh locs ls q
  have hat := lv_at q.2.2.1 kk (cvl_at hl)
  have hok := q.2.2.2.1 _ (List.mem_of_getElem? hl)
  rcases hd with ⟨hd, rfl⟩ | ⟨f, rfl, hd, rfl⟩
  · exact lv_lload C.1 C.2.1 hd hat (hk _ _ _ hx ad Hh locs ls (q.stk (OKS.cons hok q.2.2.2.2.1)))
  · exact lv_lload_n C.1 C.2.1 hd rfl hat (hk _ _ _ hx ad Hh locs ls (q.stk (OKS.cons hok q.2.2.2.2.1)))
theorem cv_ref {ad : Nat → Nat} {t : Nat} {x : Int} {n : Nat} (ht : 2 ≤ t) (h : okz z g n t x) : cv ad sa b (t, x) = .null ∨ ∃ a, cv ad sa b (t, x) = .ref a := by
  match t, ht, h with
  | 2, _, _ => exact Or.inr ⟨_, rfl⟩
  | 3, _, _ => exact Or.inr ⟨_, rfl⟩
  | t + 4, _, _ =>
    rw [cv4 (Nat.le_add_left 4 t)]
    by_cases hx : x < 0
    · exact Or.inl (if_pos hx)
    · exact Or.inr ⟨_, if_neg hx⟩
theorem p_aload {i : Nat} {S : List AV} (C : Cx p s m args c D ca sa b A cc own nL z N xs h0) (hk : ∀ L' S' h', k L' S' h' = some r → Cfg p l e R s m args below meth c D ca sa b A nL z g n0 h0 ad0 Q (pc + len) L' S' h') (hd : (decode cc pc = .ok (.aload i, 2) ∧ len = 2) ∨ ∃ f : Fin 4, i = f.val ∧ decode cc pc = .ok (.aload_n f, 1) ∧ len = 1) (H : ldR L i (fun t x => k L ((t, x) :: S) h) = some r) : Cfg p l e R s m args below meth c D ca sa b A nL z g n0 h0 ad0 Q pc L S h := by
  obtain ⟨t, x, kk, hl, ht, hx⟩ := ldR_some H
  intro ad Hh locs ls q
  have hat := lv_at q.2.2.1 kk (cvl_at hl)
  have hok := q.2.2.2.1 _ (List.mem_of_getElem? hl)
  have hnx := hk _ _ _ hx ad Hh locs ls (q.stk (OKS.cons hok q.2.2.2.2.1))
  rw [List.map_cons] at hnx
  rcases cv_ref (ad := ad) (sa := sa) (b := b) ht hok with he | ⟨a, he⟩
  · rw [he] at hat hnx
    rcases hd with ⟨hd, rfl⟩ | ⟨f, rfl, hd, rfl⟩
    · exact lv_aloadN C.1 C.2.1 hd hat hnx
    · exact lv_aload_nN C.1 C.2.1 hd rfl hat hnx
  · rw [he] at hat hnx
    rcases hd with ⟨hd, rfl⟩ | ⟨f, rfl, hd, rfl⟩
    · exact lv_aload C.1 C.2.1 hd hat hnx
    · exact lv_aload_n C.1 C.2.1 hd rfl hat hnx
theorem Sat.loc {L L' : Lc} {S S' : List AV} {h : Hp} {ad : Nat → Nat} {H : Heap} {locs : List Loc} {ls ls' : Array Slot} (q : Sat s D ca sa b A nL z g n0 h0 ad0 L S h ad H locs ls) (hl : lv_has ls' nL (cvl ad sa b L')) (hL : OKL z g (nOf h) L') (hS : OKS z g (nOf h) S') : Sat s D ca sa b A nL z g n0 h0 ad0 L' S' h ad H locs ls' := by
  obtain ⟨q1, q2, q3, q4, q5, q6, q7, q8⟩ := q
  exact ⟨q1, q2, hl, hL, hS, q6, q7, q8⟩
theorem p_istore {i : Nat} {x : Int} {rr : List AV} (hi : i < nL) (C : Cx p s m args c D ca sa b A cc own nL z N xs h0) (hk : ∀ L' S' h', k L' S' h' = some r → Cfg p l e R s m args below meth c D ca sa b A nL z g n0 h0 ad0 Q (pc + len) L' S' h') (hd : (decode cc pc = .ok (.istore i, 2) ∧ len = 2) ∨ ∃ f : Fin 4, i = f.val ∧ decode cc pc = .ok (.istore_n f, 1) ∧ len = 1) (H : ltt x (fun y => st1 L i (0, y) (fun L' => k L' rr h)) = some r) : Cfg p l e R s m args below meth c D ca sa b A nL z g n0 h0 ad0 Q pc L ((0, x) :: rr) h := by
  simp only [ltt, st1, flt1_eq] at H
  intro ad Hh locs ls q
  have ho := OKS.hd q.2.2.2.2.1
  have hnx := fun ls' hl => hk _ _ _ H ad Hh locs ls' (q.loc hl (OKL.cons (v := (0, x)) ho (OKL.flt q.2.2.2.1)) (OKS.tl q.2.2.2.2.1))
  have hlv := cvl_kp1 (ad := ad) (sa := sa) (b := b) i L
  rcases hd with ⟨hd, rfl⟩ | ⟨f, rfl, hd, rfl⟩
  · exact lv_istore C.1 C.2.1 hd q.2.2.1 hi (by rw [hlv]; rfl) hnx
  · exact lv_istore_n C.1 C.2.1 hd rfl q.2.2.1 hi (by rw [hlv]; rfl) hnx
theorem p_lstore {i : Nat} {x : Int} {rr : List AV} (hi : i + 1 < nL) (C : Cx p s m args c D ca sa b A cc own nL z N xs h0) (hk : ∀ L' S' h', k L' S' h' = some r → Cfg p l e R s m args below meth c D ca sa b A nL z g n0 h0 ad0 Q (pc + len) L' S' h') (hd : (decode cc pc = .ok (.lstore i, 2) ∧ len = 2) ∨ ∃ f : Fin 4, i = f.val ∧ decode cc pc = .ok (.lstore_n f, 1) ∧ len = 1) (H : ltt x (fun y => st2 L i (1, y) (fun L' => k L' rr h)) = some r) : Cfg p l e R s m args below meth c D ca sa b A nL z g n0 h0 ad0 Q pc L ((1, x) :: rr) h := by
  simp only [ltt, st2, flt2_eq] at H
  intro ad Hh locs ls q
  have ho := OKS.hd q.2.2.2.2.1
  have hnx := fun ls' hl => hk _ _ _ H ad Hh locs ls' (q.loc hl (OKL.cons (v := (1, x)) ho (OKL.flt q.2.2.2.1)) (OKS.tl q.2.2.2.2.1))
  have hlv := cvl_kp2 (ad := ad) (sa := sa) (b := b) i L
  rcases hd with ⟨hd, rfl⟩ | ⟨f, rfl, hd, rfl⟩
  · exact lv_lstore C.1 C.2.1 hd q.2.2.1 hi (by rw [hlv]; rfl) hnx
  · exact lv_lstore_n C.1 C.2.1 hd rfl q.2.2.1 hi (by rw [hlv]; rfl) hnx
theorem p_astore {i t : Nat} {x : Int} {rr : List AV} (hi : i < nL) (ht : 4 ≤ t) (C : Cx p s m args c D ca sa b A cc own nL z N xs h0) (hk : ∀ L' S' h', k L' S' h' = some r → Cfg p l e R s m args below meth c D ca sa b A nL z g n0 h0 ad0 Q (pc + len) L' S' h') (hd : (decode cc pc = .ok (.astore i, 2) ∧ len = 2) ∨ ∃ f : Fin 4, i = f.val ∧ decode cc pc = .ok (.astore_n f, 1) ∧ len = 1) (H : st1 L i (t, x) (fun L' => k L' rr h) = some r) : Cfg p l e R s m args below meth c D ca sa b A nL z g n0 h0 ad0 Q pc L ((t, x) :: rr) h := by
  simp only [st1, flt1_eq] at H
  intro ad Hh locs ls q
  have ho := OKS.hd q.2.2.2.2.1
  have hnx := fun ls' hl => hk _ _ _ H ad Hh locs ls' (q.loc hl (OKL.cons (v := (t, x)) ho (OKL.flt q.2.2.2.1)) (OKS.tl q.2.2.2.2.1))
  have hlv := cvl_kp1 (ad := ad) (sa := sa) (b := b) i L
  rw [List.map_cons]
  unfold cvl at hnx
  rw [List.map_cons] at hnx
  rcases cv_ref (ad := ad) (sa := sa) (b := b) (Nat.le_trans (by decide) ht) ho with he | ⟨a, he⟩
  · rw [he] at hnx ⊢
    rcases hd with ⟨hd, rfl⟩ | ⟨f, rfl, hd, rfl⟩
    · exact lv_astoreN C.1 C.2.1 hd q.2.2.1 hi (by rw [hlv]; rfl) hnx
    · exact lv_astore_nN C.1 C.2.1 hd rfl q.2.2.1 hi (by rw [hlv]; rfl) hnx
  · rw [he] at hnx ⊢
    rcases hd with ⟨hd, rfl⟩ | ⟨f, rfl, hd, rfl⟩
    · exact lv_astore C.1 C.2.1 hd q.2.2.1 hi (by rw [hlv]; rfl) hnx
    · exact lv_astore_n C.1 C.2.1 hd rfl q.2.2.1 hi (by rw [hlv]; rfl) hnx
theorem p_iinc {i : Nat} {cn : Int} {S : List AV} (hi : i < nL) (hc : -32768 ≤ cn ∧ cn ≤ 32767) (C : Cx p s m args c D ca sa b A cc own nL z N xs h0) (hk : ∀ L' S' h', k L' S' h' = some r → Cfg p l e R s m args below meth c D ca sa b A nL z g n0 h0 ad0 Q (pc + 3) L' S' h') (hd : decode cc pc = .ok (.iinc i cn, 3)) (H : ldT L i 0 (fun x => ltt (w32 (x + cn)) (fun y => st1 L i (0, y) (fun L' => k L' S h))) = some r) : Cfg p l e R s m args below meth c D ca sa b A nL z g n0 h0 ad0 Q pc L S h := by
  obtain ⟨x, kk, hl, hx⟩ := ldT_some H
  simp only [ltt, st1, flt1_eq] at hx
  intro ad Hh locs ls q
  have hnx := fun ls' hl => hk _ _ _ hx ad Hh locs ls' (q.loc hl (OKL.cons (v := (0, _)) (okw _) (OKL.flt q.2.2.2.1)) q.2.2.2.2.1)
  have hlv := cvl_kp1 (ad := ad) (sa := sa) (b := b) i L
  exact lv_iinc C.1 C.2.1 hd q.2.2.1 (cvl_at hl) (n_add x cn).symm hi (by rw [hlv]; rfl) hnx
theorem i8_of {x : Int} (h1 : -128 ≤ x) (h2 : x ≤ 127) : (Int8.ofInt x).toInt32 = Int32.ofInt x := by
  apply Int32.toInt_inj.mp
  rw [Int8.toInt_toInt32, Int8.toInt_ofInt_of_le (by omega) (by omega), i32_id (by omega) (by omega)]
theorem i16_of {x : Int} (h1 : -32768 ≤ x) (h2 : x ≤ 32767) : (Int16.ofInt x).toInt32 = Int32.ofInt x := by
  apply Int32.toInt_inj.mp
  rw [Int16.toInt_toInt32, Int16.toInt_ofInt_of_le (by omega) (by omega), i32_id (by omega) (by omega)]
theorem p_const {cn : Int} {S : List AV} (C : Cx p s m args c D ca sa b A cc own nL z N xs h0) (hk : ∀ L' S' h', k L' S' h' = some r → Cfg p l e R s m args below meth c D ca sa b A nL z g n0 h0 ad0 Q (pc + len) L' S' h') (hd : (decode cc pc = .ok (.iconst cn, 1) ∧ len = 1 ∧ -128 ≤ cn ∧ cn ≤ 127) ∨ (decode cc pc = .ok (.bipush cn, 2) ∧ len = 2 ∧ -128 ≤ cn ∧ cn ≤ 127) ∨ (decode cc pc = .ok (.sipush cn, 3) ∧ len = 3 ∧ -32768 ≤ cn ∧ cn ≤ 32767)) (H : k L ((0, cn) :: S) h = some r) : Cfg p l e R s m args below meth c D ca sa b A nL z g n0 h0 ad0 Q pc L S h := by
  intro ad Hh locs ls q
  have hnx := fun ho => hk _ _ _ H ad Hh locs ls (q.stk (OKS.cons (v := (0, cn)) ho q.2.2.2.2.1))
  rcases hd with ⟨hd, rfl, h1, h2⟩ | ⟨hd, rfl, h1, h2⟩ | ⟨hd, rfl, h1, h2⟩
  · exact lv_iconst (v := Int32.ofInt cn) C.1 C.2.1 hd rfl (hnx ⟨by omega, by omega⟩)
  · exact lv_bipush (v := Int32.ofInt cn) C.1 C.2.1 hd (i8_of h1 h2) (hnx ⟨by omega, by omega⟩)
  · exact lv_sipush (v := Int32.ofInt cn) C.1 C.2.1 hd (i16_of h1 h2) (hnx ⟨by omega, by omega⟩)
theorem p_lconst {cn : Fin 2} {S : List AV} (C : Cx p s m args c D ca sa b A cc own nL z N xs h0) (hk : ∀ L' S' h', k L' S' h' = some r → Cfg p l e R s m args below meth c D ca sa b A nL z g n0 h0 ad0 Q (pc + 1) L' S' h') (hd : decode cc pc = .ok (.lconst cn, 1)) (H : k L ((1, Int.ofNat cn.val) :: S) h = some r) : Cfg p l e R s m args below meth c D ca sa b A nL z g n0 h0 ad0 Q pc L S h := by
  intro ad Hh locs ls q
  have h1 := cn.isLt
  exact lv_lconst (v := Int64.ofInt (Int.ofNat cn.val)) C.1 C.2.1 hd rfl (hk _ _ _ H ad Hh locs ls (q.stk (OKS.cons (v := (1, _)) ⟨by simp only [Int.ofNat_eq_natCast]; omega, by simp only [Int.ofNat_eq_natCast]; omega⟩ q.2.2.2.2.1)))
theorem p_ldc {i : Nat} {rv : Int} {S : List AV} (hc : (Cond.constant own i (Int32.ofInt rv)) ∈ lw_u) (h1 : -2147483648 ≤ rv) (h2 : rv < 2147483648) (C : Cx p s m args c D ca sa b A cc own nL z N xs h0) (hk : ∀ L' S' h', k L' S' h' = some r → Cfg p l e R s m args below meth c D ca sa b A nL z g n0 h0 ad0 Q (pc + len) L' S' h') (hd : (decode cc pc = .ok (.ldc i, 2) ∧ len = 2) ∨ (decode cc pc = .ok (.ldc_w i, 3) ∧ len = 3)) (H : k L ((0, rv) :: S) h = some r) : Cfg p l e R s m args below meth c D ca sa b A nL z g n0 h0 ad0 Q pc L S h := by
  intro ad Hh locs ls q
  have hnx := hk _ _ _ H ad Hh locs ls (q.stk (OKS.cons (v := (0, rv)) ⟨h1, h2⟩ q.2.2.2.2.1))
  rcases hd with ⟨hd, rfl⟩ | ⟨hd, rfl⟩
  · exact lv_ldc C.1 C.2.1 C.2.2.2.1 (C.2.2.2.2.1 _ hc) hd hnx
  · exact lv_ldcw C.1 C.2.1 C.2.2.2.1 (C.2.2.2.2.1 _ hc) hd hnx
theorem p_ldcS {i : Nat} {rv : Int} {S : List AV} (hc : (own, i, rv.toNat) ∈ strl) (h1 : 0 ≤ rv) (h2 : rv < 8) (C : Cx p s m args c D ca sa b A cc own nL z N xs h0) (hk : ∀ L' S' h', k L' S' h' = some r → Cfg p l e R s m args below meth c D ca sa b A nL z g n0 h0 ad0 Q (pc + 2) L' S' h') (hd : decode cc pc = .ok (.ldc i, 2)) (H : k L ((2, rv) :: S) h = some r) : Cfg p l e R s m args below meth c D ca sa b A nL z g n0 h0 ad0 Q pc L S h := by
  intro ad Hh locs ls q
  exact va_ldcS C.1 C.2.1 C.2.2.2.1 (C.2.2.2.2.2.2.1.2.2.1 _ hc) hd (hk _ _ _ H ad Hh locs ls (q.stk (OKS.cons (v := (2, rv)) ⟨h1, h2⟩ q.2.2.2.2.1)))
theorem p_ldc2 {i : Nat} {rv : Int} {S : List AV} (hc : (Cond.constantLong own i (Int64.ofInt rv)) ∈ lw_u) (h1 : -9223372036854775808 ≤ rv) (h2 : rv < 9223372036854775808) (C : Cx p s m args c D ca sa b A cc own nL z N xs h0) (hk : ∀ L' S' h', k L' S' h' = some r → Cfg p l e R s m args below meth c D ca sa b A nL z g n0 h0 ad0 Q (pc + 3) L' S' h') (hd : decode cc pc = .ok (.ldc2_w i, 3)) (H : k L ((1, rv) :: S) h = some r) : Cfg p l e R s m args below meth c D ca sa b A nL z g n0 h0 ad0 Q pc L S h := by
  intro ad Hh locs ls q
  exact lv_ldc2 C.1 C.2.1 C.2.2.2.1 (C.2.2.2.2.1 _ hc) hd (hk _ _ _ H ad Hh locs ls (q.stk (OKS.cons (v := (1, rv)) ⟨h1, h2⟩ q.2.2.2.2.1)))
theorem p_iadd {x y : Int} {rr : List AV} (C : Cx p s m args c D ca sa b A cc own nL z N xs h0) (hk : ∀ L' S' h', k L' S' h' = some r → Cfg p l e R s m args below meth c D ca sa b A nL z g n0 h0 ad0 Q (pc + 1) L' S' h') (hd : decode cc pc = .ok (.iadd, 1)) (H : k L ((0, w32 (x + y)) :: rr) h = some r) : Cfg p l e R s m args below meth c D ca sa b A nL z g n0 h0 ad0 Q pc L ((0, y) :: (0, x) :: rr) h := by
  intro ad Hh locs ls q
  have hy : okv g (nOf h) 0 y := OKS.hd q.2.2.2.2.1
  have hx : okv g (nOf h) 0 x := OKS.hd (OKS.tl q.2.2.2.2.1)
  have hnx := hk _ _ _ H ad Hh locs ls (q.stk (OKS.cons (v := (0, w32 (x + y))) (okw _) (OKS.tl (OKS.tl q.2.2.2.2.1))))
  simp only [List.map_cons, cv0, cv1] at hnx ⊢
  rw [n_add] at hnx
  exact lv_iadd C.1 C.2.1 hd hnx
theorem p_isub {x y : Int} {rr : List AV} (C : Cx p s m args c D ca sa b A cc own nL z N xs h0) (hk : ∀ L' S' h', k L' S' h' = some r → Cfg p l e R s m args below meth c D ca sa b A nL z g n0 h0 ad0 Q (pc + 1) L' S' h') (hd : decode cc pc = .ok (.isub, 1)) (H : k L ((0, w32 (x - y)) :: rr) h = some r) : Cfg p l e R s m args below meth c D ca sa b A nL z g n0 h0 ad0 Q pc L ((0, y) :: (0, x) :: rr) h := by
  intro ad Hh locs ls q
  have hy : okv g (nOf h) 0 y := OKS.hd q.2.2.2.2.1
  have hx : okv g (nOf h) 0 x := OKS.hd (OKS.tl q.2.2.2.2.1)
  have hnx := hk _ _ _ H ad Hh locs ls (q.stk (OKS.cons (v := (0, w32 (x - y))) (okw _) (OKS.tl (OKS.tl q.2.2.2.2.1))))
  simp only [List.map_cons, cv0, cv1] at hnx ⊢
  rw [n_sub] at hnx
  exact lv_isub C.1 C.2.1 hd hnx
theorem p_imul {x y : Int} {rr : List AV} (C : Cx p s m args c D ca sa b A cc own nL z N xs h0) (hk : ∀ L' S' h', k L' S' h' = some r → Cfg p l e R s m args below meth c D ca sa b A nL z g n0 h0 ad0 Q (pc + 1) L' S' h') (hd : decode cc pc = .ok (.imul, 1)) (H : k L ((0, w32 (x * y)) :: rr) h = some r) : Cfg p l e R s m args below meth c D ca sa b A nL z g n0 h0 ad0 Q pc L ((0, y) :: (0, x) :: rr) h := by
  intro ad Hh locs ls q
  have hy : okv g (nOf h) 0 y := OKS.hd q.2.2.2.2.1
  have hx : okv g (nOf h) 0 x := OKS.hd (OKS.tl q.2.2.2.2.1)
  have hnx := hk _ _ _ H ad Hh locs ls (q.stk (OKS.cons (v := (0, w32 (x * y))) (okw _) (OKS.tl (OKS.tl q.2.2.2.2.1))))
  simp only [List.map_cons, cv0, cv1] at hnx ⊢
  rw [n_mul] at hnx
  exact lv_imul C.1 C.2.1 hd hnx
theorem p_ladd {x y : Int} {rr : List AV} (C : Cx p s m args c D ca sa b A cc own nL z N xs h0) (hk : ∀ L' S' h', k L' S' h' = some r → Cfg p l e R s m args below meth c D ca sa b A nL z g n0 h0 ad0 Q (pc + 1) L' S' h') (hd : decode cc pc = .ok (.ladd, 1)) (H : k L ((1, w64 (x + y)) :: rr) h = some r) : Cfg p l e R s m args below meth c D ca sa b A nL z g n0 h0 ad0 Q pc L ((1, y) :: (1, x) :: rr) h := by
  intro ad Hh locs ls q
  have hy : okv g (nOf h) 1 y := OKS.hd q.2.2.2.2.1
  have hx : okv g (nOf h) 1 x := OKS.hd (OKS.tl q.2.2.2.2.1)
  have hnx := hk _ _ _ H ad Hh locs ls (q.stk (OKS.cons (v := (1, w64 (x + y))) (okW _) (OKS.tl (OKS.tl q.2.2.2.2.1))))
  simp only [List.map_cons, cv0, cv1] at hnx ⊢
  rw [l_add] at hnx
  exact lv_ladd C.1 C.2.1 hd hnx
theorem p_lsub {x y : Int} {rr : List AV} (C : Cx p s m args c D ca sa b A cc own nL z N xs h0) (hk : ∀ L' S' h', k L' S' h' = some r → Cfg p l e R s m args below meth c D ca sa b A nL z g n0 h0 ad0 Q (pc + 1) L' S' h') (hd : decode cc pc = .ok (.lsub, 1)) (H : k L ((1, w64 (x - y)) :: rr) h = some r) : Cfg p l e R s m args below meth c D ca sa b A nL z g n0 h0 ad0 Q pc L ((1, y) :: (1, x) :: rr) h := by
  intro ad Hh locs ls q
  have hy : okv g (nOf h) 1 y := OKS.hd q.2.2.2.2.1
  have hx : okv g (nOf h) 1 x := OKS.hd (OKS.tl q.2.2.2.2.1)
  have hnx := hk _ _ _ H ad Hh locs ls (q.stk (OKS.cons (v := (1, w64 (x - y))) (okW _) (OKS.tl (OKS.tl q.2.2.2.2.1))))
  simp only [List.map_cons, cv0, cv1] at hnx ⊢
  rw [l_sub] at hnx
  exact lv_lsub C.1 C.2.1 hd hnx
theorem p_lmul {x y : Int} {rr : List AV} (C : Cx p s m args c D ca sa b A cc own nL z N xs h0) (hk : ∀ L' S' h', k L' S' h' = some r → Cfg p l e R s m args below meth c D ca sa b A nL z g n0 h0 ad0 Q (pc + 1) L' S' h') (hd : decode cc pc = .ok (.lmul, 1)) (H : k L ((1, w64 (x * y)) :: rr) h = some r) : Cfg p l e R s m args below meth c D ca sa b A nL z g n0 h0 ad0 Q pc L ((1, y) :: (1, x) :: rr) h := by
  intro ad Hh locs ls q
  have hy : okv g (nOf h) 1 y := OKS.hd q.2.2.2.2.1
  have hx : okv g (nOf h) 1 x := OKS.hd (OKS.tl q.2.2.2.2.1)
  have hnx := hk _ _ _ H ad Hh locs ls (q.stk (OKS.cons (v := (1, w64 (x * y))) (okW _) (OKS.tl (OKS.tl q.2.2.2.2.1))))
  simp only [List.map_cons, cv0, cv1] at hnx ⊢
  rw [l_mul] at hnx
  exact lv_lmul C.1 C.2.1 hd hnx
theorem p_ineg {x : Int} {rr : List AV} (C : Cx p s m args c D ca sa b A cc own nL z N xs h0) (hk : ∀ L' S' h', k L' S' h' = some r → Cfg p l e R s m args below meth c D ca sa b A nL z g n0 h0 ad0 Q (pc + 1) L' S' h') (hd : decode cc pc = .ok (.ineg, 1)) (H : k L ((0, w32 (-x)) :: rr) h = some r) : Cfg p l e R s m args below meth c D ca sa b A nL z g n0 h0 ad0 Q pc L ((0, x) :: rr) h := by
  intro ad Hh locs ls q
  have hx : okv g (nOf h) 0 x := OKS.hd q.2.2.2.2.1
  have hnx := hk _ _ _ H ad Hh locs ls (q.stk (OKS.cons (v := (0, w32 (-x))) (okw _) (OKS.tl q.2.2.2.2.1)))
  simp only [List.map_cons, cv0, cv1] at hnx ⊢
  rw [n_neg] at hnx
  exact lv_ineg C.1 C.2.1 hd hnx
theorem p_lneg {x : Int} {rr : List AV} (C : Cx p s m args c D ca sa b A cc own nL z N xs h0) (hk : ∀ L' S' h', k L' S' h' = some r → Cfg p l e R s m args below meth c D ca sa b A nL z g n0 h0 ad0 Q (pc + 1) L' S' h') (hd : decode cc pc = .ok (.lneg, 1)) (H : k L ((1, w64 (-x)) :: rr) h = some r) : Cfg p l e R s m args below meth c D ca sa b A nL z g n0 h0 ad0 Q pc L ((1, x) :: rr) h := by
  intro ad Hh locs ls q
  have hx : okv g (nOf h) 1 x := OKS.hd q.2.2.2.2.1
  have hnx := hk _ _ _ H ad Hh locs ls (q.stk (OKS.cons (v := (1, w64 (-x))) (okW _) (OKS.tl q.2.2.2.2.1)))
  simp only [List.map_cons, cv0, cv1] at hnx ⊢
  rw [l_neg] at hnx
  exact lv_lneg C.1 C.2.1 hd hnx
theorem p_idiv {x y : Int} {rr : List AV} (hz : ¬ y = 0) (C : Cx p s m args c D ca sa b A cc own nL z N xs h0) (hk : ∀ L' S' h', k L' S' h' = some r → Cfg p l e R s m args below meth c D ca sa b A nL z g n0 h0 ad0 Q (pc + 1) L' S' h') (hd : decode cc pc = .ok (.idiv, 1)) (H : k L ((0, w32 (x.tdiv y)) :: rr) h = some r) : Cfg p l e R s m args below meth c D ca sa b A nL z g n0 h0 ad0 Q pc L ((0, y) :: (0, x) :: rr) h := by
  intro ad Hh locs ls q
  have hy : okv g (nOf h) 0 y := OKS.hd q.2.2.2.2.1
  have hx : okv g (nOf h) 0 x := OKS.hd (OKS.tl q.2.2.2.2.1)
  have hnx := hk _ _ _ H ad Hh locs ls (q.stk (OKS.cons (v := (0, w32 (x.tdiv y))) (okw _) (OKS.tl (OKS.tl q.2.2.2.2.1))))
  simp only [List.map_cons, cv0, cv1] at hnx ⊢
  rw [n_div hx hy] at hnx
  exact lv_idiv C.1 C.2.1 hd (fun q9 => hz ((i32_eq hy (ok00 : okv g (nOf h) 0 0)).mp q9)) hnx
theorem p_ldiv {x y : Int} {rr : List AV} (hz : ¬ y = 0) (C : Cx p s m args c D ca sa b A cc own nL z N xs h0) (hk : ∀ L' S' h', k L' S' h' = some r → Cfg p l e R s m args below meth c D ca sa b A nL z g n0 h0 ad0 Q (pc + 1) L' S' h') (hd : decode cc pc = .ok (.ldiv, 1)) (H : k L ((1, w64 (x.tdiv y)) :: rr) h = some r) : Cfg p l e R s m args below meth c D ca sa b A nL z g n0 h0 ad0 Q pc L ((1, y) :: (1, x) :: rr) h := by
  intro ad Hh locs ls q
  have hy : okv g (nOf h) 1 y := OKS.hd q.2.2.2.2.1
  have hx : okv g (nOf h) 1 x := OKS.hd (OKS.tl q.2.2.2.2.1)
  have hnx := hk _ _ _ H ad Hh locs ls (q.stk (OKS.cons (v := (1, w64 (x.tdiv y))) (okW _) (OKS.tl (OKS.tl q.2.2.2.2.1))))
  simp only [List.map_cons, cv0, cv1] at hnx ⊢
  rw [l_div hx hy] at hnx
  exact lv_ldiv C.1 C.2.1 hd (fun q9 => hz ((i64_eq hy (⟨by decide, by decide⟩ : okv g (nOf h) 1 0)).mp q9)) hnx
theorem p_irem {x y : Int} {rr : List AV} (hz : ¬ y = 0) (C : Cx p s m args c D ca sa b A cc own nL z N xs h0) (hk : ∀ L' S' h', k L' S' h' = some r → Cfg p l e R s m args below meth c D ca sa b A nL z g n0 h0 ad0 Q (pc + 1) L' S' h') (hd : decode cc pc = .ok (.irem, 1)) (H : k L ((0, w32 (x - w32 (w32 (x.tdiv y) * y))) :: rr) h = some r) : Cfg p l e R s m args below meth c D ca sa b A nL z g n0 h0 ad0 Q pc L ((0, y) :: (0, x) :: rr) h := by
  intro ad Hh locs ls q
  have hy : okv g (nOf h) 0 y := OKS.hd q.2.2.2.2.1
  have hx : okv g (nOf h) 0 x := OKS.hd (OKS.tl q.2.2.2.2.1)
  have hnx := hk _ _ _ H ad Hh locs ls (q.stk (OKS.cons (v := (0, w32 (x - w32 (w32 (x.tdiv y) * y)))) (okw _) (OKS.tl (OKS.tl q.2.2.2.2.1))))
  simp only [List.map_cons, cv0, cv1] at hnx ⊢
  rw [n_sub, n_mul, n_div hx hy] at hnx
  exact lv_irem C.1 C.2.1 hd (fun q9 => hz ((i32_eq hy (ok00 : okv g (nOf h) 0 0)).mp q9)) hnx
theorem p_iand {x y : Int} {rr : List AV} (C : Cx p s m args c D ca sa b A cc own nL z N xs h0) (hk : ∀ L' S' h', k L' S' h' = some r → Cfg p l e R s m args below meth c D ca sa b A nL z g n0 h0 ad0 Q (pc + 1) L' S' h') (hd : decode cc pc = .ok (.iand, 1)) (H : k L ((0, iand x y) :: rr) h = some r) : Cfg p l e R s m args below meth c D ca sa b A nL z g n0 h0 ad0 Q pc L ((0, y) :: (0, x) :: rr) h := by
  intro ad Hh locs ls q
  have hy : okv g (nOf h) 0 y := OKS.hd q.2.2.2.2.1
  have hx : okv g (nOf h) 0 x := OKS.hd (OKS.tl q.2.2.2.2.1)
  have hnx := hk _ _ _ H ad Hh locs ls (q.stk (OKS.cons (v := (0, iand x y)) (okI _) (OKS.tl (OKS.tl q.2.2.2.2.1))))
  simp only [List.map_cons, cv0, cv1] at hnx ⊢
  unfold iand at hnx
  rw [Int32.ofInt_toInt] at hnx
  exact lv_iand C.1 C.2.1 hd hnx
theorem p_ior {x y : Int} {rr : List AV} (C : Cx p s m args c D ca sa b A cc own nL z N xs h0) (hk : ∀ L' S' h', k L' S' h' = some r → Cfg p l e R s m args below meth c D ca sa b A nL z g n0 h0 ad0 Q (pc + 1) L' S' h') (hd : decode cc pc = .ok (.ior, 1)) (H : k L ((0, ior x y) :: rr) h = some r) : Cfg p l e R s m args below meth c D ca sa b A nL z g n0 h0 ad0 Q pc L ((0, y) :: (0, x) :: rr) h := by
  intro ad Hh locs ls q
  have hy : okv g (nOf h) 0 y := OKS.hd q.2.2.2.2.1
  have hx : okv g (nOf h) 0 x := OKS.hd (OKS.tl q.2.2.2.2.1)
  have hnx := hk _ _ _ H ad Hh locs ls (q.stk (OKS.cons (v := (0, ior x y)) (okI _) (OKS.tl (OKS.tl q.2.2.2.2.1))))
  simp only [List.map_cons, cv0, cv1] at hnx ⊢
  unfold ior at hnx
  rw [Int32.ofInt_toInt] at hnx
  exact lv_ior C.1 C.2.1 hd hnx
theorem p_ishl {x y : Int} {rr : List AV} (C : Cx p s m args c D ca sa b A cc own nL z N xs h0) (hk : ∀ L' S' h', k L' S' h' = some r → Cfg p l e R s m args below meth c D ca sa b A nL z g n0 h0 ad0 Q (pc + 1) L' S' h') (hd : decode cc pc = .ok (.ishl, 1)) (H : k L ((0, ishl x y) :: rr) h = some r) : Cfg p l e R s m args below meth c D ca sa b A nL z g n0 h0 ad0 Q pc L ((0, y) :: (0, x) :: rr) h := by
  intro ad Hh locs ls q
  have hy : okv g (nOf h) 0 y := OKS.hd q.2.2.2.2.1
  have hx : okv g (nOf h) 0 x := OKS.hd (OKS.tl q.2.2.2.2.1)
  have hnx := hk _ _ _ H ad Hh locs ls (q.stk (OKS.cons (v := (0, ishl x y)) (okI _) (OKS.tl (OKS.tl q.2.2.2.2.1))))
  simp only [List.map_cons, cv0, cv1] at hnx ⊢
  unfold ishl at hnx
  rw [Int32.ofInt_toInt] at hnx
  exact lv_ishl C.1 C.2.1 hd hnx
theorem p_ishr {x y : Int} {rr : List AV} (C : Cx p s m args c D ca sa b A cc own nL z N xs h0) (hk : ∀ L' S' h', k L' S' h' = some r → Cfg p l e R s m args below meth c D ca sa b A nL z g n0 h0 ad0 Q (pc + 1) L' S' h') (hd : decode cc pc = .ok (.ishr, 1)) (H : k L ((0, ishr x y) :: rr) h = some r) : Cfg p l e R s m args below meth c D ca sa b A nL z g n0 h0 ad0 Q pc L ((0, y) :: (0, x) :: rr) h := by
  intro ad Hh locs ls q
  have hy : okv g (nOf h) 0 y := OKS.hd q.2.2.2.2.1
  have hx : okv g (nOf h) 0 x := OKS.hd (OKS.tl q.2.2.2.2.1)
  have hnx := hk _ _ _ H ad Hh locs ls (q.stk (OKS.cons (v := (0, ishr x y)) (okI _) (OKS.tl (OKS.tl q.2.2.2.2.1))))
  simp only [List.map_cons, cv0, cv1] at hnx ⊢
  unfold ishr at hnx
  rw [Int32.ofInt_toInt] at hnx
  exact lv_ishr C.1 C.2.1 hd hnx
theorem p_iushr {x y : Int} {rr : List AV} (C : Cx p s m args c D ca sa b A cc own nL z N xs h0) (hk : ∀ L' S' h', k L' S' h' = some r → Cfg p l e R s m args below meth c D ca sa b A nL z g n0 h0 ad0 Q (pc + 1) L' S' h') (hd : decode cc pc = .ok (.iushr, 1)) (H : k L ((0, iushr x y) :: rr) h = some r) : Cfg p l e R s m args below meth c D ca sa b A nL z g n0 h0 ad0 Q pc L ((0, y) :: (0, x) :: rr) h := by
  intro ad Hh locs ls q
  have hy : okv g (nOf h) 0 y := OKS.hd q.2.2.2.2.1
  have hx : okv g (nOf h) 0 x := OKS.hd (OKS.tl q.2.2.2.2.1)
  have hnx := hk _ _ _ H ad Hh locs ls (q.stk (OKS.cons (v := (0, iushr x y)) (okI _) (OKS.tl (OKS.tl q.2.2.2.2.1))))
  simp only [List.map_cons, cv0, cv1] at hnx ⊢
  unfold iushr at hnx
  rw [Int32.ofInt_toInt] at hnx
  exact lv_iushr C.1 C.2.1 hd rfl hnx
theorem p_lor {x y : Int} {rr : List AV} (C : Cx p s m args c D ca sa b A cc own nL z N xs h0) (hk : ∀ L' S' h', k L' S' h' = some r → Cfg p l e R s m args below meth c D ca sa b A nL z g n0 h0 ad0 Q (pc + 1) L' S' h') (hd : decode cc pc = .ok (.lor, 1)) (H : k L ((1, lor x y) :: rr) h = some r) : Cfg p l e R s m args below meth c D ca sa b A nL z g n0 h0 ad0 Q pc L ((1, y) :: (1, x) :: rr) h := by
  intro ad Hh locs ls q
  have hy : okv g (nOf h) 1 y := OKS.hd q.2.2.2.2.1
  have hx : okv g (nOf h) 1 x := OKS.hd (OKS.tl q.2.2.2.2.1)
  have hnx := hk _ _ _ H ad Hh locs ls (q.stk (OKS.cons (v := (1, lor x y)) (okJ _) (OKS.tl (OKS.tl q.2.2.2.2.1))))
  simp only [List.map_cons, cv0, cv1] at hnx ⊢
  unfold lor at hnx
  rw [Int64.ofInt_toInt] at hnx
  exact lv_lor C.1 C.2.1 hd hnx
theorem p_lshl {x y : Int} {rr : List AV} (C : Cx p s m args c D ca sa b A cc own nL z N xs h0) (hk : ∀ L' S' h', k L' S' h' = some r → Cfg p l e R s m args below meth c D ca sa b A nL z g n0 h0 ad0 Q (pc + 1) L' S' h') (hd : decode cc pc = .ok (.lshl, 1)) (H : k L ((1, lshl x y) :: rr) h = some r) : Cfg p l e R s m args below meth c D ca sa b A nL z g n0 h0 ad0 Q pc L ((0, y) :: (1, x) :: rr) h := by
  intro ad Hh locs ls q
  have hnx := hk _ _ _ H ad Hh locs ls (q.stk (OKS.cons (v := (1, lshl x y)) (okJ _) (OKS.tl (OKS.tl q.2.2.2.2.1))))
  simp only [List.map_cons, cv0, cv1] at hnx ⊢
  unfold lshl at hnx
  rw [Int64.ofInt_toInt] at hnx
  exact lv_lshl C.1 C.2.1 hd rfl hnx
theorem p_lshr {x y : Int} {rr : List AV} (C : Cx p s m args c D ca sa b A cc own nL z N xs h0) (hk : ∀ L' S' h', k L' S' h' = some r → Cfg p l e R s m args below meth c D ca sa b A nL z g n0 h0 ad0 Q (pc + 1) L' S' h') (hd : decode cc pc = .ok (.lshr, 1)) (H : k L ((1, lshr x y) :: rr) h = some r) : Cfg p l e R s m args below meth c D ca sa b A nL z g n0 h0 ad0 Q pc L ((0, y) :: (1, x) :: rr) h := by
  intro ad Hh locs ls q
  have hnx := hk _ _ _ H ad Hh locs ls (q.stk (OKS.cons (v := (1, lshr x y)) (okJ _) (OKS.tl (OKS.tl q.2.2.2.2.1))))
  simp only [List.map_cons, cv0, cv1] at hnx ⊢
  unfold lshr at hnx
  rw [Int64.ofInt_toInt] at hnx
  exact lv_lshr C.1 C.2.1 hd rfl hnx
theorem p_lushr {x y : Int} {rr : List AV} (C : Cx p s m args c D ca sa b A cc own nL z N xs h0) (hk : ∀ L' S' h', k L' S' h' = some r → Cfg p l e R s m args below meth c D ca sa b A nL z g n0 h0 ad0 Q (pc + 1) L' S' h') (hd : decode cc pc = .ok (.lushr, 1)) (H : k L ((1, lushr x y) :: rr) h = some r) : Cfg p l e R s m args below meth c D ca sa b A nL z g n0 h0 ad0 Q pc L ((0, y) :: (1, x) :: rr) h := by
  intro ad Hh locs ls q
  have hnx := hk _ _ _ H ad Hh locs ls (q.stk (OKS.cons (v := (1, lushr x y)) (okJ _) (OKS.tl (OKS.tl q.2.2.2.2.1))))
  simp only [List.map_cons, cv0, cv1] at hnx ⊢
  unfold lushr at hnx
  rw [Int64.ofInt_toInt] at hnx
  exact lv_lushr C.1 C.2.1 hd rfl hnx
theorem p_lcmp {x y : Int} {rr : List AV} (C : Cx p s m args c D ca sa b A cc own nL z N xs h0) (hk : ∀ L' S' h', k L' S' h' = some r → Cfg p l e R s m args below meth c D ca sa b A nL z g n0 h0 ad0 Q (pc + 1) L' S' h') (hd : decode cc pc = .ok (.lcmp, 1)) (H : k L ((0, lcp x y) :: rr) h = some r) : Cfg p l e R s m args below meth c D ca sa b A nL z g n0 h0 ad0 Q pc L ((1, y) :: (1, x) :: rr) h := by
  intro ad Hh locs ls q
  have hy : okv g (nOf h) 1 y := OKS.hd q.2.2.2.2.1
  have hx : okv g (nOf h) 1 x := OKS.hd (OKS.tl q.2.2.2.2.1)
  have hnx := hk _ _ _ H ad Hh locs ls (q.stk (OKS.cons (v := (0, lcp x y)) (oklcp _ _) (OKS.tl (OKS.tl q.2.2.2.2.1))))
  simp only [List.map_cons, cv0, cv1] at hnx ⊢
  rw [← n_lcp hx hy] at hnx
  exact W.lcmp C.1 C.2.1 hd hnx
theorem p_i2l {x : Int} {rr : List AV} (C : Cx p s m args c D ca sa b A cc own nL z N xs h0) (hk : ∀ L' S' h', k L' S' h' = some r → Cfg p l e R s m args below meth c D ca sa b A nL z g n0 h0 ad0 Q (pc + 1) L' S' h') (hd : decode cc pc = .ok (.i2l, 1)) (H : k L ((1, x) :: rr) h = some r) : Cfg p l e R s m args below meth c D ca sa b A nL z g n0 h0 ad0 Q pc L ((0, x) :: rr) h := by
  intro ad Hh locs ls q
  have hx : okv g (nOf h) 0 x := OKS.hd q.2.2.2.2.1
  have hnx := hk _ _ _ H ad Hh locs ls (q.stk (OKS.cons (v := (1, x)) (⟨by have := hx.1; omega, by have := hx.2; omega⟩ : okv g (nOf h) 1 x) (OKS.tl q.2.2.2.2.1)))
  simp only [List.map_cons, cv0, cv1] at hnx ⊢
  exact lv_i2l C.1 C.2.1 hd (n_i2l hx) hnx
theorem p_l2i {x : Int} {rr : List AV} (C : Cx p s m args c D ca sa b A cc own nL z N xs h0) (hk : ∀ L' S' h', k L' S' h' = some r → Cfg p l e R s m args below meth c D ca sa b A nL z g n0 h0 ad0 Q (pc + 1) L' S' h') (hd : decode cc pc = .ok (.l2i, 1)) (H : k L ((0, w32 x) :: rr) h = some r) : Cfg p l e R s m args below meth c D ca sa b A nL z g n0 h0 ad0 Q pc L ((1, x) :: rr) h := by
  intro ad Hh locs ls q
  have hx : okv g (nOf h) 1 x := OKS.hd q.2.2.2.2.1
  have hnx := hk _ _ _ H ad Hh locs ls (q.stk (OKS.cons (v := (0, w32 x)) (okw _) (OKS.tl q.2.2.2.2.1)))
  simp only [List.map_cons, cv0, cv1] at hnx ⊢
  exact lv_l2i C.1 C.2.1 hd (l_l2i hx) hnx
theorem p_i2b {x : Int} {rr : List AV} (C : Cx p s m args c D ca sa b A cc own nL z N xs h0) (hk : ∀ L' S' h', k L' S' h' = some r → Cfg p l e R s m args below meth c D ca sa b A nL z g n0 h0 ad0 Q (pc + 1) L' S' h') (hd : decode cc pc = .ok (.i2b, 1)) (H : k L ((0, w8 x) :: rr) h = some r) : Cfg p l e R s m args below meth c D ca sa b A nL z g n0 h0 ad0 Q pc L ((0, x) :: rr) h := by
  intro ad Hh locs ls q
  have hx : okv g (nOf h) 0 x := OKS.hd q.2.2.2.2.1
  have hnx := hk _ _ _ H ad Hh locs ls (q.stk (OKS.cons (v := (0, w8 x)) (okw8 _) (OKS.tl q.2.2.2.2.1)))
  simp only [List.map_cons, cv0, cv1] at hnx ⊢
  exact lv_i2b C.1 C.2.1 hd (n_i2b hx) hnx
end
