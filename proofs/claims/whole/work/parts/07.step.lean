/-! ONE STEP: what the abstract machine does, the machine does. -/
/-- a value of a kind on the stack or among the locals -/
def okz (z g : Bool) (n t : Nat) (v : Int) : Prop := match t with
  | 3 => z = true ∧ v = 0
  | t => okv g n t v
def OKS (z g : Bool) (n : Nat) (S : List AV) : Prop := ∀ v ∈ S, okz z g n v.1 v.2
def OKL (z g : Bool) (n : Nat) (L : Lc) : Prop := ∀ q ∈ L, okz z g n q.2.1 q.2.2
/-- what stays of a heap: the script -/
def NE (h0 h : Hp) : Prop := h (-2) = h0 (-2) ∧ h (-1) 1 = h0 (-1) 1
def SH (z : Bool) (N : Nat) (xs : Nat → Int32) (h : Hp) : Prop := z = true → h (-1) 1 = Int.ofNat N ∧ N < 2147483648 ∧ ∀ i : Nat, i < N → h (-2) (Int.ofNat i) = (xs i).toInt
def cvl (ad sa : Nat → Nat) (b : Nat) (L : Lc) : List (Nat × Value) := L.map (fun q => (q.1, cv ad sa b q.2))
/-- how many slots the first cells have -/
def slc (n : Nat) : Nat := ((List.range n).map (fun k => isz (kd k))).sum
section
variable {p : Program} {l : Launch} {e : Env} {R : Room} {s : State} {m : MethodId} {args : Array Value} {below : List Frame} {meth : Method} {c : Code}
variable {D : va_G} {ca : Nat → ClassId} {sa : Nat → Nat} {b : Nat} {A : Nat → Prop} {cc : ByteArray} {own : String} {nL : Nat} {z g : Bool} {N : Nat} {xs : Nat → Int32} {n0 : Nat} {h0 : Hp} {ad0 : Nat → Nat} {Q : State → Prop}
def Cx (p : Program) (s : State) (m : MethodId) (args : Array Value) (c : Code) (D : va_G) (ca : Nat → ClassId) (sa : Nat → Nat) (b : Nat) (A : Nat → Prop) (cc : ByteArray) (own : String) (nL : Nat) (z : Bool) (N : Nat) (xs : Nat → Int32) (h0 : Hp) : Prop :=
  p.tables.exec = Jvm.exec ∧ c.code = cc ∧ c.maxLocals = nL ∧ s.vm.findClass own = some m.cls ∧ (∀ w ∈ lw_u, w.before args s = true) ∧ va_K D vwCl (tysl ca) s ∧ SW sa A s s.heap ∧ (∀ q, s.heap.size ≤ q → A q) ∧ (z = true → va_X b N xs s s.heap ∧ b < s.heap.size ∧ ¬ A b) ∧ SH z N xs h0
def Sat (s : State) (D : va_G) (ca : Nat → ClassId) (sa : Nat → Nat) (b : Nat) (A : Nat → Prop) (nL : Nat) (z g : Bool) (n0 : Nat) (h0 : Hp) (ad0 : Nat → Nat) (L : Lc) (S : List AV) (h : Hp) (ad : Nat → Nat) (H : Heap) (locs : List Loc) (ls : Array Slot) : Prop :=
  Wl D ca A g ad h H ∧ va_S A s.heap H locs ∧ lv_has ls nL (cvl ad sa b L) ∧ OKL z g (nOf h) L ∧ OKS z g (nOf h) S ∧ NE h0 h ∧ n0 ≤ nOf h ∧ ∀ k, k < n0 → ad k = ad0 k
def Cfg (p : Program) (l : Launch) (e : Env) (R : Room) (s : State) (m : MethodId) (args : Array Value) (below : List Frame) (meth : Method) (c : Code) (D : va_G) (ca : Nat → ClassId) (sa : Nat → Nat) (b : Nat) (A : Nat → Prop) (nL : Nat) (z g : Bool) (n0 : Nat) (h0 : Hp) (ad0 : Nat → Nat) (Q : State → Prop) (pc : Nat) (L : Lc) (S : List AV) (h : Hp) : Prop :=
  ∀ (ad : Nat → Nat) (H : Heap) (locs : List Loc) (ls : Array Slot), Sat s D ca sa b A nL z g n0 h0 ad0 L S h ad H locs ls → W p l e R s m args below meth c H locs (nOf h - n0) (slc (nOf h) - slc n0) Q (F0 m pc ls (S.map (cv ad sa b)))
theorem Sat.stk {L : Lc} {S S' : List AV} {h : Hp} {ad : Nat → Nat} {H : Heap} {locs : List Loc} {ls : Array Slot} (q : Sat s D ca sa b A nL z g n0 h0 ad0 L S h ad H locs ls) (hS : OKS z g (nOf h) S') : Sat s D ca sa b A nL z g n0 h0 ad0 L S' h ad H locs ls := by
  obtain ⟨q1, q2, q3, q4, q5, q6, q7, q8⟩ := q
  exact ⟨q1, q2, q3, q4, hS, q6, q7, q8⟩
theorem OKS.cons {n : Nat} {v : AV} {S : List AV} (h1 : okz z g n v.1 v.2) (h2 : OKS z g n S) : OKS z g n (v :: S) := fun q hq => by
  rcases List.mem_cons.mp hq with rfl | hq
  · exact h1
  · exact h2 q hq
theorem OKS.tl {n : Nat} {v : AV} {S : List AV} (h : OKS z g n (v :: S)) : OKS z g n S := fun q hq => h q (List.mem_cons_of_mem _ hq)
theorem OKS.hd {n : Nat} {v : AV} {S : List AV} (h : OKS z g n (v :: S)) : okz z g n v.1 v.2 := h v List.mem_cons_self
theorem ok0 {n : Nat} {x : Int} (h1 : -2147483648 ≤ x) (h2 : x < 2147483648) : okz z g n 0 x := ⟨h1, h2⟩
theorem ok1 {n : Nat} {x : Int} (h1 : -9223372036854775808 ≤ x) (h2 : x < 9223372036854775808) : okz z g n 1 x := ⟨h1, h2⟩
/-! locals -/
theorem nbq (a b : Nat) : Nat.beq a b = (a == b) := by
  rw [Bool.eq_iff_iff, Nat.beq_eq, beq_iff_eq]
theorem cv_cat {ad sa : Nat → Nat} {b : Nat} {v : AV} : (cv ad sa b v).category = if v.1 = 1 then 2 else 1 := by
  obtain ⟨t, x⟩ := v
  unfold cv
  split <;> (rename_i h9; dsimp only at h9) <;> try (subst h9; rfl)
  rename_i h0 h1 h2 h3
  have e1 : ¬ (t, x).1 = 1 := fun q => h2 q
  rw [if_neg e1]
  show (if x < 0 then Value.null else Value.ref (ad x.toNat)).category = 1
  by_cases hx : x < 0
  · simp only [hx, if_true]; rfl
  · simp only [hx, if_false]; rfl
theorem ldT_some {ρ : Type} {L : Lc} {i t : Nat} {K : Int → Option ρ} {r : ρ} (h : ldT L i t K = some r) : ∃ (x : Int) (k : Nat), L[k]? = some (i, t, x) ∧ K x = some r := by
  induction L with
  | nil => cases h
  | cons q L ih =>
    obtain ⟨j, v⟩ := q
    unfold ldT at h
    split at h
    · rename_i hj
      split at h
      · rename_i ht
        exact ⟨v.2, 0, by rw [List.getElem?_cons_zero, Nat.eq_of_beq_eq_true hj, ← Nat.eq_of_beq_eq_true ht], h⟩
      · cases h
    · obtain ⟨x, k, h1, h2⟩ := ih h
      exact ⟨x, k + 1, by rw [List.getElem?_cons_succ]; exact h1, h2⟩
theorem ldR_some {ρ : Type} {L : Lc} {i : Nat} {K : Nat → Int → Option ρ} {r : ρ} (h : ldR L i K = some r) : ∃ (t : Nat) (x : Int) (k : Nat), L[k]? = some (i, t, x) ∧ 2 ≤ t ∧ K t x = some r := by
  induction L with
  | nil => cases h
  | cons q L ih =>
    obtain ⟨j, tg, x9⟩ := q
    unfold ldR at h
    split at h
    · rename_i hj
      split at h
      · rename_i ht
        exact ⟨tg, x9, 0, by rw [List.getElem?_cons_zero, Nat.eq_of_beq_eq_true hj], Nat.le_of_ble_eq_true ht, h⟩
      · cases h
    · obtain ⟨t, x, k, h1, h2⟩ := ih h
      exact ⟨t, x, k + 1, by rw [List.getElem?_cons_succ]; exact h1, h2⟩
theorem flt1_eq {ρ : Type} (L : Lc) (i : Nat) (K : Lc → Option ρ) : flt1 L i K = K (L.filter (fun q => kp1 i q.1 q.2.1)) := by
  induction L generalizing K with
  | nil => rfl
  | cons q L ih =>
    obtain ⟨j, v⟩ := q
    unfold flt1
    rw [ih]
    cases hk : kp1 i j v.1 with
    | true => rw [List.filter_cons_of_pos (by exact hk)]
    | false => rw [List.filter_cons_of_neg (by simp [hk])]
theorem flt2_eq {ρ : Type} (L : Lc) (i : Nat) (K : Lc → Option ρ) : flt2 L i K = K (L.filter (fun q => kp2 i q.1 q.2.1)) := by
  induction L generalizing K with
  | nil => rfl
  | cons q L ih =>
    obtain ⟨j, v⟩ := q
    unfold flt2
    rw [ih]
    cases hk : kp2 i j v.1 with
    | true => rw [List.filter_cons_of_pos (by exact hk)]
    | false => rw [List.filter_cons_of_neg (by simp [hk])]
theorem cvl_kp1 {ad sa : Nat → Nat} {b : Nat} (i : Nat) (L : Lc) : (cvl ad sa b L).filter (fun q => !(q.1 == i) && !(q.1 + 1 == i && q.2.category == 2)) = cvl ad sa b (L.filter (fun q => kp1 i q.1 q.2.1)) := by
  unfold cvl
  rw [List.filter_map]
  congr 1
  apply List.filter_congr
  intro q _
  show (!(q.1 == i) && !(q.1 + 1 == i && (cv ad sa b q.2).category == 2)) = kp1 i q.1 q.2.1
  rw [cv_cat]
  unfold kp1
  rw [nbq, nbq, nbq]
  by_cases h1 : q.2.1 = 1
  · rw [if_pos h1, h1]; rfl
  · rw [if_neg h1, beq_eq_false_iff_ne.mpr h1]; rfl
theorem cvl_kp2 {ad sa : Nat → Nat} {b : Nat} (i : Nat) (L : Lc) : (cvl ad sa b L).filter (fun q => !(q.1 == i) && (!(q.1 == i + 1) && !(q.1 + 1 == i && q.2.category == 2))) = cvl ad sa b (L.filter (fun q => kp2 i q.1 q.2.1)) := by
  unfold cvl
  rw [List.filter_map]
  congr 1
  apply List.filter_congr
  intro q _
  show (!(q.1 == i) && (!(q.1 == i + 1) && !(q.1 + 1 == i && (cv ad sa b q.2).category == 2))) = kp2 i q.1 q.2.1
  rw [cv_cat]
  unfold kp2
  rw [nbq, nbq, nbq, nbq]
  by_cases h1 : q.2.1 = 1
  · rw [if_pos h1, h1]; rfl
  · rw [if_neg h1, beq_eq_false_iff_ne.mpr h1]; rfl
theorem OKL.flt {n : Nat} {L : Lc} {f : Nat × AV → Bool} (h : OKL z g n L) : OKL z g n (L.filter f) := fun q hq => h q (List.mem_filter.mp hq).1
theorem OKL.cons {n : Nat} {i : Nat} {v : AV} {L : Lc} (h1 : okz z g n v.1 v.2) (h2 : OKL z g n L) : OKL z g n ((i, v) :: L) := fun q hq => by
  rcases List.mem_cons.mp hq with rfl | hq
  · exact h1
  · exact h2 q hq
theorem cvl_at {ad sa : Nat → Nat} {b : Nat} {L : Lc} {k i : Nat} {v : AV} (h : L[k]? = some (i, v)) : (cvl ad sa b L)[k]? = some (i, cv ad sa b v) := by
  unfold cvl
  rw [List.getElem?_map, h]; rfl
end
