/-! BRANCHES, copies. -/
section
variable {p : Program} {l : Launch} {e : Env} {R : Room} {s : State} {m : MethodId} {args : Array Value} {below : List Frame} {meth : Method} {c : Code}
variable {D : va_G} {ca : Nat → ClassId} {sa : Nat → Nat} {b : Nat} {A : Nat → Prop} {cc : ByteArray} {own : String} {nL : Nat} {z g : Bool} {N : Nat} {xs : Nat → Int32} {n0 : Nat} {h0 : Hp} {ad0 : Nat → Nat} {Q : State → Prop}
variable {ρ : Type} {pc len : Nat} {k : Lc → List AV → Hp → Option ρ} {j : Nat → Lc → List AV → Hp → Option ρ} {L : Lc} {h : Hp} {r : ρ}
theorem tgt_ok {pc : Nat} {off : Int} (h : 0 ≤ (pc : Int) + off) : (pc : Int) + off = (tgt pc off : Int) := by
  unfold tgt
  omega
theorem p_if_eq {x off : Int} {rr : List AV} (ho : 0 ≤ (pc : Int) + off) (C : Cx p s m args c D ca sa b A cc own nL z N xs h0) (hk : ∀ L' S' h', k L' S' h' = some r → Cfg p l e R s m args below meth c D ca sa b A nL z g n0 h0 ad0 Q (pc + 3) L' S' h') (hj : ∀ t L' S' h', j t L' S' h' = some r → Cfg p l e R s m args below meth c D ca sa b A nL z g n0 h0 ad0 Q t L' S' h') (hd : decode cc pc = .ok (.ifCond .eq off, 3)) (H : (if x = 0 then j (tgt pc off) L rr h else k L rr h) = some r) : Cfg p l e R s m args below meth c D ca sa b A nL z g n0 h0 ad0 Q pc L ((0, x) :: rr) h := by
  intro ad Hh locs ls q
  have hx : okv g (nOf h) 0 x := OKS.hd q.2.2.2.2.1
  have hq := q.stk (OKS.tl q.2.2.2.2.1)
  rw [List.map_cons, cv0]
  refine lv_if_eq C.1 C.2.1 hd (tgt_ok ho) (fun c9 => ?_) (fun c9 => ?_)
  · rw [if_pos ((i32_eq hx (ok00 : okv g (nOf h) 0 0)).mp c9)] at H
    exact hj _ _ _ _ H ad Hh locs ls hq
  · rw [if_neg (fun q9 => c9 ((i32_eq hx (ok00 : okv g (nOf h) 0 0)).mpr q9))] at H
    exact hk _ _ _ H ad Hh locs ls hq
theorem p_if_ne {x off : Int} {rr : List AV} (ho : 0 ≤ (pc : Int) + off) (C : Cx p s m args c D ca sa b A cc own nL z N xs h0) (hk : ∀ L' S' h', k L' S' h' = some r → Cfg p l e R s m args below meth c D ca sa b A nL z g n0 h0 ad0 Q (pc + 3) L' S' h') (hj : ∀ t L' S' h', j t L' S' h' = some r → Cfg p l e R s m args below meth c D ca sa b A nL z g n0 h0 ad0 Q t L' S' h') (hd : decode cc pc = .ok (.ifCond .ne off, 3)) (H : (if x ≠ 0 then j (tgt pc off) L rr h else k L rr h) = some r) : Cfg p l e R s m args below meth c D ca sa b A nL z g n0 h0 ad0 Q pc L ((0, x) :: rr) h := by
  intro ad Hh locs ls q
  have hx : okv g (nOf h) 0 x := OKS.hd q.2.2.2.2.1
  have hq := q.stk (OKS.tl q.2.2.2.2.1)
  rw [List.map_cons, cv0]
  refine lv_if_ne C.1 C.2.1 hd (tgt_ok ho) (fun c9 => ?_) (fun c9 => ?_)
  · rw [if_pos ((not_congr (i32_eq hx (ok00 : okv g (nOf h) 0 0))).mp c9)] at H
    exact hj _ _ _ _ H ad Hh locs ls hq
  · rw [if_neg (fun q9 => q9 ((i32_eq hx (ok00 : okv g (nOf h) 0 0)).mp c9))] at H
    exact hk _ _ _ H ad Hh locs ls hq
theorem p_if_lt {x off : Int} {rr : List AV} (ho : 0 ≤ (pc : Int) + off) (C : Cx p s m args c D ca sa b A cc own nL z N xs h0) (hk : ∀ L' S' h', k L' S' h' = some r → Cfg p l e R s m args below meth c D ca sa b A nL z g n0 h0 ad0 Q (pc + 3) L' S' h') (hj : ∀ t L' S' h', j t L' S' h' = some r → Cfg p l e R s m args below meth c D ca sa b A nL z g n0 h0 ad0 Q t L' S' h') (hd : decode cc pc = .ok (.ifCond .lt off, 3)) (H : (if x < 0 then j (tgt pc off) L rr h else k L rr h) = some r) : Cfg p l e R s m args below meth c D ca sa b A nL z g n0 h0 ad0 Q pc L ((0, x) :: rr) h := by
  intro ad Hh locs ls q
  have hx : okv g (nOf h) 0 x := OKS.hd q.2.2.2.2.1
  have hq := q.stk (OKS.tl q.2.2.2.2.1)
  rw [List.map_cons, cv0]
  refine lv_if_lt C.1 C.2.1 hd (tgt_ok ho) (fun c9 => ?_) (fun c9 => ?_)
  · rw [if_pos ((i32_lt hx (ok00 : okv g (nOf h) 0 0)).mp c9)] at H
    exact hj _ _ _ _ H ad Hh locs ls hq
  · rw [if_neg (fun q9 => c9 ((i32_lt hx (ok00 : okv g (nOf h) 0 0)).mpr q9))] at H
    exact hk _ _ _ H ad Hh locs ls hq
theorem p_if_ge {x off : Int} {rr : List AV} (ho : 0 ≤ (pc : Int) + off) (C : Cx p s m args c D ca sa b A cc own nL z N xs h0) (hk : ∀ L' S' h', k L' S' h' = some r → Cfg p l e R s m args below meth c D ca sa b A nL z g n0 h0 ad0 Q (pc + 3) L' S' h') (hj : ∀ t L' S' h', j t L' S' h' = some r → Cfg p l e R s m args below meth c D ca sa b A nL z g n0 h0 ad0 Q t L' S' h') (hd : decode cc pc = .ok (.ifCond .ge off, 3)) (H : (if 0 ≤ x then j (tgt pc off) L rr h else k L rr h) = some r) : Cfg p l e R s m args below meth c D ca sa b A nL z g n0 h0 ad0 Q pc L ((0, x) :: rr) h := by
  intro ad Hh locs ls q
  have hx : okv g (nOf h) 0 x := OKS.hd q.2.2.2.2.1
  have hq := q.stk (OKS.tl q.2.2.2.2.1)
  rw [List.map_cons, cv0]
  refine lv_if_ge C.1 C.2.1 hd (tgt_ok ho) (fun c9 => ?_) (fun c9 => ?_)
  · rw [if_pos ((i32_le (ok00 : okv g (nOf h) 0 0) hx).mp c9)] at H
    exact hj _ _ _ _ H ad Hh locs ls hq
  · rw [if_neg (fun q9 => c9 ((i32_le (ok00 : okv g (nOf h) 0 0) hx).mpr q9))] at H
    exact hk _ _ _ H ad Hh locs ls hq
theorem p_if_gt {x off : Int} {rr : List AV} (ho : 0 ≤ (pc : Int) + off) (C : Cx p s m args c D ca sa b A cc own nL z N xs h0) (hk : ∀ L' S' h', k L' S' h' = some r → Cfg p l e R s m args below meth c D ca sa b A nL z g n0 h0 ad0 Q (pc + 3) L' S' h') (hj : ∀ t L' S' h', j t L' S' h' = some r → Cfg p l e R s m args below meth c D ca sa b A nL z g n0 h0 ad0 Q t L' S' h') (hd : decode cc pc = .ok (.ifCond .gt off, 3)) (H : (if 0 < x then j (tgt pc off) L rr h else k L rr h) = some r) : Cfg p l e R s m args below meth c D ca sa b A nL z g n0 h0 ad0 Q pc L ((0, x) :: rr) h := by
  intro ad Hh locs ls q
  have hx : okv g (nOf h) 0 x := OKS.hd q.2.2.2.2.1
  have hq := q.stk (OKS.tl q.2.2.2.2.1)
  rw [List.map_cons, cv0]
  refine lv_if_gt C.1 C.2.1 hd (tgt_ok ho) (fun c9 => ?_) (fun c9 => ?_)
  · rw [if_pos ((i32_lt (ok00 : okv g (nOf h) 0 0) hx).mp c9)] at H
    exact hj _ _ _ _ H ad Hh locs ls hq
  · rw [if_neg (fun q9 => c9 ((i32_lt (ok00 : okv g (nOf h) 0 0) hx).mpr q9))] at H
    exact hk _ _ _ H ad Hh locs ls hq
theorem p_if_le {x off : Int} {rr : List AV} (ho : 0 ≤ (pc : Int) + off) (C : Cx p s m args c D ca sa b A cc own nL z N xs h0) (hk : ∀ L' S' h', k L' S' h' = some r → Cfg p l e R s m args below meth c D ca sa b A nL z g n0 h0 ad0 Q (pc + 3) L' S' h') (hj : ∀ t L' S' h', j t L' S' h' = some r → Cfg p l e R s m args below meth c D ca sa b A nL z g n0 h0 ad0 Q t L' S' h') (hd : decode cc pc = .ok (.ifCond .le off, 3)) (H : (if x ≤ 0 then j (tgt pc off) L rr h else k L rr h) = some r) : Cfg p l e R s m args below meth c D ca sa b A nL z g n0 h0 ad0 Q pc L ((0, x) :: rr) h := by
  intro ad Hh locs ls q
  have hx : okv g (nOf h) 0 x := OKS.hd q.2.2.2.2.1
  have hq := q.stk (OKS.tl q.2.2.2.2.1)
  rw [List.map_cons, cv0]
  refine lv_if_le C.1 C.2.1 hd (tgt_ok ho) (fun c9 => ?_) (fun c9 => ?_)
  · rw [if_pos ((i32_le hx (ok00 : okv g (nOf h) 0 0)).mp c9)] at H
    exact hj _ _ _ _ H ad Hh locs ls hq
  · rw [if_neg (fun q9 => c9 ((i32_le hx (ok00 : okv g (nOf h) 0 0)).mpr q9))] at H
    exact hk _ _ _ H ad Hh locs ls hq
theorem p_icmp_eq {x y off : Int} {rr : List AV} (ho : 0 ≤ (pc : Int) + off) (C : Cx p s m args c D ca sa b A cc own nL z N xs h0) (hk : ∀ L' S' h', k L' S' h' = some r → Cfg p l e R s m args below meth c D ca sa b A nL z g n0 h0 ad0 Q (pc + 3) L' S' h') (hj : ∀ t L' S' h', j t L' S' h' = some r → Cfg p l e R s m args below meth c D ca sa b A nL z g n0 h0 ad0 Q t L' S' h') (hd : decode cc pc = .ok (.if_icmp .eq off, 3)) (H : (if x = y then j (tgt pc off) L rr h else k L rr h) = some r) : Cfg p l e R s m args below meth c D ca sa b A nL z g n0 h0 ad0 Q pc L ((0, y) :: (0, x) :: rr) h := by
  intro ad Hh locs ls q
  have hy : okv g (nOf h) 0 y := OKS.hd q.2.2.2.2.1
  have hx : okv g (nOf h) 0 x := OKS.hd (OKS.tl q.2.2.2.2.1)
  have hq := q.stk (OKS.tl (OKS.tl q.2.2.2.2.1))
  rw [List.map_cons, List.map_cons, cv0, cv0]
  refine lv_icmp_eq C.1 C.2.1 hd (tgt_ok ho) (fun c9 => ?_) (fun c9 => ?_)
  · rw [if_pos ((i32_eq hx hy).mp c9)] at H
    exact hj _ _ _ _ H ad Hh locs ls hq
  · rw [if_neg (fun q9 => c9 ((i32_eq hx hy).mpr q9))] at H
    exact hk _ _ _ H ad Hh locs ls hq
theorem p_icmp_ne {x y off : Int} {rr : List AV} (ho : 0 ≤ (pc : Int) + off) (C : Cx p s m args c D ca sa b A cc own nL z N xs h0) (hk : ∀ L' S' h', k L' S' h' = some r → Cfg p l e R s m args below meth c D ca sa b A nL z g n0 h0 ad0 Q (pc + 3) L' S' h') (hj : ∀ t L' S' h', j t L' S' h' = some r → Cfg p l e R s m args below meth c D ca sa b A nL z g n0 h0 ad0 Q t L' S' h') (hd : decode cc pc = .ok (.if_icmp .ne off, 3)) (H : (if x ≠ y then j (tgt pc off) L rr h else k L rr h) = some r) : Cfg p l e R s m args below meth c D ca sa b A nL z g n0 h0 ad0 Q pc L ((0, y) :: (0, x) :: rr) h := by
  intro ad Hh locs ls q
  have hy : okv g (nOf h) 0 y := OKS.hd q.2.2.2.2.1
  have hx : okv g (nOf h) 0 x := OKS.hd (OKS.tl q.2.2.2.2.1)
  have hq := q.stk (OKS.tl (OKS.tl q.2.2.2.2.1))
  rw [List.map_cons, List.map_cons, cv0, cv0]
  refine lv_icmp_ne C.1 C.2.1 hd (tgt_ok ho) (fun c9 => ?_) (fun c9 => ?_)
  · rw [if_pos ((not_congr (i32_eq hx hy)).mp c9)] at H
    exact hj _ _ _ _ H ad Hh locs ls hq
  · rw [if_neg (fun q9 => q9 ((i32_eq hx hy).mp c9))] at H
    exact hk _ _ _ H ad Hh locs ls hq
theorem p_icmp_lt {x y off : Int} {rr : List AV} (ho : 0 ≤ (pc : Int) + off) (C : Cx p s m args c D ca sa b A cc own nL z N xs h0) (hk : ∀ L' S' h', k L' S' h' = some r → Cfg p l e R s m args below meth c D ca sa b A nL z g n0 h0 ad0 Q (pc + 3) L' S' h') (hj : ∀ t L' S' h', j t L' S' h' = some r → Cfg p l e R s m args below meth c D ca sa b A nL z g n0 h0 ad0 Q t L' S' h') (hd : decode cc pc = .ok (.if_icmp .lt off, 3)) (H : (if x < y then j (tgt pc off) L rr h else k L rr h) = some r) : Cfg p l e R s m args below meth c D ca sa b A nL z g n0 h0 ad0 Q pc L ((0, y) :: (0, x) :: rr) h := by
  intro ad Hh locs ls q
  have hy : okv g (nOf h) 0 y := OKS.hd q.2.2.2.2.1
  have hx : okv g (nOf h) 0 x := OKS.hd (OKS.tl q.2.2.2.2.1)
  have hq := q.stk (OKS.tl (OKS.tl q.2.2.2.2.1))
  rw [List.map_cons, List.map_cons, cv0, cv0]
  refine lv_icmp_lt C.1 C.2.1 hd (tgt_ok ho) (fun c9 => ?_) (fun c9 => ?_)
  · rw [if_pos ((i32_lt hx hy).mp c9)] at H
    exact hj _ _ _ _ H ad Hh locs ls hq
  · rw [if_neg (fun q9 => c9 ((i32_lt hx hy).mpr q9))] at H
    exact hk _ _ _ H ad Hh locs ls hq
theorem p_icmp_ge {x y off : Int} {rr : List AV} (ho : 0 ≤ (pc : Int) + off) (C : Cx p s m args c D ca sa b A cc own nL z N xs h0) (hk : ∀ L' S' h', k L' S' h' = some r → Cfg p l e R s m args below meth c D ca sa b A nL z g n0 h0 ad0 Q (pc + 3) L' S' h') (hj : ∀ t L' S' h', j t L' S' h' = some r → Cfg p l e R s m args below meth c D ca sa b A nL z g n0 h0 ad0 Q t L' S' h') (hd : decode cc pc = .ok (.if_icmp .ge off, 3)) (H : (if y ≤ x then j (tgt pc off) L rr h else k L rr h) = some r) : Cfg p l e R s m args below meth c D ca sa b A nL z g n0 h0 ad0 Q pc L ((0, y) :: (0, x) :: rr) h := by
  intro ad Hh locs ls q
  have hy : okv g (nOf h) 0 y := OKS.hd q.2.2.2.2.1
  have hx : okv g (nOf h) 0 x := OKS.hd (OKS.tl q.2.2.2.2.1)
  have hq := q.stk (OKS.tl (OKS.tl q.2.2.2.2.1))
  rw [List.map_cons, List.map_cons, cv0, cv0]
  refine lv_icmp_ge C.1 C.2.1 hd (tgt_ok ho) (fun c9 => ?_) (fun c9 => ?_)
  · rw [if_pos ((i32_le hy hx).mp c9)] at H
    exact hj _ _ _ _ H ad Hh locs ls hq
  · rw [if_neg (fun q9 => c9 ((i32_le hy hx).mpr q9))] at H
    exact hk _ _ _ H ad Hh locs ls hq
theorem p_icmp_gt {x y off : Int} {rr : List AV} (ho : 0 ≤ (pc : Int) + off) (C : Cx p s m args c D ca sa b A cc own nL z N xs h0) (hk : ∀ L' S' h', k L' S' h' = some r → Cfg p l e R s m args below meth c D ca sa b A nL z g n0 h0 ad0 Q (pc + 3) L' S' h') (hj : ∀ t L' S' h', j t L' S' h' = some r → Cfg p l e R s m args below meth c D ca sa b A nL z g n0 h0 ad0 Q t L' S' h') (hd : decode cc pc = .ok (.if_icmp .gt off, 3)) (H : (if y < x then j (tgt pc off) L rr h else k L rr h) = some r) : Cfg p l e R s m args below meth c D ca sa b A nL z g n0 h0 ad0 Q pc L ((0, y) :: (0, x) :: rr) h := by
  intro ad Hh locs ls q
  have hy : okv g (nOf h) 0 y := OKS.hd q.2.2.2.2.1
  have hx : okv g (nOf h) 0 x := OKS.hd (OKS.tl q.2.2.2.2.1)
  have hq := q.stk (OKS.tl (OKS.tl q.2.2.2.2.1))
  rw [List.map_cons, List.map_cons, cv0, cv0]
  refine lv_icmp_gt C.1 C.2.1 hd (tgt_ok ho) (fun c9 => ?_) (fun c9 => ?_)
  · rw [if_pos ((i32_lt hy hx).mp c9)] at H
    exact hj _ _ _ _ H ad Hh locs ls hq
  · rw [if_neg (fun q9 => c9 ((i32_lt hy hx).mpr q9))] at H
    exact hk _ _ _ H ad Hh locs ls hq
theorem p_icmp_le {x y off : Int} {rr : List AV} (ho : 0 ≤ (pc : Int) + off) (C : Cx p s m args c D ca sa b A cc own nL z N xs h0) (hk : ∀ L' S' h', k L' S' h' = some r → Cfg p l e R s m args below meth c D ca sa b A nL z g n0 h0 ad0 Q (pc + 3) L' S' h') (hj : ∀ t L' S' h', j t L' S' h' = some r → Cfg p l e R s m args below meth c D ca sa b A nL z g n0 h0 ad0 Q t L' S' h') (hd : decode cc pc = .ok (.if_icmp .le off, 3)) (H : (if x ≤ y then j (tgt pc off) L rr h else k L rr h) = some r) : Cfg p l e R s m args below meth c D ca sa b A nL z g n0 h0 ad0 Q pc L ((0, y) :: (0, x) :: rr) h := by
  intro ad Hh locs ls q
  have hy : okv g (nOf h) 0 y := OKS.hd q.2.2.2.2.1
  have hx : okv g (nOf h) 0 x := OKS.hd (OKS.tl q.2.2.2.2.1)
  have hq := q.stk (OKS.tl (OKS.tl q.2.2.2.2.1))
  rw [List.map_cons, List.map_cons, cv0, cv0]
  refine lv_icmp_le C.1 C.2.1 hd (tgt_ok ho) (fun c9 => ?_) (fun c9 => ?_)
  · rw [if_pos ((i32_le hx hy).mp c9)] at H
    exact hj _ _ _ _ H ad Hh locs ls hq
  · rw [if_neg (fun q9 => c9 ((i32_le hx hy).mpr q9))] at H
    exact hk _ _ _ H ad Hh locs ls hq
theorem p_goto {off : Int} {S : List AV} (ho : 0 ≤ (pc : Int) + off) (C : Cx p s m args c D ca sa b A cc own nL z N xs h0) (hj : ∀ t L' S' h', j t L' S' h' = some r → Cfg p l e R s m args below meth c D ca sa b A nL z g n0 h0 ad0 Q t L' S' h') (hd : decode cc pc = .ok (.goto off, 3)) (H : j (tgt pc off) L S h = some r) : Cfg p l e R s m args below meth c D ca sa b A nL z g n0 h0 ad0 Q pc L S h := by
  intro ad Hh locs ls q
  exact lv_goto C.1 C.2.1 hd (tgt_ok ho) (hj _ _ _ _ H ad Hh locs ls q)
theorem tsl_some {x : Int} {pc : Nat} {J : Nat → Option ρ} {d : Int} {os : List Int} {lo : Int} {r : ρ} (h : tsl x pc J d os lo = some r) : (∃ (i : Nat) (o : Int), os[i]? = some o ∧ x = lo + Int.ofNat i ∧ J (tgt pc o) = some r) ∨ ((x < lo ∨ lo + Int.ofNat os.length ≤ x) ∧ J (tgt pc d) = some r) := by
  induction os generalizing lo with
  | nil =>
    right
    refine ⟨?_, h⟩
    simp only [List.length_nil, Int.ofNat_eq_natCast]
    omega
  | cons o os ih =>
    unfold tsl at h
    split at h
    · rename_i hx
      left
      exact ⟨0, o, rfl, by simp only [Int.ofNat_eq_natCast]; omega, h⟩
    · rename_i hx
      rcases ih h with ⟨i, o', h1, h2, h3⟩ | ⟨h1, h2⟩
      · left
        exact ⟨i + 1, o', by rw [List.getElem?_cons_succ]; exact h1, by simp only [Int.ofNat_eq_natCast] at h2 ⊢; omega, h3⟩
      · right
        refine ⟨?_, h2⟩
        simp only [List.length_cons, Int.ofNat_eq_natCast] at h1 ⊢
        omega
theorem p_tsw {x d lo hi : Int} {offs : Array Int} {rr : List AV} {ln : Nat} (hn : hi = lo + Int.ofNat offs.size - 1) (ho : 0 ≤ (pc : Int) + d ∧ ∀ o ∈ offs.toList, 0 ≤ (pc : Int) + o) (C : Cx p s m args c D ca sa b A cc own nL z N xs h0) (hj : ∀ t L' S' h', j t L' S' h' = some r → Cfg p l e R s m args below meth c D ca sa b A nL z g n0 h0 ad0 Q t L' S' h') (hd : decode cc pc = .ok (.tableswitch d lo hi offs, ln)) (H : tsl x pc (fun t => j t L rr h) d offs.toList lo = some r) : Cfg p l e R s m args below meth c D ca sa b A nL z g n0 h0 ad0 Q pc L ((0, x) :: rr) h := by
  intro ad Hh locs ls q
  have hx : okv g (nOf h) 0 x := OKS.hd q.2.2.2.2.1
  have hq := q.stk (OKS.tl q.2.2.2.2.1)
  rw [List.map_cons, cv0]
  have hxi : (Int32.ofInt x).toInt = x := i32_id hx.1 hx.2
  rcases tsl_some H with ⟨i, o, h1, h2, h3⟩ | ⟨h1, h2⟩
  · have hi9 := (List.getElem?_eq_some_iff.mp h1).1
    have hsz : offs.toList.length = offs.size := Array.length_toList
    refine lv_tableIn (off := o) (tgt := tgt pc o) C.1 C.2.1 hd ?_ ?_ ?_ (tgt_ok (ho.2 o (List.mem_of_getElem? h1))) (hj _ _ _ _ h3 ad Hh locs ls hq)
    · rw [hxi, h2]; simp only [Int.ofNat_eq_natCast]; omega
    · rw [hxi, h2, hn]; simp only [Int.ofNat_eq_natCast]; omega
    · rw [hxi, h2]
      have e1 : (lo + Int.ofNat i - lo).toNat = i := by simp only [Int.ofNat_eq_natCast]; omega
      rw [e1, ← Array.getElem?_toList]
      exact h1
  · refine lv_tableOut (tgt := tgt pc d) C.1 C.2.1 hd ?_ (tgt_ok ho.1) (hj _ _ _ _ h2 ad Hh locs ls hq)
    have hsz : offs.toList.length = offs.size := Array.length_toList
    rw [hxi, hn]
    rw [hsz] at h1
    rcases h1 with h1 | h1
    · exact Or.inl h1
    · right
      simp only [Int.ofNat_eq_natCast] at h1 ⊢
      omega
theorem p_dup {t : Nat} {x : Int} {rr : List AV} (ht : t ≠ 1) (C : Cx p s m args c D ca sa b A cc own nL z N xs h0) (hk : ∀ L' S' h', k L' S' h' = some r → Cfg p l e R s m args below meth c D ca sa b A nL z g n0 h0 ad0 Q (pc + 1) L' S' h') (hd : decode cc pc = .ok (.dup, 1)) (H : k L ((t, x) :: (t, x) :: rr) h = some r) : Cfg p l e R s m args below meth c D ca sa b A nL z g n0 h0 ad0 Q pc L ((t, x) :: rr) h := by
  intro ad Hh locs ls q
  have hx := OKS.hd q.2.2.2.2.1
  have hnx := hk _ _ _ H ad Hh locs ls (q.stk (OKS.cons hx q.2.2.2.2.1))
  exact lv_dup C.1 C.2.1 hd (by rw [cv_cat, if_neg ht]) hnx
theorem p_pop {t : Nat} {x : Int} {rr : List AV} (ht : t ≠ 1) (C : Cx p s m args c D ca sa b A cc own nL z N xs h0) (hk : ∀ L' S' h', k L' S' h' = some r → Cfg p l e R s m args below meth c D ca sa b A nL z g n0 h0 ad0 Q (pc + 1) L' S' h') (hd : decode cc pc = .ok (.pop, 1)) (H : k L rr h = some r) : Cfg p l e R s m args below meth c D ca sa b A nL z g n0 h0 ad0 Q pc L ((t, x) :: rr) h := by
  intro ad Hh locs ls q
  exact lv_pop C.1 C.2.1 hd (by rw [cv_cat, if_neg ht]) (hk _ _ _ H ad Hh locs ls (q.stk (OKS.tl q.2.2.2.2.1)))
theorem p_dup2_2 {x : Int} {rr : List AV} (C : Cx p s m args c D ca sa b A cc own nL z N xs h0) (hk : ∀ L' S' h', k L' S' h' = some r → Cfg p l e R s m args below meth c D ca sa b A nL z g n0 h0 ad0 Q (pc + 1) L' S' h') (hd : decode cc pc = .ok (.dup2, 1)) (H : k L ((1, x) :: (1, x) :: rr) h = some r) : Cfg p l e R s m args below meth c D ca sa b A nL z g n0 h0 ad0 Q pc L ((1, x) :: rr) h := by
  intro ad Hh locs ls q
  have hx := OKS.hd q.2.2.2.2.1
  have hnx := hk _ _ _ H ad Hh locs ls (q.stk (OKS.cons hx q.2.2.2.2.1))
  exact lv_dup2_2 C.1 C.2.1 hd (by rw [cv_cat, if_pos rfl]) hnx
theorem p_dup2_11 {t t2 : Nat} {x x2 : Int} {rr : List AV} (ht : t ≠ 1) (ht2 : t2 ≠ 1) (C : Cx p s m args c D ca sa b A cc own nL z N xs h0) (hk : ∀ L' S' h', k L' S' h' = some r → Cfg p l e R s m args below meth c D ca sa b A nL z g n0 h0 ad0 Q (pc + 1) L' S' h') (hd : decode cc pc = .ok (.dup2, 1)) (H : k L ((t, x) :: (t2, x2) :: (t, x) :: (t2, x2) :: rr) h = some r) : Cfg p l e R s m args below meth c D ca sa b A nL z g n0 h0 ad0 Q pc L ((t, x) :: (t2, x2) :: rr) h := by
  intro ad Hh locs ls q
  have hx := OKS.hd q.2.2.2.2.1
  have hx2 := OKS.hd (OKS.tl q.2.2.2.2.1)
  have hnx := hk _ _ _ H ad Hh locs ls (q.stk (OKS.cons hx (OKS.cons hx2 q.2.2.2.2.1)))
  exact lv_dup2_11 C.1 C.2.1 hd (by rw [cv_cat, if_neg ht]) (by rw [cv_cat, if_neg ht2]) hnx
theorem lsl_some {x : Int} {pc : Nat} {J : Nat → Option ρ} {d : Int} {os : List (Int × Int)} {r : ρ} (h : lsl x pc J d os = some r) : J (tgt pc (Op.lookupswitch.offset os d x)) = some r := by
  induction os with
  | nil => exact h
  | cons o os ih =>
    obtain ⟨i, o⟩ := o
    unfold lsl at h
    split at h
    · rename_i hx
      subst hx
      rw [show Op.lookupswitch.offset ((x, o) :: os) d x = o by simp [Op.lookupswitch.offset]]
      exact h
    · rename_i hx
      rw [show Op.lookupswitch.offset ((i, o) :: os) d x = Op.lookupswitch.offset os d x by simp [Op.lookupswitch.offset, Ne.symm hx, hx]]
      exact ih h
theorem p_lsw {x d : Int} {ps : Array (Int × Int)} {rr : List AV} {ln : Nat} (hs : (ps.toList.zip (ps.toList.drop 1)).all (fun (a, next) => a.1 < next.1) = true) (ho : 0 ≤ (pc : Int) + d ∧ ∀ o ∈ ps.toList, 0 ≤ (pc : Int) + o.2) (C : Cx p s m args c D ca sa b A cc own nL z N xs h0) (hj : ∀ t L' S' h', j t L' S' h' = some r → Cfg p l e R s m args below meth c D ca sa b A nL z g n0 h0 ad0 Q t L' S' h') (hd : decode cc pc = .ok (.lookupswitch d ps, ln)) (H : lsl x pc (fun t => j t L rr h) d ps.toList = some r) : Cfg p l e R s m args below meth c D ca sa b A nL z g n0 h0 ad0 Q pc L ((0, x) :: rr) h := by
  intro ad Hh locs ls q
  have hx : okv g (nOf h) 0 x := OKS.hd q.2.2.2.2.1
  have hq := q.stk (OKS.tl q.2.2.2.2.1)
  rw [List.map_cons, cv0]
  have hxi : (Int32.ofInt x).toInt = x := i32_id hx.1 hx.2
  have h1 := lsl_some H
  refine lv_lookup (off := Op.lookupswitch.offset ps.toList d x) C.1 C.2.1 hd hs (by rw [hxi]) (tgt_ok ?_) (hj _ _ _ _ h1 ad Hh locs ls hq)
  have key : ∀ os : List (Int × Int), (∀ o ∈ os, 0 ≤ (pc : Int) + o.2) → 0 ≤ (pc : Int) + Op.lookupswitch.offset os d x := by
    intro os
    induction os with
    | nil => intro _; exact ho.1
    | cons o os ih =>
      intro h9
      obtain ⟨i, o⟩ := o
      by_cases hi : x = i
      · subst hi
        rw [show Op.lookupswitch.offset ((x, o) :: os) d x = o by simp [Op.lookupswitch.offset]]
        exact h9 (x, o) List.mem_cons_self
      · rw [show Op.lookupswitch.offset ((i, o) :: os) d x = Op.lookupswitch.offset os d x by simp [Op.lookupswitch.offset, Ne.symm hi, hi]]
        exact ih (fun o9 ho9 => h9 o9 (List.mem_cons_of_mem _ ho9))
  exact key _ ho.2
end
