/-! THE LAW on the machine. -/
theorem slc148 : slc 148 - slc 0 ≤ 7302250 := by decide +kernel
theorem one32 : Int32.ofInt 1 = 1 := by decide
section
variable {p : Program} {l : Launch} {e : Env} {s : State} {m : MethodId} {below : List Frame} {meth : Method} {c : Code}
variable {D : va_G} {ca : Nat → ClassId} {sa : Nat → Nat} {b : Nat} {N : Nat} {xs : Nat → Int32} {h0 : Hp} {ad0 : Nat → Nat}
theorem cfg_weak {R : Room} {args : Array Value} {A : Nat → Prop} {nL n0 : Nat} {z g : Bool} {Q : State → Prop} {pc : Nat} {L L' : Lc} {S : List AV} {h : Hp} (hL : ∀ q ∈ L', q ∈ L) (hP : Cfg p l e R s m args below meth c D ca sa b A nL z g n0 h0 ad0 Q pc L' S h) : Cfg p l e R s m args below meth c D ca sa b A nL z g n0 h0 ad0 Q pc L S h := by
  intro ad1 H locs ls q
  refine hP ad1 H locs ls ⟨q.1, q.2.1, ⟨q.2.2.1.1, q.2.2.1.2.1, fun x hx => ?_⟩, fun x hx => q.2.2.2.1 x (hL x hx), q.2.2.2.2⟩
  obtain ⟨y, hy, rfl⟩ := List.mem_map.mp (show x ∈ L'.map (fun q => (q.1, cv ad1 sa b q.2)) from hx)
  exact q.2.2.1.2.2 _ (List.mem_map.mpr ⟨y, hL y hy, rfl⟩)
/-- the law's end -/
theorem cfg_ret {z g : Bool} {pc : Nat} {L : Lc} {h : Hp} (C : Cx p s m #[Value.ref b] c D ca sa b (fun q => s.heap.size ≤ q) code R_law 4 z N xs h0) (hr : meth.sig.returnType = ret) (hlk : meth.locks = false) (hd : decode code pc = .ok (.ireturn, 1)) : Cfg p l e room_1 s m #[Value.ref b] below meth c D ca sa b (fun q => s.heap.size ≤ q) 4 z g 0 h0 ad0 (lw_Z below #[Value.ref b] s) pc L [(0, 1)] h := by
  intro ad H locs ls q
  have hn : nOf h ≤ 148 := q.1.2.2.2.2.1
  have h1 := slc_mono hn
  have h2 := slc148
  refine va_forget (fun q9 hq9 => q.2.1.2.2 q9 hq9) ?_
  refine W.widen (k := 600000) (n := 7302250) (by omega) (by omega) ?_
  have e1 : ([(0, 1)] : List AV).map (cv ad sa b) = [Value.int 1] := by
    show [Value.int (Int32.ofInt 1)] = _
    rw [one32]
  rw [e1]
  exact lw_ret C.1 C.2.1 hr hlk hd
theorem law_c {n : Nat} (C : Cx p s m #[Value.ref b] c D ca sa b (fun q => s.heap.size ≤ q) code R_law 4 true N xs h0) (hr : meth.sig.returnType = ret) (hlk : meth.locks = false) :
    ∀ (f : Nat) (x : Int) (h h' : Hp), BL_law_18 n f x h = some (1, h') → Cfg p l e room_1 s m #[Value.ref b] below meth c D ca sa b (fun q => s.heap.size ≤ q) 4 true false 0 h0 ad0 (lw_Z below #[Value.ref b] s) 18 [(0, 3, 0), (1, 15, 0), (2, 16, 113), (3, 0, x)] [] h := by
  intro f
  induction f with
  | zero => intro x h h' H; cases H
  | succ f ih =>
    intro x h h' H
    rw [eBL_law_18] at H
    obtain ⟨lx, hlx, H⟩ := seek_some H
    refine go_sound2 (fs := fsL_law n _) (fin := fun v h => some (v, h)) (K := kct (KBL_law_18 n (BL_law_18 n f))) (sd := sdL_law) (mi := mi) (fr := 13) (lo := 474) (cals := calL_law) (ini := false) (rk := 4) ok_sdL_law (fun q => by cases q) ⟨Nat.le_refl 13, Nat.le_refl 474⟩ (fun _ => ⟨Nat.le_of_ble_eq_true rfl, slc148⟩) (fsOK_at (foL_law n)) (fun q => by cases q) (fun q => by cases q) (fun q => by cases q) ⟨fun _ pc L v h1 hd _ hf => ?_, fun q => absurd q (by decide), fun q => absurd q (by decide), fun q => absurd q (by decide)⟩ (fun t L S h1 H8 => ?_) C 1000 18 lx _ _ _ (List.all_eq_true.mp ok_sdL_law _ hlx) H
    · have ev : v = 1 := congrArg Prod.fst (Option.some.inj hf)
      subst ev
      exact cfg_ret C hr hlk hd
    · obtain ⟨q, hq, e1, a, c9, h9, hL, hS⟩ := kct_some H8
      unfold KBL_law_18 at hq
      rw [List.mem_singleton] at hq
      subst hq
      subst e1
      subst hS
      match a, c9, h9, hL with
      | [x3], [], h9, hL => exact cfg_weak hL (ih x3 h1 h' h9)
      | [], _, h9, _ => cases h9
      | [_], _ :: _, h9, _ => cases h9
      | _ :: _ :: _, _, h9, _ => cases h9
end
/-! FROM THE ENTRY to the loop: the two makers. -/
def sdE : SD := [(0, [(0, .new 7, 3, [11, 145, 146, 126], 0), (3, .dup, 1, [], 0), (4, .invokespecial 9, 3, [0, 0, 5, 280, 147, 15], 0), (7, .astore_n 1, 1, [], 0), (8, .new 10, 3, [12, 1296, 1297, 139], 0), (11, .dup, 1, [], 0), (12, .invokespecial 12, 3, [0, 1, 5, 281, 1298, 16], 0), (15, .astore_n 2, 1, [], 0), (16, .iconst 0, 1, [], 0), (17, .istore_n 3, 1, [], 0)])]
theorem ok_sdE : sdb code (insOK mi2 R_law 4 13 474 [280, 281] false 4) sdE = true := by decide +kernel
def KE : CT Hp := [(18, [(0, 3, (some 0)), (1, 15, (some 0)), (2, 16, (some 113)), (3, 0, (some 0))], [], fun _ _ h => some h)]
def finE : Int → Hp → Option Hp := fun _ _ => none
set_option maxRecDepth 100000 in
theorem runE3 {f1 f2 : FN Hp} {h : Hp} : go true (kct KE) finE [f1, f2] sdE 93 [(15, .astore_n 2, 1, [], 0), (16, .iconst 0, 1, [], 0), (17, .istore_n 3, 1, [], 0)] [(1, 15, 0), (0, 3, 0)] [(16, 113)] h = some h := rfl
set_option maxRecDepth 100000 in
theorem runE2 {f1 f2 : FN Hp} {h : Hp} (e : cnt h = 113) : go true (kct KE) finE [f1, f2] sdE 97 [(7, .astore_n 1, 1, [], 0), (8, .new 10, 3, [12, 1296, 1297, 139], 0), (11, .dup, 1, [], 0), (12, .invokespecial 12, 3, [0, 1, 5, 281, 1298, 16], 0), (15, .astore_n 2, 1, [], 0), (16, .iconst 0, 1, [], 0), (17, .istore_n 3, 1, [], 0)] [(0, 3, 0)] [(15, 0)] h =
    f2 [113] (alc h 16) (fun _ h' => go true (kct KE) finE [f1, f2] sdE 93 [(15, .astore_n 2, 1, [], 0), (16, .iconst 0, 1, [], 0), (17, .istore_n 3, 1, [], 0)] [(1, 15, 0), (0, 3, 0)] [(16, 113)] h') := by
  show (match true && Nat.beq (kd (cnt h).toNat) 16 with
    | true => ltt (alc h 16) (fun h' => go true (kct KE) finE [f1, f2] sdE 95 [(11, .dup, 1, [], 0), (12, .invokespecial 12, 3, [0, 1, 5, 281, 1298, 16], 0), (15, .astore_n 2, 1, [], 0), (16, .iconst 0, 1, [], 0), (17, .istore_n 3, 1, [], 0)] [(1, 15, 0), (0, 3, 0)] [(16, cnt h)] h')
    | false => none) = _
  rw [e]
  rfl
set_option maxRecDepth 100000 in
theorem runE1 {f1 f2 : FN Hp} {h : Hp} (e : cnt h = 0) : goAt true (kct KE) finE [f1, f2] sdE 100 0 [(0, 3, 0)] [] h =
    f1 [0] (alc h 15) (fun _ h' => go true (kct KE) finE [f1, f2] sdE 97 [(7, .astore_n 1, 1, [], 0), (8, .new 10, 3, [12, 1296, 1297, 139], 0), (11, .dup, 1, [], 0), (12, .invokespecial 12, 3, [0, 1, 5, 281, 1298, 16], 0), (15, .astore_n 2, 1, [], 0), (16, .iconst 0, 1, [], 0), (17, .istore_n 3, 1, [], 0)] [(0, 3, 0)] [(15, 0)] h') := by
  show (match true && Nat.beq (kd (cnt h).toNat) 15 with
    | true => ltt (alc h 15) (fun h' => go true (kct KE) finE [f1, f2] sdE 99 [(3, .dup, 1, [], 0), (4, .invokespecial 9, 3, [0, 0, 5, 280, 147, 15], 0), (7, .astore_n 1, 1, [], 0), (8, .new 10, 3, [12, 1296, 1297, 139], 0), (11, .dup, 1, [], 0), (12, .invokespecial 12, 3, [0, 1, 5, 281, 1298, 16], 0), (15, .astore_n 2, 1, [], 0), (16, .iconst 0, 1, [], 0), (17, .istore_n 3, 1, [], 0)] [(0, 3, 0)] [(15, cnt h)] h')
    | false => none) = _
  rw [e]
  rfl
/-- the script alone -/
def hSc (L : Nat) (xs : Nat → Int32) : Hp := fun b i => if b = -2 then (xs i.toNat).toInt else if b = -1 ∧ i = 1 then Int.ofNat L else 0
theorem fmk_go {ρ : Type} {h1 h2 g : Hp} {a0 : List Int} {v0 : Int} {k : Int → Hp → Option ρ} : fmk h1 h2 a0 v0 a0 (psc g h1) k = k v0 (psc g h2) := by
  unfold fmk
  rw [ci_t ⟨rfl, psc_psc.symm⟩, psc_psc]
theorem run_entry {hA g : Hp} {v1 v2 : Int} (cA : cnt hA = 113) : goAt true (kct KE) finE [fmk (alc hE 15) hA [0] v1, fmk (alc hA 16) hF [113] v2] sdE 100 0 [(0, 3, 0)] [] (psc g hE) = some (psc g hF) := by
  have e0 : cnt (psc g hE) = 0 := by
    rw [psc_c]
    rfl
  have e1 : cnt (psc g hA) = 113 := by
    rw [psc_c]
    exact cA
  have a0 : alc (psc g hE) 15 = psc g (alc hE 15) := psc_alc (by rw [nE0]; decide)
  have a1 : alc (psc g hA) 16 = psc g (alc hA 16) := psc_alc (by rw [cA]; decide)
  rw [runE1 e0, a0, fmk_go, runE2 e1, a1, fmk_go, runE3]
/-- once all is made, nothing that is named is wanting -/
theorem wt_false {h : Hp} (hc : ∀ c : Int, 0 ≤ c → h c = hF c) (w : WT true 148 h) : WT false 148 h := by
  intro k hk i hi
  have h1 := (w k hk i hi).1
  have h2 := List.all_eq_true.mp chk_all k (List.mem_range.mpr hk)
  rw [hc (Int.ofNat k) (nn0 k)] at h1 ⊢
  unfold chk at h2
  split at h2
  · rename_i h3
    have h4 := andb h3
    have h5 : 20 ≤ kd k := Nat.le_of_ble_eq_true h4.1
    have h6 : aknd (kd k) ≤ 3 := Nat.le_of_ble_eq_true h4.2
    have e1 : fxv (kd k) k i = none := by
      unfold fxv
      rw [h4.1]
      dsimp only
      generalize aknd (kd k) = a at h6 ⊢
      match a, h6 with
      | 0, _ => rfl
      | 1, _ => rfl
      | 2, _ => rfl
      | 3, _ => rfl
      | a + 4, h6 => exact absurd h6 (by omega)
    have e2 : itag (kd k) i ≤ 1 := by
      unfold itag
      rw [h4.1]
      dsimp only
      unfold aetag
      generalize aknd (kd k) = a at h6 ⊢
      match a, h6 with
      | 0, _ => exact Nat.le_of_ble_eq_true rfl
      | 1, _ => exact Nat.le_of_ble_eq_true rfl
      | 2, _ => exact Nat.le_of_ble_eq_true rfl
      | 3, _ => exact Nat.le_of_ble_eq_true rfl
      | a + 4, h6 => exact absurd h6 (by omega)
    refine ⟨?_, fun _ x hx => by rw [e1] at hx; cases hx⟩
    generalize itag (kd k) i = t at h1 e2 ⊢
    match t, e2, h1 with
    | 0, _, h1 => exact h1
    | 1, _, h1 => exact h1
    | t + 2, e2, _ => exact absurd e2 (by omega)
  · have h3 := andb (List.all_eq_true.mp h2 i (List.mem_range.mpr hi))
    refine ⟨?_, fun _ x hx => ?_⟩
    · have h4 := h3.1
      rw [Bool.or_eq_true] at h4
      generalize itag (kd k) i = t at h1 h4 ⊢
      match t, h1, h4 with
      | 0, h1, _ => exact h1
      | 1, h1, _ => exact h1
      | 2, h1, _ => exact h1
      | 3, h1, _ => exact h1
      | t + 4, h1, h4 =>
        have h5 : 0 ≤ hF (Int.ofNat k) (Int.ofNat i) := by
          rcases h4 with h4 | h4
          · exact absurd (Nat.le_of_ble_eq_true h4) (by omega)
          · exact of_decide_eq_true h4
        rcases (show (0 ≤ hF (Int.ofNat k) (Int.ofNat i) ∧ hF (Int.ofNat k) (Int.ofNat i) < Int.ofNat 148 ∧ kd (hF (Int.ofNat k) (Int.ofNat i)).toNat = t + 4) ∨ (true = true ∧ hF (Int.ofNat k) (Int.ofNat i) = -1) from h1) with h6 | h6
        · exact Or.inl h6
        · exact absurd h6.2 (by omega)
    · have h4 := h3.2
      rw [hx] at h4
      exact of_decide_eq_true h4
set_option maxHeartbeats 4000000 in
/-- THE LAW, from its entry -/
theorem whole_start {p : Program} {e : Env} {s : State} {m : MethodId} {below : List Frame} {meth : Method} {c : Code} (l : Launch) (hflags : l.flags = flags0) {b L : Nat} {xs : Nat → Int32} (hL : L ≤ 3072) (C0 : lw_At p s m meth c b L xs) : W p l e room_1 s m #[Value.ref b] below meth c s.heap [] 0 0 (lw_Z below #[Value.ref b] s) (entryFrame m ([Value.ref b] : List Value).toArray 4) := by
  obtain ⟨hx, hb, hr, hml, hown, hts, hX, hbl, hlocks, hgv⟩ := id C0
  obtain ⟨D, ca, hK⟩ := k_start hts
  obtain ⟨sa, hSW⟩ := sw_start hts hgv
  obtain ⟨v1, v2, hA, cA, cF, M1, M2⟩ := made_both l
  have nA : nOf hA = 113 := by
    unfold nOf
    rw [cA]
    rfl
  have nF : nOf hF = 148 := by
    unfold nOf
    rw [cF]
    rfl
  have c0 : cnt (psc (hSc L xs) hE) = 0 := by
    rw [psc_c]
    rfl
  have n0 : nOf (psc (hSc L xs) hE) = 0 := by
    unfold nOf
    rw [c0]
    rfl
  have hz : ∀ i : Nat, i < L → psc (hSc L xs) hE (-2) (Int.ofNat i) = (xs i).toInt := fun i _ => by
    rw [psc_s]
    rfl
  have hl1 : psc (hSc L xs) hE (-1) 1 = Int.ofNat L := by
    rw [psc_l]
    rfl
  have C : Cx p s m #[Value.ref b] c D ca sa b (fun q => s.heap.size ≤ q) code R_law 4 true L xs (psc (hSc L xs) hE) :=
    ⟨hx, hb, hml, hown, fun w hw => hts w (List.mem_filter.mp hw).1, hK, hSW, fun q h => h, fun _ => ⟨hX, hbl, Nat.not_le.mpr hbl⟩, fun _ => ⟨hl1, by omega, hz⟩⟩
  have hl := lv_entry ([.ref b]) (n := 4) (Nat.le_of_ble_eq_true rfl)
  rw [lg_entry_eq]
  generalize (lg_sl ([.ref b]) ++ List.replicate (4 - (lg_sl ([.ref b])).length) Slot.unset).toArray = ls at hl ⊢
  have hl : lv_has ls 4 [(0, .ref b)] := hl
  have eW : ∀ ad : Nat → Nat, wsl ca ad (nOf (psc (hSc L xs) hE)) (psc (hSc L xs) hE) = [] := fun ad => by
    rw [n0]
    rfl
  have n1 : nOf (alc hE 15) ≤ nOf hA := by
    rw [nOf_alc (by rw [nE0]; decide), nA]
    decide
  have n2 : nOf (alc hA 16) ≤ nOf hF := by
    rw [nOf_alc (by rw [cA]; decide), nA, nF]
    decide
  have hfs : fsOK (ρ := Hp) l true mi2 [280, 281] [fmk (alc hE 15) hA [0] v1, fmk (alc hA 16) hF [113] v2] := ⟨fmk_snd rfl M1 n1, fmk_snd rfl M2 n2, trivial⟩
  have hfm : ∀ (f : Nat) (fn : FN Hp), [fmk (alc hE 15) hA [0] v1, fmk (alc hA 16) hF [113] v2][f]? = some fn → MonoF fn := mono_l (List.forall_mem_cons.mpr ⟨fmk_mono n1, List.forall_mem_cons.mpr ⟨fmk_mono n2, fun q9 h9 => by cases h9⟩⟩)
  have hrun := run_entry (hA := hA) (g := hSc L xs) (v1 := v1) (v2 := v2) cA
  obtain ⟨lx, hlx, hrun⟩ := seek_some hrun
  have hcl : ∀ c : Int, 0 ≤ c → psc (hSc L xs) hF c = hF c := fun c h9 => psc_n h9
  obtain ⟨h', hlaw⟩ := law_l (n := 5000) (Nat.le_refl _) (N := Int.ofNat L) ⟨nn0 L, by show (L : Int) ≤ 3072; omega⟩ L (L + 1) 0 (psc (hSc L xs) hF) (by show (L : Int) - 0 ≤ (L : Int); omega) (Nat.lt_succ_self L) (by decide) (by decide) (inv_first hcl) (by rw [psc_l]; rfl)
  have h18 : Cfg p l e room_1 s m #[Value.ref b] below meth c D ca sa b (fun q => s.heap.size ≤ q) 4 true true 0 (psc (hSc L xs) hE) (fun _ => 0) (lw_Z below #[Value.ref b] s) 18 [(0, 3, 0), (1, 15, 0), (2, 16, 113), (3, 0, 0)] [] (psc (hSc L xs) hF) := by
    intro ad H locs ls9 q
    have hnf : nOf (psc (hSc L xs) hF) = 148 := by rw [psc_o, nF]
    have F := law_c (p := p) (l := l) (e := e) (s := s) (m := m) (below := below) (meth := meth) (c := c) (ad0 := fun _ => 0) (n := 5000) C hr hlocks (L + 1) 0 (psc (hSc L xs) hF) h' hlaw
    obtain ⟨⟨w1, w2, w3, w4, w5, w6⟩, q2, q3, q4, q5, q6, q7, q8⟩ := q
    refine F ad H locs ls9 ⟨⟨w1, w2, ?_, w4, w5, fun _ => hnf⟩, q2, q3, ?_, (fun v hv => by cases hv), q6, q7, q8⟩
    · rw [hnf] at w3 ⊢
      exact wt_false hcl w3
    · rw [hnf]
      have k0 : okz true false 148 3 0 := ⟨rfl, rfl⟩
      have k1 : okz true false 148 15 0 := Or.inl ⟨by decide, by decide, kd0⟩
      have k2 : okz true false 148 16 113 := Or.inl ⟨by decide, by decide, kd113⟩
      have k3 : okz true false 148 0 0 := ⟨by decide, by decide⟩
      exact OKL.cons (v := (3, 0)) k0 (OKL.cons (v := (15, 0)) k1 (OKL.cons (v := (16, 113)) k2 (OKL.cons (v := (0, 0)) k3 (fun v hv => by cases hv))))
  have hb148 : nOf (psc (hSc L xs) hF) - 0 ≤ room_1.cells ∧ slc (nOf (psc (hSc L xs) hF)) - slc 0 ≤ room_1.slots := by
    rw [psc_o, nF]
    exact ⟨Nat.le_of_ble_eq_true rfl, slc148⟩
  have hKE : ∀ (t : Nat) (L9 : Lc) (S : List AV) (h9 : Hp), kct KE t L9 S h9 = some (some (psc (hSc L xs) hF)) → t = 18 ∧ h9 = psc (hSc L xs) hF ∧ S = [] ∧ ∀ q ∈ ([(0, 3, 0), (1, 15, 0), (2, 16, 113), (3, 0, 0)] : Lc), q ∈ L9 := fun t L9 S h9 H8 => by
    obtain ⟨q, hq, e1, a, c9, h8, hL9, hS⟩ := kct_some H8
    unfold KE at hq
    rw [List.mem_singleton] at hq
    subst hq
    refine ⟨e1.symm, Option.some.inj h8, ?_, ?_⟩
    · rw [hS]
      cases c9 <;> rfl
    · cases a <;> exact hL9
  have G := go_sound2 (p := p) (l := l) (e := e) (R := room_1) (s := s) (m := m) (args := #[Value.ref b]) (below := below) (meth := meth) (c := c) (D := D) (ca := ca) (sa := sa) (b := b) (A := fun q => s.heap.size ≤ q) (cc := code) (own := R_law) (nL := 4) (z := true) (g := true) (N := L) (xs := xs) (n0 := 0) (h0 := psc (hSc L xs) hE) (ad0 := fun _ => 0) (Q := lw_Z below #[Value.ref b] s) (r := psc (hSc L xs) hF) (fs := [fmk (alc hE 15) hA [0] v1, fmk (alc hA 16) hF [113] v2]) (fin := finE) (K := kct KE) (sd := sdE) (mi := mi2) (fr := 13) (lo := 474) (cals := [280, 281]) (ini := false) (rk := 4) ok_sdE (fun q => by cases q) ⟨Nat.le_refl 13, Nat.le_refl 474⟩ (fun q => by cases q) (fsOK_at hfs) (fun _ => hfm) (fun _ v h9 q => by cases q) (fun _ t L9 S h9 H8 => by
      obtain ⟨-, e2, -, -⟩ := hKE t L9 S h9 H8
      rw [e2]
      exact hb148) ⟨fun _ pc L9 v h1 _ _ hf => (by cases hf), fun q => absurd q (by decide), fun q => absurd q (by decide), fun q => absurd q (by decide)⟩ (fun t L9 S h9 H8 => by
      obtain ⟨e1, e2, e3, e4⟩ := hKE t L9 S h9 H8
      subst e1
      subst e3
      rw [e2]
      exact cfg_weak e4 h18) C 100 0 lx [(0, 3, 0)] [] (psc (hSc L xs) hE) (List.all_eq_true.mp ok_sdE _ hlx) hrun
  have w := G (fun _ => 0) s.heap [] ls ⟨⟨(fun k q hk => by rw [eW, List.getElem?_nil] at hk; cases hk), ⟨(fun i j p q hi => by rw [eW, List.getElem?_nil] at hi; cases hi), (fun k q hk => by rw [eW, List.getElem?_nil] at hk; cases hk)⟩, (fun k hk => by rw [n0] at hk; exact absurd hk (Nat.not_lt_zero _)), by rw [c0]; decide, by rw [n0]; decide, (fun q => by cases q)⟩, va_S.rf, hl, OKL.cons (v := (3, 0)) ⟨rfl, rfl⟩ (fun v hv => by cases hv), (fun v hv => by cases hv), ⟨rfl, rfl⟩, Nat.zero_le _, fun k hk => absurd hk (Nat.not_lt_zero k)⟩
  rw [n0] at w
  exact w
