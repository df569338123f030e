/-! STORING REFERENCES. -/
section
variable {p : Program} {l : Launch} {e : Env} {R : Room} {s : State} {m : MethodId} {args : Array Value} {below : List Frame} {meth : Method} {c : Code}
variable {D : va_G} {ca : Nat → ClassId} {sa : Nat → Nat} {b : Nat} {A : Nat → Prop} {cc : ByteArray} {own : String} {nL : Nat} {z g : Bool} {N : Nat} {xs : Nat → Int32} {n0 : Nat} {h0 : Hp} {ad0 : Nat → Nat} {Q : State → Prop}
variable {ρ : Type} {pc len : Nat} {k : Lc → List AV → Hp → Option ρ} {j : Nat → Lc → List AV → Hp → Option ρ} {L : Lc} {h : Hp} {r : ρ}
theorem p_aastore {t : Nat} {i a v : Int} {rr : List AV} (hg : g = true) (ht : 20 ≤ t) (he : aknd t = 4 ∨ aknd t = 5) (ha0 : 0 ≤ a) (hv0 : 0 ≤ v) (hi : 0 ≤ i ∧ i < alen t) (C : Cx p s m args c D ca sa b A cc own nL z N xs h0) (hk : ∀ L' S' h', k L' S' h' = some r → Cfg p l e R s m args below meth c D ca sa b A nL z g n0 h0 ad0 Q (pc + 1) L' S' h') (hd : decode cc pc = .ok (.aastore, 1)) (H : ltt (up h a i v) (fun h' => k L rr h') = some r) : Cfg p l e R s m args below meth c D ca sa b A nL z g n0 h0 ad0 Q pc L ((aetag t, v) :: (0, i) :: (t, a) :: rr) h := by
  intro ad Hh locs ls q
  have h4 : 4 ≤ aknd t := by omega
  have h49 := aetag_4 h4
  have hv9 := OKS.hd q.2.2.2.2.1
  obtain ⟨v1, v2, v3⟩ := okref h49 hv9 (fun _ => hv0)
  have hiv : okv g (nOf h) 0 i := OKS.hd (OKS.tl q.2.2.2.2.1)
  have hix := ix_ok hiv hi.1 hi.2
  obtain ⟨w1, w2, w3⟩ := okref (Nat.le_trans (by decide) ht) (OKS.hd (OKS.tl (OKS.tl q.2.2.2.2.1))) (fun _ => ha0)
  have hw := q.1.arr ht w1 w2 w3
  rw [abody_q h4] at hw
  rw [List.map_cons, List.map_cons, List.map_cons, cv_ok h49 v1, cv0, cv_ok (Nat.le_trans (by decide) ht) w1]
  unfold ltt at H
  have hin : i.toNat < isz t := by rw [isz_arr ht]; have := hi.2; unfold alen at this; simp only [Int.ofNat_eq_natCast] at this; omega
  have hokv : okv g (nOf h) (aetag t) v := by
    obtain ⟨u, hu⟩ : ∃ u, aetag t = u + 4 := ⟨aetag t - 4, by omega⟩
    rw [hu] at hv9 ⊢
    exact hv9
  have hnx := fun (H1 : Heap) (locs1 : List Loc) e9 he9 p1 d1 s1 => hk _ _ _ H ad H1 locs1 ls (q.wr (S' := rr) (e := e9) w1 hi.1 w2 (by rw [w3, itag_arr ht]; exact hokv) (fun hg9 => by rw [hg] at hg9; cases hg9) (OKS.tl (OKS.tl (OKS.tl q.2.2.2.2.1))) he9 p1 d1 s1)
  rw [nOf_up w1] at hnx
  obtain ⟨c0, qc, hc0, hqc, htag, hty⟩ : ∃ (c0 : Nat) (qc : vw_C), c0 < 13 ∧ vwCl[c0]? = some qc ∧ aetag t = 4 + c0 ∧ (tysl ca)[aknd t]? = some (ca (aknd t), .object qc.1) := by
    rcases he with h9 | h9
    · refine ⟨8, _, by decide, rfl, ?_, ?_⟩
      · unfold aetag; rw [h9]; rfl
      · rw [h9]; rfl
    · refine ⟨2, _, by decide, rfl, ?_, ?_⟩
      · unfold aetag; rw [h9]; rfl
      · rw [h9]; rfl
  rw [htag] at v3
  have hwv := q.1.obj hc0 v1 v2 v3
  refine va_astq C.1 C.2.1 C.2.2.2.2.2.1 q.1.1 q.1.2.1 q.2.1 a.toNat (aknd t) v.toNat c0 hw hty hwv hqc hix.1 hd (fun H1 locs1 p1 d1 s1 => hnx H1 locs1 _ ?_ p1 d1 s1)
  rw [w3, entry_arr ht, hix.2, abody_q h4]
  congr 7
  funext q9
  unfold va_up
  by_cases hq9 : q9 = i.toNat
  · rw [if_pos hq9]
    have e9 : Int.ofNat q9 = i := by rw [hq9, i_nat hi.1]
    rw [isz_arr ht] at hin
    rw [e9, up_at, if_neg (by omega)]
  · rw [if_neg hq9, up_of]
    intro h9
    apply hq9
    have := h9.2
    rw [← this]; rfl
end
