/-! THE LAW's table is sound: piece by piece. -/
theorem sdb_cut {cc : ByteArray} {ok : Nat → Instr → Nat → List Nat → Int → Bool} {sd : SD} (n : Nat) (h1 : sdb cc ok (sd.take n) = true) (h2 : sdb cc ok (sd.drop n) = true) : sdb cc ok sd = true := by
  have e : sdb cc ok (sd.take n ++ sd.drop n) = true := by
    unfold sdb at h1 h2 ⊢
    rw [List.all_append, h1, h2]
    rfl
  rw [List.take_append_drop] at e
  exact e
theorem sdb_all {cc : ByteArray} {ok : Nat → Instr → Nat → List Nat → Int → Bool} {sd : SD} : ∀ k : Nat, (∀ i, i < k → sdb cc ok ((sd.drop i).take 1) = true) → sdb cc ok (sd.drop k) = true → sdb cc ok sd = true
  | 0, _, h2 => h2
  | k + 1, h, h2 => sdb_all k (fun i hi => h i (by omega)) (sdb_cut 1 (h k (by omega)) (by
    have e : (sd.drop k).drop 1 = sd.drop (k + 1) := by rw [List.drop_drop]
    rw [e]
    exact h2))
theorem okL_0 : sdb code (insOK mi R_law 4 13 474 calL_law false 4) ((sdL_law.drop 0).take 1) = true := by decide +kernel
theorem okL_1 : sdb code (insOK mi R_law 4 13 474 calL_law false 4) ((sdL_law.drop 1).take 1) = true := by decide +kernel
theorem okL_2 : sdb code (insOK mi R_law 4 13 474 calL_law false 4) ((sdL_law.drop 2).take 1) = true := by decide +kernel
theorem okL_3 : sdb code (insOK mi R_law 4 13 474 calL_law false 4) ((sdL_law.drop 3).take 1) = true := by decide +kernel
theorem okL_4 : sdb code (insOK mi R_law 4 13 474 calL_law false 4) ((sdL_law.drop 4).take 1) = true := by decide +kernel
theorem okL_5 : sdb code (insOK mi R_law 4 13 474 calL_law false 4) ((sdL_law.drop 5).take 1) = true := by decide +kernel
theorem okL_6 : sdb code (insOK mi R_law 4 13 474 calL_law false 4) ((sdL_law.drop 6).take 1) = true := by decide +kernel
theorem okL_7 : sdb code (insOK mi R_law 4 13 474 calL_law false 4) ((sdL_law.drop 7).take 1) = true := by decide +kernel
theorem okL_8 : sdb code (insOK mi R_law 4 13 474 calL_law false 4) ((sdL_law.drop 8).take 1) = true := by decide +kernel
theorem okL_9 : sdb code (insOK mi R_law 4 13 474 calL_law false 4) ((sdL_law.drop 9).take 1) = true := by decide +kernel
theorem okL_10 : sdb code (insOK mi R_law 4 13 474 calL_law false 4) ((sdL_law.drop 10).take 1) = true := by decide +kernel
theorem okL_11 : sdb code (insOK mi R_law 4 13 474 calL_law false 4) ((sdL_law.drop 11).take 1) = true := by decide +kernel
theorem okL_12 : sdb code (insOK mi R_law 4 13 474 calL_law false 4) ((sdL_law.drop 12).take 1) = true := by decide +kernel
theorem okL_13 : sdb code (insOK mi R_law 4 13 474 calL_law false 4) ((sdL_law.drop 13).take 1) = true := by decide +kernel
theorem okL_14 : sdb code (insOK mi R_law 4 13 474 calL_law false 4) ((sdL_law.drop 14).take 1) = true := by decide +kernel
theorem okL_15 : sdb code (insOK mi R_law 4 13 474 calL_law false 4) ((sdL_law.drop 15).take 1) = true := by decide +kernel
theorem okL_16 : sdb code (insOK mi R_law 4 13 474 calL_law false 4) ((sdL_law.drop 16).take 1) = true := by decide +kernel
theorem okL_17 : sdb code (insOK mi R_law 4 13 474 calL_law false 4) ((sdL_law.drop 17).take 1) = true := by decide +kernel
theorem okL_18 : sdb code (insOK mi R_law 4 13 474 calL_law false 4) ((sdL_law.drop 18).take 1) = true := by decide +kernel
theorem okL_19 : sdb code (insOK mi R_law 4 13 474 calL_law false 4) ((sdL_law.drop 19).take 1) = true := by decide +kernel
theorem okL_20 : sdb code (insOK mi R_law 4 13 474 calL_law false 4) ((sdL_law.drop 20).take 1) = true := by decide +kernel
theorem okL_21 : sdb code (insOK mi R_law 4 13 474 calL_law false 4) ((sdL_law.drop 21).take 1) = true := by decide +kernel
theorem okL_22 : sdb code (insOK mi R_law 4 13 474 calL_law false 4) ((sdL_law.drop 22).take 1) = true := by decide +kernel
theorem okL_23 : sdb code (insOK mi R_law 4 13 474 calL_law false 4) ((sdL_law.drop 23).take 1) = true := by decide +kernel
theorem okL_24 : sdb code (insOK mi R_law 4 13 474 calL_law false 4) ((sdL_law.drop 24).take 1) = true := by decide +kernel
theorem okL_25 : sdb code (insOK mi R_law 4 13 474 calL_law false 4) ((sdL_law.drop 25).take 1) = true := by decide +kernel
theorem okL_26 : sdb code (insOK mi R_law 4 13 474 calL_law false 4) ((sdL_law.drop 26).take 1) = true := by decide +kernel
theorem okL_27 : sdb code (insOK mi R_law 4 13 474 calL_law false 4) ((sdL_law.drop 27).take 1) = true := by decide +kernel
theorem okL_28 : sdb code (insOK mi R_law 4 13 474 calL_law false 4) ((sdL_law.drop 28).take 1) = true := by decide +kernel
theorem okL_29 : sdb code (insOK mi R_law 4 13 474 calL_law false 4) ((sdL_law.drop 29).take 1) = true := by decide +kernel
theorem okL_30 : sdb code (insOK mi R_law 4 13 474 calL_law false 4) ((sdL_law.drop 30).take 1) = true := by decide +kernel
theorem okL_31 : sdb code (insOK mi R_law 4 13 474 calL_law false 4) ((sdL_law.drop 31).take 1) = true := by decide +kernel
theorem okL_32 : sdb code (insOK mi R_law 4 13 474 calL_law false 4) ((sdL_law.drop 32).take 1) = true := by decide +kernel
theorem okL_33 : sdb code (insOK mi R_law 4 13 474 calL_law false 4) ((sdL_law.drop 33).take 1) = true := by decide +kernel
theorem okL_34 : sdb code (insOK mi R_law 4 13 474 calL_law false 4) ((sdL_law.drop 34).take 1) = true := by decide +kernel
theorem okL_35 : sdb code (insOK mi R_law 4 13 474 calL_law false 4) ((sdL_law.drop 35).take 1) = true := by decide +kernel
theorem okL_36 : sdb code (insOK mi R_law 4 13 474 calL_law false 4) ((sdL_law.drop 36).take 1) = true := by decide +kernel
theorem okL_37 : sdb code (insOK mi R_law 4 13 474 calL_law false 4) ((sdL_law.drop 37).take 1) = true := by decide +kernel
theorem okL_38 : sdb code (insOK mi R_law 4 13 474 calL_law false 4) ((sdL_law.drop 38).take 1) = true := by decide +kernel
theorem okL_39 : sdb code (insOK mi R_law 4 13 474 calL_law false 4) ((sdL_law.drop 39).take 1) = true := by decide +kernel
theorem okL_40 : sdb code (insOK mi R_law 4 13 474 calL_law false 4) ((sdL_law.drop 40).take 1) = true := by decide +kernel
theorem okL_41 : sdb code (insOK mi R_law 4 13 474 calL_law false 4) ((sdL_law.drop 41).take 1) = true := by decide +kernel
theorem okL_42 : sdb code (insOK mi R_law 4 13 474 calL_law false 4) ((sdL_law.drop 42).take 1) = true := by decide +kernel
theorem okL_43 : sdb code (insOK mi R_law 4 13 474 calL_law false 4) ((sdL_law.drop 43).take 1) = true := by decide +kernel
theorem okL_44 : sdb code (insOK mi R_law 4 13 474 calL_law false 4) ((sdL_law.drop 44).take 1) = true := by decide +kernel
theorem okL_45 : sdb code (insOK mi R_law 4 13 474 calL_law false 4) ((sdL_law.drop 45).take 1) = true := by decide +kernel
theorem okL_46 : sdb code (insOK mi R_law 4 13 474 calL_law false 4) ((sdL_law.drop 46).take 1) = true := by decide +kernel
theorem okL_47 : sdb code (insOK mi R_law 4 13 474 calL_law false 4) ((sdL_law.drop 47).take 1) = true := by decide +kernel
theorem okL_48 : sdb code (insOK mi R_law 4 13 474 calL_law false 4) ((sdL_law.drop 48).take 1) = true := by decide +kernel
theorem okL_49 : sdb code (insOK mi R_law 4 13 474 calL_law false 4) ((sdL_law.drop 49).take 1) = true := by decide +kernel
theorem okL_50 : sdb code (insOK mi R_law 4 13 474 calL_law false 4) ((sdL_law.drop 50).take 1) = true := by decide +kernel
theorem okL_51 : sdb code (insOK mi R_law 4 13 474 calL_law false 4) ((sdL_law.drop 51).take 1) = true := by decide +kernel
theorem okL_52 : sdb code (insOK mi R_law 4 13 474 calL_law false 4) ((sdL_law.drop 52).take 1) = true := by decide +kernel
theorem okL_53 : sdb code (insOK mi R_law 4 13 474 calL_law false 4) ((sdL_law.drop 53).take 1) = true := by decide +kernel
theorem okL_54 : sdb code (insOK mi R_law 4 13 474 calL_law false 4) ((sdL_law.drop 54).take 1) = true := by decide +kernel
theorem okL_55 : sdb code (insOK mi R_law 4 13 474 calL_law false 4) ((sdL_law.drop 55).take 1) = true := by decide +kernel
theorem okL_56 : sdb code (insOK mi R_law 4 13 474 calL_law false 4) ((sdL_law.drop 56).take 1) = true := by decide +kernel
theorem okL_57 : sdb code (insOK mi R_law 4 13 474 calL_law false 4) ((sdL_law.drop 57).take 1) = true := by decide +kernel
theorem okL_58 : sdb code (insOK mi R_law 4 13 474 calL_law false 4) ((sdL_law.drop 58).take 1) = true := by decide +kernel
theorem okL_59 : sdb code (insOK mi R_law 4 13 474 calL_law false 4) ((sdL_law.drop 59).take 1) = true := by decide +kernel
theorem okL_60 : sdb code (insOK mi R_law 4 13 474 calL_law false 4) ((sdL_law.drop 60).take 1) = true := by decide +kernel
theorem okL_61 : sdb code (insOK mi R_law 4 13 474 calL_law false 4) ((sdL_law.drop 61).take 1) = true := by decide +kernel
theorem okL_62 : sdb code (insOK mi R_law 4 13 474 calL_law false 4) ((sdL_law.drop 62).take 1) = true := by decide +kernel
theorem okL_63 : sdb code (insOK mi R_law 4 13 474 calL_law false 4) ((sdL_law.drop 63).take 1) = true := by decide +kernel
theorem okL_64 : sdb code (insOK mi R_law 4 13 474 calL_law false 4) ((sdL_law.drop 64).take 1) = true := by decide +kernel
theorem okL_65 : sdb code (insOK mi R_law 4 13 474 calL_law false 4) ((sdL_law.drop 65).take 1) = true := by decide +kernel
theorem okL_66 : sdb code (insOK mi R_law 4 13 474 calL_law false 4) ((sdL_law.drop 66).take 1) = true := by decide +kernel
theorem okL_67 : sdb code (insOK mi R_law 4 13 474 calL_law false 4) ((sdL_law.drop 67).take 1) = true := by decide +kernel
theorem okL_68 : sdb code (insOK mi R_law 4 13 474 calL_law false 4) ((sdL_law.drop 68).take 1) = true := by decide +kernel
theorem okL_69 : sdb code (insOK mi R_law 4 13 474 calL_law false 4) ((sdL_law.drop 69).take 1) = true := by decide +kernel
theorem okL_70 : sdb code (insOK mi R_law 4 13 474 calL_law false 4) ((sdL_law.drop 70).take 1) = true := by decide +kernel
theorem okL_71 : sdb code (insOK mi R_law 4 13 474 calL_law false 4) ((sdL_law.drop 71).take 1) = true := by decide +kernel
theorem okL_72 : sdb code (insOK mi R_law 4 13 474 calL_law false 4) ((sdL_law.drop 72).take 1) = true := by decide +kernel
theorem okL_73 : sdb code (insOK mi R_law 4 13 474 calL_law false 4) ((sdL_law.drop 73).take 1) = true := by decide +kernel
theorem ok_sdL_law : sdb code (insOK mi R_law 4 13 474 calL_law false 4) sdL_law = true := by
  refine sdb_all 74 (fun i hi => ?_) rfl
  match i, hi with
  | 0, _ => exact okL_0
  | 1, _ => exact okL_1
  | 2, _ => exact okL_2
  | 3, _ => exact okL_3
  | 4, _ => exact okL_4
  | 5, _ => exact okL_5
  | 6, _ => exact okL_6
  | 7, _ => exact okL_7
  | 8, _ => exact okL_8
  | 9, _ => exact okL_9
  | 10, _ => exact okL_10
  | 11, _ => exact okL_11
  | 12, _ => exact okL_12
  | 13, _ => exact okL_13
  | 14, _ => exact okL_14
  | 15, _ => exact okL_15
  | 16, _ => exact okL_16
  | 17, _ => exact okL_17
  | 18, _ => exact okL_18
  | 19, _ => exact okL_19
  | 20, _ => exact okL_20
  | 21, _ => exact okL_21
  | 22, _ => exact okL_22
  | 23, _ => exact okL_23
  | 24, _ => exact okL_24
  | 25, _ => exact okL_25
  | 26, _ => exact okL_26
  | 27, _ => exact okL_27
  | 28, _ => exact okL_28
  | 29, _ => exact okL_29
  | 30, _ => exact okL_30
  | 31, _ => exact okL_31
  | 32, _ => exact okL_32
  | 33, _ => exact okL_33
  | 34, _ => exact okL_34
  | 35, _ => exact okL_35
  | 36, _ => exact okL_36
  | 37, _ => exact okL_37
  | 38, _ => exact okL_38
  | 39, _ => exact okL_39
  | 40, _ => exact okL_40
  | 41, _ => exact okL_41
  | 42, _ => exact okL_42
  | 43, _ => exact okL_43
  | 44, _ => exact okL_44
  | 45, _ => exact okL_45
  | 46, _ => exact okL_46
  | 47, _ => exact okL_47
  | 48, _ => exact okL_48
  | 49, _ => exact okL_49
  | 50, _ => exact okL_50
  | 51, _ => exact okL_51
  | 52, _ => exact okL_52
  | 53, _ => exact okL_53
  | 54, _ => exact okL_54
  | 55, _ => exact okL_55
  | 56, _ => exact okL_56
  | 57, _ => exact okL_57
  | 58, _ => exact okL_58
  | 59, _ => exact okL_59
  | 60, _ => exact okL_60
  | 61, _ => exact okL_61
  | 62, _ => exact okL_62
  | 63, _ => exact okL_63
  | 64, _ => exact okL_64
  | 65, _ => exact okL_65
  | 66, _ => exact okL_66
  | 67, _ => exact okL_67
  | 68, _ => exact okL_68
  | 69, _ => exact okL_69
  | 70, _ => exact okL_70
  | 71, _ => exact okL_71
  | 72, _ => exact okL_72
  | 73, _ => exact okL_73
  | k + 74, hi => exact absurd hi (by omega)
