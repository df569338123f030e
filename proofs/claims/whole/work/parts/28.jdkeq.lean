theorem two_fn {ρ : Type} {M : Int → Int → Option Int} {f : Int → Int → Int} (hM : ∀ x y, M x y = some (f x y)) (a : List Int) (h : Hp) (k : Int → Hp → Option ρ) : (match a with
  | [x, y] => k (f x y) h
  | _ => none) = (match a with
  | [x, y] => bndp (M x y) (fun r => k r h)
  | _ => none) := by
  split
  · rw [hM]; rfl
  · rfl
theorem fmax_eq {ρ : Type} : (fmax : FN ρ) = wJ9_max_7cf53 := by
  funext a h k
  exact two_fn (f := fun x y => max x y) (fun x y => by unfold MJ9_max_7cf53; split <;> (congr 1; omega)) a h k
theorem flmin_eq {ρ : Type} : (fmin : FN ρ) = wJ9_min_f86c9 := by
  funext a h k
  refine two_fn (f := fun x y => min x y) (fun x y => ?_) a h k
  unfold MJ9_min_f86c9 lcp
  by_cases h1 : x < y
  · rw [if_pos h1, if_neg (by decide)]; congr 1; omega
  · rw [if_neg h1]
    by_cases h2 : x = y
    · rw [if_pos h2, if_neg (by decide)]; congr 1; omega
    · rw [if_neg h2, if_pos (by decide)]; congr 1; omega
theorem flmax_eq {ρ : Type} : (fmax : FN ρ) = wJ9_max_f86c9 := by
  funext a h k
  refine two_fn (f := fun x y => max x y) (fun x y => ?_) a h k
  unfold MJ9_max_f86c9 lcp
  by_cases h1 : x < y
  · rw [if_pos h1, if_pos (by decide)]; congr 1; omega
  · rw [if_neg h1]
    by_cases h2 : x = y
    · rw [if_pos h2, if_neg (by decide)]; congr 1; omega
    · rw [if_neg h2, if_neg (by decide)]; congr 1; omega
theorem fabs_eq {ρ : Type} : (fabs : FN ρ) = wJ9_abs_0f7a4 := by
  funext a h k
  match a with
  | [x] =>
    show k (jabs x) h = bndp (MJ9_abs_0f7a4 x) (fun r => k r h)
    have : MJ9_abs_0f7a4 x = some (jabs x) := by
      unfold MJ9_abs_0f7a4 jabs
      by_cases hx : x < 0
      · rw [if_pos hx, if_neg (by omega)]
      · rw [if_neg hx, if_pos (by omega)]
    rw [this]
    rfl
  | [] => rfl
  | _ :: _ :: _ => rfl
theorem snd_mmin {ρ : Type} {l : Launch} : SndF (ρ := ρ) l false (mi 261).1 fmin := by rw [fmin_eq]; exact sndJ9_min_7cf53
theorem snd_mmax {ρ : Type} {l : Launch} : SndF (ρ := ρ) l false (mi 262).1 fmax := by rw [fmax_eq]; exact sndJ9_max_7cf53
theorem snd_mabs {ρ : Type} {l : Launch} : SndF (ρ := ρ) l false (mi 263).1 fabs := by rw [fabs_eq]; exact sndJ9_abs_0f7a4
theorem snd_lmin {ρ : Type} {l : Launch} : SndF (ρ := ρ) l false (mi 264).1 fmin := by rw [flmin_eq]; exact sndJ9_min_f86c9
theorem snd_lmax {ρ : Type} {l : Launch} : SndF (ρ := ρ) l false (mi 265).1 fmax := by rw [flmax_eq]; exact sndJ9_max_f86c9
theorem ro_mmin {ρ : Type} : RoF (fmin : FN ρ) := by rw [fmin_eq]; exact roJ9_min_7cf53
theorem ro_mmax {ρ : Type} : RoF (fmax : FN ρ) := by rw [fmax_eq]; exact roJ9_max_7cf53
theorem ro_mabs {ρ : Type} : RoF (fabs : FN ρ) := by rw [fabs_eq]; exact roJ9_abs_0f7a4
theorem ro_lmin {ρ : Type} : RoF (fmin : FN ρ) := ro_mmin
theorem ro_lmax {ρ : Type} : RoF (fmax : FN ρ) := ro_mmax
