/-! Math's own methods -/
def i_mm2 (t : Nat) (f : Int → Int → Int) : am_I := fun _ _ k ls st h => s1_ st fun t2 b r => s1_ r fun t1 a r => tg_ t2 t (tg_ t1 t (bl_ (Nat.ble (ct_ r) 8) (k ls ((t, f a b) :: r) h)))
def i_mm1 (t : Nat) (f : Int → Int) : am_I := fun _ _ k ls st h => s1_ st fun t1 a r => tg_ t1 t (bl_ (Nat.ble (ct_ r) 8) (k ls ((t, f a) :: r) h))
theorem lm_mm2 (t : Nat) (f : Int → Int → Int) : lm_ (i_mm2 t f) := fun _ _ _ _ _ _ _ _ hK _ _ _ => ch_s1 fun _ _ _ => ch_s1 fun _ _ _ => ch_tg (ch_tg (ch_bl (hK _ _ _)))
theorem lm_mm1 (t : Nat) (f : Int → Int) : lm_ (i_mm1 t f) := fun _ _ _ _ _ _ _ _ hK _ _ _ => ch_s1 fun _ _ _ => ch_tg (ch_bl (hK _ _ _))
section MathOps
variable {mt : Nat → am_S} {own : String} {FR LO nL : Nat} {ini : Bool} {ret : Option FieldType} {rt : Nat} {lpc : Nat → Nat} {pc : Nat}
theorem ok_mmax {idx : Nat} (hlink : Cond.methodLink own idx Lib.Math.max.name ∈ am_big) (hstat : Cond.static Lib.Math.max.name ∈ am_big) (hini : Cond.initialized "java/lang/Math" ∈ am_big) (hcode : Cond.code Lib.Math.max.name Lib.Math.max.code 2 (some .int) ∈ am_big) (hR : 1 ≤ FR ∧ 23 ≤ LO) : ok_ mt own FR LO nL ini ret rt lpc pc (.invokestatic idx) 3 (i_mm2 0 (fun a b => if a < b then b else a)) := by
  intro p l e R s m args below meth c G cc h0 r C J K X hd hC hJ hK L st h hr
  obtain ⟨t2, b, u, rfl, hr1⟩ := s1_s hr
  obtain ⟨t1, a, u, rfl, hr2⟩ := s1_s hr1
  obtain ⟨rfl, hr3⟩ := tg_s hr2
  obtain ⟨rfl, hr4⟩ := tg_s hr3
  obtain ⟨hct, hr5⟩ := bl_s hr4
  obtain ⟨hm, hw⟩ := hK _ _ _ hr5
  refine ⟨hm, fun ls H locs hl hH hS hvL hvS h1 h2 => ?_⟩
  have hb : i32_ b := ov_hd hvS
  have ha : i32_ a := ov_hd (ov_tl hvS)
  have hRe := X.2.2.2.2.2.2.2.1
  have hc8 := Nat.le_of_ble_eq_true hct
  refine va_mmax X.1 X.2.1 (by rw [X.2.2.1]; exact hl.1.symm) X.2.2.2.1 (X.2.2.2.2.1 _ hlink) (X.2.2.2.2.1 _ hstat) (X.2.2.2.2.1 _ hini) (X.2.2.2.2.1 _ hcode) (by rw [hRe]; exact hR.1) (by rw [ct_sum X.2.2.2.2.2.1.2.1, hRe]; show _ ≤ LO; omega) (by rw [hRe]; show _ ≤ (nn_ r.1 - nn_ h0).toNat; have := hm.1; omega) (by rw [hRe]; show _ ≤ (ss_ r.1 - ss_ h0).toNat; have := hm.2.1; omega) hd ?_
  have k2 := hw ls H locs hl hH hS hvL (ov_cs (show ov_ h.2.2 (0, if a < b then b else a) from (by split <;> assumption)) (ov_tl (ov_tl hvS))) h1 h2
  rw [List.map_cons] at k2
  dsimp only at k2
  by_cases hc : a < b
  · rw [if_pos hc] at k2
    rw [if_pos ((n32_lt ha hb).mpr hc)]
    exact k2
  · rw [if_neg hc] at k2
    rw [if_neg (fun z => hc ((n32_lt ha hb).mp z))]
    exact k2
theorem ok_mmin {idx : Nat} (hlink : Cond.methodLink own idx Lib.Math.min.name ∈ am_big) (hstat : Cond.static Lib.Math.min.name ∈ am_big) (hini : Cond.initialized "java/lang/Math" ∈ am_big) (hcode : Cond.code Lib.Math.min.name Lib.Math.min.code 2 (some .int) ∈ am_big) (hR : 1 ≤ FR ∧ 23 ≤ LO) : ok_ mt own FR LO nL ini ret rt lpc pc (.invokestatic idx) 3 (i_mm2 0 (fun a b => if b < a then b else a)) := by
  intro p l e R s m args below meth c G cc h0 r C J K X hd hC hJ hK L st h hr
  obtain ⟨t2, b, u, rfl, hr1⟩ := s1_s hr
  obtain ⟨t1, a, u, rfl, hr2⟩ := s1_s hr1
  obtain ⟨rfl, hr3⟩ := tg_s hr2
  obtain ⟨rfl, hr4⟩ := tg_s hr3
  obtain ⟨hct, hr5⟩ := bl_s hr4
  obtain ⟨hm, hw⟩ := hK _ _ _ hr5
  refine ⟨hm, fun ls H locs hl hH hS hvL hvS h1 h2 => ?_⟩
  have hb : i32_ b := ov_hd hvS
  have ha : i32_ a := ov_hd (ov_tl hvS)
  have hRe := X.2.2.2.2.2.2.2.1
  have hc8 := Nat.le_of_ble_eq_true hct
  refine va_mmin X.1 X.2.1 (by rw [X.2.2.1]; exact hl.1.symm) X.2.2.2.1 (X.2.2.2.2.1 _ hlink) (X.2.2.2.2.1 _ hstat) (X.2.2.2.2.1 _ hini) (X.2.2.2.2.1 _ hcode) (by rw [hRe]; exact hR.1) (by rw [ct_sum X.2.2.2.2.2.1.2.1, hRe]; show _ ≤ LO; omega) (by rw [hRe]; show _ ≤ (nn_ r.1 - nn_ h0).toNat; have := hm.1; omega) (by rw [hRe]; show _ ≤ (ss_ r.1 - ss_ h0).toNat; have := hm.2.1; omega) hd ?_
  have k2 := hw ls H locs hl hH hS hvL (ov_cs (show ov_ h.2.2 (0, if b < a then b else a) from (by split <;> assumption)) (ov_tl (ov_tl hvS))) h1 h2
  rw [List.map_cons] at k2
  dsimp only at k2
  by_cases hc : b < a
  · rw [if_pos hc] at k2
    rw [if_pos ((n32_lt hb ha).mpr hc)]
    exact k2
  · rw [if_neg hc] at k2
    rw [if_neg (fun z => hc ((n32_lt hb ha).mp z))]
    exact k2
theorem ok_lmax {idx : Nat} (hlink : Cond.methodLink own idx Lib.MathLoose.max_long.x ∈ am_big) (hstat : Cond.static Lib.MathLoose.max_long.x ∈ am_big) (hini : Cond.initialized "java/lang/Math" ∈ am_big) (hcode : Cond.code Lib.MathLoose.max_long.x Lib.MathLoose.max_long.code 4 (some .long) ∈ am_big) (hR : 1 ≤ FR ∧ 23 ≤ LO) : ok_ mt own FR LO nL ini ret rt lpc pc (.invokestatic idx) 3 (i_mm2 1 (fun a b => if b < a then a else b)) := by
  intro p l e R s m args below meth c G cc h0 r C J K X hd hC hJ hK L st h hr
  obtain ⟨t2, b, u, rfl, hr1⟩ := s1_s hr
  obtain ⟨t1, a, u, rfl, hr2⟩ := s1_s hr1
  obtain ⟨rfl, hr3⟩ := tg_s hr2
  obtain ⟨rfl, hr4⟩ := tg_s hr3
  obtain ⟨hct, hr5⟩ := bl_s hr4
  obtain ⟨hm, hw⟩ := hK _ _ _ hr5
  refine ⟨hm, fun ls H locs hl hH hS hvL hvS h1 h2 => ?_⟩
  have hb : i64_ b := ov_hd hvS
  have ha : i64_ a := ov_hd (ov_tl hvS)
  have hRe := X.2.2.2.2.2.2.2.1
  have hc8 := Nat.le_of_ble_eq_true hct
  refine va_mmax_long X.1 X.2.1 (by rw [X.2.2.1]; exact hl.1.symm) X.2.2.2.1 (X.2.2.2.2.1 _ hlink) (X.2.2.2.2.1 _ hstat) (X.2.2.2.2.1 _ hini) (X.2.2.2.2.1 _ hcode) (by rw [hRe]; exact hR.1) (by rw [ct_sum X.2.2.2.2.2.1.2.1, hRe]; show _ ≤ LO; omega) (by rw [hRe]; show _ ≤ (nn_ r.1 - nn_ h0).toNat; have := hm.1; omega) (by rw [hRe]; show _ ≤ (ss_ r.1 - ss_ h0).toNat; have := hm.2.1; omega) hd ?_
  have k2 := hw ls H locs hl hH hS hvL (ov_cs (show ov_ h.2.2 (1, if b < a then a else b) from (by split <;> assumption)) (ov_tl (ov_tl hvS))) h1 h2
  rw [List.map_cons] at k2
  dsimp only at k2
  by_cases hc : b < a
  · rw [if_pos hc] at k2
    rw [if_pos ((n64_lt hb ha).mpr hc)]
    exact k2
  · rw [if_neg hc] at k2
    rw [if_neg (fun z => hc ((n64_lt hb ha).mp z))]
    exact k2
theorem ok_lmin {idx : Nat} (hlink : Cond.methodLink own idx Lib.MathLoose.min_long.x ∈ am_big) (hstat : Cond.static Lib.MathLoose.min_long.x ∈ am_big) (hini : Cond.initialized "java/lang/Math" ∈ am_big) (hcode : Cond.code Lib.MathLoose.min_long.x Lib.MathLoose.min_long.code 4 (some .long) ∈ am_big) (hR : 1 ≤ FR ∧ 23 ≤ LO) : ok_ mt own FR LO nL ini ret rt lpc pc (.invokestatic idx) 3 (i_mm2 1 (fun a b => if b < a then b else a)) := by
  intro p l e R s m args below meth c G cc h0 r C J K X hd hC hJ hK L st h hr
  obtain ⟨t2, b, u, rfl, hr1⟩ := s1_s hr
  obtain ⟨t1, a, u, rfl, hr2⟩ := s1_s hr1
  obtain ⟨rfl, hr3⟩ := tg_s hr2
  obtain ⟨rfl, hr4⟩ := tg_s hr3
  obtain ⟨hct, hr5⟩ := bl_s hr4
  obtain ⟨hm, hw⟩ := hK _ _ _ hr5
  refine ⟨hm, fun ls H locs hl hH hS hvL hvS h1 h2 => ?_⟩
  have hb : i64_ b := ov_hd hvS
  have ha : i64_ a := ov_hd (ov_tl hvS)
  have hRe := X.2.2.2.2.2.2.2.1
  have hc8 := Nat.le_of_ble_eq_true hct
  refine va_mmin_long X.1 X.2.1 (by rw [X.2.2.1]; exact hl.1.symm) X.2.2.2.1 (X.2.2.2.2.1 _ hlink) (X.2.2.2.2.1 _ hstat) (X.2.2.2.2.1 _ hini) (X.2.2.2.2.1 _ hcode) (by rw [hRe]; exact hR.1) (by rw [ct_sum X.2.2.2.2.2.1.2.1, hRe]; show _ ≤ LO; omega) (by rw [hRe]; show _ ≤ (nn_ r.1 - nn_ h0).toNat; have := hm.1; omega) (by rw [hRe]; show _ ≤ (ss_ r.1 - ss_ h0).toNat; have := hm.2.1; omega) hd ?_
  have k2 := hw ls H locs hl hH hS hvL (ov_cs (show ov_ h.2.2 (1, if b < a then b else a) from (by split <;> assumption)) (ov_tl (ov_tl hvS))) h1 h2
  rw [List.map_cons] at k2
  dsimp only at k2
  by_cases hc : b < a
  · rw [if_pos hc] at k2
    rw [if_pos ((n64_lt hb ha).mpr hc)]
    exact k2
  · rw [if_neg hc] at k2
    rw [if_neg (fun z => hc ((n64_lt hb ha).mp z))]
    exact k2
theorem ok_labs {idx : Nat} (hlink : Cond.methodLink own idx Lib.MathLoose.abs_long.x ∈ am_big) (hstat : Cond.static Lib.MathLoose.abs_long.x ∈ am_big) (hini : Cond.initialized "java/lang/Math" ∈ am_big) (hcode : Cond.code Lib.MathLoose.abs_long.x Lib.MathLoose.abs_long.code 2 (some .long) ∈ am_big) (hR : 1 ≤ FR ∧ 23 ≤ LO) : ok_ mt own FR LO nL ini ret rt lpc pc (.invokestatic idx) 3 (i_mm1 1 (fun a => if 0 < a then a else w64 (-a))) := by
  intro p l e R s m args below meth c G cc h0 r C J K X hd hC hJ hK L st h hr
  obtain ⟨t1, a, u, rfl, hr1⟩ := s1_s hr
  obtain ⟨rfl, hr2⟩ := tg_s hr1
  obtain ⟨hct, hr3⟩ := bl_s hr2
  obtain ⟨hm, hw⟩ := hK _ _ _ hr3
  refine ⟨hm, fun ls H locs hl hH hS hvL hvS h1 h2 => ?_⟩
  have ha : i64_ a := ov_hd hvS
  have hz : i64_ 0 := by unfold i64_; omega
  have hRe := X.2.2.2.2.2.2.2.1
  have hc8 := Nat.le_of_ble_eq_true hct
  refine va_mabs_long X.1 X.2.1 (by rw [X.2.2.1]; exact hl.1.symm) X.2.2.2.1 (X.2.2.2.2.1 _ hlink) (X.2.2.2.2.1 _ hstat) (X.2.2.2.2.1 _ hini) (X.2.2.2.2.1 _ hcode) (by rw [hRe]; exact hR.1) (by rw [ct_sum X.2.2.2.2.2.1.2.1, hRe]; show _ ≤ LO; omega) (by rw [hRe]; show _ ≤ (nn_ r.1 - nn_ h0).toNat; have := hm.1; omega) (by rw [hRe]; show _ ≤ (ss_ r.1 - ss_ h0).toNat; have := hm.2.1; omega) hd ?_
  have k2 := hw ls H locs hl hH hS hvL (ov_cs (show ov_ h.2.2 (1, if 0 < a then a else w64 (-a)) from (by split; exact ha; exact w64_in _)) (ov_tl hvS)) h1 h2
  rw [List.map_cons] at k2
  dsimp only at k2
  by_cases hc : 0 < a
  · rw [if_pos hc] at k2
    rw [if_pos (show (0 : Int64) < Int64.ofInt a from (n64_lt hz ha).mpr hc)]
    exact k2
  · rw [if_neg hc] at k2
    rw [if_neg (fun z : (0 : Int64) < Int64.ofInt a => hc ((n64_lt hz ha).mp z)), n64_neg]
    exact k2
end MathOps
