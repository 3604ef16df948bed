/-! gaps, and sums of all piles, of all plates -/
def Rm (T W : Tx) : Int := fo_ (fun p n => n + bz (Rt T W p)) (T 0 1).toNat 0 0
def Pm (T W : Tx) : Int := fo_ (fun p n => n + bz (Pr T W p)) (T 0 1).toNat 0 0
def Gm (T W : Tx) : Int := fo_ (fun p n => n + Gp T W p) (T 0 1).toNat 0 0
def Cm (T W : Tx) : Int := fo_ (fun j n => n + W 5 j) (T 0 2).toNat 0 0
def Fm (T W : Tx) : Int := fo_ (fun j n => n + W 4 j) (T 0 2).toNat 0 0
def Tm (T W : Tx) : Int := fo_ (fun j n => n + W 2 j) (T 0 0).toNat 0 0
theorem bz_b (b : Bool) : 0 ≤ bz b ∧ bz b ≤ 1 := by cases b <;> decide
theorem bz_0 (b : Bool) : bz b = 0 ∨ bz b = 1 := by cases b <;> decide
theorem Ga_b (T W : Tx) (p k : Int) : 0 ≤ Ga T W p k ∧ Ga T W p k ≤ 1 := by
  unfold Ga
  repeat' split
  all_goals omega
theorem Gp_b {T W : Tx} (v : WV T W) {p : Int} (h1 : 0 ≤ p) (h2 : p < T 0 1) : 0 ≤ Gp T W p ∧ Gp T W p ≤ 5 := by
  obtain ⟨v0, v1, v2, v3, v4, v5, v6, v7, v8, v9, v10, v11⟩ := id v
  have q := v1 p h1 h2
  have z := fo_in (f := fun k n => n + Ga T W p k) (I := fun k n => 0 ≤ n ∧ n ≤ k) (N := W 0 p) (fun k a _ hi => by
    have := Ga_b T W p k
    omega) (W 0 p).toNat 0 0 (by omega) (by omega)
  unfold Gp
  omega
theorem Gr_b {T W : Tx} (v : WV T W) {p : Int} (h1 : 0 ≤ p) (h2 : p < T 0 1) (j : Int) : -1 ≤ Gr T W p j ∧ Gr T W p j < 5 := by
  obtain ⟨v0, v1, v2, v3, v4, v5, v6, v7, v8, v9, v10, v11⟩ := id v
  have q := v1 p h1 h2
  have z := fo_in (f := Gs T W p j) (I := fun k n => 0 ≤ k ∧ -1 ≤ n ∧ n < k) (N := W 0 p) (fun k a _ hi => by
    unfold Gs
    split <;> omega) (W 0 p).toNat 0 (-1) (by omega) (by omega)
  unfold Gr
  omega
section
variable {h : am_H} {w b : Int} {T W : Tx}
theorem Wo_isProper_s (o : WO h w T W) (v : WV T W) {p : Int} (h1 : 0 ≤ p) (h2 : p < T 0 1) : Wo_isProper h w p = some (h, bz (Pr T W p)) := by
  obtain ⟨⟨w0, s6, s7, s8, s9, s10, s11, s12, s13, l1, l2, l3, l4, l5, l6, l7, l8⟩, ⟨e0, e1, e2, e3, e4, e5⟩, f1, f2, f3, f4, f5, f6, f7⟩ := id o
  obtain ⟨v0, v1, v2, v3, v4, v5, v6, v7, v8, v9, v10, v11⟩ := id v
  have q1 := f1 p h1 h2
  have q2 := v1 p h1 h2
  rw [Wo_isProper_e]
  rw [av_lp (L := Wo_isProper_1 h w p) (P := fun k => decide (Fs T W p k = 0)) (N := W 0 p) (k0 := 0) (yes := some (h, bz (Rt T W p))) (no := some (h, 0)) ?_ ?_ (W 0 p).toNat 0 (by omega) (by omega)]
  · unfold Pr
    cases av_ (fun k => decide (Fs T W p k = 0)) (W 0 p).toNat 0 <;> rfl
  · intro k hk hN
    rw [Wo_isProper_1_e]
    simp only [s6, l1, q1]
    repeat first | rw [ck_t (by omega)] | rw [if_neg (by omega)] | rw [if_pos (by omega)] | rw [Wo_faceAt_s o v, bd_v] | simp (disch := omega) only [w32_i]
    by_cases d : Fs T W p k = 0
    · rw [if_pos d, if_pos (decide_eq_true d)]
    · rw [if_neg d, if_neg (by simpa using d)]
  · rw [Wo_isProper_1_e]
    simp only [s6, l1, q1]
    repeat first | rw [ck_t (by omega)] | rw [if_neg (by omega)] | rw [if_pos (by omega)] | rw [Wo_isRight_s o v h1 h2, bd_v] | simp (disch := omega) only [w32_i]
    rw [ck_t (bz_0 _)]
theorem Wo_gaps_in (o : WO h w T W) (v : WV T W) {p : Int} (h1 : 0 ≤ p) (h2 : p < T 0 1) {j : Int} (h3 : 0 ≤ j) (h4 : j < W 0 p) (n : Int) : ∃ z, Wo_gaps_3 h w p n (p * 5) j (Zs T W p j) (-1) 0 0 = Wo_gaps_3 h w p n (p * 5) j (Zs T W p j) (Gr T W p j) z (W 0 p) := by
  obtain ⟨⟨w0, s6, s7, s8, s9, s10, s11, s12, s13, l1, l2, l3, l4, l5, l6, l7, l8⟩, ⟨e0, e1, e2, e3, e4, e5⟩, f1, f2, f3, f4, f5, f6, f7⟩ := id o
  obtain ⟨v0, v1, v2, v3, v4, v5, v6, v7, v8, v9, v10, v11⟩ := id v
  have q1 := f1 p h1 h2
  have q2 := v1 p h1 h2
  have key : ∀ (m : Nat) k g z, 0 ≤ k → k + m = W 0 p → (g = -1 ∨ (0 ≤ g ∧ z = Zs T W p g)) → ∃ z', Wo_gaps_3 h w p n (p * 5) j (Zs T W p j) g z k = Wo_gaps_3 h w p n (p * 5) j (Zs T W p j) (fo_ (Gs T W p j) m k g) z' (W 0 p) := by
    intro m
    induction m with
    | zero =>
      intro k g z h0 hk hg
      have e : k = W 0 p := by omega
      subst e
      exact ⟨z, rfl⟩
    | succ m ih =>
      intro k g z h0 hk hg
      have q3 := v2 p k h1 h2 h0 (by omega)
      have q4 := f4 p k h1 h2 h0 (by omega)
      have q5 := f5 (W 3 (5 * p + k)) q3.1 q3.2
      have q6 : T 5 (W 3 (5 * p + k)) = Zs T W p k := by unfold Zs; rw [if_pos ⟨h1, h2, h0, by omega⟩]
      rw [Wo_gaps_3_e]
      simp only [s6, s9, s10, l1, l4, l5, q1]
      rw [w32_i (x := p * 5 + k) (by omega) (by omega), show p * 5 + k = 5 * p + k by omega, q4, q5, q6]
      repeat first | rw [ck_t (by omega)] | rw [if_neg (by omega)] | rw [if_pos (by omega)] | simp (disch := omega) only [w32_i]
      unfold fo_ Gs
      by_cases c : Zs T W p k ≤ Zs T W p j
      · rw [if_pos c, if_neg (by omega)]
        exact ih (k + 1) g z (by omega) (by omega) hg
      · rw [if_neg c]
        by_cases d : g = -1
        · rw [if_pos d, if_pos (by omega)]
          exact ih (k + 1) k _ (by omega) (by omega) (Or.inr ⟨h0, rfl⟩)
        · rw [if_neg d]
          have hz : 0 ≤ g ∧ z = Zs T W p g := hg.resolve_left d
          by_cases e : z ≤ Zs T W p k
          · rw [if_pos e, if_neg (by omega)]
            exact ih (k + 1) g z (by omega) (by omega) hg
          · rw [if_neg e, if_pos (by omega)]
            exact ih (k + 1) k _ (by omega) (by omega) (Or.inr ⟨h0, rfl⟩)
  exact key (W 0 p).toNat 0 (-1) 0 (by omega) (by omega) (Or.inl rfl)
theorem Wo_gaps_s (o : WO h w T W) (v : WV T W) {p : Int} (h1 : 0 ≤ p) (h2 : p < T 0 1) : Wo_gaps h w p = some (h, Gp T W p) := by
  obtain ⟨⟨w0, s6, s7, s8, s9, s10, s11, s12, s13, l1, l2, l3, l4, l5, l6, l7, l8⟩, ⟨e0, e1, e2, e3, e4, e5⟩, f1, f2, f3, f4, f5, f6, f7⟩ := id o
  obtain ⟨v0, v1, v2, v3, v4, v5, v6, v7, v8, v9, v10, v11⟩ := id v
  have q1 := f1 p h1 h2
  have q2 := v1 p h1 h2
  rw [Wo_gaps_e, w32_i (by omega) (by omega)]
  refine (fo_l0 (L := fun a k => Wo_gaps_1 h w p a (p * 5) k) (f := fun k n => n + Ga T W p k) (I := fun k n => 0 ≤ k ∧ 0 ≤ n ∧ n ≤ k) (N := W 0 p) (by omega) ?_ (by omega)).trans ?_
  · intro k a hk hi
    have ga := Ga_b T W p k
    have gr := Gr_b v h1 h2 k
    refine ⟨?_, by omega⟩
    show Wo_gaps_1 h w p a (p * 5) k = Wo_gaps_1 h w p (a + Ga T W p k) (p * 5) (k + 1)
    have q3 := v2 p k h1 h2 hi.1 (by omega)
    have q4 := f4 p k h1 h2 hi.1 (by omega)
    have q5 := f5 (W 3 (5 * p + k)) q3.1 q3.2
    have q6 : T 5 (W 3 (5 * p + k)) = Zs T W p k := by unfold Zs; rw [if_pos ⟨h1, h2, hi.1, by omega⟩]
    rw [Wo_gaps_1_e]
    simp only [s6, s9, s10, l1, l4, l5, q1]
    rw [w32_i (x := p * 5 + k) (by omega) (by omega), show p * 5 + k = 5 * p + k by omega, q4, q5, q6]
    repeat first | rw [ck_t (by omega)] | rw [if_neg (by omega)] | rw [if_pos (by omega)] | simp (disch := omega) only [w32_i]
    obtain ⟨z, hz⟩ := Wo_gaps_in o v h1 h2 hi.1 hk a
    rw [hz, Wo_gaps_3_e]
    simp only [s6, l1, q1]
    unfold Ga
    rw [ck_t (by omega), ck_t (by omega), ck_t (by omega), if_pos (by omega), w32_i (x := k - 1) (by omega) (by omega), w32_i (x := k + 1) (by omega) (by omega)]
    generalize Gr T W p k = g at gr ⊢
    simp (disch := omega) only [Wo_gaps_13_e, s6, l1, q1, w32_i]
    repeat' first | rw [ck_t (by omega)] | split
    all_goals first | omega | (simp (disch := omega) only [w32_i, Int.add_zero])
  · show Wo_gaps_1 h w p _ (p * 5) (W 0 p) = _
    rw [Wo_gaps_1_e]
    simp only [s6, l1, q1]
    repeat first | rw [ck_t (by omega)] | rw [if_neg (by omega)] | rw [if_pos (by omega)] | simp (disch := omega) only [w32_i]
    all_goals rfl
theorem Wo_gapsOfAll_s (o : WO h w T W) (v : WV T W) : Wo_gapsOfAll h w = some (h, Gm T W) := by
  obtain ⟨⟨w0, s6, s7, s8, s9, s10, s11, s12, s13, l1, l2, l3, l4, l5, l6, l7, l8⟩, ⟨e0, e1, e2, e3, e4, e5⟩, f1, f2, f3, f4, f5, f6, f7⟩ := id o
  obtain ⟨v0, v1, v2, v3, v4, v5, v6, v7, v8, v9, v10, v11⟩ := id v
  rw [Wo_gapsOfAll_e]
  refine (fo_l0 (L := Wo_gapsOfAll_1 h w) (f := fun k n => n + Gp T W k) (I := fun k n => 0 ≤ k ∧ 0 ≤ n ∧ n ≤ 5 * k) (N := T 0 1) (by omega) ?_ (by omega)).trans ?_
  · intro k a hk hi
    have q := Gp_b v hi.1 hk
    refine ⟨?_, by omega⟩
    rw [Wo_gapsOfAll_1_e]
    simp only [e1]
    try rw [qf]
    repeat first | rw [ck_t (by omega)] | rw [if_neg (by omega)] | rw [if_pos (by omega)] | rw [Wo_gaps_s o v (by omega) (by omega), bd_v] | simp (disch := omega) only [w32_i]
    all_goals first | rfl | ((repeat' split) <;> first | omega | (simp (disch := omega) only [w32_i, Int.add_zero]; try omega) | (congr 1; omega))
  · rw [Wo_gapsOfAll_1_e]
    simp only [e1]
    repeat first | rw [ck_t (by omega)] | rw [if_neg (by omega)] | rw [if_pos (by omega)] | simp (disch := omega) only [w32_i]
    all_goals rfl
theorem Wo_chippedPlates_s (o : WO h w T W) (v : WV T W) : Wo_chippedPlates h w = some (h, Cm T W) := by
  obtain ⟨⟨w0, s6, s7, s8, s9, s10, s11, s12, s13, l1, l2, l3, l4, l5, l6, l7, l8⟩, ⟨e0, e1, e2, e3, e4, e5⟩, f1, f2, f3, f4, f5, f6, f7⟩ := id o
  obtain ⟨v0, v1, v2, v3, v4, v5, v6, v7, v8, v9, v10, v11⟩ := id v
  rw [Wo_chippedPlates_e]
  refine (fo_l0 (L := Wo_chippedPlates_1 h w) (f := fun k n => n + W 5 k) (I := fun k n => 0 ≤ k ∧ 0 ≤ n ∧ n ≤ 1 * k) (N := T 0 2) (by omega) ?_ (by omega)).trans ?_
  · intro k a hk hi
    have q := v6 k hi.1 hk
    have qf := f7 k hi.1 hk
    refine ⟨?_, by omega⟩
    rw [Wo_chippedPlates_1_e]
    simp only [e2, s12, l7]
    try rw [qf]
    repeat first | rw [ck_t (by omega)] | rw [if_neg (by omega)] | rw [if_pos (by omega)] | simp (disch := omega) only [w32_i]
    all_goals first | rfl | ((repeat' split) <;> first | omega | (simp (disch := omega) only [w32_i, Int.add_zero]; try omega) | (congr 1; omega))
  · rw [Wo_chippedPlates_1_e]
    simp only [e2, s12, l7]
    repeat first | rw [ck_t (by omega)] | rw [if_neg (by omega)] | rw [if_pos (by omega)] | simp (disch := omega) only [w32_i]
    all_goals rfl
theorem Wo_facesDown_s (o : WO h w T W) (v : WV T W) : Wo_facesDown h w = some (h, Fm T W) := by
  obtain ⟨⟨w0, s6, s7, s8, s9, s10, s11, s12, s13, l1, l2, l3, l4, l5, l6, l7, l8⟩, ⟨e0, e1, e2, e3, e4, e5⟩, f1, f2, f3, f4, f5, f6, f7⟩ := id o
  obtain ⟨v0, v1, v2, v3, v4, v5, v6, v7, v8, v9, v10, v11⟩ := id v
  rw [Wo_facesDown_e]
  refine (fo_l0 (L := Wo_facesDown_1 h w) (f := fun k n => n + W 4 k) (I := fun k n => 0 ≤ k ∧ 0 ≤ n ∧ n ≤ 1 * k) (N := T 0 2) (by omega) ?_ (by omega)).trans ?_
  · intro k a hk hi
    have q := v6 k hi.1 hk
    have qf := f6 k hi.1 hk
    refine ⟨?_, by omega⟩
    rw [Wo_facesDown_1_e]
    simp only [e2, s11, l6]
    try rw [qf]
    repeat first | rw [ck_t (by omega)] | rw [if_neg (by omega)] | rw [if_pos (by omega)] | simp (disch := omega) only [w32_i]
    all_goals first | rfl | ((repeat' split) <;> first | omega | (simp (disch := omega) only [w32_i, Int.add_zero]; try omega) | (congr 1; omega))
  · rw [Wo_facesDown_1_e]
    simp only [e2, s11, l6]
    repeat first | rw [ck_t (by omega)] | rw [if_neg (by omega)] | rw [if_pos (by omega)] | simp (disch := omega) only [w32_i]
    all_goals rfl
theorem Wo_tiredOfAll_s (o : WO h w T W) (v : WV T W) : Wo_tiredOfAll h w = some (h, Tm T W) := by
  obtain ⟨⟨w0, s6, s7, s8, s9, s10, s11, s12, s13, l1, l2, l3, l4, l5, l6, l7, l8⟩, ⟨e0, e1, e2, e3, e4, e5⟩, f1, f2, f3, f4, f5, f6, f7⟩ := id o
  obtain ⟨v0, v1, v2, v3, v4, v5, v6, v7, v8, v9, v10, v11⟩ := id v
  rw [Wo_tiredOfAll_e]
  refine (fo_l0 (L := Wo_tiredOfAll_1 h w) (f := fun k n => n + W 2 k) (I := fun k n => 0 ≤ k ∧ 0 ≤ n ∧ n ≤ 99999 * k) (N := T 0 0) (by omega) ?_ (by omega)).trans ?_
  · intro k a hk hi
    have q := v8 k hi.1 hk
    have qf := f3 k hi.1 hk
    refine ⟨?_, by omega⟩
    rw [Wo_tiredOfAll_1_e]
    simp only [e0, s8, l3]
    try rw [qf]
    repeat first | rw [ck_t (by omega)] | rw [if_neg (by omega)] | rw [if_pos (by omega)] | simp (disch := omega) only [w32_i]
    all_goals first | rfl | ((repeat' split) <;> first | omega | (simp (disch := omega) only [w32_i, Int.add_zero]; try omega) | (congr 1; omega))
  · rw [Wo_tiredOfAll_1_e]
    simp only [e0, s8, l3]
    repeat first | rw [ck_t (by omega)] | rw [if_neg (by omega)] | rw [if_pos (by omega)] | simp (disch := omega) only [w32_i]
    all_goals rfl
theorem Wo_rightPiles_s (o : WO h w T W) (v : WV T W) : Wo_rightPiles h w = some (h, Rm T W) := by
  obtain ⟨⟨w0, s6, s7, s8, s9, s10, s11, s12, s13, l1, l2, l3, l4, l5, l6, l7, l8⟩, ⟨e0, e1, e2, e3, e4, e5⟩, f1, f2, f3, f4, f5, f6, f7⟩ := id o
  obtain ⟨v0, v1, v2, v3, v4, v5, v6, v7, v8, v9, v10, v11⟩ := id v
  rw [Wo_rightPiles_e]
  refine (fo_l0 (L := Wo_rightPiles_1 h w) (f := fun k n => n + bz (Rt T W k)) (I := fun k n => 0 ≤ k ∧ 0 ≤ n ∧ n ≤ 1 * k) (N := T 0 1) (by omega) ?_ (by omega)).trans ?_
  · intro k a hk hi
    have q := bz_b (Rt T W k)
    refine ⟨?_, by omega⟩
    rw [Wo_rightPiles_1_e]
    simp only [e1]
    try rw [qf]
    repeat first | rw [ck_t (by omega)] | rw [if_neg (by omega)] | rw [if_pos (by omega)] | rw [Wo_isRight_s o v (by omega) (by omega), bd_v] | simp (disch := omega) only [w32_i]
    all_goals first | rfl | ((repeat' split) <;> first | omega | (simp (disch := omega) only [w32_i, Int.add_zero]; try omega) | (congr 1; omega))
  · rw [Wo_rightPiles_1_e]
    simp only [e1]
    repeat first | rw [ck_t (by omega)] | rw [if_neg (by omega)] | rw [if_pos (by omega)] | simp (disch := omega) only [w32_i]
    all_goals rfl
theorem Wo_properPiles_s (o : WO h w T W) (v : WV T W) : Wo_properPiles h w = some (h, Pm T W) := by
  obtain ⟨⟨w0, s6, s7, s8, s9, s10, s11, s12, s13, l1, l2, l3, l4, l5, l6, l7, l8⟩, ⟨e0, e1, e2, e3, e4, e5⟩, f1, f2, f3, f4, f5, f6, f7⟩ := id o
  obtain ⟨v0, v1, v2, v3, v4, v5, v6, v7, v8, v9, v10, v11⟩ := id v
  rw [Wo_properPiles_e]
  refine (fo_l0 (L := Wo_properPiles_1 h w) (f := fun k n => n + bz (Pr T W k)) (I := fun k n => 0 ≤ k ∧ 0 ≤ n ∧ n ≤ 1 * k) (N := T 0 1) (by omega) ?_ (by omega)).trans ?_
  · intro k a hk hi
    have q := bz_b (Pr T W k)
    refine ⟨?_, by omega⟩
    rw [Wo_properPiles_1_e]
    simp only [e1]
    try rw [qf]
    repeat first | rw [ck_t (by omega)] | rw [if_neg (by omega)] | rw [if_pos (by omega)] | rw [Wo_isProper_s o v (by omega) (by omega), bd_v] | simp (disch := omega) only [w32_i]
    all_goals first | rfl | ((repeat' split) <;> first | omega | (simp (disch := omega) only [w32_i, Int.add_zero]; try omega) | (congr 1; omega))
  · rw [Wo_properPiles_1_e]
    simp only [e1]
    repeat first | rw [ck_t (by omega)] | rw [if_neg (by omega)] | rw [if_pos (by omega)] | simp (disch := omega) only [w32_i]
    all_goals rfl
end
