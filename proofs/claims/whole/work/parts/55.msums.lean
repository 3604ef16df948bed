/-! the same of the reference -/
section
variable {h : am_H} {b : Int} {T W : Tx}
theorem Mo_isProper_s (s : ShM h) (t : MT h T) (o : MW h b T W) (v : WV T W) {p : Int} (h1 : 0 ≤ p) (h2 : p < T 0 1) : Mo_isProper h 94 b p = some (h, bz (Pr T W p)) := by
  obtain ⟨v0, v1, v2, v3, v4, v5, v6, v7, v8, v9, v10, v11⟩ := id v
  have q2 := v1 p h1 h2
  rw [Mo_isProper_e]
  rw [av_lp (L := Mo_isProper_1 h 94 b p) (P := fun k => decide (Fs T W p k = 0)) (N := W 0 p) (k0 := 0) (yes := some (h, bz (Rt T W p))) (no := some (h, 0)) ?_ ?_ (W 0 p).toNat 0 (by omega) (by omega)]
  · unfold Pr
    cases av_ (fun k => decide (Fs T W p k = 0)) (W 0 p).toNat 0 <;> rfl
  · intro k hk hN
    rw [Mo_isProper_1_e]
    repeat first | rw [ck_t (by omega)] | rw [if_neg (by omega)] | rw [if_pos (by omega)] | rw [Mo_highOf_s s o h1 h2 v, bd_v] | rw [Mo_faceAt_s s o v h1 h2 hk hN, bd_v] | simp (disch := omega) only [w32_i]
    by_cases d : Fs T W p k = 0
    · rw [if_pos d, if_pos (decide_eq_true d)]
    · rw [if_neg d, if_neg (by simpa using d)]
  · rw [Mo_isProper_1_e]
    repeat first | rw [ck_t (by omega)] | rw [if_neg (by omega)] | rw [if_pos (by omega)] | rw [Mo_highOf_s s o h1 h2 v, bd_v] | rw [Mo_isRight_s s t o v h1 h2, bd_v] | simp (disch := omega) only [w32_i]
    rw [ck_t (bz_0 _)]
theorem Mo_greaterAt_s (s : ShM h) (t : MT h T) (o : MW h b T W) (v : WV T W) {p : Int} (h1 : 0 ≤ p) (h2 : p < T 0 1) (j : Int) : Mo_greaterAt h 94 b p j = some (h, Gr T W p j) := by
  obtain ⟨v0, v1, v2, v3, v4, v5, v6, v7, v8, v9, v10, v11⟩ := id v
  have q2 := v1 p h1 h2
  rw [Mo_greaterAt_e]
  refine (fo_l0 (L := Mo_greaterAt_1 h 94 b p j) (f := Gs T W p j) (I := fun k g => 0 ≤ k) (N := W 0 p) (by omega) ?_ (by omega)).trans ?_
  · intro k g hk hi
    refine ⟨?_, by omega⟩
    rw [Mo_greaterAt_1_e]
    repeat first | rw [ck_t (by omega)] | rw [if_neg (by omega)] | rw [if_pos (by omega)] | rw [Mo_highOf_s s o h1 h2 v, bd_v] | rw [Mo_sizeAt_s s t o v h1 h2, bd_v] | simp (disch := omega) only [w32_i]
    unfold Gs
    by_cases c : Zs T W p k ≤ Zs T W p j
    · rw [if_pos c, if_neg (by omega)]
    · rw [if_neg c]
      by_cases d : g < 0
      · rw [if_pos d, if_pos (by omega)]
      · rw [if_neg d]
        by_cases e : Zs T W p g ≤ Zs T W p k
        · rw [if_pos e, if_neg (by omega)]
        · rw [if_neg e, if_pos (by omega)]
  · rw [Mo_greaterAt_1_e]
    repeat first | rw [ck_t (by omega)] | rw [if_neg (by omega)] | rw [if_pos (by omega)] | rw [Mo_highOf_s s o h1 h2 v, bd_v] | simp (disch := omega) only [w32_i]
    all_goals rfl
theorem Mo_gapsOf_s (s : ShM h) (t : MT h T) (o : MW h b T W) (v : WV T W) {p : Int} (h1 : 0 ≤ p) (h2 : p < T 0 1) : Mo_gapsOf h 94 b p = some (h, Gp T W p) := by
  obtain ⟨v0, v1, v2, v3, v4, v5, v6, v7, v8, v9, v10, v11⟩ := id v
  have q2 := v1 p h1 h2
  rw [Mo_gapsOf_e]
  refine (fo_l0 (L := Mo_gapsOf_1 h 94 b p) (f := fun k n => n + Ga T W p k) (I := fun k n => 0 ≤ k ∧ 0 ≤ n ∧ n ≤ k) (N := W 0 p) (by omega) ?_ (by omega)).trans ?_
  · intro k a hk hi
    have ga := Ga_b T W p k
    have gr := Gr_b v h1 h2 k
    refine ⟨?_, by omega⟩
    rw [Mo_gapsOf_1_e]
    repeat first | rw [ck_t (by omega)] | rw [if_neg (by omega)] | rw [if_pos (by omega)] | rw [Mo_highOf_s s o h1 h2 v, bd_v] | rw [Mo_greaterAt_s s t o v h1 h2, bd_v] | simp (disch := omega) only [w32_i]
    unfold Ga
    generalize Gr T W p k = g at gr ⊢
    simp (disch := omega) only [Mo_gapsOf_10_e, w32_i, ↓reduceIte]
    try simp only [Mo_highOf_s s o h1 h2 v, bd_v]
    try rw [ck_t (by omega)]
    try simp (disch := omega) only [w32_i, ↓reduceIte]
    repeat' first | rw [ck_t (by omega)] | split
    all_goals first | omega | rfl
  · rw [Mo_gapsOf_1_e]
    repeat first | rw [ck_t (by omega)] | rw [if_neg (by omega)] | rw [if_pos (by omega)] | rw [Mo_highOf_s s o h1 h2 v, bd_v] | simp (disch := omega) only [w32_i]
    all_goals rfl
theorem Mo_gapsAll_s (s : ShM h) (t : MT h T) (o : MW h b T W) (v : WV T W) : Mo_gapsAll h 94 b = some (h, Gm T W) := by
  obtain ⟨b0, g0, g1, g2, g3, g4, g5, g6, g7⟩ := id o
  obtain ⟨v0, v1, v2, v3, v4, v5, v6, v7, v8, v9, v10, v11⟩ := id v
  obtain ⟨⟨t0, t1, t2, -⟩, -⟩ := id t
  rw [Mo_gapsAll_e]
  refine (fo_l0 (L := Mo_gapsAll_1 h 94 b) (f := fun k n => n + Gp T W k) (I := fun k n => 0 ≤ k ∧ 0 ≤ n ∧ n ≤ 5 * k) (N := T 0 1) (by omega) ?_ (by omega)).trans ?_
  · intro k a hk hi
    have q := Gp_b v hi.1 hk
    refine ⟨?_, by omega⟩
    rw [Mo_gapsAll_1_e]
    simp only [t1]
    try simp (disch := omega) only [w32_i, ↓reduceIte]
    try rw [qf]
    repeat first | rw [ck_t (by omega)] | rw [if_neg (by omega)] | rw [if_pos (by omega)] | rw [Mo_gapsOf_s s t o v (by omega) (by omega), bd_v] | simp (disch := omega) only [w32_i]
    all_goals first | rfl | ((repeat' split) <;> first | omega | (congr 1; omega) | (simp (disch := omega) only [w32_i, Int.add_zero]; first | omega | rfl | (congr 1; omega)))
  · rw [Mo_gapsAll_1_e]
    simp only [t1]
    repeat first | rw [ck_t (by omega)] | rw [if_neg (by omega)] | rw [if_pos (by omega)] | simp (disch := omega) only [w32_i]
    all_goals rfl
theorem Mo_chippedMany_s (s : ShM h) (t : MT h T) (o : MW h b T W) (v : WV T W) : Mo_chippedMany h 94 b = some (h, Cm T W) := by
  obtain ⟨b0, g0, g1, g2, g3, g4, g5, g6, g7⟩ := id o
  obtain ⟨v0, v1, v2, v3, v4, v5, v6, v7, v8, v9, v10, v11⟩ := id v
  obtain ⟨⟨t0, t1, t2, -⟩, -⟩ := id t
  rw [Mo_chippedMany_e]
  refine (fo_l0 (L := Mo_chippedMany_1 h 94 b) (f := fun k n => n + W 5 k) (I := fun k n => 0 ≤ k ∧ 0 ≤ n ∧ n ≤ 1 * k) (N := T 0 2) (by omega) ?_ (by omega)).trans ?_
  · intro k a hk hi
    have q := v6 k hi.1 hk
    have qf := g5 k hi.1 hk
    refine ⟨?_, by omega⟩
    rw [Mo_chippedMany_1_e]
    try simp only [mr56 s, ml124 s]
    simp only [t2]
    try simp (disch := omega) only [w32_i, ↓reduceIte]
    try rw [qf]
    repeat first | rw [ck_t (by omega)] | rw [if_neg (by omega)] | rw [if_pos (by omega)] | simp (disch := omega) only [w32_i]
    all_goals first | rfl | ((repeat' split) <;> first | omega | (congr 1; omega) | (simp (disch := omega) only [w32_i, Int.add_zero]; first | omega | rfl | (congr 1; omega)))
  · rw [Mo_chippedMany_1_e]
    try simp only [mr56 s, ml124 s]
    simp only [t2]
    repeat first | rw [ck_t (by omega)] | rw [if_neg (by omega)] | rw [if_pos (by omega)] | simp (disch := omega) only [w32_i]
    all_goals rfl
theorem Mo_rightMany_s (s : ShM h) (t : MT h T) (o : MW h b T W) (v : WV T W) : Mo_rightMany h 94 b = some (h, Rm T W) := by
  obtain ⟨b0, g0, g1, g2, g3, g4, g5, g6, g7⟩ := id o
  obtain ⟨v0, v1, v2, v3, v4, v5, v6, v7, v8, v9, v10, v11⟩ := id v
  obtain ⟨⟨t0, t1, t2, -⟩, -⟩ := id t
  rw [Mo_rightMany_e]
  refine (fo_l0 (L := Mo_rightMany_1 h 94 b) (f := fun k n => n + bz (Rt T W k)) (I := fun k n => 0 ≤ k ∧ 0 ≤ n ∧ n ≤ 1 * k) (N := T 0 1) (by omega) ?_ (by omega)).trans ?_
  · intro k a hk hi
    have q := bz_b (Rt T W k)
    refine ⟨?_, by omega⟩
    rw [Mo_rightMany_1_e]
    simp only [t1]
    try simp (disch := omega) only [w32_i, ↓reduceIte]
    try rw [qf]
    repeat first | rw [ck_t (by omega)] | rw [if_neg (by omega)] | rw [if_pos (by omega)] | rw [Mo_isRight_s s t o v (by omega) (by omega), bd_v] | simp (disch := omega) only [w32_i]
    all_goals first | rfl | ((repeat' split) <;> first | omega | (congr 1; omega) | (simp (disch := omega) only [w32_i, Int.add_zero]; first | omega | rfl | (congr 1; omega)))
  · rw [Mo_rightMany_1_e]
    simp only [t1]
    repeat first | rw [ck_t (by omega)] | rw [if_neg (by omega)] | rw [if_pos (by omega)] | simp (disch := omega) only [w32_i]
    all_goals rfl
theorem Mo_properMany_s (s : ShM h) (t : MT h T) (o : MW h b T W) (v : WV T W) : Mo_properMany h 94 b = some (h, Pm T W) := by
  obtain ⟨b0, g0, g1, g2, g3, g4, g5, g6, g7⟩ := id o
  obtain ⟨v0, v1, v2, v3, v4, v5, v6, v7, v8, v9, v10, v11⟩ := id v
  obtain ⟨⟨t0, t1, t2, -⟩, -⟩ := id t
  rw [Mo_properMany_e]
  refine (fo_l0 (L := Mo_properMany_1 h 94 b) (f := fun k n => n + bz (Pr T W k)) (I := fun k n => 0 ≤ k ∧ 0 ≤ n ∧ n ≤ 1 * k) (N := T 0 1) (by omega) ?_ (by omega)).trans ?_
  · intro k a hk hi
    have q := bz_b (Pr T W k)
    refine ⟨?_, by omega⟩
    rw [Mo_properMany_1_e]
    simp only [t1]
    try simp (disch := omega) only [w32_i, ↓reduceIte]
    try rw [qf]
    repeat first | rw [ck_t (by omega)] | rw [if_neg (by omega)] | rw [if_pos (by omega)] | rw [Mo_isProper_s s t o v (by omega) (by omega), bd_v] | simp (disch := omega) only [w32_i]
    all_goals first | rfl | ((repeat' split) <;> first | omega | (congr 1; omega) | (simp (disch := omega) only [w32_i, Int.add_zero]; first | omega | rfl | (congr 1; omega)))
  · rw [Mo_properMany_1_e]
    simp only [t1]
    repeat first | rw [ck_t (by omega)] | rw [if_neg (by omega)] | rw [if_pos (by omega)] | simp (disch := omega) only [w32_i]
    all_goals rfl
theorem Mo_count_13_s (s : ShM h) (t : MT h T) (o : MW h 0 T W) (v : WV T W) : Mo_count_13 h 94 0 0 = some (h, Tm T W) := by
  obtain ⟨b0, g0, g1, g2, g3, g4, g5, g6, g7⟩ := id o
  obtain ⟨v0, v1, v2, v3, v4, v5, v6, v7, v8, v9, v10, v11⟩ := id v
  obtain ⟨⟨t0, t1, t2, -⟩, -⟩ := id t
  refine (fo_l0 (L := Mo_count_13 h 94) (f := fun k n => n + W 2 k) (I := fun k n => 0 ≤ k ∧ 0 ≤ n ∧ n ≤ 99999 * k) (N := T 0 0) (by omega) ?_ (by omega)).trans ?_
  · intro k a hk hi
    have q := v8 k hi.1 hk
    have qf : rd_ h 125 k = W 2 k := by have := g2 k hi.1 hk; simpa using this
    refine ⟨?_, by omega⟩
    rw [Mo_count_13_e]
    try simp only [mr57 s, ml125 s]
    simp only [t0, qf]
    repeat first | rw [ck_t (by omega)] | rw [if_neg (by omega)] | rw [if_pos (by omega)] | simp (disch := omega) only [w32_i]
  · rw [Mo_count_13_e]
    try simp only [mr57 s, ml125 s]
    simp only [t0]
    repeat first | rw [ck_t (by omega)] | rw [if_neg (by omega)] | rw [if_pos (by omega)] | simp (disch := omega) only [w32_i]
    all_goals rfl
theorem Mo_count_17_s (s : ShM h) (t : MT h T) (o : MW h 0 T W) (v : WV T W) : Mo_count_17 h 94 0 0 = some (h, Fm T W) := by
  obtain ⟨b0, g0, g1, g2, g3, g4, g5, g6, g7⟩ := id o
  obtain ⟨v0, v1, v2, v3, v4, v5, v6, v7, v8, v9, v10, v11⟩ := id v
  obtain ⟨⟨t0, t1, t2, -⟩, -⟩ := id t
  refine (fo_l0 (L := Mo_count_17 h 94) (f := fun k n => n + W 4 k) (I := fun k n => 0 ≤ k ∧ 0 ≤ n ∧ n ≤ 1 * k) (N := T 0 2) (by omega) ?_ (by omega)).trans ?_
  · intro k a hk hi
    have q := v6 k hi.1 hk
    have qf : rd_ h 123 k = W 4 k := by have := g4 k hi.1 hk; simpa using this
    refine ⟨?_, by omega⟩
    rw [Mo_count_17_e]
    try simp only [mr55 s, ml123 s]
    simp only [t2, qf]
    repeat first | rw [ck_t (by omega)] | rw [if_neg (by omega)] | rw [if_pos (by omega)] | simp (disch := omega) only [w32_i]
  · rw [Mo_count_17_e]
    try simp only [mr55 s, ml123 s]
    simp only [t2]
    repeat first | rw [ck_t (by omega)] | rw [if_neg (by omega)] | rw [if_pos (by omega)] | simp (disch := omega) only [w32_i]
    all_goals rfl
end
