section
variable {h : am_H} {w : Int} {T W : Tx}
theorem Wo_hasPile_t (o : WO h w T W) {p : Int} (h1 : 0 ≤ p) (h2 : p < T 0 1) : Wo_hasPile h w p = some (h, 1) := by
  obtain ⟨⟨w0, -⟩, ⟨-, e1, -⟩, -⟩ := o
  rw [Wo_hasPile_e]
  simp only [e1]
  repeat' first | rw [ck_t (by omega)] | split
  all_goals first | rfl | omega
theorem Wo_hasPile_f (o : WO h w T W) {p : Int} (n : ¬ (0 ≤ p ∧ p < T 0 1)) : Wo_hasPile h w p = some (h, 0) := by
  obtain ⟨⟨w0, -⟩, ⟨-, e1, -⟩, -⟩ := o
  rw [Wo_hasPile_e]
  simp only [e1]
  repeat' first | rw [ck_t (by omega)] | split
  all_goals first | rfl | omega
theorem Wo_hasMaid_t (o : WO h w T W) {p : Int} (h1 : 0 ≤ p) (h2 : p < T 0 0) : Wo_hasMaid h w p = some (h, 1) := by
  obtain ⟨⟨w0, -⟩, ⟨e0, -⟩, -⟩ := o
  rw [Wo_hasMaid_e]
  simp only [e0]
  repeat' first | rw [ck_t (by omega)] | split
  all_goals first | rfl | omega
theorem Wo_hasMaid_f (o : WO h w T W) {p : Int} (n : ¬ (0 ≤ p ∧ p < T 0 0)) : Wo_hasMaid h w p = some (h, 0) := by
  obtain ⟨⟨w0, -⟩, ⟨e0, -⟩, -⟩ := o
  rw [Wo_hasMaid_e]
  simp only [e0]
  repeat' first | rw [ck_t (by omega)] | split
  all_goals first | rfl | omega
theorem Wo_plateAt_s (o : WO h w T W) (v : WV T W) (p k : Int) : Wo_plateAt h w p k = some (h, Pa T W p k) := by
  obtain ⟨⟨w0, s6, s7, s8, s9, s10, s11, s12, s13, l1, l2, l3, l4, l5, l6, l7, l8⟩, ⟨e0, e1, e2, e3, e4, e5⟩, f1, f2, f3, f4, f5, f6, f7⟩ := o
  obtain ⟨v0, v1, v2, -⟩ := v
  rw [Wo_plateAt_e]
  unfold Pa
  simp only [e1, s6, s9, l1, l4]
  by_cases c : 0 ≤ p ∧ p < T 0 1
  · have q1 := f1 p c.1 c.2
    have q2 := v1 p c.1 c.2
    simp only [q1]
    by_cases d : 0 ≤ k ∧ k < W 0 p
    · have q3 := f4 p k c.1 c.2 d.1 d.2
      rw [if_neg (by omega), ck_t (by omega), if_neg (by omega), if_neg (by omega), ck_t (by omega), ck_t (by omega), ck_t (by omega), if_pos d.2, ck_t (by omega), ck_t (by omega), w32_i (x := p * 5) (by omega) (by omega), w32_i (by omega) (by omega), ck_t (by omega), if_pos ⟨c.1, c.2, d.1, d.2⟩, Int.mul_comm p 5, q3]
    · rw [if_neg (c := 0 ≤ p ∧ _) (by omega)]
      repeat' first | rw [ck_t (by omega)] | split
      all_goals first | rfl | omega
  · rw [if_neg (c := 0 ≤ p ∧ _) (by omega)]
    repeat' first | rw [ck_t (by omega)] | split
    all_goals first | rfl | omega
theorem Pa_in (v : WV T W) {p k : Int} (h1 : 0 ≤ p) (h2 : p < T 0 1) (h3 : 0 ≤ k) (h4 : k < W 0 p) : Pa T W p k = W 3 (5 * p + k) ∧ 0 ≤ W 3 (5 * p + k) ∧ W 3 (5 * p + k) < T 0 2 := by
  obtain ⟨v0, v1, v2, -⟩ := v
  have := v2 p k h1 h2 h3 h4
  unfold Pa
  rw [if_pos ⟨h1, h2, h3, h4⟩]
  exact ⟨rfl, this⟩
theorem Wo_sizeAt_s (o : WO h w T W) (v : WV T W) (p k : Int) : Wo_sizeAt h w p k = some (h, Zs T W p k) := by
  have o' := o
  obtain ⟨⟨w0, s6, s7, s8, s9, s10, s11, s12, s13, l1, l2, l3, l4, l5, l6, l7, l8⟩, ⟨e0, e1, e2, e3, e4, e5⟩, f1, f2, f3, f4, f5, f6, f7⟩ := o'
  rw [Wo_sizeAt_e, Wo_plateAt_s o v]
  simp only [bd_v, s10, l5]
  unfold Zs
  by_cases c : 0 ≤ p ∧ p < T 0 1 ∧ 0 ≤ k ∧ k < W 0 p
  · obtain ⟨q1, q2, q3⟩ := Pa_in v c.1 c.2.1 c.2.2.1 c.2.2.2
    have v0 := v.1
    rw [if_pos c, q1, ck_t (by omega), if_pos (by omega), ck_t (by omega), ck_t (by omega), ck_t (by omega), f5 _ q2 q3]
  · have : Pa T W p k = -1 := by unfold Pa; rw [if_neg c]
    rw [if_neg c, this, ck_t (by omega), if_neg (by omega)]
theorem Wo_faceAt_s (o : WO h w T W) (v : WV T W) (p k : Int) : Wo_faceAt h w p k = some (h, Fs T W p k) := by
  have o' := o
  obtain ⟨⟨w0, s6, s7, s8, s9, s10, s11, s12, s13, l1, l2, l3, l4, l5, l6, l7, l8⟩, ⟨e0, e1, e2, e3, e4, e5⟩, f1, f2, f3, f4, f5, f6, f7⟩ := o'
  rw [Wo_faceAt_e, Wo_plateAt_s o v]
  simp only [bd_v, s11, l6]
  unfold Fs
  by_cases c : 0 ≤ p ∧ p < T 0 1 ∧ 0 ≤ k ∧ k < W 0 p
  · obtain ⟨q1, q2, q3⟩ := Pa_in v c.1 c.2.1 c.2.2.1 c.2.2.2
    have v0 := v.1
    rw [if_pos c, q1, ck_t (by omega), if_pos (by omega), ck_t (by omega), ck_t (by omega), ck_t (by omega), f6 _ q2 q3]
  · have : Pa T W p k = -1 := by unfold Pa; rw [if_neg c]
    rw [if_neg c, this, ck_t (by omega), if_neg (by omega)]
theorem Wo_isRight_s (o : WO h w T W) (v : WV T W) {p : Int} (h1 : 0 ≤ p) (h2 : p < T 0 1) : Wo_isRight h w p = some (h, bz (Rt T W p)) := by
  have o' := o
  obtain ⟨⟨w0, s6, s7, s8, s9, s10, s11, s12, s13, l1, l2, l3, l4, l5, l6, l7, l8⟩, ⟨e0, e1, e2, e3, e4, e5⟩, f1, f2, f3, f4, f5, f6, f7⟩ := o'
  obtain ⟨v0, v1, -⟩ := id v
  have q1 := f1 p h1 h2
  have q2 := v1 p h1 h2
  have fin : ∀ k, W 0 p ≤ k → Wo_isRight_1 h w p k = some (h, 1) := by
    intro k hk
    rw [Wo_isRight_1_e]
    simp only [s6, l1, q1]
    rw [ck_t (by omega), ck_t (by omega), ck_t (by omega), if_pos hk]
  rw [Wo_isRight_e]
  by_cases c : W 0 p ≤ 1
  · rw [fin 1 c]
    unfold Rt
    rw [show (W 0 p - 1).toNat = 0 by omega]
    rfl
  · rw [av_lp (L := Wo_isRight_1 h w p) (P := fun k => decide (Zs T W p (k - 1) < Zs T W p k)) (N := W 0 p) (k0 := 1) (yes := some (h, 1)) (no := some (h, 0)) ?_ (fin _ (by omega)) (W 0 p - 1).toNat 1 (by omega) (by omega), bz_so]
    · rfl
    · intro k hk hN
      rw [Wo_isRight_1_e]
      simp only [s6, l1, q1]
      rw [ck_t (by omega), ck_t (by omega), ck_t (by omega), if_neg (by omega), ck_t (by omega), w32_i (by omega) (by omega), w32_i (by omega) (by omega), Wo_sizeAt_s o v, bd_v, ck_t (by omega), Wo_sizeAt_s o v, bd_v]
      by_cases d : Zs T W p (k - 1) < Zs T W p k
      · rw [if_pos d, if_pos (decide_eq_true d)]
      · rw [if_neg d, if_neg (by simpa using d)]
end
