/-! a plate told: what holds of the text -/
def plT_ (T : Tx) (P z f : Int) : Tx := up_ (up_ (up_ (up_ (up_ T 6 (5 * P + T 4 P) (T 0 2)) 5 (T 0 2) z) 7 (T 0 2) f) 4 P (T 4 P + 1)) 0 2 (T 0 2 + 1)
section
variable {T : Tx} {P z f : Int}
theorem plT_0 {k : Int} (q : k ≠ 2) : plT_ T P z f 0 k = T 0 k := by unfold plT_; rw [up_s, if_neg q, up_o _ _ _ (by decide), up_o _ _ _ (by decide), up_o _ _ _ (by decide), up_o _ _ _ (by decide)]
theorem plT_02 : plT_ T P z f 0 2 = T 0 2 + 1 := by unfold plT_; rw [up_s, if_pos rfl]
theorem plT_4 (j : Int) : plT_ T P z f 4 j = if j = P then T 4 P + 1 else T 4 j := by unfold plT_; rw [up_o _ _ _ (by decide), up_s, up_o _ _ _ (by decide), up_o _ _ _ (by decide), up_o _ _ _ (by decide)]
theorem plT_7 (j : Int) : plT_ T P z f 7 j = if j = T 0 2 then f else T 7 j := by unfold plT_; rw [up_o _ _ _ (by decide), up_o _ _ _ (by decide), up_s, up_o _ _ _ (by decide), up_o _ _ _ (by decide)]
theorem plT_5 (j : Int) : plT_ T P z f 5 j = if j = T 0 2 then z else T 5 j := by unfold plT_; rw [up_o _ _ _ (by decide), up_o _ _ _ (by decide), up_o _ _ _ (by decide), up_s, up_o _ _ _ (by decide)]
theorem plT_6 (j : Int) : plT_ T P z f 6 j = if j = 5 * P + T 4 P then T 0 2 else T 6 j := by unfold plT_; rw [up_o _ _ _ (by decide), up_o _ _ _ (by decide), up_o _ _ _ (by decide), up_o _ _ _ (by decide), up_s]
theorem plT_f {g : Nat} (a : g ≠ 0) (b : g ≠ 4) (d : g ≠ 5) (e : g ≠ 6) (i : g ≠ 7) : plT_ T P z f g = T g := by unfold plT_; rw [up_o _ _ _ a, up_o _ _ _ b, up_o _ _ _ i, up_o _ _ _ d, up_o _ _ _ e]
theorem WVt_20 (w : WVt T) (P0 : 0 ≤ P) (P1 : P < T 0 1) (h : T 4 P < 5) : T 0 2 < 20 := by
  obtain ⟨a1, a2, a3, a4, a5, a6, a7, a8, a9⟩ := w
  have := (sm_45 (T 0 1).toNat (fun p x y => a2 p x (by omega))).2.2 P P0 (by omega) h
  omega
theorem WVt_plate (w : WVt T) (P0 : 0 ≤ P) (P1 : P < T 0 1) (h : T 4 P < 5) (z0 : 1 ≤ z) (z1 : z ≤ 99) (fr : f = 0 ∨ f = 1) (nw : ∀ k, 0 ≤ k → k < T 4 P → T 5 (T 6 (5 * P + k)) ≠ z) : WVt (plT_ T P z f) := by
  have lt := WVt_20 w P0 P1 h
  obtain ⟨a1, a2, a3, a4, a5, a6, a7, a8, a9⟩ := w
  have hP := a2 P P0 P1
  -- what lies at a place: an old one, or the new one
  have at_ : ∀ p k, 0 ≤ p → p < T 0 1 → 0 ≤ k → k < plT_ T P z f 4 p → (p = P ∧ k = T 4 P ∧ plT_ T P z f 6 (5 * p + k) = T 0 2) ∨ (k < T 4 p ∧ plT_ T P z f 6 (5 * p + k) = T 6 (5 * p + k) ∧ 0 ≤ T 6 (5 * p + k) ∧ T 6 (5 * p + k) < T 0 2) := by
    intro p k p0 p1 k0 k1
    rw [plT_4] at k1
    rw [plT_6]
    by_cases q : p = P
    · rw [if_pos q] at k1
      by_cases r : k = T 4 P
      · exact Or.inl ⟨q, r, by rw [if_pos (by omega)]⟩
      · have k2 : k < T 4 p := by rw [q]; omega
        exact Or.inr ⟨k2, by rw [if_neg (by omega)], a3 p k p0 p1 k0 k2⟩
    · rw [if_neg q] at k1
      have hp := a2 p p0 p1
      exact Or.inr ⟨k1, by rw [if_neg (by omega)], a3 p k p0 p1 k0 k1⟩
  have s5 : ∀ j, j < T 0 2 → plT_ T P z f 5 j = T 5 j := fun j q => by rw [plT_5, if_neg (by omega)]
  have s5n : plT_ T P z f 5 (T 0 2) = z := by rw [plT_5, if_pos rfl]
  unfold WVt
  rw [plT_0 (k := 0) (by omega), plT_0 (k := 1) (by omega), plT_02, plT_0 (k := 6) (by omega)]
  refine ⟨by omega, fun p p0 p1 => ?_, fun p k p0 p1 k0 k1 => ?_, fun p k q j p0 p1 k0 k1 q0 q1 j0 j1 e => ?_, fun j j0 j1 => ?_, fun p k j p0 p1 k0 k1 j0 j1 e => ?_, fun j j0 j1 => ?_, a8, ?_⟩
  · have := a2 p p0 p1
    rw [plT_4]
    by_cases q : p = P
    · rw [if_pos q]; omega
    · rw [if_neg q]; omega
  · rcases at_ p k p0 p1 k0 k1 with ⟨_, _, y⟩ | ⟨_, y, _, _⟩ <;> rw [y] <;> omega
  · rcases at_ p k p0 p1 k0 k1 with ⟨x1, x2, x3⟩ | ⟨x1, x2, x3, x4⟩ <;> rcases at_ q j q0 q1 j0 j1 with ⟨y1, y2, y3⟩ | ⟨y1, y2, y3, y4⟩
    · exact ⟨by rw [x1, y1], by rw [x2, y2]⟩
    · rw [x3, y2] at e; omega
    · rw [x2, y3] at e; omega
    · rw [x2, y2] at e
      exact a4 p k q j p0 p1 k0 x1 q0 q1 j0 y1 e
  · rw [plT_5]
    by_cases q : j = T 0 2
    · rw [if_pos q]; omega
    · rw [if_neg q]; exact a5 j j0 (by omega)
  · rcases at_ p k p0 p1 k0 k1 with ⟨x1, x2, x3⟩ | ⟨x1, x2, x3, x4⟩ <;> rcases at_ p j p0 p1 j0 j1 with ⟨y1, y2, y3⟩ | ⟨y1, y2, y3, y4⟩
    · rw [x2, y2]
    · rw [x3, y2, s5n, s5 _ y4] at e
      rw [x1] at y1 e
      exact absurd e.symm (nw j j0 y1)
    · rw [x2, y3, s5n, s5 _ x4] at e
      rw [y1] at x1 e
      exact absurd e (nw k k0 x1)
    · rw [x2, y2, s5 _ x4, s5 _ y4] at e
      exact a6 p k j p0 p1 k0 x1 j0 y1 e
  · rw [plT_7]
    by_cases q : j = T 0 2
    · rw [if_pos q]; exact fr
    · rw [if_neg q]; exact a7 j j0 (by omega)
  · have := sm_2 (f := T 4) (g := plT_ T P z f 4) (j := P) (T 0 1).toNat (fun i i0 i1 hi => by rw [plT_4, if_neg hi])
    rw [this, if_pos (by omega), plT_4, if_pos rfl]
    omega
end
