/-! the loop over a pile's sizes in the reference: is the size told already -/
section
variable {B : Int → Int} {n c s : Int} {h : am_H} {T : Tx}
/-- the loop ends at its end, or at a plate of that size -/
theorem Mo_pl7_lp {P z q1 : Int} (g : MP h T c s) (w : WVt T) (P0 : 0 ≤ P) (P1 : P < T 0 1) : ∀ (m : Nat) (k : Int), 0 ≤ k → k + m = T 4 P → Mo_plateLine_7 h 94 q1 P z k = if av_ (fun k => decide (Zs T (W0_ T (T 0 6)) P k ≠ z)) m k then Mo_plateLine_7 h 94 q1 P z (T 4 P) else (bd_ (Mo_wrong (wr_ h 94 10 q1) 94 3) fun h1 v2 => ck_ (v2 = 0 ∨ v2 = 1) (some (h1, v2))) := by
  have wv := w.1
  have w4 := w.2.1 P P0 P1
  have w6 := w.2.2.1
  have e2 := (g.2.2.2.2.1 P P0 P1).2
  intro m
  induction m with
  | zero =>
    intro k k0 e
    have ek : k = T 4 P := by omega
    rw [ek]
    exact (if_pos rfl).symm
  | succ m ih =>
    intro k k0 e
    have x6 := w6 P k P0 P1 k0 (by omega)
    have e3 := g.2.2.2.2.2.2.1 P k P0 P1 k0 (by omega)
    have e4 := (g.2.2.2.2.2.2.2.1 (T 6 (5 * P + k)) x6.1 x6.2).1
    have ez : Zs T (W0_ T (T 0 6)) P k = T 5 (T 6 (5 * P + k)) := by
      unfold Zs
      exact if_pos ⟨P0, P1, k0, by show k < T 4 P; omega⟩
    have ea : av_ (fun k => decide (Zs T (W0_ T (T 0 6)) P k ≠ z)) (m + 1) k = (decide (Zs T (W0_ T (T 0 6)) P k ≠ z) && av_ (fun k => decide (Zs T (W0_ T (T 0 6)) P k ≠ z)) m (k + 1)) := rfl
    have i20 : 20 + 5 * P + k = 20 + (5 * P + k) := by omega
    rw [ea, ez, Mo_plateLine_7_e]
    simp only [mr27 g.1, ml102 g.1, mr28 g.1, ml103 g.1, mr29 g.1, ml104 g.1]
    rw [w32_i (x := 4 + P) (by omega) (by omega), e2, w32_i (x := 5 * P) (by omega) (by omega), w32_i (x := 20 + 5 * P) (by omega) (by omega), w32_i (x := 20 + 5 * P + k) (by omega) (by omega), i20, e3, w32_i (x := 20 + T 6 (5 * P + k)) (by omega) (by omega), e4]
    rw [ck_t (by omega), ck_t (by omega), ck_t (by omega), if_neg (by omega)]
    repeat rw [ck_t (by omega)]
    by_cases q : T 5 (T 6 (5 * P + k)) = z
    · rw [if_pos (c := T 5 (T 6 (5 * P + k)) = z) q]
      have ed : decide (T 5 (T 6 (5 * P + k)) ≠ z) = false := by simp [q]
      rw [ed, Bool.false_and, if_neg (c := false = true) (by simp)]
    · rw [if_neg (c := T 5 (T 6 (5 * P + k)) = z) q, w32_i (x := k + 1) (by omega) (by omega), ih (k + 1) (by omega) (by omega)]
      have ed : decide (T 5 (T 6 (5 * P + k)) ≠ z) = true := by simp [q]
      rw [ed, Bool.true_and]
end
