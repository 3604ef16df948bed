/-! what holds of a text while it is read -/
def WVt (T : Tx) : Prop := (0 ≤ T 0 0 ∧ T 0 0 ≤ 4 ∧ 0 ≤ T 0 1 ∧ T 0 1 ≤ 4 ∧ 0 ≤ T 0 2 ∧ T 0 2 ≤ 20) ∧ (∀ p, 0 ≤ p → p < T 0 1 → 0 ≤ T 4 p ∧ T 4 p ≤ 5) ∧ (∀ p k, 0 ≤ p → p < T 0 1 → 0 ≤ k → k < T 4 p → 0 ≤ T 6 (5 * p + k) ∧ T 6 (5 * p + k) < T 0 2) ∧ (∀ p k q j, 0 ≤ p → p < T 0 1 → 0 ≤ k → k < T 4 p → 0 ≤ q → q < T 0 1 → 0 ≤ j → j < T 4 q → T 6 (5 * p + k) = T 6 (5 * q + j) → p = q ∧ k = j) ∧ (∀ j, 0 ≤ j → j < T 0 2 → 1 ≤ T 5 j ∧ T 5 j ≤ 99) ∧ (∀ p k j, 0 ≤ p → p < T 0 1 → 0 ≤ k → k < T 4 p → 0 ≤ j → j < T 4 p → T 5 (T 6 (5 * p + k)) = T 5 (T 6 (5 * p + j)) → k = j) ∧ (∀ j, 0 ≤ j → j < T 0 2 → T 7 j = 0 ∨ T 7 j = 1) ∧ (0 ≤ T 0 6 ∧ T 0 6 ≤ 99999) ∧ T 0 2 = sm_ (T 4) (T 0 1).toNat
theorem WVt_W {T : Tx} (v : WVt T) : WV T (W0_ T (T 0 6)) := by
  obtain ⟨v0, v1, v2, v3, v4, v5, v6, v7, v8⟩ := v
  refine ⟨v0, v1, v2, v3, v4, v5, fun j a b => ⟨v6 j a b, Or.inl rfl⟩, fun p _ _ => ?_, fun m _ _ => ?_, ?_, ?_, ?_, ?_⟩
  · show i32_ 0
    unfold i32_; omega
  · show (0 : Int) ≤ 0 ∧ (0 : Int) ≤ 99999
    omega
  · show i32_ 0
    unfold i32_; omega
  · show i32_ 0
    unfold i32_; omega
  · show 0 ≤ T 0 6
    omega
  · show T 0 6 ≤ 2147483647
    omega
theorem sm_45 {f : Int → Int} : ∀ n : Nat, (∀ p, 0 ≤ p → p < (n : Int) → 0 ≤ f p ∧ f p ≤ 5) → 0 ≤ sm_ f n ∧ sm_ f n ≤ 5 * n ∧ ∀ p, 0 ≤ p → p < (n : Int) → f p < 5 → sm_ f n < 5 * n := by
  intro n
  induction n with
  | zero => intro _; exact ⟨Int.le_refl _, Int.le_refl _, fun p a b => by omega⟩
  | succ n ih =>
    intro e
    obtain ⟨a1, a2, a3⟩ := ih (fun p x y => e p x (by omega))
    have en := e n (by omega) (by omega)
    have es : sm_ f (n + 1) = sm_ f n + f n := rfl
    rw [es]
    refine ⟨by omega, by omega, fun p x y z => ?_⟩
    by_cases q : p = n
    · rw [q] at z; omega
    · have := a3 p x (by omega) z
      omega
theorem WVt_maid {T : Tx} {v x : Int} (w : WVt T) (q : T 0 0 < 4) : WVt (mdT_ T v x) := by
  have u0 : ∀ k, k ≠ 0 → mdT_ T v x 0 k = T 0 k := fun k q => by unfold mdT_; rw [up_s, if_neg q, up_o _ _ _ (by decide), up_o _ _ _ (by decide)]
  have u00 : mdT_ T v x 0 0 = T 0 0 + 1 := by unfold mdT_; rw [up_s, if_pos rfl]
  have uf : ∀ f : Nat, f ≠ 0 → f ≠ 1 → f ≠ 2 → mdT_ T v x f = T f := fun f a b d => by unfold mdT_; rw [up_o _ _ _ a, up_o _ _ _ d, up_o _ _ _ b]
  unfold WVt at *
  rw [u00, u0 1 (by omega), u0 2 (by omega), u0 6 (by omega), uf 4 (by decide) (by decide) (by decide), uf 5 (by decide) (by decide) (by decide), uf 6 (by decide) (by decide) (by decide), uf 7 (by decide) (by decide) (by decide)]
  exact ⟨by have := w.1; omega, w.2⟩
theorem WVt_chip {T : Tx} {v : Int} (w : WVt T) : WVt (up_ T 0 5 v) := by
  have u0 : ∀ k, k ≠ 5 → up_ T 0 5 v 0 k = T 0 k := fun k q => by rw [up_s, if_neg q]
  have uf : ∀ f : Nat, f ≠ 0 → up_ T 0 5 v f = T f := fun f a => up_o _ _ _ a
  unfold WVt at *
  rw [u0 0 (by omega), u0 1 (by omega), u0 2 (by omega), u0 6 (by omega), uf 4 (by decide), uf 5 (by decide), uf 6 (by decide), uf 7 (by decide)]
  exact w
theorem WVt_seed {T : Tx} {v : Int} (w : WVt T) (v0 : 0 ≤ v) (v1 : v ≤ 99999) : WVt (up_ T 0 6 v) := by
  have u0 : ∀ k, k ≠ 6 → up_ T 0 6 v 0 k = T 0 k := fun k q => by rw [up_s, if_neg q]
  have u6 : up_ T 0 6 v 0 6 = v := by rw [up_s, if_pos rfl]
  have uf : ∀ f : Nat, f ≠ 0 → up_ T 0 6 v f = T f := fun f a => up_o _ _ _ a
  unfold WVt at *
  rw [u0 0 (by omega), u0 1 (by omega), u0 2 (by omega), u6, uf 4 (by decide), uf 5 (by decide), uf 6 (by decide), uf 7 (by decide)]
  obtain ⟨a1, a2, a3, a4, a5, a6, a7, a8, a9⟩ := w
  exact ⟨a1, a2, a3, a4, a5, a6, a7, ⟨v0, v1⟩, a9⟩
theorem WVt_turn {T : Tx} {m p d x : Int} (w : WVt T) : WVt (tuT_ T m p d x) := by
  have u0 : ∀ k, k ≠ 3 → tuT_ T m p d x 0 k = T 0 k := fun k q => by unfold tuT_; rw [up_s, if_neg q, up_o _ _ _ (by decide), up_o _ _ _ (by decide), up_o _ _ _ (by decide), up_o _ _ _ (by decide)]
  have uf : ∀ f : Nat, f ≠ 0 → f ≠ 8 → f ≠ 9 → f ≠ 10 → f ≠ 11 → tuT_ T m p d x f = T f := fun f a b b2 b3 b4 => by unfold tuT_; rw [up_o _ _ _ a, up_o _ _ _ b4, up_o _ _ _ b3, up_o _ _ _ b2, up_o _ _ _ b]
  unfold WVt at *
  rw [u0 0 (by omega), u0 1 (by omega), u0 2 (by omega), u0 6 (by omega), uf 4 (by decide) (by decide) (by decide) (by decide) (by decide), uf 5 (by decide) (by decide) (by decide) (by decide) (by decide), uf 6 (by decide) (by decide) (by decide) (by decide) (by decide), uf 7 (by decide) (by decide) (by decide) (by decide) (by decide)]
  exact w
theorem WVt_pile {T : Tx} {v : Int} (w : WVt T) (q : T 0 1 < 4) : WVt (piT_ T v) := by
  have u0 : ∀ k, k ≠ 1 → piT_ T v 0 k = T 0 k := fun k q => by unfold piT_; rw [up_s, if_neg q, up_o _ _ _ (by decide), up_o _ _ _ (by decide)]
  have u01 : piT_ T v 0 1 = T 0 1 + 1 := by unfold piT_; rw [up_s, if_pos rfl]
  have u4 : ∀ j, piT_ T v 4 j = if j = T 0 1 then 0 else T 4 j := fun j => by unfold piT_; rw [up_o _ _ _ (by decide), up_s, up_o _ _ _ (by decide)]
  have uf : ∀ f : Nat, f ≠ 0 → f ≠ 3 → f ≠ 4 → piT_ T v f = T f := fun f a b d => by unfold piT_; rw [up_o _ _ _ a, up_o _ _ _ d, up_o _ _ _ b]
  obtain ⟨a1, a2, a3, a4, a5, a6, a7, a8, a9⟩ := w
  unfold WVt
  rw [u0 0 (by omega), u01, u0 2 (by omega), u0 6 (by omega), uf 5 (by decide) (by decide) (by decide), uf 6 (by decide) (by decide) (by decide), uf 7 (by decide) (by decide) (by decide)]
  have lt : ∀ p k, k ≥ 0 → k < piT_ T v 4 p → p ≠ T 0 1 ∧ k < T 4 p := fun p k k0 z => by
    rw [u4] at z
    by_cases y : p = T 0 1
    · rw [if_pos y] at z; omega
    · rw [if_neg y] at z; exact ⟨y, z⟩
  refine ⟨by omega, fun p p0 p1 => ?_, fun p k p0 p1 k0 k1 => ?_, fun p k q' j p0 p1 k0 k1 q0 q1 j0 j1 e => ?_, a5, fun p k j p0 p1 k0 k1 j0 j1 e => ?_, a7, a8, ?_⟩
  · rw [u4]
    by_cases y : p = T 0 1
    · rw [if_pos y]; omega
    · rw [if_neg y]; exact a2 p p0 (by omega)
  · have z := lt p k k0 k1
    exact a3 p k p0 (by omega) k0 z.2
  · have z := lt p k k0 k1
    have z' := lt q' j j0 j1
    exact a4 p k q' j p0 (by omega) k0 z.2 q0 (by omega) j0 z'.2 e
  · have z := lt p k k0 k1
    have z' := lt p j j0 j1
    exact a6 p k j p0 (by omega) k0 z.2 j0 z'.2 e
  · have e1 : (T 0 1 + 1).toNat = (T 0 1).toNat + 1 := by omega
    have e2 : sm_ (piT_ T v 4) ((T 0 1).toNat + 1) = sm_ (piT_ T v 4) (T 0 1).toNat + piT_ T v 4 ((T 0 1).toNat : Int) := rfl
    rw [e1, e2, u4, if_pos (by omega), sm_c (g := T 4) (T 0 1).toNat (fun i i0 i1 => by rw [u4, if_neg (by omega)])]
    omega
