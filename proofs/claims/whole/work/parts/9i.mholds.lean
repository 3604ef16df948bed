/-! holds, in the reference: its loops -/
theorem eu_7 (h : am_H) (x A B : Int) : ∀ (f q p : Nat), q ≤ f → 0 < p → Mo_holds_7 h x A B (p : Int) (q : Int) = some (h, w64 (Int.tdiv (if x ≠ 0 then B else A) (Nat.gcd p q : Nat))) := by
  intro f
  induction f with
  | zero =>
    intro q p hq hp
    have e : q = 0 := by omega
    subst e
    rw [Mo_holds_7_e, if_pos (by unfold lcm_; rfl), ck_t (by omega), ck_t (by omega), Nat.gcd_zero_right]
    split <;> rfl
  | succ f ih =>
    intro q p hq hp
    by_cases e : q = 0
    · subst e
      rw [Mo_holds_7_e, if_pos (by unfold lcm_; rfl), ck_t (by omega), ck_t (by omega), Nat.gcd_zero_right]
      split <;> rfl
    · have l : p % q < q := Nat.mod_lt _ (by omega)
      rw [Mo_holds_7_e, if_neg (by unfold lcm_; rw [if_neg (by omega), if_neg (by omega)]; omega), ck_t (by omega), show Int.tmod (p : Int) (q : Int) = ((p % q : Nat) : Int) from (Int.ofNat_tmod p q).symm, ih (p % q) q (by omega) (by omega)]
      rw [Nat.gcd_comm p q, Nat.gcd_rec q p, Nat.gcd_comm (p % q) q]
