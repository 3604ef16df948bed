/-! holds, in the class -/
def gcdC_ (a : Int) : Nat → Int
  | 0 => if a ≠ 0 then 1 else 100
  | n + 1 => if n = 0 then (if a ≠ 0 then 1 else 100) else if Int.tmod a (n + 1 : Int) = 0 ∧ Int.tmod 100 (n + 1 : Int) = 0 then (n + 1 : Int) else gcdC_ a n
def pw_ (x : Int) : Nat → Int → Int
  | 0, v => v
  | n + 1, v => pw_ x n (w64 (v * x))
theorem gd_lp (h : am_H) (a : Int) : ∀ n : Nat, n ≤ 1000 → Pp_commonDivisor_1 h a 100 (n : Int) = some (h, gcdC_ a n) := by
  intro n
  induction n with
  | zero =>
    intro _
    rw [Pp_commonDivisor_1_e, if_pos (by omega)]
    unfold gcdC_
    split <;> rfl
  | succ n ih =>
    intro hn
    rw [Pp_commonDivisor_1_e, show ((n + 1 : Nat) : Int) = (n : Int) + 1 by omega]
    unfold gcdC_
    by_cases e : n = 0
    · rw [if_pos (by omega), if_pos e]
      split <;> rfl
    · rw [if_neg (by omega), if_neg e, ck_t (by omega), ck_t (by omega), w32_i (by omega) (by omega), show (n : Int) + 1 + -1 = n by omega, ih (by omega)]
      by_cases c1 : Int.tmod a ((n : Int) + 1) = 0
      · rw [if_neg (fun q => q c1)]
        by_cases c2 : Int.tmod 100 ((n : Int) + 1) = 0
        · rw [if_neg (fun q => q c2), if_pos ⟨c1, c2⟩]
        · rw [if_pos c2, if_neg (fun q => c2 q.2)]
      · rw [if_pos c1, if_neg (fun q => c1 q.1)]
theorem pw_9 (h : am_H) (N x : Int) (hN : N ≤ 1000) : ∀ (n : Nat) (k v : Int), 0 ≤ k → k + n = N → Pp_holds_9 h N x v k = some (h, pw_ x n v) := by
  intro n
  induction n with
  | zero =>
    intro k v k0 hn
    rw [Pp_holds_9_e, if_pos (by omega)]
    rfl
  | succ n ih =>
    intro k v k0 hn
    rw [Pp_holds_9_e, if_neg (by omega), w32_i (by omega) (by omega), ih (k + 1) _ (by omega) (by omega)]
    rfl
