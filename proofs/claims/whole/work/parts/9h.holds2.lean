theorem gcdC_p (a : Int) : ∀ n : Nat, 1 ≤ gcdC_ a n := by
  intro n
  induction n with
  | zero => unfold gcdC_; split <;> omega
  | succ n ih =>
    unfold gcdC_
    repeat' split
    all_goals omega
section
variable {h : am_H} {T W I : Tx} {U : Int → Tx} {Q : Tx}
def hol_ (c n x : Int) : Int := pw_ (w32 (Int.tdiv (if x ≠ 0 then 100 else 100 - c) (gcdC_ (100 - c) (100 - c).toNat))) n.toNat 1
theorem Pp_holds_t (g : CI h T W I U Q) (u : TV T) {n x : Int} (c1 : 0 ≤ n) (c2 : n ≤ 6) (c3 : 0 ≤ x) (c4 : x ≤ 1) : Pp_holds h 0 n x = some (h, hol_ (T 0 5) n x) := by
  obtain ⟨t, cb, ct⟩ := CI_B g
  have ht := ct.1
  have u0 := u.1
  have p := gcdC_p (100 - T 0 5) (100 - T 0 5).toNat
  have e : Pp_commonDivisor h (100 - T 0 5) 100 = some (h, gcdC_ (100 - T 0 5) (100 - T 0 5).toNat) := by
    rw [Pp_commonDivisor_e, if_neg (by omega)]
    have := gd_lp h (100 - T 0 5) (100 - T 0 5).toNat (by omega)
    rw [show (((100 - T 0 5).toNat : Nat) : Int) = 100 - T 0 5 by omega] at this
    exact this
  rw [Pp_holds_e, if_neg (by omega), if_neg (by omega), if_neg (by omega), if_pos c4]
  simp only [ct.2.1, ct.2.2.2.1.2.1.2.2.1]
  rw [w32_i (x := 100 - T 0 5) (by omega) (by omega)]
  repeat rw [ck_t (by omega)]
  rw [e, bd_v]
  unfold hol_
  by_cases c : x = 0
  · rw [if_neg (by omega), ck_t (by omega), if_neg (by omega), pw_9 h n _ (by omega) n.toNat 0 1 (by omega) (by omega)]
  · rw [if_pos c, ck_t (by omega), if_pos c, pw_9 h n _ (by omega) n.toNat 0 1 (by omega) (by omega)]
theorem Pp_holds_f (h : am_H) {n x : Int} (c : ¬ ((0 ≤ n ∧ n ≤ 6) ∧ 0 ≤ x ∧ x ≤ 1)) : Pp_holds h 0 n x = some (h, -1) := by
  rw [Pp_holds_e]
  by_cases c1 : n < 0
  · rw [if_pos c1]
  · rw [if_neg c1]
    by_cases c2 : 6 < n
    · rw [if_pos c2]
    · rw [if_neg c2]
      by_cases c3 : x < 0
      · rw [if_pos c3]
      · rw [if_neg c3, if_neg (by omega)]
end
