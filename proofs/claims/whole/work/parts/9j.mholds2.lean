/-! holds, in the reference; the two agree -/
theorem ho_4 {h : am_H} {c x N : Int} (s : ShM h) (e : rd_ h 98 0 = c) (hN : N ≤ 1000) : ∀ (n : Nat) (k a b : Int), 0 ≤ k → k + n = N → Mo_holds_4 h 94 N x a b k = Mo_holds_7 h x (pw_ (w32 (100 - c)) n a) (pw_ 100 n b) (pw_ 100 n b) (pw_ (w32 (100 - c)) n a) := by
  intro n
  induction n with
  | zero =>
    intro k a b k0 hn
    rw [Mo_holds_4_e, if_pos (by omega)]
    rfl
  | succ n ih =>
    intro k a b k0 hn
    rw [Mo_holds_4_e, if_neg (by omega)]
    simp only [mr23 s, ml98 s, e]
    rw [ck_t (by omega), ck_t (by omega), ck_t (by omega), w32_i (x := k + 1) (by omega) (by omega), ih (k + 1) _ _ (by omega) (by omega)]
    rfl
def hoM_ (c n x : Int) : Int := w64 (Int.tdiv (if x ≠ 0 then pw_ 100 n.toNat 1 else pw_ (w32 (100 - c)) n.toNat 1) (Nat.gcd (pw_ 100 n.toNat 1).toNat (pw_ (w32 (100 - c)) n.toNat 1).toNat : Nat))
def hoB_ (c n x : Nat) : Bool := decide (hoM_ c n x = hol_ c n x) && decide (0 < pw_ 100 n 1) && decide (0 ≤ pw_ (w32 (100 - c)) n 1)
set_option maxRecDepth 100000 in
theorem hoB_all : ((List.range 101).all fun c => (List.range 7).all fun n => (List.range 2).all fun x => hoB_ c n x) = true := by decide +kernel
theorem ho_eq {c n x : Int} (c1 : 0 ≤ c) (c2 : c ≤ 100) (n1 : 0 ≤ n) (n2 : n ≤ 6) (x1 : 0 ≤ x) (x2 : x ≤ 1) : hoM_ c n x = hol_ c n x ∧ 0 < pw_ 100 n.toNat 1 ∧ 0 ≤ pw_ (w32 (100 - c)) n.toNat 1 := by
  have a := List.all_eq_true.mp hoB_all c.toNat (List.mem_range.mpr (by omega))
  have b := List.all_eq_true.mp a n.toNat (List.mem_range.mpr (by omega))
  have d := List.all_eq_true.mp b x.toNat (List.mem_range.mpr (by omega))
  unfold hoB_ at d
  rw [show ((c.toNat : Nat) : Int) = c by omega, show ((n.toNat : Nat) : Int) = n by omega, show ((x.toNat : Nat) : Int) = x by omega] at d
  simp only [Bool.and_eq_true, decide_eq_true_eq] at d
  exact ⟨d.1.1, d.1.2, d.2⟩
section
variable {h : am_H} {T W I : Tx} {U : Int → Tx} {Q : Tx}
theorem Mo_holds_t (g0 : MN h T W I U Q) (v : WV T W) (u : TV T) {n x : Int} (c1 : 0 ≤ n) (c2 : n ≤ 6) (c3 : 0 ≤ x) (c4 : x ≤ 1) : Mo_holds h 94 n x = some (wr_ h 94 2 0, hol_ (T 0 5) n x) := by
  have g := MN_q g0 v (Mq_2 h 0)
  have u0 := u.1
  obtain ⟨e1, e2, e3⟩ := ho_eq (c := T 0 5) (n := n) (x := x) (by omega) (by omega) c1 c2 c3 c4
  rw [Mo_holds_e, ck_t (by omega), Mo_isIn_t c1 c2, bd_v, if_neg (by omega), Mo_isIn_t c3 c4, bd_v, if_pos (by omega), ho_4 g.1 g.2.1.1.2.2.2.2.2.1 (by omega) n.toNat 0 1 1 (by omega) (by omega)]
  have q := eu_7 (wr_ h 94 2 0) x (pw_ (w32 (100 - T 0 5)) n.toNat 1) (pw_ 100 n.toNat 1) (pw_ (w32 (100 - T 0 5)) n.toNat 1).toNat (pw_ (w32 (100 - T 0 5)) n.toNat 1).toNat (pw_ 100 n.toNat 1).toNat (by omega) (by omega)
  rw [show (((pw_ 100 n.toNat 1).toNat : Nat) : Int) = pw_ 100 n.toNat 1 by omega, show (((pw_ (w32 (100 - T 0 5)) n.toNat 1).toNat : Nat) : Int) = pw_ (w32 (100 - T 0 5)) n.toNat 1 by omega] at q
  rw [q, ← e1]
  rfl
theorem Mo_holds_f (h : am_H) {n x : Int} (c : ¬ ((0 ≤ n ∧ n ≤ 6) ∧ 0 ≤ x ∧ x ≤ 1)) : Mo_holds h 94 n x = some (wr_ h 94 2 0, -1) := by
  rw [Mo_holds_e, ck_t (by omega)]
  by_cases c1 : 0 ≤ n ∧ n ≤ 6
  · rw [Mo_isIn_t c1.1 c1.2, bd_v, if_neg (by omega), Mo_isIn_f (fun q => c ⟨c1, q⟩), bd_v, if_neg (by omega)]
  · rw [Mo_isIn_f c1, bd_v, if_pos (by omega)]
end
