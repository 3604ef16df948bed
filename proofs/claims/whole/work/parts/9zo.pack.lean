/-! a word's letters as a number -/
theorem or_n {a b : Int} (a0 : 0 ≤ a) (a1 : a < 2147483648) (b0 : 0 ≤ b) (b1 : b < 2147483648) : or_ a b = ((a.toNat ||| b.toNat : Nat) : Int) := by
  have e : or_ a b = (BitVec.ofInt 32 a ||| BitVec.ofInt 32 b).toInt := rfl
  have n : (BitVec.ofInt 32 a ||| BitVec.ofInt 32 b).toNat = a.toNat ||| b.toNat := by
    rw [BitVec.toNat_or, BitVec.toNat_ofInt, BitVec.toNat_ofInt]
    congr 1 <;> omega
  have lt : a.toNat ||| b.toNat < 2 ^ 31 := Nat.or_lt_two_pow (by omega) (by omega)
  rw [e, BitVec.toInt_eq_toNat_cond, n]
  rw [if_pos (by omega)]
theorem or_add {a b : Int} (i : Nat) (a0 : 0 ≤ a) (a1 : a < 2147483648) (z : a % ((2 ^ i : Nat) : Int) = 0) (b0 : 0 ≤ b) (b1 : b < ((2 ^ i : Nat) : Int)) (b2 : b < 2147483648) : or_ a b = a + b := by
  rw [or_n a0 a1 b0 b2]
  have p : 0 < 2 ^ i := Nat.pow_pos (by omega)
  have e : a.toNat = 2 ^ i * (a.toNat / 2 ^ i) := by
    have : a.toNat % 2 ^ i = 0 := by
      have : ((a.toNat % 2 ^ i : Nat) : Int) = 0 := by rw [Int.natCast_emod, show ((a.toNat : Nat) : Int) = a by omega]; exact z
      omega
    have := Nat.div_add_mod a.toNat (2 ^ i)
    omega
  have k := Nat.two_pow_add_eq_or_of_lt (b := b.toNat) (i := i) (by omega) (a.toNat / 2 ^ i)
  rw [← e] at k
  rw [← k]
  omega
def dg_ (v i : Int) : Int := v / 2 ^ (25 - 5 * i).toNat % 32
def pz_ (x : Int) : Int := 2 ^ (30 - 5 * x).toNat
theorem dg_0 {v x i : Int} (x0 : 0 ≤ x) (xi : x ≤ i) (i1 : i < 6) (z : v % pz_ x = 0) : dg_ v i = 0 := by
  have hx : x = 0 ∨ x = 1 ∨ x = 2 ∨ x = 3 ∨ x = 4 ∨ x = 5 := by omega
  have hi : i = 0 ∨ i = 1 ∨ i = 2 ∨ i = 3 ∨ i = 4 ∨ i = 5 := by omega
  unfold dg_
  unfold pz_ at z
  rcases hx with q | q | q | q | q | q <;> subst q <;> rcases hi with r | r | r | r | r | r <;> subst r <;> simp only [Int.reduceToNat, Int.reducePow, Int.reduceMul, Int.reduceSub] at * <;> omega
theorem dg_st {v l x i : Int} (v0 : 0 ≤ v) (x0 : 0 ≤ x) (x1 : x < 6) (i0 : 0 ≤ i) (i1 : i < 6) (l0 : 0 ≤ l) (l1 : l < 32) (z : v % pz_ x = 0) : (v + l * 2 ^ (25 - 5 * x).toNat) % pz_ (x + 1) = 0 ∧ dg_ (v + l * 2 ^ (25 - 5 * x).toNat) i = if i < x then dg_ v i else if i = x then l else 0 := by
  have hx : x = 0 ∨ x = 1 ∨ x = 2 ∨ x = 3 ∨ x = 4 ∨ x = 5 := by omega
  have hi : i = 0 ∨ i = 1 ∨ i = 2 ∨ i = 3 ∨ i = 4 ∨ i = 5 := by omega
  unfold dg_
  unfold pz_ at *
  rcases hx with q | q | q | q | q | q <;> subst q <;> refine ⟨?_, ?_⟩ <;> (try (rcases hi with r | r | r | r | r | r <;> subst r)) <;> simp only [Int.reduceToNat, Int.reducePow, Int.reduceMul, Int.reduceSub, Int.reduceAdd] at * <;> first | omega | (rw [if_pos (by omega)]; omega) | (rw [if_neg (by omega), if_pos trivial]; omega) | (rw [if_neg (by omega), if_neg (by omega)]; omega)
section
variable {B : Int → Int}
theorem wv_d : ∀ (f : Nat) (k x v : Int), 0 ≤ x → (x ≤ 6 → v % pz_ x = 0) → 0 ≤ v → v < 1073741824 → (0 ≤ wv_ B f k x v ∧ wv_ B f k x v < 1073741824) ∧ ∀ i, 0 ≤ i → i < 6 → dg_ (wv_ B f k x v) i = if i < x then dg_ v i else if i - x < fe_ (isL B) f k - k then B (k + (i - x)) - 96 else 0 := by
  intro f
  induction f with
  | zero =>
    intro k x v x0 z v0 v1
    refine ⟨⟨v0, v1⟩, fun i i0 i1 => ?_⟩
    show dg_ v i = if i < x then dg_ v i else if i - x < k - k then _ else 0
    by_cases q : i < x
    · rw [if_pos q]
    · rw [if_neg q, if_neg (by omega)]
      exact dg_0 x0 (by omega) i1 (z (by omega))
  | succ f ih =>
    intro k x v x0 z v0 v1
    have ew : wv_ B (f + 1) k x v = if isL B k then wv_ B f (k + 1) (x + 1) (if 6 ≤ x then v else or_ v (w32 (w32 (w32 (B k - 97) + 1) * 2 ^ ((w32 (25 - w32 (5 * x))) % 32 : Int).toNat))) else v := rfl
    rw [ew, fe_s1]
    cases q : isL B k with
    | false =>
      rw [if_neg (c := false = true) (by simp), if_neg (c := false = true) (by simp)]
      refine ⟨⟨v0, v1⟩, fun i i0 i1 => ?_⟩
      by_cases r : i < x
      · rw [if_pos r]
      · rw [if_neg r, if_neg (by omega)]
        exact dg_0 x0 (by omega) i1 (z (by omega))
    | true =>
      have lq := isL_t.mp q
      rw [if_pos rfl, if_pos rfl]
      by_cases r : 6 ≤ x
      · rw [if_pos r]
        obtain ⟨a1, a2⟩ := ih (k + 1) (x + 1) v (by omega) (fun y => by omega) v0 v1
        refine ⟨a1, fun i i0 i1 => ?_⟩
        rw [a2 i i0 i1, if_pos (by omega), if_pos (by omega)]
      · rw [if_neg r]
        have e1 : w32 (w32 (w32 (B k - 97) + 1) * 2 ^ ((w32 (25 - w32 (5 * x))) % 32 : Int).toNat) = (B k - 96) * 2 ^ (25 - 5 * x).toNat := by
          rw [w32_i (x := 5 * x) (by omega) (by omega), w32_i (x := 25 - 5 * x) (by omega) (by omega), w32_i (x := B k - 97) (by omega) (by omega), w32_i (x := B k - 97 + 1) (by omega) (by omega), show (25 - 5 * x) % 32 = 25 - 5 * x by omega, show B k - 97 + 1 = B k - 96 by omega]
          have hx : x = 0 ∨ x = 1 ∨ x = 2 ∨ x = 3 ∨ x = 4 ∨ x = 5 := by omega
          rcases hx with y | y | y | y | y | y <;> subst y <;> simp only [Int.reduceToNat, Int.reducePow, Int.reduceMul, Int.reduceSub] <;> exact w32_i (by omega) (by omega)
        have bd : v + (B k - 96) * 2 ^ (25 - 5 * x).toNat < 1073741824 ∧ 0 ≤ (B k - 96) * 2 ^ (25 - 5 * x).toNat ∧ (B k - 96) * 2 ^ (25 - 5 * x).toNat < ((2 ^ (30 - 5 * x).toNat : Nat) : Int) ∧ (B k - 96) * 2 ^ (25 - 5 * x).toNat < 2147483648 := by
          have zz := z (by omega)
          unfold pz_ at zz
          have hx : x = 0 ∨ x = 1 ∨ x = 2 ∨ x = 3 ∨ x = 4 ∨ x = 5 := by omega
          rcases hx with y | y | y | y | y | y <;> subst y <;> simp only [Int.reduceToNat, Int.reducePow, Int.reduceMul, Int.reduceSub, Nat.reducePow] at * <;> omega
        have zn : v % ((2 ^ (30 - 5 * x).toNat : Nat) : Int) = 0 := by
          have zz := z (by omega)
          unfold pz_ at zz
          rw [pw_n]
          exact zz
        rw [e1, or_add (30 - 5 * x).toNat v0 (by omega) zn bd.2.1 bd.2.2.1 bd.2.2.2]
        have zs := z (by omega)
        obtain ⟨a1, a2⟩ := ih (k + 1) (x + 1) (v + (B k - 96) * 2 ^ (25 - 5 * x).toNat) (by omega) (fun y => (dg_st (i := 0) v0 x0 (by omega) (by omega) (by omega) (by omega) (by omega) zs).1) (by omega) bd.1
        refine ⟨a1, fun i i0 i1 => ?_⟩
        have ds := (dg_st (i := i) (l := B k - 96) v0 x0 (by omega) i0 i1 (by omega) (by omega) zs).2
        have fv := (fe_v (P := isL B) (n := k + 1 + f) f (k + 1) (by omega)).1
        rw [a2 i i0 i1]
        by_cases y : i < x + 1
        · rw [if_pos y, ds]
          by_cases w : i < x
          · rw [if_pos w, if_pos w]
          · rw [if_neg w, if_neg w, if_pos (by omega), if_pos (by omega), show k + (i - x) = k by omega]
        · rw [if_neg y, if_neg (c := i < x) (by omega)]
          by_cases w : i - (x + 1) < fe_ (isL B) f (k + 1) - (k + 1)
          · rw [if_pos w, if_pos (by omega), show k + 1 + (i - (x + 1)) = k + (i - x) by omega]
          · rw [if_neg w, if_neg (by omega)]
theorem wd_d {n s : Int} (s1 : s ≤ n) : (0 ≤ wd_v B n s ∧ wd_v B n s < 1073741824) ∧ ∀ i, 0 ≤ i → i < 6 → dg_ (wd_v B n s) i = if i < we_ B n s - s then B (s + i) - 96 else 0 := by
  obtain ⟨a, b⟩ := wv_d (B := B) (n - s).toNat s 0 0 (by omega) (fun _ => by unfold pz_; decide) (by omega) (by omega)
  refine ⟨a, fun i i0 i1 => ?_⟩
  have := b i i0 i1
  rw [if_neg (by omega), Int.sub_zero] at this
  exact this
theorem dg_eq {v u : Int} (v0 : 0 ≤ v) (v1 : v < 1073741824) (u0 : 0 ≤ u) (u1 : u < 1073741824) (e : ∀ i, 0 ≤ i → i < 6 → dg_ v i = dg_ u i) : v = u := by
  have e0 := e 0 (by omega) (by omega)
  have e1 := e 1 (by omega) (by omega)
  have e2 := e 2 (by omega) (by omega)
  have e3 := e 3 (by omega) (by omega)
  have e4 := e 4 (by omega) (by omega)
  have e5 := e 5 (by omega) (by omega)
  unfold dg_ at *
  simp only [Int.reduceToNat, Int.reducePow, Int.reduceMul, Int.reduceSub] at *
  omega
end
