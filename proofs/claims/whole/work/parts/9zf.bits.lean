/-! marks of the game as bits -/
def tbi_ (x j : Int) : Int := x / 2 ^ j.toNat % 2
def bw_ (d : Int) : Int := w32 (1 * 2 ^ ((w32 (d - 1)) % 32 : Int).toNat)
def bs2_ (d : Int) : Int := w32 (bw_ d * 2 ^ (5 % 32 : Int).toNat)
def kX1_ : Bool := (List.range 64).all fun i : Nat => (List.range 32).all fun k : Nat => (List.range 10).all fun j : Nat => (decide (an_ (32 * i + k) (2 ^ j) = 0) == decide (tbi_ (32 * i + k) j = 0)) && (decide (tbi_ (32 * i + k) j = 1) || decide (or_ (32 * i + k) (2 ^ j) = 32 * i + k + 2 ^ j))
def kX2_ : Bool := (List.range 64).all fun i : Nat => (List.range 32).all fun k : Nat => (decide (an_ (32 * i + k) 1024 = 0) == decide (i < 32)) && (decide (32 ≤ i) || decide (or_ (32 * i + k) 1024 = 32 * i + k + 1024)) && (decide (i < 32) || decide (an_ (32 * i + k) (-1025) = 32 * i + k - 1024)) && decide (an_ (32 * i + k) 31 = k) && decide (an_ ((32 * i + k) / 2 ^ (5 % 32 : Int).toNat) 31 = i % 32)
def kX3_ : Bool := (List.range 32).all fun x : Nat => (List.range 5).all fun d : Nat => decide (bw_ (d + 1) = 2 ^ d) && decide (bs2_ (d + 1) = 2 ^ (d + 5)) && (decide (an_ x (xo_ (bw_ (d + 1)) (-1)) = 0) == (List.range 5).all fun e : Nat => decide (e = d) || decide (tbi_ x e = 0))
set_option maxRecDepth 100000 in
set_option maxHeartbeats 4000000 in
theorem kX1_t : kX1_ = true := by decide +kernel
set_option maxRecDepth 100000 in
set_option maxHeartbeats 4000000 in
theorem kX2_t : kX2_ = true := by decide +kernel
set_option maxRecDepth 100000 in
set_option maxHeartbeats 4000000 in
theorem kX3_t : kX3_ = true := by decide +kernel
def alw_ (w H : Int) : Int := if w = 0 then an_ (w32 (w32 (1 * 2 ^ (H % 32 : Int).toNat) - 1)) (-2) else w32 (w32 (1 * 2 ^ (H % 32 : Int).toNat) - 1)
def kX4_ (w H : Nat) : Bool := (List.range 5).all fun d : Nat => (decide (an_ (alw_ w H / 2 ^ ((w32 ((d + 1 : Int) - 1)) % 32 : Int).toNat) 1 = 0) == !(decide (2 ≤ d + 1 + w) && decide (d + 1 ≤ H))) && (decide (an_ (alw_ w H) (bw_ (d + 1)) ≠ 0) == (decide (2 ≤ d + 1 + w) && decide (d + 1 ≤ H))) && (!(decide (2 ≤ d + 1 + w) && decide (d + 1 ≤ H)) || (List.range 32).all fun x : Nat => ((List.range 5).any fun e : Nat => decide (tbi_ x e = 1) && !(decide (2 ≤ e + 1 + w) && decide (e + 1 ≤ H))) || (decide (or_ x (bw_ (d + 1)) = alw_ w H) == (List.range 5).all fun e : Nat => decide (e = d) || !(decide (2 ≤ e + 1 + w) && decide (e + 1 ≤ H)) || decide (tbi_ x e = 1)))
def kX5_ : Bool := (List.range 2).all fun w : Nat => (List.range 6).all fun H : Nat => kX4_ w H
set_option maxRecDepth 100000 in
set_option maxHeartbeats 4000000 in
theorem kX5_t : kX5_ = true := by decide +kernel
theorem tb_01 (x j : Int) : tbi_ x j = 0 ∨ tbi_ x j = 1 := by unfold tbi_; omega
theorem pw_n (j : Nat) : ((2 ^ j : Nat) : Int) = 2 ^ j := by rw [Int.natCast_pow]; rfl
theorem x1_ {x j : Int} (x0 : 0 ≤ x) (x1 : x < 2048) (j0 : 0 ≤ j) (j1 : j < 10) : (an_ x (2 ^ j.toNat) = 0 ↔ tbi_ x j = 0) ∧ (tbi_ x j = 0 → or_ x (2 ^ j.toNat) = x + 2 ^ j.toNat) := by
  have e := kX1_t
  unfold kX1_ at e
  simp only [Bool.and_eq_true, Bool.or_eq_true, decide_eq_true_eq, List.all_eq_true, List.mem_range, beq_iff_eq, decide_eq_decide] at e
  have k := e (x / 32).toNat (by omega) (x % 32).toNat (by omega) j.toNat (by omega)
  rw [show 32 * (((x / 32).toNat : Nat) : Int) + (((x % 32).toNat : Nat) : Int) = x by omega, show ((j.toNat : Nat) : Int) = j by omega] at k
  refine ⟨k.1, fun z => ?_⟩
  rcases k.2 with q | q
  · rw [z] at q; omega
  · exact q
theorem x2_ {x : Int} (x0 : 0 ≤ x) (x1 : x < 2048) : (an_ x 1024 = 0 ↔ x < 1024) ∧ (x < 1024 → or_ x 1024 = x + 1024) ∧ (1024 ≤ x → an_ x (-1025) = x - 1024) ∧ an_ x 31 = x % 32 ∧ an_ (x / 2 ^ (5 % 32 : Int).toNat) 31 = x / 32 % 32 := by
  have e := kX2_t
  unfold kX2_ at e
  simp only [Bool.and_eq_true, Bool.or_eq_true, decide_eq_true_eq, List.all_eq_true, List.mem_range, beq_iff_eq, decide_eq_decide] at e
  obtain ⟨⟨⟨⟨a, b⟩, c⟩, d⟩, f⟩ := e (x / 32).toNat (by omega) (x % 32).toNat (by omega)
  rw [show 32 * (((x / 32).toNat : Nat) : Int) + (((x % 32).toNat : Nat) : Int) = x by omega] at a b c d f
  refine ⟨by rw [a]; omega, fun q => ?_, fun q => ?_, by rw [d]; omega, by rw [f]; omega⟩
  · rcases b with z | z
    · omega
    · exact z
  · rcases c with z | z
    · omega
    · exact z
theorem x3_ {d : Int} (d0 : 1 ≤ d) (d1 : d ≤ 5) : bw_ d = 2 ^ (d - 1).toNat ∧ bs2_ d = 2 ^ (d + 4).toNat ∧ ∀ x, 0 ≤ x → x < 32 → (an_ x (xo_ (bw_ d) (-1)) = 0 ↔ ∀ e, 1 ≤ e → e ≤ 5 → e ≠ d → tbi_ x (e - 1) = 0) := by
  have e := kX3_t
  unfold kX3_ at e
  rw [List.all_eq_true] at e
  have k : ∀ x : Int, 0 ≤ x → x < 32 → _ := fun x x0 x1 => (List.all_eq_true.mp (e x.toNat (List.mem_range.mpr (by omega)))) (d - 1).toNat (List.mem_range.mpr (by omega))
  have ed : (((d - 1).toNat : Nat) : Int) + 1 = d := by omega
  have k0 := k 0 (by omega) (by omega)
  simp only [Bool.and_eq_true, decide_eq_true_eq, ed] at k0
  refine ⟨k0.1.1, by rw [k0.1.2, show (d - 1).toNat + 5 = (d + 4).toNat by omega], fun x x0 x1 => ?_⟩
  have kx := k x x0 x1
  simp only [Bool.and_eq_true, decide_eq_true_eq, beq_iff_eq, ed] at kx
  have k2 := kx.2
  rw [show ((x.toNat : Nat) : Int) = x by omega] at k2
  have : (an_ x (xo_ (bw_ d) (-1)) = 0) ↔ ((List.range 5).all fun e : Nat => decide (e = (d - 1).toNat) || decide (tbi_ x e = 0)) = true := by rw [← k2, decide_eq_true_eq]
  rw [this, List.all_eq_true]
  constructor
  · intro z e' a b c
    have := z (e' - 1).toNat (List.mem_range.mpr (by omega))
    simp only [Bool.or_eq_true, decide_eq_true_eq] at this
    rcases this with q | q
    · omega
    · rw [show (((e' - 1).toNat : Nat) : Int) = e' - 1 by omega] at q
      exact q
  · intro z e' he
    have he' := List.mem_range.mp he
    simp only [Bool.or_eq_true, decide_eq_true_eq]
    by_cases q : e' = (d - 1).toNat
    · exact Or.inl q
    · have := z (e' + 1) (by omega) (by omega) (by omega)
      rw [show (e' : Int) + 1 - 1 = e' by omega] at this
      exact Or.inr this
theorem x4_ {w H d : Int} (h0 : 0 ≤ H) (h5 : H ≤ 5) (w0 : w = 0 ∨ w = 1) (d0 : 1 ≤ d) (d1 : d ≤ 5) : (an_ (alw_ w H / 2 ^ ((w32 (d - 1)) % 32 : Int).toNat) 1 = 0 ↔ ¬ (2 - w ≤ d ∧ d ≤ H)) ∧ (an_ (alw_ w H) (bw_ d) ≠ 0 ↔ (2 - w ≤ d ∧ d ≤ H)) ∧ ((2 - w ≤ d ∧ d ≤ H) → ∀ x, 0 ≤ x → x < 32 → (∀ e, 1 ≤ e → e ≤ 5 → tbi_ x (e - 1) = 1 → 2 - w ≤ e ∧ e ≤ H) → (or_ x (bw_ d) = alw_ w H ↔ ∀ e, 2 - w ≤ e → e ≤ H → e ≠ d → tbi_ x (e - 1) = 1)) := by
  have e := kX5_t
  unfold kX5_ at e
  simp only [List.all_eq_true, List.mem_range] at e
  have k := e w.toNat (by omega) H.toNat (by omega)
  unfold kX4_ at k
  rw [List.all_eq_true] at k
  have kd := k (d - 1).toNat (List.mem_range.mpr (by omega))
  have ed : (((d - 1).toNat : Nat) : Int) + 1 = d := by omega
  have ew : ((w.toNat : Nat) : Int) = w := by omega
  have eH : ((H.toNat : Nat) : Int) = H := by omega
  rw [ed, ew, eH] at kd
  simp only [Bool.and_eq_true, beq_iff_eq] at kd
  obtain ⟨⟨a, b⟩, c⟩ := kd
  refine ⟨?_, ?_, ?_⟩
  · by_cases q : 2 - w ≤ d ∧ d ≤ H
    · have z : (!(decide (2 ≤ (d - 1).toNat + 1 + w.toNat) && decide ((d - 1).toNat + 1 ≤ H.toNat))) = false := by
        simp only [Bool.not_eq_false', Bool.and_eq_true, decide_eq_true_eq]
        omega
      rw [z] at a
      have a' := of_decide_eq_false a
      exact ⟨fun y => absurd y a', fun y => absurd q y⟩
    · have z : (!(decide (2 ≤ (d - 1).toNat + 1 + w.toNat) && decide ((d - 1).toNat + 1 ≤ H.toNat))) = true := by
        simp only [Bool.not_eq_true', Bool.and_eq_false_iff, decide_eq_false_iff_not]
        omega
      rw [z] at a
      have a' := of_decide_eq_true a
      exact ⟨fun _ => q, fun _ => a'⟩
  · by_cases q : 2 - w ≤ d ∧ d ≤ H
    · have z : (decide (2 ≤ (d - 1).toNat + 1 + w.toNat) && decide ((d - 1).toNat + 1 ≤ H.toNat)) = true := by
        simp only [Bool.and_eq_true, decide_eq_true_eq]
        omega
      rw [z] at b
      have b' := of_decide_eq_true b
      exact ⟨fun _ => q, fun _ => b'⟩
    · have z : (decide (2 ≤ (d - 1).toNat + 1 + w.toNat) && decide ((d - 1).toNat + 1 ≤ H.toNat)) = false := by
        simp only [Bool.and_eq_false_iff, decide_eq_false_iff_not]
        omega
      rw [z] at b
      have b' := of_decide_eq_false b
      exact ⟨fun y => absurd y b', fun y => absurd y q⟩
  · intro q x x0 x1 sub
    simp only [Bool.or_eq_true, Bool.not_eq_true', Bool.and_eq_false_iff, decide_eq_false_iff_not] at c
    rcases c with c | c
    · omega
    · rw [List.all_eq_true] at c
      have cx := c x.toNat (List.mem_range.mpr (by omega))
      rw [show ((x.toNat : Nat) : Int) = x by omega] at cx
      simp only [Bool.or_eq_true, List.any_eq_true, List.mem_range, Bool.and_eq_true, decide_eq_true_eq, Bool.not_eq_true', Bool.and_eq_false_iff, decide_eq_false_iff_not, beq_iff_eq] at cx
      rcases cx with ⟨e', he, t1, t2⟩ | cx
      · have := sub (e' + 1) (by omega) (by omega) (by rw [show (e' : Int) + 1 - 1 = e' by omega]; exact t1)
        omega
      · have : (or_ x (bw_ d) = alw_ w H) ↔ ((List.range 5).all fun e : Nat => decide (e = (d - 1).toNat) || !(decide (2 ≤ e + 1 + w.toNat) && decide (e + 1 ≤ H.toNat)) || decide (tbi_ x e = 1)) = true := by rw [← cx, decide_eq_true_eq]
        rw [this, List.all_eq_true]
        constructor
        · intro z e' a1 a2 a3
          have := z (e' - 1).toNat (List.mem_range.mpr (by omega))
          simp only [Bool.or_eq_true, decide_eq_true_eq, Bool.not_eq_true', Bool.and_eq_false_iff, decide_eq_false_iff_not] at this
          rcases this with (y | y) | y
          · omega
          · omega
          · rw [show (((e' - 1).toNat : Nat) : Int) = e' - 1 by omega] at y
            exact y
        · intro z e' he
          have he' := List.mem_range.mp he
          simp only [Bool.or_eq_true, decide_eq_true_eq, Bool.not_eq_true', Bool.and_eq_false_iff, decide_eq_false_iff_not]
          by_cases y : e' = (d - 1).toNat
          · exact Or.inl (Or.inl y)
          · by_cases y2 : 2 ≤ e' + 1 + w.toNat ∧ e' + 1 ≤ H.toNat
            · have := z (e' + 1) (by omega) (by omega) (by omega)
              rw [show (e' : Int) + 1 - 1 = e' by omega] at this
              exact Or.inr this
            · exact Or.inl (Or.inr (by omega))
/-- a bit more; bits as they were -/
theorem tb_ad {x j i : Int} (x0 : 0 ≤ x) (j0 : 0 ≤ j) (j1 : j < 11) (i0 : 0 ≤ i) (i1 : i < 10) (z : tbi_ x j = 0) : tbi_ (x + 2 ^ j.toNat) i = if i = j then 1 else tbi_ x i := by
  have hj : j = 0 ∨ j = 1 ∨ j = 2 ∨ j = 3 ∨ j = 4 ∨ j = 5 ∨ j = 6 ∨ j = 7 ∨ j = 8 ∨ j = 9 ∨ j = 10 := by omega
  have hi : i = 0 ∨ i = 1 ∨ i = 2 ∨ i = 3 ∨ i = 4 ∨ i = 5 ∨ i = 6 ∨ i = 7 ∨ i = 8 ∨ i = 9 := by omega
  unfold tbi_ at *
  rcases hj with q | q | q | q | q | q | q | q | q | q | q <;> subst q <;> rcases hi with r | r | r | r | r | r | r | r | r | r <;> subst r <;> simp only [Int.reduceToNat, Int.reducePow] at * <;> first | (rw [if_pos trivial]; omega) | (rw [if_neg (by omega)]; omega)
theorem tb_eq {x y : Int} (x0 : 0 ≤ x) (x1 : x < 1024) (y0 : 0 ≤ y) (y1 : y < 1024) (e : ∀ j, 0 ≤ j → j < 10 → tbi_ x j = tbi_ y j) : x = y := by
  have e0 := e 0 (by omega) (by omega)
  have e1 := e 1 (by omega) (by omega)
  have e2 := e 2 (by omega) (by omega)
  have e3 := e 3 (by omega) (by omega)
  have e4 := e 4 (by omega) (by omega)
  have e5 := e 5 (by omega) (by omega)
  have e6 := e 6 (by omega) (by omega)
  have e7 := e 7 (by omega) (by omega)
  have e8 := e 8 (by omega) (by omega)
  have e9 := e 9 (by omega) (by omega)
  unfold tbi_ at *
  simp only [Int.reduceToNat, Int.reducePow] at *
  omega
/-- marks and what is so -/
theorem Um_b {w H s d : Int} (g : GF w H) (s0 : 0 ≤ s) (s1 : s < nN_ w H) (d0 : 1 ≤ d) (d1 : d ≤ 5) : (Um w H s d = 1 ↔ tbi_ (gm_ w H s) (d - 1) = 1) ∧ (Um w H s d = 2 ↔ tbi_ (gm_ w H s) (d + 4) = 1) := by
  have ex := (g.2.2.1 s d s0 s1 d0 d1).1
  have sh : ∀ k : Int, 0 ≤ k → (((te8 (GM_ w H) 10 s.toNat) >>> k.toNat) % 2 = 1 ↔ tbi_ (gm_ w H s) k = 1) := by
    intro k k0
    unfold tbi_ gm_
    rw [Nat.shiftRight_eq_div_pow, ← pw_n]
    generalize te8 (GM_ w H) 10 s.toNat = a
    generalize 2 ^ k.toNat = b
    have : ((a / b % 2 : Nat) : Int) = (a : Int) / (b : Int) % 2 := by rw [Int.natCast_emod, Int.natCast_ediv]; rfl
    omega
  have sa := sh (d - 1) (by omega)
  have sb := sh (d + 4) (by omega)
  have ed : d.toNat - 1 = (d - 1).toNat := by omega
  have ed4 : d.toNat + 4 = (d + 4).toNat := by omega
  unfold Um uN_
  rw [ed, ed4, ← sa, ← sb]
  by_cases q : (te8 (GM_ w H) 10 s.toNat) >>> (d - 1).toNat % 2 = 1
  · rw [if_pos q]
    exact ⟨⟨fun _ => q, fun _ => rfl⟩, ⟨fun z => by omega, fun z => absurd ⟨q, z⟩ ex⟩⟩
  · rw [if_neg q]
    by_cases r : (te8 (GM_ w H) 10 s.toNat) >>> (d + 4).toNat % 2 = 1
    · rw [if_pos r]
      exact ⟨⟨fun z => by omega, fun z => absurd z q⟩, ⟨fun _ => r, fun _ => rfl⟩⟩
    · rw [if_neg r]
      exact ⟨⟨fun z => by omega, fun z => absurd z q⟩, ⟨fun z => by omega, fun z => absurd z r⟩⟩
