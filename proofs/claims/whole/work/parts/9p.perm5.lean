/-! orders of five; faces; numbers of both -/
set_option maxRecDepth 100000 in
set_option maxHeartbeats 4000000 in
theorem kO_5 : pe_ true (nL_ 5) (kO_ 5) 5 [] = true := by decide +kernel
def bN_ (F : Int → Int) : Nat → Int
  | 0 => 0
  | n + 1 => bN_ F n + F (n : Int) * 2 ^ n
def rF_ (d : Int) (F : Int → Int) : Int → Int := fun k => if k < d then 1 - F (d - 1 - k) else F k
def ff_ (F : Int → Int) : Nat → Int → Int → Int
  | 0, _, f => f
  | n + 1, k, f => ff_ F n (k + 1) (or_ f (w32 (F k * 2 ^ (k % 32 : Int).toNat)))
def kF_ (H : Nat) (L : List Int) : Bool :=
  let f := bN_ (Rl L) H
  decide (0 ≤ f) && decide (f < 2 ^ H) && (List.range H).all (fun k : Nat => decide (f / 2 ^ k % 2 = Rl L k)) && (List.range (H + 1)).all (fun d : Nat => decide (fC_ f d = bN_ (rF_ d (Rl L)) H) && decide (tf_ f d d 0 f = bN_ (rF_ d (Rl L)) H)) && decide (ff_ (Rl L) H 0 0 = f)
def kN_ (H : Nat) : Bool := (List.range (fc_ H).toNat).all fun o : Nat => (List.range (2 ^ H)).all fun f : Nat => decide (or_ (w32 (o * 2 ^ ((H : Int) % 32).toNat)) f = o * 2 ^ H + f) && decide (an_ (o * 2 ^ H + f) (w32 ((w32 (1 * 2 ^ ((H : Int) % 32).toNat)) - 1)) = f)
set_option maxRecDepth 100000 in
set_option maxHeartbeats 4000000 in
theorem kF_0 : pe_ false [0, 1] (kF_ 0) 0 [] = true := by decide +kernel
set_option maxRecDepth 100000 in
set_option maxHeartbeats 4000000 in
theorem kN_0 : kN_ 0 = true := by decide +kernel
set_option maxRecDepth 100000 in
set_option maxHeartbeats 4000000 in
theorem kF_1 : pe_ false [0, 1] (kF_ 1) 1 [] = true := by decide +kernel
set_option maxRecDepth 100000 in
set_option maxHeartbeats 4000000 in
theorem kN_1 : kN_ 1 = true := by decide +kernel
set_option maxRecDepth 100000 in
set_option maxHeartbeats 4000000 in
theorem kF_2 : pe_ false [0, 1] (kF_ 2) 2 [] = true := by decide +kernel
set_option maxRecDepth 100000 in
set_option maxHeartbeats 4000000 in
theorem kN_2 : kN_ 2 = true := by decide +kernel
set_option maxRecDepth 100000 in
set_option maxHeartbeats 4000000 in
theorem kF_3 : pe_ false [0, 1] (kF_ 3) 3 [] = true := by decide +kernel
set_option maxRecDepth 100000 in
set_option maxHeartbeats 4000000 in
theorem kN_3 : kN_ 3 = true := by decide +kernel
set_option maxRecDepth 100000 in
set_option maxHeartbeats 4000000 in
theorem kF_4 : pe_ false [0, 1] (kF_ 4) 4 [] = true := by decide +kernel
set_option maxRecDepth 100000 in
set_option maxHeartbeats 4000000 in
theorem kN_4 : kN_ 4 = true := by decide +kernel
set_option maxRecDepth 100000 in
set_option maxHeartbeats 4000000 in
theorem kF_5 : pe_ false [0, 1] (kF_ 5) 5 [] = true := by decide +kernel
set_option maxRecDepth 100000 in
set_option maxHeartbeats 4000000 in
theorem kN_5 : kN_ 5 = true := by decide +kernel
theorem h5_ {H : Int} (h0 : 0 ≤ H) (h5 : H ≤ 5) : ∃ n : Nat, H = n ∧ (n = 0 ∨ n = 1 ∨ n = 2 ∨ n = 3 ∨ n = 4 ∨ n = 5) := ⟨H.toNat, by omega, by omega⟩
theorem kO_s {n : Nat} {V : Int → Int} (hn : n = 0 ∨ n = 1 ∨ n = 2 ∨ n = 3 ∨ n = 4 ∨ n = 5) (v : VP n V) : kO_ n (lo_ V n) = true := by
  have z : pe_ true (nL_ n) (kO_ n) n [] = true := by
    rcases hn with e | e | e | e | e | e <;> subst e
    · exact kO_0
    · exact kO_1
    · exact kO_2
    · exact kO_3
    · exact kO_4
    · exact kO_5
  have := pe_s (V := V) n 0 z (fun k hk => by
    have x := v.1 k (by omega) (by omega)
    unfold nL_
    exact List.mem_map.mpr ⟨(V k).toNat, List.mem_range.mpr (by omega), by omega⟩) (fun _ i j a b e => by
    have := v.2 i j (by omega) (by omega) (by omega) (by omega) e
    omega)
  rw [Nat.zero_add] at this
  exact this
theorem kF_s {n : Nat} {F : Int → Int} (hn : n = 0 ∨ n = 1 ∨ n = 2 ∨ n = 3 ∨ n = 4 ∨ n = 5) (v : VB n F) : kF_ n (lo_ F n) = true := by
  have z : pe_ false [0, 1] (kF_ n) n [] = true := by
    rcases hn with e | e | e | e | e | e <;> subst e
    · exact kF_0
    · exact kF_1
    · exact kF_2
    · exact kF_3
    · exact kF_4
    · exact kF_5
  have := pe_s (V := F) n 0 z (fun k hk => by
    have x := v k (by omega) (by omega)
    rcases x with x | x <;> rw [x] <;> decide) (fun q => by cases q)
  rw [Nat.zero_add] at this
  exact this
theorem kN_s {n : Nat} (hn : n = 0 ∨ n = 1 ∨ n = 2 ∨ n = 3 ∨ n = 4 ∨ n = 5) : kN_ n = true := by
  rcases hn with e | e | e | e | e | e <;> subst e
  · exact kN_0
  · exact kN_1
  · exact kN_2
  · exact kN_3
  · exact kN_4
  · exact kN_5
/-- what holds of an order -/
theorem oV_ {H : Int} {V : Int → Int} (h0 : 0 ≤ H) (h5 : H ≤ 5) (v : VP H V) : (0 ≤ oC_ H V ∧ oC_ H V < fc_ H) ∧ (0 ≤ oM_ H V ∧ oM_ H V < fc_ H) ∧ eR H (ly_ (oC_ H V)) V ∧ eR H (lM_ H (oM_ H V)) V ∧ ∀ d, 0 ≤ d → d ≤ H → tO_ (oC_ H V) d = oC_ H (rR_ d V) := by
  obtain ⟨n, e, hn⟩ := h5_ h0 h5
  subst e
  have k := kO_s hn v
  have q := lo_Rl V n
  unfold kO_ at k
  simp only [Bool.and_eq_true, decide_eq_true_eq, List.all_eq_true, List.mem_range] at k
  obtain ⟨⟨⟨⟨⟨⟨k1, k2⟩, k3⟩, k4⟩, k5⟩, k6⟩, k7⟩ := k
  rw [oC_e h0 q] at k1 k2 k5 k7
  rw [oM_e h0 q] at k3 k4 k6
  refine ⟨⟨k1, k2⟩, ⟨k3, k4⟩, fun j j0 j1 => ?_, fun j j0 j1 => ?_, fun d d0 d1 => ?_⟩
  · have := k5 j.toNat (by omega)
    rw [show ((j.toNat : Nat) : Int) = j by omega, q j j0 j1] at this
    exact this
  · have := k6 j.toNat (by omega)
    rw [show ((j.toNat : Nat) : Int) = j by omega, q j j0 j1] at this
    exact this
  · have := k7 d.toNat (by omega)
    rw [show ((d.toNat : Nat) : Int) = d by omega, oC_e h0 (rR_e d1 q)] at this
    exact this
theorem bN_e {F G : Int → Int} : ∀ n : Nat, eR n F G → bN_ F n = bN_ G n := by
  intro n
  induction n with
  | zero => intro _; rfl
  | succ n ih =>
    intro e
    unfold bN_
    rw [ih (fun k a b => e k a (by omega)), e n (by omega) (by omega)]
theorem ff_e {F G : Int → Int} {N : Int} (e : eR N F G) : ∀ (n : Nat) (k f : Int), 0 ≤ k → k + n ≤ N → ff_ F n k f = ff_ G n k f := by
  intro n
  induction n with
  | zero => intro k f _ _; rfl
  | succ n ih =>
    intro k f k0 hk
    unfold ff_
    rw [ih (k + 1) _ (by omega) (by omega), e k k0 (by omega)]
theorem rF_e {H d : Int} {R S : Int → Int} (hd : d ≤ H) (e : eR H R S) : eR H (rF_ d R) (rF_ d S) := by
  intro k k0 k1
  unfold rF_
  split
  · rw [e _ (by omega) (by omega)]
  · exact e k k0 k1
/-- what holds of faces -/
def bF_ (F : Int → Int) (H : Int) : Int := bN_ F H.toNat
theorem oF_ {H : Int} {F : Int → Int} (h0 : 0 ≤ H) (h5 : H ≤ 5) (v : VB H F) : (0 ≤ bF_ F H ∧ bF_ F H < 2 ^ H.toNat) ∧ (∀ k, 0 ≤ k → k < H → bF_ F H / 2 ^ k.toNat % 2 = F k) ∧ (∀ d, 0 ≤ d → d ≤ H → fC_ (bF_ F H) d = bF_ (rF_ d F) H ∧ tf_ (bF_ F H) d d.toNat 0 (bF_ F H) = bF_ (rF_ d F) H) ∧ ff_ F H.toNat 0 0 = bF_ F H := by
  obtain ⟨n, e, hn⟩ := h5_ h0 h5
  subst e
  have k := kF_s hn v
  have q := lo_Rl F n
  unfold kF_ at k
  simp only [Bool.and_eq_true, decide_eq_true_eq, List.all_eq_true, List.mem_range] at k
  obtain ⟨⟨⟨⟨k1, k2⟩, k3⟩, k4⟩, k5⟩ := k
  rw [bN_e n q] at k1 k2 k3 k4 k5
  unfold bF_
  rw [show ((n : Int)).toNat = n by omega]
  refine ⟨⟨k1, k2⟩, fun j j0 j1 => ?_, fun d d0 d1 => ?_, ?_⟩
  · have := k3 j.toNat (by omega)
    rw [show ((j.toNat : Nat) : Int) = j by omega, q j j0 j1] at this
    exact this
  · have := k4 d.toNat (by omega)
    rw [show ((d.toNat : Nat) : Int) = d by omega, bN_e n (rF_e d1 q)] at this
    exact this
  · rw [ff_e q n 0 0 (by omega) (by omega)] at k5
    exact k5
theorem oN_ {H o f : Int} (h0 : 0 ≤ H) (h5 : H ≤ 5) (o0 : 0 ≤ o) (o1 : o < fc_ H) (f0 : 0 ≤ f) (f1 : f < 2 ^ H.toNat) : or_ (w32 (o * 2 ^ (H % 32).toNat)) f = o * 2 ^ H.toNat + f ∧ an_ (o * 2 ^ H.toNat + f) (w32 ((w32 (1 * 2 ^ (H % 32).toNat)) - 1)) = f := by
  obtain ⟨n, e, hn⟩ := h5_ h0 h5
  subst e
  have k := kN_s hn
  unfold kN_ at k
  simp only [Bool.and_eq_true, decide_eq_true_eq, List.all_eq_true, List.mem_range] at k
  rw [show ((n : Int)).toNat = n by omega] at *
  have := k o.toNat (by omega) f.toNat (by have : ((2 ^ n : Nat) : Int) = 2 ^ n := by simp
                                           omega)
  rw [show ((o.toNat : Nat) : Int) = o by omega, show ((f.toNat : Nat) : Int) = f by omega] at this
  exact this
