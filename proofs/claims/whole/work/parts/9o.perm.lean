/-! orders of at most five and their numbers on both sides, by looking at all -/
def Rl (L : List Int) : Int → Int := fun k => L.getD k.toNat 0
def lo_ (V : Int → Int) (n : Nat) : List Int := (List.range n).map fun k : Nat => V (k : Int)
def pe_ (b : Bool) (C : List Int) (P : List Int → Bool) : Nat → List Int → Bool
  | 0, acc => P acc
  | n + 1, acc => C.all fun x => (b && acc.contains x) || pe_ b C P n (acc ++ [x])
theorem lo_s (V : Int → Int) (n : Nat) : lo_ V (n + 1) = lo_ V n ++ [V (n : Int)] := by
  unfold lo_
  rw [List.range_succ, List.map_append]
  rfl
theorem lo_Rl (V : Int → Int) (n : Nat) : eR (n : Int) (Rl (lo_ V n)) V := by
  intro k k0 k1
  unfold Rl lo_
  rw [List.getD_eq_getElem?_getD, List.getElem?_map, List.getElem?_range (by omega)]
  show V ((k.toNat : Nat) : Int) = V k
  rw [show ((k.toNat : Nat) : Int) = k by omega]
theorem pe_s {b : Bool} {C : List Int} {P : List Int → Bool} {V : Int → Int} : ∀ (n m : Nat), pe_ b C P n (lo_ V m) = true → (∀ k : Nat, k < m + n → V (k : Int) ∈ C) → (b = true → ∀ i j : Nat, i < j → j < m + n → V (i : Int) ≠ V (j : Int)) → P (lo_ V (m + n)) = true := by
  intro n
  induction n with
  | zero => intro m h _ _; exact h
  | succ n ih =>
    intro m h hc hd
    unfold pe_ at h
    have x := List.all_eq_true.mp h (V (m : Int)) (hc m (by omega))
    have y : (b && (lo_ V m).contains (V (m : Int))) = false := by
      cases hb : b with
      | false => rfl
      | true =>
        rw [Bool.true_and]
        apply Bool.eq_false_iff.mpr
        intro z
        rw [List.contains_iff_mem] at z
        unfold lo_ at z
        obtain ⟨i, i1, i2⟩ := List.mem_map.mp z
        exact hd hb i m (List.mem_range.mp i1) (by omega) i2
    rw [y, Bool.false_or, ← lo_s] at x
    have := ih (m + 1) x (fun k hk => hc k (by omega)) (fun q i j a b => hd q i j a (by omega))
    rw [show m + (n + 1) = m + 1 + n by omega]
    exact this
/-- an order of H -/
def VP (H : Int) (V : Int → Int) : Prop := (∀ k, 0 ≤ k → k < H → 0 ≤ V k ∧ V k < H) ∧ ∀ i j, 0 ≤ i → i < H → 0 ≤ j → j < H → V i = V j → i = j
def VB (H : Int) (F : Int → Int) : Prop := ∀ k, 0 ≤ k → k < H → F k = 0 ∨ F k = 1
def oC_ (H : Int) (V : Int → Int) : Int := oo_ V (H - 1).toNat 1 0
def oM_ (H : Int) (V : Int → Int) : Int := cm_ V H H.toNat 0 0
def ly_ (o : Int) : Int → Int := ly1_ o 5 0 (fun _ => 0)
def lM_ (H n : Int) : Int → Int := lc4_ H H.toNat (lc1_ H H.toNat n (fun _ => 0))
def tO_ (o d : Int) : Int := oo_ (rR_ d (ly_ o)) 4 1 0
def fc_ (H : Int) : Int := fa_.getD H.toNat 0
theorem oC_e {H : Int} {R S : Int → Int} (h0 : 0 ≤ H) (e : eR H R S) : oC_ H R = oC_ H S := by
  unfold oC_
  by_cases q : H = 0
  · rw [q]; rfl
  · exact oo_c (N := H) (fun i j a b c d => by rw [e i a b, e j c d]) _ _ _ (by omega) (by omega)
theorem oM_e {H : Int} {R S : Int → Int} (h0 : 0 ≤ H) (e : eR H R S) : oM_ H R = oM_ H S := cm_c (N := H) (fun i j a b c d => by rw [e i a b, e j c d]) _ _ _ (by omega) (by omega)
theorem rR_e {H d : Int} {R S : Int → Int} (hd : d ≤ H) (e : eR H R S) : eR H (rR_ d R) (rR_ d S) := by
  intro k k0 k1
  unfold rR_
  split
  · exact e _ (by omega) (by omega)
  · exact e k k0 k1
theorem VP_r {H d : Int} {V : Int → Int} (hd : d ≤ H) (v : VP H V) : VP H (rR_ d V) := by
  obtain ⟨v1, v2⟩ := v
  refine ⟨fun k k0 k1 => ?_, fun i j i0 i1 j0 j1 e => ?_⟩
  · unfold rR_
    split
    · exact v1 _ (by omega) (by omega)
    · exact v1 k k0 k1
  · unfold rR_ at e
    by_cases a : i < d
    · rw [if_pos a] at e
      by_cases b : j < d
      · rw [if_pos b] at e
        have := v2 _ _ (by omega) (by omega) (by omega) (by omega) e
        omega
      · rw [if_neg b] at e
        have := v2 _ _ (by omega) (by omega) (by omega) (by omega) e
        omega
    · rw [if_neg a] at e
      by_cases b : j < d
      · rw [if_pos b] at e
        have := v2 _ _ (by omega) (by omega) (by omega) (by omega) e
        omega
      · rw [if_neg b] at e
        exact v2 _ _ i0 i1 j0 j1 e
def kO_ (H : Nat) (L : List Int) : Bool :=
  let o := oC_ H (Rl L)
  let c := oM_ H (Rl L)
  decide (0 ≤ o) && decide (o < fc_ H) && decide (0 ≤ c) && decide (c < fc_ H) && (List.range H).all (fun k : Nat => decide (ly_ o k = Rl L k)) && (List.range H).all (fun k : Nat => decide (lM_ H c k = Rl L k)) && (List.range (H + 1)).all (fun d : Nat => decide (tO_ o d = oC_ H (rR_ d (Rl L))))
def nL_ (H : Nat) : List Int := (List.range H).map fun k : Nat => (k : Int)
set_option maxRecDepth 100000 in
set_option maxHeartbeats 4000000 in
theorem kO_0 : pe_ true (nL_ 0) (kO_ 0) 0 [] = true := by decide +kernel
set_option maxRecDepth 100000 in
set_option maxHeartbeats 4000000 in
theorem kO_1 : pe_ true (nL_ 1) (kO_ 1) 1 [] = true := by decide +kernel
set_option maxRecDepth 100000 in
set_option maxHeartbeats 4000000 in
theorem kO_2 : pe_ true (nL_ 2) (kO_ 2) 2 [] = true := by decide +kernel
set_option maxRecDepth 100000 in
set_option maxHeartbeats 4000000 in
theorem kO_3 : pe_ true (nL_ 3) (kO_ 3) 3 [] = true := by decide +kernel
set_option maxRecDepth 100000 in
set_option maxHeartbeats 4000000 in
theorem kO_4 : pe_ true (nL_ 4) (kO_ 4) 4 [] = true := by decide +kernel
