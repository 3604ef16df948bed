/-! laws: knots one behind another, worked out on a row of values -/
theorem lc_e (a b : Int) : (lcm_ a b = 0) = (a = b) := by
  unfold lcm_
  apply propext
  split
  · omega
  · split <;> omega
theorem lc_n (a b : Int) : (lcm_ a b ≠ 0) = (a ≠ b) := by
  unfold lcm_
  apply propext
  split
  · omega
  · split <;> omega
theorem lc_ge (a b : Int) : (0 ≤ lcm_ a b) = (b ≤ a) := by
  unfold lcm_
  apply propext
  split
  · omega
  · split <;> omega
theorem lc_gt (a b : Int) : (0 < lcm_ a b) = (b < a) := by
  unfold lcm_
  apply propext
  split
  · omega
  · split <;> omega
theorem lc_lt (a b : Int) : (lcm_ a b < 0) = (a < b) := by
  unfold lcm_
  apply propext
  split
  · omega
  · split <;> omega
theorem lc_le (a b : Int) : (lcm_ a b ≤ 0) = (a ≤ b) := by
  unfold lcm_
  apply propext
  split
  · omega
  · split <;> omega
def bo_ (x : Int) : Option Int := if -1000000000000 ≤ x ∧ x ≤ 1000000000000 then some x else none
def jo_ (k a b : Int) : Option Int :=
  if k = 20 then some (if a ≠ 0 ∨ b ≠ 0 then 1 else 0) else if k = 21 then some (if a ≠ 0 ∧ b ≠ 0 then 1 else 0)
  else if k = 30 then some (if a < b then 1 else 0) else if k = 31 then some (if a ≤ b then 1 else 0) else if k = 32 then some (if a = b then 1 else 0)
  else if k = 33 then some (if a ≠ b then 1 else 0) else if k = 34 then some (if b ≤ a then 1 else 0) else if k = 35 then some (if b < a then 1 else 0)
  else if k = 36 then bo_ (a + b) else if k = 37 then bo_ (a - b) else if k = 38 then bo_ (a * b) else if b = 0 then none else some (Int.tdiv a b)
/-- one knot -/
def rp_ (E : Int → Int) (k : Int) (s : List Int) : Option (List Int) :=
  if k < 0 then some ((-1 - k) :: s) else if k = 22 then some ((if s.headD 0 = 0 then 1 else 0) :: s.tail) else if 23 ≤ k ∧ k ≤ 29 then some (E (k - 23) :: s)
  else match jo_ k (s.tail.headD 0) (s.headD 0) with
    | some v => some (v :: s.tail.tail)
    | none => none
def rn_ (E K : Int → Int) : Nat → Int → List Int → Option (List Int)
  | 0, _, s => some s
  | n + 1, i, s => match rp_ E (K i) s with
    | some s' => rn_ E K n (i + 1) s'
    | none => none
/-- the places of the values -/
def hp1 (k i : Int) (s : List Int) : List Int := if k < 0 then i :: s else if k = 22 then i :: s.tail else if 23 ≤ k ∧ k ≤ 29 then i :: s else i :: s.tail.tail
def hpn (K : Int → Int) : Nat → Int → List Int → List Int
  | 0, _, s => s
  | n + 1, i, s => hpn K n (i + 1) (hp1 (K i) i s)
/-- a law that can be worked out: its knots from i on, n of them, over d values -/
def lok (K : Int → Int) : Nat → Int → Nat → Prop
  | 0, _, d => d = 1
  | n + 1, i, d => if K i < 0 then -10000 ≤ K i ∧ lok K n (i + 1) (d + 1) else if K i = 22 then 1 ≤ d ∧ lok K n (i + 1) d else if 23 ≤ K i ∧ K i ≤ 29 then lok K n (i + 1) (d + 1)
    else (20 ≤ K i ∧ K i ≤ 39) ∧ 2 ≤ d ∧ lok K n (i + 1) (d - 1)
def bnd (x : Int) : Prop := -1000000000000 ≤ x ∧ x ≤ 1000000000000
def LV (T : Tx) : Prop := ∀ k, 0 ≤ k → k < 3 → 0 ≤ T 13 k ∧ T 13 k ≤ T 14 k ∧ T 14 k ≤ T 0 4 ∧ (T 13 k < T 14 k → lok (T 12) (T 14 k - T 13 k).toNat (T 13 k) 0)
/-- a law's value; none with an error -/
def lv_ (T : Tx) (E : Int → Int) (k : Int) : Option Int := match rn_ E (T 12) (T 14 k - T 13 k).toNat (T 13 k) [] with
  | some s => some (s.headD 0)
  | none => none
theorem pr_b {a b : Int} (ha : 0 ≤ a) (hb : 0 < b) : a ≤ Int.tdiv 1000000000000 b ↔ a * b ≤ 1000000000000 := by
  rw [Int.tdiv_eq_ediv_of_nonneg (by omega)]
  exact Int.le_ediv_iff_mul_le hb
theorem td_b {a b : Int} (h : bnd a) : bnd (Int.tdiv a b) := by
  have h1 := Int.natAbs_tdiv_le_natAbs a b
  unfold bnd at *
  omega
theorem jo_b {k a b v : Int} (ha : bnd a) (hb : bnd b) (h : jo_ k a b = some v) : bnd v := by
  unfold jo_ at h
  repeat' split at h
  all_goals first
    | (cases h; unfold bnd; omega)
    | (unfold bo_ at h; split at h <;> first | (cases h; assumption) | cases h)
    | (cases h; exact td_b ha)
    | cases h
/-- the told text at t -/
def ShT (h : am_H) (t : Int) : Prop := 0 ≤ t ∧ rf_ h t 6 = t + 1 ∧ rf_ h t 7 = t + 10 ∧ rf_ h t 8 = t + 11 ∧ rf_ h t 9 = t + 12 ∧ rf_ h t 10 = t + 13 ∧ rf_ h t 11 = t + 14 ∧ rf_ h t 12 = t + 15 ∧ rf_ h t 13 = t + 16 ∧ rf_ h t 14 = t + 17 ∧ rf_ h t 15 = t + 18 ∧ rf_ h t 16 = t + 19 ∧
  ln_ h (t + 10) = 4 ∧ ln_ h (t + 11) = 4 ∧ ln_ h (t + 12) = 4 ∧ ln_ h (t + 13) = 14 ∧ ln_ h (t + 14) = 14 ∧ ln_ h (t + 15) = 14 ∧ ln_ h (t + 16) = 14 ∧ ln_ h (t + 17) = 64 ∧ ln_ h (t + 18) = 3 ∧ ln_ h (t + 19) = 3
def TO (h : am_H) (t : Int) (T : Tx) : Prop := ShT h t ∧ (rd_ h t 0 = T 0 7 ∧ rd_ h t 1 = T 0 3 ∧ rd_ h t 2 = T 0 5 ∧ rd_ h t 3 = T 0 4) ∧
  (∀ j, 0 ≤ j → j < T 0 0 → rd_ h (t + 10) j = T 1 j ∧ rd_ h (t + 11) j = T 2 j) ∧ (∀ j, 0 ≤ j → j < T 0 1 → rd_ h (t + 12) j = T 3 j) ∧
  (∀ j, 0 ≤ j → j < T 0 3 → rd_ h (t + 13) j = T 8 j ∧ rd_ h (t + 14) j = T 9 j ∧ rd_ h (t + 15) j = T 10 j ∧ rd_ h (t + 16) j = T 11 j) ∧
  (∀ j, 0 ≤ j → j < T 0 4 → rd_ h (t + 17) j = T 12 j) ∧ (∀ k, 0 ≤ k → k < 3 → rd_ h (t + 18) k = T 13 k ∧ rd_ h (t + 19) k = T 14 k)
/-- a text that holds -/
def TV (T : Tx) : Prop := (0 ≤ T 0 3 ∧ T 0 3 ≤ 14 ∧ 0 ≤ T 0 4 ∧ T 0 4 ≤ 64 ∧ 0 ≤ T 0 5 ∧ T 0 5 ≤ 100 ∧ 0 ≤ T 0 6 ∧ T 0 6 ≤ 99999 ∧ i32_ (T 0 7)) ∧ (∀ j, 0 ≤ j → j < T 0 0 → 0 ≤ T 2 j ∧ T 2 j ≤ 9) ∧
  (∀ j, 0 ≤ j → j < T 0 3 → 0 ≤ T 8 j ∧ T 8 j < T 0 0 ∧ 0 ≤ T 9 j ∧ T 9 j < T 0 1 ∧ 1 ≤ T 10 j ∧ T 10 j ≤ 5 ∧ 0 ≤ T 11 j ∧ T 11 j ≤ 99) ∧ LV T
theorem ShT_of {h h' : am_H} {w : Int} (e : h'.2 = h.2) (s : ShT h w) : ShT h' w := by
  have a : rf_ h' = rf_ h := by unfold rf_; rw [e]
  have b : ln_ h' = ln_ h := by unfold ln_; rw [e]
  unfold ShT at *
  rw [a, b]
  exact s
theorem TO_fr {h h' : am_H} {t : Int} {T : Tx} {A : Int → Prop} (o : TO h t T) (f : fr_ h h' A) (n : ∀ a, t ≤ a → a ≤ t + 19 → ¬ A a) : TO h' t T := by
  obtain ⟨s, ⟨a0, a1, a2, a3⟩, b, c, d, e, g⟩ := o
  have R : ∀ a, t ≤ a → a ≤ t + 19 → ∀ k, rd_ h' a k = rd_ h a k := fun a x y k => f.2 a (n a x y) k
  refine ⟨ShT_of f.1 s, ?_, ?_, ?_, ?_, ?_, ?_⟩
  · rw [R t (by omega) (by omega), R t (by omega) (by omega), R t (by omega) (by omega), R t (by omega) (by omega)]
    exact ⟨a0, a1, a2, a3⟩
  · intro j x y
    rw [R (t + 10) (by omega) (by omega), R (t + 11) (by omega) (by omega)]; exact b j x y
  · intro j x y
    rw [R (t + 12) (by omega) (by omega)]; exact c j x y
  · intro j x y
    rw [R (t + 13) (by omega) (by omega), R (t + 14) (by omega) (by omega), R (t + 15) (by omega) (by omega), R (t + 16) (by omega) (by omega)]; exact d j x y
  · intro j x y
    rw [R (t + 17) (by omega) (by omega)]; exact e j x y
  · intro j x y
    rw [R (t + 18) (by omega) (by omega), R (t + 19) (by omega) (by omega)]; exact g j x y
theorem WO_fr {h h' : am_H} {w : Int} {T W : Tx} {A : Int → Prop} (o : WO h w T W) (f : fr_ h h' A) (n : ∀ a, w ≤ a → a ≤ w + 7 → ¬ A a) : WO h' w T W := by
  obtain ⟨⟨w0, s6, s7, s8, s9, s10, s11, s12, s13, l1, l2, l3, l4, l5, l6, l7, l8⟩, ⟨e0, e1, e2, e3, e4, e5⟩, f1, f2, f3, f4, f5, f6, f7⟩ := id o
  have R : ∀ a, w ≤ a → a ≤ w + 7 → ∀ k, rd_ h' a k = rd_ h a k := fun a x y k => f.2 a (n a x y) k
  refine ⟨ShW_of f.1 o.1, ?_, ?_, ?_, ?_, ?_, ?_, ?_, ?_⟩
  · rw [R w (by omega) (by omega), R w (by omega) (by omega), R w (by omega) (by omega), R w (by omega) (by omega), R w (by omega) (by omega), R w (by omega) (by omega)]
    exact ⟨e0, e1, e2, e3, e4, e5⟩
  · intro j x y
    rw [R (w + 1) (by omega) (by omega)]; exact f1 j x y
  · intro j x y
    rw [R (w + 2) (by omega) (by omega)]; exact f2 j x y
  · intro j x y
    rw [R (w + 3) (by omega) (by omega)]; exact f3 j x y
  · intro j k x y z u
    rw [R (w + 4) (by omega) (by omega)]; exact f4 j k x y z u
  · intro j x y
    rw [R (w + 5) (by omega) (by omega)]; exact f5 j x y
  · intro j x y
    rw [R (w + 6) (by omega) (by omega)]; exact f6 j x y
  · intro j x y
    rw [R (w + 7) (by omega) (by omega)]; exact f7 j x y
