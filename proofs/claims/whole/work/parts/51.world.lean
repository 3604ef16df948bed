/-! a text and a scullery as rows of numbers. T 0: 0 maids, 1 piles, 2 plates, 3 turns, 4 knots, 5 chip, 6 seed, 7 lines; T 1 maids' names, 2 skills, 3 piles' names, 4 high at first, 5 sizes, 6 lying at first, 7 faces at first, 8 turns' maids, 9 piles, 10 depths, 11 minutes, 12 knots, 13 laws' begins, 14 ends.
W 0 high, 1 turned, 2 tired, 3 lying, 4 faces, 5 chipped, 6: 0 minute, 1 idle, 2 number -/
abbrev Tx : Type := Nat → Int → Int
def ok_p (T : Tx) (p : Int) : Prop := 0 ≤ p ∧ p < T 0 1
def WV (T W : Tx) : Prop := (0 ≤ T 0 0 ∧ T 0 0 ≤ 4 ∧ 0 ≤ T 0 1 ∧ T 0 1 ≤ 4 ∧ 0 ≤ T 0 2 ∧ T 0 2 ≤ 20) ∧
  (∀ p, 0 ≤ p → p < T 0 1 → 0 ≤ W 0 p ∧ W 0 p ≤ 5) ∧
  (∀ p k, 0 ≤ p → p < T 0 1 → 0 ≤ k → k < W 0 p → 0 ≤ W 3 (5 * p + k) ∧ W 3 (5 * p + k) < T 0 2) ∧
  (∀ p k q j, 0 ≤ p → p < T 0 1 → 0 ≤ k → k < W 0 p → 0 ≤ q → q < T 0 1 → 0 ≤ j → j < W 0 q → W 3 (5 * p + k) = W 3 (5 * q + j) → p = q ∧ k = j) ∧
  (∀ j, 0 ≤ j → j < T 0 2 → 1 ≤ T 5 j ∧ T 5 j ≤ 99) ∧
  (∀ p k j, 0 ≤ p → p < T 0 1 → 0 ≤ k → k < W 0 p → 0 ≤ j → j < W 0 p → T 5 (W 3 (5 * p + k)) = T 5 (W 3 (5 * p + j)) → k = j) ∧
  (∀ j, 0 ≤ j → j < T 0 2 → (W 4 j = 0 ∨ W 4 j = 1) ∧ (W 5 j = 0 ∨ W 5 j = 1)) ∧
  (∀ p, 0 ≤ p → p < T 0 1 → i32_ (W 1 p)) ∧ (∀ m, 0 ≤ m → m < T 0 0 → 0 ≤ W 2 m ∧ W 2 m ≤ 99999) ∧
  i32_ (W 6 0) ∧ i32_ (W 6 1) ∧ 0 ≤ W 6 2 ∧ W 6 2 ≤ 2147483647
def Pa (T W : Tx) (p k : Int) : Int := if 0 ≤ p ∧ p < T 0 1 ∧ 0 ≤ k ∧ k < W 0 p then W 3 (5 * p + k) else -1
def Zs (T W : Tx) (p k : Int) : Int := if 0 ≤ p ∧ p < T 0 1 ∧ 0 ≤ k ∧ k < W 0 p then T 5 (W 3 (5 * p + k)) else 0
def Fs (T W : Tx) (p k : Int) : Int := if 0 ≤ p ∧ p < T 0 1 ∧ 0 ≤ k ∧ k < W 0 p then W 4 (W 3 (5 * p + k)) else 0
def Rt (T W : Tx) (p : Int) : Bool := av_ (fun k => decide (Zs T W p (k - 1) < Zs T W p k)) (W 0 p - 1).toNat 1
def Pr (T W : Tx) (p : Int) : Bool := av_ (fun k => decide (Fs T W p k = 0)) (W 0 p).toNat 0 && Rt T W p
def Gs (T W : Tx) (p j k b : Int) : Int := if Zs T W p j < Zs T W p k ∧ (b < 0 ∨ Zs T W p k < Zs T W p b) then k else b
def Gr (T W : Tx) (p j : Int) : Int := fo_ (Gs T W p j) (W 0 p).toNat 0 (-1)
def Ga (T W : Tx) (p k : Int) : Int := if Gr T W p k < 0 then (if k = W 0 p - 1 then 0 else 1) else if Gr T W p k = k - 1 ∨ Gr T W p k = k + 1 then 0 else 1
def Gp (T W : Tx) (p : Int) : Int := fo_ (fun k n => n + Ga T W p k) (W 0 p).toNat 0 0
/-- the class's world at w -/
def ShW (h : am_H) (w : Int) : Prop := 0 ≤ w ∧ rf_ h w 6 = w + 1 ∧ rf_ h w 7 = w + 2 ∧ rf_ h w 8 = w + 3 ∧ rf_ h w 9 = w + 4 ∧ rf_ h w 10 = w + 5 ∧ rf_ h w 11 = w + 6 ∧ rf_ h w 12 = w + 7 ∧ rf_ h w 13 = w + 8 ∧
  ln_ h (w + 1) = 4 ∧ ln_ h (w + 2) = 4 ∧ ln_ h (w + 3) = 4 ∧ ln_ h (w + 4) = 20 ∧ ln_ h (w + 5) = 20 ∧ ln_ h (w + 6) = 20 ∧ ln_ h (w + 7) = 20 ∧ ln_ h (w + 8) = 5
def WO (h : am_H) (w : Int) (T W : Tx) : Prop := ShW h w ∧
  (rd_ h w 0 = T 0 0 ∧ rd_ h w 1 = T 0 1 ∧ rd_ h w 2 = T 0 2 ∧ rd_ h w 3 = W 6 0 ∧ rd_ h w 4 = W 6 1 ∧ rd_ h w 5 = W 6 2) ∧
  (∀ p, 0 ≤ p → p < T 0 1 → rd_ h (w + 1) p = W 0 p) ∧ (∀ p, 0 ≤ p → p < T 0 1 → rd_ h (w + 2) p = W 1 p) ∧ (∀ m, 0 ≤ m → m < T 0 0 → rd_ h (w + 3) m = W 2 m) ∧
  (∀ p k, 0 ≤ p → p < T 0 1 → 0 ≤ k → k < W 0 p → rd_ h (w + 4) (5 * p + k) = W 3 (5 * p + k)) ∧
  (∀ j, 0 ≤ j → j < T 0 2 → rd_ h (w + 5) j = T 5 j) ∧ (∀ j, 0 ≤ j → j < T 0 2 → rd_ h (w + 6) j = W 4 j) ∧ (∀ j, 0 ≤ j → j < T 0 2 → rd_ h (w + 7) j = W 5 j)
