/-! a pile is turned -/
theorem av_iff (P : Int → Bool) : ∀ (n : Nat) (k : Int), av_ P n k = true ↔ ∀ j, k ≤ j → j < k + n → P j = true := by
  intro n
  induction n with
  | zero => intro k; exact ⟨fun _ j h1 h2 => by omega, fun _ => rfl⟩
  | succ n ih =>
    intro k
    unfold av_
    rw [Bool.and_eq_true, ih]
    constructor
    · intro ⟨a, b⟩ j h1 h2
      by_cases e : j = k
      · rw [e]; exact a
      · exact b j (by omega) (by omega)
    · intro q
      exact ⟨q k (by omega) (by omega), fun j h1 h2 => q j (by omega) (by omega)⟩
/-- whether a plate lies among the first d of a pile -/
def an_p (W : Tx) (p d j : Int) : Bool := !av_ (fun k => decide (W 3 (5 * p + k) ≠ j)) d.toNat 0
theorem an_t {W : Tx} {p d j : Int} : an_p W p d j = true ↔ ∃ k, 0 ≤ k ∧ k < d ∧ W 3 (5 * p + k) = j := by
  unfold an_p
  rw [Bool.not_eq_true', ← Bool.not_eq_true, av_iff]
  constructor
  · intro q
    apply Classical.byContradiction
    intro n
    exact q fun k h1 h2 => decide_eq_true fun e => n ⟨k, h1, by omega, e⟩
  · intro ⟨k, h1, h2, h3⟩ q
    exact of_decide_eq_true (q k h1 (by omega)) h3
def Tn (W : Tx) (p d : Int) : Tx := fun f => if f = 1 then (fun q => if q = p then w32 (W 1 p + 1) else W 1 q)
  else if f = 3 then (fun i => if 5 * p ≤ i ∧ i < 5 * p + d then W 3 (5 * p + (d - 1 - (i - 5 * p))) else W 3 i)
  else if f = 4 then (fun j => if an_p W p d j then 1 - W 4 j else W 4 j) else W f
theorem Tn_0 (W : Tx) (p d : Int) : Tn W p d 0 = W 0 := rfl
theorem Tn_1 (W : Tx) (p d : Int) : Tn W p d 1 = fun q => if q = p then w32 (W 1 p + 1) else W 1 q := rfl
theorem Tn_2 (W : Tx) (p d : Int) : Tn W p d 2 = W 2 := rfl
theorem Tn_3 (W : Tx) (p d : Int) : Tn W p d 3 = fun i => if 5 * p ≤ i ∧ i < 5 * p + d then W 3 (5 * p + (d - 1 - (i - 5 * p))) else W 3 i := rfl
theorem Tn_4 (W : Tx) (p d : Int) : Tn W p d 4 = fun j => if an_p W p d j then 1 - W 4 j else W 4 j := rfl
theorem Tn_5 (W : Tx) (p d : Int) : Tn W p d 5 = W 5 := rfl
theorem Tn_6 (W : Tx) (p d : Int) : Tn W p d 6 = W 6 := rfl
/-- where a plate of a turned pile lay before -/
def tb_ (p d q k : Int) : Int := if q = p ∧ k < d then d - 1 - k else k
theorem Tn_3b (W : Tx) {p d : Int} (hp : 0 ≤ p) (hd : d ≤ 5) {q k : Int} (hq : 0 ≤ q) (hk : 0 ≤ k) (h5 : k < 5) : Tn W p d 3 (5 * q + k) = W 3 (5 * q + tb_ p d q k) := by
  rw [Tn_3]
  unfold tb_
  dsimp only
  by_cases c : q = p ∧ k < d
  · obtain ⟨e, c⟩ := c
    subst e
    rw [if_pos (by omega), if_pos (by omega)]
    congr 1
    omega
  · rw [if_neg (by omega), if_neg c]
theorem Tn_v {T W : Tx} (v : WV T W) {p d : Int} (h1 : 0 ≤ p) (h2 : p < T 0 1) (h3 : 1 ≤ d) (h4 : d ≤ W 0 p) : WV T (Tn W p d) := by
  obtain ⟨v0, v1, v2, v3, v4, v5, v6, v7, v8, v9, v10, v11⟩ := id v
  have q := v1 p h1 h2
  have tb : ∀ q k, 0 ≤ k → k < W 0 q → (q = p → 0 ≤ tb_ p d q k ∧ tb_ p d q k < W 0 q) ∧ 0 ≤ tb_ p d q k ∧ tb_ p d q k < W 0 q := by
    intro q k a b
    unfold tb_
    split
    · rename_i c
      obtain ⟨c, e⟩ := c
      subst c
      omega
    · omega
  refine ⟨v0, v1, ?_, ?_, v4, ?_, ?_, ?_, v8, v9, v10, v11⟩
  · intro q k a b c e
    have := v1 q a b
    have z := (tb q k c e).2
    rw [Tn_0] at e
    rw [Tn_3b W h1 (by omega) a c (by omega)]
    exact v2 q _ a b z.1 z.2
  · intro q k r j a b c e a' b' c' e' hh
    have := v1 q a b
    have := v1 r a' b'
    rw [Tn_0] at e e'
    have z := (tb q k c e).2
    have z' := (tb r j c' e').2
    rw [Tn_3b W h1 (by omega) a c (by omega), Tn_3b W h1 (by omega) a' c' (by omega)] at hh
    have y := v3 q _ r _ a b z.1 z.2 a' b' z'.1 z'.2 hh
    refine ⟨y.1, ?_⟩
    obtain ⟨y1, y2⟩ := y
    subst y1
    unfold tb_ at y2
    split at y2 <;> split at y2 <;> omega
  · intro q k j a b c e c' e' hh
    have := v1 q a b
    rw [Tn_0] at e e'
    have z := (tb q k c e).2
    have z' := (tb q j c' e').2
    rw [Tn_3b W h1 (by omega) a c (by omega), Tn_3b W h1 (by omega) a c' (by omega)] at hh
    have y := v5 q _ _ a b z.1 z.2 z'.1 z'.2 hh
    unfold tb_ at y
    split at y <;> split at y <;> omega
  · intro j a b
    have := v6 j a b
    rw [Tn_4, Tn_5]
    dsimp only
    split
    · omega
    · exact this
  · intro q a b
    rw [Tn_1]
    dsimp only
    split
    · exact w32_in _
    · exact v7 q a b
theorem ShW_of {h h' : am_H} {w : Int} (e : h'.2 = h.2) (s : ShW h w) : ShW h' w := by
  have a : rf_ h' = rf_ h := by unfold rf_; rw [e]
  have b : ln_ h' = ln_ h := by unfold ln_; rw [e]
  unfold ShW at *
  rw [a, b]
  exact s
theorem Wo_rev {w p d t : Int} : ∀ (n : Nat) (h : am_H) (i j : Int), ShW h w → 0 ≤ i → j < 20 → j < i + n → ∃ h', Wo_turnOver_5 h w p d t i j = Wo_turnOver_8 h' w p d t t ∧ fr_ h h' (fun a => a = w + 4) ∧ ∀ x, rd_ h' (w + 4) x = if i ≤ x ∧ x ≤ j then rd_ h (w + 4) (i + j - x) else rd_ h (w + 4) x := by
  intro n
  induction n with
  | zero =>
    intro h i j s hi hj hn
    refine ⟨h, ?_, fr_refl _ _, ?_⟩
    · rw [Wo_turnOver_5_e, if_pos (by omega)]
    · intro x
      rw [if_neg (by omega)]
  | succ n ih =>
    intro h i j s hi hj hn
    by_cases c : j ≤ i
    · refine ⟨h, ?_, fr_refl _ _, ?_⟩
      · rw [Wo_turnOver_5_e, if_pos c]
      · intro x
        split
        · have : i + j - x = x := by omega
          rw [this]
        · rfl
    · obtain ⟨w0, s6, s7, s8, s9, s10, s11, s12, s13, l1, l2, l3, l4, l5, l6, l7, l8⟩ := id s
      rw [Wo_turnOver_5_e]
      simp only [s9, l4]
      repeat first | rw [ck_t (by omega)] | rw [if_neg (by omega)] | rw [if_pos (by omega)] | simp (disch := omega) only [w32_i]
      obtain ⟨h', e1, e2, e3⟩ := ih (wr_ (wr_ h (w + 4) i (rd_ h (w + 4) j)) (w + 4) j (rd_ h (w + 4) i)) (i + 1) (j + -1) (ShW_of rfl s) (by omega) (by omega) (by omega)
      refine ⟨h', e1, fr_tr (fr_tr (fr_wr rfl) (fr_wr rfl)) e2, ?_⟩
      intro x
      rw [e3]
      simp only [rd_wa]
      repeat' split
      all_goals first | omega | rfl | (congr 1; omega)
theorem Wo_flip {w p d t : Int} : ∀ (n : Nat) (h : am_H) (i : Int), ShW h w → 0 ≤ i → i + n = t + d → 0 ≤ t → t + d ≤ 20 → (∀ x, i ≤ x → x < t + d → 0 ≤ rd_ h (w + 4) x ∧ rd_ h (w + 4) x < 20 ∧ (rd_ h (w + 6) (rd_ h (w + 4) x) = 0 ∨ rd_ h (w + 6) (rd_ h (w + 4) x) = 1)) → (∀ x y, i ≤ x → x < t + d → i ≤ y → y < t + d → rd_ h (w + 4) x = rd_ h (w + 4) y → x = y) →
    ∃ h', Wo_turnOver_8 h w p d t i = Wo_turnOver_8 h' w p d t (t + d) ∧ fr_ h h' (fun a => a = w + 6) ∧ (∀ x, i ≤ x → x < t + d → rd_ h' (w + 6) (rd_ h (w + 4) x) = 1 - rd_ h (w + 6) (rd_ h (w + 4) x)) ∧ ∀ j, (∀ x, i ≤ x → x < t + d → rd_ h (w + 4) x ≠ j) → rd_ h' (w + 6) j = rd_ h (w + 6) j := by
  intro n
  induction n with
  | zero =>
    intro h i s hi hn ht h20 hr hd
    have e : i = t + d := by omega
    subst e
    exact ⟨h, rfl, fr_refl _ _, fun x a b => by omega, fun _ _ => rfl⟩
  | succ n ih =>
    intro h i s hi hn ht h20 hr hd
    obtain ⟨w0, s6, s7, s8, s9, s10, s11, s12, s13, l1, l2, l3, l4, l5, l6, l7, l8⟩ := id s
    have q := hr i (by omega) (by omega)
    rw [Wo_turnOver_8_e]
    simp only [s9, s11, l4, l6]
    repeat first | rw [ck_t (by omega)] | rw [if_neg (by omega)] | rw [if_pos (by omega)] | simp (disch := omega) only [w32_i]
    have ne : w + 4 ≠ w + 6 := by omega
    obtain ⟨h', e1, e2, e3, e4⟩ := ih (wr_ h (w + 6) (rd_ h (w + 4) i) (1 - rd_ h (w + 6) (rd_ h (w + 4) i))) (i + 1) (ShW_of rfl s) (by omega) (by omega) ht h20 (by
      intro x a b
      have := hr x (by omega) b
      rw [rd_wo ne, rd_wa]
      refine ⟨this.1, this.2.1, ?_⟩
      split
      · omega
      · exact this.2.2) (by
      intro x y a b c e
      rw [rd_wo ne, rd_wo ne]
      exact hd x y (by omega) b (by omega) e)
    refine ⟨h', e1, fr_tr (fr_wr rfl) e2, ?_, ?_⟩
    · intro x a b
      by_cases c : x = i
      · subst c
        rw [e4 _ (fun y a' b' => by
          rw [rd_wo ne]
          intro z
          have := hd y x (by omega) b' (by omega) b z
          omega), rd_ws]
      · have := e3 x (by omega) b
        rw [rd_wo ne, rd_wk (fun z => c (hd x i a b (by omega) (by omega) z))] at this
        exact this
    · intro j hj
      rw [e4 j (fun y a b => by rw [rd_wo ne]; exact hj y (by omega) b), rd_wk (fun z => hj i (by omega) (by omega) z.symm)]
section
variable {h : am_H} {w : Int} {T W : Tx}
theorem Wo_turnOver_s (o : WO h w T W) (v : WV T W) {p d : Int} (h1 : 0 ≤ p) (h2 : p < T 0 1) (h3 : 1 ≤ d) (h4 : d ≤ W 0 p) : ∃ h', Wo_turnOver h w p d = some (h', 0) ∧ WO h' w T (Tn W p d) ∧ fr_ h h' (fun a => a = w + 2 ∨ a = w + 4 ∨ a = w + 6) := by
  obtain ⟨⟨w0, s6, s7, s8, s9, s10, s11, s12, s13, l1, l2, l3, l4, l5, l6, l7, l8⟩, ⟨e0, e1, e2, e3, e4, e5⟩, f1, f2, f3, f4, f5, f6, f7⟩ := id o
  obtain ⟨v0, v1, v2, v3, v4, v5, v6, v7, v8, v9, v10, v11⟩ := id v
  have q1 := f1 p h1 h2
  have q2 := v1 p h1 h2
  have s : ShW h w := o.1
  rw [Wo_turnOver_e]
  rw [ck_t (by omega), Wo_hasPile_t o h1 h2, bd_v]
  simp only [s6, l1, q1]
  repeat first | rw [ck_t (by omega)] | rw [if_neg (by omega)] | rw [if_pos (by omega)] | simp (disch := omega) only [w32_i]
  obtain ⟨ha, a1, a2, a3⟩ := Wo_rev (w := w) (p := p) (d := d) (t := p * 5) 6 h (p * 5) (p * 5 + d - 1) s (by omega) (by omega) (by omega)
  have lya : ∀ k, 0 ≤ k → k < d → rd_ ha (w + 4) (p * 5 + k) = W 3 (5 * p + (d - 1 - k)) := by
    intro k a b
    rw [a3, if_pos (by omega), ← f4 p (d - 1 - k) h1 h2 (by omega) (by omega)]
    congr 1
    omega
  have fca : ∀ j, rd_ ha (w + 6) j = rd_ h (w + 6) j := fun j => a2.2 (w + 6) (by omega) j
  obtain ⟨hb, b1, b2, b3, b4⟩ := Wo_flip (w := w) (p := p) (d := d) (t := p * 5) d.toNat ha (p * 5) (ShW_of a2.1 s) (by omega) (by omega) (by omega) (by omega) (by
      intro x a b
      have e := lya (x - p * 5) (by omega) (by omega)
      rw [show p * 5 + (x - p * 5) = x by omega] at e
      have y := v2 p (d - 1 - (x - p * 5)) h1 h2 (by omega) (by omega)
      rw [e, fca, f6 _ y.1 y.2]
      have := v6 _ y.1 y.2
      refine ⟨y.1, by omega, this.1⟩) (by
      intro x y a b c e z
      have e1 := lya (x - p * 5) (by omega) (by omega)
      have e2 := lya (y - p * 5) (by omega) (by omega)
      rw [show p * 5 + (x - p * 5) = x by omega] at e1
      rw [show p * 5 + (y - p * 5) = y by omega] at e2
      rw [e1, e2] at z
      have := v3 p _ p _ h1 h2 (by omega) (by omega) h1 h2 (by omega) (by omega) z
      omega)
  rw [a1, b1, Wo_turnOver_8_e, w32_i (by omega) (by omega), if_pos (by omega)]
  have sb := ShW_of b2.1 (ShW_of a2.1 s)
  obtain ⟨-, -, r7, -, -, -, -, -, -, -, r2, -⟩ := id sb
  simp only [r7, r2]
  repeat first | rw [ck_t (by omega)] | rw [if_neg (by omega)] | rw [if_pos (by omega)] | simp (disch := omega) only [w32_i]
  have tub : rd_ hb (w + 2) p = W 1 p := by rw [b2.2 (w + 2) (by omega), a2.2 (w + 2) (by omega), f2 p h1 h2]
  rw [tub]
  have F : fr_ h (wr_ hb (w + 2) p (w32 (W 1 p + 1))) (fun a => a = w + 2 ∨ a = w + 4 ∨ a = w + 6) :=
    fr_tr (fr_mo a2 fun a e => by omega) (fr_tr (fr_mo b2 fun a e => by omega) (fr_wr (by omega)))
  have R : ∀ a, a ≠ w + 2 → a ≠ w + 4 → a ≠ w + 6 → ∀ k, rd_ (wr_ hb (w + 2) p (w32 (W 1 p + 1))) a k = rd_ h a k := fun a x y z k => F.2 a (by omega) k
  refine ⟨_, rfl, ?_, F⟩
  refine ⟨ShW_of F.1 s, ?_, ?_, ?_, ?_, ?_, ?_, ?_, ?_⟩
  · rw [R w (by omega) (by omega) (by omega), R w (by omega) (by omega) (by omega), R w (by omega) (by omega) (by omega), R w (by omega) (by omega) (by omega), R w (by omega) (by omega) (by omega), R w (by omega) (by omega) (by omega)]
    exact ⟨e0, e1, e2, e3, e4, e5⟩
  · intro q a b
    rw [R (w + 1) (by omega) (by omega) (by omega)]
    exact f1 q a b
  · intro q a b
    rw [rd_wa, Tn_1]
    dsimp only
    split
    · rfl
    · rw [b2.2 (w + 2) (by omega), a2.2 (w + 2) (by omega), f2 q a b]
  · intro m a b
    rw [R (w + 3) (by omega) (by omega) (by omega)]
    exact f3 m a b
  · intro q k a b c e
    have q5 := v1 q a b
    rw [Tn_0] at e
    rw [rd_wo (by omega), b2.2 (w + 4) (by omega), Tn_3b W h1 (by omega) a c (by omega)]
    unfold tb_
    split
    · rename_i z
      obtain ⟨z1, z2⟩ := z
      subst z1
      rw [show 5 * q + k = q * 5 + k by omega, lya k c z2]
    · rename_i z
      rw [a3, if_neg (by omega), f4 q k a b c e]
  · intro j a b
    rw [R (w + 5) (by omega) (by omega) (by omega)]
    exact f5 j a b
  · intro j a b
    rw [rd_wo (by omega), Tn_4]
    dsimp only
    split
    · rename_i z
      obtain ⟨k, k1, k2, k3⟩ := an_t.mp z
      have e := lya (d - 1 - k) (by omega) (by omega)
      rw [show d - 1 - (d - 1 - k) = k by omega, k3] at e
      have y := b3 (p * 5 + (d - 1 - k)) (by omega) (by omega)
      rw [e, fca, f6 j a b] at y
      exact y
    · rename_i z
      rw [b4 j, fca, f6 j a b]
      intro x a' b' c'
      apply z
      apply an_t.mpr
      have e := lya (x - p * 5) (by omega) (by omega)
      rw [show p * 5 + (x - p * 5) = x by omega, c'] at e
      exact ⟨d - 1 - (x - p * 5), by omega, by omega, e.symm⟩
  · intro j a b
    rw [R (w + 7) (by omega) (by omega) (by omega)]
    exact f7 j a b
end
