/-! what is done by call, in the reference -/
section
variable {a o : Int}
theorem Mo_put_lp1 (ha : a = 138 ∨ a = 140) (h0 : 0 ≤ o) {L : Int} (hL : o + 48 ≤ L) (hL2 : L ≤ 960) : ∀ (n : Nat) (k : Int) (h : am_H), ShM h → ln_ h a = L → 0 ≤ k → k + n = 4 → ∃ h', Mo_put_1 h 94 a o k = Mo_put_4 h' 94 a o 0 ∧ fr_ h h' (fun x => x = a) ∧ ∀ x, rd_ h' a x = if o + k ≤ x ∧ x < o + 4 then rd_ h 120 (x - o) else if o + 4 + k ≤ x ∧ x < o + 8 then rd_ h 122 (x - o - 4) else rd_ h a x := by
  intro n
  induction n with
  | zero =>
    intro k h s l hk hn
    refine ⟨h, ?_, fr_refl _ _, fun x => by rw [if_neg (by omega), if_neg (by omega)]⟩
    rw [Mo_put_1_e, if_pos (by omega)]
  | succ n ih =>
    intro k h s l hk hn
    rw [Mo_put_1_e, if_neg (by omega)]
    simp only [mr52 s, ml120 s, mr54 s, ml122 s, l]
    simp (disch := omega) only [w32_i]
    repeat rw [ck_t (by omega)]
    rw [rd_wo (show (122 : Int) ≠ a by omega)]
    obtain ⟨h', i1, i2, i3⟩ := ih (k + 1) (wr_ (wr_ h a (o + k) (rd_ h 120 k)) a (o + 4 + k) (rd_ h 122 k)) (ShM_of rfl s) l (by omega) (by omega)
    refine ⟨h', i1, fr_tr (fr_tr (fr_wr rfl) (fr_wr rfl)) i2, ?_⟩
    intro x
    rw [i3, rd_wo (show (120 : Int) ≠ a by omega), rd_wo (show (120 : Int) ≠ a by omega), rd_wo (show (122 : Int) ≠ a by omega), rd_wo (show (122 : Int) ≠ a by omega), rd_wa, rd_wa]
    repeat' split
    all_goals first | omega | rfl | (congr 1; omega)
theorem Mo_put_lp2 (ha : a = 138 ∨ a = 140) (h0 : 0 ≤ o) {L : Int} (hL : o + 48 ≤ L) (hL2 : L ≤ 960) : ∀ (n : Nat) (k : Int) (h : am_H), ShM h → ln_ h a = L → 0 ≤ k → k + n = 20 → ∃ h', Mo_put_4 h 94 a o k = some (h', 0) ∧ fr_ h h' (fun x => x = a) ∧ ∀ x, rd_ h' a x = if o + 8 + k ≤ x ∧ x < o + 28 then rd_ h 121 (x - o - 8) else if o + 28 + k ≤ x ∧ x < o + 48 then rd_ h 123 (x - o - 28) else rd_ h a x := by
  intro n
  induction n with
  | zero =>
    intro k h s l hk hn
    refine ⟨h, ?_, fr_refl _ _, fun x => by rw [if_neg (by omega), if_neg (by omega)]⟩
    rw [Mo_put_4_e, if_pos (by omega)]
  | succ n ih =>
    intro k h s l hk hn
    rw [Mo_put_4_e, if_neg (by omega)]
    simp only [mr53 s, ml121 s, mr55 s, ml123 s, l]
    simp (disch := omega) only [w32_i]
    repeat rw [ck_t (by omega)]
    rw [rd_wo (show (123 : Int) ≠ a by omega)]
    obtain ⟨h', i1, i2, i3⟩ := ih (k + 1) (wr_ (wr_ h a (o + 8 + k) (rd_ h 121 k)) a (o + 28 + k) (rd_ h 123 k)) (ShM_of rfl s) l (by omega) (by omega)
    refine ⟨h', i1, fr_tr (fr_tr (fr_wr rfl) (fr_wr rfl)) i2, ?_⟩
    intro x
    rw [i3, rd_wo (show (121 : Int) ≠ a by omega), rd_wo (show (121 : Int) ≠ a by omega), rd_wo (show (123 : Int) ≠ a by omega), rd_wo (show (123 : Int) ≠ a by omega), rd_wa, rd_wa]
    repeat' split
    all_goals first | omega | rfl | (congr 1; omega)
/-- a scullery kept in a row, but for what is chipped -/
def SN (h : am_H) (a o : Int) (T V : Tx) : Prop := (∀ p, 0 ≤ p → p < T 0 1 → rd_ h a (o + p) = V 0 p ∧ rd_ h a (o + 4 + p) = V 1 p) ∧ (∀ p k, 0 ≤ p → p < T 0 1 → 0 ≤ k → k < V 0 p → rd_ h a (o + 8 + (5 * p + k)) = V 3 (5 * p + k)) ∧ ∀ j, 0 ≤ j → j < T 0 2 → rd_ h a (o + 28 + j) = V 4 j
theorem SN_R {h h' : am_H} {T V : Tx} (g : SN h a o T V) (v : WV T V) (R : ∀ x, o ≤ x → x < o + 48 → rd_ h' a x = rd_ h a x) : SN h' a o T V := by
  obtain ⟨x, y, z⟩ := g
  have v0 := v.1
  refine ⟨?_, ?_, ?_⟩
  · intro p b c
    rw [R _ (by omega) (by omega), R _ (by omega) (by omega)]; exact x p b c
  · intro p k b c d e
    have := v.2.1 p b c
    rw [R _ (by omega) (by omega)]; exact y p k b c d e
  · intro j b c
    rw [R _ (by omega) (by omega)]; exact z j b c
theorem Mo_put_s {h : am_H} {T W : Tx} (s : ShM h) (m : MW h 0 T W) (v : WV T W) (ha : a = 138 ∨ a = 140) (h0 : 0 ≤ o) {L : Int} (hl : ln_ h a = L) (hL : o + 48 ≤ L) (hL2 : L ≤ 960) : ∃ h', Mo_put h 94 a o = some (h', 0) ∧ SN h' a o T W ∧ fr_ h h' (fun x => x = a) ∧ ∀ x, ¬ (o ≤ x ∧ x < o + 48) → rd_ h' a x = rd_ h a x := by
  obtain ⟨b0, g0, g1, g2, g3, g4, g5, g6, g7⟩ := m
  have v0 := v.1
  obtain ⟨ha', a1, a2, a3⟩ := Mo_put_lp1 ha h0 hL hL2 4 0 h s hl (by omega) (by omega)
  obtain ⟨hb, b1, b2, b3⟩ := Mo_put_lp2 ha h0 hL hL2 20 0 ha' (ShM_of a2.1 s) (by rw [fr_ln a2]; exact hl) (by omega) (by omega)
  refine ⟨hb, by rw [Mo_put_e, a1, b1], ⟨?_, ?_, ?_⟩, fr_tr a2 b2, ?_⟩
  · intro p x y
    rw [b3, b3, a3, a3]
    rw [if_neg (by omega), if_neg (by omega), if_pos (by omega), if_neg (by omega), if_neg (by omega), if_neg (by omega), if_pos (by omega), ← g0 p x y, ← g1 p x y]
    refine ⟨by congr 1; omega, by congr 1; omega⟩
  · intro p k x y z u
    have := v.2.1 p x y
    rw [b3, if_pos (by omega), a2.2 121 (by omega), ← g3 p k x y z u]
    congr 1
    omega
  · intro j x y
    rw [b3, if_neg (by omega), if_pos (by omega), a2.2 123 (by omega), ← g4 j x y]
    congr 1
    omega
  · intro x hx
    rw [b3, if_neg (by omega), if_neg (by omega), a3, if_neg (by omega), if_neg (by omega)]
theorem Mo_take_lp1 (ha : a = 138 ∨ a = 140) (h0 : 0 ≤ o) {L : Int} (hL : o + 48 ≤ L) (hL2 : L ≤ 960) : ∀ (n : Nat) (k : Int) (h : am_H), ShM h → ln_ h a = L → 0 ≤ k → k + n = 4 → ∃ h', Mo_take_1 h 94 a o k = Mo_take_4 h' 94 a o 0 ∧ fr_ h h' (fun x => x = 120 ∨ x = 122) ∧ (∀ x, rd_ h' 120 x = if k ≤ x ∧ x < 4 then rd_ h a (o + x) else rd_ h 120 x) ∧ ∀ x, rd_ h' 122 x = if k ≤ x ∧ x < 4 then rd_ h a (o + 4 + x) else rd_ h 122 x := by
  intro n
  induction n with
  | zero =>
    intro k h s l hk hn
    refine ⟨h, ?_, fr_refl _ _, fun x => by rw [if_neg (by omega)], fun x => by rw [if_neg (by omega)]⟩
    rw [Mo_take_1_e, if_pos (by omega)]
  | succ n ih =>
    intro k h s l hk hn
    rw [Mo_take_1_e, if_neg (by omega)]
    simp only [mr52 s, ml120 s, mr54 s, ml122 s, l]
    simp (disch := omega) only [w32_i]
    repeat rw [ck_t (by omega)]
    rw [rd_wo (show a ≠ 120 by omega)]
    obtain ⟨h', i1, i2, i3, i4⟩ := ih (k + 1) (wr_ (wr_ h 120 k (rd_ h a (o + k))) 122 k (rd_ h a (o + 4 + k))) (ShM_of rfl s) l (by omega) (by omega)
    refine ⟨h', i1, fr_tr (fr_tr (fr_wr (Or.inl rfl)) (fr_wr (Or.inr rfl))) i2, ?_, ?_⟩
    · intro x
      rw [i3, rd_wo (show a ≠ 122 by omega), rd_wo (show a ≠ 120 by omega), rd_wo (by omega), rd_wa]
      repeat' split
      all_goals first | omega | rfl | (congr 1; omega)
    · intro x
      rw [i4, rd_wo (show a ≠ 122 by omega), rd_wo (show a ≠ 120 by omega), rd_wa, rd_wo (by omega)]
      repeat' split
      all_goals first | omega | rfl | (congr 1; omega)
theorem Mo_take_lp2 (ha : a = 138 ∨ a = 140) (h0 : 0 ≤ o) {L : Int} (hL : o + 48 ≤ L) (hL2 : L ≤ 960) : ∀ (n : Nat) (k : Int) (h : am_H), ShM h → ln_ h a = L → 0 ≤ k → k + n = 20 → ∃ h', Mo_take_4 h 94 a o k = some (h', 0) ∧ fr_ h h' (fun x => x = 121 ∨ x = 123) ∧ (∀ x, rd_ h' 121 x = if k ≤ x ∧ x < 20 then rd_ h a (o + 8 + x) else rd_ h 121 x) ∧ ∀ x, rd_ h' 123 x = if k ≤ x ∧ x < 20 then rd_ h a (o + 28 + x) else rd_ h 123 x := by
  intro n
  induction n with
  | zero =>
    intro k h s l hk hn
    refine ⟨h, ?_, fr_refl _ _, fun x => by rw [if_neg (by omega)], fun x => by rw [if_neg (by omega)]⟩
    rw [Mo_take_4_e, if_pos (by omega)]
  | succ n ih =>
    intro k h s l hk hn
    rw [Mo_take_4_e, if_neg (by omega)]
    simp only [mr53 s, ml121 s, mr55 s, ml123 s, l]
    simp (disch := omega) only [w32_i]
    repeat rw [ck_t (by omega)]
    rw [rd_wo (show a ≠ 121 by omega)]
    obtain ⟨h', i1, i2, i3, i4⟩ := ih (k + 1) (wr_ (wr_ h 121 k (rd_ h a (o + 8 + k))) 123 k (rd_ h a (o + 28 + k))) (ShM_of rfl s) l (by omega) (by omega)
    refine ⟨h', i1, fr_tr (fr_tr (fr_wr (Or.inl rfl)) (fr_wr (Or.inr rfl))) i2, ?_, ?_⟩
    · intro x
      rw [i3, rd_wo (show a ≠ 123 by omega), rd_wo (show a ≠ 121 by omega), rd_wo (by omega), rd_wa]
      repeat' split
      all_goals first | omega | rfl | (congr 1; omega)
    · intro x
      rw [i4, rd_wo (show a ≠ 123 by omega), rd_wo (show a ≠ 121 by omega), rd_wa, rd_wo (by omega)]
      repeat' split
      all_goals first | omega | rfl | (congr 1; omega)
theorem Mo_take_s {h : am_H} {T V : Tx} (s : ShM h) (g : SN h a o T V) (v : WV T V) (ha : a = 138 ∨ a = 140) (h0 : 0 ≤ o) {L : Int} (hl : ln_ h a = L) (hL : o + 48 ≤ L) (hL2 : L ≤ 960) : ∃ h', Mo_take h 94 a o = some (h', 0) ∧ fr_ h h' (fun x => 120 ≤ x ∧ x ≤ 123) ∧ hf_ h h' 0 ∧ (∀ p, 0 ≤ p → p < T 0 1 → rd_ h' 120 p = V 0 p ∧ rd_ h' 122 p = V 1 p) ∧ (∀ p k, 0 ≤ p → p < T 0 1 → 0 ≤ k → k < V 0 p → rd_ h' 121 (5 * p + k) = V 3 (5 * p + k)) ∧ ∀ j, 0 ≤ j → j < T 0 2 → rd_ h' 123 j = V 4 j := by
  obtain ⟨g1, g2, g3⟩ := g
  have v0 := v.1
  obtain ⟨ha', a1, a2, a3, a4⟩ := Mo_take_lp1 ha h0 hL hL2 4 0 h s hl (by omega) (by omega)
  obtain ⟨hb, b1, b2, b3, b4⟩ := Mo_take_lp2 ha h0 hL hL2 20 0 ha' (ShM_of a2.1 s) (by rw [fr_ln a2]; exact hl) (by omega) (by omega)
  have F : fr_ h hb (fun x => 120 ≤ x ∧ x ≤ 123) := fr_tr (fr_mo a2 (fun a q => by omega)) (fr_mo b2 (fun a q => by omega))
  have ea : ∀ x, rd_ ha' a x = rd_ h a x := fun x => a2.2 a (by omega) x
  refine ⟨hb, by rw [Mo_take_e, a1, b1], F, ⟨?_, ?_, ?_⟩, ?_, ?_, ?_⟩
  · intro z x p q
    rcases p with p | p | p <;> subst p
    · rw [b3, if_neg (by omega), a2.2 121 (by omega)]
    · rw [b4, if_neg (by omega), a2.2 123 (by omega)]
    · exact F.2 124 (by omega) x
  · intro z x p q
    rcases p with p | p | p <;> subst p
    · rw [b2.2 120 (by omega), a3, if_neg (by omega)]
    · rw [b2.2 122 (by omega), a4, if_neg (by omega)]
    · exact F.2 125 (by omega) x
  · intro z x p q
    exact F.2 z (by omega) x
  · intro p x y
    rw [b2.2 120 (by omega), b2.2 122 (by omega), a3, a4, if_pos (by omega), if_pos (by omega)]
    exact g1 p x y
  · intro p k x y z u
    have := v.2.1 p x y
    rw [b3, if_pos (by omega), ea]
    exact g2 p k x y z u
  · intro j x y
    rw [b4, if_pos (by omega), ea]
    exact g3 j x y
end
