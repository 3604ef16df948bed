/-! a plate is put on another pile, in the reference -/
/-- whether a pile has a plate of that size -/
def hz_ (T W : Tx) (q x : Int) : Bool := av_ (fun k => decide (Zs T W q k ≠ x)) (W 0 q).toNat 0
theorem hz_t {T W : Tx} {q x : Int} (h : hz_ T W q x = true) : ∀ k, 0 ≤ k → k < W 0 q → Zs T W q k ≠ x := by
  intro k a b
  unfold hz_ at h
  rw [av_iff] at h
  exact of_decide_eq_true (h k a (by omega))
theorem Wo_hasSize_s {h : am_H} {w : Int} {T W : Tx} (o : WO h w T W) (v : WV T W) {q : Int} (h1 : 0 ≤ q) (h2 : q < T 0 1) (x : Int) : Wo_hasSize h w q x = some (h, if hz_ T W q x then 0 else 1) := by
  obtain ⟨⟨w0, s6, -, -, -, -, -, -, -, l1, -⟩, -, f1, -⟩ := id o
  have v0 := v.1
  have bq := v.2.1 q h1 h2
  have yq := f1 q h1 h2
  rw [Wo_hasSize_e, av_lp (L := Wo_hasSize_1 h w q x) (P := fun k => decide (Zs T W q k ≠ x)) (N := W 0 q) (k0 := 0) (yes := some (h, 0)) (no := some (h, 1)) ?_ ?_ (W 0 q).toNat 0 (by omega) (by omega)]
  · unfold hz_
    cases av_ (fun k => decide (Zs T W q k ≠ x)) (W 0 q).toNat 0 <;> rfl
  · intro k hk hN
    rw [Wo_hasSize_1_e]
    simp only [s6, l1, yq]
    repeat rw [ck_t (by omega)]
    rw [if_neg (by omega)]
    repeat rw [ck_t (by omega)]
    rw [Wo_sizeAt_s o v, bd_v, w32_i (by omega) (by omega)]
    by_cases c : Zs T W q k = x
    · rw [if_neg (by omega), if_neg (by rw [decide_eq_false (by omega)]; decide)]
    · rw [if_pos c, if_pos (decide_eq_true c)]
  · rw [Wo_hasSize_1_e]
    simp only [s6, l1, yq]
    repeat rw [ck_t (by omega)]
    rw [if_pos (by omega)]
theorem Mo_up {p q : Int} (pl : Int) {n0 : Int} (p0 : 0 ≤ p) (p4 : p < 4) (q0 : 0 ≤ q) (q4 : q < 4) (n5 : n0 ≤ 5) : ∀ (n : Nat) (h : am_H) (k : Int), ShM h → rd_ h 120 p = n0 → 1 ≤ k → k + n = n0 →
    ∃ h', Mo_move_13 h 94 p q pl k = Mo_move_13 h' 94 p q pl n0 ∧ fr_ h h' (fun a => a = 121) ∧ ∀ i, rd_ h' 121 i = if 5 * p + k - 1 ≤ i ∧ i < 5 * p + n0 - 1 then rd_ h 121 (i + 1) else rd_ h 121 i := by
  intro n
  induction n with
  | zero =>
    intro h k s e hk hn
    have : k = n0 := by omega
    subst this
    exact ⟨h, rfl, fr_refl _ _, fun i => by rw [if_neg (by omega)]⟩
  | succ n ih =>
    intro h k s e hk hn
    rw [Mo_move_13_e]
    simp only [mr52 s, ml120 s, mr53 s, ml121 s, e]
    simp (disch := omega) only [w32_i]
    repeat rw [ck_t (by omega)]
    rw [if_neg (by omega)]
    repeat rw [ck_t (by omega)]
    obtain ⟨h', i1, i2, i3⟩ := ih (wr_ h 121 (5 * p + k - 1) (rd_ h 121 (5 * p + k))) (k + 1) (ShM_of rfl s) (by rw [rd_wo (by omega)]; exact e) (by omega) (by omega)
    refine ⟨h', i1, fr_tr (fr_wr rfl) i2, ?_⟩
    intro i
    rw [i3]
    simp only [rd_wa]
    repeat' split
    all_goals first | omega | rfl | (congr 1; omega)
theorem Mo_down {q : Int} (pl : Int) (q0 : 0 ≤ q) (q4 : q < 4) : ∀ (n : Nat) (h : am_H), ShM h → n ≤ 4 →
    ∃ h', Mo_move_16 h 94 q pl n = Mo_move_16 h' 94 q pl 0 ∧ fr_ h h' (fun a => a = 121) ∧ ∀ i, rd_ h' 121 i = if 5 * q + 1 ≤ i ∧ i ≤ 5 * q + n then rd_ h 121 (i - 1) else rd_ h 121 i := by
  intro n
  induction n with
  | zero =>
    intro h s hn
    exact ⟨h, rfl, fr_refl _ _, fun i => by rw [if_neg (by omega)]⟩
  | succ n ih =>
    intro h s hn
    rw [Mo_move_16_e]
    simp only [mr53 s, ml121 s]
    simp (disch := omega) only [w32_i]
    rw [if_neg (by omega), show ((n + 1 : Nat) : Int) + -1 = (n : Int) by omega]
    repeat rw [ck_t (by omega)]
    obtain ⟨h', i1, i2, i3⟩ := ih (wr_ h 121 (5 * q + ((n + 1 : Nat) : Int)) (rd_ h 121 (5 * q + ((n + 1 : Nat) : Int) - 1))) (ShM_of rfl s) (by omega)
    refine ⟨h', i1, fr_tr (fr_wr rfl) i2, ?_⟩
    intro i
    rw [i3]
    simp only [rd_wa]
    repeat' split
    all_goals first | omega | rfl | (congr 1; omega)
section
variable {h : am_H} {T W : Tx} {p q : Int}
theorem Mo_moved_s (s : ShM h) (o : MW h 0 T W) (v : WV T W) (h1 : 0 ≤ p) (h2 : p < T 0 1) (h3 : 0 ≤ q) (h4 : q < T 0 1) (ne : p ≠ q) (hp : 1 ≤ W 0 p) (hq : W 0 q < 5) : ∃ h', Mo_move_13 h 94 p q (W 3 (5 * p)) 1 = some (h', W 0 q + 1) ∧ MW h' 0 T (Mv W p q) ∧ fr_ h h' (fun a => a = 120 ∨ a = 121) ∧ hf_ h h' 0 := by
  have v0 := v.1
  have v1 := v.2.1
  obtain ⟨b0, g0, g1, g2, g3, g4, g5, g6, g7⟩ := id o
  have yp : rd_ h 120 p = W 0 p := by have := g0 p h1 h2; simpa using this
  have yq : rd_ h 120 q = W 0 q := by have := g0 q h3 h4; simpa using this
  have bp := v1 p h1 h2
  have bq := v1 q h3 h4
  have G3 : ∀ r k, 0 ≤ r → r < T 0 1 → 0 ≤ k → k < W 0 r → rd_ h 121 (5 * r + k) = W 3 (5 * r + k) := fun r k x y z u => by have := g3 r k x y z u; simpa using this
  obtain ⟨ha, a1, a2, a3⟩ := Mo_up (p := p) (q := q) (W 3 (5 * p)) (n0 := W 0 p) h1 (by omega) h3 (by omega) (by omega) (W 0 p - 1).toNat h 1 s yp (by omega) (by omega)
  have sa := ShM_of a2.1 s
  have ypa : rd_ ha 120 p = W 0 p := by rw [a2.2 120 (by omega)]; exact yp
  have yqa : rd_ ha 120 q = W 0 q := by rw [a2.2 120 (by omega)]; exact yq
  obtain ⟨hb, b1, b2, b3⟩ := Mo_down (q := q) (W 3 (5 * p)) h3 (by omega) (W 0 q).toNat (wr_ ha 120 p (W 0 p - 1)) (ShM_of rfl sa) (by omega)
  have sb : ShM hb := ShM_of b2.1 (ShM_of rfl sa)
  have yqb : rd_ hb 120 q = W 0 q := by rw [b2.2 120 (by omega), rd_wk (by omega)]; exact yqa
  have F : fr_ h (wr_ (wr_ hb 121 (5 * q) (W 3 (5 * p))) 120 q (W 0 q + 1)) (fun a => a = 120 ∨ a = 121) := fr_tr (fr_mo a2 (fun a q => Or.inr q)) (fr_tr (fr_wr (Or.inl rfl)) (fr_tr (fr_mo b2 (fun a q => Or.inr q)) (fr_tr (fr_wr (Or.inr rfl)) (fr_wr (Or.inl rfl)))))
  have R1 : ∀ i, rd_ (wr_ (wr_ hb 121 (5 * q) (W 3 (5 * p))) 120 q (W 0 q + 1)) 121 i = if i = 5 * q then W 3 (5 * p) else if 5 * q + 1 ≤ i ∧ i ≤ 5 * q + W 0 q then (if 5 * p ≤ i - 1 ∧ i - 1 < 5 * p + W 0 p - 1 then rd_ h 121 (i - 1 + 1) else rd_ h 121 (i - 1)) else (if 5 * p ≤ i ∧ i < 5 * p + W 0 p - 1 then rd_ h 121 (i + 1) else rd_ h 121 i) := by
    intro i
    rw [rd_wo (by omega), rd_wa, b3, rd_wo (by omega), rd_wo (by omega), a3, a3, show (((W 0 q).toNat : Nat) : Int) = W 0 q by omega, show 5 * p + 1 - 1 = 5 * p by omega]
  refine ⟨wr_ (wr_ hb 121 (5 * q) (W 3 (5 * p))) 120 q (W 0 q + 1), ?_, ⟨Or.inl rfl, ?_, ?_, ?_, ?_, ?_, ?_, ?_, ?_⟩, F, ⟨?_, ?_, ?_⟩⟩
  · rw [a1, Mo_move_13_e]
    simp only [mr52 sa, ml120 sa, ypa]
    repeat rw [ck_t (by omega)]
    rw [if_pos (by omega)]
    repeat rw [ck_t (by omega)]
    rw [w32_i (by omega) (by omega), rd_wk (by omega), yqa, show W 0 q = (((W 0 q).toNat : Nat) : Int) by omega, b1, Mo_move_16_e]
    simp only [mr52 sb, mr53 sb, ml120 sb, ml121 sb]
    simp (disch := omega) only [w32_i]
    rw [if_pos (by omega)]
    repeat rw [ck_t (by omega)]
    rw [rd_wo (by omega), yqb, w32_i (by omega) (by omega), rd_ws, show (((W 0 q).toNat : Nat) : Int) = W 0 q by omega]
  · intro r x y
    rw [show 4 * (0 : Int) + r = r by omega, rd_wa, Mv_0]
    by_cases c1 : r = q
    · rw [if_pos c1, if_neg (by omega), if_pos c1]
    · rw [if_neg c1, rd_wo (by omega), b2.2 120 (by omega), rd_wa]
      by_cases c2 : r = p
      · rw [if_pos c2, if_pos c2]
      · rw [if_neg c2, if_neg c2, if_neg c1, a2.2 120 (by omega)]
        have := g0 r x y
        simpa using this
  · intro r x y
    rw [F.2 122 (by omega)]; exact g1 r x y
  · intro r x y
    rw [F.2 125 (by omega)]; exact g2 r x y
  · intro r k x y z u
    obtain ⟨e, m1, m2, m3, m4⟩ := Mv_3b v h1 h2 h3 h4 ne hp hq x y z u
    rw [e, ← G3 _ _ m1 m2 m3 m4, show 20 * (0 : Int) + (5 * r + k) = 5 * r + k by omega, R1]
    have br := v1 r x y
    rw [Mv_0] at u
    have fp : rd_ h 121 (5 * p + 0) = W 3 (5 * p) := by rw [G3 p 0 h1 h2 (by omega) (by omega), Int.add_zero]
    unfold mP mK
    by_cases c1 : r = p
    · subst c1
      rw [if_pos rfl] at u
      rw [if_neg (by omega), if_neg (by omega), if_pos (by omega), if_neg (by omega), if_pos rfl]
      congr 1
      omega
    · rw [if_neg c1] at u
      by_cases c2 : r = q
      · subst c2
        rw [if_pos rfl] at u
        by_cases c3 : k = 0
        · subst c3
          rw [if_pos (by omega), if_pos (by omega), if_neg c1, if_pos rfl, if_pos rfl, fp]
        · rw [if_neg (by omega), if_pos (by omega), if_neg (by omega), if_neg (by omega), if_neg c1, if_pos rfl, if_neg c3]
          congr 1
          omega
      · rw [if_neg c2] at u
        rw [if_neg (by omega), if_neg (by omega), if_neg (by omega), if_neg (by omega), if_neg c1, if_neg c2]
  · intro j x y
    rw [F.2 123 (by omega)]; exact g4 j x y
  · intro j x y
    rw [F.2 124 (by omega)]; exact g5 j x y
  · rw [F.2 127 (by omega)]; exact g6
  · rw [F.2 126 (by omega)]; exact g7
  · intro a x e f
    rcases e with e | e | e <;> subst e
    · rw [R1, if_neg (by omega), if_neg (by omega), if_neg (by omega)]
    · exact F.2 123 (by omega) x
    · exact F.2 124 (by omega) x
  · intro a x e f
    rcases e with e | e | e <;> subst e
    · rw [rd_wk (by omega), rd_wo (by omega), b2.2 120 (by omega), rd_wk (by omega), a2.2 120 (by omega)]
    · exact F.2 122 (by omega) x
    · exact F.2 125 (by omega) x
  · intro a x e f
    exact F.2 a (by omega) x
theorem Mo_moveChk (s : ShM h) (t : MT h T) (o : MW h 0 T W) (v : WV T W) (h1 : 0 ≤ p) (h2 : p < T 0 1) (h3 : 0 ≤ q) (h4 : q < T 0 1) : Mo_move_8 h 94 p q 0 = if hz_ T W q (Zs T W p 0) then Mo_move_8 h 94 p q (W 0 q) else some (h, -2) := by
  have v0 := v.1
  have bq := v.2.1 q h3 h4
  have yq : rd_ h 120 q = W 0 q := by have := o.2.1 q h3 h4; simpa using this
  exact av_lp (L := Mo_move_8 h 94 p q) (P := fun k => decide (Zs T W q k ≠ Zs T W p 0)) (N := W 0 q) (k0 := 0) (yes := Mo_move_8 h 94 p q (W 0 q)) (no := some (h, -2)) (by
    intro k hk hN
    rw [Mo_move_8_e]
    simp only [mr52 s, ml120 s, yq]
    repeat rw [ck_t (by omega)]
    rw [if_neg (by omega)]
    repeat rw [ck_t (by omega)]
    rw [Mo_sizeAt_s s t o v h3 h4, bd_v, ck_t (by omega), Mo_sizeAt_s s t o v h1 h2, bd_v, w32_i (by omega) (by omega)]
    by_cases c : Zs T W q k = Zs T W p 0
    · rw [if_neg (by omega), if_neg (by rw [decide_eq_false (by omega)]; decide)]
    · rw [if_pos c, if_pos (decide_eq_true c)]) rfl (W 0 q).toNat 0 (by omega) (by omega)
end
