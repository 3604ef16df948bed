/-! pile, on both sides; the class throws where it isn't fit: there its answer is none -/
section
variable {h : am_H} {T W I : Tx} {U : Int → Tx} {Q : Tx}
def pil_ (T W : Tx) (p x : Int) : Int := if x = 0 then W 0 p else if x = 1 then bz (Rt T W p) else if x = 2 then bz (Pr T W p) else if x = 3 then Gp T W p else W 1 p
theorem bz_if (b : Bool) (h : am_H) : (if bz b = 0 then some (h, (0 : Int)) else some (h, 1)) = some (h, bz b) := by cases b <;> rfl
theorem Pp_pile_t (g : CI h T W I U Q) (v : WV T W) {p x : Int} (c1 : 0 ≤ p) (c2 : p < T 0 1) (c3 : 0 ≤ x) (c4 : x ≤ 4) : Pp_pile h 0 p x = some (h, pil_ T W p x) := by
  have w := g.2.2.1
  have v0 := v.1
  have y0 := w.2.2.1 p c1 c2
  have y1 := w.2.2.2.1 p c1 c2
  obtain ⟨-, s6, s7, -, -, -, -, -, -, l1, l2, -⟩ := id w.1
  rw [Pp_pile_e]
  simp only [cr0_7 g.1]
  repeat rw [ck_t (by omega)]
  rw [Wo_hasPile_t w c1 c2, bd_v, if_pos (by omega)]
  simp only [cr0_7 g.1, s6, s7, l1, l2, y0, y1, Wo_isRight_s w v c1 c2, Wo_isProper_s w v c1 c2, Wo_gaps_s w v c1 c2, bd_v, bz_if]
  unfold pil_
  by_cases x0 : x = 0
  · rw [if_pos x0, if_pos x0]
    repeat rw [ck_t (by omega)]
  · rw [if_neg x0, if_neg x0]
    by_cases x1 : x = 1
    · rw [if_pos x1, if_pos x1]
      repeat rw [ck_t (by omega)]
    · rw [if_neg x1, if_neg x1]
      by_cases x2 : x = 2
      · rw [if_pos x2, if_pos x2]
        repeat rw [ck_t (by omega)]
      · rw [if_neg x2, if_neg x2]
        by_cases x3 : x = 3
        · rw [if_pos x3, if_pos x3]
          repeat rw [ck_t (by omega)]
        · rw [if_neg x3, if_neg x3, if_pos (by omega)]
          repeat rw [ck_t (by omega)]
theorem Mo_pile_t (g0 : MN h T W I U Q) (v : WV T W) {p x : Int} (c1 : 0 ≤ p) (c2 : p < T 0 1) (c3 : 0 ≤ x) (c4 : x ≤ 4) : Mo_pile h 94 p x = some (wr_ h 94 2 0, pil_ T W p x) := by
  have v0 := v.1
  have g := MN_q g0 v (Mq_2 h 0)
  have o := g.2.2.2.1
  have y0 : rd_ (wr_ h 94 2 0) 120 p = W 0 p := by have := o.2.1 p c1 c2; simpa using this
  have y1 : rd_ (wr_ h 94 2 0) 122 p = W 1 p := by have := o.2.2.1 p c1 c2; simpa using this
  rw [Mo_pile_e]
  repeat rw [ck_t (by omega)]
  rw [Mo_isPile_t g.2.1 c1 c2, bd_v, if_pos (by omega)]
  simp only [mr52 g.1, mr54 g.1, ml120 g.1, ml122 g.1, y0, y1, Mo_isRight_s g.1 g.2.1 o v c1 c2, Mo_isProper_s g.1 g.2.1 o v c1 c2, Mo_gapsOf_s g.1 g.2.1 o v c1 c2, bd_v, bz_if]
  unfold pil_
  by_cases x0 : x = 0
  · rw [if_pos x0, if_pos x0]
    repeat rw [ck_t (by omega)]
  · rw [if_neg x0, if_neg x0]
    by_cases x1 : x = 1
    · rw [if_pos x1, if_pos x1]
      repeat rw [ck_t (by omega)]
    · rw [if_neg x1, if_neg x1]
      by_cases x2 : x = 2
      · rw [if_pos x2, if_pos x2]
        repeat rw [ck_t (by omega)]
      · rw [if_neg x2, if_neg x2]
        by_cases x3 : x = 3
        · rw [if_pos x3, if_pos x3]
          repeat rw [ck_t (by omega)]
        · rw [if_neg x3, if_neg x3, if_pos (by omega)]
          repeat rw [ck_t (by omega)]
/-- no such pile: 1; a pile, and nothing of that number to tell: 2 -/
theorem Mo_pile_1 (g0 : MN h T W I U Q) (v : WV T W) {p x : Int} (c : ¬ (0 ≤ p ∧ p < T 0 1)) : Mo_pile h 94 p x = some (wr_ (wr_ h 94 2 0) 94 2 1, 0) := by
  have g := MN_q g0 v (Mq_2 h 0)
  rw [Mo_pile_e]
  repeat rw [ck_t (by omega)]
  rw [Mo_isPile_f g.2.1 c, bd_v, if_neg (by omega), ck_t (by omega), Mo_fails_e, ck_t (by omega), bd_v]
theorem Mo_pile_2 (g0 : MN h T W I U Q) (v : WV T W) {p x : Int} (c1 : 0 ≤ p) (c2 : p < T 0 1) (c3 : ¬ (0 ≤ x ∧ x ≤ 4)) : Mo_pile h 94 p x = some (wr_ (wr_ h 94 2 0) 94 2 2, 0) := by
  have g := MN_q g0 v (Mq_2 h 0)
  rw [Mo_pile_e]
  repeat rw [ck_t (by omega)]
  rw [Mo_isPile_t g.2.1 c1 c2, bd_v, if_pos (by omega), if_neg (by omega), if_neg (by omega), if_neg (by omega), if_neg (by omega), if_neg (by omega), ck_t (by omega), Mo_fails_e, ck_t (by omega), bd_v]
end
