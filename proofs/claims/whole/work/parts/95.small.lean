/-! fault, maid, plate, on both sides -/
section
variable {h : am_H} {T W I : Tx} {U : Int → Tx} {Q : Tx}
def fau_ (Q : Tx) (k : Int) : Int := if k = 0 then Q 4 5 else if k = 1 then Q 4 6 else -1
theorem Pp_fault_s (g : CI h T W I U Q) (k : Int) : Pp_fault h 0 k = some (h, fau_ Q k) := by
  obtain ⟨-, -, -, -, -, -, -, fa, -⟩ := g
  rw [Pp_fault_e, fa.1, fa.2]
  unfold fau_
  by_cases c : k = 0
  · rw [if_neg (by omega), if_pos c]
    repeat rw [ck_t (by omega)]
  · rw [if_pos c, if_neg c]
    by_cases c1 : k = 1
    · rw [if_neg (by omega), if_pos c1]
      repeat rw [ck_t (by omega)]
    · rw [if_pos c1, if_neg c1]
theorem Mo_fault_s (g0 : MN h T W I U Q) (v : WV T W) (k : Int) : Mo_fault h 94 k = some (wr_ h 94 2 0, fau_ Q k) := by
  obtain ⟨-, -, -, -, -, -, -, -, -, -, fa, -⟩ := MN_q g0 v (Mq_2 h 0)
  rw [Mo_fault_e, fa.1, fa.2]
  unfold fau_
  repeat rw [ck_t (by omega)]
  by_cases c : k = 0
  · rw [if_neg (by omega), if_pos c]
  · rw [if_pos c, if_neg c]
    by_cases c1 : k = 1
    · rw [if_neg (by omega), if_pos c1]
    · rw [if_pos c1, if_neg c1]
def mai_ (T W : Tx) (m x : Int) : Int := if 0 ≤ m ∧ m < T 0 0 then (if x = 0 then T 2 m else if x = 1 then W 2 m else -1) else -1
theorem Pp_maid_s (g : CI h T W I U Q) (v : WV T W) (m x : Int) : Pp_maid h 0 m x = some (h, mai_ T W m x) := by
  have w := g.2.2.1
  have v0 := v.1
  obtain ⟨t, cb, ct⟩ := CI_B g
  have ht := ct.1
  obtain ⟨-, -, -, s8, -, -, -, -, -, -, -, l3, -⟩ := id w.1
  obtain ⟨-, -, -, t8, -, -, -, -, -, -, -, -, -, m11, -⟩ := id ct.2.2.2.1.1
  rw [Pp_maid_e]
  simp only [cr0_7 g.1, ct.2.1, s8, l3, t8, m11]
  repeat rw [ck_t (by omega)]
  unfold mai_
  by_cases c : 0 ≤ m ∧ m < T 0 0
  · have e2 := w.2.2.2.2.1 m c.1 c.2
    have e1 := (ct.2.2.2.1.2.2.1 m c.1 c.2).2
    rw [Wo_hasMaid_t w c.1 c.2, bd_v, if_neg (by omega), if_pos c]
    simp only [cr0_7 g.1, ct.2.1, s8, l3, t8, m11, e1, e2]
    by_cases c0 : x < 0
    · rw [if_pos c0, if_neg (by omega), if_neg (by omega)]
    · rw [if_neg c0]
      by_cases c1 : x ≤ 1
      · rw [if_pos c1]
        by_cases c2 : x = 0
        · rw [if_neg (by omega), if_pos c2]
          repeat rw [ck_t (by omega)]
        · rw [if_pos c2, if_neg c2, if_pos (by omega)]
          repeat rw [ck_t (by omega)]
      · rw [if_neg c1, if_neg (by omega), if_neg (by omega)]
  · rw [Wo_hasMaid_f w c, bd_v, if_pos rfl, if_neg c]
theorem Mo_maid_s (g0 : MN h T W I U Q) (v : WV T W) (m x : Int) : Mo_maid h 94 m x = some (wr_ h 94 2 0, mai_ T W m x) := by
  have v0 := v.1
  have g := MN_q g0 v (Mq_2 h 0)
  rw [Mo_maid_e]
  repeat rw [ck_t (by omega)]
  unfold mai_
  by_cases c : 0 ≤ m ∧ m < T 0 0
  · have e2 : rd_ (wr_ h 94 2 0) 125 m = W 2 m := by have := g.2.2.2.1.2.2.2.1 m c.1 c.2; simpa using this
    have e1 := g.2.1.2.2.1 m c.1 c.2
    rw [Mo_isMaid_t g.2.1 c.1 c.2, bd_v, if_pos (by omega), if_pos c]
    simp only [mr57 g.1, ml125 g.1, mr25 g.1, ml100 g.1, e1, e2]
    by_cases c2 : x = 0
    · rw [if_neg (by omega), if_pos c2]
      repeat rw [ck_t (by omega)]
    · rw [if_pos c2, if_neg c2]
      by_cases c3 : x = 1
      · rw [if_neg (by omega), if_pos c3]
        repeat rw [ck_t (by omega)]
      · rw [if_pos c3, if_neg c3]
  · rw [Mo_isMaid_f g.2.1 c, bd_v, if_neg (by omega), if_neg c]
def pla_ (T W : Tx) (p k x : Int) : Int := if (0 ≤ p ∧ p < T 0 1) ∧ (0 ≤ k ∧ k ≤ 4) ∧ 0 ≤ x ∧ x ≤ 3 then (if k < W 0 p then (if x = 0 then W 3 (5 * p + k) else if x = 1 then T 5 (W 3 (5 * p + k)) else if x = 2 then W 4 (W 3 (5 * p + k)) else W 5 (W 3 (5 * p + k))) else -2) else -1
theorem Pp_plate_s (g : CI h T W I U Q) (v : WV T W) (p k x : Int) : Pp_plate h 0 p k x = some (h, pla_ T W p k x) := by
  have w := g.2.2.1
  have v0 := v.1
  obtain ⟨-, -, -, -, -, s10, s11, s12, -, -, -, -, -, l5, l6, l7, -⟩ := id w.1
  rw [Pp_plate_e]
  simp only [cr0_7 g.1]
  repeat rw [ck_t (by omega)]
  unfold pla_
  by_cases c : 0 ≤ p ∧ p < T 0 1
  · rw [Wo_hasPile_t w c.1 c.2, bd_v, if_neg (by omega)]
    simp only [cr0_7 g.1]
    by_cases c1 : k < 0
    · rw [if_pos c1, if_neg (by omega)]
    · rw [if_neg c1]
      by_cases c2 : 5 ≤ k
      · rw [if_pos c2, if_neg (by omega)]
      · rw [if_neg c2]
        by_cases c3 : x < 0
        · rw [if_pos c3, if_neg (by omega)]
        · rw [if_neg c3]
          by_cases c4 : x ≤ 3
          · rw [if_pos c4, if_pos (by omega)]
            repeat rw [ck_t (by omega)]
            rw [Wo_plateAt_s w v, bd_v]
            by_cases c5 : k < W 0 p
            · obtain ⟨q1, q2, q3⟩ := Pa_in v c.1 c.2 (by omega) c5
              rw [q1, if_pos q2, if_pos c5]
              simp only [cr0_7 g.1, s10, s11, s12, l5, l6, l7, w.2.2.2.2.2.2.1 _ q2 q3, w.2.2.2.2.2.2.2.1 _ q2 q3, w.2.2.2.2.2.2.2.2 _ q2 q3]
              by_cases x0 : x = 0
              · rw [if_pos x0, if_pos x0]
              · rw [if_neg x0, if_neg x0]
                by_cases x1 : x = 1
                · rw [if_pos x1, if_pos x1]
                  repeat rw [ck_t (by omega)]
                · rw [if_neg x1, if_neg x1]
                  by_cases x2 : x = 2
                  · rw [if_pos x2, if_pos x2]
                    repeat rw [ck_t (by omega)]
                  · rw [if_neg x2, if_neg x2]
                    repeat rw [ck_t (by omega)]
            · have e : Pa T W p k = -1 := by unfold Pa; rw [if_neg (by omega)]
              rw [e, if_neg (by omega), if_neg c5]
          · rw [if_neg c4, if_neg (by omega)]
  · rw [Wo_hasPile_f w c, bd_v, if_pos rfl, if_neg (fun q => c q.1)]
theorem Mo_plate_s (g0 : MN h T W I U Q) (v : WV T W) (p k x : Int) : Mo_plate h 94 p k x = some (wr_ h 94 2 0, pla_ T W p k x) := by
  have v0 := v.1
  have g := MN_q g0 v (Mq_2 h 0)
  rw [Mo_plate_e]
  repeat rw [ck_t (by omega)]
  unfold pla_
  by_cases c : 0 ≤ p ∧ p < T 0 1
  · rw [Mo_isPile_t g.2.1 c.1 c.2, bd_v, if_neg (by omega)]
    by_cases c2 : 0 ≤ k ∧ k ≤ 4
    · rw [Mo_isIn_t c2.1 c2.2, bd_v, if_neg (by omega)]
      by_cases c3 : 0 ≤ x ∧ x ≤ 3
      · rw [Mo_isIn_t c3.1 c3.2, bd_v, if_pos (by omega), if_pos ⟨c, c2, c3⟩]
        repeat rw [ck_t (by omega)]
        rw [Mo_plateAt_s g.1 g.2.2.2.1 v c.1 c.2, bd_v]
        by_cases c5 : k < W 0 p
        · obtain ⟨q1, q2, q3⟩ := Pa_in v c.1 c.2 (by omega) c5
          have e4 : rd_ (wr_ h 94 2 0) 123 (W 3 (5 * p + k)) = W 4 (W 3 (5 * p + k)) := by have := g.2.2.2.1.2.2.2.2.2.1 _ q2 q3; simpa using this
          have e5 : rd_ (wr_ h 94 2 0) 124 (W 3 (5 * p + k)) = W 5 (W 3 (5 * p + k)) := by have := g.2.2.2.1.2.2.2.2.2.2.1 _ q2 q3; simpa using this
          have e6 := g.2.1.2.2.2.2.2.2.1 _ q2 q3
          have v5 := (v.2.2.2.2.2.2.1 _ q2 q3).2
          rw [q1, if_pos q2, if_pos c5]
          simp only [mr29 g.1, mr55 g.1, mr56 g.1, ml104 g.1, ml123 g.1, ml124 g.1, e4, e5, e6]
          by_cases x0 : x = 0
          · rw [if_pos x0, if_pos x0]
          · rw [if_neg x0, if_neg x0]
            by_cases x1 : x = 1
            · rw [if_pos x1, if_pos x1]
              repeat rw [ck_t (by omega)]
            · rw [if_neg x1, if_neg x1]
              by_cases x2 : x = 2
              · rw [if_pos x2, if_pos x2]
                repeat rw [ck_t (by omega)]
              · rw [if_neg x2, if_neg x2]
                repeat rw [ck_t (by omega)]
                rcases v5 with e | e
                · rw [e, if_pos rfl]
                · rw [e, if_neg (by omega)]
        · have e : Pa T W p k = -1 := by unfold Pa; rw [if_neg (by omega)]
          rw [e, if_neg (by omega), if_neg c5]
      · rw [Mo_isIn_f c3, bd_v, if_neg (by omega), if_neg (fun q => c3 q.2.2)]
    · rw [Mo_isIn_f c2, bd_v, if_pos rfl, if_neg (fun q => c2 q.2.1)]
  · rw [Mo_isPile_f g.2.1 c, bd_v, if_pos rfl, if_neg (fun q => c q.1)]
end
