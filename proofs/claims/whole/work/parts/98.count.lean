/-! count, on both sides -/
section
variable {h : am_H} {T W I : Tx} {U : Int → Tx} {Q : Tx}
def cnt_ (T W Q : Tx) (x : Int) : Int := if x = 0 then T 0 0 else if x = 1 then T 0 1 else if x = 2 then T 0 2 else if x = 3 then T 0 3 else if x = 4 then T 0 4 else if x = 5 then W 6 0 else if x = 6 then Rm T W else if x = 7 then Pm T W else if x = 8 then Gm T W else if x = 9 then Cm T W else if x = 10 then W 6 1 else if x = 11 then Tm T W else if x = 12 then Fm T W else if x = 13 then Q 4 0 else if x = 14 then kw_ Q else if x = 15 then Q 4 2 else -1
theorem Pp_count_s (g : CI h T W I U Q) (v : WV T W) (x : Int) : Pp_count h 0 x = some (h, cnt_ T W Q x) := by
  have w := g.2.2.1
  obtain ⟨t, cb, ct⟩ := CI_B g
  have ht := ct.1
  have d := g.2.2.2.2.2.2.2.2.2.1
  have se : SE h Q := g.2.2.2.2.2.2.2.2.1
  have tt : Se_total h 83 = some (h, Q 4 0) := by rw [Se_total_e, ck_t (by omega), se.1]
  obtain ⟨e0, e1, e2, e3, e4, -⟩ := id w.2.1
  have t1 := ct.2.2.2.1.2.1.2.1
  have t3 := ct.2.2.2.1.2.1.2.2.2
  rw [Pp_count_e]
  simp only [cr0_7 g.1, cr0_13 g.1, cr0_14 g.1, ct.2.1, Wo_rightPiles_s w v, Wo_properPiles_s w v, Wo_gapsOfAll_s w v, Wo_chippedPlates_s w v, Wo_tiredOfAll_s w v, Wo_facesDown_s w v, tt, Se_knownBy_s se, Do_left_s d, bd_v, e0, e1, e2, e3, e4, t1, t3]
  unfold cnt_
  by_cases c0 : x = 0
  · rw [if_pos c0, if_pos c0]
    repeat rw [ck_t (by omega)]
  · rw [if_neg c0, if_neg c0]
    by_cases c1 : x = 1
    · rw [if_pos c1, if_pos c1]
      repeat rw [ck_t (by omega)]
    · rw [if_neg c1, if_neg c1]
      by_cases c2 : x = 2
      · rw [if_pos c2, if_pos c2]
        repeat rw [ck_t (by omega)]
      · rw [if_neg c2, if_neg c2]
        by_cases c3 : x = 3
        · rw [if_pos c3, if_pos c3]
          repeat rw [ck_t (by omega)]
        · rw [if_neg c3, if_neg c3]
          by_cases c4 : x = 4
          · rw [if_pos c4, if_pos c4]
            repeat rw [ck_t (by omega)]
          · rw [if_neg c4, if_neg c4]
            by_cases c5 : x = 5
            · rw [if_pos c5, if_pos c5]
              repeat rw [ck_t (by omega)]
            · rw [if_neg c5, if_neg c5]
              by_cases c6 : x = 6
              · rw [if_pos c6, if_pos c6]
                repeat rw [ck_t (by omega)]
              · rw [if_neg c6, if_neg c6]
                by_cases c7 : x = 7
                · rw [if_pos c7, if_pos c7]
                  repeat rw [ck_t (by omega)]
                · rw [if_neg c7, if_neg c7]
                  by_cases c8 : x = 8
                  · rw [if_pos c8, if_pos c8]
                    repeat rw [ck_t (by omega)]
                  · rw [if_neg c8, if_neg c8]
                    by_cases c9 : x = 9
                    · rw [if_pos c9, if_pos c9]
                      repeat rw [ck_t (by omega)]
                    · rw [if_neg c9, if_neg c9]
                      by_cases c10 : x = 10
                      · rw [if_pos c10, if_pos c10]
                        repeat rw [ck_t (by omega)]
                      · rw [if_neg c10, if_neg c10]
                        by_cases c11 : x = 11
                        · rw [if_pos c11, if_pos c11]
                          repeat rw [ck_t (by omega)]
                        · rw [if_neg c11, if_neg c11]
                          by_cases c12 : x = 12
                          · rw [if_pos c12, if_pos c12]
                            repeat rw [ck_t (by omega)]
                          · rw [if_neg c12, if_neg c12]
                            by_cases c13 : x = 13
                            · rw [if_pos c13, if_pos c13]
                              repeat rw [ck_t (by omega)]
                            · rw [if_neg c13, if_neg c13]
                              by_cases c14 : x = 14
                              · rw [if_pos c14, if_pos c14]
                                repeat rw [ck_t (by omega)]
                              · rw [if_neg c14, if_neg c14]
                                by_cases c15 : x = 15
                                · rw [if_pos c15, if_pos c15]
                                  repeat rw [ck_t (by omega)]
                                · rw [if_neg c15, if_neg c15]
theorem Mo_tired_s (s : ShM h) (t : MT h T) (o : MW h 0 T W) (v : WV T W) : Mo_count_13 h 94 0 0 = some (h, Tm T W) := by
  obtain ⟨b0, g0, g1, g2, g3, g4, g5, g6, g7⟩ := id o
  obtain ⟨v0, v1, v2, v3, v4, v5, v6, v7, v8, v9, v10, v11⟩ := id v
  obtain ⟨⟨t0, t1, t2, -⟩, -⟩ := id t
  refine (fo_l0 (L := Mo_count_13 h 94) (f := fun k n => n + W 2 k) (I := fun k n => 0 ≤ k ∧ 0 ≤ n ∧ n ≤ 99999 * k) (N := T 0 0) (by omega) ?_ (by omega)).trans ?_
  · intro k a hk hi
    have q := v8 k hi.1 hk
    have qf : rd_ h 125 k = W 2 k := by have := g2 k hi.1 hk; simpa using this
    refine ⟨?_, by omega⟩
    rw [Mo_count_13_e]
    simp only [mr57 s, ml125 s, t0, qf]
    rw [ck_t (by omega), if_neg (by omega)]
    repeat rw [ck_t (by omega)]
    rw [w32_i (by omega) (by omega), w32_i (by omega) (by omega)]
  · rw [Mo_count_13_e, t0, ck_t (by omega), if_pos (by omega)]
    rfl
theorem Mo_down_s (s : ShM h) (t : MT h T) (o : MW h 0 T W) (v : WV T W) : Mo_count_17 h 94 0 0 = some (h, Fm T W) := by
  obtain ⟨b0, g0, g1, g2, g3, g4, g5, g6, g7⟩ := id o
  obtain ⟨v0, v1, v2, v3, v4, v5, v6, v7, v8, v9, v10, v11⟩ := id v
  obtain ⟨⟨t0, t1, t2, -⟩, -⟩ := id t
  refine (fo_l0 (L := Mo_count_17 h 94) (f := fun k n => n + W 4 k) (I := fun k n => 0 ≤ k ∧ 0 ≤ n ∧ n ≤ 1 * k) (N := T 0 2) (by omega) ?_ (by omega)).trans ?_
  · intro k a hk hi
    have q := (v6 k hi.1 hk).1
    have qf : rd_ h 123 k = W 4 k := by have := g4 k hi.1 hk; simpa using this
    refine ⟨?_, by omega⟩
    rw [Mo_count_17_e]
    simp only [mr55 s, ml123 s, t2, qf]
    rw [ck_t (by omega), if_neg (by omega)]
    repeat rw [ck_t (by omega)]
    rw [w32_i (by omega) (by omega), w32_i (by omega) (by omega)]
  · rw [Mo_count_17_e, t2, ck_t (by omega), if_pos (by omega)]
    rfl
theorem Mo_count_s (g0 : MN h T W I U Q) (sv : SV T W I U Q) (x : Int) : Mo_count h 94 x = some (wr_ h 94 2 0, cnt_ T W Q x) := by
  have v := sv.2.1
  have g := MN_q g0 v (Mq_2 h 0)
  have qm : QM (wr_ h 94 2 0) Q := g.2.2.2.2.2.2.2.2.1
  have o := g.2.2.2.1
  have mu := g.2.2.2.2.2.2.1
  obtain ⟨⟨t0, t1, t2, t3, t4, -⟩, -⟩ := id g.2.1
  obtain ⟨-, -, -, -, -, -, -, o7, o8⟩ := id o
  rw [Mo_count_e, ck_t (by omega)]
  simp only [mr58 g0.1, mr59 g0.1, ml126 g0.1, ml127 g0.1, t0, t1, t2, t3, t4, o7, o8, qm.1, mu.1, Mo_rightMany_s g.1 g.2.1 o v, Mo_properMany_s g.1 g.2.1 o v, Mo_gapsAll_s g.1 g.2.1 o v, Mo_chippedMany_s g.1 g.2.1 o v, Mo_tired_s g.1 g.2.1 o v, Mo_down_s g.1 g.2.1 o v, Mo_knownBy_s qm sv.2.2.2.1, bd_v]
  unfold cnt_
  by_cases c0 : x = 0
  · rw [if_pos c0, if_pos c0]
    repeat rw [ck_t (by omega)]
  · rw [if_neg c0, if_neg c0]
    by_cases c1 : x = 1
    · rw [if_pos c1, if_pos c1]
      repeat rw [ck_t (by omega)]
    · rw [if_neg c1, if_neg c1]
      by_cases c2 : x = 2
      · rw [if_pos c2, if_pos c2]
        repeat rw [ck_t (by omega)]
      · rw [if_neg c2, if_neg c2]
        by_cases c3 : x = 3
        · rw [if_pos c3, if_pos c3]
          repeat rw [ck_t (by omega)]
        · rw [if_neg c3, if_neg c3]
          by_cases c4 : x = 4
          · rw [if_pos c4, if_pos c4]
            repeat rw [ck_t (by omega)]
          · rw [if_neg c4, if_neg c4]
            by_cases c5 : x = 5
            · rw [if_pos c5, if_pos c5]
              repeat rw [ck_t (by omega)]
            · rw [if_neg c5, if_neg c5]
              by_cases c6 : x = 6
              · rw [if_pos c6, if_pos c6]
                repeat rw [ck_t (by omega)]
              · rw [if_neg c6, if_neg c6]
                by_cases c7 : x = 7
                · rw [if_pos c7, if_pos c7]
                  repeat rw [ck_t (by omega)]
                · rw [if_neg c7, if_neg c7]
                  by_cases c8 : x = 8
                  · rw [if_pos c8, if_pos c8]
                    repeat rw [ck_t (by omega)]
                  · rw [if_neg c8, if_neg c8]
                    by_cases c9 : x = 9
                    · rw [if_pos c9, if_pos c9]
                      repeat rw [ck_t (by omega)]
                    · rw [if_neg c9, if_neg c9]
                      by_cases c10 : x = 10
                      · rw [if_pos c10, if_pos c10]
                        repeat rw [ck_t (by omega)]
                      · rw [if_neg c10, if_neg c10]
                        by_cases c11 : x = 11
                        · rw [if_pos c11, if_pos c11]
                          repeat rw [ck_t (by omega)]
                        · rw [if_neg c11, if_neg c11]
                          by_cases c12 : x = 12
                          · rw [if_pos c12, if_pos c12]
                            repeat rw [ck_t (by omega)]
                          · rw [if_neg c12, if_neg c12]
                            by_cases c13 : x = 13
                            · rw [if_pos c13, if_pos c13]
                              repeat rw [ck_t (by omega)]
                            · rw [if_neg c13, if_neg c13]
                              by_cases c14 : x = 14
                              · rw [if_pos c14, if_pos c14]
                                repeat rw [ck_t (by omega)]
                              · rw [if_neg c14, if_neg c14]
                                by_cases c15 : x = 15
                                · rw [if_pos c15, if_pos c15]
                                  repeat rw [ck_t (by omega)]
                                · rw [if_neg c15, if_neg c15]
end
