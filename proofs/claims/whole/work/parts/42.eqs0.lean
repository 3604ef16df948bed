/-! what each is -/
theorem pk_0 : am_prog 0 = some cd_0 := rfl
theorem bk_0_0 : bk_ am_prog 0 0 = some ([true, true, true, true], (bl_0_0, 9999)) := bk_of pk_0 rfl
theorem bk_0_1 : bk_ am_prog 0 1 = some ([true, false, true, false], (bl_0_1, 9999)) := bk_of pk_0 rfl
theorem bk_0_2 : bk_ am_prog 0 2 = some ([true, false, true, false], (bl_0_2, 3)) := bk_of pk_0 rfl
theorem bk_0_3 : bk_ am_prog 0 3 = some ([true, false, true, false], (bl_0_3, 9999)) := bk_of pk_0 rfl
theorem bk_0_4 : bk_ am_prog 0 4 = some ([true, false, true, false], (bl_0_4, 9999)) := bk_of pk_0 rfl
theorem bk_0_5 : bk_ am_prog 0 5 = some ([true, false, true, false], (bl_0_5, 6)) := bk_of pk_0 rfl
theorem bk_0_6 : bk_ am_prog 0 6 = some ([true, false, false, false], (bl_0_6, 9999)) := bk_of pk_0 rfl
theorem jt_0_3 (h : am_H) (d1 d3 : am_V) (x0 x2 s0 s1 : Int) : JJ 0 3 [(10, x0), d1, (0, x2), d3] [(0, s0), (10, s1)] h = Ch_new_3 h x0 x2 s0 s1 := jj_of bk_0_3 _ _ h
theorem jt_0_2 (h : am_H) (d1 d3 : am_V) (x0 x2 s0 : Int) : JJ 0 2 [(10, x0), d1, (0, x2), d3] [(10, s0)] h = Ch_new_3 h x0 x2 0 s0 := (jj_of bk_0_2 _ _ h).trans ((ff_of bk_0_2 [(10, x0), (9, 0), (0, x2), (9, 0)] [(10, s0)] h).trans (by
  show (JJ 0 3 [(10, x0), (9, 0), (0, x2), (9, 0)] [(0, 0), (10, s0)] h) = _
  simp only [jt_0_3, ck_or1, ck_or2, rf_wr, ln_wr, nn_wr, rf_cp, ln_cp, nn_cp, ln_wf, nn_wf, rd_wf, nn_nw]
  try rfl))
theorem jt_0_1 (h : am_H) (d1 d3 : am_V) (x0 x2 s0 : Int) : JJ 0 1 [(10, x0), d1, (0, x2), d3] [(10, s0)] h = Ch_new_3 h x0 x2 1 s0 := (jj_of bk_0_1 _ _ h).trans ((ff_of bk_0_1 [(10, x0), (9, 0), (0, x2), (9, 0)] [(10, s0)] h).trans (by
  show (JJ 0 3 [(10, x0), (9, 0), (0, x2), (9, 0)] [(0, 1), (10, s0)] h) = _
  simp only [jt_0_3, ck_or1, ck_or2, rf_wr, ln_wr, nn_wr, rf_cp, ln_cp, nn_cp, ln_wf, nn_wf, rd_wf, nn_nw]
  try rfl))
set_option maxRecDepth 20000 in
theorem Ch_new_e (h : am_H) (x0 x1 x2 x3 : Int) : Ch_new h x0 x1 x2 x3 = ck_ (0 ≤ x0) (ck_ (0 ≤ (21 : Int) ∧ (21 : Int) ≤ 1000000) (ck_ (0 ≤ x0) (ck_ (0 ≤ x0) (ck_ (0 ≤ x0) (ck_ (0 ≤ x0) (ck_ (0 ≤ x0) (ck_ (0 ≤ x0) (ck_ (0 ≤ x0) (if x3 ≠ 1 then Ch_new_3 (wr_ (wf_ (wr_ (wf_ (wf_ (wf_ (wf_ (nw_ h 20 21) x0 6 (nn_ h)) x0 7 (-1)) x0 8 (-1)) x0 9 (-1)) x0 10 0) x0 0 x1) x0 1 x2) x0 x2 0 x0 else Ch_new_3 (wr_ (wf_ (wr_ (wf_ (wf_ (wf_ (wf_ (nw_ h 20 21) x0 6 (nn_ h)) x0 7 (-1)) x0 8 (-1)) x0 9 (-1)) x0 10 0) x0 0 x1) x0 1 x2) x0 x2 1 x0))))))))) := (ff_of bk_0_0 [(10, x0), (19, x1), (0, x2), (0, x3)] [] h).trans (by
  show (ck_ (0 ≤ x0) (ck_ (0 ≤ (21 : Int) ∧ (21 : Int) ≤ 1000000) (ck_ (0 ≤ x0) (ck_ (0 ≤ x0) (ck_ (0 ≤ x0) (ck_ (0 ≤ x0) (ck_ (0 ≤ x0) (ck_ (0 ≤ x0) (ck_ (0 ≤ x0) (if x3 ≠ 1 then JJ 0 2 [(10, x0), (19, x1), (0, x2), (0, x3)] [(10, x0)] (wr_ (wf_ (wr_ (wf_ (wf_ (wf_ (wf_ (nw_ h 20 21) x0 6 (nn_ h)) x0 7 (-1)) x0 8 (-1)) x0 9 (-1)) x0 10 0) x0 0 x1) x0 1 x2) else JJ 0 1 [(10, x0), (19, x1), (0, x2), (0, x3)] [(10, x0)] (wr_ (wf_ (wr_ (wf_ (wf_ (wf_ (wf_ (nw_ h 20 21) x0 6 (nn_ h)) x0 7 (-1)) x0 8 (-1)) x0 9 (-1)) x0 10 0) x0 0 x1) x0 1 x2))))))))))) = _
  simp only [jt_0_1, jt_0_2, ck_or1, ck_or2, rf_wr, ln_wr, nn_wr, rf_cp, ln_cp, nn_cp, ln_wf, nn_wf, rd_wf, nn_nw]
  try rfl)
theorem jt_0_6 (h : am_H) (d1 d2 d3 : am_V) (x0 s0 s1 : Int) : JJ 0 6 [(10, x0), d1, d2, d3] [(0, s0), (10, s1)] h = ck_ (0 ≤ s1) (ck_ (0 ≤ x0) (ck_ (0 ≤ (rd_ (wr_ h s1 3 s0) x0 3) ∧ (rd_ (wr_ h s1 3 s0) x0 3) ≤ 1000000) (ck_ (0 ≤ x0) (ck_ (0 ≤ x0) (ck_ (0 ≤ (rd_ (nw_ (wr_ h s1 3 s0) 20 (rd_ (wr_ h s1 3 s0) x0 3)) x0 3) ∧ (rd_ (nw_ (wr_ h s1 3 s0) 20 (rd_ (wr_ h s1 3 s0) x0 3)) x0 3) ≤ 1000000) (ck_ (0 ≤ x0) (some (wf_ (nw_ (wf_ (nw_ (wr_ h s1 3 s0) 20 (rd_ (wr_ h s1 3 s0) x0 3)) x0 4 (nn_ h)) 20 (rd_ (nw_ (wr_ h s1 3 s0) 20 (rd_ (wr_ h s1 3 s0) x0 3)) x0 3)) x0 5 (nn_ h + 1), 0)))))))) := (jj_of bk_0_6 _ _ h).trans (ff_of bk_0_6 [(10, x0), (9, 0), (9, 0), (9, 0)] [(0, s0), (10, s1)] h)
set_option maxRecDepth 20000 in
theorem jt_0_5 (h : am_H) (d1 d3 : am_V) (x0 x2 s0 : Int) : JJ 0 5 [(10, x0), d1, (0, x2), d3] [(10, s0)] h = ck_ (0 ≤ x2 ∧ x2 < 6) (ck_ (0 ≤ s0) (ck_ (0 ≤ x0) (ck_ (0 ≤ (rd_ (wr_ h s0 3 (fa_.getD (x2 : Int).toNat 0)) x0 3) ∧ (rd_ (wr_ h s0 3 (fa_.getD (x2 : Int).toNat 0)) x0 3) ≤ 1000000) (ck_ (0 ≤ x0) (ck_ (0 ≤ x0) (ck_ (0 ≤ (rd_ (nw_ (wr_ h s0 3 (fa_.getD (x2 : Int).toNat 0)) 20 (rd_ (wr_ h s0 3 (fa_.getD (x2 : Int).toNat 0)) x0 3)) x0 3) ∧ (rd_ (nw_ (wr_ h s0 3 (fa_.getD (x2 : Int).toNat 0)) 20 (rd_ (wr_ h s0 3 (fa_.getD (x2 : Int).toNat 0)) x0 3)) x0 3) ≤ 1000000) (ck_ (0 ≤ x0) (some (wf_ (nw_ (wf_ (nw_ (wr_ h s0 3 (fa_.getD (x2 : Int).toNat 0)) 20 (rd_ (wr_ h s0 3 (fa_.getD (x2 : Int).toNat 0)) x0 3)) x0 4 (nn_ h)) 20 (rd_ (nw_ (wr_ h s0 3 (fa_.getD (x2 : Int).toNat 0)) 20 (rd_ (wr_ h s0 3 (fa_.getD (x2 : Int).toNat 0)) x0 3)) x0 3)) x0 5 (nn_ h + 1), 0))))))))) := (jj_of bk_0_5 _ _ h).trans ((ff_of bk_0_5 [(10, x0), (9, 0), (0, x2), (9, 0)] [(10, s0)] h).trans (by
  show (ck_ (0 ≤ x2 ∧ x2 < 6) (JJ 0 6 [(10, x0), (9, 0), (0, x2), (9, 0)] [(0, fa_.getD (x2 : Int).toNat 0), (10, s0)] h)) = _
  simp only [jt_0_6, ck_or1, ck_or2, rf_wr, ln_wr, nn_wr, rf_cp, ln_cp, nn_cp, ln_wf, nn_wf, rd_wf, nn_nw]
  try rfl))
set_option maxRecDepth 20000 in
theorem jt_0_4 (h : am_H) (d1 d3 : am_V) (x0 x2 s0 : Int) : JJ 0 4 [(10, x0), d1, (0, x2), d3] [(10, s0)] h = ck_ (0 ≤ x2 ∧ x2 < 6) (ck_ (0 ≤ s0) (ck_ (0 ≤ x0) (ck_ (0 ≤ (rd_ (wr_ h s0 3 (w32 ((fa_.getD (x2 : Int).toNat 0) * 2 ^ (x2 % 32 : Int).toNat))) x0 3) ∧ (rd_ (wr_ h s0 3 (w32 ((fa_.getD (x2 : Int).toNat 0) * 2 ^ (x2 % 32 : Int).toNat))) x0 3) ≤ 1000000) (ck_ (0 ≤ x0) (ck_ (0 ≤ x0) (ck_ (0 ≤ (rd_ (nw_ (wr_ h s0 3 (w32 ((fa_.getD (x2 : Int).toNat 0) * 2 ^ (x2 % 32 : Int).toNat))) 20 (rd_ (wr_ h s0 3 (w32 ((fa_.getD (x2 : Int).toNat 0) * 2 ^ (x2 % 32 : Int).toNat))) x0 3)) x0 3) ∧ (rd_ (nw_ (wr_ h s0 3 (w32 ((fa_.getD (x2 : Int).toNat 0) * 2 ^ (x2 % 32 : Int).toNat))) 20 (rd_ (wr_ h s0 3 (w32 ((fa_.getD (x2 : Int).toNat 0) * 2 ^ (x2 % 32 : Int).toNat))) x0 3)) x0 3) ≤ 1000000) (ck_ (0 ≤ x0) (some (wf_ (nw_ (wf_ (nw_ (wr_ h s0 3 (w32 ((fa_.getD (x2 : Int).toNat 0) * 2 ^ (x2 % 32 : Int).toNat))) 20 (rd_ (wr_ h s0 3 (w32 ((fa_.getD (x2 : Int).toNat 0) * 2 ^ (x2 % 32 : Int).toNat))) x0 3)) x0 4 (nn_ h)) 20 (rd_ (nw_ (wr_ h s0 3 (w32 ((fa_.getD (x2 : Int).toNat 0) * 2 ^ (x2 % 32 : Int).toNat))) 20 (rd_ (wr_ h s0 3 (w32 ((fa_.getD (x2 : Int).toNat 0) * 2 ^ (x2 % 32 : Int).toNat))) x0 3)) x0 3)) x0 5 (nn_ h + 1), 0))))))))) := (jj_of bk_0_4 _ _ h).trans ((ff_of bk_0_4 [(10, x0), (9, 0), (0, x2), (9, 0)] [(10, s0)] h).trans (by
  show (ck_ (0 ≤ x2 ∧ x2 < 6) (JJ 0 6 [(10, x0), (9, 0), (0, x2), (9, 0)] [(0, w32 ((fa_.getD (x2 : Int).toNat 0) * 2 ^ (x2 % 32 : Int).toNat)), (10, s0)] h)) = _
  simp only [jt_0_6, ck_or1, ck_or2, rf_wr, ln_wr, nn_wr, rf_cp, ln_cp, nn_cp, ln_wf, nn_wf, rd_wf, nn_nw]
  try rfl))
set_option maxRecDepth 20000 in
theorem Ch_new_3_e (h : am_H) (x0 x2 s0 s1 : Int) : Ch_new_3 h x0 x2 s0 s1 = ck_ (0 ≤ s1) (ck_ (s0 = 0 ∨ s0 = 1) (ck_ (0 ≤ x0) (if (rd_ (wr_ h s1 2 s0) x0 2) = 0 then ck_ (0 ≤ x2 ∧ x2 < 6) (ck_ (0 ≤ x0) (ck_ (0 ≤ x0) (ck_ (0 ≤ (rd_ (wr_ (wr_ h s1 2 s0) x0 3 (fa_.getD (x2 : Int).toNat 0)) x0 3) ∧ (rd_ (wr_ (wr_ h s1 2 s0) x0 3 (fa_.getD (x2 : Int).toNat 0)) x0 3) ≤ 1000000) (ck_ (0 ≤ x0) (ck_ (0 ≤ x0) (ck_ (0 ≤ (rd_ (nw_ (wr_ (wr_ h s1 2 s0) x0 3 (fa_.getD (x2 : Int).toNat 0)) 20 (rd_ (wr_ (wr_ h s1 2 s0) x0 3 (fa_.getD (x2 : Int).toNat 0)) x0 3)) x0 3) ∧ (rd_ (nw_ (wr_ (wr_ h s1 2 s0) x0 3 (fa_.getD (x2 : Int).toNat 0)) 20 (rd_ (wr_ (wr_ h s1 2 s0) x0 3 (fa_.getD (x2 : Int).toNat 0)) x0 3)) x0 3) ≤ 1000000) (ck_ (0 ≤ x0) (some (wf_ (nw_ (wf_ (nw_ (wr_ (wr_ h s1 2 s0) x0 3 (fa_.getD (x2 : Int).toNat 0)) 20 (rd_ (wr_ (wr_ h s1 2 s0) x0 3 (fa_.getD (x2 : Int).toNat 0)) x0 3)) x0 4 (nn_ h)) 20 (rd_ (nw_ (wr_ (wr_ h s1 2 s0) x0 3 (fa_.getD (x2 : Int).toNat 0)) 20 (rd_ (wr_ (wr_ h s1 2 s0) x0 3 (fa_.getD (x2 : Int).toNat 0)) x0 3)) x0 3)) x0 5 (nn_ h + 1), 0))))))))) else ck_ (0 ≤ x2 ∧ x2 < 6) (ck_ (0 ≤ x0) (ck_ (0 ≤ x0) (ck_ (0 ≤ (rd_ (wr_ (wr_ h s1 2 s0) x0 3 (w32 ((fa_.getD (x2 : Int).toNat 0) * 2 ^ (x2 % 32 : Int).toNat))) x0 3) ∧ (rd_ (wr_ (wr_ h s1 2 s0) x0 3 (w32 ((fa_.getD (x2 : Int).toNat 0) * 2 ^ (x2 % 32 : Int).toNat))) x0 3) ≤ 1000000) (ck_ (0 ≤ x0) (ck_ (0 ≤ x0) (ck_ (0 ≤ (rd_ (nw_ (wr_ (wr_ h s1 2 s0) x0 3 (w32 ((fa_.getD (x2 : Int).toNat 0) * 2 ^ (x2 % 32 : Int).toNat))) 20 (rd_ (wr_ (wr_ h s1 2 s0) x0 3 (w32 ((fa_.getD (x2 : Int).toNat 0) * 2 ^ (x2 % 32 : Int).toNat))) x0 3)) x0 3) ∧ (rd_ (nw_ (wr_ (wr_ h s1 2 s0) x0 3 (w32 ((fa_.getD (x2 : Int).toNat 0) * 2 ^ (x2 % 32 : Int).toNat))) 20 (rd_ (wr_ (wr_ h s1 2 s0) x0 3 (w32 ((fa_.getD (x2 : Int).toNat 0) * 2 ^ (x2 % 32 : Int).toNat))) x0 3)) x0 3) ≤ 1000000) (ck_ (0 ≤ x0) (some (wf_ (nw_ (wf_ (nw_ (wr_ (wr_ h s1 2 s0) x0 3 (w32 ((fa_.getD (x2 : Int).toNat 0) * 2 ^ (x2 % 32 : Int).toNat))) 20 (rd_ (wr_ (wr_ h s1 2 s0) x0 3 (w32 ((fa_.getD (x2 : Int).toNat 0) * 2 ^ (x2 % 32 : Int).toNat))) x0 3)) x0 4 (nn_ h)) 20 (rd_ (nw_ (wr_ (wr_ h s1 2 s0) x0 3 (w32 ((fa_.getD (x2 : Int).toNat 0) * 2 ^ (x2 % 32 : Int).toNat))) 20 (rd_ (wr_ (wr_ h s1 2 s0) x0 3 (w32 ((fa_.getD (x2 : Int).toNat 0) * 2 ^ (x2 % 32 : Int).toNat))) x0 3)) x0 3)) x0 5 (nn_ h + 1), 0)))))))))))) := (ff_of bk_0_3 [(10, x0), (9, 0), (0, x2), (9, 0)] [(0, s0), (10, s1)] h).trans (by
  show (ck_ (0 ≤ s1) (ck_ (s0 = 0 ∨ s0 = 1) (ck_ (0 ≤ x0) (if (rd_ (wr_ h s1 2 s0) x0 2) = 0 then JJ 0 5 [(10, x0), (9, 0), (0, x2), (9, 0)] [(10, x0)] (wr_ h s1 2 s0) else JJ 0 4 [(10, x0), (9, 0), (0, x2), (9, 0)] [(10, x0)] (wr_ h s1 2 s0))))) = _
  simp only [jt_0_4, jt_0_5, ck_or1, ck_or2, rf_wr, ln_wr, nn_wr, rf_cp, ln_cp, nn_cp, ln_wf, nn_wf, rd_wf, nn_nw]
  try rfl)
theorem cc_0 (h : am_H) (x0 x1 x2 x3 : Int) : CC 0 [(10, x0), (19, x1), (0, x2), (0, x3)] h = Ch_new h x0 x1 x2 x3 := cc_of pk_0 _ h
theorem pk_1 : am_prog 1 = some cd_1 := rfl
theorem bk_1_0 : bk_ am_prog 1 0 = some ([true, true, true], (bl_1_0, 9999)) := bk_of pk_1 rfl
theorem Tu_ofFaces_e (h : am_H) (x0 x1 x2 : Int) : Tu_ofFaces h x0 x1 x2 = ck_ (0 ≤ x0) (ck_ (0 ≤ (rf_ h x0 1)) (ck_ (0 ≤ (w32 ((w32 ((w32 (x1 * 5)) + x2)) - 1)) ∧ (w32 ((w32 ((w32 (x1 * 5)) + x2)) - 1)) < ln_ h (rf_ h x0 1)) (some (h, rd_ h (rf_ h x0 1) (w32 ((w32 ((w32 (x1 * 5)) + x2)) - 1)))))) := ff_of bk_1_0 [(19, x0), (0, x1), (0, x2)] [] h
theorem cc_1 (h : am_H) (x0 x1 x2 : Int) : CC 1 [(19, x0), (0, x1), (0, x2)] h = Tu_ofFaces h x0 x1 x2 := cc_of pk_1 _ h
theorem pk_2 : am_prog 2 = some cd_2 := rfl
theorem bk_2_0 : bk_ am_prog 2 0 = some ([true, true, true], (bl_2_0, 9999)) := bk_of pk_2 rfl
theorem Tu_ofOrder_e (h : am_H) (x0 x1 x2 : Int) : Tu_ofOrder h x0 x1 x2 = ck_ (0 ≤ x0) (ck_ (0 ≤ (rf_ h x0 0)) (ck_ (0 ≤ (w32 ((w32 ((w32 (x1 * 5)) + x2)) - 1)) ∧ (w32 ((w32 ((w32 (x1 * 5)) + x2)) - 1)) < ln_ h (rf_ h x0 0)) (some (h, rd_ h (rf_ h x0 0) (w32 ((w32 ((w32 (x1 * 5)) + x2)) - 1)))))) := ff_of bk_2_0 [(19, x0), (0, x1), (0, x2)] [] h
theorem cc_2 (h : am_H) (x0 x1 x2 : Int) : CC 2 [(19, x0), (0, x1), (0, x2)] h = Tu_ofOrder h x0 x1 x2 := cc_of pk_2 _ h
theorem pk_3 : am_prog 3 = some cd_3 := rfl
theorem bk_3_0 : bk_ am_prog 3 0 = some ([true, true, true, false], (bl_3_0, 9999)) := bk_of pk_3 rfl
theorem bk_3_1 : bk_ am_prog 3 1 = some ([true, true, true, false], (bl_3_1, 9999)) := bk_of pk_3 rfl
theorem bk_3_2 : bk_ am_prog 3 2 = some ([true, true, true, false], (bl_3_2, 9999)) := bk_of pk_3 rfl
theorem jt_3_2 (h : am_H) (d3 : am_V) (x0 x1 x2 : Int) : JJ 3 2 [(10, x0), (0, x1), (0, x2), d3] [] h = ck_ (0 ≤ x0) (ck_ (0 ≤ x0) (ck_ (0 ≤ x0) (ck_ (0 ≤ (rf_ h x0 0)) (bd_ (Tu_ofOrder h (rf_ h x0 0) (x1 / 2 ^ ((rd_ h x0 1) % 32 : Int).toNat) x2) fun h1 v2 => ck_ (0 ≤ x0) (ck_ (0 ≤ x0) (ck_ (0 ≤ (rf_ h1 x0 0)) (bd_ (Tu_ofFaces h1 (rf_ h1 x0 0) (an_ x1 (w32 ((w32 (1 * 2 ^ ((rd_ h x0 1) % 32 : Int).toNat)) - 1))) x2) fun h3 v4 => some (h3, or_ (w32 (v2 * 2 ^ ((rd_ h1 x0 1) % 32 : Int).toNat)) v4)))))))) := (jj_of bk_3_2 _ _ h).trans ((ff_of bk_3_2 [(10, x0), (0, x1), (0, x2), (9, 0)] [] h).trans (by
  show (ck_ (0 ≤ x0) (ck_ (0 ≤ x0) (ck_ (0 ≤ x0) (ck_ (0 ≤ (rf_ h x0 0)) (bd_ (CC 2 [(19, rf_ h x0 0), (0, x1 / 2 ^ ((rd_ h x0 1) % 32 : Int).toNat), (0, x2)] h) fun h1 v2 => ck_ (0 ≤ x0) (ck_ (0 ≤ x0) (ck_ (0 ≤ (rf_ h1 x0 0)) (bd_ (CC 1 [(19, rf_ h1 x0 0), (0, an_ x1 (w32 ((w32 (1 * 2 ^ ((rd_ h x0 1) % 32 : Int).toNat)) - 1))), (0, x2)] h1) fun h3 v4 => some (h3, or_ (w32 (v2 * 2 ^ ((rd_ h1 x0 1) % 32 : Int).toNat)) v4))))))))) = _
  simp only [cc_1, cc_2, ck_or1, ck_or2, rf_wr, ln_wr, nn_wr, rf_cp, ln_cp, nn_cp, ln_wf, nn_wf, rd_wf, nn_nw]
  try rfl))
theorem jt_3_1 (h : am_H) (d3 : am_V) (x0 x1 x2 : Int) : JJ 3 1 [(10, x0), (0, x1), (0, x2), d3] [] h = ck_ (0 ≤ x0) (ck_ (0 ≤ (rf_ h x0 0)) (bd_ (Tu_ofOrder h (rf_ h x0 0) x1 x2) fun h1 v2 => some (h1, v2))) := (jj_of bk_3_1 _ _ h).trans ((ff_of bk_3_1 [(10, x0), (0, x1), (0, x2), (9, 0)] [] h).trans (by
  show (ck_ (0 ≤ x0) (ck_ (0 ≤ (rf_ h x0 0)) (bd_ (CC 2 [(19, rf_ h x0 0), (0, x1), (0, x2)] h) fun h1 v2 => some (h1, v2)))) = _
  simp only [cc_2, ck_or1, ck_or2, rf_wr, ln_wr, nn_wr, rf_cp, ln_cp, nn_cp, ln_wf, nn_wf, rd_wf, nn_nw]
  try rfl))
theorem Ch_turned_e (h : am_H) (x0 x1 x2 : Int) : Ch_turned h x0 x1 x2 = ck_ (0 ≤ x0) (if (rd_ h x0 2) ≠ 0 then ck_ (0 ≤ x0) (ck_ (0 ≤ x0) (ck_ (0 ≤ x0) (ck_ (0 ≤ (rf_ h x0 0)) (bd_ (Tu_ofOrder h (rf_ h x0 0) (x1 / 2 ^ ((rd_ h x0 1) % 32 : Int).toNat) x2) fun h1 v2 => ck_ (0 ≤ x0) (ck_ (0 ≤ x0) (ck_ (0 ≤ (rf_ h1 x0 0)) (bd_ (Tu_ofFaces h1 (rf_ h1 x0 0) (an_ x1 (w32 ((w32 (1 * 2 ^ ((rd_ h x0 1) % 32 : Int).toNat)) - 1))) x2) fun h3 v4 => some (h3, or_ (w32 (v2 * 2 ^ ((rd_ h1 x0 1) % 32 : Int).toNat)) v4)))))))) else ck_ (0 ≤ x0) (ck_ (0 ≤ (rf_ h x0 0)) (bd_ (Tu_ofOrder h (rf_ h x0 0) x1 x2) fun h5 v6 => some (h5, v6)))) := (ff_of bk_3_0 [(10, x0), (0, x1), (0, x2), (9, 0)] [] h).trans (by
  show (ck_ (0 ≤ x0) (if (rd_ h x0 2) ≠ 0 then JJ 3 2 [(10, x0), (0, x1), (0, x2), (9, 0)] [] h else JJ 3 1 [(10, x0), (0, x1), (0, x2), (9, 0)] [] h)) = _
  simp only [jt_3_1, jt_3_2, ck_or1, ck_or2, rf_wr, ln_wr, nn_wr, rf_cp, ln_cp, nn_cp, ln_wf, nn_wf, rd_wf, nn_nw]
  try rfl)
theorem cc_3 (h : am_H) (x0 x1 x2 : Int) : CC 3 [(10, x0), (0, x1), (0, x2)] h = Ch_turned h x0 x1 x2 := cc_of pk_3 _ h
theorem pk_4 : am_prog 4 = some cd_4 := rfl
theorem bk_4_0 : bk_ am_prog 4 0 = some ([true, false, false, false, false, false, false], (bl_4_0, 1)) := bk_of pk_4 rfl
theorem bk_4_1 : bk_ am_prog 4 1 = some ([true, true, true, false, false, false, false], (bl_4_1, 9999)) := bk_of pk_4 rfl
theorem bk_4_2 : bk_ am_prog 4 2 = some ([true, true, true, false, false, false, false], (bl_4_2, 9999)) := bk_of pk_4 rfl
theorem bk_4_3 : bk_ am_prog 4 3 = some ([true, true, false, false, false, false, false], (bl_4_3, 4)) := bk_of pk_4 rfl
theorem bk_4_4 : bk_ am_prog 4 4 = some ([true, true, true, true, false, false, false], (bl_4_4, 9999)) := bk_of pk_4 rfl
theorem bk_4_5 : bk_ am_prog 4 5 = some ([true, true, true, true, false, false, false], (bl_4_5, 9999)) := bk_of pk_4 rfl
theorem bk_4_6 : bk_ am_prog 4 6 = some ([true, true, true, true, false, false, false], (bl_4_6, 7)) := bk_of pk_4 rfl
theorem bk_4_7 : bk_ am_prog 4 7 = some ([true, true, true, true, true, true, false], (bl_4_7, 9999)) := bk_of pk_4 rfl
theorem bk_4_8 : bk_ am_prog 4 8 = some ([true, true, true, true, true, true, false], (bl_4_8, 9999)) := bk_of pk_4 rfl
theorem bk_4_9 : bk_ am_prog 4 9 = some ([true, true, true, true, true, true, true], (bl_4_9, 10)) := bk_of pk_4 rfl
theorem bk_4_10 : bk_ am_prog 4 10 = some ([true, true, true, true, true, true, true], (bl_4_10, 9999)) := bk_of pk_4 rfl
theorem bk_4_11 : bk_ am_prog 4 11 = some ([true, true, true, true, true, true, true], (bl_4_11, 12)) := bk_of pk_4 rfl
theorem bk_4_12 : bk_ am_prog 4 12 = some ([true, true, true, true, true, true, false], (bl_4_12, 9999)) := bk_of pk_4 rfl
theorem bk_4_13 : bk_ am_prog 4 13 = some ([true, true, true, true, false, false, false], (bl_4_13, 9999)) := bk_of pk_4 rfl
theorem bk_4_14 : bk_ am_prog 4 14 = some ([false, false, false, false, false, false, false], (bl_4_14, 9999)) := bk_of pk_4 rfl
theorem jt_4_1 (h : am_H) (d3 d4 d5 d6 : am_V) (x0 x1 x2 : Int) : JJ 4 1 [(10, x0), (30, x1), (0, x2), d3, d4, d5, d6] [] h = Ch_measure_1 h x0 x1 x2 := jj_of bk_4_1 _ _ h
theorem jt_4_4 (h : am_H) (d4 d5 d6 : am_V) (x0 x1 x2 x3 : Int) : JJ 4 4 [(10, x0), (30, x1), (0, x2), (0, x3), d4, d5, d6] [] h = Ch_measure_4 h x0 x1 x2 x3 := jj_of bk_4_4 _ _ h
theorem jt_4_7 (h : am_H) (d6 : am_V) (x0 x1 x2 x3 x4 x5 : Int) : JJ 4 7 [(10, x0), (30, x1), (0, x2), (0, x3), (0, x4), (0, x5), d6] [] h = Ch_measure_7 h x0 x1 x2 x3 x4 x5 := jj_of bk_4_7 _ _ h
theorem jt_4_10 (h : am_H) (x0 x1 x2 x3 x4 x5 x6 : Int) : JJ 4 10 [(10, x0), (30, x1), (0, x2), (0, x3), (0, x4), (0, x5), (0, x6)] [] h = Ch_measure_10 h x0 x1 x2 x3 x4 x5 x6 := jj_of bk_4_10 _ _ h
theorem Ch_measure_e (h : am_H) (x0 : Int) : Ch_measure h x0 = ck_ (0 ≤ x0) (ck_ (0 ≤ (rd_ h x0 3) ∧ (rd_ h x0 3) ≤ 1000000) (Ch_measure_1 (nw_ h 20 (rd_ h x0 3)) x0 (nn_ h) 1)) := (ff_of bk_4_0 [(10, x0), (9, 0), (9, 0), (9, 0), (9, 0), (9, 0), (9, 0)] [] h).trans (by
  show (ck_ (0 ≤ x0) (ck_ (0 ≤ (rd_ h x0 3) ∧ (rd_ h x0 3) ≤ 1000000) (JJ 4 1 [(10, x0), (30, nn_ h), (0, 1), (9, 0), (9, 0), (9, 0), (9, 0)] [] (nw_ h 20 (rd_ h x0 3))))) = _
  simp only [jt_4_1, ck_or1, ck_or2, rf_wr, ln_wr, nn_wr, rf_cp, ln_cp, nn_cp, ln_wf, nn_wf, rd_wf, nn_nw]
  try rfl)
theorem jt_4_3 (h : am_H) (d2 d3 d4 d5 d6 : am_V) (x0 x1 : Int) : JJ 4 3 [(10, x0), (30, x1), d2, d3, d4, d5, d6] [] h = ck_ (0 ≤ x0) (ck_ (0 ≤ (rf_ h x0 5)) (ck_ (0 ≤ (0 : Int) ∧ (0 : Int) < ln_ h (rf_ h x0 5)) (Ch_measure_4 (wr_ h (rf_ h x0 5) 0 1) x0 x1 1 0))) := (jj_of bk_4_3 _ _ h).trans ((ff_of bk_4_3 [(10, x0), (30, x1), (9, 0), (9, 0), (9, 0), (9, 0), (9, 0)] [] h).trans (by
  show (ck_ (0 ≤ x0) (ck_ (0 ≤ (rf_ h x0 5)) (ck_ (0 ≤ (0 : Int) ∧ (0 : Int) < ln_ h (rf_ h x0 5)) (JJ 4 4 [(10, x0), (30, x1), (0, 1), (0, 0), (9, 0), (9, 0), (9, 0)] [] (wr_ h (rf_ h x0 5) 0 1))))) = _
  simp only [jt_4_4, ck_or1, ck_or2, rf_wr, ln_wr, nn_wr, rf_cp, ln_cp, nn_cp, ln_wf, nn_wf, rd_wf, nn_nw]
  try rfl))
theorem jt_4_2 (h : am_H) (d3 d4 d5 d6 : am_V) (x0 x1 x2 : Int) : JJ 4 2 [(10, x0), (30, x1), (0, x2), d3, d4, d5, d6] [] h = ck_ (0 ≤ x0) (ck_ (0 ≤ (rf_ h x0 4)) (ck_ (0 ≤ x2 ∧ x2 < ln_ h (rf_ h x0 4)) (Ch_measure_1 (wr_ h (rf_ h x0 4) x2 (-1)) x0 x1 (w32 (x2 + 1))))) := (jj_of bk_4_2 _ _ h).trans ((ff_of bk_4_2 [(10, x0), (30, x1), (0, x2), (9, 0), (9, 0), (9, 0), (9, 0)] [] h).trans (by
  show (ck_ (0 ≤ x0) (ck_ (0 ≤ (rf_ h x0 4)) (ck_ (0 ≤ x2 ∧ x2 < ln_ h (rf_ h x0 4)) (JJ 4 1 [(10, x0), (30, x1), (0, w32 (x2 + 1)), (9, 0), (9, 0), (9, 0), (9, 0)] [] (wr_ h (rf_ h x0 4) x2 (-1)))))) = _
  simp only [jt_4_1, ck_or1, ck_or2, rf_wr, ln_wr, nn_wr, rf_cp, ln_cp, nn_cp, ln_wf, nn_wf, rd_wf, nn_nw]
  try rfl))
theorem Ch_measure_1_e (h : am_H) (x0 x1 x2 : Int) : Ch_measure_1 h x0 x1 x2 = ck_ (0 ≤ x0) (if (rd_ h x0 3) ≤ x2 then ck_ (0 ≤ x0) (ck_ (0 ≤ (rf_ h x0 5)) (ck_ (0 ≤ (0 : Int) ∧ (0 : Int) < ln_ h (rf_ h x0 5)) (Ch_measure_4 (wr_ h (rf_ h x0 5) 0 1) x0 x1 1 0))) else ck_ (0 ≤ x0) (ck_ (0 ≤ (rf_ h x0 4)) (ck_ (0 ≤ x2 ∧ x2 < ln_ h (rf_ h x0 4)) (Ch_measure_1 (wr_ h (rf_ h x0 4) x2 (-1)) x0 x1 (w32 (x2 + 1)))))) := (ff_of bk_4_1 [(10, x0), (30, x1), (0, x2), (9, 0), (9, 0), (9, 0), (9, 0)] [] h).trans (by
  show (ck_ (0 ≤ x0) (if (rd_ h x0 3) ≤ x2 then JJ 4 3 [(10, x0), (30, x1), (0, x2), (9, 0), (9, 0), (9, 0), (9, 0)] [] h else JJ 4 2 [(10, x0), (30, x1), (0, x2), (9, 0), (9, 0), (9, 0), (9, 0)] [] h)) = _
  simp only [jt_4_2, jt_4_3, ck_or1, ck_or2, rf_wr, ln_wr, nn_wr, rf_cp, ln_cp, nn_cp, ln_wf, nn_wf, rd_wf, nn_nw]
  try rfl)
theorem jt_4_14 (h : am_H) (d0 d1 d2 d3 d4 d5 d6 : am_V) : JJ 4 14 [d0, d1, d2, d3, d4, d5, d6] [] h = some (h, 0) := (jj_of bk_4_14 _ _ h).trans (ff_of bk_4_14 [(9, 0), (9, 0), (9, 0), (9, 0), (9, 0), (9, 0), (9, 0)] [] h)
set_option maxRecDepth 20000 in
theorem jt_4_6 (h : am_H) (d4 d5 d6 : am_V) (x0 x1 x2 x3 : Int) : JJ 4 6 [(10, x0), (30, x1), (0, x2), (0, x3), d4, d5, d6] [] h = ck_ (0 ≤ x1) (ck_ (0 ≤ x3 ∧ x3 < ln_ h x1) (ck_ (0 ≤ x0) (ck_ (0 ≤ x0) (ck_ (0 ≤ (rf_ h x0 4)) (ck_ (0 ≤ (rd_ h x1 x3) ∧ (rd_ h x1 x3) < ln_ h (rf_ h x0 4)) (ck_ (0 ≤ (rf_ h x0 6)) (ck_ (0 ≤ (rd_ h (rf_ h x0 4) (rd_ h x1 x3)) ∧ (rd_ h (rf_ h x0 4) (rd_ h x1 x3)) < ln_ h (rf_ h x0 6)) (ck_ (0 ≤ (rf_ h x0 6)) (ck_ (0 ≤ (rd_ h (rf_ h x0 4) (rd_ h x1 x3)) ∧ (rd_ h (rf_ h x0 4) (rd_ h x1 x3)) < ln_ h (rf_ h x0 6)) (Ch_measure_7 (wr_ h (rf_ h x0 6) (rd_ h (rf_ h x0 4) (rd_ h x1 x3)) (w32 ((rd_ h (rf_ h x0 6) (rd_ h (rf_ h x0 4) (rd_ h x1 x3))) + 1))) x0 x1 x2 x3 (rd_ h x1 x3) 1)))))))))) := (jj_of bk_4_6 _ _ h).trans ((ff_of bk_4_6 [(10, x0), (30, x1), (0, x2), (0, x3), (9, 0), (9, 0), (9, 0)] [] h).trans (by
  show (ck_ (0 ≤ x1) (ck_ (0 ≤ x3 ∧ x3 < ln_ h x1) (ck_ (0 ≤ x0) (ck_ (0 ≤ x0) (ck_ (0 ≤ (rf_ h x0 4)) (ck_ (0 ≤ (rd_ h x1 x3) ∧ (rd_ h x1 x3) < ln_ h (rf_ h x0 4)) (ck_ (0 ≤ (rf_ h x0 6)) (ck_ (0 ≤ (rd_ h (rf_ h x0 4) (rd_ h x1 x3)) ∧ (rd_ h (rf_ h x0 4) (rd_ h x1 x3)) < ln_ h (rf_ h x0 6)) (ck_ (0 ≤ (rf_ h x0 6)) (ck_ (0 ≤ (rd_ h (rf_ h x0 4) (rd_ h x1 x3)) ∧ (rd_ h (rf_ h x0 4) (rd_ h x1 x3)) < ln_ h (rf_ h x0 6)) (JJ 4 7 [(10, x0), (30, x1), (0, x2), (0, x3), (0, rd_ h x1 x3), (0, 1), (9, 0)] [] (wr_ h (rf_ h x0 6) (rd_ h (rf_ h x0 4) (rd_ h x1 x3)) (w32 ((rd_ h (rf_ h x0 6) (rd_ h (rf_ h x0 4) (rd_ h x1 x3))) + 1)))))))))))))) = _
  simp only [jt_4_7, ck_or1, ck_or2, rf_wr, ln_wr, nn_wr, rf_cp, ln_cp, nn_cp, ln_wf, nn_wf, rd_wf, nn_nw]
  try rfl))
set_option maxRecDepth 20000 in
theorem jt_4_5 (h : am_H) (d4 d5 d6 : am_V) (x0 x1 x2 x3 : Int) : JJ 4 5 [(10, x0), (30, x1), (0, x2), (0, x3), d4, d5, d6] [] h = ck_ (0 ≤ x0) (if (rd_ h x0 3) ≤ x3 then some (h, 0) else ck_ (0 ≤ x1) (ck_ (0 ≤ x3 ∧ x3 < ln_ h x1) (ck_ (0 ≤ x0) (ck_ (0 ≤ x0) (ck_ (0 ≤ (rf_ h x0 4)) (ck_ (0 ≤ (rd_ h x1 x3) ∧ (rd_ h x1 x3) < ln_ h (rf_ h x0 4)) (ck_ (0 ≤ (rf_ h x0 6)) (ck_ (0 ≤ (rd_ h (rf_ h x0 4) (rd_ h x1 x3)) ∧ (rd_ h (rf_ h x0 4) (rd_ h x1 x3)) < ln_ h (rf_ h x0 6)) (ck_ (0 ≤ (rf_ h x0 6)) (ck_ (0 ≤ (rd_ h (rf_ h x0 4) (rd_ h x1 x3)) ∧ (rd_ h (rf_ h x0 4) (rd_ h x1 x3)) < ln_ h (rf_ h x0 6)) (Ch_measure_7 (wr_ h (rf_ h x0 6) (rd_ h (rf_ h x0 4) (rd_ h x1 x3)) (w32 ((rd_ h (rf_ h x0 6) (rd_ h (rf_ h x0 4) (rd_ h x1 x3))) + 1))) x0 x1 x2 x3 (rd_ h x1 x3) 1))))))))))) := (jj_of bk_4_5 _ _ h).trans ((ff_of bk_4_5 [(10, x0), (30, x1), (0, x2), (0, x3), (9, 0), (9, 0), (9, 0)] [] h).trans (by
  show (ck_ (0 ≤ x0) (if (rd_ h x0 3) ≤ x3 then JJ 4 14 [(10, x0), (30, x1), (0, x2), (0, x3), (9, 0), (9, 0), (9, 0)] [] h else JJ 4 6 [(10, x0), (30, x1), (0, x2), (0, x3), (9, 0), (9, 0), (9, 0)] [] h)) = _
  simp only [jt_4_14, jt_4_6, ck_or1, ck_or2, rf_wr, ln_wr, nn_wr, rf_cp, ln_cp, nn_cp, ln_wf, nn_wf, rd_wf, nn_nw]
  try rfl))
theorem Ch_measure_4_e (h : am_H) (x0 x1 x2 x3 : Int) : Ch_measure_4 h x0 x1 x2 x3 = if x2 ≤ x3 then some (h, 0) else ck_ (0 ≤ x0) (if (rd_ h x0 3) ≤ x3 then some (h, 0) else ck_ (0 ≤ x1) (ck_ (0 ≤ x3 ∧ x3 < ln_ h x1) (ck_ (0 ≤ x0) (ck_ (0 ≤ x0) (ck_ (0 ≤ (rf_ h x0 4)) (ck_ (0 ≤ (rd_ h x1 x3) ∧ (rd_ h x1 x3) < ln_ h (rf_ h x0 4)) (ck_ (0 ≤ (rf_ h x0 6)) (ck_ (0 ≤ (rd_ h (rf_ h x0 4) (rd_ h x1 x3)) ∧ (rd_ h (rf_ h x0 4) (rd_ h x1 x3)) < ln_ h (rf_ h x0 6)) (ck_ (0 ≤ (rf_ h x0 6)) (ck_ (0 ≤ (rd_ h (rf_ h x0 4) (rd_ h x1 x3)) ∧ (rd_ h (rf_ h x0 4) (rd_ h x1 x3)) < ln_ h (rf_ h x0 6)) (Ch_measure_7 (wr_ h (rf_ h x0 6) (rd_ h (rf_ h x0 4) (rd_ h x1 x3)) (w32 ((rd_ h (rf_ h x0 6) (rd_ h (rf_ h x0 4) (rd_ h x1 x3))) + 1))) x0 x1 x2 x3 (rd_ h x1 x3) 1))))))))))) := (ff_of bk_4_4 [(10, x0), (30, x1), (0, x2), (0, x3), (9, 0), (9, 0), (9, 0)] [] h).trans (by
  show (if x2 ≤ x3 then JJ 4 14 [(10, x0), (30, x1), (0, x2), (0, x3), (9, 0), (9, 0), (9, 0)] [] h else JJ 4 5 [(10, x0), (30, x1), (0, x2), (0, x3), (9, 0), (9, 0), (9, 0)] [] h) = _
  simp only [jt_4_14, jt_4_5, ck_or1, ck_or2, rf_wr, ln_wr, nn_wr, rf_cp, ln_cp, nn_cp, ln_wf, nn_wf, rd_wf, nn_nw]
  try rfl)
theorem jt_4_13 (h : am_H) (d4 d5 d6 : am_V) (x0 x1 x2 x3 : Int) : JJ 4 13 [(10, x0), (30, x1), (0, x2), (0, x3), d4, d5, d6] [] h = Ch_measure_4 h x0 x1 x2 (w32 (x3 + 1)) := (jj_of bk_4_13 _ _ h).trans ((ff_of bk_4_13 [(10, x0), (30, x1), (0, x2), (0, x3), (9, 0), (9, 0), (9, 0)] [] h).trans (by
  show (JJ 4 4 [(10, x0), (30, x1), (0, x2), (0, w32 (x3 + 1)), (9, 0), (9, 0), (9, 0)] [] h) = _
  simp only [jt_4_4, ck_or1, ck_or2, rf_wr, ln_wr, nn_wr, rf_cp, ln_cp, nn_cp, ln_wf, nn_wf, rd_wf, nn_nw]
  try rfl))
theorem jt_4_9 (h : am_H) (x0 x1 x2 x3 x4 x5 x6 : Int) : JJ 4 9 [(10, x0), (30, x1), (0, x2), (0, x3), (0, x4), (0, x5), (0, x6)] [] h = ck_ (0 ≤ x0) (ck_ (0 ≤ x0) (ck_ (0 ≤ (rf_ h x0 4)) (ck_ (0 ≤ x4 ∧ x4 < ln_ h (rf_ h x0 4)) (ck_ (0 ≤ (rf_ h x0 4)) (ck_ (0 ≤ x6 ∧ x6 < ln_ h (rf_ h x0 4)) (ck_ (0 ≤ x1) (ck_ (0 ≤ x2 ∧ x2 < ln_ h x1) (Ch_measure_10 (wr_ (wr_ h (rf_ h x0 4) x6 (w32 ((rd_ h (rf_ h x0 4) x4) + 1))) x1 x2 x6) x0 x1 (w32 (x2 + 1)) x3 x4 x5 x6)))))))) := (jj_of bk_4_9 _ _ h).trans ((ff_of bk_4_9 [(10, x0), (30, x1), (0, x2), (0, x3), (0, x4), (0, x5), (0, x6)] [] h).trans (by
  show (ck_ (0 ≤ x0) (ck_ (0 ≤ x0) (ck_ (0 ≤ (rf_ h x0 4)) (ck_ (0 ≤ x4 ∧ x4 < ln_ h (rf_ h x0 4)) (ck_ (0 ≤ (rf_ h x0 4)) (ck_ (0 ≤ x6 ∧ x6 < ln_ h (rf_ h x0 4)) (ck_ (0 ≤ x1) (ck_ (0 ≤ x2 ∧ x2 < ln_ h x1) (JJ 4 10 [(10, x0), (30, x1), (0, w32 (x2 + 1)), (0, x3), (0, x4), (0, x5), (0, x6)] [] (wr_ (wr_ h (rf_ h x0 4) x6 (w32 ((rd_ h (rf_ h x0 4) x4) + 1))) x1 x2 x6)))))))))) = _
  simp only [jt_4_10, ck_or1, ck_or2, rf_wr, ln_wr, nn_wr, rf_cp, ln_cp, nn_cp, ln_wf, nn_wf, rd_wf, nn_nw]
  try rfl))
set_option maxRecDepth 20000 in
theorem jt_4_8 (h : am_H) (d6 : am_V) (x0 x1 x2 x3 x4 x5 : Int) : JJ 4 8 [(10, x0), (30, x1), (0, x2), (0, x3), (0, x4), (0, x5), d6] [] h = ck_ (0 ≤ x0) (bd_ (Ch_turned h x0 x4 x5) fun h1 v2 => ck_ (0 ≤ x0) (ck_ (0 ≤ (rf_ h1 x0 4)) (ck_ (0 ≤ v2 ∧ v2 < ln_ h1 (rf_ h1 x0 4)) (if (rd_ h1 (rf_ h1 x0 4) v2) ≠ (-1) then Ch_measure_10 h1 x0 x1 x2 x3 x4 x5 v2 else ck_ (0 ≤ x0) (ck_ (0 ≤ x0) (ck_ (0 ≤ (rf_ h1 x0 4)) (ck_ (0 ≤ x4 ∧ x4 < ln_ h1 (rf_ h1 x0 4)) (ck_ (0 ≤ (rf_ h1 x0 4)) (ck_ (0 ≤ v2 ∧ v2 < ln_ h1 (rf_ h1 x0 4)) (ck_ (0 ≤ x1) (ck_ (0 ≤ x2 ∧ x2 < ln_ h1 x1) (Ch_measure_10 (wr_ (wr_ h1 (rf_ h1 x0 4) v2 (w32 ((rd_ h1 (rf_ h1 x0 4) x4) + 1))) x1 x2 v2) x0 x1 (w32 (x2 + 1)) x3 x4 x5 v2)))))))))))) := (jj_of bk_4_8 _ _ h).trans ((ff_of bk_4_8 [(10, x0), (30, x1), (0, x2), (0, x3), (0, x4), (0, x5), (9, 0)] [] h).trans (by
  show (ck_ (0 ≤ x0) (bd_ (CC 3 [(10, x0), (0, x4), (0, x5)] h) fun h1 v2 => ck_ (0 ≤ x0) (ck_ (0 ≤ (rf_ h1 x0 4)) (ck_ (0 ≤ v2 ∧ v2 < ln_ h1 (rf_ h1 x0 4)) (if (rd_ h1 (rf_ h1 x0 4) v2) ≠ (-1) then JJ 4 10 [(10, x0), (30, x1), (0, x2), (0, x3), (0, x4), (0, x5), (0, v2)] [] h1 else JJ 4 9 [(10, x0), (30, x1), (0, x2), (0, x3), (0, x4), (0, x5), (0, v2)] [] h1))))) = _
  simp only [cc_3, jt_4_10, jt_4_9, ck_or1, ck_or2, rf_wr, ln_wr, nn_wr, rf_cp, ln_cp, nn_cp, ln_wf, nn_wf, rd_wf, nn_nw]
  try rfl))
theorem Ch_measure_7_e (h : am_H) (x0 x1 x2 x3 x4 x5 : Int) : Ch_measure_7 h x0 x1 x2 x3 x4 x5 = ck_ (0 ≤ x0) (if (rd_ h x0 1) < x5 then Ch_measure_4 h x0 x1 x2 (w32 (x3 + 1)) else ck_ (0 ≤ x0) (bd_ (Ch_turned h x0 x4 x5) fun h1 v2 => ck_ (0 ≤ x0) (ck_ (0 ≤ (rf_ h1 x0 4)) (ck_ (0 ≤ v2 ∧ v2 < ln_ h1 (rf_ h1 x0 4)) (if (rd_ h1 (rf_ h1 x0 4) v2) ≠ (-1) then Ch_measure_10 h1 x0 x1 x2 x3 x4 x5 v2 else ck_ (0 ≤ x0) (ck_ (0 ≤ x0) (ck_ (0 ≤ (rf_ h1 x0 4)) (ck_ (0 ≤ x4 ∧ x4 < ln_ h1 (rf_ h1 x0 4)) (ck_ (0 ≤ (rf_ h1 x0 4)) (ck_ (0 ≤ v2 ∧ v2 < ln_ h1 (rf_ h1 x0 4)) (ck_ (0 ≤ x1) (ck_ (0 ≤ x2 ∧ x2 < ln_ h1 x1) (Ch_measure_10 (wr_ (wr_ h1 (rf_ h1 x0 4) v2 (w32 ((rd_ h1 (rf_ h1 x0 4) x4) + 1))) x1 x2 v2) x0 x1 (w32 (x2 + 1)) x3 x4 x5 v2))))))))))))) := (ff_of bk_4_7 [(10, x0), (30, x1), (0, x2), (0, x3), (0, x4), (0, x5), (9, 0)] [] h).trans (by
  show (ck_ (0 ≤ x0) (if (rd_ h x0 1) < x5 then JJ 4 13 [(10, x0), (30, x1), (0, x2), (0, x3), (0, x4), (0, x5), (9, 0)] [] h else JJ 4 8 [(10, x0), (30, x1), (0, x2), (0, x3), (0, x4), (0, x5), (9, 0)] [] h)) = _
  simp only [jt_4_13, jt_4_8, ck_or1, ck_or2, rf_wr, ln_wr, nn_wr, rf_cp, ln_cp, nn_cp, ln_wf, nn_wf, rd_wf, nn_nw]
  try rfl)
theorem jt_4_12 (h : am_H) (d6 : am_V) (x0 x1 x2 x3 x4 x5 : Int) : JJ 4 12 [(10, x0), (30, x1), (0, x2), (0, x3), (0, x4), (0, x5), d6] [] h = Ch_measure_7 h x0 x1 x2 x3 x4 (w32 (x5 + 1)) := (jj_of bk_4_12 _ _ h).trans ((ff_of bk_4_12 [(10, x0), (30, x1), (0, x2), (0, x3), (0, x4), (0, x5), (9, 0)] [] h).trans (by
  show (JJ 4 7 [(10, x0), (30, x1), (0, x2), (0, x3), (0, x4), (0, w32 (x5 + 1)), (9, 0)] [] h) = _
  simp only [jt_4_7, ck_or1, ck_or2, rf_wr, ln_wr, nn_wr, rf_cp, ln_cp, nn_cp, ln_wf, nn_wf, rd_wf, nn_nw]
  try rfl))
theorem jt_4_11 (h : am_H) (x0 x1 x2 x3 x4 x5 x6 : Int) : JJ 4 11 [(10, x0), (30, x1), (0, x2), (0, x3), (0, x4), (0, x5), (0, x6)] [] h = ck_ (0 ≤ x0) (ck_ (0 ≤ (rf_ h x0 5)) (ck_ (0 ≤ x6 ∧ x6 < ln_ h (rf_ h x0 5)) (ck_ (0 ≤ x0) (ck_ (0 ≤ (rf_ h x0 5)) (ck_ (0 ≤ x4 ∧ x4 < ln_ h (rf_ h x0 5)) (ck_ (0 ≤ (rf_ h x0 5)) (ck_ (0 ≤ x6 ∧ x6 < ln_ h (rf_ h x0 5)) (Ch_measure_7 (wr_ h (rf_ h x0 5) x6 (w32 ((rd_ h (rf_ h x0 5) x6) + (rd_ h (rf_ h x0 5) x4)))) x0 x1 x2 x3 x4 (w32 (x5 + 1)))))))))) := (jj_of bk_4_11 _ _ h).trans ((ff_of bk_4_11 [(10, x0), (30, x1), (0, x2), (0, x3), (0, x4), (0, x5), (0, x6)] [] h).trans (by
  show (ck_ (0 ≤ x0) (ck_ (0 ≤ (rf_ h x0 5)) (ck_ (0 ≤ x6 ∧ x6 < ln_ h (rf_ h x0 5)) (ck_ (0 ≤ x0) (ck_ (0 ≤ (rf_ h x0 5)) (ck_ (0 ≤ x4 ∧ x4 < ln_ h (rf_ h x0 5)) (ck_ (0 ≤ (rf_ h x0 5)) (ck_ (0 ≤ x6 ∧ x6 < ln_ h (rf_ h x0 5)) (JJ 4 12 [(10, x0), (30, x1), (0, x2), (0, x3), (0, x4), (0, x5), (0, x6)] [] (wr_ h (rf_ h x0 5) x6 (w32 ((rd_ h (rf_ h x0 5) x6) + (rd_ h (rf_ h x0 5) x4))))))))))))) = _
  simp only [jt_4_12, ck_or1, ck_or2, rf_wr, ln_wr, nn_wr, rf_cp, ln_cp, nn_cp, ln_wf, nn_wf, rd_wf, nn_nw]
  try rfl))
set_option maxRecDepth 20000 in
theorem Ch_measure_10_e (h : am_H) (x0 x1 x2 x3 x4 x5 x6 : Int) : Ch_measure_10 h x0 x1 x2 x3 x4 x5 x6 = ck_ (0 ≤ x0) (ck_ (0 ≤ (rf_ h x0 4)) (ck_ (0 ≤ x6 ∧ x6 < ln_ h (rf_ h x0 4)) (ck_ (0 ≤ x0) (ck_ (0 ≤ (rf_ h x0 4)) (ck_ (0 ≤ x4 ∧ x4 < ln_ h (rf_ h x0 4)) (if (rd_ h (rf_ h x0 4) x6) ≠ (w32 ((rd_ h (rf_ h x0 4) x4) + 1)) then Ch_measure_7 h x0 x1 x2 x3 x4 (w32 (x5 + 1)) else ck_ (0 ≤ x0) (ck_ (0 ≤ (rf_ h x0 5)) (ck_ (0 ≤ x6 ∧ x6 < ln_ h (rf_ h x0 5)) (ck_ (0 ≤ x0) (ck_ (0 ≤ (rf_ h x0 5)) (ck_ (0 ≤ x4 ∧ x4 < ln_ h (rf_ h x0 5)) (ck_ (0 ≤ (rf_ h x0 5)) (ck_ (0 ≤ x6 ∧ x6 < ln_ h (rf_ h x0 5)) (Ch_measure_7 (wr_ h (rf_ h x0 5) x6 (w32 ((rd_ h (rf_ h x0 5) x6) + (rd_ h (rf_ h x0 5) x4)))) x0 x1 x2 x3 x4 (w32 (x5 + 1)))))))))))))))) := (ff_of bk_4_10 [(10, x0), (30, x1), (0, x2), (0, x3), (0, x4), (0, x5), (0, x6)] [] h).trans (by
  show (ck_ (0 ≤ x0) (ck_ (0 ≤ (rf_ h x0 4)) (ck_ (0 ≤ x6 ∧ x6 < ln_ h (rf_ h x0 4)) (ck_ (0 ≤ x0) (ck_ (0 ≤ (rf_ h x0 4)) (ck_ (0 ≤ x4 ∧ x4 < ln_ h (rf_ h x0 4)) (if (rd_ h (rf_ h x0 4) x6) ≠ (w32 ((rd_ h (rf_ h x0 4) x4) + 1)) then JJ 4 12 [(10, x0), (30, x1), (0, x2), (0, x3), (0, x4), (0, x5), (0, x6)] [] h else JJ 4 11 [(10, x0), (30, x1), (0, x2), (0, x3), (0, x4), (0, x5), (0, x6)] [] h))))))) = _
  simp only [jt_4_11, jt_4_12, ck_or1, ck_or2, rf_wr, ln_wr, nn_wr, rf_cp, ln_cp, nn_cp, ln_wf, nn_wf, rd_wf, nn_nw]
  try rfl)
theorem cc_4 (h : am_H) (x0 : Int) : CC 4 [(10, x0)] h = Ch_measure h x0 := cc_of pk_4 _ h
theorem pk_5 : am_prog 5 = some cd_5 := rfl
theorem bk_5_0 : bk_ am_prog 5 0 = some ([true, true], (bl_5_0, 9999)) := bk_of pk_5 rfl
theorem bk_5_1 : bk_ am_prog 5 1 = some ([true, true], (bl_5_1, 9999)) := bk_of pk_5 rfl
theorem bk_5_2 : bk_ am_prog 5 2 = some ([false, false], (bl_5_2, 9999)) := bk_of pk_5 rfl
theorem bk_5_3 : bk_ am_prog 5 3 = some ([false, false], (bl_5_3, 4)) := bk_of pk_5 rfl
theorem bk_5_4 : bk_ am_prog 5 4 = some ([false, false], (bl_5_4, 9999)) := bk_of pk_5 rfl
theorem jt_5_4 (h : am_H) (d0 d1 : am_V) (s0 : Int) : JJ 5 4 [d0, d1] [(0, s0)] h = ck_ (s0 = 0 ∨ s0 = 1) (some (h, s0)) := (jj_of bk_5_4 _ _ h).trans (ff_of bk_5_4 [(9, 0), (9, 0)] [(0, s0)] h)
theorem jt_5_3 (h : am_H) (d0 d1 : am_V) : JJ 5 3 [d0, d1] [] h = some (h, 0) := (jj_of bk_5_3 _ _ h).trans ((ff_of bk_5_3 [(9, 0), (9, 0)] [] h).trans (by
  show (JJ 5 4 [(9, 0), (9, 0)] [(0, 0)] h) = _
  simp only [jt_5_4, ck_or1, ck_or2, rf_wr, ln_wr, nn_wr, rf_cp, ln_cp, nn_cp, ln_wf, nn_wf, rd_wf, nn_nw]
  try rfl))
theorem jt_5_2 (h : am_H) (d0 d1 : am_V) : JJ 5 2 [d0, d1] [] h = some (h, 1) := (jj_of bk_5_2 _ _ h).trans ((ff_of bk_5_2 [(9, 0), (9, 0)] [] h).trans (by
  show (JJ 5 4 [(9, 0), (9, 0)] [(0, 1)] h) = _
  simp only [jt_5_4, ck_or1, ck_or2, rf_wr, ln_wr, nn_wr, rf_cp, ln_cp, nn_cp, ln_wf, nn_wf, rd_wf, nn_nw]
  try rfl))
theorem jt_5_1 (h : am_H) (x0 x1 : Int) : JJ 5 1 [(10, x0), (0, x1)] [] h = ck_ (0 ≤ x0) (if (rd_ h x0 3) ≤ x1 then some (h, 0) else some (h, 1)) := (jj_of bk_5_1 _ _ h).trans ((ff_of bk_5_1 [(10, x0), (0, x1)] [] h).trans (by
  show (ck_ (0 ≤ x0) (if (rd_ h x0 3) ≤ x1 then JJ 5 3 [(10, x0), (0, x1)] [] h else JJ 5 2 [(10, x0), (0, x1)] [] h)) = _
  simp only [jt_5_2, jt_5_3, ck_or1, ck_or2, rf_wr, ln_wr, nn_wr, rf_cp, ln_cp, nn_cp, ln_wf, nn_wf, rd_wf, nn_nw]
  try rfl))
theorem Ch_has_e (h : am_H) (x0 x1 : Int) : Ch_has h x0 x1 = if x1 < 0 then some (h, 0) else ck_ (0 ≤ x0) (if (rd_ h x0 3) ≤ x1 then some (h, 0) else some (h, 1)) := (ff_of bk_5_0 [(10, x0), (0, x1)] [] h).trans (by
  show (if x1 < 0 then JJ 5 3 [(10, x0), (0, x1)] [] h else JJ 5 1 [(10, x0), (0, x1)] [] h) = _
  simp only [jt_5_1, jt_5_3, ck_or1, ck_or2, rf_wr, ln_wr, nn_wr, rf_cp, ln_cp, nn_cp, ln_wf, nn_wf, rd_wf, nn_nw]
  try rfl)
theorem cc_5 (h : am_H) (x0 x1 : Int) : CC 5 [(10, x0), (0, x1)] h = Ch_has h x0 x1 := cc_of pk_5 _ h
theorem pk_6 : am_prog 6 = some cd_6 := rfl
theorem bk_6_0 : bk_ am_prog 6 0 = some ([true, true], (bl_6_0, 9999)) := bk_of pk_6 rfl
theorem bk_6_1 : bk_ am_prog 6 1 = some ([true, true], (bl_6_1, 9999)) := bk_of pk_6 rfl
theorem bk_6_2 : bk_ am_prog 6 2 = some ([false, false], (bl_6_2, 3)) := bk_of pk_6 rfl
theorem bk_6_3 : bk_ am_prog 6 3 = some ([false, false], (bl_6_3, 9999)) := bk_of pk_6 rfl
theorem jt_6_3 (h : am_H) (d0 d1 : am_V) (s0 : Int) : JJ 6 3 [d0, d1] [(0, s0)] h = some (h, s0) := (jj_of bk_6_3 _ _ h).trans (ff_of bk_6_3 [(9, 0), (9, 0)] [(0, s0)] h)
theorem jt_6_2 (h : am_H) (d0 d1 : am_V) : JJ 6 2 [d0, d1] [] h = some (h, (-1)) := (jj_of bk_6_2 _ _ h).trans ((ff_of bk_6_2 [(9, 0), (9, 0)] [] h).trans (by
  show (JJ 6 3 [(9, 0), (9, 0)] [(0, (-1))] h) = _
  simp only [jt_6_3, ck_or1, ck_or2, rf_wr, ln_wr, nn_wr, rf_cp, ln_cp, nn_cp, ln_wf, nn_wf, rd_wf, nn_nw]
  try rfl))
theorem jt_6_1 (h : am_H) (x0 x1 : Int) : JJ 6 1 [(10, x0), (0, x1)] [] h = ck_ (0 ≤ x0) (ck_ (0 ≤ (rf_ h x0 4)) (ck_ (0 ≤ x1 ∧ x1 < ln_ h (rf_ h x0 4)) (some (h, rd_ h (rf_ h x0 4) x1)))) := (jj_of bk_6_1 _ _ h).trans ((ff_of bk_6_1 [(10, x0), (0, x1)] [] h).trans (by
  show (ck_ (0 ≤ x0) (ck_ (0 ≤ (rf_ h x0 4)) (ck_ (0 ≤ x1 ∧ x1 < ln_ h (rf_ h x0 4)) (JJ 6 3 [(10, x0), (0, x1)] [(0, rd_ h (rf_ h x0 4) x1)] h)))) = _
  simp only [jt_6_3, ck_or1, ck_or2, rf_wr, ln_wr, nn_wr, rf_cp, ln_cp, nn_cp, ln_wf, nn_wf, rd_wf, nn_nw]
  try rfl))
theorem Ch_leastOf_e (h : am_H) (x0 x1 : Int) : Ch_leastOf h x0 x1 = ck_ (0 ≤ x0) (bd_ (Ch_has h x0 x1) fun h1 v2 => if v2 = 0 then some (h1, (-1)) else ck_ (0 ≤ x0) (ck_ (0 ≤ (rf_ h1 x0 4)) (ck_ (0 ≤ x1 ∧ x1 < ln_ h1 (rf_ h1 x0 4)) (some (h1, rd_ h1 (rf_ h1 x0 4) x1))))) := (ff_of bk_6_0 [(10, x0), (0, x1)] [] h).trans (by
  show (ck_ (0 ≤ x0) (bd_ (CC 5 [(10, x0), (0, x1)] h) fun h1 v2 => if v2 = 0 then JJ 6 2 [(10, x0), (0, x1)] [] h1 else JJ 6 1 [(10, x0), (0, x1)] [] h1)) = _
  simp only [cc_5, jt_6_1, jt_6_2, ck_or1, ck_or2, rf_wr, ln_wr, nn_wr, rf_cp, ln_cp, nn_cp, ln_wf, nn_wf, rd_wf, nn_nw]
  try rfl)
theorem cc_6 (h : am_H) (x0 x1 : Int) : CC 6 [(10, x0), (0, x1)] h = Ch_leastOf h x0 x1 := cc_of pk_6 _ h
theorem pk_7 : am_prog 7 = some cd_7 := rfl
theorem bk_7_0 : bk_ am_prog 7 0 = some ([true, true], (bl_7_0, 9999)) := bk_of pk_7 rfl
theorem bk_7_1 : bk_ am_prog 7 1 = some ([true, true], (bl_7_1, 9999)) := bk_of pk_7 rfl
theorem bk_7_2 : bk_ am_prog 7 2 = some ([false, false], (bl_7_2, 3)) := bk_of pk_7 rfl
theorem bk_7_3 : bk_ am_prog 7 3 = some ([false, false], (bl_7_3, 9999)) := bk_of pk_7 rfl
theorem jt_7_3 (h : am_H) (d0 d1 : am_V) (s0 : Int) : JJ 7 3 [d0, d1] [(0, s0)] h = some (h, s0) := (jj_of bk_7_3 _ _ h).trans (ff_of bk_7_3 [(9, 0), (9, 0)] [(0, s0)] h)
theorem jt_7_2 (h : am_H) (d0 d1 : am_V) : JJ 7 2 [d0, d1] [] h = some (h, (-1)) := (jj_of bk_7_2 _ _ h).trans ((ff_of bk_7_2 [(9, 0), (9, 0)] [] h).trans (by
  show (JJ 7 3 [(9, 0), (9, 0)] [(0, (-1))] h) = _
  simp only [jt_7_3, ck_or1, ck_or2, rf_wr, ln_wr, nn_wr, rf_cp, ln_cp, nn_cp, ln_wf, nn_wf, rd_wf, nn_nw]
  try rfl))
theorem jt_7_1 (h : am_H) (x0 x1 : Int) : JJ 7 1 [(10, x0), (0, x1)] [] h = ck_ (0 ≤ x0) (ck_ (0 ≤ (rf_ h x0 5)) (ck_ (0 ≤ x1 ∧ x1 < ln_ h (rf_ h x0 5)) (some (h, rd_ h (rf_ h x0 5) x1)))) := (jj_of bk_7_1 _ _ h).trans ((ff_of bk_7_1 [(10, x0), (0, x1)] [] h).trans (by
  show (ck_ (0 ≤ x0) (ck_ (0 ≤ (rf_ h x0 5)) (ck_ (0 ≤ x1 ∧ x1 < ln_ h (rf_ h x0 5)) (JJ 7 3 [(10, x0), (0, x1)] [(0, rd_ h (rf_ h x0 5) x1)] h)))) = _
  simp only [jt_7_3, ck_or1, ck_or2, rf_wr, ln_wr, nn_wr, rf_cp, ln_cp, nn_cp, ln_wf, nn_wf, rd_wf, nn_nw]
  try rfl))
theorem Ch_rowsOf_e (h : am_H) (x0 x1 : Int) : Ch_rowsOf h x0 x1 = ck_ (0 ≤ x0) (bd_ (Ch_has h x0 x1) fun h1 v2 => if v2 = 0 then some (h1, (-1)) else ck_ (0 ≤ x0) (ck_ (0 ≤ (rf_ h1 x0 5)) (ck_ (0 ≤ x1 ∧ x1 < ln_ h1 (rf_ h1 x0 5)) (some (h1, rd_ h1 (rf_ h1 x0 5) x1))))) := (ff_of bk_7_0 [(10, x0), (0, x1)] [] h).trans (by
  show (ck_ (0 ≤ x0) (bd_ (CC 5 [(10, x0), (0, x1)] h) fun h1 v2 => if v2 = 0 then JJ 7 2 [(10, x0), (0, x1)] [] h1 else JJ 7 1 [(10, x0), (0, x1)] [] h1)) = _
  simp only [cc_5, jt_7_1, jt_7_2, ck_or1, ck_or2, rf_wr, ln_wr, nn_wr, rf_cp, ln_cp, nn_cp, ln_wf, nn_wf, rd_wf, nn_nw]
  try rfl)
theorem cc_7 (h : am_H) (x0 x1 : Int) : CC 7 [(10, x0), (0, x1)] h = Ch_rowsOf h x0 x1 := cc_of pk_7 _ h
theorem pk_8 : am_prog 8 = some cd_8 := rfl
theorem bk_8_0 : bk_ am_prog 8 0 = some ([true, true, false], (bl_8_0, 9999)) := bk_of pk_8 rfl
theorem bk_8_1 : bk_ am_prog 8 1 = some ([false, false, false], (bl_8_1, 9999)) := bk_of pk_8 rfl
theorem bk_8_2 : bk_ am_prog 8 2 = some ([true, true, false], (bl_8_2, 3)) := bk_of pk_8 rfl
theorem bk_8_3 : bk_ am_prog 8 3 = some ([true, true, true], (bl_8_3, 9999)) := bk_of pk_8 rfl
theorem bk_8_4 : bk_ am_prog 8 4 = some ([true, true, true], (bl_8_4, 9999)) := bk_of pk_8 rfl
theorem bk_8_5 : bk_ am_prog 8 5 = some ([false, false, true], (bl_8_5, 9999)) := bk_of pk_8 rfl
theorem bk_8_6 : bk_ am_prog 8 6 = some ([true, true, true], (bl_8_6, 9999)) := bk_of pk_8 rfl
theorem bk_8_7 : bk_ am_prog 8 7 = some ([false, false, false], (bl_8_7, 9999)) := bk_of pk_8 rfl
theorem jt_8_3 (h : am_H) (x0 x1 x2 : Int) : JJ 8 3 [(10, x0), (0, x1), (0, x2)] [] h = Ch_nearing_3 h x0 x1 x2 := jj_of bk_8_3 _ _ h
theorem jt_8_2 (h : am_H) (d2 : am_V) (x0 x1 : Int) : JJ 8 2 [(10, x0), (0, x1), d2] [] h = Ch_nearing_3 h x0 x1 1 := (jj_of bk_8_2 _ _ h).trans ((ff_of bk_8_2 [(10, x0), (0, x1), (9, 0)] [] h).trans (by
  show (JJ 8 3 [(10, x0), (0, x1), (0, 1)] [] h) = _
  simp only [jt_8_3, ck_or1, ck_or2, rf_wr, ln_wr, nn_wr, rf_cp, ln_cp, nn_cp, ln_wf, nn_wf, rd_wf, nn_nw]
  try rfl))
theorem jt_8_1 (h : am_H) (d0 d1 d2 : am_V) : JJ 8 1 [d0, d1, d2] [] h = some (h, (-1)) := (jj_of bk_8_1 _ _ h).trans (ff_of bk_8_1 [(9, 0), (9, 0), (9, 0)] [] h)
theorem Ch_nearing_e (h : am_H) (x0 x1 : Int) : Ch_nearing h x0 x1 = ck_ (0 ≤ x0) (bd_ (Ch_has h x0 x1) fun h1 v2 => if v2 ≠ 0 then Ch_nearing_3 h1 x0 x1 1 else some (h1, (-1))) := (ff_of bk_8_0 [(10, x0), (0, x1), (9, 0)] [] h).trans (by
  show (ck_ (0 ≤ x0) (bd_ (CC 5 [(10, x0), (0, x1)] h) fun h1 v2 => if v2 ≠ 0 then JJ 8 2 [(10, x0), (0, x1), (9, 0)] [] h1 else JJ 8 1 [(10, x0), (0, x1), (9, 0)] [] h1)) = _
  simp only [cc_5, jt_8_1, jt_8_2, ck_or1, ck_or2, rf_wr, ln_wr, nn_wr, rf_cp, ln_cp, nn_cp, ln_wf, nn_wf, rd_wf, nn_nw]
  try rfl)
theorem jt_8_7 (h : am_H) (d0 d1 d2 : am_V) : JJ 8 7 [d0, d1, d2] [] h = some (h, (-2)) := (jj_of bk_8_7 _ _ h).trans (ff_of bk_8_7 [(9, 0), (9, 0), (9, 0)] [] h)
theorem jt_8_6 (h : am_H) (x0 x1 x2 : Int) : JJ 8 6 [(10, x0), (0, x1), (0, x2)] [] h = Ch_nearing_3 h x0 x1 (w32 (x2 + 1)) := (jj_of bk_8_6 _ _ h).trans ((ff_of bk_8_6 [(10, x0), (0, x1), (0, x2)] [] h).trans (by
  show (JJ 8 3 [(10, x0), (0, x1), (0, w32 (x2 + 1))] [] h) = _
  simp only [jt_8_3, ck_or1, ck_or2, rf_wr, ln_wr, nn_wr, rf_cp, ln_cp, nn_cp, ln_wf, nn_wf, rd_wf, nn_nw]
  try rfl))
theorem jt_8_5 (h : am_H) (d0 d1 : am_V) (x2 : Int) : JJ 8 5 [d0, d1, (0, x2)] [] h = some (h, x2) := (jj_of bk_8_5 _ _ h).trans (ff_of bk_8_5 [(9, 0), (9, 0), (0, x2)] [] h)
theorem jt_8_4 (h : am_H) (x0 x1 x2 : Int) : JJ 8 4 [(10, x0), (0, x1), (0, x2)] [] h = ck_ (0 ≤ x0) (ck_ (0 ≤ x0) (bd_ (Ch_turned h x0 x1 x2) fun h1 v2 => ck_ (0 ≤ (rf_ h x0 4)) (ck_ (0 ≤ v2 ∧ v2 < ln_ h1 (rf_ h x0 4)) (ck_ (0 ≤ x0) (ck_ (0 ≤ (rf_ h1 x0 4)) (ck_ (0 ≤ x1 ∧ x1 < ln_ h1 (rf_ h1 x0 4)) (if (rd_ h1 (rf_ h x0 4) v2) ≠ (w32 ((rd_ h1 (rf_ h1 x0 4) x1) - 1)) then Ch_nearing_3 h1 x0 x1 (w32 (x2 + 1)) else some (h1, x2)))))))) := (jj_of bk_8_4 _ _ h).trans ((ff_of bk_8_4 [(10, x0), (0, x1), (0, x2)] [] h).trans (by
  show (ck_ (0 ≤ x0) (ck_ (0 ≤ x0) (bd_ (CC 3 [(10, x0), (0, x1), (0, x2)] h) fun h1 v2 => ck_ (0 ≤ (rf_ h x0 4)) (ck_ (0 ≤ v2 ∧ v2 < ln_ h1 (rf_ h x0 4)) (ck_ (0 ≤ x0) (ck_ (0 ≤ (rf_ h1 x0 4)) (ck_ (0 ≤ x1 ∧ x1 < ln_ h1 (rf_ h1 x0 4)) (if (rd_ h1 (rf_ h x0 4) v2) ≠ (w32 ((rd_ h1 (rf_ h1 x0 4) x1) - 1)) then JJ 8 6 [(10, x0), (0, x1), (0, x2)] [] h1 else JJ 8 5 [(10, x0), (0, x1), (0, x2)] [] h1)))))))) = _
  simp only [cc_3, jt_8_5, jt_8_6, ck_or1, ck_or2, rf_wr, ln_wr, nn_wr, rf_cp, ln_cp, nn_cp, ln_wf, nn_wf, rd_wf, nn_nw]
  try rfl))
theorem Ch_nearing_3_e (h : am_H) (x0 x1 x2 : Int) : Ch_nearing_3 h x0 x1 x2 = ck_ (0 ≤ x0) (if (rd_ h x0 1) < x2 then some (h, (-2)) else ck_ (0 ≤ x0) (ck_ (0 ≤ x0) (bd_ (Ch_turned h x0 x1 x2) fun h1 v2 => ck_ (0 ≤ (rf_ h x0 4)) (ck_ (0 ≤ v2 ∧ v2 < ln_ h1 (rf_ h x0 4)) (ck_ (0 ≤ x0) (ck_ (0 ≤ (rf_ h1 x0 4)) (ck_ (0 ≤ x1 ∧ x1 < ln_ h1 (rf_ h1 x0 4)) (if (rd_ h1 (rf_ h x0 4) v2) ≠ (w32 ((rd_ h1 (rf_ h1 x0 4) x1) - 1)) then Ch_nearing_3 h1 x0 x1 (w32 (x2 + 1)) else some (h1, x2))))))))) := (ff_of bk_8_3 [(10, x0), (0, x1), (0, x2)] [] h).trans (by
  show (ck_ (0 ≤ x0) (if (rd_ h x0 1) < x2 then JJ 8 7 [(10, x0), (0, x1), (0, x2)] [] h else JJ 8 4 [(10, x0), (0, x1), (0, x2)] [] h)) = _
  simp only [jt_8_4, jt_8_7, ck_or1, ck_or2, rf_wr, ln_wr, nn_wr, rf_cp, ln_cp, nn_cp, ln_wf, nn_wf, rd_wf, nn_nw]
  try rfl)
theorem cc_8 (h : am_H) (x0 x1 : Int) : CC 8 [(10, x0), (0, x1)] h = Ch_nearing h x0 x1 := cc_of pk_8 _ h
theorem pk_9 : am_prog 9 = some cd_9 := rfl
theorem bk_9_0 : bk_ am_prog 9 0 = some ([true, false, false], (bl_9_0, 1)) := bk_of pk_9 rfl
theorem bk_9_1 : bk_ am_prog 9 1 = some ([true, true, true], (bl_9_1, 9999)) := bk_of pk_9 rfl
theorem bk_9_2 : bk_ am_prog 9 2 = some ([true, true, true], (bl_9_2, 9999)) := bk_of pk_9 rfl
theorem bk_9_3 : bk_ am_prog 9 3 = some ([true, false, true], (bl_9_3, 4)) := bk_of pk_9 rfl
theorem bk_9_4 : bk_ am_prog 9 4 = some ([true, true, true], (bl_9_4, 9999)) := bk_of pk_9 rfl
theorem bk_9_5 : bk_ am_prog 9 5 = some ([false, true, false], (bl_9_5, 9999)) := bk_of pk_9 rfl
theorem jt_9_1 (h : am_H) (x0 x1 x2 : Int) : JJ 9 1 [(10, x0), (0, x1), (0, x2)] [] h = Ch_furthestLeast_1 h x0 x1 x2 := jj_of bk_9_1 _ _ h
theorem Ch_furthestLeast_e (h : am_H) (x0 : Int) : Ch_furthestLeast h x0 = Ch_furthestLeast_1 h x0 0 0 := (ff_of bk_9_0 [(10, x0), (9, 0), (9, 0)] [] h).trans (by
  show (JJ 9 1 [(10, x0), (0, 0), (0, 0)] [] h) = _
  simp only [jt_9_1, ck_or1, ck_or2, rf_wr, ln_wr, nn_wr, rf_cp, ln_cp, nn_cp, ln_wf, nn_wf, rd_wf, nn_nw]
  try rfl)
theorem jt_9_5 (h : am_H) (d0 d2 : am_V) (x1 : Int) : JJ 9 5 [d0, (0, x1), d2] [] h = some (h, x1) := (jj_of bk_9_5 _ _ h).trans (ff_of bk_9_5 [(9, 0), (0, x1), (9, 0)] [] h)
theorem jt_9_4 (h : am_H) (x0 x1 x2 : Int) : JJ 9 4 [(10, x0), (0, x1), (0, x2)] [] h = Ch_furthestLeast_1 h x0 x1 (w32 (x2 + 1)) := (jj_of bk_9_4 _ _ h).trans ((ff_of bk_9_4 [(10, x0), (0, x1), (0, x2)] [] h).trans (by
  show (JJ 9 1 [(10, x0), (0, x1), (0, w32 (x2 + 1))] [] h) = _
  simp only [jt_9_1, ck_or1, ck_or2, rf_wr, ln_wr, nn_wr, rf_cp, ln_cp, nn_cp, ln_wf, nn_wf, rd_wf, nn_nw]
  try rfl))
theorem jt_9_3 (h : am_H) (d1 : am_V) (x0 x2 : Int) : JJ 9 3 [(10, x0), d1, (0, x2)] [] h = Ch_furthestLeast_1 h x0 x2 (w32 (x2 + 1)) := (jj_of bk_9_3 _ _ h).trans ((ff_of bk_9_3 [(10, x0), (9, 0), (0, x2)] [] h).trans (by
  show (JJ 9 4 [(10, x0), (0, x2), (0, x2)] [] h) = _
  simp only [jt_9_4, ck_or1, ck_or2, rf_wr, ln_wr, nn_wr, rf_cp, ln_cp, nn_cp, ln_wf, nn_wf, rd_wf, nn_nw]
  try rfl))
theorem jt_9_2 (h : am_H) (x0 x1 x2 : Int) : JJ 9 2 [(10, x0), (0, x1), (0, x2)] [] h = ck_ (0 ≤ x0) (ck_ (0 ≤ (rf_ h x0 6)) (ck_ (0 ≤ x2 ∧ x2 < ln_ h (rf_ h x0 6)) (if (rd_ h (rf_ h x0 6) x2) ≤ 0 then Ch_furthestLeast_1 h x0 x1 (w32 (x2 + 1)) else Ch_furthestLeast_1 h x0 x2 (w32 (x2 + 1))))) := (jj_of bk_9_2 _ _ h).trans ((ff_of bk_9_2 [(10, x0), (0, x1), (0, x2)] [] h).trans (by
  show (ck_ (0 ≤ x0) (ck_ (0 ≤ (rf_ h x0 6)) (ck_ (0 ≤ x2 ∧ x2 < ln_ h (rf_ h x0 6)) (if (rd_ h (rf_ h x0 6) x2) ≤ 0 then JJ 9 4 [(10, x0), (0, x1), (0, x2)] [] h else JJ 9 3 [(10, x0), (0, x1), (0, x2)] [] h)))) = _
  simp only [jt_9_3, jt_9_4, ck_or1, ck_or2, rf_wr, ln_wr, nn_wr, rf_cp, ln_cp, nn_cp, ln_wf, nn_wf, rd_wf, nn_nw]
  try rfl))
theorem Ch_furthestLeast_1_e (h : am_H) (x0 x1 x2 : Int) : Ch_furthestLeast_1 h x0 x1 x2 = if 20 < x2 then some (h, x1) else ck_ (0 ≤ x0) (ck_ (0 ≤ (rf_ h x0 6)) (ck_ (0 ≤ x2 ∧ x2 < ln_ h (rf_ h x0 6)) (if (rd_ h (rf_ h x0 6) x2) ≤ 0 then Ch_furthestLeast_1 h x0 x1 (w32 (x2 + 1)) else Ch_furthestLeast_1 h x0 x2 (w32 (x2 + 1))))) := (ff_of bk_9_1 [(10, x0), (0, x1), (0, x2)] [] h).trans (by
  show (if 20 < x2 then JJ 9 5 [(10, x0), (0, x1), (0, x2)] [] h else JJ 9 2 [(10, x0), (0, x1), (0, x2)] [] h) = _
  simp only [jt_9_2, jt_9_5, ck_or1, ck_or2, rf_wr, ln_wr, nn_wr, rf_cp, ln_cp, nn_cp, ln_wf, nn_wf, rd_wf, nn_nw]
  try rfl)
theorem cc_9 (h : am_H) (x0 : Int) : CC 9 [(10, x0)] h = Ch_furthestLeast h x0 := cc_of pk_9 _ h
theorem pk_10 : am_prog 10 = some cd_10 := rfl
theorem bk_10_0 : bk_ am_prog 10 0 = some ([true, true], (bl_10_0, 9999)) := bk_of pk_10 rfl
theorem bk_10_1 : bk_ am_prog 10 1 = some ([true, true], (bl_10_1, 9999)) := bk_of pk_10 rfl
theorem bk_10_2 : bk_ am_prog 10 2 = some ([false, false], (bl_10_2, 9999)) := bk_of pk_10 rfl
theorem bk_10_3 : bk_ am_prog 10 3 = some ([true, true], (bl_10_3, 4)) := bk_of pk_10 rfl
theorem bk_10_4 : bk_ am_prog 10 4 = some ([false, false], (bl_10_4, 9999)) := bk_of pk_10 rfl
theorem jt_10_4 (h : am_H) (d0 d1 : am_V) (s0 : Int) : JJ 10 4 [d0, d1] [(0, s0)] h = some (h, s0) := (jj_of bk_10_4 _ _ h).trans (ff_of bk_10_4 [(9, 0), (9, 0)] [(0, s0)] h)
theorem jt_10_2 (h : am_H) (d0 d1 : am_V) : JJ 10 2 [d0, d1] [] h = some (h, (-1)) := (jj_of bk_10_2 _ _ h).trans ((ff_of bk_10_2 [(9, 0), (9, 0)] [] h).trans (by
  show (JJ 10 4 [(9, 0), (9, 0)] [(0, (-1))] h) = _
  simp only [jt_10_4, ck_or1, ck_or2, rf_wr, ln_wr, nn_wr, rf_cp, ln_cp, nn_cp, ln_wf, nn_wf, rd_wf, nn_nw]
  try rfl))
theorem jt_10_3 (h : am_H) (x0 x1 : Int) : JJ 10 3 [(10, x0), (0, x1)] [] h = ck_ (0 ≤ x0) (ck_ (0 ≤ (rf_ h x0 6)) (ck_ (0 ≤ x1 ∧ x1 < ln_ h (rf_ h x0 6)) (some (h, rd_ h (rf_ h x0 6) x1)))) := (jj_of bk_10_3 _ _ h).trans ((ff_of bk_10_3 [(10, x0), (0, x1)] [] h).trans (by
  show (ck_ (0 ≤ x0) (ck_ (0 ≤ (rf_ h x0 6)) (ck_ (0 ≤ x1 ∧ x1 < ln_ h (rf_ h x0 6)) (JJ 10 4 [(10, x0), (0, x1)] [(0, rd_ h (rf_ h x0 6) x1)] h)))) = _
  simp only [jt_10_4, ck_or1, ck_or2, rf_wr, ln_wr, nn_wr, rf_cp, ln_cp, nn_cp, ln_wf, nn_wf, rd_wf, nn_nw]
  try rfl))
theorem jt_10_1 (h : am_H) (x0 x1 : Int) : JJ 10 1 [(10, x0), (0, x1)] [] h = if x1 ≤ 20 then ck_ (0 ≤ x0) (ck_ (0 ≤ (rf_ h x0 6)) (ck_ (0 ≤ x1 ∧ x1 < ln_ h (rf_ h x0 6)) (some (h, rd_ h (rf_ h x0 6) x1)))) else some (h, (-1)) := (jj_of bk_10_1 _ _ h).trans ((ff_of bk_10_1 [(10, x0), (0, x1)] [] h).trans (by
  show (if x1 ≤ 20 then JJ 10 3 [(10, x0), (0, x1)] [] h else JJ 10 2 [(10, x0), (0, x1)] [] h) = _
  simp only [jt_10_2, jt_10_3, ck_or1, ck_or2, rf_wr, ln_wr, nn_wr, rf_cp, ln_cp, nn_cp, ln_wf, nn_wf, rd_wf, nn_nw]
  try rfl))
theorem Ch_statesAt_e (h : am_H) (x0 x1 : Int) : Ch_statesAt h x0 x1 = if x1 < 0 then some (h, (-1)) else if x1 ≤ 20 then ck_ (0 ≤ x0) (ck_ (0 ≤ (rf_ h x0 6)) (ck_ (0 ≤ x1 ∧ x1 < ln_ h (rf_ h x0 6)) (some (h, rd_ h (rf_ h x0 6) x1)))) else some (h, (-1)) := (ff_of bk_10_0 [(10, x0), (0, x1)] [] h).trans (by
  show (if x1 < 0 then JJ 10 2 [(10, x0), (0, x1)] [] h else JJ 10 1 [(10, x0), (0, x1)] [] h) = _
  simp only [jt_10_1, jt_10_2, ck_or1, ck_or2, rf_wr, ln_wr, nn_wr, rf_cp, ln_cp, nn_cp, ln_wf, nn_wf, rd_wf, nn_nw]
  try rfl)
theorem cc_10 (h : am_H) (x0 x1 : Int) : CC 10 [(10, x0), (0, x1)] h = Ch_statesAt h x0 x1 := cc_of pk_10 _ h
theorem pk_11 : am_prog 11 = some cd_11 := rfl
theorem bk_11_0 : bk_ am_prog 11 0 = some ([true, false, false, false, false, false, false, false, false, false], (bl_11_0, 1)) := bk_of pk_11 rfl
theorem bk_11_1 : bk_ am_prog 11 1 = some ([true, true, true, true, false, false, false, false, false, false], (bl_11_1, 9999)) := bk_of pk_11 rfl
theorem bk_11_2 : bk_ am_prog 11 2 = some ([true, true, true, true, false, false, false, false, false, false], (bl_11_2, 9999)) := bk_of pk_11 rfl
theorem bk_11_3 : bk_ am_prog 11 3 = some ([true, true, true, false, false, false, false, false, false, false], (bl_11_3, 4)) := bk_of pk_11 rfl
theorem bk_11_4 : bk_ am_prog 11 4 = some ([true, true, true, true, true, false, false, false, false, false], (bl_11_4, 9999)) := bk_of pk_11 rfl
theorem bk_11_5 : bk_ am_prog 11 5 = some ([true, true, true, true, true, false, false, false, false, false], (bl_11_5, 9999)) := bk_of pk_11 rfl
theorem bk_11_6 : bk_ am_prog 11 6 = some ([true, true, true, true, true, false, false, false, false, false], (bl_11_6, 7)) := bk_of pk_11 rfl
theorem bk_11_7 : bk_ am_prog 11 7 = some ([true, true, true, true, true, true, true, true, false, false], (bl_11_7, 9999)) := bk_of pk_11 rfl
theorem bk_11_8 : bk_ am_prog 11 8 = some ([true, true, true, true, true, true, true, true, false, false], (bl_11_8, 9999)) := bk_of pk_11 rfl
theorem bk_11_9 : bk_ am_prog 11 9 = some ([true, true, true, true, true, true, true, true, false, false], (bl_11_9, 9999)) := bk_of pk_11 rfl
theorem bk_11_10 : bk_ am_prog 11 10 = some ([true, true, true, true, true, true, true, true, false, false], (bl_11_10, 9999)) := bk_of pk_11 rfl
theorem bk_11_11 : bk_ am_prog 11 11 = some ([true, true, true, true, true, true, true, false, false, false], (bl_11_11, 9999)) := bk_of pk_11 rfl
theorem bk_11_12 : bk_ am_prog 11 12 = some ([true, true, true, true, true, true, true, false, false, false], (bl_11_12, 9999)) := bk_of pk_11 rfl
theorem bk_11_13 : bk_ am_prog 11 13 = some ([true, true, true, true, true, true, true, false, false, false], (bl_11_13, 14)) := bk_of pk_11 rfl
theorem bk_11_14 : bk_ am_prog 11 14 = some ([true, true, true, true, true, true, true, false, false, false], (bl_11_14, 15)) := bk_of pk_11 rfl
theorem bk_11_15 : bk_ am_prog 11 15 = some ([true, true, true, true, true, true, true, true, true, false], (bl_11_15, 9999)) := bk_of pk_11 rfl
theorem bk_11_16 : bk_ am_prog 11 16 = some ([true, true, true, true, true, true, true, true, true, false], (bl_11_16, 9999)) := bk_of pk_11 rfl
theorem bk_11_17 : bk_ am_prog 11 17 = some ([true, true, true, true, true, true, true, true, true, false], (bl_11_17, 9999)) := bk_of pk_11 rfl
theorem bk_11_18 : bk_ am_prog 11 18 = some ([true, true, true, true, true, true, true, true, true, false], (bl_11_18, 19)) := bk_of pk_11 rfl
theorem bk_11_19 : bk_ am_prog 11 19 = some ([true, true, true, true, true, true, true, true, true, false], (bl_11_19, 9999)) := bk_of pk_11 rfl
theorem bk_11_20 : bk_ am_prog 11 20 = some ([true, true, true, true, true, true, true, true, true, true], (bl_11_20, 21)) := bk_of pk_11 rfl
theorem bk_11_21 : bk_ am_prog 11 21 = some ([true, true, true, true, true, true, true, true, true, false], (bl_11_21, 9999)) := bk_of pk_11 rfl
theorem bk_11_22 : bk_ am_prog 11 22 = some ([true, true, true, true, true, false, false, false, false, false], (bl_11_22, 9999)) := bk_of pk_11 rfl
theorem bk_11_23 : bk_ am_prog 11 23 = some ([false, false, false, false, false, false, false, false, false, false], (bl_11_23, 9999)) := bk_of pk_11 rfl
theorem jt_11_1 (h : am_H) (d4 d5 d6 d7 d8 d9 : am_V) (x0 x1 x2 x3 : Int) : JJ 11 1 [(10, x0), (30, x1), (30, x2), (0, x3), d4, d5, d6, d7, d8, d9] [] h = Ch_reach_1 h x0 x1 x2 x3 := jj_of bk_11_1 _ _ h
theorem jt_11_4 (h : am_H) (d5 d6 d7 d8 d9 : am_V) (x0 x1 x2 x3 x4 : Int) : JJ 11 4 [(10, x0), (30, x1), (30, x2), (0, x3), (0, x4), d5, d6, d7, d8, d9] [] h = Ch_reach_4 h x0 x1 x2 x3 x4 := jj_of bk_11_4 _ _ h
theorem jt_11_7 (h : am_H) (d8 d9 : am_V) (x0 x1 x2 x3 x4 x5 x6 x7 : Int) : JJ 11 7 [(10, x0), (30, x1), (30, x2), (0, x3), (0, x4), (0, x5), (0, x6), (0, x7), d8, d9] [] h = Ch_reach_7 h x0 x1 x2 x3 x4 x5 x6 x7 := jj_of bk_11_7 _ _ h
theorem jt_11_15 (h : am_H) (d9 : am_V) (x0 x1 x2 x3 x4 x5 x6 x7 x8 : Int) : JJ 11 15 [(10, x0), (30, x1), (30, x2), (0, x3), (0, x4), (0, x5), (0, x6), (0, x7), (0, x8), d9] [] h = Ch_reach_15 h x0 x1 x2 x3 x4 x5 x6 x7 x8 := jj_of bk_11_15 _ _ h
theorem jt_11_19 (h : am_H) (d9 : am_V) (x0 x1 x2 x3 x4 x5 x6 x7 x8 s0 s1 s2 : Int) : JJ 11 19 [(10, x0), (30, x1), (30, x2), (0, x3), (0, x4), (0, x5), (0, x6), (0, x7), (0, x8), d9] [(0, s0), (10, s1), (0, s2)] h = Ch_reach_19 h x0 x1 x2 x3 x4 x5 x6 x7 x8 s0 s1 s2 := jj_of bk_11_19 _ _ h
theorem Ch_reach_e (h : am_H) (x0 : Int) : Ch_reach h x0 = ck_ (0 ≤ x0) (ck_ (0 ≤ (w32 (2 * (rd_ h x0 3))) ∧ (w32 (2 * (rd_ h x0 3))) ≤ 1000000) (ck_ (0 ≤ x0) (ck_ (0 ≤ (w32 (2 * (rd_ (nw_ h 20 (w32 (2 * (rd_ h x0 3)))) x0 3))) ∧ (w32 (2 * (rd_ (nw_ h 20 (w32 (2 * (rd_ h x0 3)))) x0 3))) ≤ 1000000) (Ch_reach_1 (nw_ (nw_ h 20 (w32 (2 * (rd_ h x0 3)))) 20 (w32 (2 * (rd_ (nw_ h 20 (w32 (2 * (rd_ h x0 3)))) x0 3)))) x0 (nn_ h) (nn_ h + 1) 1)))) := (ff_of bk_11_0 [(10, x0), (9, 0), (9, 0), (9, 0), (9, 0), (9, 0), (9, 0), (9, 0), (9, 0), (9, 0)] [] h).trans (by
  show (ck_ (0 ≤ x0) (ck_ (0 ≤ (w32 (2 * (rd_ h x0 3))) ∧ (w32 (2 * (rd_ h x0 3))) ≤ 1000000) (ck_ (0 ≤ x0) (ck_ (0 ≤ (w32 (2 * (rd_ (nw_ h 20 (w32 (2 * (rd_ h x0 3)))) x0 3))) ∧ (w32 (2 * (rd_ (nw_ h 20 (w32 (2 * (rd_ h x0 3)))) x0 3))) ≤ 1000000) (JJ 11 1 [(10, x0), (30, nn_ h), (30, nn_ h + 1), (0, 1), (9, 0), (9, 0), (9, 0), (9, 0), (9, 0), (9, 0)] [] (nw_ (nw_ h 20 (w32 (2 * (rd_ h x0 3)))) 20 (w32 (2 * (rd_ (nw_ h 20 (w32 (2 * (rd_ h x0 3)))) x0 3))))))))) = _
  simp only [jt_11_1, ck_or1, ck_or2, rf_wr, ln_wr, nn_wr, rf_cp, ln_cp, nn_cp, ln_wf, nn_wf, rd_wf, nn_nw]
  try rfl)
theorem jt_11_3 (h : am_H) (d3 d4 d5 d6 d7 d8 d9 : am_V) (x0 x1 x2 : Int) : JJ 11 3 [(10, x0), (30, x1), (30, x2), d3, d4, d5, d6, d7, d8, d9] [] h = Ch_reach_4 h x0 x1 x2 1 0 := (jj_of bk_11_3 _ _ h).trans ((ff_of bk_11_3 [(10, x0), (30, x1), (30, x2), (9, 0), (9, 0), (9, 0), (9, 0), (9, 0), (9, 0), (9, 0)] [] h).trans (by
  show (JJ 11 4 [(10, x0), (30, x1), (30, x2), (0, 1), (0, 0), (9, 0), (9, 0), (9, 0), (9, 0), (9, 0)] [] h) = _
  simp only [jt_11_4, ck_or1, ck_or2, rf_wr, ln_wr, nn_wr, rf_cp, ln_cp, nn_cp, ln_wf, nn_wf, rd_wf, nn_nw]
  try rfl))
theorem jt_11_2 (h : am_H) (d4 d5 d6 d7 d8 d9 : am_V) (x0 x1 x2 x3 : Int) : JJ 11 2 [(10, x0), (30, x1), (30, x2), (0, x3), d4, d5, d6, d7, d8, d9] [] h = ck_ (0 ≤ x1) (ck_ (0 ≤ x3 ∧ x3 < ln_ h x1) (Ch_reach_1 (wr_ h x1 x3 (-1)) x0 x1 x2 (w32 (x3 + 1)))) := (jj_of bk_11_2 _ _ h).trans ((ff_of bk_11_2 [(10, x0), (30, x1), (30, x2), (0, x3), (9, 0), (9, 0), (9, 0), (9, 0), (9, 0), (9, 0)] [] h).trans (by
  show (ck_ (0 ≤ x1) (ck_ (0 ≤ x3 ∧ x3 < ln_ h x1) (JJ 11 1 [(10, x0), (30, x1), (30, x2), (0, w32 (x3 + 1)), (9, 0), (9, 0), (9, 0), (9, 0), (9, 0), (9, 0)] [] (wr_ h x1 x3 (-1))))) = _
  simp only [jt_11_1, ck_or1, ck_or2, rf_wr, ln_wr, nn_wr, rf_cp, ln_cp, nn_cp, ln_wf, nn_wf, rd_wf, nn_nw]
  try rfl))
theorem Ch_reach_1_e (h : am_H) (x0 x1 x2 x3 : Int) : Ch_reach_1 h x0 x1 x2 x3 = ck_ (0 ≤ x1) (if (ln_ h x1) ≤ x3 then Ch_reach_4 h x0 x1 x2 1 0 else ck_ (0 ≤ x1) (ck_ (0 ≤ x3 ∧ x3 < ln_ h x1) (Ch_reach_1 (wr_ h x1 x3 (-1)) x0 x1 x2 (w32 (x3 + 1))))) := (ff_of bk_11_1 [(10, x0), (30, x1), (30, x2), (0, x3), (9, 0), (9, 0), (9, 0), (9, 0), (9, 0), (9, 0)] [] h).trans (by
  show (ck_ (0 ≤ x1) (if (ln_ h x1) ≤ x3 then JJ 11 3 [(10, x0), (30, x1), (30, x2), (0, x3), (9, 0), (9, 0), (9, 0), (9, 0), (9, 0), (9, 0)] [] h else JJ 11 2 [(10, x0), (30, x1), (30, x2), (0, x3), (9, 0), (9, 0), (9, 0), (9, 0), (9, 0), (9, 0)] [] h)) = _
  simp only [jt_11_2, jt_11_3, ck_or1, ck_or2, rf_wr, ln_wr, nn_wr, rf_cp, ln_cp, nn_cp, ln_wf, nn_wf, rd_wf, nn_nw]
  try rfl)
theorem jt_11_23 (h : am_H) (d0 d1 d2 d3 d4 d5 d6 d7 d8 d9 : am_V) : JJ 11 23 [d0, d1, d2, d3, d4, d5, d6, d7, d8, d9] [] h = some (h, 0) := (jj_of bk_11_23 _ _ h).trans (ff_of bk_11_23 [(9, 0), (9, 0), (9, 0), (9, 0), (9, 0), (9, 0), (9, 0), (9, 0), (9, 0), (9, 0)] [] h)
theorem jt_11_6 (h : am_H) (d5 d6 d7 d8 d9 : am_V) (x0 x1 x2 x3 x4 : Int) : JJ 11 6 [(10, x0), (30, x1), (30, x2), (0, x3), (0, x4), d5, d6, d7, d8, d9] [] h = ck_ (0 ≤ x2) (ck_ (0 ≤ x4 ∧ x4 < ln_ h x2) (ck_ (0 ≤ x1) (ck_ (0 ≤ (rd_ h x2 x4) ∧ (rd_ h x2 x4) < ln_ h x1) (Ch_reach_7 h x0 x1 x2 x3 x4 (rd_ h x2 x4) (rd_ h x1 (rd_ h x2 x4)) (rd_ h x1 (rd_ h x2 x4)))))) := (jj_of bk_11_6 _ _ h).trans ((ff_of bk_11_6 [(10, x0), (30, x1), (30, x2), (0, x3), (0, x4), (9, 0), (9, 0), (9, 0), (9, 0), (9, 0)] [] h).trans (by
  show (ck_ (0 ≤ x2) (ck_ (0 ≤ x4 ∧ x4 < ln_ h x2) (ck_ (0 ≤ x1) (ck_ (0 ≤ (rd_ h x2 x4) ∧ (rd_ h x2 x4) < ln_ h x1) (JJ 11 7 [(10, x0), (30, x1), (30, x2), (0, x3), (0, x4), (0, rd_ h x2 x4), (0, rd_ h x1 (rd_ h x2 x4)), (0, rd_ h x1 (rd_ h x2 x4)), (9, 0), (9, 0)] [] h))))) = _
  simp only [jt_11_7, ck_or1, ck_or2, rf_wr, ln_wr, nn_wr, rf_cp, ln_cp, nn_cp, ln_wf, nn_wf, rd_wf, nn_nw]
  try rfl))
theorem jt_11_5 (h : am_H) (d5 d6 d7 d8 d9 : am_V) (x0 x1 x2 x3 x4 : Int) : JJ 11 5 [(10, x0), (30, x1), (30, x2), (0, x3), (0, x4), d5, d6, d7, d8, d9] [] h = ck_ (0 ≤ x0) (if (w32 (2 * (rd_ h x0 3))) ≤ x4 then some (h, 0) else ck_ (0 ≤ x2) (ck_ (0 ≤ x4 ∧ x4 < ln_ h x2) (ck_ (0 ≤ x1) (ck_ (0 ≤ (rd_ h x2 x4) ∧ (rd_ h x2 x4) < ln_ h x1) (Ch_reach_7 h x0 x1 x2 x3 x4 (rd_ h x2 x4) (rd_ h x1 (rd_ h x2 x4)) (rd_ h x1 (rd_ h x2 x4))))))) := (jj_of bk_11_5 _ _ h).trans ((ff_of bk_11_5 [(10, x0), (30, x1), (30, x2), (0, x3), (0, x4), (9, 0), (9, 0), (9, 0), (9, 0), (9, 0)] [] h).trans (by
  show (ck_ (0 ≤ x0) (if (w32 (2 * (rd_ h x0 3))) ≤ x4 then JJ 11 23 [(10, x0), (30, x1), (30, x2), (0, x3), (0, x4), (9, 0), (9, 0), (9, 0), (9, 0), (9, 0)] [] h else JJ 11 6 [(10, x0), (30, x1), (30, x2), (0, x3), (0, x4), (9, 0), (9, 0), (9, 0), (9, 0), (9, 0)] [] h)) = _
  simp only [jt_11_23, jt_11_6, ck_or1, ck_or2, rf_wr, ln_wr, nn_wr, rf_cp, ln_cp, nn_cp, ln_wf, nn_wf, rd_wf, nn_nw]
  try rfl))
theorem Ch_reach_4_e (h : am_H) (x0 x1 x2 x3 x4 : Int) : Ch_reach_4 h x0 x1 x2 x3 x4 = if x3 ≤ x4 then some (h, 0) else ck_ (0 ≤ x0) (if (w32 (2 * (rd_ h x0 3))) ≤ x4 then some (h, 0) else ck_ (0 ≤ x2) (ck_ (0 ≤ x4 ∧ x4 < ln_ h x2) (ck_ (0 ≤ x1) (ck_ (0 ≤ (rd_ h x2 x4) ∧ (rd_ h x2 x4) < ln_ h x1) (Ch_reach_7 h x0 x1 x2 x3 x4 (rd_ h x2 x4) (rd_ h x1 (rd_ h x2 x4)) (rd_ h x1 (rd_ h x2 x4))))))) := (ff_of bk_11_4 [(10, x0), (30, x1), (30, x2), (0, x3), (0, x4), (9, 0), (9, 0), (9, 0), (9, 0), (9, 0)] [] h).trans (by
  show (if x3 ≤ x4 then JJ 11 23 [(10, x0), (30, x1), (30, x2), (0, x3), (0, x4), (9, 0), (9, 0), (9, 0), (9, 0), (9, 0)] [] h else JJ 11 5 [(10, x0), (30, x1), (30, x2), (0, x3), (0, x4), (9, 0), (9, 0), (9, 0), (9, 0), (9, 0)] [] h) = _
  simp only [jt_11_23, jt_11_5, ck_or1, ck_or2, rf_wr, ln_wr, nn_wr, rf_cp, ln_cp, nn_cp, ln_wf, nn_wf, rd_wf, nn_nw]
  try rfl)
theorem jt_11_14 (h : am_H) (d7 d8 d9 : am_V) (x0 x1 x2 x3 x4 x5 x6 s0 : Int) : JJ 11 14 [(10, x0), (30, x1), (30, x2), (0, x3), (0, x4), (0, x5), (0, x6), d7, d8, d9] [(0, s0)] h = Ch_reach_15 h x0 x1 x2 x3 x4 x5 x6 s0 1 := (jj_of bk_11_14 _ _ h).trans ((ff_of bk_11_14 [(10, x0), (30, x1), (30, x2), (0, x3), (0, x4), (0, x5), (0, x6), (9, 0), (9, 0), (9, 0)] [(0, s0)] h).trans (by
  show (JJ 11 15 [(10, x0), (30, x1), (30, x2), (0, x3), (0, x4), (0, x5), (0, x6), (0, s0), (0, 1), (9, 0)] [] h) = _
  simp only [jt_11_15, ck_or1, ck_or2, rf_wr, ln_wr, nn_wr, rf_cp, ln_cp, nn_cp, ln_wf, nn_wf, rd_wf, nn_nw]
  try rfl))
theorem jt_11_13 (h : am_H) (d7 d8 d9 : am_V) (x0 x1 x2 x3 x4 x5 x6 : Int) : JJ 11 13 [(10, x0), (30, x1), (30, x2), (0, x3), (0, x4), (0, x5), (0, x6), d7, d8, d9] [] h = Ch_reach_15 h x0 x1 x2 x3 x4 x5 x6 0 1 := (jj_of bk_11_13 _ _ h).trans ((ff_of bk_11_13 [(10, x0), (30, x1), (30, x2), (0, x3), (0, x4), (0, x5), (0, x6), (9, 0), (9, 0), (9, 0)] [] h).trans (by
  show (JJ 11 14 [(10, x0), (30, x1), (30, x2), (0, x3), (0, x4), (0, x5), (0, x6), (9, 0), (9, 0), (9, 0)] [(0, 0)] h) = _
  simp only [jt_11_14, ck_or1, ck_or2, rf_wr, ln_wr, nn_wr, rf_cp, ln_cp, nn_cp, ln_wf, nn_wf, rd_wf, nn_nw]
  try rfl))
theorem jt_11_12 (h : am_H) (d7 d8 d9 : am_V) (x0 x1 x2 x3 x4 x5 x6 : Int) : JJ 11 12 [(10, x0), (30, x1), (30, x2), (0, x3), (0, x4), (0, x5), (0, x6), d7, d8, d9] [] h = ck_ (0 ≤ x0) (Ch_reach_15 h x0 x1 x2 x3 x4 x5 x6 (rd_ h x0 3) 1) := (jj_of bk_11_12 _ _ h).trans ((ff_of bk_11_12 [(10, x0), (30, x1), (30, x2), (0, x3), (0, x4), (0, x5), (0, x6), (9, 0), (9, 0), (9, 0)] [] h).trans (by
  show (ck_ (0 ≤ x0) (JJ 11 14 [(10, x0), (30, x1), (30, x2), (0, x3), (0, x4), (0, x5), (0, x6), (9, 0), (9, 0), (9, 0)] [(0, rd_ h x0 3)] h)) = _
  simp only [jt_11_14, ck_or1, ck_or2, rf_wr, ln_wr, nn_wr, rf_cp, ln_cp, nn_cp, ln_wf, nn_wf, rd_wf, nn_nw]
  try rfl))
theorem jt_11_11 (h : am_H) (d7 d8 d9 : am_V) (x0 x1 x2 x3 x4 x5 x6 : Int) : JJ 11 11 [(10, x0), (30, x1), (30, x2), (0, x3), (0, x4), (0, x5), (0, x6), d7, d8, d9] [] h = ck_ (0 ≤ x0) (if (rd_ h x0 3) ≤ x5 then Ch_reach_15 h x0 x1 x2 x3 x4 x5 x6 0 1 else ck_ (0 ≤ x0) (Ch_reach_15 h x0 x1 x2 x3 x4 x5 x6 (rd_ h x0 3) 1)) := (jj_of bk_11_11 _ _ h).trans ((ff_of bk_11_11 [(10, x0), (30, x1), (30, x2), (0, x3), (0, x4), (0, x5), (0, x6), (9, 0), (9, 0), (9, 0)] [] h).trans (by
  show (ck_ (0 ≤ x0) (if (rd_ h x0 3) ≤ x5 then JJ 11 13 [(10, x0), (30, x1), (30, x2), (0, x3), (0, x4), (0, x5), (0, x6), (9, 0), (9, 0), (9, 0)] [] h else JJ 11 12 [(10, x0), (30, x1), (30, x2), (0, x3), (0, x4), (0, x5), (0, x6), (9, 0), (9, 0), (9, 0)] [] h)) = _
  simp only [jt_11_12, jt_11_13, ck_or1, ck_or2, rf_wr, ln_wr, nn_wr, rf_cp, ln_cp, nn_cp, ln_wf, nn_wf, rd_wf, nn_nw]
  try rfl))
theorem jt_11_10 (h : am_H) (d8 d9 : am_V) (x0 x1 x2 x3 x4 x5 x6 x7 : Int) : JJ 11 10 [(10, x0), (30, x1), (30, x2), (0, x3), (0, x4), (0, x5), (0, x6), (0, x7), d8, d9] [] h = ck_ (0 ≤ x0) (ck_ (0 ≤ (rf_ h x0 7)) (ck_ (0 ≤ x7 ∧ x7 < ln_ h (rf_ h x0 7)) (ck_ (0 ≤ (rf_ h x0 7)) (ck_ (0 ≤ x7 ∧ x7 < ln_ h (rf_ h x0 7)) (Ch_reach_7 (wr_ h (rf_ h x0 7) x7 (w32 ((rd_ h (rf_ h x0 7) x7) + 1))) x0 x1 x2 x3 x4 x5 x6 (w32 (x7 + 2))))))) := (jj_of bk_11_10 _ _ h).trans ((ff_of bk_11_10 [(10, x0), (30, x1), (30, x2), (0, x3), (0, x4), (0, x5), (0, x6), (0, x7), (9, 0), (9, 0)] [] h).trans (by
  show (ck_ (0 ≤ x0) (ck_ (0 ≤ (rf_ h x0 7)) (ck_ (0 ≤ x7 ∧ x7 < ln_ h (rf_ h x0 7)) (ck_ (0 ≤ (rf_ h x0 7)) (ck_ (0 ≤ x7 ∧ x7 < ln_ h (rf_ h x0 7)) (JJ 11 7 [(10, x0), (30, x1), (30, x2), (0, x3), (0, x4), (0, x5), (0, x6), (0, w32 (x7 + 2)), (9, 0), (9, 0)] [] (wr_ h (rf_ h x0 7) x7 (w32 ((rd_ h (rf_ h x0 7) x7) + 1))))))))) = _
  simp only [jt_11_7, ck_or1, ck_or2, rf_wr, ln_wr, nn_wr, rf_cp, ln_cp, nn_cp, ln_wf, nn_wf, rd_wf, nn_nw]
  try rfl))
theorem jt_11_9 (h : am_H) (d8 d9 : am_V) (x0 x1 x2 x3 x4 x5 x6 x7 : Int) : JJ 11 9 [(10, x0), (30, x1), (30, x2), (0, x3), (0, x4), (0, x5), (0, x6), (0, x7), d8, d9] [] h = if x7 ≠ x6 then ck_ (0 ≤ x0) (if (rd_ h x0 3) ≤ x5 then Ch_reach_15 h x0 x1 x2 x3 x4 x5 x6 0 1 else ck_ (0 ≤ x0) (Ch_reach_15 h x0 x1 x2 x3 x4 x5 x6 (rd_ h x0 3) 1)) else ck_ (0 ≤ x0) (ck_ (0 ≤ (rf_ h x0 7)) (ck_ (0 ≤ x7 ∧ x7 < ln_ h (rf_ h x0 7)) (ck_ (0 ≤ (rf_ h x0 7)) (ck_ (0 ≤ x7 ∧ x7 < ln_ h (rf_ h x0 7)) (Ch_reach_7 (wr_ h (rf_ h x0 7) x7 (w32 ((rd_ h (rf_ h x0 7) x7) + 1))) x0 x1 x2 x3 x4 x5 x6 (w32 (x7 + 2))))))) := (jj_of bk_11_9 _ _ h).trans ((ff_of bk_11_9 [(10, x0), (30, x1), (30, x2), (0, x3), (0, x4), (0, x5), (0, x6), (0, x7), (9, 0), (9, 0)] [] h).trans (by
  show (if x7 ≠ x6 then JJ 11 11 [(10, x0), (30, x1), (30, x2), (0, x3), (0, x4), (0, x5), (0, x6), (0, x7), (9, 0), (9, 0)] [] h else JJ 11 10 [(10, x0), (30, x1), (30, x2), (0, x3), (0, x4), (0, x5), (0, x6), (0, x7), (9, 0), (9, 0)] [] h) = _
  simp only [jt_11_10, jt_11_11, ck_or1, ck_or2, rf_wr, ln_wr, nn_wr, rf_cp, ln_cp, nn_cp, ln_wf, nn_wf, rd_wf, nn_nw]
  try rfl))
set_option maxRecDepth 20000 in
theorem jt_11_8 (h : am_H) (d8 d9 : am_V) (x0 x1 x2 x3 x4 x5 x6 x7 : Int) : JJ 11 8 [(10, x0), (30, x1), (30, x2), (0, x3), (0, x4), (0, x5), (0, x6), (0, x7), d8, d9] [] h = ck_ (0 ≤ x0) (if 0 < (rd_ h x0 1) then ck_ (0 ≤ x0) (ck_ (0 ≤ (rf_ h x0 7)) (ck_ (0 ≤ x7 ∧ x7 < ln_ h (rf_ h x0 7)) (ck_ (0 ≤ (rf_ h x0 7)) (ck_ (0 ≤ x7 ∧ x7 < ln_ h (rf_ h x0 7)) (Ch_reach_7 (wr_ h (rf_ h x0 7) x7 (w32 ((rd_ h (rf_ h x0 7) x7) + 1))) x0 x1 x2 x3 x4 x5 x6 (w32 (x7 + 2))))))) else if x7 ≠ x6 then ck_ (0 ≤ x0) (if (rd_ h x0 3) ≤ x5 then Ch_reach_15 h x0 x1 x2 x3 x4 x5 x6 0 1 else ck_ (0 ≤ x0) (Ch_reach_15 h x0 x1 x2 x3 x4 x5 x6 (rd_ h x0 3) 1)) else ck_ (0 ≤ x0) (ck_ (0 ≤ (rf_ h x0 7)) (ck_ (0 ≤ x7 ∧ x7 < ln_ h (rf_ h x0 7)) (ck_ (0 ≤ (rf_ h x0 7)) (ck_ (0 ≤ x7 ∧ x7 < ln_ h (rf_ h x0 7)) (Ch_reach_7 (wr_ h (rf_ h x0 7) x7 (w32 ((rd_ h (rf_ h x0 7) x7) + 1))) x0 x1 x2 x3 x4 x5 x6 (w32 (x7 + 2)))))))) := (jj_of bk_11_8 _ _ h).trans ((ff_of bk_11_8 [(10, x0), (30, x1), (30, x2), (0, x3), (0, x4), (0, x5), (0, x6), (0, x7), (9, 0), (9, 0)] [] h).trans (by
  show (ck_ (0 ≤ x0) (if 0 < (rd_ h x0 1) then JJ 11 10 [(10, x0), (30, x1), (30, x2), (0, x3), (0, x4), (0, x5), (0, x6), (0, x7), (9, 0), (9, 0)] [] h else JJ 11 9 [(10, x0), (30, x1), (30, x2), (0, x3), (0, x4), (0, x5), (0, x6), (0, x7), (9, 0), (9, 0)] [] h)) = _
  simp only [jt_11_10, jt_11_9, ck_or1, ck_or2, rf_wr, ln_wr, nn_wr, rf_cp, ln_cp, nn_cp, ln_wf, nn_wf, rd_wf, nn_nw]
  try rfl))
set_option maxRecDepth 20000 in
theorem Ch_reach_7_e (h : am_H) (x0 x1 x2 x3 x4 x5 x6 x7 : Int) : Ch_reach_7 h x0 x1 x2 x3 x4 x5 x6 x7 = if 9 < x7 then ck_ (0 ≤ x0) (if (rd_ h x0 3) ≤ x5 then Ch_reach_15 h x0 x1 x2 x3 x4 x5 x6 0 1 else ck_ (0 ≤ x0) (Ch_reach_15 h x0 x1 x2 x3 x4 x5 x6 (rd_ h x0 3) 1)) else ck_ (0 ≤ x0) (if 0 < (rd_ h x0 1) then ck_ (0 ≤ x0) (ck_ (0 ≤ (rf_ h x0 7)) (ck_ (0 ≤ x7 ∧ x7 < ln_ h (rf_ h x0 7)) (ck_ (0 ≤ (rf_ h x0 7)) (ck_ (0 ≤ x7 ∧ x7 < ln_ h (rf_ h x0 7)) (Ch_reach_7 (wr_ h (rf_ h x0 7) x7 (w32 ((rd_ h (rf_ h x0 7) x7) + 1))) x0 x1 x2 x3 x4 x5 x6 (w32 (x7 + 2))))))) else if x7 ≠ x6 then ck_ (0 ≤ x0) (if (rd_ h x0 3) ≤ x5 then Ch_reach_15 h x0 x1 x2 x3 x4 x5 x6 0 1 else ck_ (0 ≤ x0) (Ch_reach_15 h x0 x1 x2 x3 x4 x5 x6 (rd_ h x0 3) 1)) else ck_ (0 ≤ x0) (ck_ (0 ≤ (rf_ h x0 7)) (ck_ (0 ≤ x7 ∧ x7 < ln_ h (rf_ h x0 7)) (ck_ (0 ≤ (rf_ h x0 7)) (ck_ (0 ≤ x7 ∧ x7 < ln_ h (rf_ h x0 7)) (Ch_reach_7 (wr_ h (rf_ h x0 7) x7 (w32 ((rd_ h (rf_ h x0 7) x7) + 1))) x0 x1 x2 x3 x4 x5 x6 (w32 (x7 + 2)))))))) := (ff_of bk_11_7 [(10, x0), (30, x1), (30, x2), (0, x3), (0, x4), (0, x5), (0, x6), (0, x7), (9, 0), (9, 0)] [] h).trans (by
  show (if 9 < x7 then JJ 11 11 [(10, x0), (30, x1), (30, x2), (0, x3), (0, x4), (0, x5), (0, x6), (0, x7), (9, 0), (9, 0)] [] h else JJ 11 8 [(10, x0), (30, x1), (30, x2), (0, x3), (0, x4), (0, x5), (0, x6), (0, x7), (9, 0), (9, 0)] [] h) = _
  simp only [jt_11_11, jt_11_8, ck_or1, ck_or2, rf_wr, ln_wr, nn_wr, rf_cp, ln_cp, nn_cp, ln_wf, nn_wf, rd_wf, nn_nw]
  try rfl)
theorem jt_11_22 (h : am_H) (d5 d6 d7 d8 d9 : am_V) (x0 x1 x2 x3 x4 : Int) : JJ 11 22 [(10, x0), (30, x1), (30, x2), (0, x3), (0, x4), d5, d6, d7, d8, d9] [] h = Ch_reach_4 h x0 x1 x2 x3 (w32 (x4 + 1)) := (jj_of bk_11_22 _ _ h).trans ((ff_of bk_11_22 [(10, x0), (30, x1), (30, x2), (0, x3), (0, x4), (9, 0), (9, 0), (9, 0), (9, 0), (9, 0)] [] h).trans (by
  show (JJ 11 4 [(10, x0), (30, x1), (30, x2), (0, x3), (0, w32 (x4 + 1)), (9, 0), (9, 0), (9, 0), (9, 0), (9, 0)] [] h) = _
  simp only [jt_11_4, ck_or1, ck_or2, rf_wr, ln_wr, nn_wr, rf_cp, ln_cp, nn_cp, ln_wf, nn_wf, rd_wf, nn_nw]
  try rfl))
theorem jt_11_18 (h : am_H) (d9 : am_V) (x0 x1 x2 x3 x4 x5 x6 x7 x8 s0 s1 : Int) : JJ 11 18 [(10, x0), (30, x1), (30, x2), (0, x3), (0, x4), (0, x5), (0, x6), (0, x7), (0, x8), d9] [(10, s0), (0, s1)] h = ck_ (0 ≤ x0) (Ch_reach_19 h x0 x1 x2 x3 x4 x5 x6 x7 x8 (w32 (x5 - (rd_ h x0 3))) s0 s1) := (jj_of bk_11_18 _ _ h).trans ((ff_of bk_11_18 [(10, x0), (30, x1), (30, x2), (0, x3), (0, x4), (0, x5), (0, x6), (0, x7), (0, x8), (9, 0)] [(10, s0), (0, s1)] h).trans (by
  show (ck_ (0 ≤ x0) (JJ 11 19 [(10, x0), (30, x1), (30, x2), (0, x3), (0, x4), (0, x5), (0, x6), (0, x7), (0, x8), (9, 0)] [(0, w32 (x5 - (rd_ h x0 3))), (10, s0), (0, s1)] h)) = _
  simp only [jt_11_19, ck_or1, ck_or2, rf_wr, ln_wr, nn_wr, rf_cp, ln_cp, nn_cp, ln_wf, nn_wf, rd_wf, nn_nw]
  try rfl))
theorem jt_11_17 (h : am_H) (d9 : am_V) (x0 x1 x2 x3 x4 x5 x6 x7 x8 s0 s1 : Int) : JJ 11 17 [(10, x0), (30, x1), (30, x2), (0, x3), (0, x4), (0, x5), (0, x6), (0, x7), (0, x8), d9] [(10, s0), (0, s1)] h = Ch_reach_19 h x0 x1 x2 x3 x4 x5 x6 x7 x8 x5 s0 s1 := (jj_of bk_11_17 _ _ h).trans ((ff_of bk_11_17 [(10, x0), (30, x1), (30, x2), (0, x3), (0, x4), (0, x5), (0, x6), (0, x7), (0, x8), (9, 0)] [(10, s0), (0, s1)] h).trans (by
  show (JJ 11 19 [(10, x0), (30, x1), (30, x2), (0, x3), (0, x4), (0, x5), (0, x6), (0, x7), (0, x8), (9, 0)] [(0, x5), (10, s0), (0, s1)] h) = _
  simp only [jt_11_19, ck_or1, ck_or2, rf_wr, ln_wr, nn_wr, rf_cp, ln_cp, nn_cp, ln_wf, nn_wf, rd_wf, nn_nw]
  try rfl))
theorem jt_11_16 (h : am_H) (d9 : am_V) (x0 x1 x2 x3 x4 x5 x6 x7 x8 : Int) : JJ 11 16 [(10, x0), (30, x1), (30, x2), (0, x3), (0, x4), (0, x5), (0, x6), (0, x7), (0, x8), d9] [] h = ck_ (0 ≤ x0) (if (rd_ h x0 3) ≤ x5 then ck_ (0 ≤ x0) (Ch_reach_19 h x0 x1 x2 x3 x4 x5 x6 x7 x8 (w32 (x5 - (rd_ h x0 3))) x0 x7) else Ch_reach_19 h x0 x1 x2 x3 x4 x5 x6 x7 x8 x5 x0 x7) := (jj_of bk_11_16 _ _ h).trans ((ff_of bk_11_16 [(10, x0), (30, x1), (30, x2), (0, x3), (0, x4), (0, x5), (0, x6), (0, x7), (0, x8), (9, 0)] [] h).trans (by
  show (ck_ (0 ≤ x0) (if (rd_ h x0 3) ≤ x5 then JJ 11 18 [(10, x0), (30, x1), (30, x2), (0, x3), (0, x4), (0, x5), (0, x6), (0, x7), (0, x8), (9, 0)] [(10, x0), (0, x7)] h else JJ 11 17 [(10, x0), (30, x1), (30, x2), (0, x3), (0, x4), (0, x5), (0, x6), (0, x7), (0, x8), (9, 0)] [(10, x0), (0, x7)] h)) = _
  simp only [jt_11_17, jt_11_18, ck_or1, ck_or2, rf_wr, ln_wr, nn_wr, rf_cp, ln_cp, nn_cp, ln_wf, nn_wf, rd_wf, nn_nw]
  try rfl))
theorem Ch_reach_15_e (h : am_H) (x0 x1 x2 x3 x4 x5 x6 x7 x8 : Int) : Ch_reach_15 h x0 x1 x2 x3 x4 x5 x6 x7 x8 = ck_ (0 ≤ x0) (if (rd_ h x0 1) < x8 then Ch_reach_4 h x0 x1 x2 x3 (w32 (x4 + 1)) else ck_ (0 ≤ x0) (if (rd_ h x0 3) ≤ x5 then ck_ (0 ≤ x0) (Ch_reach_19 h x0 x1 x2 x3 x4 x5 x6 x7 x8 (w32 (x5 - (rd_ h x0 3))) x0 x7) else Ch_reach_19 h x0 x1 x2 x3 x4 x5 x6 x7 x8 x5 x0 x7)) := (ff_of bk_11_15 [(10, x0), (30, x1), (30, x2), (0, x3), (0, x4), (0, x5), (0, x6), (0, x7), (0, x8), (9, 0)] [] h).trans (by
  show (ck_ (0 ≤ x0) (if (rd_ h x0 1) < x8 then JJ 11 22 [(10, x0), (30, x1), (30, x2), (0, x3), (0, x4), (0, x5), (0, x6), (0, x7), (0, x8), (9, 0)] [] h else JJ 11 16 [(10, x0), (30, x1), (30, x2), (0, x3), (0, x4), (0, x5), (0, x6), (0, x7), (0, x8), (9, 0)] [] h)) = _
  simp only [jt_11_16, jt_11_22, ck_or1, ck_or2, rf_wr, ln_wr, nn_wr, rf_cp, ln_cp, nn_cp, ln_wf, nn_wf, rd_wf, nn_nw]
  try rfl)
theorem jt_11_21 (h : am_H) (d9 : am_V) (x0 x1 x2 x3 x4 x5 x6 x7 x8 : Int) : JJ 11 21 [(10, x0), (30, x1), (30, x2), (0, x3), (0, x4), (0, x5), (0, x6), (0, x7), (0, x8), d9] [] h = Ch_reach_15 h x0 x1 x2 x3 x4 x5 x6 x7 (w32 (x8 + 1)) := (jj_of bk_11_21 _ _ h).trans ((ff_of bk_11_21 [(10, x0), (30, x1), (30, x2), (0, x3), (0, x4), (0, x5), (0, x6), (0, x7), (0, x8), (9, 0)] [] h).trans (by
  show (JJ 11 15 [(10, x0), (30, x1), (30, x2), (0, x3), (0, x4), (0, x5), (0, x6), (0, x7), (0, w32 (x8 + 1)), (9, 0)] [] h) = _
  simp only [jt_11_15, ck_or1, ck_or2, rf_wr, ln_wr, nn_wr, rf_cp, ln_cp, nn_cp, ln_wf, nn_wf, rd_wf, nn_nw]
  try rfl))
theorem jt_11_20 (h : am_H) (x0 x1 x2 x3 x4 x5 x6 x7 x8 x9 : Int) : JJ 11 20 [(10, x0), (30, x1), (30, x2), (0, x3), (0, x4), (0, x5), (0, x6), (0, x7), (0, x8), (0, x9)] [] h = ck_ (0 ≤ x1) (ck_ (0 ≤ x9 ∧ x9 < ln_ h x1) (ck_ (0 ≤ x2) (ck_ (0 ≤ x3 ∧ x3 < ln_ h x2) (Ch_reach_15 (wr_ (wr_ h x1 x9 (w32 (x6 + 1))) x2 x3 x9) x0 x1 x2 (w32 (x3 + 1)) x4 x5 x6 x7 (w32 (x8 + 1)))))) := (jj_of bk_11_20 _ _ h).trans ((ff_of bk_11_20 [(10, x0), (30, x1), (30, x2), (0, x3), (0, x4), (0, x5), (0, x6), (0, x7), (0, x8), (0, x9)] [] h).trans (by
  show (ck_ (0 ≤ x1) (ck_ (0 ≤ x9 ∧ x9 < ln_ h x1) (ck_ (0 ≤ x2) (ck_ (0 ≤ x3 ∧ x3 < ln_ h x2) (JJ 11 21 [(10, x0), (30, x1), (30, x2), (0, w32 (x3 + 1)), (0, x4), (0, x5), (0, x6), (0, x7), (0, x8), (0, x9)] [] (wr_ (wr_ h x1 x9 (w32 (x6 + 1))) x2 x3 x9)))))) = _
  simp only [jt_11_21, ck_or1, ck_or2, rf_wr, ln_wr, nn_wr, rf_cp, ln_cp, nn_cp, ln_wf, nn_wf, rd_wf, nn_nw]
  try rfl))
set_option maxRecDepth 20000 in
theorem Ch_reach_19_e (h : am_H) (x0 x1 x2 x3 x4 x5 x6 x7 x8 s0 s1 s2 : Int) : Ch_reach_19 h x0 x1 x2 x3 x4 x5 x6 x7 x8 s0 s1 s2 = ck_ (0 ≤ s1) (bd_ (Ch_turned h s1 s0 x8) fun h1 v2 => ck_ (0 ≤ x1) (ck_ (0 ≤ (w32 (s2 + v2)) ∧ (w32 (s2 + v2)) < ln_ h1 x1) (if (rd_ h1 x1 (w32 (s2 + v2))) ≠ (-1) then Ch_reach_15 h1 x0 x1 x2 x3 x4 x5 x6 x7 (w32 (x8 + 1)) else ck_ (0 ≤ x1) (ck_ (0 ≤ (w32 (s2 + v2)) ∧ (w32 (s2 + v2)) < ln_ h1 x1) (ck_ (0 ≤ x2) (ck_ (0 ≤ x3 ∧ x3 < ln_ h1 x2) (Ch_reach_15 (wr_ (wr_ h1 x1 (w32 (s2 + v2)) (w32 (x6 + 1))) x2 x3 (w32 (s2 + v2))) x0 x1 x2 (w32 (x3 + 1)) x4 x5 x6 x7 (w32 (x8 + 1))))))))) := (ff_of bk_11_19 [(10, x0), (30, x1), (30, x2), (0, x3), (0, x4), (0, x5), (0, x6), (0, x7), (0, x8), (9, 0)] [(0, s0), (10, s1), (0, s2)] h).trans (by
  show (ck_ (0 ≤ s1) (bd_ (CC 3 [(10, s1), (0, s0), (0, x8)] h) fun h1 v2 => ck_ (0 ≤ x1) (ck_ (0 ≤ (w32 (s2 + v2)) ∧ (w32 (s2 + v2)) < ln_ h1 x1) (if (rd_ h1 x1 (w32 (s2 + v2))) ≠ (-1) then JJ 11 21 [(10, x0), (30, x1), (30, x2), (0, x3), (0, x4), (0, x5), (0, x6), (0, x7), (0, x8), (0, w32 (s2 + v2))] [] h1 else JJ 11 20 [(10, x0), (30, x1), (30, x2), (0, x3), (0, x4), (0, x5), (0, x6), (0, x7), (0, x8), (0, w32 (s2 + v2))] [] h1)))) = _
  simp only [cc_3, jt_11_20, jt_11_21, ck_or1, ck_or2, rf_wr, ln_wr, nn_wr, rf_cp, ln_cp, nn_cp, ln_wf, nn_wf, rd_wf, nn_nw]
  try rfl)
theorem cc_11 (h : am_H) (x0 : Int) : CC 11 [(10, x0)] h = Ch_reach h x0 := cc_of pk_11 _ h
theorem pk_12 : am_prog 12 = some cd_12 := rfl
theorem bk_12_0 : bk_ am_prog 12 0 = some ([true, true], (bl_12_0, 9999)) := bk_of pk_12 rfl
theorem bk_12_1 : bk_ am_prog 12 1 = some ([true, true], (bl_12_1, 9999)) := bk_of pk_12 rfl
theorem bk_12_2 : bk_ am_prog 12 2 = some ([false, false], (bl_12_2, 9999)) := bk_of pk_12 rfl
theorem bk_12_3 : bk_ am_prog 12 3 = some ([true, true], (bl_12_3, 9999)) := bk_of pk_12 rfl
theorem bk_12_4 : bk_ am_prog 12 4 = some ([true, true], (bl_12_4, 5)) := bk_of pk_12 rfl
theorem bk_12_5 : bk_ am_prog 12 5 = some ([true, true], (bl_12_5, 9999)) := bk_of pk_12 rfl
theorem jt_12_2 (h : am_H) (d0 d1 : am_V) : JJ 12 2 [d0, d1] [] h = some (h, (-1)) := (jj_of bk_12_2 _ _ h).trans (ff_of bk_12_2 [(9, 0), (9, 0)] [] h)
theorem jt_12_5 (h : am_H) (x0 x1 : Int) : JJ 12 5 [(10, x0), (0, x1)] [] h = ck_ (0 ≤ x0) (ck_ (0 ≤ (rf_ h x0 7)) (ck_ (0 ≤ x1 ∧ x1 < ln_ h (rf_ h x0 7)) (some (h, rd_ h (rf_ h x0 7) x1)))) := (jj_of bk_12_5 _ _ h).trans (ff_of bk_12_5 [(10, x0), (0, x1)] [] h)
theorem jt_12_4 (h : am_H) (x0 x1 : Int) : JJ 12 4 [(10, x0), (0, x1)] [] h = ck_ (0 ≤ (10 : Int) ∧ (10 : Int) ≤ 1000000) (ck_ (0 ≤ x0) (ck_ (0 ≤ x0) (bd_ (Ch_reach (wf_ (nw_ h 20 10) x0 7 (nn_ h)) x0) fun h1 _ => ck_ (0 ≤ x0) (ck_ (0 ≤ (rf_ h1 x0 7)) (ck_ (0 ≤ x1 ∧ x1 < ln_ h1 (rf_ h1 x0 7)) (some (h1, rd_ h1 (rf_ h1 x0 7) x1))))))) := (jj_of bk_12_4 _ _ h).trans ((ff_of bk_12_4 [(10, x0), (0, x1)] [] h).trans (by
  show (ck_ (0 ≤ (10 : Int) ∧ (10 : Int) ≤ 1000000) (ck_ (0 ≤ x0) (ck_ (0 ≤ x0) (bd_ (CC 11 [(10, x0)] (wf_ (nw_ h 20 10) x0 7 (nn_ h))) fun h1 _ => JJ 12 5 [(10, x0), (0, x1)] [] h1)))) = _
  simp only [cc_11, jt_12_5, ck_or1, ck_or2, rf_wr, ln_wr, nn_wr, rf_cp, ln_cp, nn_cp, ln_wf, nn_wf, rd_wf, nn_nw]
  try rfl))
theorem jt_12_3 (h : am_H) (x0 x1 : Int) : JJ 12 3 [(10, x0), (0, x1)] [] h = ck_ (0 ≤ x0) (if (rf_ h x0 7) < 0 then ck_ (0 ≤ (10 : Int) ∧ (10 : Int) ≤ 1000000) (ck_ (0 ≤ x0) (ck_ (0 ≤ x0) (bd_ (Ch_reach (wf_ (nw_ h 20 10) x0 7 (nn_ h)) x0) fun h1 _ => ck_ (0 ≤ x0) (ck_ (0 ≤ (rf_ h1 x0 7)) (ck_ (0 ≤ x1 ∧ x1 < ln_ h1 (rf_ h1 x0 7)) (some (h1, rd_ h1 (rf_ h1 x0 7) x1))))))) else ck_ (0 ≤ x0) (ck_ (0 ≤ (rf_ h x0 7)) (ck_ (0 ≤ x1 ∧ x1 < ln_ h (rf_ h x0 7)) (some (h, rd_ h (rf_ h x0 7) x1))))) := (jj_of bk_12_3 _ _ h).trans ((ff_of bk_12_3 [(10, x0), (0, x1)] [] h).trans (by
  show (ck_ (0 ≤ x0) (if (rf_ h x0 7) < 0 then JJ 12 4 [(10, x0), (0, x1)] [] h else JJ 12 5 [(10, x0), (0, x1)] [] h)) = _
  simp only [jt_12_4, jt_12_5, ck_or1, ck_or2, rf_wr, ln_wr, nn_wr, rf_cp, ln_cp, nn_cp, ln_wf, nn_wf, rd_wf, nn_nw]
  try rfl))
theorem jt_12_1 (h : am_H) (x0 x1 : Int) : JJ 12 1 [(10, x0), (0, x1)] [] h = if x1 ≤ 9 then ck_ (0 ≤ x0) (if (rf_ h x0 7) < 0 then ck_ (0 ≤ (10 : Int) ∧ (10 : Int) ≤ 1000000) (ck_ (0 ≤ x0) (ck_ (0 ≤ x0) (bd_ (Ch_reach (wf_ (nw_ h 20 10) x0 7 (nn_ h)) x0) fun h1 _ => ck_ (0 ≤ x0) (ck_ (0 ≤ (rf_ h1 x0 7)) (ck_ (0 ≤ x1 ∧ x1 < ln_ h1 (rf_ h1 x0 7)) (some (h1, rd_ h1 (rf_ h1 x0 7) x1))))))) else ck_ (0 ≤ x0) (ck_ (0 ≤ (rf_ h x0 7)) (ck_ (0 ≤ x1 ∧ x1 < ln_ h (rf_ h x0 7)) (some (h, rd_ h (rf_ h x0 7) x1))))) else some (h, (-1)) := (jj_of bk_12_1 _ _ h).trans ((ff_of bk_12_1 [(10, x0), (0, x1)] [] h).trans (by
  show (if x1 ≤ 9 then JJ 12 3 [(10, x0), (0, x1)] [] h else JJ 12 2 [(10, x0), (0, x1)] [] h) = _
  simp only [jt_12_2, jt_12_3, ck_or1, ck_or2, rf_wr, ln_wr, nn_wr, rf_cp, ln_cp, nn_cp, ln_wf, nn_wf, rd_wf, nn_nw]
  try rfl))
theorem Ch_reachedBy_e (h : am_H) (x0 x1 : Int) : Ch_reachedBy h x0 x1 = if x1 < 0 then some (h, (-1)) else if x1 ≤ 9 then ck_ (0 ≤ x0) (if (rf_ h x0 7) < 0 then ck_ (0 ≤ (10 : Int) ∧ (10 : Int) ≤ 1000000) (ck_ (0 ≤ x0) (ck_ (0 ≤ x0) (bd_ (Ch_reach (wf_ (nw_ h 20 10) x0 7 (nn_ h)) x0) fun h1 _ => ck_ (0 ≤ x0) (ck_ (0 ≤ (rf_ h1 x0 7)) (ck_ (0 ≤ x1 ∧ x1 < ln_ h1 (rf_ h1 x0 7)) (some (h1, rd_ h1 (rf_ h1 x0 7) x1))))))) else ck_ (0 ≤ x0) (ck_ (0 ≤ (rf_ h x0 7)) (ck_ (0 ≤ x1 ∧ x1 < ln_ h (rf_ h x0 7)) (some (h, rd_ h (rf_ h x0 7) x1))))) else some (h, (-1)) := (ff_of bk_12_0 [(10, x0), (0, x1)] [] h).trans (by
  show (if x1 < 0 then JJ 12 2 [(10, x0), (0, x1)] [] h else JJ 12 1 [(10, x0), (0, x1)] [] h) = _
  simp only [jt_12_1, jt_12_2, ck_or1, ck_or2, rf_wr, ln_wr, nn_wr, rf_cp, ln_cp, nn_cp, ln_wf, nn_wf, rd_wf, nn_nw]
  try rfl)
theorem cc_12 (h : am_H) (x0 x1 : Int) : CC 12 [(10, x0), (0, x1)] h = Ch_reachedBy h x0 x1 := cc_of pk_12 _ h
theorem pk_13 : am_prog 13 = some cd_13 := rfl
theorem bk_13_0 : bk_ am_prog 13 0 = some ([true, false], (bl_13_0, 9999)) := bk_of pk_13 rfl
theorem bk_13_1 : bk_ am_prog 13 1 = some ([false, true], (bl_13_1, 9999)) := bk_of pk_13 rfl
theorem bk_13_2 : bk_ am_prog 13 2 = some ([false, true], (bl_13_2, 3)) := bk_of pk_13 rfl
theorem bk_13_3 : bk_ am_prog 13 3 = some ([false, false], (bl_13_3, 9999)) := bk_of pk_13 rfl
theorem jt_13_3 (h : am_H) (d0 d1 : am_V) (s0 : Int) : JJ 13 3 [d0, d1] [(0, s0)] h = some (h, s0) := (jj_of bk_13_3 _ _ h).trans (ff_of bk_13_3 [(9, 0), (9, 0)] [(0, s0)] h)
theorem jt_13_2 (h : am_H) (d0 : am_V) (x1 : Int) : JJ 13 2 [d0, (0, x1)] [] h = some (h, an_ x1 (-2)) := (jj_of bk_13_2 _ _ h).trans ((ff_of bk_13_2 [(9, 0), (0, x1)] [] h).trans (by
  show (JJ 13 3 [(9, 0), (0, x1)] [(0, an_ x1 (-2))] h) = _
  simp only [jt_13_3, ck_or1, ck_or2, rf_wr, ln_wr, nn_wr, rf_cp, ln_cp, nn_cp, ln_wf, nn_wf, rd_wf, nn_nw]
  try rfl))
theorem jt_13_1 (h : am_H) (d0 : am_V) (x1 : Int) : JJ 13 1 [d0, (0, x1)] [] h = some (h, x1) := (jj_of bk_13_1 _ _ h).trans ((ff_of bk_13_1 [(9, 0), (0, x1)] [] h).trans (by
  show (JJ 13 3 [(9, 0), (0, x1)] [(0, x1)] h) = _
  simp only [jt_13_3, ck_or1, ck_or2, rf_wr, ln_wr, nn_wr, rf_cp, ln_cp, nn_cp, ln_wf, nn_wf, rd_wf, nn_nw]
  try rfl))
theorem Ch_allDepths_e (h : am_H) (x0 : Int) : Ch_allDepths h x0 = ck_ (0 ≤ x0) (ck_ (0 ≤ x0) (if (rd_ h x0 2) = 0 then some (h, an_ (w32 ((w32 (1 * 2 ^ ((rd_ h x0 1) % 32 : Int).toNat)) - 1)) (-2)) else some (h, w32 ((w32 (1 * 2 ^ ((rd_ h x0 1) % 32 : Int).toNat)) - 1)))) := (ff_of bk_13_0 [(10, x0), (9, 0)] [] h).trans (by
  show (ck_ (0 ≤ x0) (ck_ (0 ≤ x0) (if (rd_ h x0 2) = 0 then JJ 13 2 [(10, x0), (0, w32 ((w32 (1 * 2 ^ ((rd_ h x0 1) % 32 : Int).toNat)) - 1))] [] h else JJ 13 1 [(10, x0), (0, w32 ((w32 (1 * 2 ^ ((rd_ h x0 1) % 32 : Int).toNat)) - 1))] [] h))) = _
  simp only [jt_13_1, jt_13_2, ck_or1, ck_or2, rf_wr, ln_wr, nn_wr, rf_cp, ln_cp, nn_cp, ln_wf, nn_wf, rd_wf, nn_nw]
  try rfl)
theorem cc_13 (h : am_H) (x0 : Int) : CC 13 [(10, x0)] h = Ch_allDepths h x0 := cc_of pk_13 _ h
theorem pk_14 : am_prog 14 = some cd_14 := rfl
theorem bk_14_0 : bk_ am_prog 14 0 = some ([true, true, true], (bl_14_0, 9999)) := bk_of pk_14 rfl
theorem bk_14_1 : bk_ am_prog 14 1 = some ([true, true, true], (bl_14_1, 9999)) := bk_of pk_14 rfl
theorem bk_14_2 : bk_ am_prog 14 2 = some ([false, false, false], (bl_14_2, 9999)) := bk_of pk_14 rfl
theorem bk_14_3 : bk_ am_prog 14 3 = some ([true, true, true], (bl_14_3, 9999)) := bk_of pk_14 rfl
theorem bk_14_4 : bk_ am_prog 14 4 = some ([true, true, false], (bl_14_4, 9999)) := bk_of pk_14 rfl
theorem bk_14_5 : bk_ am_prog 14 5 = some ([true, true, false], (bl_14_5, 6)) := bk_of pk_14 rfl
theorem bk_14_6 : bk_ am_prog 14 6 = some ([false, false, false], (bl_14_6, 9999)) := bk_of pk_14 rfl
theorem jt_14_2 (h : am_H) (d0 d1 d2 : am_V) : JJ 14 2 [d0, d1, d2] [] h = some (h, 0) := (jj_of bk_14_2 _ _ h).trans (ff_of bk_14_2 [(9, 0), (9, 0), (9, 0)] [] h)
theorem jt_14_6 (h : am_H) (d0 d1 d2 : am_V) : JJ 14 6 [d0, d1, d2] [] h = some (h, 0) := (jj_of bk_14_6 _ _ h).trans (ff_of bk_14_6 [(9, 0), (9, 0), (9, 0)] [] h)
set_option maxRecDepth 20000 in
theorem jt_14_5 (h : am_H) (d2 : am_V) (x0 x1 : Int) : JJ 14 5 [(10, x0), (0, x1), d2] [] h = ck_ (0 ≤ x0) (ck_ (0 ≤ (rf_ h x0 8)) (ck_ (0 ≤ x1 ∧ x1 < ln_ h (rf_ h x0 8)) (ck_ (0 ≤ (rf_ h x0 8)) (ck_ (0 ≤ x1 ∧ x1 < ln_ h (rf_ h x0 8)) (ck_ (0 ≤ x0) (ck_ (0 ≤ x0) (ck_ (0 ≤ (rf_ h x0 9)) (ck_ (0 ≤ (rd_ (wr_ h (rf_ h x0 8) x1 (or_ (rd_ h (rf_ h x0 8) x1) 1024)) x0 10) ∧ (rd_ (wr_ h (rf_ h x0 8) x1 (or_ (rd_ h (rf_ h x0 8) x1) 1024)) x0 10) < ln_ h (rf_ h x0 9)) (ck_ (0 ≤ x0) (ck_ (0 ≤ x0) (some (wr_ (wr_ (wr_ h (rf_ h x0 8) x1 (or_ (rd_ h (rf_ h x0 8) x1) 1024)) (rf_ h x0 9) (rd_ (wr_ h (rf_ h x0 8) x1 (or_ (rd_ h (rf_ h x0 8) x1) 1024)) x0 10) x1) x0 10 (w32 ((rd_ (wr_ (wr_ h (rf_ h x0 8) x1 (or_ (rd_ h (rf_ h x0 8) x1) 1024)) (rf_ h x0 9) (rd_ (wr_ h (rf_ h x0 8) x1 (or_ (rd_ h (rf_ h x0 8) x1) 1024)) x0 10) x1) x0 10) + 1)), 0)))))))))))) := (jj_of bk_14_5 _ _ h).trans ((ff_of bk_14_5 [(10, x0), (0, x1), (9, 0)] [] h).trans (by
  show (ck_ (0 ≤ x0) (ck_ (0 ≤ (rf_ h x0 8)) (ck_ (0 ≤ x1 ∧ x1 < ln_ h (rf_ h x0 8)) (ck_ (0 ≤ (rf_ h x0 8)) (ck_ (0 ≤ x1 ∧ x1 < ln_ h (rf_ h x0 8)) (ck_ (0 ≤ x0) (ck_ (0 ≤ x0) (ck_ (0 ≤ (rf_ h x0 9)) (ck_ (0 ≤ (rd_ (wr_ h (rf_ h x0 8) x1 (or_ (rd_ h (rf_ h x0 8) x1) 1024)) x0 10) ∧ (rd_ (wr_ h (rf_ h x0 8) x1 (or_ (rd_ h (rf_ h x0 8) x1) 1024)) x0 10) < ln_ h (rf_ h x0 9)) (ck_ (0 ≤ x0) (ck_ (0 ≤ x0) (JJ 14 6 [(10, x0), (0, x1), (9, 0)] [] (wr_ (wr_ (wr_ h (rf_ h x0 8) x1 (or_ (rd_ h (rf_ h x0 8) x1) 1024)) (rf_ h x0 9) (rd_ (wr_ h (rf_ h x0 8) x1 (or_ (rd_ h (rf_ h x0 8) x1) 1024)) x0 10) x1) x0 10 (w32 ((rd_ (wr_ (wr_ h (rf_ h x0 8) x1 (or_ (rd_ h (rf_ h x0 8) x1) 1024)) (rf_ h x0 9) (rd_ (wr_ h (rf_ h x0 8) x1 (or_ (rd_ h (rf_ h x0 8) x1) 1024)) x0 10) x1) x0 10) + 1))))))))))))))) = _
  simp only [jt_14_6, ck_or1, ck_or2, rf_wr, ln_wr, nn_wr, rf_cp, ln_cp, nn_cp, ln_wf, nn_wf, rd_wf, nn_nw]
  try rfl))
set_option maxRecDepth 20000 in
theorem jt_14_4 (h : am_H) (d2 : am_V) (x0 x1 : Int) : JJ 14 4 [(10, x0), (0, x1), d2] [] h = ck_ (0 ≤ x0) (ck_ (0 ≤ x0) (ck_ (0 ≤ (rf_ h x0 9)) (if (ln_ h (rf_ h x0 9)) ≤ (rd_ h x0 10) then some (h, 0) else ck_ (0 ≤ x0) (ck_ (0 ≤ (rf_ h x0 8)) (ck_ (0 ≤ x1 ∧ x1 < ln_ h (rf_ h x0 8)) (ck_ (0 ≤ (rf_ h x0 8)) (ck_ (0 ≤ x1 ∧ x1 < ln_ h (rf_ h x0 8)) (ck_ (0 ≤ x0) (ck_ (0 ≤ x0) (ck_ (0 ≤ (rf_ h x0 9)) (ck_ (0 ≤ (rd_ (wr_ h (rf_ h x0 8) x1 (or_ (rd_ h (rf_ h x0 8) x1) 1024)) x0 10) ∧ (rd_ (wr_ h (rf_ h x0 8) x1 (or_ (rd_ h (rf_ h x0 8) x1) 1024)) x0 10) < ln_ h (rf_ h x0 9)) (ck_ (0 ≤ x0) (ck_ (0 ≤ x0) (some (wr_ (wr_ (wr_ h (rf_ h x0 8) x1 (or_ (rd_ h (rf_ h x0 8) x1) 1024)) (rf_ h x0 9) (rd_ (wr_ h (rf_ h x0 8) x1 (or_ (rd_ h (rf_ h x0 8) x1) 1024)) x0 10) x1) x0 10 (w32 ((rd_ (wr_ (wr_ h (rf_ h x0 8) x1 (or_ (rd_ h (rf_ h x0 8) x1) 1024)) (rf_ h x0 9) (rd_ (wr_ h (rf_ h x0 8) x1 (or_ (rd_ h (rf_ h x0 8) x1) 1024)) x0 10) x1) x0 10) + 1)), 0))))))))))))))) := (jj_of bk_14_4 _ _ h).trans ((ff_of bk_14_4 [(10, x0), (0, x1), (9, 0)] [] h).trans (by
  show (ck_ (0 ≤ x0) (ck_ (0 ≤ x0) (ck_ (0 ≤ (rf_ h x0 9)) (if (ln_ h (rf_ h x0 9)) ≤ (rd_ h x0 10) then JJ 14 6 [(10, x0), (0, x1), (9, 0)] [] h else JJ 14 5 [(10, x0), (0, x1), (9, 0)] [] h)))) = _
  simp only [jt_14_5, jt_14_6, ck_or1, ck_or2, rf_wr, ln_wr, nn_wr, rf_cp, ln_cp, nn_cp, ln_wf, nn_wf, rd_wf, nn_nw]
  try rfl))
set_option maxRecDepth 20000 in
theorem jt_14_3 (h : am_H) (x0 x1 x2 : Int) : JJ 14 3 [(10, x0), (0, x1), (0, x2)] [] h = ck_ (0 ≤ x0) (ck_ (0 ≤ (rf_ h x0 8)) (ck_ (0 ≤ x1 ∧ x1 < ln_ h (rf_ h x0 8)) (ck_ (0 ≤ (rf_ h x0 8)) (ck_ (0 ≤ x1 ∧ x1 < ln_ h (rf_ h x0 8)) (ck_ (0 ≤ x0) (ck_ (0 ≤ (rf_ h x0 8)) (ck_ (0 ≤ x1 ∧ x1 < ln_ h (rf_ h x0 8)) (if (an_ (rd_ (wr_ h (rf_ h x0 8) x1 (or_ (rd_ h (rf_ h x0 8) x1) x2)) (rf_ h x0 8) x1) 1024) ≠ 0 then some (wr_ h (rf_ h x0 8) x1 (or_ (rd_ h (rf_ h x0 8) x1) x2), 0) else ck_ (0 ≤ x0) (ck_ (0 ≤ x0) (ck_ (0 ≤ (rf_ h x0 9)) (if (ln_ h (rf_ h x0 9)) ≤ (rd_ (wr_ h (rf_ h x0 8) x1 (or_ (rd_ h (rf_ h x0 8) x1) x2)) x0 10) then some (wr_ h (rf_ h x0 8) x1 (or_ (rd_ h (rf_ h x0 8) x1) x2), 0) else ck_ (0 ≤ x0) (ck_ (0 ≤ (rf_ h x0 8)) (ck_ (0 ≤ x1 ∧ x1 < ln_ h (rf_ h x0 8)) (ck_ (0 ≤ (rf_ h x0 8)) (ck_ (0 ≤ x1 ∧ x1 < ln_ h (rf_ h x0 8)) (ck_ (0 ≤ x0) (ck_ (0 ≤ x0) (ck_ (0 ≤ (rf_ h x0 9)) (ck_ (0 ≤ (rd_ (wr_ (wr_ h (rf_ h x0 8) x1 (or_ (rd_ h (rf_ h x0 8) x1) x2)) (rf_ h x0 8) x1 (or_ (rd_ (wr_ h (rf_ h x0 8) x1 (or_ (rd_ h (rf_ h x0 8) x1) x2)) (rf_ h x0 8) x1) 1024)) x0 10) ∧ (rd_ (wr_ (wr_ h (rf_ h x0 8) x1 (or_ (rd_ h (rf_ h x0 8) x1) x2)) (rf_ h x0 8) x1 (or_ (rd_ (wr_ h (rf_ h x0 8) x1 (or_ (rd_ h (rf_ h x0 8) x1) x2)) (rf_ h x0 8) x1) 1024)) x0 10) < ln_ h (rf_ h x0 9)) (ck_ (0 ≤ x0) (ck_ (0 ≤ x0) (some (wr_ (wr_ (wr_ (wr_ h (rf_ h x0 8) x1 (or_ (rd_ h (rf_ h x0 8) x1) x2)) (rf_ h x0 8) x1 (or_ (rd_ (wr_ h (rf_ h x0 8) x1 (or_ (rd_ h (rf_ h x0 8) x1) x2)) (rf_ h x0 8) x1) 1024)) (rf_ h x0 9) (rd_ (wr_ (wr_ h (rf_ h x0 8) x1 (or_ (rd_ h (rf_ h x0 8) x1) x2)) (rf_ h x0 8) x1 (or_ (rd_ (wr_ h (rf_ h x0 8) x1 (or_ (rd_ h (rf_ h x0 8) x1) x2)) (rf_ h x0 8) x1) 1024)) x0 10) x1) x0 10 (w32 ((rd_ (wr_ (wr_ (wr_ h (rf_ h x0 8) x1 (or_ (rd_ h (rf_ h x0 8) x1) x2)) (rf_ h x0 8) x1 (or_ (rd_ (wr_ h (rf_ h x0 8) x1 (or_ (rd_ h (rf_ h x0 8) x1) x2)) (rf_ h x0 8) x1) 1024)) (rf_ h x0 9) (rd_ (wr_ (wr_ h (rf_ h x0 8) x1 (or_ (rd_ h (rf_ h x0 8) x1) x2)) (rf_ h x0 8) x1 (or_ (rd_ (wr_ h (rf_ h x0 8) x1 (or_ (rd_ h (rf_ h x0 8) x1) x2)) (rf_ h x0 8) x1) 1024)) x0 10) x1) x0 10) + 1)), 0))))))))))))))))))))))) := (jj_of bk_14_3 _ _ h).trans ((ff_of bk_14_3 [(10, x0), (0, x1), (0, x2)] [] h).trans (by
  show (ck_ (0 ≤ x0) (ck_ (0 ≤ (rf_ h x0 8)) (ck_ (0 ≤ x1 ∧ x1 < ln_ h (rf_ h x0 8)) (ck_ (0 ≤ (rf_ h x0 8)) (ck_ (0 ≤ x1 ∧ x1 < ln_ h (rf_ h x0 8)) (ck_ (0 ≤ x0) (ck_ (0 ≤ (rf_ h x0 8)) (ck_ (0 ≤ x1 ∧ x1 < ln_ h (rf_ h x0 8)) (if (an_ (rd_ (wr_ h (rf_ h x0 8) x1 (or_ (rd_ h (rf_ h x0 8) x1) x2)) (rf_ h x0 8) x1) 1024) ≠ 0 then JJ 14 6 [(10, x0), (0, x1), (0, x2)] [] (wr_ h (rf_ h x0 8) x1 (or_ (rd_ h (rf_ h x0 8) x1) x2)) else JJ 14 4 [(10, x0), (0, x1), (0, x2)] [] (wr_ h (rf_ h x0 8) x1 (or_ (rd_ h (rf_ h x0 8) x1) x2))))))))))) = _
  simp only [jt_14_4, jt_14_6, ck_or1, ck_or2, rf_wr, ln_wr, nn_wr, rf_cp, ln_cp, nn_cp, ln_wf, nn_wf, rd_wf, nn_nw]
  try rfl))
set_option maxRecDepth 20000 in
theorem jt_14_1 (h : am_H) (x0 x1 x2 : Int) : JJ 14 1 [(10, x0), (0, x1), (0, x2)] [] h = ck_ (0 ≤ x0) (ck_ (0 ≤ (rf_ h x0 8)) (ck_ (0 ≤ x1 ∧ x1 < ln_ h (rf_ h x0 8)) (if (an_ (rd_ h (rf_ h x0 8) x1) x2) = 0 then ck_ (0 ≤ x0) (ck_ (0 ≤ (rf_ h x0 8)) (ck_ (0 ≤ x1 ∧ x1 < ln_ h (rf_ h x0 8)) (ck_ (0 ≤ (rf_ h x0 8)) (ck_ (0 ≤ x1 ∧ x1 < ln_ h (rf_ h x0 8)) (ck_ (0 ≤ x0) (ck_ (0 ≤ (rf_ h x0 8)) (ck_ (0 ≤ x1 ∧ x1 < ln_ h (rf_ h x0 8)) (if (an_ (rd_ (wr_ h (rf_ h x0 8) x1 (or_ (rd_ h (rf_ h x0 8) x1) x2)) (rf_ h x0 8) x1) 1024) ≠ 0 then some (wr_ h (rf_ h x0 8) x1 (or_ (rd_ h (rf_ h x0 8) x1) x2), 0) else ck_ (0 ≤ x0) (ck_ (0 ≤ x0) (ck_ (0 ≤ (rf_ h x0 9)) (if (ln_ h (rf_ h x0 9)) ≤ (rd_ (wr_ h (rf_ h x0 8) x1 (or_ (rd_ h (rf_ h x0 8) x1) x2)) x0 10) then some (wr_ h (rf_ h x0 8) x1 (or_ (rd_ h (rf_ h x0 8) x1) x2), 0) else ck_ (0 ≤ x0) (ck_ (0 ≤ (rf_ h x0 8)) (ck_ (0 ≤ x1 ∧ x1 < ln_ h (rf_ h x0 8)) (ck_ (0 ≤ (rf_ h x0 8)) (ck_ (0 ≤ x1 ∧ x1 < ln_ h (rf_ h x0 8)) (ck_ (0 ≤ x0) (ck_ (0 ≤ x0) (ck_ (0 ≤ (rf_ h x0 9)) (ck_ (0 ≤ (rd_ (wr_ (wr_ h (rf_ h x0 8) x1 (or_ (rd_ h (rf_ h x0 8) x1) x2)) (rf_ h x0 8) x1 (or_ (rd_ (wr_ h (rf_ h x0 8) x1 (or_ (rd_ h (rf_ h x0 8) x1) x2)) (rf_ h x0 8) x1) 1024)) x0 10) ∧ (rd_ (wr_ (wr_ h (rf_ h x0 8) x1 (or_ (rd_ h (rf_ h x0 8) x1) x2)) (rf_ h x0 8) x1 (or_ (rd_ (wr_ h (rf_ h x0 8) x1 (or_ (rd_ h (rf_ h x0 8) x1) x2)) (rf_ h x0 8) x1) 1024)) x0 10) < ln_ h (rf_ h x0 9)) (ck_ (0 ≤ x0) (ck_ (0 ≤ x0) (some (wr_ (wr_ (wr_ (wr_ h (rf_ h x0 8) x1 (or_ (rd_ h (rf_ h x0 8) x1) x2)) (rf_ h x0 8) x1 (or_ (rd_ (wr_ h (rf_ h x0 8) x1 (or_ (rd_ h (rf_ h x0 8) x1) x2)) (rf_ h x0 8) x1) 1024)) (rf_ h x0 9) (rd_ (wr_ (wr_ h (rf_ h x0 8) x1 (or_ (rd_ h (rf_ h x0 8) x1) x2)) (rf_ h x0 8) x1 (or_ (rd_ (wr_ h (rf_ h x0 8) x1 (or_ (rd_ h (rf_ h x0 8) x1) x2)) (rf_ h x0 8) x1) 1024)) x0 10) x1) x0 10 (w32 ((rd_ (wr_ (wr_ (wr_ h (rf_ h x0 8) x1 (or_ (rd_ h (rf_ h x0 8) x1) x2)) (rf_ h x0 8) x1 (or_ (rd_ (wr_ h (rf_ h x0 8) x1 (or_ (rd_ h (rf_ h x0 8) x1) x2)) (rf_ h x0 8) x1) 1024)) (rf_ h x0 9) (rd_ (wr_ (wr_ h (rf_ h x0 8) x1 (or_ (rd_ h (rf_ h x0 8) x1) x2)) (rf_ h x0 8) x1 (or_ (rd_ (wr_ h (rf_ h x0 8) x1 (or_ (rd_ h (rf_ h x0 8) x1) x2)) (rf_ h x0 8) x1) 1024)) x0 10) x1) x0 10) + 1)), 0))))))))))))))))))))))) else some (h, 0)))) := (jj_of bk_14_1 _ _ h).trans ((ff_of bk_14_1 [(10, x0), (0, x1), (0, x2)] [] h).trans (by
  show (ck_ (0 ≤ x0) (ck_ (0 ≤ (rf_ h x0 8)) (ck_ (0 ≤ x1 ∧ x1 < ln_ h (rf_ h x0 8)) (if (an_ (rd_ h (rf_ h x0 8) x1) x2) = 0 then JJ 14 3 [(10, x0), (0, x1), (0, x2)] [] h else JJ 14 2 [(10, x0), (0, x1), (0, x2)] [] h)))) = _
  simp only [jt_14_2, jt_14_3, ck_or1, ck_or2, rf_wr, ln_wr, nn_wr, rf_cp, ln_cp, nn_cp, ln_wf, nn_wf, rd_wf, nn_nw]
  try rfl))
set_option maxRecDepth 20000 in
theorem Ch_mark_e (h : am_H) (x0 x1 x2 : Int) : Ch_mark h x0 x1 x2 = if x1 = 0 then some (h, 0) else ck_ (0 ≤ x0) (ck_ (0 ≤ (rf_ h x0 8)) (ck_ (0 ≤ x1 ∧ x1 < ln_ h (rf_ h x0 8)) (if (an_ (rd_ h (rf_ h x0 8) x1) x2) = 0 then ck_ (0 ≤ x0) (ck_ (0 ≤ (rf_ h x0 8)) (ck_ (0 ≤ x1 ∧ x1 < ln_ h (rf_ h x0 8)) (ck_ (0 ≤ (rf_ h x0 8)) (ck_ (0 ≤ x1 ∧ x1 < ln_ h (rf_ h x0 8)) (ck_ (0 ≤ x0) (ck_ (0 ≤ (rf_ h x0 8)) (ck_ (0 ≤ x1 ∧ x1 < ln_ h (rf_ h x0 8)) (if (an_ (rd_ (wr_ h (rf_ h x0 8) x1 (or_ (rd_ h (rf_ h x0 8) x1) x2)) (rf_ h x0 8) x1) 1024) ≠ 0 then some (wr_ h (rf_ h x0 8) x1 (or_ (rd_ h (rf_ h x0 8) x1) x2), 0) else ck_ (0 ≤ x0) (ck_ (0 ≤ x0) (ck_ (0 ≤ (rf_ h x0 9)) (if (ln_ h (rf_ h x0 9)) ≤ (rd_ (wr_ h (rf_ h x0 8) x1 (or_ (rd_ h (rf_ h x0 8) x1) x2)) x0 10) then some (wr_ h (rf_ h x0 8) x1 (or_ (rd_ h (rf_ h x0 8) x1) x2), 0) else ck_ (0 ≤ x0) (ck_ (0 ≤ (rf_ h x0 8)) (ck_ (0 ≤ x1 ∧ x1 < ln_ h (rf_ h x0 8)) (ck_ (0 ≤ (rf_ h x0 8)) (ck_ (0 ≤ x1 ∧ x1 < ln_ h (rf_ h x0 8)) (ck_ (0 ≤ x0) (ck_ (0 ≤ x0) (ck_ (0 ≤ (rf_ h x0 9)) (ck_ (0 ≤ (rd_ (wr_ (wr_ h (rf_ h x0 8) x1 (or_ (rd_ h (rf_ h x0 8) x1) x2)) (rf_ h x0 8) x1 (or_ (rd_ (wr_ h (rf_ h x0 8) x1 (or_ (rd_ h (rf_ h x0 8) x1) x2)) (rf_ h x0 8) x1) 1024)) x0 10) ∧ (rd_ (wr_ (wr_ h (rf_ h x0 8) x1 (or_ (rd_ h (rf_ h x0 8) x1) x2)) (rf_ h x0 8) x1 (or_ (rd_ (wr_ h (rf_ h x0 8) x1 (or_ (rd_ h (rf_ h x0 8) x1) x2)) (rf_ h x0 8) x1) 1024)) x0 10) < ln_ h (rf_ h x0 9)) (ck_ (0 ≤ x0) (ck_ (0 ≤ x0) (some (wr_ (wr_ (wr_ (wr_ h (rf_ h x0 8) x1 (or_ (rd_ h (rf_ h x0 8) x1) x2)) (rf_ h x0 8) x1 (or_ (rd_ (wr_ h (rf_ h x0 8) x1 (or_ (rd_ h (rf_ h x0 8) x1) x2)) (rf_ h x0 8) x1) 1024)) (rf_ h x0 9) (rd_ (wr_ (wr_ h (rf_ h x0 8) x1 (or_ (rd_ h (rf_ h x0 8) x1) x2)) (rf_ h x0 8) x1 (or_ (rd_ (wr_ h (rf_ h x0 8) x1 (or_ (rd_ h (rf_ h x0 8) x1) x2)) (rf_ h x0 8) x1) 1024)) x0 10) x1) x0 10 (w32 ((rd_ (wr_ (wr_ (wr_ h (rf_ h x0 8) x1 (or_ (rd_ h (rf_ h x0 8) x1) x2)) (rf_ h x0 8) x1 (or_ (rd_ (wr_ h (rf_ h x0 8) x1 (or_ (rd_ h (rf_ h x0 8) x1) x2)) (rf_ h x0 8) x1) 1024)) (rf_ h x0 9) (rd_ (wr_ (wr_ h (rf_ h x0 8) x1 (or_ (rd_ h (rf_ h x0 8) x1) x2)) (rf_ h x0 8) x1 (or_ (rd_ (wr_ h (rf_ h x0 8) x1 (or_ (rd_ h (rf_ h x0 8) x1) x2)) (rf_ h x0 8) x1) 1024)) x0 10) x1) x0 10) + 1)), 0))))))))))))))))))))))) else some (h, 0)))) := (ff_of bk_14_0 [(10, x0), (0, x1), (0, x2)] [] h).trans (by
  show (if x1 = 0 then JJ 14 2 [(10, x0), (0, x1), (0, x2)] [] h else JJ 14 1 [(10, x0), (0, x1), (0, x2)] [] h) = _
  simp only [jt_14_1, jt_14_2, ck_or1, ck_or2, rf_wr, ln_wr, nn_wr, rf_cp, ln_cp, nn_cp, ln_wf, nn_wf, rd_wf, nn_nw]
  try rfl)
theorem cc_14 (h : am_H) (x0 x1 x2 : Int) : CC 14 [(10, x0), (0, x1), (0, x2)] h = Ch_mark h x0 x1 x2 := cc_of pk_14 _ h
theorem pk_15 : am_prog 15 = some cd_15 := rfl
theorem bk_15_0 : bk_ am_prog 15 0 = some ([true, true, true, false, false, false, false], (bl_15_0, 1)) := bk_of pk_15 rfl
theorem bk_15_1 : bk_ am_prog 15 1 = some ([true, true, true, true, true, true, false], (bl_15_1, 9999)) := bk_of pk_15 rfl
theorem bk_15_2 : bk_ am_prog 15 2 = some ([true, true, true, true, true, true, false], (bl_15_2, 9999)) := bk_of pk_15 rfl
theorem bk_15_3 : bk_ am_prog 15 3 = some ([true, true, true, true, true, true, false], (bl_15_3, 9999)) := bk_of pk_15 rfl
theorem bk_15_4 : bk_ am_prog 15 4 = some ([true, true, true, true, true, true, true], (bl_15_4, 9999)) := bk_of pk_15 rfl
theorem bk_15_5 : bk_ am_prog 15 5 = some ([true, true, true, true, true, true, true], (bl_15_5, 9999)) := bk_of pk_15 rfl
theorem bk_15_6 : bk_ am_prog 15 6 = some ([true, true, true, true, true, true, true], (bl_15_6, 9999)) := bk_of pk_15 rfl
theorem bk_15_7 : bk_ am_prog 15 7 = some ([true, true, true, true, true, true, true], (bl_15_7, 8)) := bk_of pk_15 rfl
theorem bk_15_8 : bk_ am_prog 15 8 = some ([true, true, true, true, true, true, false], (bl_15_8, 9999)) := bk_of pk_15 rfl
theorem bk_15_9 : bk_ am_prog 15 9 = some ([false, false, false, false, false, false, false], (bl_15_9, 9999)) := bk_of pk_15 rfl
theorem jt_15_1 (h : am_H) (d6 : am_V) (x0 x1 x2 x3 x4 x5 : Int) : JJ 15 1 [(10, x0), (0, x1), (0, x2), (0, x3), (0, x4), (0, x5), d6] [] h = Ch_tellThoseBefore_1 h x0 x1 x2 x3 x4 x5 := jj_of bk_15_1 _ _ h
theorem Ch_tellThoseBefore_e (h : am_H) (x0 x1 x2 : Int) : Ch_tellThoseBefore h x0 x1 x2 = ck_ (0 ≤ x0) (ck_ (0 ≤ (rf_ h x0 8)) (ck_ (0 ≤ x1 ∧ x1 < ln_ h (rf_ h x0 8)) (ck_ (0 ≤ x0) (ck_ (0 ≤ (rf_ h x0 8)) (ck_ (0 ≤ x1 ∧ x1 < ln_ h (rf_ h x0 8)) (Ch_tellThoseBefore_1 h x0 x1 x2 (an_ (rd_ h (rf_ h x0 8) x1) 31) (an_ ((rd_ h (rf_ h x0 8) x1) / 2 ^ (5 % 32 : Int).toNat) 31) 1)))))) := (ff_of bk_15_0 [(10, x0), (0, x1), (0, x2), (9, 0), (9, 0), (9, 0), (9, 0)] [] h).trans (by
  show (ck_ (0 ≤ x0) (ck_ (0 ≤ (rf_ h x0 8)) (ck_ (0 ≤ x1 ∧ x1 < ln_ h (rf_ h x0 8)) (ck_ (0 ≤ x0) (ck_ (0 ≤ (rf_ h x0 8)) (ck_ (0 ≤ x1 ∧ x1 < ln_ h (rf_ h x0 8)) (JJ 15 1 [(10, x0), (0, x1), (0, x2), (0, an_ (rd_ h (rf_ h x0 8) x1) 31), (0, an_ ((rd_ h (rf_ h x0 8) x1) / 2 ^ (5 % 32 : Int).toNat) 31), (0, 1), (9, 0)] [] h))))))) = _
  simp only [jt_15_1, ck_or1, ck_or2, rf_wr, ln_wr, nn_wr, rf_cp, ln_cp, nn_cp, ln_wf, nn_wf, rd_wf, nn_nw]
  try rfl)
theorem jt_15_9 (h : am_H) (d0 d1 d2 d3 d4 d5 d6 : am_V) : JJ 15 9 [d0, d1, d2, d3, d4, d5, d6] [] h = some (h, 0) := (jj_of bk_15_9 _ _ h).trans (ff_of bk_15_9 [(9, 0), (9, 0), (9, 0), (9, 0), (9, 0), (9, 0), (9, 0)] [] h)
theorem jt_15_8 (h : am_H) (d6 : am_V) (x0 x1 x2 x3 x4 x5 : Int) : JJ 15 8 [(10, x0), (0, x1), (0, x2), (0, x3), (0, x4), (0, x5), d6] [] h = Ch_tellThoseBefore_1 h x0 x1 x2 x3 x4 (w32 (x5 + 1)) := (jj_of bk_15_8 _ _ h).trans ((ff_of bk_15_8 [(10, x0), (0, x1), (0, x2), (0, x3), (0, x4), (0, x5), (9, 0)] [] h).trans (by
  show (JJ 15 1 [(10, x0), (0, x1), (0, x2), (0, x3), (0, x4), (0, w32 (x5 + 1)), (9, 0)] [] h) = _
  simp only [jt_15_1, ck_or1, ck_or2, rf_wr, ln_wr, nn_wr, rf_cp, ln_cp, nn_cp, ln_wf, nn_wf, rd_wf, nn_nw]
  try rfl))
theorem jt_15_7 (h : am_H) (x0 x1 x2 x3 x4 x5 x6 : Int) : JJ 15 7 [(10, x0), (0, x1), (0, x2), (0, x3), (0, x4), (0, x5), (0, x6)] [] h = ck_ (0 ≤ x0) (bd_ (Ch_turned h x0 x1 x5) fun h1 v2 => ck_ (0 ≤ x0) (bd_ (Ch_mark h1 x0 v2 x6) fun h3 _ => Ch_tellThoseBefore_1 h3 x0 x1 x2 x3 x4 (w32 (x5 + 1)))) := (jj_of bk_15_7 _ _ h).trans ((ff_of bk_15_7 [(10, x0), (0, x1), (0, x2), (0, x3), (0, x4), (0, x5), (0, x6)] [] h).trans (by
  show (ck_ (0 ≤ x0) (bd_ (CC 3 [(10, x0), (0, x1), (0, x5)] h) fun h1 v2 => ck_ (0 ≤ x0) (bd_ (CC 14 [(10, x0), (0, v2), (0, x6)] h1) fun h3 _ => JJ 15 8 [(10, x0), (0, x1), (0, x2), (0, x3), (0, x4), (0, x5), (0, x6)] [] h3))) = _
  simp only [cc_14, cc_3, jt_15_8, ck_or1, ck_or2, rf_wr, ln_wr, nn_wr, rf_cp, ln_cp, nn_cp, ln_wf, nn_wf, rd_wf, nn_nw]
  try rfl))
theorem jt_15_6 (h : am_H) (x0 x1 x2 x3 x4 x5 x6 : Int) : JJ 15 6 [(10, x0), (0, x1), (0, x2), (0, x3), (0, x4), (0, x5), (0, x6)] [] h = if (or_ x4 x6) ≠ x2 then Ch_tellThoseBefore_1 h x0 x1 x2 x3 x4 (w32 (x5 + 1)) else ck_ (0 ≤ x0) (bd_ (Ch_turned h x0 x1 x5) fun h1 v2 => ck_ (0 ≤ x0) (bd_ (Ch_mark h1 x0 v2 x6) fun h3 _ => Ch_tellThoseBefore_1 h3 x0 x1 x2 x3 x4 (w32 (x5 + 1)))) := (jj_of bk_15_6 _ _ h).trans ((ff_of bk_15_6 [(10, x0), (0, x1), (0, x2), (0, x3), (0, x4), (0, x5), (0, x6)] [] h).trans (by
  show (if (or_ x4 x6) ≠ x2 then JJ 15 8 [(10, x0), (0, x1), (0, x2), (0, x3), (0, x4), (0, x5), (0, x6)] [] h else JJ 15 7 [(10, x0), (0, x1), (0, x2), (0, x3), (0, x4), (0, x5), (0, x6)] [] h) = _
  simp only [jt_15_7, jt_15_8, ck_or1, ck_or2, rf_wr, ln_wr, nn_wr, rf_cp, ln_cp, nn_cp, ln_wf, nn_wf, rd_wf, nn_nw]
  try rfl))
theorem jt_15_5 (h : am_H) (x0 x1 x2 x3 x4 x5 x6 : Int) : JJ 15 5 [(10, x0), (0, x1), (0, x2), (0, x3), (0, x4), (0, x5), (0, x6)] [] h = ck_ (0 ≤ x0) (bd_ (Ch_turned h x0 x1 x5) fun h1 v2 => ck_ (0 ≤ x0) (bd_ (Ch_mark h1 x0 v2 (w32 (x6 * 2 ^ (5 % 32 : Int).toNat))) fun h3 _ => Ch_tellThoseBefore_1 h3 x0 x1 x2 x3 x4 (w32 (x5 + 1)))) := (jj_of bk_15_5 _ _ h).trans ((ff_of bk_15_5 [(10, x0), (0, x1), (0, x2), (0, x3), (0, x4), (0, x5), (0, x6)] [] h).trans (by
  show (ck_ (0 ≤ x0) (bd_ (CC 3 [(10, x0), (0, x1), (0, x5)] h) fun h1 v2 => ck_ (0 ≤ x0) (bd_ (CC 14 [(10, x0), (0, v2), (0, w32 (x6 * 2 ^ (5 % 32 : Int).toNat))] h1) fun h3 _ => JJ 15 8 [(10, x0), (0, x1), (0, x2), (0, x3), (0, x4), (0, x5), (0, x6)] [] h3))) = _
  simp only [cc_14, cc_3, jt_15_8, ck_or1, ck_or2, rf_wr, ln_wr, nn_wr, rf_cp, ln_cp, nn_cp, ln_wf, nn_wf, rd_wf, nn_nw]
  try rfl))
theorem jt_15_4 (h : am_H) (x0 x1 x2 x3 x4 x5 x6 : Int) : JJ 15 4 [(10, x0), (0, x1), (0, x2), (0, x3), (0, x4), (0, x5), (0, x6)] [] h = if (an_ x3 (xo_ x6 (-1))) = 0 then (if (or_ x4 x6) ≠ x2 then Ch_tellThoseBefore_1 h x0 x1 x2 x3 x4 (w32 (x5 + 1)) else ck_ (0 ≤ x0) (bd_ (Ch_turned h x0 x1 x5) fun h1 v2 => ck_ (0 ≤ x0) (bd_ (Ch_mark h1 x0 v2 x6) fun h3 _ => Ch_tellThoseBefore_1 h3 x0 x1 x2 x3 x4 (w32 (x5 + 1))))) else ck_ (0 ≤ x0) (bd_ (Ch_turned h x0 x1 x5) fun h5 v6 => ck_ (0 ≤ x0) (bd_ (Ch_mark h5 x0 v6 (w32 (x6 * 2 ^ (5 % 32 : Int).toNat))) fun h7 _ => Ch_tellThoseBefore_1 h7 x0 x1 x2 x3 x4 (w32 (x5 + 1)))) := (jj_of bk_15_4 _ _ h).trans ((ff_of bk_15_4 [(10, x0), (0, x1), (0, x2), (0, x3), (0, x4), (0, x5), (0, x6)] [] h).trans (by
  show (if (an_ x3 (xo_ x6 (-1))) = 0 then JJ 15 6 [(10, x0), (0, x1), (0, x2), (0, x3), (0, x4), (0, x5), (0, x6)] [] h else JJ 15 5 [(10, x0), (0, x1), (0, x2), (0, x3), (0, x4), (0, x5), (0, x6)] [] h) = _
  simp only [jt_15_5, jt_15_6, ck_or1, ck_or2, rf_wr, ln_wr, nn_wr, rf_cp, ln_cp, nn_cp, ln_wf, nn_wf, rd_wf, nn_nw]
  try rfl))
theorem jt_15_3 (h : am_H) (d6 : am_V) (x0 x1 x2 x3 x4 x5 : Int) : JJ 15 3 [(10, x0), (0, x1), (0, x2), (0, x3), (0, x4), (0, x5), d6] [] h = Ch_tellThoseBefore_1 h x0 x1 x2 x3 x4 (w32 (x5 + 1)) := (jj_of bk_15_3 _ _ h).trans ((ff_of bk_15_3 [(10, x0), (0, x1), (0, x2), (0, x3), (0, x4), (0, x5), (9, 0)] [] h).trans (by
  show (JJ 15 8 [(10, x0), (0, x1), (0, x2), (0, x3), (0, x4), (0, x5), (9, 0)] [] h) = _
  simp only [jt_15_8, ck_or1, ck_or2, rf_wr, ln_wr, nn_wr, rf_cp, ln_cp, nn_cp, ln_wf, nn_wf, rd_wf, nn_nw]
  try rfl))
set_option maxRecDepth 20000 in
theorem jt_15_2 (h : am_H) (d6 : am_V) (x0 x1 x2 x3 x4 x5 : Int) : JJ 15 2 [(10, x0), (0, x1), (0, x2), (0, x3), (0, x4), (0, x5), d6] [] h = if (an_ x2 (w32 (1 * 2 ^ ((w32 (x5 - 1)) % 32 : Int).toNat))) ≠ 0 then (if (an_ x3 (xo_ (w32 (1 * 2 ^ ((w32 (x5 - 1)) % 32 : Int).toNat)) (-1))) = 0 then (if (or_ x4 (w32 (1 * 2 ^ ((w32 (x5 - 1)) % 32 : Int).toNat))) ≠ x2 then Ch_tellThoseBefore_1 h x0 x1 x2 x3 x4 (w32 (x5 + 1)) else ck_ (0 ≤ x0) (bd_ (Ch_turned h x0 x1 x5) fun h1 v2 => ck_ (0 ≤ x0) (bd_ (Ch_mark h1 x0 v2 (w32 (1 * 2 ^ ((w32 (x5 - 1)) % 32 : Int).toNat))) fun h3 _ => Ch_tellThoseBefore_1 h3 x0 x1 x2 x3 x4 (w32 (x5 + 1))))) else ck_ (0 ≤ x0) (bd_ (Ch_turned h x0 x1 x5) fun h5 v6 => ck_ (0 ≤ x0) (bd_ (Ch_mark h5 x0 v6 (w32 ((w32 (1 * 2 ^ ((w32 (x5 - 1)) % 32 : Int).toNat)) * 2 ^ (5 % 32 : Int).toNat))) fun h7 _ => Ch_tellThoseBefore_1 h7 x0 x1 x2 x3 x4 (w32 (x5 + 1))))) else Ch_tellThoseBefore_1 h x0 x1 x2 x3 x4 (w32 (x5 + 1)) := (jj_of bk_15_2 _ _ h).trans ((ff_of bk_15_2 [(10, x0), (0, x1), (0, x2), (0, x3), (0, x4), (0, x5), (9, 0)] [] h).trans (by
  show (if (an_ x2 (w32 (1 * 2 ^ ((w32 (x5 - 1)) % 32 : Int).toNat))) ≠ 0 then JJ 15 4 [(10, x0), (0, x1), (0, x2), (0, x3), (0, x4), (0, x5), (0, w32 (1 * 2 ^ ((w32 (x5 - 1)) % 32 : Int).toNat))] [] h else JJ 15 3 [(10, x0), (0, x1), (0, x2), (0, x3), (0, x4), (0, x5), (0, w32 (1 * 2 ^ ((w32 (x5 - 1)) % 32 : Int).toNat))] [] h) = _
  simp only [jt_15_3, jt_15_4, ck_or1, ck_or2, rf_wr, ln_wr, nn_wr, rf_cp, ln_cp, nn_cp, ln_wf, nn_wf, rd_wf, nn_nw]
  try rfl))
set_option maxRecDepth 20000 in
theorem Ch_tellThoseBefore_1_e (h : am_H) (x0 x1 x2 x3 x4 x5 : Int) : Ch_tellThoseBefore_1 h x0 x1 x2 x3 x4 x5 = ck_ (0 ≤ x0) (if (rd_ h x0 1) < x5 then some (h, 0) else if (an_ x2 (w32 (1 * 2 ^ ((w32 (x5 - 1)) % 32 : Int).toNat))) ≠ 0 then (if (an_ x3 (xo_ (w32 (1 * 2 ^ ((w32 (x5 - 1)) % 32 : Int).toNat)) (-1))) = 0 then (if (or_ x4 (w32 (1 * 2 ^ ((w32 (x5 - 1)) % 32 : Int).toNat))) ≠ x2 then Ch_tellThoseBefore_1 h x0 x1 x2 x3 x4 (w32 (x5 + 1)) else ck_ (0 ≤ x0) (bd_ (Ch_turned h x0 x1 x5) fun h1 v2 => ck_ (0 ≤ x0) (bd_ (Ch_mark h1 x0 v2 (w32 (1 * 2 ^ ((w32 (x5 - 1)) % 32 : Int).toNat))) fun h3 _ => Ch_tellThoseBefore_1 h3 x0 x1 x2 x3 x4 (w32 (x5 + 1))))) else ck_ (0 ≤ x0) (bd_ (Ch_turned h x0 x1 x5) fun h5 v6 => ck_ (0 ≤ x0) (bd_ (Ch_mark h5 x0 v6 (w32 ((w32 (1 * 2 ^ ((w32 (x5 - 1)) % 32 : Int).toNat)) * 2 ^ (5 % 32 : Int).toNat))) fun h7 _ => Ch_tellThoseBefore_1 h7 x0 x1 x2 x3 x4 (w32 (x5 + 1))))) else Ch_tellThoseBefore_1 h x0 x1 x2 x3 x4 (w32 (x5 + 1))) := (ff_of bk_15_1 [(10, x0), (0, x1), (0, x2), (0, x3), (0, x4), (0, x5), (9, 0)] [] h).trans (by
  show (ck_ (0 ≤ x0) (if (rd_ h x0 1) < x5 then JJ 15 9 [(10, x0), (0, x1), (0, x2), (0, x3), (0, x4), (0, x5), (9, 0)] [] h else JJ 15 2 [(10, x0), (0, x1), (0, x2), (0, x3), (0, x4), (0, x5), (9, 0)] [] h)) = _
  simp only [jt_15_2, jt_15_9, ck_or1, ck_or2, rf_wr, ln_wr, nn_wr, rf_cp, ln_cp, nn_cp, ln_wf, nn_wf, rd_wf, nn_nw]
  try rfl)
theorem cc_15 (h : am_H) (x0 x1 x2 : Int) : CC 15 [(10, x0), (0, x1), (0, x2)] h = Ch_tellThoseBefore h x0 x1 x2 := cc_of pk_15 _ h
theorem pk_16 : am_prog 16 = some cd_16 := rfl
theorem bk_16_0 : bk_ am_prog 16 0 = some ([true, false, false, false], (bl_16_0, 9999)) := bk_of pk_16 rfl
theorem bk_16_1 : bk_ am_prog 16 1 = some ([false, false, false, false], (bl_16_1, 9999)) := bk_of pk_16 rfl
theorem bk_16_2 : bk_ am_prog 16 2 = some ([true, false, false, false], (bl_16_2, 3)) := bk_of pk_16 rfl
theorem bk_16_3 : bk_ am_prog 16 3 = some ([true, true, true, false], (bl_16_3, 9999)) := bk_of pk_16 rfl
theorem bk_16_4 : bk_ am_prog 16 4 = some ([true, true, true, false], (bl_16_4, 9999)) := bk_of pk_16 rfl
theorem bk_16_5 : bk_ am_prog 16 5 = some ([true, true, true, false], (bl_16_5, 6)) := bk_of pk_16 rfl
theorem bk_16_6 : bk_ am_prog 16 6 = some ([true, true, true, false], (bl_16_6, 9999)) := bk_of pk_16 rfl
theorem bk_16_7 : bk_ am_prog 16 7 = some ([true, true, false, false], (bl_16_7, 8)) := bk_of pk_16 rfl
theorem bk_16_8 : bk_ am_prog 16 8 = some ([true, true, true, false], (bl_16_8, 9999)) := bk_of pk_16 rfl
theorem bk_16_9 : bk_ am_prog 16 9 = some ([true, true, true, false], (bl_16_9, 9999)) := bk_of pk_16 rfl
theorem bk_16_10 : bk_ am_prog 16 10 = some ([true, true, true, false], (bl_16_10, 9999)) := bk_of pk_16 rfl
theorem bk_16_11 : bk_ am_prog 16 11 = some ([false, false, false, false], (bl_16_11, 9999)) := bk_of pk_16 rfl
theorem jt_16_3 (h : am_H) (d3 : am_V) (x0 x1 x2 : Int) : JJ 16 3 [(10, x0), (0, x1), (0, x2), d3] [] h = Ch_playAll_3 h x0 x1 x2 := jj_of bk_16_3 _ _ h
theorem jt_16_8 (h : am_H) (d3 : am_V) (x0 x1 x2 : Int) : JJ 16 8 [(10, x0), (0, x1), (0, x2), d3] [] h = Ch_playAll_8 h x0 x1 x2 := jj_of bk_16_8 _ _ h
theorem jt_16_2 (h : am_H) (d1 d2 d3 : am_V) (x0 : Int) : JJ 16 2 [(10, x0), d1, d2, d3] [] h = ck_ (0 ≤ x0) (ck_ (0 ≤ (rd_ h x0 3) ∧ (rd_ h x0 3) ≤ 1000000) (ck_ (0 ≤ x0) (ck_ (0 ≤ x0) (ck_ (0 ≤ (rd_ (nw_ h 20 (rd_ h x0 3)) x0 3) ∧ (rd_ (nw_ h 20 (rd_ h x0 3)) x0 3) ≤ 1000000) (ck_ (0 ≤ x0) (ck_ (0 ≤ x0) (ck_ (0 ≤ x0) (bd_ (Ch_allDepths (wr_ (wf_ (nw_ (wf_ (nw_ h 20 (rd_ h x0 3)) x0 8 (nn_ h)) 20 (rd_ (nw_ h 20 (rd_ h x0 3)) x0 3)) x0 9 (nn_ h + 1)) x0 10 0) x0) fun h1 v2 => Ch_playAll_3 h1 x0 v2 1)))))))) := (jj_of bk_16_2 _ _ h).trans ((ff_of bk_16_2 [(10, x0), (9, 0), (9, 0), (9, 0)] [] h).trans (by
  show (ck_ (0 ≤ x0) (ck_ (0 ≤ (rd_ h x0 3) ∧ (rd_ h x0 3) ≤ 1000000) (ck_ (0 ≤ x0) (ck_ (0 ≤ x0) (ck_ (0 ≤ (rd_ (nw_ h 20 (rd_ h x0 3)) x0 3) ∧ (rd_ (nw_ h 20 (rd_ h x0 3)) x0 3) ≤ 1000000) (ck_ (0 ≤ x0) (ck_ (0 ≤ x0) (ck_ (0 ≤ x0) (bd_ (CC 13 [(10, x0)] (wr_ (wf_ (nw_ (wf_ (nw_ h 20 (rd_ h x0 3)) x0 8 (nn_ h)) 20 (rd_ (nw_ h 20 (rd_ h x0 3)) x0 3)) x0 9 (nn_ h + 1)) x0 10 0)) fun h1 v2 => JJ 16 3 [(10, x0), (0, v2), (0, 1), (9, 0)] [] h1))))))))) = _
  simp only [cc_13, jt_16_3, ck_or1, ck_or2, rf_wr, ln_wr, nn_wr, rf_cp, ln_cp, nn_cp, ln_wf, nn_wf, rd_wf, nn_nw]
  try rfl))
theorem jt_16_1 (h : am_H) (d0 d1 d2 d3 : am_V) : JJ 16 1 [d0, d1, d2, d3] [] h = some (h, 0) := (jj_of bk_16_1 _ _ h).trans (ff_of bk_16_1 [(9, 0), (9, 0), (9, 0), (9, 0)] [] h)
theorem Ch_playAll_e (h : am_H) (x0 : Int) : Ch_playAll h x0 = ck_ (0 ≤ x0) (if (rf_ h x0 8) < 0 then ck_ (0 ≤ x0) (ck_ (0 ≤ (rd_ h x0 3) ∧ (rd_ h x0 3) ≤ 1000000) (ck_ (0 ≤ x0) (ck_ (0 ≤ x0) (ck_ (0 ≤ (rd_ (nw_ h 20 (rd_ h x0 3)) x0 3) ∧ (rd_ (nw_ h 20 (rd_ h x0 3)) x0 3) ≤ 1000000) (ck_ (0 ≤ x0) (ck_ (0 ≤ x0) (ck_ (0 ≤ x0) (bd_ (Ch_allDepths (wr_ (wf_ (nw_ (wf_ (nw_ h 20 (rd_ h x0 3)) x0 8 (nn_ h)) 20 (rd_ (nw_ h 20 (rd_ h x0 3)) x0 3)) x0 9 (nn_ h + 1)) x0 10 0) x0) fun h1 v2 => Ch_playAll_3 h1 x0 v2 1)))))))) else some (h, 0)) := (ff_of bk_16_0 [(10, x0), (9, 0), (9, 0), (9, 0)] [] h).trans (by
  show (ck_ (0 ≤ x0) (if (rf_ h x0 8) < 0 then JJ 16 2 [(10, x0), (9, 0), (9, 0), (9, 0)] [] h else JJ 16 1 [(10, x0), (9, 0), (9, 0), (9, 0)] [] h)) = _
  simp only [jt_16_1, jt_16_2, ck_or1, ck_or2, rf_wr, ln_wr, nn_wr, rf_cp, ln_cp, nn_cp, ln_wf, nn_wf, rd_wf, nn_nw]
  try rfl)
theorem jt_16_7 (h : am_H) (d2 d3 : am_V) (x0 x1 : Int) : JJ 16 7 [(10, x0), (0, x1), d2, d3] [] h = Ch_playAll_8 h x0 x1 0 := (jj_of bk_16_7 _ _ h).trans ((ff_of bk_16_7 [(10, x0), (0, x1), (9, 0), (9, 0)] [] h).trans (by
  show (JJ 16 8 [(10, x0), (0, x1), (0, 0), (9, 0)] [] h) = _
  simp only [jt_16_8, ck_or1, ck_or2, rf_wr, ln_wr, nn_wr, rf_cp, ln_cp, nn_cp, ln_wf, nn_wf, rd_wf, nn_nw]
  try rfl))
theorem jt_16_6 (h : am_H) (d3 : am_V) (x0 x1 x2 : Int) : JJ 16 6 [(10, x0), (0, x1), (0, x2), d3] [] h = Ch_playAll_3 h x0 x1 (w32 (x2 + 1)) := (jj_of bk_16_6 _ _ h).trans ((ff_of bk_16_6 [(10, x0), (0, x1), (0, x2), (9, 0)] [] h).trans (by
  show (JJ 16 3 [(10, x0), (0, x1), (0, w32 (x2 + 1)), (9, 0)] [] h) = _
  simp only [jt_16_3, ck_or1, ck_or2, rf_wr, ln_wr, nn_wr, rf_cp, ln_cp, nn_cp, ln_wf, nn_wf, rd_wf, nn_nw]
  try rfl))
theorem jt_16_5 (h : am_H) (d3 : am_V) (x0 x1 x2 : Int) : JJ 16 5 [(10, x0), (0, x1), (0, x2), d3] [] h = ck_ (0 ≤ x0) (bd_ (Ch_turned h x0 0 x2) fun h1 v2 => ck_ (0 ≤ x0) (bd_ (Ch_mark h1 x0 v2 (w32 (1 * 2 ^ ((w32 (x2 - 1)) % 32 : Int).toNat))) fun h3 _ => Ch_playAll_3 h3 x0 x1 (w32 (x2 + 1)))) := (jj_of bk_16_5 _ _ h).trans ((ff_of bk_16_5 [(10, x0), (0, x1), (0, x2), (9, 0)] [] h).trans (by
  show (ck_ (0 ≤ x0) (bd_ (CC 3 [(10, x0), (0, 0), (0, x2)] h) fun h1 v2 => ck_ (0 ≤ x0) (bd_ (CC 14 [(10, x0), (0, v2), (0, w32 (1 * 2 ^ ((w32 (x2 - 1)) % 32 : Int).toNat))] h1) fun h3 _ => JJ 16 6 [(10, x0), (0, x1), (0, x2), (9, 0)] [] h3))) = _
  simp only [cc_14, cc_3, jt_16_6, ck_or1, ck_or2, rf_wr, ln_wr, nn_wr, rf_cp, ln_cp, nn_cp, ln_wf, nn_wf, rd_wf, nn_nw]
  try rfl))
theorem jt_16_4 (h : am_H) (d3 : am_V) (x0 x1 x2 : Int) : JJ 16 4 [(10, x0), (0, x1), (0, x2), d3] [] h = if (an_ (x1 / 2 ^ ((w32 (x2 - 1)) % 32 : Int).toNat) 1) = 0 then Ch_playAll_3 h x0 x1 (w32 (x2 + 1)) else ck_ (0 ≤ x0) (bd_ (Ch_turned h x0 0 x2) fun h1 v2 => ck_ (0 ≤ x0) (bd_ (Ch_mark h1 x0 v2 (w32 (1 * 2 ^ ((w32 (x2 - 1)) % 32 : Int).toNat))) fun h3 _ => Ch_playAll_3 h3 x0 x1 (w32 (x2 + 1)))) := (jj_of bk_16_4 _ _ h).trans ((ff_of bk_16_4 [(10, x0), (0, x1), (0, x2), (9, 0)] [] h).trans (by
  show (if (an_ (x1 / 2 ^ ((w32 (x2 - 1)) % 32 : Int).toNat) 1) = 0 then JJ 16 6 [(10, x0), (0, x1), (0, x2), (9, 0)] [] h else JJ 16 5 [(10, x0), (0, x1), (0, x2), (9, 0)] [] h) = _
  simp only [jt_16_5, jt_16_6, ck_or1, ck_or2, rf_wr, ln_wr, nn_wr, rf_cp, ln_cp, nn_cp, ln_wf, nn_wf, rd_wf, nn_nw]
  try rfl))
theorem Ch_playAll_3_e (h : am_H) (x0 x1 x2 : Int) : Ch_playAll_3 h x0 x1 x2 = ck_ (0 ≤ x0) (if (rd_ h x0 1) < x2 then Ch_playAll_8 h x0 x1 0 else if (an_ (x1 / 2 ^ ((w32 (x2 - 1)) % 32 : Int).toNat) 1) = 0 then Ch_playAll_3 h x0 x1 (w32 (x2 + 1)) else ck_ (0 ≤ x0) (bd_ (Ch_turned h x0 0 x2) fun h1 v2 => ck_ (0 ≤ x0) (bd_ (Ch_mark h1 x0 v2 (w32 (1 * 2 ^ ((w32 (x2 - 1)) % 32 : Int).toNat))) fun h3 _ => Ch_playAll_3 h3 x0 x1 (w32 (x2 + 1))))) := (ff_of bk_16_3 [(10, x0), (0, x1), (0, x2), (9, 0)] [] h).trans (by
  show (ck_ (0 ≤ x0) (if (rd_ h x0 1) < x2 then JJ 16 7 [(10, x0), (0, x1), (0, x2), (9, 0)] [] h else JJ 16 4 [(10, x0), (0, x1), (0, x2), (9, 0)] [] h)) = _
  simp only [jt_16_4, jt_16_7, ck_or1, ck_or2, rf_wr, ln_wr, nn_wr, rf_cp, ln_cp, nn_cp, ln_wf, nn_wf, rd_wf, nn_nw]
  try rfl)
theorem jt_16_11 (h : am_H) (d0 d1 d2 d3 : am_V) : JJ 16 11 [d0, d1, d2, d3] [] h = some (h, 0) := (jj_of bk_16_11 _ _ h).trans (ff_of bk_16_11 [(9, 0), (9, 0), (9, 0), (9, 0)] [] h)
set_option maxRecDepth 20000 in
theorem jt_16_10 (h : am_H) (d3 : am_V) (x0 x1 x2 : Int) : JJ 16 10 [(10, x0), (0, x1), (0, x2), d3] [] h = ck_ (0 ≤ x0) (ck_ (0 ≤ x0) (ck_ (0 ≤ x0) (ck_ (0 ≤ x0) (ck_ (0 ≤ (rf_ h x0 9)) (ck_ (0 ≤ (rd_ (wr_ h x0 10 (w32 ((rd_ h x0 10) - 1))) x0 10) ∧ (rd_ (wr_ h x0 10 (w32 ((rd_ h x0 10) - 1))) x0 10) < ln_ h (rf_ h x0 9)) (ck_ (0 ≤ x0) (ck_ (0 ≤ (rf_ h x0 8)) (ck_ (0 ≤ (rd_ (wr_ h x0 10 (w32 ((rd_ h x0 10) - 1))) (rf_ h x0 9) (rd_ (wr_ h x0 10 (w32 ((rd_ h x0 10) - 1))) x0 10)) ∧ (rd_ (wr_ h x0 10 (w32 ((rd_ h x0 10) - 1))) (rf_ h x0 9) (rd_ (wr_ h x0 10 (w32 ((rd_ h x0 10) - 1))) x0 10)) < ln_ h (rf_ h x0 8)) (ck_ (0 ≤ (rf_ h x0 8)) (ck_ (0 ≤ (rd_ (wr_ h x0 10 (w32 ((rd_ h x0 10) - 1))) (rf_ h x0 9) (rd_ (wr_ h x0 10 (w32 ((rd_ h x0 10) - 1))) x0 10)) ∧ (rd_ (wr_ h x0 10 (w32 ((rd_ h x0 10) - 1))) (rf_ h x0 9) (rd_ (wr_ h x0 10 (w32 ((rd_ h x0 10) - 1))) x0 10)) < ln_ h (rf_ h x0 8)) (ck_ (0 ≤ x0) (bd_ (Ch_tellThoseBefore (wr_ (wr_ h x0 10 (w32 ((rd_ h x0 10) - 1))) (rf_ h x0 8) (rd_ (wr_ h x0 10 (w32 ((rd_ h x0 10) - 1))) (rf_ h x0 9) (rd_ (wr_ h x0 10 (w32 ((rd_ h x0 10) - 1))) x0 10)) (an_ (rd_ (wr_ h x0 10 (w32 ((rd_ h x0 10) - 1))) (rf_ h x0 8) (rd_ (wr_ h x0 10 (w32 ((rd_ h x0 10) - 1))) (rf_ h x0 9) (rd_ (wr_ h x0 10 (w32 ((rd_ h x0 10) - 1))) x0 10))) (-1025))) x0 (rd_ (wr_ h x0 10 (w32 ((rd_ h x0 10) - 1))) (rf_ h x0 9) (rd_ (wr_ h x0 10 (w32 ((rd_ h x0 10) - 1))) x0 10)) x1) fun h1 _ => Ch_playAll_8 h1 x0 x1 (w32 (x2 + 1)))))))))))))) := (jj_of bk_16_10 _ _ h).trans ((ff_of bk_16_10 [(10, x0), (0, x1), (0, x2), (9, 0)] [] h).trans (by
  show (ck_ (0 ≤ x0) (ck_ (0 ≤ x0) (ck_ (0 ≤ x0) (ck_ (0 ≤ x0) (ck_ (0 ≤ (rf_ h x0 9)) (ck_ (0 ≤ (rd_ (wr_ h x0 10 (w32 ((rd_ h x0 10) - 1))) x0 10) ∧ (rd_ (wr_ h x0 10 (w32 ((rd_ h x0 10) - 1))) x0 10) < ln_ h (rf_ h x0 9)) (ck_ (0 ≤ x0) (ck_ (0 ≤ (rf_ h x0 8)) (ck_ (0 ≤ (rd_ (wr_ h x0 10 (w32 ((rd_ h x0 10) - 1))) (rf_ h x0 9) (rd_ (wr_ h x0 10 (w32 ((rd_ h x0 10) - 1))) x0 10)) ∧ (rd_ (wr_ h x0 10 (w32 ((rd_ h x0 10) - 1))) (rf_ h x0 9) (rd_ (wr_ h x0 10 (w32 ((rd_ h x0 10) - 1))) x0 10)) < ln_ h (rf_ h x0 8)) (ck_ (0 ≤ (rf_ h x0 8)) (ck_ (0 ≤ (rd_ (wr_ h x0 10 (w32 ((rd_ h x0 10) - 1))) (rf_ h x0 9) (rd_ (wr_ h x0 10 (w32 ((rd_ h x0 10) - 1))) x0 10)) ∧ (rd_ (wr_ h x0 10 (w32 ((rd_ h x0 10) - 1))) (rf_ h x0 9) (rd_ (wr_ h x0 10 (w32 ((rd_ h x0 10) - 1))) x0 10)) < ln_ h (rf_ h x0 8)) (ck_ (0 ≤ x0) (bd_ (CC 15 [(10, x0), (0, rd_ (wr_ h x0 10 (w32 ((rd_ h x0 10) - 1))) (rf_ h x0 9) (rd_ (wr_ h x0 10 (w32 ((rd_ h x0 10) - 1))) x0 10)), (0, x1)] (wr_ (wr_ h x0 10 (w32 ((rd_ h x0 10) - 1))) (rf_ h x0 8) (rd_ (wr_ h x0 10 (w32 ((rd_ h x0 10) - 1))) (rf_ h x0 9) (rd_ (wr_ h x0 10 (w32 ((rd_ h x0 10) - 1))) x0 10)) (an_ (rd_ (wr_ h x0 10 (w32 ((rd_ h x0 10) - 1))) (rf_ h x0 8) (rd_ (wr_ h x0 10 (w32 ((rd_ h x0 10) - 1))) (rf_ h x0 9) (rd_ (wr_ h x0 10 (w32 ((rd_ h x0 10) - 1))) x0 10))) (-1025)))) fun h1 _ => JJ 16 8 [(10, x0), (0, x1), (0, w32 (x2 + 1)), (0, rd_ (wr_ h x0 10 (w32 ((rd_ h x0 10) - 1))) (rf_ h x0 9) (rd_ (wr_ h x0 10 (w32 ((rd_ h x0 10) - 1))) x0 10))] [] h1))))))))))))) = _
  simp only [cc_15, jt_16_8, ck_or1, ck_or2, rf_wr, ln_wr, nn_wr, rf_cp, ln_cp, nn_cp, ln_wf, nn_wf, rd_wf, nn_nw]
  try rfl))
set_option maxRecDepth 20000 in
theorem jt_16_9 (h : am_H) (d3 : am_V) (x0 x1 x2 : Int) : JJ 16 9 [(10, x0), (0, x1), (0, x2), d3] [] h = ck_ (0 ≤ x0) (if (rd_ h x0 10) ≤ 0 then some (h, 0) else ck_ (0 ≤ x0) (ck_ (0 ≤ x0) (ck_ (0 ≤ x0) (ck_ (0 ≤ x0) (ck_ (0 ≤ (rf_ h x0 9)) (ck_ (0 ≤ (rd_ (wr_ h x0 10 (w32 ((rd_ h x0 10) - 1))) x0 10) ∧ (rd_ (wr_ h x0 10 (w32 ((rd_ h x0 10) - 1))) x0 10) < ln_ h (rf_ h x0 9)) (ck_ (0 ≤ x0) (ck_ (0 ≤ (rf_ h x0 8)) (ck_ (0 ≤ (rd_ (wr_ h x0 10 (w32 ((rd_ h x0 10) - 1))) (rf_ h x0 9) (rd_ (wr_ h x0 10 (w32 ((rd_ h x0 10) - 1))) x0 10)) ∧ (rd_ (wr_ h x0 10 (w32 ((rd_ h x0 10) - 1))) (rf_ h x0 9) (rd_ (wr_ h x0 10 (w32 ((rd_ h x0 10) - 1))) x0 10)) < ln_ h (rf_ h x0 8)) (ck_ (0 ≤ (rf_ h x0 8)) (ck_ (0 ≤ (rd_ (wr_ h x0 10 (w32 ((rd_ h x0 10) - 1))) (rf_ h x0 9) (rd_ (wr_ h x0 10 (w32 ((rd_ h x0 10) - 1))) x0 10)) ∧ (rd_ (wr_ h x0 10 (w32 ((rd_ h x0 10) - 1))) (rf_ h x0 9) (rd_ (wr_ h x0 10 (w32 ((rd_ h x0 10) - 1))) x0 10)) < ln_ h (rf_ h x0 8)) (ck_ (0 ≤ x0) (bd_ (Ch_tellThoseBefore (wr_ (wr_ h x0 10 (w32 ((rd_ h x0 10) - 1))) (rf_ h x0 8) (rd_ (wr_ h x0 10 (w32 ((rd_ h x0 10) - 1))) (rf_ h x0 9) (rd_ (wr_ h x0 10 (w32 ((rd_ h x0 10) - 1))) x0 10)) (an_ (rd_ (wr_ h x0 10 (w32 ((rd_ h x0 10) - 1))) (rf_ h x0 8) (rd_ (wr_ h x0 10 (w32 ((rd_ h x0 10) - 1))) (rf_ h x0 9) (rd_ (wr_ h x0 10 (w32 ((rd_ h x0 10) - 1))) x0 10))) (-1025))) x0 (rd_ (wr_ h x0 10 (w32 ((rd_ h x0 10) - 1))) (rf_ h x0 9) (rd_ (wr_ h x0 10 (w32 ((rd_ h x0 10) - 1))) x0 10)) x1) fun h1 _ => Ch_playAll_8 h1 x0 x1 (w32 (x2 + 1))))))))))))))) := (jj_of bk_16_9 _ _ h).trans ((ff_of bk_16_9 [(10, x0), (0, x1), (0, x2), (9, 0)] [] h).trans (by
  show (ck_ (0 ≤ x0) (if (rd_ h x0 10) ≤ 0 then JJ 16 11 [(10, x0), (0, x1), (0, x2), (9, 0)] [] h else JJ 16 10 [(10, x0), (0, x1), (0, x2), (9, 0)] [] h)) = _
  simp only [jt_16_10, jt_16_11, ck_or1, ck_or2, rf_wr, ln_wr, nn_wr, rf_cp, ln_cp, nn_cp, ln_wf, nn_wf, rd_wf, nn_nw]
  try rfl))
set_option maxRecDepth 20000 in
theorem Ch_playAll_8_e (h : am_H) (x0 x1 x2 : Int) : Ch_playAll_8 h x0 x1 x2 = ck_ (0 ≤ x0) (if (w32 (10 * (rd_ h x0 3))) ≤ x2 then some (h, 0) else ck_ (0 ≤ x0) (if (rd_ h x0 10) ≤ 0 then some (h, 0) else ck_ (0 ≤ x0) (ck_ (0 ≤ x0) (ck_ (0 ≤ x0) (ck_ (0 ≤ x0) (ck_ (0 ≤ (rf_ h x0 9)) (ck_ (0 ≤ (rd_ (wr_ h x0 10 (w32 ((rd_ h x0 10) - 1))) x0 10) ∧ (rd_ (wr_ h x0 10 (w32 ((rd_ h x0 10) - 1))) x0 10) < ln_ h (rf_ h x0 9)) (ck_ (0 ≤ x0) (ck_ (0 ≤ (rf_ h x0 8)) (ck_ (0 ≤ (rd_ (wr_ h x0 10 (w32 ((rd_ h x0 10) - 1))) (rf_ h x0 9) (rd_ (wr_ h x0 10 (w32 ((rd_ h x0 10) - 1))) x0 10)) ∧ (rd_ (wr_ h x0 10 (w32 ((rd_ h x0 10) - 1))) (rf_ h x0 9) (rd_ (wr_ h x0 10 (w32 ((rd_ h x0 10) - 1))) x0 10)) < ln_ h (rf_ h x0 8)) (ck_ (0 ≤ (rf_ h x0 8)) (ck_ (0 ≤ (rd_ (wr_ h x0 10 (w32 ((rd_ h x0 10) - 1))) (rf_ h x0 9) (rd_ (wr_ h x0 10 (w32 ((rd_ h x0 10) - 1))) x0 10)) ∧ (rd_ (wr_ h x0 10 (w32 ((rd_ h x0 10) - 1))) (rf_ h x0 9) (rd_ (wr_ h x0 10 (w32 ((rd_ h x0 10) - 1))) x0 10)) < ln_ h (rf_ h x0 8)) (ck_ (0 ≤ x0) (bd_ (Ch_tellThoseBefore (wr_ (wr_ h x0 10 (w32 ((rd_ h x0 10) - 1))) (rf_ h x0 8) (rd_ (wr_ h x0 10 (w32 ((rd_ h x0 10) - 1))) (rf_ h x0 9) (rd_ (wr_ h x0 10 (w32 ((rd_ h x0 10) - 1))) x0 10)) (an_ (rd_ (wr_ h x0 10 (w32 ((rd_ h x0 10) - 1))) (rf_ h x0 8) (rd_ (wr_ h x0 10 (w32 ((rd_ h x0 10) - 1))) (rf_ h x0 9) (rd_ (wr_ h x0 10 (w32 ((rd_ h x0 10) - 1))) x0 10))) (-1025))) x0 (rd_ (wr_ h x0 10 (w32 ((rd_ h x0 10) - 1))) (rf_ h x0 9) (rd_ (wr_ h x0 10 (w32 ((rd_ h x0 10) - 1))) x0 10)) x1) fun h1 _ => Ch_playAll_8 h1 x0 x1 (w32 (x2 + 1)))))))))))))))) := (ff_of bk_16_8 [(10, x0), (0, x1), (0, x2), (9, 0)] [] h).trans (by
  show (ck_ (0 ≤ x0) (if (w32 (10 * (rd_ h x0 3))) ≤ x2 then JJ 16 11 [(10, x0), (0, x1), (0, x2), (9, 0)] [] h else JJ 16 9 [(10, x0), (0, x1), (0, x2), (9, 0)] [] h)) = _
  simp only [jt_16_11, jt_16_9, ck_or1, ck_or2, rf_wr, ln_wr, nn_wr, rf_cp, ln_cp, nn_cp, ln_wf, nn_wf, rd_wf, nn_nw]
  try rfl)
theorem cc_16 (h : am_H) (x0 : Int) : CC 16 [(10, x0)] h = Ch_playAll h x0 := cc_of pk_16 _ h
theorem pk_17 : am_prog 17 = some cd_17 := rfl
theorem bk_17_0 : bk_ am_prog 17 0 = some ([true, true], (bl_17_0, 9999)) := bk_of pk_17 rfl
theorem Ch_lossesOf_e (h : am_H) (x0 x1 : Int) : Ch_lossesOf h x0 x1 = ck_ (0 ≤ x0) (bd_ (Ch_playAll h x0) fun h1 _ => ck_ (0 ≤ x0) (ck_ (0 ≤ (rf_ h1 x0 8)) (ck_ (0 ≤ x1 ∧ x1 < ln_ h1 (rf_ h1 x0 8)) (some (h1, an_ ((rd_ h1 (rf_ h1 x0 8) x1) / 2 ^ (5 % 32 : Int).toNat) 31))))) := (ff_of bk_17_0 [(10, x0), (0, x1)] [] h).trans (by
  show (ck_ (0 ≤ x0) (bd_ (CC 16 [(10, x0)] h) fun h1 _ => ck_ (0 ≤ x0) (ck_ (0 ≤ (rf_ h1 x0 8)) (ck_ (0 ≤ x1 ∧ x1 < ln_ h1 (rf_ h1 x0 8)) (some (h1, an_ ((rd_ h1 (rf_ h1 x0 8) x1) / 2 ^ (5 % 32 : Int).toNat) 31)))))) = _
  simp only [cc_16, ck_or1, ck_or2, rf_wr, ln_wr, nn_wr, rf_cp, ln_cp, nn_cp, ln_wf, nn_wf, rd_wf, nn_nw]
  try rfl)
theorem cc_17 (h : am_H) (x0 x1 : Int) : CC 17 [(10, x0), (0, x1)] h = Ch_lossesOf h x0 x1 := cc_of pk_17 _ h
theorem pk_18 : am_prog 18 = some cd_18 := rfl
theorem bk_18_0 : bk_ am_prog 18 0 = some ([true, true], (bl_18_0, 9999)) := bk_of pk_18 rfl
theorem Ch_winsOf_e (h : am_H) (x0 x1 : Int) : Ch_winsOf h x0 x1 = ck_ (0 ≤ x0) (bd_ (Ch_playAll h x0) fun h1 _ => ck_ (0 ≤ x0) (ck_ (0 ≤ (rf_ h1 x0 8)) (ck_ (0 ≤ x1 ∧ x1 < ln_ h1 (rf_ h1 x0 8)) (some (h1, an_ (rd_ h1 (rf_ h1 x0 8) x1) 31))))) := (ff_of bk_18_0 [(10, x0), (0, x1)] [] h).trans (by
  show (ck_ (0 ≤ x0) (bd_ (CC 16 [(10, x0)] h) fun h1 _ => ck_ (0 ≤ x0) (ck_ (0 ≤ (rf_ h1 x0 8)) (ck_ (0 ≤ x1 ∧ x1 < ln_ h1 (rf_ h1 x0 8)) (some (h1, an_ (rd_ h1 (rf_ h1 x0 8) x1) 31)))))) = _
  simp only [cc_16, ck_or1, ck_or2, rf_wr, ln_wr, nn_wr, rf_cp, ln_cp, nn_cp, ln_wf, nn_wf, rd_wf, nn_nw]
  try rfl)
theorem cc_18 (h : am_H) (x0 x1 : Int) : CC 18 [(10, x0), (0, x1)] h = Ch_winsOf h x0 x1 := cc_of pk_18 _ h
theorem pk_19 : am_prog 19 = some cd_19 := rfl
theorem bk_19_0 : bk_ am_prog 19 0 = some ([true, true, false], (bl_19_0, 9999)) := bk_of pk_19 rfl
theorem bk_19_1 : bk_ am_prog 19 1 = some ([true, true, false], (bl_19_1, 9999)) := bk_of pk_19 rfl
theorem bk_19_2 : bk_ am_prog 19 2 = some ([false, false, false], (bl_19_2, 9999)) := bk_of pk_19 rfl
theorem bk_19_3 : bk_ am_prog 19 3 = some ([true, true, false], (bl_19_3, 9999)) := bk_of pk_19 rfl
theorem bk_19_4 : bk_ am_prog 19 4 = some ([false, false, false], (bl_19_4, 9999)) := bk_of pk_19 rfl
theorem bk_19_5 : bk_ am_prog 19 5 = some ([true, true, false], (bl_19_5, 9999)) := bk_of pk_19 rfl
theorem bk_19_6 : bk_ am_prog 19 6 = some ([false, false, false], (bl_19_6, 9999)) := bk_of pk_19 rfl
theorem bk_19_7 : bk_ am_prog 19 7 = some ([false, false, false], (bl_19_7, 8)) := bk_of pk_19 rfl
theorem bk_19_8 : bk_ am_prog 19 8 = some ([false, false, false], (bl_19_8, 9999)) := bk_of pk_19 rfl
theorem jt_19_2 (h : am_H) (d0 d1 d2 : am_V) : JJ 19 2 [d0, d1, d2] [] h = some (h, 2) := (jj_of bk_19_2 _ _ h).trans (ff_of bk_19_2 [(9, 0), (9, 0), (9, 0)] [] h)
theorem jt_19_8 (h : am_H) (d0 d1 d2 : am_V) (s0 : Int) : JJ 19 8 [d0, d1, d2] [(0, s0)] h = some (h, s0) := (jj_of bk_19_8 _ _ h).trans (ff_of bk_19_8 [(9, 0), (9, 0), (9, 0)] [(0, s0)] h)
theorem jt_19_7 (h : am_H) (d0 d1 d2 : am_V) : JJ 19 7 [d0, d1, d2] [] h = some (h, 2) := (jj_of bk_19_7 _ _ h).trans ((ff_of bk_19_7 [(9, 0), (9, 0), (9, 0)] [] h).trans (by
  show (JJ 19 8 [(9, 0), (9, 0), (9, 0)] [(0, 2)] h) = _
  simp only [jt_19_8, ck_or1, ck_or2, rf_wr, ln_wr, nn_wr, rf_cp, ln_cp, nn_cp, ln_wf, nn_wf, rd_wf, nn_nw]
  try rfl))
theorem jt_19_6 (h : am_H) (d0 d1 d2 : am_V) : JJ 19 6 [d0, d1, d2] [] h = some (h, 1) := (jj_of bk_19_6 _ _ h).trans ((ff_of bk_19_6 [(9, 0), (9, 0), (9, 0)] [] h).trans (by
  show (JJ 19 8 [(9, 0), (9, 0), (9, 0)] [(0, 1)] h) = _
  simp only [jt_19_8, ck_or1, ck_or2, rf_wr, ln_wr, nn_wr, rf_cp, ln_cp, nn_cp, ln_wf, nn_wf, rd_wf, nn_nw]
  try rfl))
theorem jt_19_5 (h : am_H) (d2 : am_V) (x0 x1 : Int) : JJ 19 5 [(10, x0), (0, x1), d2] [] h = ck_ (0 ≤ x0) (bd_ (Ch_lossesOf h x0 x1) fun h1 v2 => ck_ (0 ≤ x0) (bd_ (Ch_allDepths h1 x0) fun h3 v4 => if v2 ≠ v4 then some (h3, 2) else some (h3, 1))) := (jj_of bk_19_5 _ _ h).trans ((ff_of bk_19_5 [(10, x0), (0, x1), (9, 0)] [] h).trans (by
  show (ck_ (0 ≤ x0) (bd_ (CC 17 [(10, x0), (0, x1)] h) fun h1 v2 => ck_ (0 ≤ x0) (bd_ (CC 13 [(10, x0)] h1) fun h3 v4 => if v2 ≠ v4 then JJ 19 7 [(10, x0), (0, x1), (9, 0)] [] h3 else JJ 19 6 [(10, x0), (0, x1), (9, 0)] [] h3))) = _
  simp only [cc_13, cc_17, jt_19_6, jt_19_7, ck_or1, ck_or2, rf_wr, ln_wr, nn_wr, rf_cp, ln_cp, nn_cp, ln_wf, nn_wf, rd_wf, nn_nw]
  try rfl))
theorem jt_19_4 (h : am_H) (d0 d1 d2 : am_V) : JJ 19 4 [d0, d1, d2] [] h = some (h, 0) := (jj_of bk_19_4 _ _ h).trans (ff_of bk_19_4 [(9, 0), (9, 0), (9, 0)] [] h)
theorem jt_19_3 (h : am_H) (d2 : am_V) (x0 x1 : Int) : JJ 19 3 [(10, x0), (0, x1), d2] [] h = ck_ (0 ≤ x0) (bd_ (Ch_winsOf h x0 x1) fun h1 v2 => if v2 = 0 then ck_ (0 ≤ x0) (bd_ (Ch_lossesOf h1 x0 x1) fun h3 v4 => ck_ (0 ≤ x0) (bd_ (Ch_allDepths h3 x0) fun h5 v6 => if v4 ≠ v6 then some (h5, 2) else some (h5, 1))) else some (h1, 0)) := (jj_of bk_19_3 _ _ h).trans ((ff_of bk_19_3 [(10, x0), (0, x1), (9, 0)] [] h).trans (by
  show (ck_ (0 ≤ x0) (bd_ (CC 18 [(10, x0), (0, x1)] h) fun h1 v2 => if v2 = 0 then JJ 19 5 [(10, x0), (0, x1), (0, v2)] [] h1 else JJ 19 4 [(10, x0), (0, x1), (0, v2)] [] h1)) = _
  simp only [cc_18, jt_19_4, jt_19_5, ck_or1, ck_or2, rf_wr, ln_wr, nn_wr, rf_cp, ln_cp, nn_cp, ln_wf, nn_wf, rd_wf, nn_nw]
  try rfl))
theorem jt_19_1 (h : am_H) (d2 : am_V) (x0 x1 : Int) : JJ 19 1 [(10, x0), (0, x1), d2] [] h = ck_ (0 ≤ x0) (bd_ (Ch_has h x0 x1) fun h1 v2 => if v2 ≠ 0 then ck_ (0 ≤ x0) (bd_ (Ch_winsOf h1 x0 x1) fun h3 v4 => if v4 = 0 then ck_ (0 ≤ x0) (bd_ (Ch_lossesOf h3 x0 x1) fun h5 v6 => ck_ (0 ≤ x0) (bd_ (Ch_allDepths h5 x0) fun h7 v8 => if v6 ≠ v8 then some (h7, 2) else some (h7, 1))) else some (h3, 0)) else some (h1, 2)) := (jj_of bk_19_1 _ _ h).trans ((ff_of bk_19_1 [(10, x0), (0, x1), (9, 0)] [] h).trans (by
  show (ck_ (0 ≤ x0) (bd_ (CC 5 [(10, x0), (0, x1)] h) fun h1 v2 => if v2 ≠ 0 then JJ 19 3 [(10, x0), (0, x1), (9, 0)] [] h1 else JJ 19 2 [(10, x0), (0, x1), (9, 0)] [] h1)) = _
  simp only [cc_5, jt_19_2, jt_19_3, ck_or1, ck_or2, rf_wr, ln_wr, nn_wr, rf_cp, ln_cp, nn_cp, ln_wf, nn_wf, rd_wf, nn_nw]
  try rfl))
theorem Ch_winner_e (h : am_H) (x0 x1 : Int) : Ch_winner h x0 x1 = if x1 ≤ 0 then some (h, 2) else ck_ (0 ≤ x0) (bd_ (Ch_has h x0 x1) fun h1 v2 => if v2 ≠ 0 then ck_ (0 ≤ x0) (bd_ (Ch_winsOf h1 x0 x1) fun h3 v4 => if v4 = 0 then ck_ (0 ≤ x0) (bd_ (Ch_lossesOf h3 x0 x1) fun h5 v6 => ck_ (0 ≤ x0) (bd_ (Ch_allDepths h5 x0) fun h7 v8 => if v6 ≠ v8 then some (h7, 2) else some (h7, 1))) else some (h3, 0)) else some (h1, 2)) := (ff_of bk_19_0 [(10, x0), (0, x1), (9, 0)] [] h).trans (by
  show (if x1 ≤ 0 then JJ 19 2 [(10, x0), (0, x1), (9, 0)] [] h else JJ 19 1 [(10, x0), (0, x1), (9, 0)] [] h) = _
  simp only [jt_19_1, jt_19_2, ck_or1, ck_or2, rf_wr, ln_wr, nn_wr, rf_cp, ln_cp, nn_cp, ln_wf, nn_wf, rd_wf, nn_nw]
  try rfl)
theorem cc_19 (h : am_H) (x0 x1 : Int) : CC 19 [(10, x0), (0, x1)] h = Ch_winner h x0 x1 := cc_of pk_19 _ h
theorem pk_20 : am_prog 20 = some cd_20 := rfl
theorem bk_20_0 : bk_ am_prog 20 0 = some ([true, true, false, false], (bl_20_0, 9999)) := bk_of pk_20 rfl
theorem bk_20_1 : bk_ am_prog 20 1 = some ([true, true, false, false], (bl_20_1, 9999)) := bk_of pk_20 rfl
theorem bk_20_2 : bk_ am_prog 20 2 = some ([false, false, false, false], (bl_20_2, 9999)) := bk_of pk_20 rfl
theorem bk_20_3 : bk_ am_prog 20 3 = some ([true, true, false, false], (bl_20_3, 9999)) := bk_of pk_20 rfl
theorem bk_20_4 : bk_ am_prog 20 4 = some ([true, true, false, false], (bl_20_4, 9999)) := bk_of pk_20 rfl
theorem bk_20_5 : bk_ am_prog 20 5 = some ([true, false, false, true], (bl_20_5, 9999)) := bk_of pk_20 rfl
theorem bk_20_6 : bk_ am_prog 20 6 = some ([true, false, false, true], (bl_20_6, 7)) := bk_of pk_20 rfl
theorem bk_20_7 : bk_ am_prog 20 7 = some ([true, false, false, false], (bl_20_7, 8)) := bk_of pk_20 rfl
theorem bk_20_8 : bk_ am_prog 20 8 = some ([true, false, true, false], (bl_20_8, 9)) := bk_of pk_20 rfl
theorem bk_20_9 : bk_ am_prog 20 9 = some ([true, false, true, true], (bl_20_9, 9999)) := bk_of pk_20 rfl
theorem bk_20_10 : bk_ am_prog 20 10 = some ([true, false, true, true], (bl_20_10, 9999)) := bk_of pk_20 rfl
theorem bk_20_11 : bk_ am_prog 20 11 = some ([false, false, false, true], (bl_20_11, 9999)) := bk_of pk_20 rfl
theorem bk_20_12 : bk_ am_prog 20 12 = some ([true, false, true, true], (bl_20_12, 9999)) := bk_of pk_20 rfl
theorem bk_20_13 : bk_ am_prog 20 13 = some ([true, false, false, false], (bl_20_13, 9999)) := bk_of pk_20 rfl
theorem jt_20_9 (h : am_H) (d1 : am_V) (x0 x2 x3 : Int) : JJ 20 9 [(10, x0), d1, (0, x2), (0, x3)] [] h = Ch_opening_9 h x0 x2 x3 := jj_of bk_20_9 _ _ h
theorem jt_20_2 (h : am_H) (d0 d1 d2 d3 : am_V) : JJ 20 2 [d0, d1, d2, d3] [] h = some (h, (-2)) := (jj_of bk_20_2 _ _ h).trans (ff_of bk_20_2 [(9, 0), (9, 0), (9, 0), (9, 0)] [] h)
theorem jt_20_8 (h : am_H) (d1 d3 : am_V) (x0 x2 : Int) : JJ 20 8 [(10, x0), d1, (0, x2), d3] [] h = Ch_opening_9 h x0 x2 1 := (jj_of bk_20_8 _ _ h).trans ((ff_of bk_20_8 [(10, x0), (9, 0), (0, x2), (9, 0)] [] h).trans (by
  show (JJ 20 9 [(10, x0), (9, 0), (0, x2), (0, 1)] [] h) = _
  simp only [jt_20_9, ck_or1, ck_or2, rf_wr, ln_wr, nn_wr, rf_cp, ln_cp, nn_cp, ln_wf, nn_wf, rd_wf, nn_nw]
  try rfl))
theorem jt_20_7 (h : am_H) (d1 d2 d3 : am_V) (x0 s0 : Int) : JJ 20 7 [(10, x0), d1, d2, d3] [(0, s0)] h = Ch_opening_9 h x0 s0 1 := (jj_of bk_20_7 _ _ h).trans ((ff_of bk_20_7 [(10, x0), (9, 0), (9, 0), (9, 0)] [(0, s0)] h).trans (by
  show (JJ 20 8 [(10, x0), (9, 0), (0, s0), (9, 0)] [] h) = _
  simp only [jt_20_8, ck_or1, ck_or2, rf_wr, ln_wr, nn_wr, rf_cp, ln_cp, nn_cp, ln_wf, nn_wf, rd_wf, nn_nw]
  try rfl))
theorem jt_20_6 (h : am_H) (d1 d2 : am_V) (x0 x3 : Int) : JJ 20 6 [(10, x0), d1, d2, (0, x3)] [] h = ck_ (0 ≤ x0) (bd_ (Ch_allDepths h x0) fun h1 v2 => Ch_opening_9 h1 x0 (an_ v2 (xo_ x3 (-1))) 1) := (jj_of bk_20_6 _ _ h).trans ((ff_of bk_20_6 [(10, x0), (9, 0), (9, 0), (0, x3)] [] h).trans (by
  show (ck_ (0 ≤ x0) (bd_ (CC 13 [(10, x0)] h) fun h1 v2 => JJ 20 7 [(10, x0), (9, 0), (9, 0), (0, x3)] [(0, an_ v2 (xo_ x3 (-1)))] h1)) = _
  simp only [cc_13, jt_20_7, ck_or1, ck_or2, rf_wr, ln_wr, nn_wr, rf_cp, ln_cp, nn_cp, ln_wf, nn_wf, rd_wf, nn_nw]
  try rfl))
theorem jt_20_5 (h : am_H) (d1 d2 : am_V) (x0 x3 : Int) : JJ 20 5 [(10, x0), d1, d2, (0, x3)] [] h = Ch_opening_9 h x0 x3 1 := (jj_of bk_20_5 _ _ h).trans ((ff_of bk_20_5 [(10, x0), (9, 0), (9, 0), (0, x3)] [] h).trans (by
  show (JJ 20 7 [(10, x0), (9, 0), (9, 0), (0, x3)] [(0, x3)] h) = _
  simp only [jt_20_7, ck_or1, ck_or2, rf_wr, ln_wr, nn_wr, rf_cp, ln_cp, nn_cp, ln_wf, nn_wf, rd_wf, nn_nw]
  try rfl))
theorem jt_20_4 (h : am_H) (d2 d3 : am_V) (x0 x1 : Int) : JJ 20 4 [(10, x0), (0, x1), d2, d3] [] h = ck_ (0 ≤ x0) (bd_ (Ch_lossesOf h x0 x1) fun h1 v2 => ck_ (0 ≤ x0) (bd_ (Ch_allDepths h1 x0) fun h3 v4 => if v2 ≠ v4 then ck_ (0 ≤ x0) (bd_ (Ch_allDepths h3 x0) fun h5 v6 => Ch_opening_9 h5 x0 (an_ v6 (xo_ v2 (-1))) 1) else Ch_opening_9 h3 x0 v2 1)) := (jj_of bk_20_4 _ _ h).trans ((ff_of bk_20_4 [(10, x0), (0, x1), (9, 0), (9, 0)] [] h).trans (by
  show (ck_ (0 ≤ x0) (bd_ (CC 17 [(10, x0), (0, x1)] h) fun h1 v2 => ck_ (0 ≤ x0) (bd_ (CC 13 [(10, x0)] h1) fun h3 v4 => if v2 ≠ v4 then JJ 20 6 [(10, x0), (0, x1), (9, 0), (0, v2)] [] h3 else JJ 20 5 [(10, x0), (0, x1), (9, 0), (0, v2)] [] h3))) = _
  simp only [cc_13, cc_17, jt_20_5, jt_20_6, ck_or1, ck_or2, rf_wr, ln_wr, nn_wr, rf_cp, ln_cp, nn_cp, ln_wf, nn_wf, rd_wf, nn_nw]
  try rfl))
theorem jt_20_3 (h : am_H) (d2 d3 : am_V) (x0 x1 : Int) : JJ 20 3 [(10, x0), (0, x1), d2, d3] [] h = ck_ (0 ≤ x0) (bd_ (Ch_winsOf h x0 x1) fun h1 v2 => if v2 ≠ 0 then Ch_opening_9 h1 x0 v2 1 else ck_ (0 ≤ x0) (bd_ (Ch_lossesOf h1 x0 x1) fun h3 v4 => ck_ (0 ≤ x0) (bd_ (Ch_allDepths h3 x0) fun h5 v6 => if v4 ≠ v6 then ck_ (0 ≤ x0) (bd_ (Ch_allDepths h5 x0) fun h7 v8 => Ch_opening_9 h7 x0 (an_ v8 (xo_ v4 (-1))) 1) else Ch_opening_9 h5 x0 v4 1))) := (jj_of bk_20_3 _ _ h).trans ((ff_of bk_20_3 [(10, x0), (0, x1), (9, 0), (9, 0)] [] h).trans (by
  show (ck_ (0 ≤ x0) (bd_ (CC 18 [(10, x0), (0, x1)] h) fun h1 v2 => if v2 ≠ 0 then JJ 20 8 [(10, x0), (0, x1), (0, v2), (9, 0)] [] h1 else JJ 20 4 [(10, x0), (0, x1), (0, v2), (9, 0)] [] h1)) = _
  simp only [cc_18, jt_20_4, jt_20_8, ck_or1, ck_or2, rf_wr, ln_wr, nn_wr, rf_cp, ln_cp, nn_cp, ln_wf, nn_wf, rd_wf, nn_nw]
  try rfl))
theorem jt_20_1 (h : am_H) (d2 d3 : am_V) (x0 x1 : Int) : JJ 20 1 [(10, x0), (0, x1), d2, d3] [] h = ck_ (0 ≤ x0) (bd_ (Ch_has h x0 x1) fun h1 v2 => if v2 ≠ 0 then ck_ (0 ≤ x0) (bd_ (Ch_winsOf h1 x0 x1) fun h3 v4 => if v4 ≠ 0 then Ch_opening_9 h3 x0 v4 1 else ck_ (0 ≤ x0) (bd_ (Ch_lossesOf h3 x0 x1) fun h5 v6 => ck_ (0 ≤ x0) (bd_ (Ch_allDepths h5 x0) fun h7 v8 => if v6 ≠ v8 then ck_ (0 ≤ x0) (bd_ (Ch_allDepths h7 x0) fun h9 v10 => Ch_opening_9 h9 x0 (an_ v10 (xo_ v6 (-1))) 1) else Ch_opening_9 h7 x0 v6 1))) else some (h1, (-2))) := (jj_of bk_20_1 _ _ h).trans ((ff_of bk_20_1 [(10, x0), (0, x1), (9, 0), (9, 0)] [] h).trans (by
  show (ck_ (0 ≤ x0) (bd_ (CC 5 [(10, x0), (0, x1)] h) fun h1 v2 => if v2 ≠ 0 then JJ 20 3 [(10, x0), (0, x1), (9, 0), (9, 0)] [] h1 else JJ 20 2 [(10, x0), (0, x1), (9, 0), (9, 0)] [] h1)) = _
  simp only [cc_5, jt_20_2, jt_20_3, ck_or1, ck_or2, rf_wr, ln_wr, nn_wr, rf_cp, ln_cp, nn_cp, ln_wf, nn_wf, rd_wf, nn_nw]
  try rfl))
theorem Ch_opening_e (h : am_H) (x0 x1 : Int) : Ch_opening h x0 x1 = if x1 ≤ 0 then some (h, (-2)) else ck_ (0 ≤ x0) (bd_ (Ch_has h x0 x1) fun h1 v2 => if v2 ≠ 0 then ck_ (0 ≤ x0) (bd_ (Ch_winsOf h1 x0 x1) fun h3 v4 => if v4 ≠ 0 then Ch_opening_9 h3 x0 v4 1 else ck_ (0 ≤ x0) (bd_ (Ch_lossesOf h3 x0 x1) fun h5 v6 => ck_ (0 ≤ x0) (bd_ (Ch_allDepths h5 x0) fun h7 v8 => if v6 ≠ v8 then ck_ (0 ≤ x0) (bd_ (Ch_allDepths h7 x0) fun h9 v10 => Ch_opening_9 h9 x0 (an_ v10 (xo_ v6 (-1))) 1) else Ch_opening_9 h7 x0 v6 1))) else some (h1, (-2))) := (ff_of bk_20_0 [(10, x0), (0, x1), (9, 0), (9, 0)] [] h).trans (by
  show (if x1 ≤ 0 then JJ 20 2 [(10, x0), (0, x1), (9, 0), (9, 0)] [] h else JJ 20 1 [(10, x0), (0, x1), (9, 0), (9, 0)] [] h) = _
  simp only [jt_20_1, jt_20_2, ck_or1, ck_or2, rf_wr, ln_wr, nn_wr, rf_cp, ln_cp, nn_cp, ln_wf, nn_wf, rd_wf, nn_nw]
  try rfl)
theorem jt_20_13 (h : am_H) (d1 d2 d3 : am_V) (x0 : Int) : JJ 20 13 [(10, x0), d1, d2, d3] [] h = ck_ (0 ≤ x0) (some (h, rd_ h x0 1)) := (jj_of bk_20_13 _ _ h).trans (ff_of bk_20_13 [(10, x0), (9, 0), (9, 0), (9, 0)] [] h)
theorem jt_20_12 (h : am_H) (d1 : am_V) (x0 x2 x3 : Int) : JJ 20 12 [(10, x0), d1, (0, x2), (0, x3)] [] h = Ch_opening_9 h x0 x2 (w32 (x3 + 1)) := (jj_of bk_20_12 _ _ h).trans ((ff_of bk_20_12 [(10, x0), (9, 0), (0, x2), (0, x3)] [] h).trans (by
  show (JJ 20 9 [(10, x0), (9, 0), (0, x2), (0, w32 (x3 + 1))] [] h) = _
  simp only [jt_20_9, ck_or1, ck_or2, rf_wr, ln_wr, nn_wr, rf_cp, ln_cp, nn_cp, ln_wf, nn_wf, rd_wf, nn_nw]
  try rfl))
theorem jt_20_11 (h : am_H) (d0 d1 d2 : am_V) (x3 : Int) : JJ 20 11 [d0, d1, d2, (0, x3)] [] h = some (h, x3) := (jj_of bk_20_11 _ _ h).trans (ff_of bk_20_11 [(9, 0), (9, 0), (9, 0), (0, x3)] [] h)
theorem jt_20_10 (h : am_H) (d1 : am_V) (x0 x2 x3 : Int) : JJ 20 10 [(10, x0), d1, (0, x2), (0, x3)] [] h = if (an_ (x2 / 2 ^ ((w32 (x3 - 1)) % 32 : Int).toNat) 1) = 0 then Ch_opening_9 h x0 x2 (w32 (x3 + 1)) else some (h, x3) := (jj_of bk_20_10 _ _ h).trans ((ff_of bk_20_10 [(10, x0), (9, 0), (0, x2), (0, x3)] [] h).trans (by
  show (if (an_ (x2 / 2 ^ ((w32 (x3 - 1)) % 32 : Int).toNat) 1) = 0 then JJ 20 12 [(10, x0), (9, 0), (0, x2), (0, x3)] [] h else JJ 20 11 [(10, x0), (9, 0), (0, x2), (0, x3)] [] h) = _
  simp only [jt_20_11, jt_20_12, ck_or1, ck_or2, rf_wr, ln_wr, nn_wr, rf_cp, ln_cp, nn_cp, ln_wf, nn_wf, rd_wf, nn_nw]
  try rfl))
theorem Ch_opening_9_e (h : am_H) (x0 x2 x3 : Int) : Ch_opening_9 h x0 x2 x3 = ck_ (0 ≤ x0) (if (rd_ h x0 1) ≤ x3 then ck_ (0 ≤ x0) (some (h, rd_ h x0 1)) else if (an_ (x2 / 2 ^ ((w32 (x3 - 1)) % 32 : Int).toNat) 1) = 0 then Ch_opening_9 h x0 x2 (w32 (x3 + 1)) else some (h, x3)) := (ff_of bk_20_9 [(10, x0), (9, 0), (0, x2), (0, x3)] [] h).trans (by
  show (ck_ (0 ≤ x0) (if (rd_ h x0 1) ≤ x3 then JJ 20 13 [(10, x0), (9, 0), (0, x2), (0, x3)] [] h else JJ 20 10 [(10, x0), (9, 0), (0, x2), (0, x3)] [] h)) = _
  simp only [jt_20_10, jt_20_13, ck_or1, ck_or2, rf_wr, ln_wr, nn_wr, rf_cp, ln_cp, nn_cp, ln_wf, nn_wf, rd_wf, nn_nw]
  try rfl)
theorem cc_20 (h : am_H) (x0 x1 : Int) : CC 20 [(10, x0), (0, x1)] h = Ch_opening h x0 x1 := cc_of pk_20 _ h
theorem pk_21 : am_prog 21 = some cd_21 := rfl
theorem bk_21_0 : bk_ am_prog 21 0 = some ([true], (bl_21_0, 9999)) := bk_of pk_21 rfl
theorem Do_new_e (h : am_H) (x0 : Int) : Do_new h x0 = ck_ (0 ≤ x0) (ck_ (0 ≤ (20 : Int) ∧ (20 : Int) ≤ 1000000) (ck_ (0 ≤ x0) (ck_ (0 ≤ (20 : Int) ∧ (20 : Int) ≤ 1000000) (ck_ (0 ≤ x0) (ck_ (0 ≤ (20 : Int) ∧ (20 : Int) ≤ 1000000) (ck_ (0 ≤ x0) (ck_ (0 ≤ x0) (ck_ (0 ≤ x0) (some (wr_ (wr_ (wf_ (nw_ (wf_ (nw_ (wf_ (nw_ h 20 20) x0 0 (nn_ h)) 20 20) x0 1 (nn_ h + 1)) 20 20) x0 2 (nn_ h + 1 + 1)) x0 3 0) x0 4 0, 0)))))))))) := ff_of bk_21_0 [(11, x0)] [] h
theorem cc_21 (h : am_H) (x0 : Int) : CC 21 [(11, x0)] h = Do_new h x0 := cc_of pk_21 _ h
theorem pk_22 : am_prog 22 = some cd_22 := rfl
theorem bk_22_0 : bk_ am_prog 22 0 = some ([true], (bl_22_0, 9999)) := bk_of pk_22 rfl
theorem Do_forget_e (h : am_H) (x0 : Int) : Do_forget h x0 = ck_ (0 ≤ x0) (some (wr_ h x0 3 0, 0)) := ff_of bk_22_0 [(11, x0)] [] h
theorem cc_22 (h : am_H) (x0 : Int) : CC 22 [(11, x0)] h = Do_forget h x0 := cc_of pk_22 _ h
theorem pk_23 : am_prog 23 = some cd_23 := rfl
theorem bk_23_0 : bk_ am_prog 23 0 = some ([true], (bl_23_0, 9999)) := bk_of pk_23 rfl
theorem Do_left_e (h : am_H) (x0 : Int) : Do_left h x0 = ck_ (0 ≤ x0) (some (h, rd_ h x0 3)) := ff_of bk_23_0 [(11, x0)] [] h
theorem cc_23 (h : am_H) (x0 : Int) : CC 23 [(11, x0)] h = Do_left h x0 := cc_of pk_23 _ h
theorem pk_24 : am_prog 24 = some cd_24 := rfl
theorem bk_24_0 : bk_ am_prog 24 0 = some ([true, true, true, true], (bl_24_0, 9999)) := bk_of pk_24 rfl
set_option maxRecDepth 20000 in
theorem Do_note_e (h : am_H) (x0 x1 x2 x3 : Int) : Do_note h x0 x1 x2 x3 = ck_ (0 ≤ x0) (ck_ (0 ≤ x0) (ck_ (0 ≤ (rf_ h x0 0)) (ck_ (0 ≤ (rd_ h x0 4) ∧ (rd_ h x0 4) < ln_ h (rf_ h x0 0)) (ck_ (0 ≤ x0) (ck_ (0 ≤ x0) (ck_ (0 ≤ (rf_ h x0 1)) (ck_ (0 ≤ (rd_ (wr_ h (rf_ h x0 0) (rd_ h x0 4) x1) x0 4) ∧ (rd_ (wr_ h (rf_ h x0 0) (rd_ h x0 4) x1) x0 4) < ln_ h (rf_ h x0 1)) (ck_ (0 ≤ x0) (ck_ (0 ≤ x0) (ck_ (0 ≤ (rf_ h x0 2)) (ck_ (0 ≤ (rd_ (wr_ (wr_ h (rf_ h x0 0) (rd_ h x0 4) x1) (rf_ h x0 1) (rd_ (wr_ h (rf_ h x0 0) (rd_ h x0 4) x1) x0 4) x2) x0 4) ∧ (rd_ (wr_ (wr_ h (rf_ h x0 0) (rd_ h x0 4) x1) (rf_ h x0 1) (rd_ (wr_ h (rf_ h x0 0) (rd_ h x0 4) x1) x0 4) x2) x0 4) < ln_ h (rf_ h x0 2)) (ck_ (0 ≤ x0) (ck_ ((20 : Int) ≠ 0) (ck_ (0 ≤ x0) (ck_ (0 ≤ x0) (ck_ (0 ≤ x0) (some (wr_ (wr_ (wr_ (wr_ (wr_ h (rf_ h x0 0) (rd_ h x0 4) x1) (rf_ h x0 1) (rd_ (wr_ h (rf_ h x0 0) (rd_ h x0 4) x1) x0 4) x2) (rf_ h x0 2) (rd_ (wr_ (wr_ h (rf_ h x0 0) (rd_ h x0 4) x1) (rf_ h x0 1) (rd_ (wr_ h (rf_ h x0 0) (rd_ h x0 4) x1) x0 4) x2) x0 4) x3) x0 4 (Int.tmod (w32 ((rd_ (wr_ (wr_ (wr_ h (rf_ h x0 0) (rd_ h x0 4) x1) (rf_ h x0 1) (rd_ (wr_ h (rf_ h x0 0) (rd_ h x0 4) x1) x0 4) x2) (rf_ h x0 2) (rd_ (wr_ (wr_ h (rf_ h x0 0) (rd_ h x0 4) x1) (rf_ h x0 1) (rd_ (wr_ h (rf_ h x0 0) (rd_ h x0 4) x1) x0 4) x2) x0 4) x3) x0 4) + 1)) 20)) x0 3 (if (20 : Int) < (w32 ((rd_ (wr_ (wr_ (wr_ (wr_ h (rf_ h x0 0) (rd_ h x0 4) x1) (rf_ h x0 1) (rd_ (wr_ h (rf_ h x0 0) (rd_ h x0 4) x1) x0 4) x2) (rf_ h x0 2) (rd_ (wr_ (wr_ h (rf_ h x0 0) (rd_ h x0 4) x1) (rf_ h x0 1) (rd_ (wr_ h (rf_ h x0 0) (rd_ h x0 4) x1) x0 4) x2) x0 4) x3) x0 4 (Int.tmod (w32 ((rd_ (wr_ (wr_ (wr_ h (rf_ h x0 0) (rd_ h x0 4) x1) (rf_ h x0 1) (rd_ (wr_ h (rf_ h x0 0) (rd_ h x0 4) x1) x0 4) x2) (rf_ h x0 2) (rd_ (wr_ (wr_ h (rf_ h x0 0) (rd_ h x0 4) x1) (rf_ h x0 1) (rd_ (wr_ h (rf_ h x0 0) (rd_ h x0 4) x1) x0 4) x2) x0 4) x3) x0 4) + 1)) 20)) x0 3) + 1)) then (20 : Int) else (w32 ((rd_ (wr_ (wr_ (wr_ (wr_ h (rf_ h x0 0) (rd_ h x0 4) x1) (rf_ h x0 1) (rd_ (wr_ h (rf_ h x0 0) (rd_ h x0 4) x1) x0 4) x2) (rf_ h x0 2) (rd_ (wr_ (wr_ h (rf_ h x0 0) (rd_ h x0 4) x1) (rf_ h x0 1) (rd_ (wr_ h (rf_ h x0 0) (rd_ h x0 4) x1) x0 4) x2) x0 4) x3) x0 4 (Int.tmod (w32 ((rd_ (wr_ (wr_ (wr_ h (rf_ h x0 0) (rd_ h x0 4) x1) (rf_ h x0 1) (rd_ (wr_ h (rf_ h x0 0) (rd_ h x0 4) x1) x0 4) x2) (rf_ h x0 2) (rd_ (wr_ (wr_ h (rf_ h x0 0) (rd_ h x0 4) x1) (rf_ h x0 1) (rd_ (wr_ h (rf_ h x0 0) (rd_ h x0 4) x1) x0 4) x2) x0 4) x3) x0 4) + 1)) 20)) x0 3) + 1))), 0)))))))))))))))))) := ff_of bk_24_0 [(11, x0), (0, x1), (0, x2), (0, x3)] [] h
theorem cc_24 (h : am_H) (x0 x1 x2 x3 : Int) : CC 24 [(11, x0), (0, x1), (0, x2), (0, x3)] h = Do_note h x0 x1 x2 x3 := cc_of pk_24 _ h
theorem pk_25 : am_prog 25 = some cd_25 := rfl
theorem bk_25_0 : bk_ am_prog 25 0 = some ([true], (bl_25_0, 9999)) := bk_of pk_25 rfl
theorem bk_25_1 : bk_ am_prog 25 1 = some ([false], (bl_25_1, 9999)) := bk_of pk_25 rfl
theorem bk_25_2 : bk_ am_prog 25 2 = some ([true], (bl_25_2, 9999)) := bk_of pk_25 rfl
theorem jt_25_2 (h : am_H) (x0 : Int) : JJ 25 2 [(11, x0)] [] h = ck_ (0 ≤ x0) (ck_ ((20 : Int) ≠ 0) (ck_ (0 ≤ x0) (ck_ (0 ≤ x0) (ck_ (0 ≤ x0) (some (wr_ (wr_ h x0 4 (Int.tmod (w32 ((w32 ((rd_ h x0 4) + 20)) - 1)) 20)) x0 3 (w32 ((rd_ (wr_ h x0 4 (Int.tmod (w32 ((w32 ((rd_ h x0 4) + 20)) - 1)) 20)) x0 3) - 1)), 1)))))) := (jj_of bk_25_2 _ _ h).trans (ff_of bk_25_2 [(11, x0)] [] h)
theorem jt_25_1 (h : am_H) (d0 : am_V) : JJ 25 1 [d0] [] h = some (h, 0) := (jj_of bk_25_1 _ _ h).trans (ff_of bk_25_1 [(9, 0)] [] h)
theorem Do_takeLatest_e (h : am_H) (x0 : Int) : Do_takeLatest h x0 = ck_ (0 ≤ x0) (if (rd_ h x0 3) ≠ 0 then ck_ (0 ≤ x0) (ck_ ((20 : Int) ≠ 0) (ck_ (0 ≤ x0) (ck_ (0 ≤ x0) (ck_ (0 ≤ x0) (some (wr_ (wr_ h x0 4 (Int.tmod (w32 ((w32 ((rd_ h x0 4) + 20)) - 1)) 20)) x0 3 (w32 ((rd_ (wr_ h x0 4 (Int.tmod (w32 ((w32 ((rd_ h x0 4) + 20)) - 1)) 20)) x0 3) - 1)), 1)))))) else some (h, 0)) := (ff_of bk_25_0 [(11, x0)] [] h).trans (by
  show (ck_ (0 ≤ x0) (if (rd_ h x0 3) ≠ 0 then JJ 25 2 [(11, x0)] [] h else JJ 25 1 [(11, x0)] [] h)) = _
  simp only [jt_25_1, jt_25_2, ck_or1, ck_or2, rf_wr, ln_wr, nn_wr, rf_cp, ln_cp, nn_cp, ln_wf, nn_wf, rd_wf, nn_nw]
  try rfl)
theorem cc_25 (h : am_H) (x0 : Int) : CC 25 [(11, x0)] h = Do_takeLatest h x0 := cc_of pk_25 _ h
theorem pk_26 : am_prog 26 = some cd_26 := rfl
theorem bk_26_0 : bk_ am_prog 26 0 = some ([true], (bl_26_0, 9999)) := bk_of pk_26 rfl
theorem Do_kind_e (h : am_H) (x0 : Int) : Do_kind h x0 = ck_ (0 ≤ x0) (ck_ (0 ≤ x0) (ck_ (0 ≤ (rf_ h x0 0)) (ck_ (0 ≤ (rd_ h x0 4) ∧ (rd_ h x0 4) < ln_ h (rf_ h x0 0)) (some (h, rd_ h (rf_ h x0 0) (rd_ h x0 4)))))) := ff_of bk_26_0 [(11, x0)] [] h
theorem cc_26 (h : am_H) (x0 : Int) : CC 26 [(11, x0)] h = Do_kind h x0 := cc_of pk_26 _ h
theorem pk_27 : am_prog 27 = some cd_27 := rfl
theorem bk_27_0 : bk_ am_prog 27 0 = some ([true], (bl_27_0, 9999)) := bk_of pk_27 rfl
theorem Do_one_e (h : am_H) (x0 : Int) : Do_one h x0 = ck_ (0 ≤ x0) (ck_ (0 ≤ x0) (ck_ (0 ≤ (rf_ h x0 1)) (ck_ (0 ≤ (rd_ h x0 4) ∧ (rd_ h x0 4) < ln_ h (rf_ h x0 1)) (some (h, rd_ h (rf_ h x0 1) (rd_ h x0 4)))))) := ff_of bk_27_0 [(11, x0)] [] h
theorem cc_27 (h : am_H) (x0 : Int) : CC 27 [(11, x0)] h = Do_one h x0 := cc_of pk_27 _ h
theorem pk_28 : am_prog 28 = some cd_28 := rfl
theorem bk_28_0 : bk_ am_prog 28 0 = some ([true], (bl_28_0, 9999)) := bk_of pk_28 rfl
theorem Do_other_e (h : am_H) (x0 : Int) : Do_other h x0 = ck_ (0 ≤ x0) (ck_ (0 ≤ x0) (ck_ (0 ≤ (rf_ h x0 2)) (ck_ (0 ≤ (rd_ h x0 4) ∧ (rd_ h x0 4) < ln_ h (rf_ h x0 2)) (some (h, rd_ h (rf_ h x0 2) (rd_ h x0 4)))))) := ff_of bk_28_0 [(11, x0)] [] h
theorem cc_28 (h : am_H) (x0 : Int) : CC 28 [(11, x0)] h = Do_other h x0 := cc_of pk_28 _ h
theorem pk_29 : am_prog 29 = some cd_29 := rfl
theorem bk_29_0 : bk_ am_prog 29 0 = some ([true], (bl_29_0, 9999)) := bk_of pk_29 rfl
theorem Fo_new_e (h : am_H) (x0 : Int) : Fo_new h x0 = ck_ (0 ≤ x0) (ck_ (0 ≤ (72 : Int) ∧ (72 : Int) ≤ 1000000) (ck_ (0 ≤ x0) (ck_ (0 ≤ x0) (ck_ (0 ≤ x0) (some (wf_ (wf_ (wf_ (nw_ h 20 72) x0 0 (nn_ h)) x0 1 (-1)) x0 2 (-1), 0)))))) := ff_of bk_29_0 [(12, x0)] [] h
theorem cc_29 (h : am_H) (x0 : Int) : CC 29 [(12, x0)] h = Fo_new h x0 := cc_of pk_29 _ h
theorem pk_30 : am_prog 30 = some cd_30 := rfl
theorem bk_30_0 : bk_ am_prog 30 0 = some ([true, true], (bl_30_0, 9999)) := bk_of pk_30 rfl
theorem bk_30_1 : bk_ am_prog 30 1 = some ([true, true], (bl_30_1, 2)) := bk_of pk_30 rfl
theorem bk_30_2 : bk_ am_prog 30 2 = some ([false, false], (bl_30_2, 9999)) := bk_of pk_30 rfl
theorem jt_30_2 (h : am_H) (d0 d1 : am_V) : JJ 30 2 [d0, d1] [] h = some (h, 0) := (jj_of bk_30_2 _ _ h).trans (ff_of bk_30_2 [(9, 0), (9, 0)] [] h)
theorem jt_30_1 (h : am_H) (x0 x1 : Int) : JJ 30 1 [(12, x0), (0, x1)] [] h = ck_ (0 ≤ x0) (ck_ (0 ≤ (rf_ h x0 2)) (ck_ (0 ≤ x0) (ck_ (0 ≤ (rf_ h (rf_ h x0 2) 14)) (ck_ (0 ≤ (rd_ h x0 6) ∧ (rd_ h x0 6) < ln_ h (rf_ h (rf_ h x0 2) 14)) (ck_ (0 ≤ x0) (ck_ (0 ≤ x0) (some (wr_ (wr_ h (rf_ h (rf_ h x0 2) 14) (rd_ h x0 6) x1) x0 6 (w32 ((rd_ (wr_ h (rf_ h (rf_ h x0 2) 14) (rd_ h x0 6) x1) x0 6) + 1)), 0)))))))) := (jj_of bk_30_1 _ _ h).trans ((ff_of bk_30_1 [(12, x0), (0, x1)] [] h).trans (by
  show (ck_ (0 ≤ x0) (ck_ (0 ≤ (rf_ h x0 2)) (ck_ (0 ≤ x0) (ck_ (0 ≤ (rf_ h (rf_ h x0 2) 14)) (ck_ (0 ≤ (rd_ h x0 6) ∧ (rd_ h x0 6) < ln_ h (rf_ h (rf_ h x0 2) 14)) (ck_ (0 ≤ x0) (ck_ (0 ≤ x0) (JJ 30 2 [(12, x0), (0, x1)] [] (wr_ (wr_ h (rf_ h (rf_ h x0 2) 14) (rd_ h x0 6) x1) x0 6 (w32 ((rd_ (wr_ h (rf_ h (rf_ h x0 2) 14) (rd_ h x0 6) x1) x0 6) + 1))))))))))) = _
  simp only [jt_30_2, ck_or1, ck_or2, rf_wr, ln_wr, nn_wr, rf_cp, ln_cp, nn_cp, ln_wf, nn_wf, rd_wf, nn_nw]
  try rfl))
theorem Fo_put_e (h : am_H) (x0 x1 : Int) : Fo_put h x0 x1 = ck_ (0 ≤ x0) (if 64 ≤ (rd_ h x0 6) then some (h, 0) else ck_ (0 ≤ x0) (ck_ (0 ≤ (rf_ h x0 2)) (ck_ (0 ≤ x0) (ck_ (0 ≤ (rf_ h (rf_ h x0 2) 14)) (ck_ (0 ≤ (rd_ h x0 6) ∧ (rd_ h x0 6) < ln_ h (rf_ h (rf_ h x0 2) 14)) (ck_ (0 ≤ x0) (ck_ (0 ≤ x0) (some (wr_ (wr_ h (rf_ h (rf_ h x0 2) 14) (rd_ h x0 6) x1) x0 6 (w32 ((rd_ (wr_ h (rf_ h (rf_ h x0 2) 14) (rd_ h x0 6) x1) x0 6) + 1)), 0))))))))) := (ff_of bk_30_0 [(12, x0), (0, x1)] [] h).trans (by
  show (ck_ (0 ≤ x0) (if 64 ≤ (rd_ h x0 6) then JJ 30 2 [(12, x0), (0, x1)] [] h else JJ 30 1 [(12, x0), (0, x1)] [] h)) = _
  simp only [jt_30_1, jt_30_2, ck_or1, ck_or2, rf_wr, ln_wr, nn_wr, rf_cp, ln_cp, nn_cp, ln_wf, nn_wf, rd_wf, nn_nw]
  try rfl)
theorem cc_30 (h : am_H) (x0 x1 : Int) : CC 30 [(12, x0), (0, x1)] h = Fo_put h x0 x1 := cc_of pk_30 _ h
theorem pk_31 : am_prog 31 = some cd_31 := rfl
theorem bk_31_0 : bk_ am_prog 31 0 = some ([true], (bl_31_0, 9999)) := bk_of pk_31 rfl
theorem bk_31_1 : bk_ am_prog 31 1 = some ([false], (bl_31_1, 9999)) := bk_of pk_31 rfl
theorem bk_31_2 : bk_ am_prog 31 2 = some ([false], (bl_31_2, 9999)) := bk_of pk_31 rfl
theorem bk_31_3 : bk_ am_prog 31 3 = some ([false], (bl_31_3, 9999)) := bk_of pk_31 rfl
theorem bk_31_4 : bk_ am_prog 31 4 = some ([false], (bl_31_4, 9999)) := bk_of pk_31 rfl
theorem bk_31_5 : bk_ am_prog 31 5 = some ([false], (bl_31_5, 9999)) := bk_of pk_31 rfl
theorem bk_31_6 : bk_ am_prog 31 6 = some ([false], (bl_31_6, 9999)) := bk_of pk_31 rfl
theorem bk_31_7 : bk_ am_prog 31 7 = some ([false], (bl_31_7, 9999)) := bk_of pk_31 rfl
theorem jt_31_7 (h : am_H) (d0 : am_V) : JJ 31 7 [d0] [] h = some (h, 0) := (jj_of bk_31_7 _ _ h).trans (ff_of bk_31_7 [(9, 0)] [] h)
theorem jt_31_1 (h : am_H) (d0 : am_V) : JJ 31 1 [d0] [] h = some (h, 1) := (jj_of bk_31_1 _ _ h).trans (ff_of bk_31_1 [(9, 0)] [] h)
theorem jt_31_2 (h : am_H) (d0 : am_V) : JJ 31 2 [d0] [] h = some (h, 2) := (jj_of bk_31_2 _ _ h).trans (ff_of bk_31_2 [(9, 0)] [] h)
theorem jt_31_3 (h : am_H) (d0 : am_V) : JJ 31 3 [d0] [] h = some (h, 3) := (jj_of bk_31_3 _ _ h).trans (ff_of bk_31_3 [(9, 0)] [] h)
theorem jt_31_4 (h : am_H) (d0 : am_V) : JJ 31 4 [d0] [] h = some (h, 4) := (jj_of bk_31_4 _ _ h).trans (ff_of bk_31_4 [(9, 0)] [] h)
theorem jt_31_5 (h : am_H) (d0 : am_V) : JJ 31 5 [d0] [] h = some (h, 5) := (jj_of bk_31_5 _ _ h).trans (ff_of bk_31_5 [(9, 0)] [] h)
theorem jt_31_6 (h : am_H) (d0 : am_V) : JJ 31 6 [d0] [] h = some (h, 6) := (jj_of bk_31_6 _ _ h).trans (ff_of bk_31_6 [(9, 0)] [] h)
set_option maxRecDepth 20000 in
theorem Fo_strength_e (h : am_H) (x0 : Int) : Fo_strength h x0 = if x0 = 20 then some (h, 1) else if x0 = 21 then some (h, 2) else if x0 = 22 then some (h, 3) else if x0 = 23 then some (h, 0) else if x0 = 24 then some (h, 0) else if x0 = 25 then some (h, 0) else if x0 = 26 then some (h, 0) else if x0 = 27 then some (h, 0) else if x0 = 28 then some (h, 0) else if x0 = 29 then some (h, 0) else if x0 = 30 then some (h, 4) else if x0 = 31 then some (h, 4) else if x0 = 32 then some (h, 4) else if x0 = 33 then some (h, 4) else if x0 = 34 then some (h, 4) else if x0 = 35 then some (h, 4) else if x0 = 36 then some (h, 5) else if x0 = 37 then some (h, 5) else if x0 = 38 then some (h, 6) else if x0 = 39 then some (h, 6) else some (h, 0) := (ff_of bk_31_0 [(0, x0)] [] h).trans (by
  show (if x0 = 20 then JJ 31 1 [(0, x0)] [] h else if x0 = 21 then JJ 31 2 [(0, x0)] [] h else if x0 = 22 then JJ 31 3 [(0, x0)] [] h else if x0 = 23 then JJ 31 7 [(0, x0)] [] h else if x0 = 24 then JJ 31 7 [(0, x0)] [] h else if x0 = 25 then JJ 31 7 [(0, x0)] [] h else if x0 = 26 then JJ 31 7 [(0, x0)] [] h else if x0 = 27 then JJ 31 7 [(0, x0)] [] h else if x0 = 28 then JJ 31 7 [(0, x0)] [] h else if x0 = 29 then JJ 31 7 [(0, x0)] [] h else if x0 = 30 then JJ 31 4 [(0, x0)] [] h else if x0 = 31 then JJ 31 4 [(0, x0)] [] h else if x0 = 32 then JJ 31 4 [(0, x0)] [] h else if x0 = 33 then JJ 31 4 [(0, x0)] [] h else if x0 = 34 then JJ 31 4 [(0, x0)] [] h else if x0 = 35 then JJ 31 4 [(0, x0)] [] h else if x0 = 36 then JJ 31 5 [(0, x0)] [] h else if x0 = 37 then JJ 31 5 [(0, x0)] [] h else if x0 = 38 then JJ 31 6 [(0, x0)] [] h else if x0 = 39 then JJ 31 6 [(0, x0)] [] h else JJ 31 7 [(0, x0)] [] h) = _
  simp only [jt_31_1, jt_31_2, jt_31_3, jt_31_4, jt_31_5, jt_31_6, jt_31_7, ck_or1, ck_or2, rf_wr, ln_wr, nn_wr, rf_cp, ln_cp, nn_cp, ln_wf, nn_wf, rd_wf, nn_nw]
  try rfl)
theorem cc_31 (h : am_H) (x0 : Int) : CC 31 [(0, x0)] h = Fo_strength h x0 := cc_of pk_31 _ h
theorem pk_32 : am_prog 32 = some cd_32 := rfl
theorem bk_32_0 : bk_ am_prog 32 0 = some ([true, true], (bl_32_0, 9999)) := bk_of pk_32 rfl
theorem bk_32_1 : bk_ am_prog 32 1 = some ([true, true], (bl_32_1, 9999)) := bk_of pk_32 rfl
theorem bk_32_2 : bk_ am_prog 32 2 = some ([true, true], (bl_32_2, 9999)) := bk_of pk_32 rfl
theorem bk_32_3 : bk_ am_prog 32 3 = some ([false, false], (bl_32_3, 9999)) := bk_of pk_32 rfl
theorem jt_32_0 (h : am_H) (x0 x1 : Int) : JJ 32 0 [(12, x0), (0, x1)] [] h = Fo_putDown h x0 x1 := jj_of bk_32_0 _ _ h
theorem jt_32_3 (h : am_H) (d0 d1 : am_V) : JJ 32 3 [d0, d1] [] h = some (h, 0) := (jj_of bk_32_3 _ _ h).trans (ff_of bk_32_3 [(9, 0), (9, 0)] [] h)
theorem jt_32_2 (h : am_H) (x0 x1 : Int) : JJ 32 2 [(12, x0), (0, x1)] [] h = ck_ (0 ≤ x0) (ck_ (0 ≤ x0) (ck_ (0 ≤ x0) (ck_ (0 ≤ x0) (ck_ (0 ≤ (rf_ h x0 0)) (ck_ (0 ≤ (rd_ (wr_ h x0 3 (w32 ((rd_ h x0 3) - 1))) x0 3) ∧ (rd_ (wr_ h x0 3 (w32 ((rd_ h x0 3) - 1))) x0 3) < ln_ h (rf_ h x0 0)) (ck_ (0 ≤ x0) (bd_ (Fo_put (wr_ h x0 3 (w32 ((rd_ h x0 3) - 1))) x0 (rd_ (wr_ h x0 3 (w32 ((rd_ h x0 3) - 1))) (rf_ h x0 0) (rd_ (wr_ h x0 3 (w32 ((rd_ h x0 3) - 1))) x0 3))) fun h1 _ => Fo_putDown h1 x0 x1))))))) := (jj_of bk_32_2 _ _ h).trans ((ff_of bk_32_2 [(12, x0), (0, x1)] [] h).trans (by
  show (ck_ (0 ≤ x0) (ck_ (0 ≤ x0) (ck_ (0 ≤ x0) (ck_ (0 ≤ x0) (ck_ (0 ≤ (rf_ h x0 0)) (ck_ (0 ≤ (rd_ (wr_ h x0 3 (w32 ((rd_ h x0 3) - 1))) x0 3) ∧ (rd_ (wr_ h x0 3 (w32 ((rd_ h x0 3) - 1))) x0 3) < ln_ h (rf_ h x0 0)) (ck_ (0 ≤ x0) (bd_ (CC 30 [(12, x0), (0, rd_ (wr_ h x0 3 (w32 ((rd_ h x0 3) - 1))) (rf_ h x0 0) (rd_ (wr_ h x0 3 (w32 ((rd_ h x0 3) - 1))) x0 3))] (wr_ h x0 3 (w32 ((rd_ h x0 3) - 1)))) fun h1 _ => JJ 32 0 [(12, x0), (0, x1)] [] h1)))))))) = _
  simp only [cc_30, jt_32_0, ck_or1, ck_or2, rf_wr, ln_wr, nn_wr, rf_cp, ln_cp, nn_cp, ln_wf, nn_wf, rd_wf, nn_nw]
  try rfl))
set_option maxRecDepth 20000 in
theorem jt_32_1 (h : am_H) (x0 x1 : Int) : JJ 32 1 [(12, x0), (0, x1)] [] h = ck_ (0 ≤ x0) (ck_ (0 ≤ x0) (ck_ (0 ≤ (rf_ h x0 0)) (ck_ (0 ≤ (w32 ((rd_ h x0 3) - 1)) ∧ (w32 ((rd_ h x0 3) - 1)) < ln_ h (rf_ h x0 0)) (bd_ (Fo_strength h (rd_ h (rf_ h x0 0) (w32 ((rd_ h x0 3) - 1)))) fun h1 v2 => if v2 < x1 then some (h1, 0) else ck_ (0 ≤ x0) (ck_ (0 ≤ x0) (ck_ (0 ≤ x0) (ck_ (0 ≤ x0) (ck_ (0 ≤ (rf_ h1 x0 0)) (ck_ (0 ≤ (rd_ (wr_ h1 x0 3 (w32 ((rd_ h1 x0 3) - 1))) x0 3) ∧ (rd_ (wr_ h1 x0 3 (w32 ((rd_ h1 x0 3) - 1))) x0 3) < ln_ h1 (rf_ h1 x0 0)) (ck_ (0 ≤ x0) (bd_ (Fo_put (wr_ h1 x0 3 (w32 ((rd_ h1 x0 3) - 1))) x0 (rd_ (wr_ h1 x0 3 (w32 ((rd_ h1 x0 3) - 1))) (rf_ h1 x0 0) (rd_ (wr_ h1 x0 3 (w32 ((rd_ h1 x0 3) - 1))) x0 3))) fun h3 _ => Fo_putDown h3 x0 x1))))))))))) := (jj_of bk_32_1 _ _ h).trans ((ff_of bk_32_1 [(12, x0), (0, x1)] [] h).trans (by
  show (ck_ (0 ≤ x0) (ck_ (0 ≤ x0) (ck_ (0 ≤ (rf_ h x0 0)) (ck_ (0 ≤ (w32 ((rd_ h x0 3) - 1)) ∧ (w32 ((rd_ h x0 3) - 1)) < ln_ h (rf_ h x0 0)) (bd_ (CC 31 [(0, rd_ h (rf_ h x0 0) (w32 ((rd_ h x0 3) - 1)))] h) fun h1 v2 => if v2 < x1 then JJ 32 3 [(12, x0), (0, x1)] [] h1 else JJ 32 2 [(12, x0), (0, x1)] [] h1))))) = _
  simp only [cc_31, jt_32_2, jt_32_3, ck_or1, ck_or2, rf_wr, ln_wr, nn_wr, rf_cp, ln_cp, nn_cp, ln_wf, nn_wf, rd_wf, nn_nw]
  try rfl))
theorem Fo_putDown_e (h : am_H) (x0 x1 : Int) : Fo_putDown h x0 x1 = ck_ (0 ≤ x0) (if (rd_ h x0 3) ≤ 0 then some (h, 0) else ck_ (0 ≤ x0) (ck_ (0 ≤ x0) (ck_ (0 ≤ (rf_ h x0 0)) (ck_ (0 ≤ (w32 ((rd_ h x0 3) - 1)) ∧ (w32 ((rd_ h x0 3) - 1)) < ln_ h (rf_ h x0 0)) (bd_ (Fo_strength h (rd_ h (rf_ h x0 0) (w32 ((rd_ h x0 3) - 1)))) fun h1 v2 => if v2 < x1 then some (h1, 0) else ck_ (0 ≤ x0) (ck_ (0 ≤ x0) (ck_ (0 ≤ x0) (ck_ (0 ≤ x0) (ck_ (0 ≤ (rf_ h1 x0 0)) (ck_ (0 ≤ (rd_ (wr_ h1 x0 3 (w32 ((rd_ h1 x0 3) - 1))) x0 3) ∧ (rd_ (wr_ h1 x0 3 (w32 ((rd_ h1 x0 3) - 1))) x0 3) < ln_ h1 (rf_ h1 x0 0)) (ck_ (0 ≤ x0) (bd_ (Fo_put (wr_ h1 x0 3 (w32 ((rd_ h1 x0 3) - 1))) x0 (rd_ (wr_ h1 x0 3 (w32 ((rd_ h1 x0 3) - 1))) (rf_ h1 x0 0) (rd_ (wr_ h1 x0 3 (w32 ((rd_ h1 x0 3) - 1))) x0 3))) fun h3 _ => Fo_putDown h3 x0 x1)))))))))))) := (ff_of bk_32_0 [(12, x0), (0, x1)] [] h).trans (by
  show (ck_ (0 ≤ x0) (if (rd_ h x0 3) ≤ 0 then JJ 32 3 [(12, x0), (0, x1)] [] h else JJ 32 1 [(12, x0), (0, x1)] [] h)) = _
  simp only [jt_32_1, jt_32_3, ck_or1, ck_or2, rf_wr, ln_wr, nn_wr, rf_cp, ln_cp, nn_cp, ln_wf, nn_wf, rd_wf, nn_nw]
  try rfl)
theorem cc_32 (h : am_H) (x0 x1 : Int) : CC 32 [(12, x0), (0, x1)] h = Fo_putDown h x0 x1 := cc_of pk_32 _ h
theorem pk_33 : am_prog 33 = some cd_33 := rfl
theorem bk_33_0 : bk_ am_prog 33 0 = some ([true, true], (bl_33_0, 9999)) := bk_of pk_33 rfl
theorem bk_33_1 : bk_ am_prog 33 1 = some ([false, false], (bl_33_1, 9999)) := bk_of pk_33 rfl
theorem bk_33_2 : bk_ am_prog 33 2 = some ([true, true], (bl_33_2, 9999)) := bk_of pk_33 rfl
theorem jt_33_2 (h : am_H) (x0 x1 : Int) : JJ 33 2 [(12, x0), (0, x1)] [] h = ck_ (0 ≤ x0) (ck_ (0 ≤ x0) (ck_ (0 ≤ (rf_ h x0 0)) (ck_ (0 ≤ (rd_ h x0 3) ∧ (rd_ h x0 3) < ln_ h (rf_ h x0 0)) (ck_ (0 ≤ x0) (ck_ (0 ≤ x0) (some (wr_ (wr_ h (rf_ h x0 0) (rd_ h x0 3) x1) x0 3 (w32 ((rd_ (wr_ h (rf_ h x0 0) (rd_ h x0 3) x1) x0 3) + 1)), 0))))))) := (jj_of bk_33_2 _ _ h).trans (ff_of bk_33_2 [(12, x0), (0, x1)] [] h)
theorem jt_33_1 (h : am_H) (d0 d1 : am_V) : JJ 33 1 [d0, d1] [] h = some (h, 2) := (jj_of bk_33_1 _ _ h).trans (ff_of bk_33_1 [(9, 0), (9, 0)] [] h)
theorem Fo_await_e (h : am_H) (x0 x1 : Int) : Fo_await h x0 x1 = ck_ (0 ≤ x0) (ck_ (0 ≤ x0) (ck_ (0 ≤ (rf_ h x0 0)) (if (rd_ h x0 3) < (ln_ h (rf_ h x0 0)) then ck_ (0 ≤ x0) (ck_ (0 ≤ x0) (ck_ (0 ≤ (rf_ h x0 0)) (ck_ (0 ≤ (rd_ h x0 3) ∧ (rd_ h x0 3) < ln_ h (rf_ h x0 0)) (ck_ (0 ≤ x0) (ck_ (0 ≤ x0) (some (wr_ (wr_ h (rf_ h x0 0) (rd_ h x0 3) x1) x0 3 (w32 ((rd_ (wr_ h (rf_ h x0 0) (rd_ h x0 3) x1) x0 3) + 1)), 0))))))) else some (h, 2)))) := (ff_of bk_33_0 [(12, x0), (0, x1)] [] h).trans (by
  show (ck_ (0 ≤ x0) (ck_ (0 ≤ x0) (ck_ (0 ≤ (rf_ h x0 0)) (if (rd_ h x0 3) < (ln_ h (rf_ h x0 0)) then JJ 33 2 [(12, x0), (0, x1)] [] h else JJ 33 1 [(12, x0), (0, x1)] [] h)))) = _
  simp only [jt_33_1, jt_33_2, ck_or1, ck_or2, rf_wr, ln_wr, nn_wr, rf_cp, ln_cp, nn_cp, ln_wf, nn_wf, rd_wf, nn_nw]
  try rfl)
theorem cc_33 (h : am_H) (x0 x1 : Int) : CC 33 [(12, x0), (0, x1)] h = Fo_await h x0 x1 := cc_of pk_33 _ h
theorem pk_34 : am_prog 34 = some cd_34 := rfl
theorem bk_34_0 : bk_ am_prog 34 0 = some ([true, false, false, false], (bl_34_0, 9999)) := bk_of pk_34 rfl
theorem bk_34_1 : bk_ am_prog 34 1 = some ([true, true, false, false], (bl_34_1, 9999)) := bk_of pk_34 rfl
theorem bk_34_2 : bk_ am_prog 34 2 = some ([true, false, false, false], (bl_34_2, 9999)) := bk_of pk_34 rfl
theorem bk_34_3 : bk_ am_prog 34 3 = some ([true, true, false, false], (bl_34_3, 9999)) := bk_of pk_34 rfl
theorem bk_34_4 : bk_ am_prog 34 4 = some ([true, true, true, false], (bl_34_4, 9999)) := bk_of pk_34 rfl
theorem bk_34_5 : bk_ am_prog 34 5 = some ([false, false, false, false], (bl_34_5, 9999)) := bk_of pk_34 rfl
theorem bk_34_6 : bk_ am_prog 34 6 = some ([true, true, true, false], (bl_34_6, 9999)) := bk_of pk_34 rfl
theorem bk_34_7 : bk_ am_prog 34 7 = some ([true, true, true, false], (bl_34_7, 9999)) := bk_of pk_34 rfl
theorem bk_34_8 : bk_ am_prog 34 8 = some ([true, true, true, false], (bl_34_8, 9)) := bk_of pk_34 rfl
theorem bk_34_9 : bk_ am_prog 34 9 = some ([true, true, true, false], (bl_34_9, 9999)) := bk_of pk_34 rfl
theorem bk_34_10 : bk_ am_prog 34 10 = some ([true, true, true, true], (bl_34_10, 9999)) := bk_of pk_34 rfl
theorem bk_34_11 : bk_ am_prog 34 11 = some ([true, true, true, true], (bl_34_11, 12)) := bk_of pk_34 rfl
theorem bk_34_12 : bk_ am_prog 34 12 = some ([true, true, true, true], (bl_34_12, 9999)) := bk_of pk_34 rfl
theorem bk_34_13 : bk_ am_prog 34 13 = some ([true, true, true, false], (bl_34_13, 9999)) := bk_of pk_34 rfl
theorem bk_34_14 : bk_ am_prog 34 14 = some ([true, true, true, false], (bl_34_14, 9999)) := bk_of pk_34 rfl
theorem bk_34_15 : bk_ am_prog 34 15 = some ([false, false, false, false], (bl_34_15, 9999)) := bk_of pk_34 rfl
theorem bk_34_16 : bk_ am_prog 34 16 = some ([true, true, false, false], (bl_34_16, 9999)) := bk_of pk_34 rfl
theorem bk_34_17 : bk_ am_prog 34 17 = some ([false, false, false, false], (bl_34_17, 9999)) := bk_of pk_34 rfl
theorem bk_34_18 : bk_ am_prog 34 18 = some ([true, true, false, false], (bl_34_18, 9999)) := bk_of pk_34 rfl
theorem bk_34_19 : bk_ am_prog 34 19 = some ([true, true, false, false], (bl_34_19, 9999)) := bk_of pk_34 rfl
theorem bk_34_20 : bk_ am_prog 34 20 = some ([true, true, false, false], (bl_34_20, 9999)) := bk_of pk_34 rfl
theorem bk_34_21 : bk_ am_prog 34 21 = some ([true, true, false, false], (bl_34_21, 22)) := bk_of pk_34 rfl
theorem bk_34_22 : bk_ am_prog 34 22 = some ([true, true, false, false], (bl_34_22, 9999)) := bk_of pk_34 rfl
theorem jt_34_3 (h : am_H) (d2 d3 : am_V) (x0 x1 : Int) : JJ 34 3 [(12, x0), (0, x1), d2, d3] [] h = Fo_takeJoint_3 h x0 x1 := jj_of bk_34_3 _ _ h
theorem jt_34_12 (h : am_H) (x0 x1 x2 x3 s0 s1 : Int) : JJ 34 12 [(12, x0), (0, x1), (0, x2), (0, x3)] [(0, s0), (12, s1)] h = Fo_takeJoint_12 h x0 x1 x2 x3 s0 s1 := jj_of bk_34_12 _ _ h
theorem jt_34_16 (h : am_H) (d2 d3 : am_V) (x0 x1 : Int) : JJ 34 16 [(12, x0), (0, x1), d2, d3] [] h = Fo_takeJoint_16 h x0 x1 := jj_of bk_34_16 _ _ h
theorem jt_34_2 (h : am_H) (d1 d2 d3 : am_V) (x0 : Int) : JJ 34 2 [(12, x0), d1, d2, d3] [] h = ck_ (0 ≤ x0) (bd_ (Fo_putDown h x0 1) fun h1 _ => ck_ (0 ≤ x0) (ck_ (0 ≤ x0) (ck_ (0 ≤ x0) (ck_ (0 ≤ x0) (some (wr_ (wr_ h1 x0 3 (w32 ((rd_ h1 x0 3) - 1))) x0 4 (w32 ((rd_ (wr_ h1 x0 3 (w32 ((rd_ h1 x0 3) - 1))) x0 4) - 1)), 0)))))) := (jj_of bk_34_2 _ _ h).trans ((ff_of bk_34_2 [(12, x0), (9, 0), (9, 0), (9, 0)] [] h).trans (by
  show (ck_ (0 ≤ x0) (bd_ (CC 32 [(12, x0), (0, 1)] h) fun h1 _ => ck_ (0 ≤ x0) (ck_ (0 ≤ x0) (ck_ (0 ≤ x0) (ck_ (0 ≤ x0) (some (wr_ (wr_ h1 x0 3 (w32 ((rd_ h1 x0 3) - 1))) x0 4 (w32 ((rd_ (wr_ h1 x0 3 (w32 ((rd_ h1 x0 3) - 1))) x0 4) - 1)), 0))))))) = _
  simp only [cc_32, ck_or1, ck_or2, rf_wr, ln_wr, nn_wr, rf_cp, ln_cp, nn_cp, ln_wf, nn_wf, rd_wf, nn_nw]
  try rfl))
theorem jt_34_1 (h : am_H) (d2 d3 : am_V) (x0 x1 : Int) : JJ 34 1 [(12, x0), (0, x1), d2, d3] [] h = ck_ (0 ≤ x0) (if (rd_ h x0 4) ≤ 0 then Fo_takeJoint_3 h x0 x1 else ck_ (0 ≤ x0) (bd_ (Fo_putDown h x0 1) fun h1 _ => ck_ (0 ≤ x0) (ck_ (0 ≤ x0) (ck_ (0 ≤ x0) (ck_ (0 ≤ x0) (some (wr_ (wr_ h1 x0 3 (w32 ((rd_ h1 x0 3) - 1))) x0 4 (w32 ((rd_ (wr_ h1 x0 3 (w32 ((rd_ h1 x0 3) - 1))) x0 4) - 1)), 0))))))) := (jj_of bk_34_1 _ _ h).trans ((ff_of bk_34_1 [(12, x0), (0, x1), (9, 0), (9, 0)] [] h).trans (by
  show (ck_ (0 ≤ x0) (if (rd_ h x0 4) ≤ 0 then JJ 34 3 [(12, x0), (0, x1), (9, 0), (9, 0)] [] h else JJ 34 2 [(12, x0), (0, x1), (9, 0), (9, 0)] [] h)) = _
  simp only [jt_34_2, jt_34_3, ck_or1, ck_or2, rf_wr, ln_wr, nn_wr, rf_cp, ln_cp, nn_cp, ln_wf, nn_wf, rd_wf, nn_nw]
  try rfl))
theorem Fo_takeJoint_e (h : am_H) (x0 : Int) : Fo_takeJoint h x0 = ck_ (0 ≤ x0) (ck_ (0 ≤ (rf_ h x0 1)) (if (rd_ h (rf_ h x0 1) 4) ≠ 41 then Fo_takeJoint_3 h x0 (rd_ h (rf_ h x0 1) 4) else ck_ (0 ≤ x0) (if (rd_ h x0 4) ≤ 0 then Fo_takeJoint_3 h x0 (rd_ h (rf_ h x0 1) 4) else ck_ (0 ≤ x0) (bd_ (Fo_putDown h x0 1) fun h1 _ => ck_ (0 ≤ x0) (ck_ (0 ≤ x0) (ck_ (0 ≤ x0) (ck_ (0 ≤ x0) (some (wr_ (wr_ h1 x0 3 (w32 ((rd_ h1 x0 3) - 1))) x0 4 (w32 ((rd_ (wr_ h1 x0 3 (w32 ((rd_ h1 x0 3) - 1))) x0 4) - 1)), 0))))))))) := (ff_of bk_34_0 [(12, x0), (9, 0), (9, 0), (9, 0)] [] h).trans (by
  show (ck_ (0 ≤ x0) (ck_ (0 ≤ (rf_ h x0 1)) (if (rd_ h (rf_ h x0 1) 4) ≠ 41 then JJ 34 3 [(12, x0), (0, rd_ h (rf_ h x0 1) 4), (9, 0), (9, 0)] [] h else JJ 34 1 [(12, x0), (0, rd_ h (rf_ h x0 1) 4), (9, 0), (9, 0)] [] h))) = _
  simp only [jt_34_1, jt_34_3, ck_or1, ck_or2, rf_wr, ln_wr, nn_wr, rf_cp, ln_cp, nn_cp, ln_wf, nn_wf, rd_wf, nn_nw]
  try rfl)
theorem jt_34_5 (h : am_H) (d0 d1 d2 d3 : am_V) : JJ 34 5 [d0, d1, d2, d3] [] h = some (h, 1) := (jj_of bk_34_5 _ _ h).trans (ff_of bk_34_5 [(9, 0), (9, 0), (9, 0), (9, 0)] [] h)
theorem jt_34_11 (h : am_H) (x0 x1 x2 x3 s0 : Int) : JJ 34 11 [(12, x0), (0, x1), (0, x2), (0, x3)] [(12, s0)] h = Fo_takeJoint_12 h x0 x1 x2 x3 x2 s0 := (jj_of bk_34_11 _ _ h).trans ((ff_of bk_34_11 [(12, x0), (0, x1), (0, x2), (0, x3)] [(12, s0)] h).trans (by
  show (JJ 34 12 [(12, x0), (0, x1), (0, x2), (0, x3)] [(0, x2), (12, s0)] h) = _
  simp only [jt_34_12, ck_or1, ck_or2, rf_wr, ln_wr, nn_wr, rf_cp, ln_cp, nn_cp, ln_wf, nn_wf, rd_wf, nn_nw]
  try rfl))
theorem jt_34_10 (h : am_H) (x0 x1 x2 x3 s0 : Int) : JJ 34 10 [(12, x0), (0, x1), (0, x2), (0, x3)] [(12, s0)] h = Fo_takeJoint_12 h x0 x1 x2 x3 (w32 (x2 + 1)) s0 := (jj_of bk_34_10 _ _ h).trans ((ff_of bk_34_10 [(12, x0), (0, x1), (0, x2), (0, x3)] [(12, s0)] h).trans (by
  show (JJ 34 12 [(12, x0), (0, x1), (0, x2), (0, x3)] [(0, w32 (x2 + 1)), (12, s0)] h) = _
  simp only [jt_34_12, ck_or1, ck_or2, rf_wr, ln_wr, nn_wr, rf_cp, ln_cp, nn_cp, ln_wf, nn_wf, rd_wf, nn_nw]
  try rfl))
theorem jt_34_9 (h : am_H) (d3 : am_V) (x0 x1 x2 s0 : Int) : JJ 34 9 [(12, x0), (0, x1), (0, x2), d3] [(0, s0)] h = if s0 = 0 then Fo_takeJoint_12 h x0 x1 x2 s0 x2 x0 else Fo_takeJoint_12 h x0 x1 x2 s0 (w32 (x2 + 1)) x0 := (jj_of bk_34_9 _ _ h).trans ((ff_of bk_34_9 [(12, x0), (0, x1), (0, x2), (9, 0)] [(0, s0)] h).trans (by
  show (if s0 = 0 then JJ 34 11 [(12, x0), (0, x1), (0, x2), (0, s0)] [(12, x0)] h else JJ 34 10 [(12, x0), (0, x1), (0, x2), (0, s0)] [(12, x0)] h) = _
  simp only [jt_34_10, jt_34_11, ck_or1, ck_or2, rf_wr, ln_wr, nn_wr, rf_cp, ln_cp, nn_cp, ln_wf, nn_wf, rd_wf, nn_nw]
  try rfl))
theorem jt_34_8 (h : am_H) (d3 : am_V) (x0 x1 x2 : Int) : JJ 34 8 [(12, x0), (0, x1), (0, x2), d3] [] h = if (0 : Int) = 0 then Fo_takeJoint_12 h x0 x1 x2 0 x2 x0 else Fo_takeJoint_12 h x0 x1 x2 0 (w32 (x2 + 1)) x0 := (jj_of bk_34_8 _ _ h).trans ((ff_of bk_34_8 [(12, x0), (0, x1), (0, x2), (9, 0)] [] h).trans (by
  show (JJ 34 9 [(12, x0), (0, x1), (0, x2), (9, 0)] [(0, 0)] h) = _
  simp only [jt_34_9, ck_or1, ck_or2, rf_wr, ln_wr, nn_wr, rf_cp, ln_cp, nn_cp, ln_wf, nn_wf, rd_wf, nn_nw]
  try rfl))
theorem jt_34_7 (h : am_H) (d3 : am_V) (x0 x1 x2 : Int) : JJ 34 7 [(12, x0), (0, x1), (0, x2), d3] [] h = if (1 : Int) = 0 then Fo_takeJoint_12 h x0 x1 x2 1 x2 x0 else Fo_takeJoint_12 h x0 x1 x2 1 (w32 (x2 + 1)) x0 := (jj_of bk_34_7 _ _ h).trans ((ff_of bk_34_7 [(12, x0), (0, x1), (0, x2), (9, 0)] [] h).trans (by
  show (JJ 34 9 [(12, x0), (0, x1), (0, x2), (9, 0)] [(0, 1)] h) = _
  simp only [jt_34_9, ck_or1, ck_or2, rf_wr, ln_wr, nn_wr, rf_cp, ln_cp, nn_cp, ln_wf, nn_wf, rd_wf, nn_nw]
  try rfl))
theorem jt_34_6 (h : am_H) (d3 : am_V) (x0 x1 x2 : Int) : JJ 34 6 [(12, x0), (0, x1), (0, x2), d3] [] h = bd_ (Fo_strength h 32) fun h1 v2 => if x2 ≠ v2 then (if (0 : Int) = 0 then Fo_takeJoint_12 h1 x0 x1 x2 0 x2 x0 else Fo_takeJoint_12 h1 x0 x1 x2 0 (w32 (x2 + 1)) x0) else if (1 : Int) = 0 then Fo_takeJoint_12 h1 x0 x1 x2 1 x2 x0 else Fo_takeJoint_12 h1 x0 x1 x2 1 (w32 (x2 + 1)) x0 := (jj_of bk_34_6 _ _ h).trans ((ff_of bk_34_6 [(12, x0), (0, x1), (0, x2), (9, 0)] [] h).trans (by
  show (bd_ (CC 31 [(0, 32)] h) fun h1 v2 => if x2 ≠ v2 then JJ 34 8 [(12, x0), (0, x1), (0, x2), (9, 0)] [] h1 else JJ 34 7 [(12, x0), (0, x1), (0, x2), (9, 0)] [] h1) = _
  simp only [cc_31, jt_34_7, jt_34_8, ck_or1, ck_or2, rf_wr, ln_wr, nn_wr, rf_cp, ln_cp, nn_cp, ln_wf, nn_wf, rd_wf, nn_nw]
  try rfl))
theorem jt_34_4 (h : am_H) (d3 : am_V) (x0 x1 x2 : Int) : JJ 34 4 [(12, x0), (0, x1), (0, x2), d3] [] h = if x1 ≠ 22 then bd_ (Fo_strength h 32) fun h1 v2 => if x2 ≠ v2 then (if (0 : Int) = 0 then Fo_takeJoint_12 h1 x0 x1 x2 0 x2 x0 else Fo_takeJoint_12 h1 x0 x1 x2 0 (w32 (x2 + 1)) x0) else if (1 : Int) = 0 then Fo_takeJoint_12 h1 x0 x1 x2 1 x2 x0 else Fo_takeJoint_12 h1 x0 x1 x2 1 (w32 (x2 + 1)) x0 else some (h, 1) := (jj_of bk_34_4 _ _ h).trans ((ff_of bk_34_4 [(12, x0), (0, x1), (0, x2), (9, 0)] [] h).trans (by
  show (if x1 ≠ 22 then JJ 34 6 [(12, x0), (0, x1), (0, x2), (9, 0)] [] h else JJ 34 5 [(12, x0), (0, x1), (0, x2), (9, 0)] [] h) = _
  simp only [jt_34_5, jt_34_6, ck_or1, ck_or2, rf_wr, ln_wr, nn_wr, rf_cp, ln_cp, nn_cp, ln_wf, nn_wf, rd_wf, nn_nw]
  try rfl))
theorem Fo_takeJoint_3_e (h : am_H) (x0 x1 : Int) : Fo_takeJoint_3 h x0 x1 = bd_ (Fo_strength h x1) fun h1 v2 => if v2 = 0 then some (h1, 1) else if x1 ≠ 22 then bd_ (Fo_strength h1 32) fun h3 v4 => if v2 ≠ v4 then (if (0 : Int) = 0 then Fo_takeJoint_12 h3 x0 x1 v2 0 v2 x0 else Fo_takeJoint_12 h3 x0 x1 v2 0 (w32 (v2 + 1)) x0) else if (1 : Int) = 0 then Fo_takeJoint_12 h3 x0 x1 v2 1 v2 x0 else Fo_takeJoint_12 h3 x0 x1 v2 1 (w32 (v2 + 1)) x0 else some (h1, 1) := (ff_of bk_34_3 [(12, x0), (0, x1), (9, 0), (9, 0)] [] h).trans (by
  show (bd_ (CC 31 [(0, x1)] h) fun h1 v2 => if v2 = 0 then JJ 34 5 [(12, x0), (0, x1), (0, v2), (9, 0)] [] h1 else JJ 34 4 [(12, x0), (0, x1), (0, v2), (9, 0)] [] h1) = _
  simp only [cc_31, jt_34_4, jt_34_5, ck_or1, ck_or2, rf_wr, ln_wr, nn_wr, rf_cp, ln_cp, nn_cp, ln_wf, nn_wf, rd_wf, nn_nw]
  try rfl)
theorem jt_34_15 (h : am_H) (d0 d1 d2 d3 : am_V) : JJ 34 15 [d0, d1, d2, d3] [] h = some (h, 1) := (jj_of bk_34_15 _ _ h).trans (ff_of bk_34_15 [(9, 0), (9, 0), (9, 0), (9, 0)] [] h)
theorem jt_34_14 (h : am_H) (d3 : am_V) (x0 x1 x2 : Int) : JJ 34 14 [(12, x0), (0, x1), (0, x2), d3] [] h = ck_ (0 ≤ x0) (ck_ (0 ≤ x0) (ck_ (0 ≤ (rf_ h x0 0)) (ck_ (0 ≤ (w32 ((rd_ h x0 3) - 1)) ∧ (w32 ((rd_ h x0 3) - 1)) < ln_ h (rf_ h x0 0)) (bd_ (Fo_strength h (rd_ h (rf_ h x0 0) (w32 ((rd_ h x0 3) - 1)))) fun h1 v2 => if v2 ≠ x2 then Fo_takeJoint_16 h1 x0 x1 else some (h1, 1))))) := (jj_of bk_34_14 _ _ h).trans ((ff_of bk_34_14 [(12, x0), (0, x1), (0, x2), (9, 0)] [] h).trans (by
  show (ck_ (0 ≤ x0) (ck_ (0 ≤ x0) (ck_ (0 ≤ (rf_ h x0 0)) (ck_ (0 ≤ (w32 ((rd_ h x0 3) - 1)) ∧ (w32 ((rd_ h x0 3) - 1)) < ln_ h (rf_ h x0 0)) (bd_ (CC 31 [(0, rd_ h (rf_ h x0 0) (w32 ((rd_ h x0 3) - 1)))] h) fun h1 v2 => if v2 ≠ x2 then JJ 34 16 [(12, x0), (0, x1), (0, x2), (9, 0)] [] h1 else JJ 34 15 [(12, x0), (0, x1), (0, x2), (9, 0)] [] h1))))) = _
  simp only [cc_31, jt_34_15, jt_34_16, ck_or1, ck_or2, rf_wr, ln_wr, nn_wr, rf_cp, ln_cp, nn_cp, ln_wf, nn_wf, rd_wf, nn_nw]
  try rfl))
theorem jt_34_13 (h : am_H) (d3 : am_V) (x0 x1 x2 : Int) : JJ 34 13 [(12, x0), (0, x1), (0, x2), d3] [] h = ck_ (0 ≤ x0) (if (rd_ h x0 3) ≤ 0 then Fo_takeJoint_16 h x0 x1 else ck_ (0 ≤ x0) (ck_ (0 ≤ x0) (ck_ (0 ≤ (rf_ h x0 0)) (ck_ (0 ≤ (w32 ((rd_ h x0 3) - 1)) ∧ (w32 ((rd_ h x0 3) - 1)) < ln_ h (rf_ h x0 0)) (bd_ (Fo_strength h (rd_ h (rf_ h x0 0) (w32 ((rd_ h x0 3) - 1)))) fun h1 v2 => if v2 ≠ x2 then Fo_takeJoint_16 h1 x0 x1 else some (h1, 1)))))) := (jj_of bk_34_13 _ _ h).trans ((ff_of bk_34_13 [(12, x0), (0, x1), (0, x2), (9, 0)] [] h).trans (by
  show (ck_ (0 ≤ x0) (if (rd_ h x0 3) ≤ 0 then JJ 34 16 [(12, x0), (0, x1), (0, x2), (9, 0)] [] h else JJ 34 14 [(12, x0), (0, x1), (0, x2), (9, 0)] [] h)) = _
  simp only [jt_34_14, jt_34_16, ck_or1, ck_or2, rf_wr, ln_wr, nn_wr, rf_cp, ln_cp, nn_cp, ln_wf, nn_wf, rd_wf, nn_nw]
  try rfl))
theorem Fo_takeJoint_12_e (h : am_H) (x0 x1 x2 x3 s0 s1 : Int) : Fo_takeJoint_12 h x0 x1 x2 x3 s0 s1 = ck_ (0 ≤ s1) (bd_ (Fo_putDown h s1 s0) fun h1 _ => if x3 = 0 then Fo_takeJoint_16 h1 x0 x1 else ck_ (0 ≤ x0) (if (rd_ h1 x0 3) ≤ 0 then Fo_takeJoint_16 h1 x0 x1 else ck_ (0 ≤ x0) (ck_ (0 ≤ x0) (ck_ (0 ≤ (rf_ h1 x0 0)) (ck_ (0 ≤ (w32 ((rd_ h1 x0 3) - 1)) ∧ (w32 ((rd_ h1 x0 3) - 1)) < ln_ h1 (rf_ h1 x0 0)) (bd_ (Fo_strength h1 (rd_ h1 (rf_ h1 x0 0) (w32 ((rd_ h1 x0 3) - 1)))) fun h3 v4 => if v4 ≠ x2 then Fo_takeJoint_16 h3 x0 x1 else some (h3, 1))))))) := (ff_of bk_34_12 [(12, x0), (0, x1), (0, x2), (0, x3)] [(0, s0), (12, s1)] h).trans (by
  show (ck_ (0 ≤ s1) (bd_ (CC 32 [(12, s1), (0, s0)] h) fun h1 _ => if x3 = 0 then JJ 34 16 [(12, x0), (0, x1), (0, x2), (0, x3)] [] h1 else JJ 34 13 [(12, x0), (0, x1), (0, x2), (0, x3)] [] h1)) = _
  simp only [cc_32, jt_34_13, jt_34_16, ck_or1, ck_or2, rf_wr, ln_wr, nn_wr, rf_cp, ln_cp, nn_cp, ln_wf, nn_wf, rd_wf, nn_nw]
  try rfl)
theorem jt_34_22 (h : am_H) (d2 d3 : am_V) (x0 x1 s0 s1 : Int) : JJ 34 22 [(12, x0), (0, x1), d2, d3] [(0, s0), (12, s1)] h = ck_ (0 ≤ s1) (ck_ (s0 = 0 ∨ s0 = 1) (ck_ (0 ≤ x0) (bd_ (Fo_await (wr_ h s1 8 s0) x0 x1) fun h1 v2 => some (h1, v2)))) := (jj_of bk_34_22 _ _ h).trans ((ff_of bk_34_22 [(12, x0), (0, x1), (9, 0), (9, 0)] [(0, s0), (12, s1)] h).trans (by
  show (ck_ (0 ≤ s1) (ck_ (s0 = 0 ∨ s0 = 1) (ck_ (0 ≤ x0) (bd_ (CC 33 [(12, x0), (0, x1)] (wr_ h s1 8 s0)) fun h1 v2 => some (h1, v2))))) = _
  simp only [cc_33, ck_or1, ck_or2, rf_wr, ln_wr, nn_wr, rf_cp, ln_cp, nn_cp, ln_wf, nn_wf, rd_wf, nn_nw]
  try rfl))
theorem jt_34_20 (h : am_H) (d2 d3 : am_V) (x0 x1 s0 : Int) : JJ 34 20 [(12, x0), (0, x1), d2, d3] [(12, s0)] h = ck_ (0 ≤ s0) (ck_ (0 ≤ x0) (bd_ (Fo_await (wr_ h s0 8 1) x0 x1) fun h1 v2 => some (h1, v2))) := (jj_of bk_34_20 _ _ h).trans ((ff_of bk_34_20 [(12, x0), (0, x1), (9, 0), (9, 0)] [(12, s0)] h).trans (by
  show (JJ 34 22 [(12, x0), (0, x1), (9, 0), (9, 0)] [(0, 1), (12, s0)] h) = _
  simp only [jt_34_22, ck_or1, ck_or2, rf_wr, ln_wr, nn_wr, rf_cp, ln_cp, nn_cp, ln_wf, nn_wf, rd_wf, nn_nw]
  try rfl))
theorem jt_34_21 (h : am_H) (d2 d3 : am_V) (x0 x1 s0 : Int) : JJ 34 21 [(12, x0), (0, x1), d2, d3] [(12, s0)] h = ck_ (0 ≤ s0) (ck_ (0 ≤ x0) (bd_ (Fo_await (wr_ h s0 8 0) x0 x1) fun h1 v2 => some (h1, v2))) := (jj_of bk_34_21 _ _ h).trans ((ff_of bk_34_21 [(12, x0), (0, x1), (9, 0), (9, 0)] [(12, s0)] h).trans (by
  show (JJ 34 22 [(12, x0), (0, x1), (9, 0), (9, 0)] [(0, 0), (12, s0)] h) = _
  simp only [jt_34_22, ck_or1, ck_or2, rf_wr, ln_wr, nn_wr, rf_cp, ln_cp, nn_cp, ln_wf, nn_wf, rd_wf, nn_nw]
  try rfl))
theorem jt_34_19 (h : am_H) (d2 d3 : am_V) (x0 x1 s0 : Int) : JJ 34 19 [(12, x0), (0, x1), d2, d3] [(12, s0)] h = if x1 ≠ 21 then ck_ (0 ≤ s0) (ck_ (0 ≤ x0) (bd_ (Fo_await (wr_ h s0 8 0) x0 x1) fun h1 v2 => some (h1, v2))) else ck_ (0 ≤ s0) (ck_ (0 ≤ x0) (bd_ (Fo_await (wr_ h s0 8 1) x0 x1) fun h3 v4 => some (h3, v4))) := (jj_of bk_34_19 _ _ h).trans ((ff_of bk_34_19 [(12, x0), (0, x1), (9, 0), (9, 0)] [(12, s0)] h).trans (by
  show (if x1 ≠ 21 then JJ 34 21 [(12, x0), (0, x1), (9, 0), (9, 0)] [(12, s0)] h else JJ 34 20 [(12, x0), (0, x1), (9, 0), (9, 0)] [(12, s0)] h) = _
  simp only [jt_34_20, jt_34_21, ck_or1, ck_or2, rf_wr, ln_wr, nn_wr, rf_cp, ln_cp, nn_cp, ln_wf, nn_wf, rd_wf, nn_nw]
  try rfl))
theorem jt_34_18 (h : am_H) (d2 d3 : am_V) (x0 x1 : Int) : JJ 34 18 [(12, x0), (0, x1), d2, d3] [] h = ck_ (0 ≤ x0) (ck_ (0 ≤ x0) (ck_ (0 ≤ x0) (if x1 = 20 then ck_ (0 ≤ x0) (ck_ (0 ≤ x0) (bd_ (Fo_await (wr_ (wr_ (wr_ h x0 5 (w32 ((rd_ h x0 5) + 1))) x0 7 1) x0 8 1) x0 x1) fun h1 v2 => some (h1, v2))) else if x1 ≠ 21 then ck_ (0 ≤ x0) (ck_ (0 ≤ x0) (bd_ (Fo_await (wr_ (wr_ (wr_ h x0 5 (w32 ((rd_ h x0 5) + 1))) x0 7 1) x0 8 0) x0 x1) fun h3 v4 => some (h3, v4))) else ck_ (0 ≤ x0) (ck_ (0 ≤ x0) (bd_ (Fo_await (wr_ (wr_ (wr_ h x0 5 (w32 ((rd_ h x0 5) + 1))) x0 7 1) x0 8 1) x0 x1) fun h5 v6 => some (h5, v6)))))) := (jj_of bk_34_18 _ _ h).trans ((ff_of bk_34_18 [(12, x0), (0, x1), (9, 0), (9, 0)] [] h).trans (by
  show (ck_ (0 ≤ x0) (ck_ (0 ≤ x0) (ck_ (0 ≤ x0) (if x1 = 20 then JJ 34 20 [(12, x0), (0, x1), (9, 0), (9, 0)] [(12, x0)] (wr_ (wr_ h x0 5 (w32 ((rd_ h x0 5) + 1))) x0 7 1) else JJ 34 19 [(12, x0), (0, x1), (9, 0), (9, 0)] [(12, x0)] (wr_ (wr_ h x0 5 (w32 ((rd_ h x0 5) + 1))) x0 7 1))))) = _
  simp only [jt_34_19, jt_34_20, ck_or1, ck_or2, rf_wr, ln_wr, nn_wr, rf_cp, ln_cp, nn_cp, ln_wf, nn_wf, rd_wf, nn_nw]
  try rfl))
theorem jt_34_17 (h : am_H) (d0 d1 d2 d3 : am_V) : JJ 34 17 [d0, d1, d2, d3] [] h = some (h, 2) := (jj_of bk_34_17 _ _ h).trans (ff_of bk_34_17 [(9, 0), (9, 0), (9, 0), (9, 0)] [] h)
theorem Fo_takeJoint_16_e (h : am_H) (x0 x1 : Int) : Fo_takeJoint_16 h x0 x1 = ck_ (0 ≤ x0) (if (rd_ h x0 5) < 64 then ck_ (0 ≤ x0) (ck_ (0 ≤ x0) (ck_ (0 ≤ x0) (if x1 = 20 then ck_ (0 ≤ x0) (ck_ (0 ≤ x0) (bd_ (Fo_await (wr_ (wr_ (wr_ h x0 5 (w32 ((rd_ h x0 5) + 1))) x0 7 1) x0 8 1) x0 x1) fun h1 v2 => some (h1, v2))) else if x1 ≠ 21 then ck_ (0 ≤ x0) (ck_ (0 ≤ x0) (bd_ (Fo_await (wr_ (wr_ (wr_ h x0 5 (w32 ((rd_ h x0 5) + 1))) x0 7 1) x0 8 0) x0 x1) fun h3 v4 => some (h3, v4))) else ck_ (0 ≤ x0) (ck_ (0 ≤ x0) (bd_ (Fo_await (wr_ (wr_ (wr_ h x0 5 (w32 ((rd_ h x0 5) + 1))) x0 7 1) x0 8 1) x0 x1) fun h5 v6 => some (h5, v6)))))) else some (h, 2)) := (ff_of bk_34_16 [(12, x0), (0, x1), (9, 0), (9, 0)] [] h).trans (by
  show (ck_ (0 ≤ x0) (if (rd_ h x0 5) < 64 then JJ 34 18 [(12, x0), (0, x1), (9, 0), (9, 0)] [] h else JJ 34 17 [(12, x0), (0, x1), (9, 0), (9, 0)] [] h)) = _
  simp only [jt_34_17, jt_34_18, ck_or1, ck_or2, rf_wr, ln_wr, nn_wr, rf_cp, ln_cp, nn_cp, ln_wf, nn_wf, rd_wf, nn_nw]
  try rfl)
theorem cc_34 (h : am_H) (x0 : Int) : CC 34 [(12, x0)] h = Fo_takeJoint h x0 := cc_of pk_34 _ h
theorem pk_35 : am_prog 35 = some cd_35 := rfl
theorem bk_35_0 : bk_ am_prog 35 0 = some ([true, false, false], (bl_35_0, 9999)) := bk_of pk_35 rfl
theorem bk_35_1 : bk_ am_prog 35 1 = some ([true, false, false], (bl_35_1, 9999)) := bk_of pk_35 rfl
theorem bk_35_2 : bk_ am_prog 35 2 = some ([false, false, false], (bl_35_2, 9999)) := bk_of pk_35 rfl
theorem bk_35_3 : bk_ am_prog 35 3 = some ([true, false, false], (bl_35_3, 9999)) := bk_of pk_35 rfl
theorem bk_35_4 : bk_ am_prog 35 4 = some ([true, true, false], (bl_35_4, 9999)) := bk_of pk_35 rfl
theorem bk_35_5 : bk_ am_prog 35 5 = some ([true, true, false], (bl_35_5, 9999)) := bk_of pk_35 rfl
theorem bk_35_6 : bk_ am_prog 35 6 = some ([true, true, false], (bl_35_6, 9999)) := bk_of pk_35 rfl
theorem bk_35_7 : bk_ am_prog 35 7 = some ([true, true, false], (bl_35_7, 9999)) := bk_of pk_35 rfl
theorem bk_35_8 : bk_ am_prog 35 8 = some ([true, true, false], (bl_35_8, 9)) := bk_of pk_35 rfl
theorem bk_35_9 : bk_ am_prog 35 9 = some ([true, true, false], (bl_35_9, 9999)) := bk_of pk_35 rfl
theorem bk_35_10 : bk_ am_prog 35 10 = some ([true, true, false], (bl_35_10, 9999)) := bk_of pk_35 rfl
theorem bk_35_11 : bk_ am_prog 35 11 = some ([true, true, false], (bl_35_11, 9999)) := bk_of pk_35 rfl
theorem bk_35_12 : bk_ am_prog 35 12 = some ([false, false, false], (bl_35_12, 9999)) := bk_of pk_35 rfl
theorem bk_35_13 : bk_ am_prog 35 13 = some ([true, true, false], (bl_35_13, 9999)) := bk_of pk_35 rfl
theorem bk_35_14 : bk_ am_prog 35 14 = some ([true, true, false], (bl_35_14, 9999)) := bk_of pk_35 rfl
theorem bk_35_15 : bk_ am_prog 35 15 = some ([true, true, false], (bl_35_15, 9999)) := bk_of pk_35 rfl
theorem bk_35_16 : bk_ am_prog 35 16 = some ([false, false, false], (bl_35_16, 9999)) := bk_of pk_35 rfl
theorem bk_35_17 : bk_ am_prog 35 17 = some ([true, true, false], (bl_35_17, 9999)) := bk_of pk_35 rfl
theorem bk_35_18 : bk_ am_prog 35 18 = some ([true, false, false], (bl_35_18, 9999)) := bk_of pk_35 rfl
theorem bk_35_19 : bk_ am_prog 35 19 = some ([true, true, false], (bl_35_19, 9999)) := bk_of pk_35 rfl
theorem bk_35_20 : bk_ am_prog 35 20 = some ([true, false, false], (bl_35_20, 9999)) := bk_of pk_35 rfl
theorem bk_35_21 : bk_ am_prog 35 21 = some ([true, true, false], (bl_35_21, 22)) := bk_of pk_35 rfl
theorem bk_35_22 : bk_ am_prog 35 22 = some ([true, false, false], (bl_35_22, 9999)) := bk_of pk_35 rfl
theorem jt_35_7 (h : am_H) (d2 : am_V) (x0 x1 : Int) : JJ 35 7 [(12, x0), (0, x1), d2] [] h = Fo_takePart_7 h x0 x1 := jj_of bk_35_7 _ _ h
theorem jt_35_13 (h : am_H) (d2 : am_V) (x0 x1 : Int) : JJ 35 13 [(12, x0), (0, x1), d2] [] h = Fo_takePart_13 h x0 x1 := jj_of bk_35_13 _ _ h
theorem jt_35_17 (h : am_H) (d2 : am_V) (x0 x1 : Int) : JJ 35 17 [(12, x0), (0, x1), d2] [] h = Fo_takePart_17 h x0 x1 := jj_of bk_35_17 _ _ h
theorem jt_35_12 (h : am_H) (d0 d1 d2 : am_V) : JJ 35 12 [d0, d1, d2] [] h = some (h, 1) := (jj_of bk_35_12 _ _ h).trans (ff_of bk_35_12 [(9, 0), (9, 0), (9, 0)] [] h)
theorem jt_35_11 (h : am_H) (d2 : am_V) (x0 x1 : Int) : JJ 35 11 [(12, x0), (0, x1), d2] [] h = ck_ (0 ≤ x0) (if (rd_ h x0 8) ≠ 0 then Fo_takePart_13 h x0 x1 else some (h, 1)) := (jj_of bk_35_11 _ _ h).trans ((ff_of bk_35_11 [(12, x0), (0, x1), (9, 0)] [] h).trans (by
  show (ck_ (0 ≤ x0) (if (rd_ h x0 8) ≠ 0 then JJ 35 13 [(12, x0), (0, x1), (9, 0)] [] h else JJ 35 12 [(12, x0), (0, x1), (9, 0)] [] h)) = _
  simp only [jt_35_12, jt_35_13, ck_or1, ck_or2, rf_wr, ln_wr, nn_wr, rf_cp, ln_cp, nn_cp, ln_wf, nn_wf, rd_wf, nn_nw]
  try rfl))
theorem jt_35_10 (h : am_H) (d2 : am_V) (x0 x1 : Int) : JJ 35 10 [(12, x0), (0, x1), d2] [] h = if x1 ≠ 22 then some (h, 1) else ck_ (0 ≤ x0) (if (rd_ h x0 8) ≠ 0 then Fo_takePart_13 h x0 x1 else some (h, 1)) := (jj_of bk_35_10 _ _ h).trans ((ff_of bk_35_10 [(12, x0), (0, x1), (9, 0)] [] h).trans (by
  show (if x1 ≠ 22 then JJ 35 12 [(12, x0), (0, x1), (9, 0)] [] h else JJ 35 11 [(12, x0), (0, x1), (9, 0)] [] h) = _
  simp only [jt_35_11, jt_35_12, ck_or1, ck_or2, rf_wr, ln_wr, nn_wr, rf_cp, ln_cp, nn_cp, ln_wf, nn_wf, rd_wf, nn_nw]
  try rfl))
theorem jt_35_9 (h : am_H) (d2 : am_V) (x0 x1 s0 : Int) : JJ 35 9 [(12, x0), (0, x1), d2] [(0, s0)] h = if s0 ≠ 0 then Fo_takePart_13 h x0 x1 else if x1 ≠ 22 then some (h, 1) else ck_ (0 ≤ x0) (if (rd_ h x0 8) ≠ 0 then Fo_takePart_13 h x0 x1 else some (h, 1)) := (jj_of bk_35_9 _ _ h).trans ((ff_of bk_35_9 [(12, x0), (0, x1), (9, 0)] [(0, s0)] h).trans (by
  show (if s0 ≠ 0 then JJ 35 13 [(12, x0), (0, x1), (0, s0)] [] h else JJ 35 10 [(12, x0), (0, x1), (0, s0)] [] h) = _
  simp only [jt_35_10, jt_35_13, ck_or1, ck_or2, rf_wr, ln_wr, nn_wr, rf_cp, ln_cp, nn_cp, ln_wf, nn_wf, rd_wf, nn_nw]
  try rfl))
theorem jt_35_8 (h : am_H) (d2 : am_V) (x0 x1 : Int) : JJ 35 8 [(12, x0), (0, x1), d2] [] h = if (0 : Int) ≠ 0 then Fo_takePart_13 h x0 x1 else if x1 ≠ 22 then some (h, 1) else ck_ (0 ≤ x0) (if (rd_ h x0 8) ≠ 0 then Fo_takePart_13 h x0 x1 else some (h, 1)) := (jj_of bk_35_8 _ _ h).trans ((ff_of bk_35_8 [(12, x0), (0, x1), (9, 0)] [] h).trans (by
  show (JJ 35 9 [(12, x0), (0, x1), (9, 0)] [(0, 0)] h) = _
  simp only [jt_35_9, ck_or1, ck_or2, rf_wr, ln_wr, nn_wr, rf_cp, ln_cp, nn_cp, ln_wf, nn_wf, rd_wf, nn_nw]
  try rfl))
theorem jt_35_6 (h : am_H) (d2 : am_V) (x0 x1 : Int) : JJ 35 6 [(12, x0), (0, x1), d2] [] h = if 29 < x1 then (if (0 : Int) ≠ 0 then Fo_takePart_13 h x0 x1 else if x1 ≠ 22 then some (h, 1) else ck_ (0 ≤ x0) (if (rd_ h x0 8) ≠ 0 then Fo_takePart_13 h x0 x1 else some (h, 1))) else Fo_takePart_7 h x0 x1 := (jj_of bk_35_6 _ _ h).trans ((ff_of bk_35_6 [(12, x0), (0, x1), (9, 0)] [] h).trans (by
  show (if 29 < x1 then JJ 35 8 [(12, x0), (0, x1), (9, 0)] [] h else JJ 35 7 [(12, x0), (0, x1), (9, 0)] [] h) = _
  simp only [jt_35_7, jt_35_8, ck_or1, ck_or2, rf_wr, ln_wr, nn_wr, rf_cp, ln_cp, nn_cp, ln_wf, nn_wf, rd_wf, nn_nw]
  try rfl))
theorem jt_35_5 (h : am_H) (d2 : am_V) (x0 x1 : Int) : JJ 35 5 [(12, x0), (0, x1), d2] [] h = if x1 < 23 then (if (0 : Int) ≠ 0 then Fo_takePart_13 h x0 x1 else if x1 ≠ 22 then some (h, 1) else ck_ (0 ≤ x0) (if (rd_ h x0 8) ≠ 0 then Fo_takePart_13 h x0 x1 else some (h, 1))) else if 29 < x1 then (if (0 : Int) ≠ 0 then Fo_takePart_13 h x0 x1 else if x1 ≠ 22 then some (h, 1) else ck_ (0 ≤ x0) (if (rd_ h x0 8) ≠ 0 then Fo_takePart_13 h x0 x1 else some (h, 1))) else Fo_takePart_7 h x0 x1 := (jj_of bk_35_5 _ _ h).trans ((ff_of bk_35_5 [(12, x0), (0, x1), (9, 0)] [] h).trans (by
  show (if x1 < 23 then JJ 35 8 [(12, x0), (0, x1), (9, 0)] [] h else JJ 35 6 [(12, x0), (0, x1), (9, 0)] [] h) = _
  simp only [jt_35_6, jt_35_8, ck_or1, ck_or2, rf_wr, ln_wr, nn_wr, rf_cp, ln_cp, nn_cp, ln_wf, nn_wf, rd_wf, nn_nw]
  try rfl))
theorem jt_35_4 (h : am_H) (d2 : am_V) (x0 x1 : Int) : JJ 35 4 [(12, x0), (0, x1), d2] [] h = if x1 = 2 then Fo_takePart_7 h x0 x1 else if x1 < 23 then (if (0 : Int) ≠ 0 then Fo_takePart_13 h x0 x1 else if x1 ≠ 22 then some (h, 1) else ck_ (0 ≤ x0) (if (rd_ h x0 8) ≠ 0 then Fo_takePart_13 h x0 x1 else some (h, 1))) else if 29 < x1 then (if (0 : Int) ≠ 0 then Fo_takePart_13 h x0 x1 else if x1 ≠ 22 then some (h, 1) else ck_ (0 ≤ x0) (if (rd_ h x0 8) ≠ 0 then Fo_takePart_13 h x0 x1 else some (h, 1))) else Fo_takePart_7 h x0 x1 := (jj_of bk_35_4 _ _ h).trans ((ff_of bk_35_4 [(12, x0), (0, x1), (9, 0)] [] h).trans (by
  show (if x1 = 2 then JJ 35 7 [(12, x0), (0, x1), (9, 0)] [] h else JJ 35 5 [(12, x0), (0, x1), (9, 0)] [] h) = _
  simp only [jt_35_5, jt_35_7, ck_or1, ck_or2, rf_wr, ln_wr, nn_wr, rf_cp, ln_cp, nn_cp, ln_wf, nn_wf, rd_wf, nn_nw]
  try rfl))
theorem jt_35_3 (h : am_H) (d1 d2 : am_V) (x0 : Int) : JJ 35 3 [(12, x0), d1, d2] [] h = ck_ (0 ≤ x0) (ck_ (0 ≤ x0) (ck_ (0 ≤ x0) (ck_ (0 ≤ x0) (bd_ (Fo_await (wr_ (wr_ h x0 4 (w32 ((rd_ h x0 4) + 1))) x0 8 1) x0 40) fun h1 v2 => some (h1, v2))))) := (jj_of bk_35_3 _ _ h).trans ((ff_of bk_35_3 [(12, x0), (9, 0), (9, 0)] [] h).trans (by
  show (ck_ (0 ≤ x0) (ck_ (0 ≤ x0) (ck_ (0 ≤ x0) (ck_ (0 ≤ x0) (bd_ (CC 33 [(12, x0), (0, 40)] (wr_ (wr_ h x0 4 (w32 ((rd_ h x0 4) + 1))) x0 8 1)) fun h1 v2 => some (h1, v2)))))) = _
  simp only [cc_33, ck_or1, ck_or2, rf_wr, ln_wr, nn_wr, rf_cp, ln_cp, nn_cp, ln_wf, nn_wf, rd_wf, nn_nw]
  try rfl))
theorem jt_35_2 (h : am_H) (d0 d1 d2 : am_V) : JJ 35 2 [d0, d1, d2] [] h = some (h, 2) := (jj_of bk_35_2 _ _ h).trans (ff_of bk_35_2 [(9, 0), (9, 0), (9, 0)] [] h)
theorem jt_35_1 (h : am_H) (d1 d2 : am_V) (x0 : Int) : JJ 35 1 [(12, x0), d1, d2] [] h = ck_ (0 ≤ x0) (if (rd_ h x0 4) < 8 then ck_ (0 ≤ x0) (ck_ (0 ≤ x0) (ck_ (0 ≤ x0) (ck_ (0 ≤ x0) (bd_ (Fo_await (wr_ (wr_ h x0 4 (w32 ((rd_ h x0 4) + 1))) x0 8 1) x0 40) fun h1 v2 => some (h1, v2))))) else some (h, 2)) := (jj_of bk_35_1 _ _ h).trans ((ff_of bk_35_1 [(12, x0), (9, 0), (9, 0)] [] h).trans (by
  show (ck_ (0 ≤ x0) (if (rd_ h x0 4) < 8 then JJ 35 3 [(12, x0), (9, 0), (9, 0)] [] h else JJ 35 2 [(12, x0), (9, 0), (9, 0)] [] h)) = _
  simp only [jt_35_2, jt_35_3, ck_or1, ck_or2, rf_wr, ln_wr, nn_wr, rf_cp, ln_cp, nn_cp, ln_wf, nn_wf, rd_wf, nn_nw]
  try rfl))
set_option maxRecDepth 20000 in
theorem Fo_takePart_e (h : am_H) (x0 : Int) : Fo_takePart h x0 = ck_ (0 ≤ x0) (ck_ (0 ≤ (rf_ h x0 1)) (if (rd_ h (rf_ h x0 1) 4) ≠ 40 then (if (rd_ h (rf_ h x0 1) 4) = 2 then Fo_takePart_7 h x0 (rd_ h (rf_ h x0 1) 4) else if (rd_ h (rf_ h x0 1) 4) < 23 then (if (0 : Int) ≠ 0 then Fo_takePart_13 h x0 (rd_ h (rf_ h x0 1) 4) else if (rd_ h (rf_ h x0 1) 4) ≠ 22 then some (h, 1) else ck_ (0 ≤ x0) (if (rd_ h x0 8) ≠ 0 then Fo_takePart_13 h x0 (rd_ h (rf_ h x0 1) 4) else some (h, 1))) else if 29 < (rd_ h (rf_ h x0 1) 4) then (if (0 : Int) ≠ 0 then Fo_takePart_13 h x0 (rd_ h (rf_ h x0 1) 4) else if (rd_ h (rf_ h x0 1) 4) ≠ 22 then some (h, 1) else ck_ (0 ≤ x0) (if (rd_ h x0 8) ≠ 0 then Fo_takePart_13 h x0 (rd_ h (rf_ h x0 1) 4) else some (h, 1))) else Fo_takePart_7 h x0 (rd_ h (rf_ h x0 1) 4)) else ck_ (0 ≤ x0) (if (rd_ h x0 4) < 8 then ck_ (0 ≤ x0) (ck_ (0 ≤ x0) (ck_ (0 ≤ x0) (ck_ (0 ≤ x0) (bd_ (Fo_await (wr_ (wr_ h x0 4 (w32 ((rd_ h x0 4) + 1))) x0 8 1) x0 40) fun h1 v2 => some (h1, v2))))) else some (h, 2)))) := (ff_of bk_35_0 [(12, x0), (9, 0), (9, 0)] [] h).trans (by
  show (ck_ (0 ≤ x0) (ck_ (0 ≤ (rf_ h x0 1)) (if (rd_ h (rf_ h x0 1) 4) ≠ 40 then JJ 35 4 [(12, x0), (0, rd_ h (rf_ h x0 1) 4), (9, 0)] [] h else JJ 35 1 [(12, x0), (0, rd_ h (rf_ h x0 1) 4), (9, 0)] [] h))) = _
  simp only [jt_35_1, jt_35_4, ck_or1, ck_or2, rf_wr, ln_wr, nn_wr, rf_cp, ln_cp, nn_cp, ln_wf, nn_wf, rd_wf, nn_nw]
  try rfl)
theorem Fo_takePart_7_e (h : am_H) (x0 x1 : Int) : Fo_takePart_7 h x0 x1 = if (1 : Int) ≠ 0 then Fo_takePart_13 h x0 x1 else if x1 ≠ 22 then some (h, 1) else ck_ (0 ≤ x0) (if (rd_ h x0 8) ≠ 0 then Fo_takePart_13 h x0 x1 else some (h, 1)) := (ff_of bk_35_7 [(12, x0), (0, x1), (9, 0)] [] h).trans (by
  show (JJ 35 9 [(12, x0), (0, x1), (9, 0)] [(0, 1)] h) = _
  simp only [jt_35_9, ck_or1, ck_or2, rf_wr, ln_wr, nn_wr, rf_cp, ln_cp, nn_cp, ln_wf, nn_wf, rd_wf, nn_nw]
  try rfl)
theorem jt_35_16 (h : am_H) (d0 d1 d2 : am_V) : JJ 35 16 [d0, d1, d2] [] h = some (h, 2) := (jj_of bk_35_16 _ _ h).trans (ff_of bk_35_16 [(9, 0), (9, 0), (9, 0)] [] h)
theorem jt_35_15 (h : am_H) (d2 : am_V) (x0 x1 : Int) : JJ 35 15 [(12, x0), (0, x1), d2] [] h = ck_ (0 ≤ x0) (ck_ (0 ≤ (rf_ h x0 1)) (if (rd_ h (rf_ h x0 1) 6) ≤ 9999 then Fo_takePart_17 h x0 x1 else some (h, 2))) := (jj_of bk_35_15 _ _ h).trans ((ff_of bk_35_15 [(12, x0), (0, x1), (9, 0)] [] h).trans (by
  show (ck_ (0 ≤ x0) (ck_ (0 ≤ (rf_ h x0 1)) (if (rd_ h (rf_ h x0 1) 6) ≤ 9999 then JJ 35 17 [(12, x0), (0, x1), (9, 0)] [] h else JJ 35 16 [(12, x0), (0, x1), (9, 0)] [] h))) = _
  simp only [jt_35_16, jt_35_17, ck_or1, ck_or2, rf_wr, ln_wr, nn_wr, rf_cp, ln_cp, nn_cp, ln_wf, nn_wf, rd_wf, nn_nw]
  try rfl))
theorem jt_35_14 (h : am_H) (d2 : am_V) (x0 x1 : Int) : JJ 35 14 [(12, x0), (0, x1), d2] [] h = if x1 ≠ 2 then Fo_takePart_17 h x0 x1 else ck_ (0 ≤ x0) (ck_ (0 ≤ (rf_ h x0 1)) (if (rd_ h (rf_ h x0 1) 6) ≤ 9999 then Fo_takePart_17 h x0 x1 else some (h, 2))) := (jj_of bk_35_14 _ _ h).trans ((ff_of bk_35_14 [(12, x0), (0, x1), (9, 0)] [] h).trans (by
  show (if x1 ≠ 2 then JJ 35 17 [(12, x0), (0, x1), (9, 0)] [] h else JJ 35 15 [(12, x0), (0, x1), (9, 0)] [] h) = _
  simp only [jt_35_15, jt_35_17, ck_or1, ck_or2, rf_wr, ln_wr, nn_wr, rf_cp, ln_cp, nn_cp, ln_wf, nn_wf, rd_wf, nn_nw]
  try rfl))
theorem Fo_takePart_13_e (h : am_H) (x0 x1 : Int) : Fo_takePart_13 h x0 x1 = ck_ (0 ≤ x0) (if 64 ≤ (rd_ h x0 5) then some (h, 2) else if x1 ≠ 2 then Fo_takePart_17 h x0 x1 else ck_ (0 ≤ x0) (ck_ (0 ≤ (rf_ h x0 1)) (if (rd_ h (rf_ h x0 1) 6) ≤ 9999 then Fo_takePart_17 h x0 x1 else some (h, 2)))) := (ff_of bk_35_13 [(12, x0), (0, x1), (9, 0)] [] h).trans (by
  show (ck_ (0 ≤ x0) (if 64 ≤ (rd_ h x0 5) then JJ 35 16 [(12, x0), (0, x1), (9, 0)] [] h else JJ 35 14 [(12, x0), (0, x1), (9, 0)] [] h)) = _
  simp only [jt_35_14, jt_35_16, ck_or1, ck_or2, rf_wr, ln_wr, nn_wr, rf_cp, ln_cp, nn_cp, ln_wf, nn_wf, rd_wf, nn_nw]
  try rfl)
theorem jt_35_22 (h : am_H) (d1 d2 : am_V) (x0 s0 s1 : Int) : JJ 35 22 [(12, x0), d1, d2] [(0, s0), (12, s1)] h = ck_ (0 ≤ s1) (bd_ (Fo_put h s1 s0) fun h1 _ => ck_ (0 ≤ x0) (some (wr_ h1 x0 7 0, 0))) := (jj_of bk_35_22 _ _ h).trans ((ff_of bk_35_22 [(12, x0), (9, 0), (9, 0)] [(0, s0), (12, s1)] h).trans (by
  show (ck_ (0 ≤ s1) (bd_ (CC 30 [(12, s1), (0, s0)] h) fun h1 _ => ck_ (0 ≤ x0) (some (wr_ h1 x0 7 0, 0)))) = _
  simp only [cc_30, ck_or1, ck_or2, rf_wr, ln_wr, nn_wr, rf_cp, ln_cp, nn_cp, ln_wf, nn_wf, rd_wf, nn_nw]
  try rfl))
theorem jt_35_21 (h : am_H) (d2 : am_V) (x0 x1 s0 : Int) : JJ 35 21 [(12, x0), (0, x1), d2] [(12, s0)] h = ck_ (0 ≤ s0) (bd_ (Fo_put h s0 x1) fun h1 _ => ck_ (0 ≤ x0) (some (wr_ h1 x0 7 0, 0))) := (jj_of bk_35_21 _ _ h).trans ((ff_of bk_35_21 [(12, x0), (0, x1), (9, 0)] [(12, s0)] h).trans (by
  show (JJ 35 22 [(12, x0), (0, x1), (9, 0)] [(0, x1), (12, s0)] h) = _
  simp only [jt_35_22, ck_or1, ck_or2, rf_wr, ln_wr, nn_wr, rf_cp, ln_cp, nn_cp, ln_wf, nn_wf, rd_wf, nn_nw]
  try rfl))
theorem jt_35_20 (h : am_H) (d1 d2 : am_V) (x0 s0 : Int) : JJ 35 20 [(12, x0), d1, d2] [(12, s0)] h = ck_ (0 ≤ x0) (ck_ (0 ≤ (rf_ h x0 1)) (ck_ (0 ≤ s0) (bd_ (Fo_put h s0 (w32 ((-1) - (rd_ h (rf_ h x0 1) 6)))) fun h1 _ => ck_ (0 ≤ x0) (some (wr_ h1 x0 7 0, 0))))) := (jj_of bk_35_20 _ _ h).trans ((ff_of bk_35_20 [(12, x0), (9, 0), (9, 0)] [(12, s0)] h).trans (by
  show (ck_ (0 ≤ x0) (ck_ (0 ≤ (rf_ h x0 1)) (JJ 35 22 [(12, x0), (9, 0), (9, 0)] [(0, w32 ((-1) - (rd_ h (rf_ h x0 1) 6))), (12, s0)] h))) = _
  simp only [jt_35_22, ck_or1, ck_or2, rf_wr, ln_wr, nn_wr, rf_cp, ln_cp, nn_cp, ln_wf, nn_wf, rd_wf, nn_nw]
  try rfl))
theorem jt_35_19 (h : am_H) (d2 : am_V) (x0 x1 : Int) : JJ 35 19 [(12, x0), (0, x1), d2] [] h = if x1 ≠ 2 then ck_ (0 ≤ x0) (bd_ (Fo_put h x0 x1) fun h1 _ => ck_ (0 ≤ x0) (some (wr_ h1 x0 7 0, 0))) else ck_ (0 ≤ x0) (ck_ (0 ≤ (rf_ h x0 1)) (ck_ (0 ≤ x0) (bd_ (Fo_put h x0 (w32 ((-1) - (rd_ h (rf_ h x0 1) 6)))) fun h3 _ => ck_ (0 ≤ x0) (some (wr_ h3 x0 7 0, 0))))) := (jj_of bk_35_19 _ _ h).trans ((ff_of bk_35_19 [(12, x0), (0, x1), (9, 0)] [] h).trans (by
  show (if x1 ≠ 2 then JJ 35 21 [(12, x0), (0, x1), (9, 0)] [(12, x0)] h else JJ 35 20 [(12, x0), (0, x1), (9, 0)] [(12, x0)] h) = _
  simp only [jt_35_20, jt_35_21, ck_or1, ck_or2, rf_wr, ln_wr, nn_wr, rf_cp, ln_cp, nn_cp, ln_wf, nn_wf, rd_wf, nn_nw]
  try rfl))
theorem jt_35_18 (h : am_H) (d1 d2 : am_V) (x0 : Int) : JJ 35 18 [(12, x0), d1, d2] [] h = ck_ (0 ≤ x0) (bd_ (Fo_await h x0 22) fun h1 v2 => some (h1, v2)) := (jj_of bk_35_18 _ _ h).trans ((ff_of bk_35_18 [(12, x0), (9, 0), (9, 0)] [] h).trans (by
  show (ck_ (0 ≤ x0) (bd_ (CC 33 [(12, x0), (0, 22)] h) fun h1 v2 => some (h1, v2))) = _
  simp only [cc_33, ck_or1, ck_or2, rf_wr, ln_wr, nn_wr, rf_cp, ln_cp, nn_cp, ln_wf, nn_wf, rd_wf, nn_nw]
  try rfl))
theorem Fo_takePart_17_e (h : am_H) (x0 x1 : Int) : Fo_takePart_17 h x0 x1 = ck_ (0 ≤ x0) (ck_ (0 ≤ x0) (if x1 ≠ 22 then (if x1 ≠ 2 then ck_ (0 ≤ x0) (bd_ (Fo_put (wr_ h x0 5 (w32 ((rd_ h x0 5) + 1))) x0 x1) fun h1 _ => ck_ (0 ≤ x0) (some (wr_ h1 x0 7 0, 0))) else ck_ (0 ≤ x0) (ck_ (0 ≤ (rf_ h x0 1)) (ck_ (0 ≤ x0) (bd_ (Fo_put (wr_ h x0 5 (w32 ((rd_ h x0 5) + 1))) x0 (w32 ((-1) - (rd_ (wr_ h x0 5 (w32 ((rd_ h x0 5) + 1))) (rf_ h x0 1) 6)))) fun h3 _ => ck_ (0 ≤ x0) (some (wr_ h3 x0 7 0, 0)))))) else ck_ (0 ≤ x0) (bd_ (Fo_await (wr_ h x0 5 (w32 ((rd_ h x0 5) + 1))) x0 22) fun h5 v6 => some (h5, v6)))) := (ff_of bk_35_17 [(12, x0), (0, x1), (9, 0)] [] h).trans (by
  show (ck_ (0 ≤ x0) (ck_ (0 ≤ x0) (if x1 ≠ 22 then JJ 35 19 [(12, x0), (0, x1), (9, 0)] [] (wr_ h x0 5 (w32 ((rd_ h x0 5) + 1))) else JJ 35 18 [(12, x0), (0, x1), (9, 0)] [] (wr_ h x0 5 (w32 ((rd_ h x0 5) + 1)))))) = _
  simp only [jt_35_18, jt_35_19, ck_or1, ck_or2, rf_wr, ln_wr, nn_wr, rf_cp, ln_cp, nn_cp, ln_wf, nn_wf, rd_wf, nn_nw]
  try rfl)
theorem cc_35 (h : am_H) (x0 : Int) : CC 35 [(12, x0)] h = Fo_takePart h x0 := cc_of pk_35 _ h
theorem pk_36 : am_prog 36 = some cd_36 := rfl
theorem bk_36_0 : bk_ am_prog 36 0 = some ([true, true], (bl_36_0, 9999)) := bk_of pk_36 rfl
theorem bk_36_1 : bk_ am_prog 36 1 = some ([true, true], (bl_36_1, 9999)) := bk_of pk_36 rfl
theorem bk_36_2 : bk_ am_prog 36 2 = some ([false, false], (bl_36_2, 9999)) := bk_of pk_36 rfl
theorem bk_36_3 : bk_ am_prog 36 3 = some ([false, false], (bl_36_3, 4)) := bk_of pk_36 rfl
theorem bk_36_4 : bk_ am_prog 36 4 = some ([false, false], (bl_36_4, 9999)) := bk_of pk_36 rfl
theorem jt_36_4 (h : am_H) (d0 d1 : am_V) (s0 : Int) : JJ 36 4 [d0, d1] [(0, s0)] h = ck_ (s0 = 0 ∨ s0 = 1) (some (h, s0)) := (jj_of bk_36_4 _ _ h).trans (ff_of bk_36_4 [(9, 0), (9, 0)] [(0, s0)] h)
theorem jt_36_3 (h : am_H) (d0 d1 : am_V) : JJ 36 3 [d0, d1] [] h = some (h, 0) := (jj_of bk_36_3 _ _ h).trans ((ff_of bk_36_3 [(9, 0), (9, 0)] [] h).trans (by
  show (JJ 36 4 [(9, 0), (9, 0)] [(0, 0)] h) = _
  simp only [jt_36_4, ck_or1, ck_or2, rf_wr, ln_wr, nn_wr, rf_cp, ln_cp, nn_cp, ln_wf, nn_wf, rd_wf, nn_nw]
  try rfl))
theorem jt_36_2 (h : am_H) (d0 d1 : am_V) : JJ 36 2 [d0, d1] [] h = some (h, 1) := (jj_of bk_36_2 _ _ h).trans ((ff_of bk_36_2 [(9, 0), (9, 0)] [] h).trans (by
  show (JJ 36 4 [(9, 0), (9, 0)] [(0, 1)] h) = _
  simp only [jt_36_4, ck_or1, ck_or2, rf_wr, ln_wr, nn_wr, rf_cp, ln_cp, nn_cp, ln_wf, nn_wf, rd_wf, nn_nw]
  try rfl))
theorem jt_36_1 (h : am_H) (x0 x1 : Int) : JJ 36 1 [(17, x0), (0, x1)] [] h = ck_ (0 ≤ x0) (ck_ (0 ≤ (rf_ h x0 1)) (ck_ (0 ≤ x1 ∧ x1 < ln_ h (rf_ h x0 1)) (if 57 < (rd_ h (rf_ h x0 1) x1) then some (h, 0) else some (h, 1)))) := (jj_of bk_36_1 _ _ h).trans ((ff_of bk_36_1 [(17, x0), (0, x1)] [] h).trans (by
  show (ck_ (0 ≤ x0) (ck_ (0 ≤ (rf_ h x0 1)) (ck_ (0 ≤ x1 ∧ x1 < ln_ h (rf_ h x0 1)) (if 57 < (rd_ h (rf_ h x0 1) x1) then JJ 36 3 [(17, x0), (0, x1)] [] h else JJ 36 2 [(17, x0), (0, x1)] [] h)))) = _
  simp only [jt_36_2, jt_36_3, ck_or1, ck_or2, rf_wr, ln_wr, nn_wr, rf_cp, ln_cp, nn_cp, ln_wf, nn_wf, rd_wf, nn_nw]
  try rfl))
theorem Tk_isDigit_e (h : am_H) (x0 x1 : Int) : Tk_isDigit h x0 x1 = ck_ (0 ≤ x0) (ck_ (0 ≤ (rf_ h x0 1)) (ck_ (0 ≤ x1 ∧ x1 < ln_ h (rf_ h x0 1)) (if (rd_ h (rf_ h x0 1) x1) < 48 then some (h, 0) else ck_ (0 ≤ x0) (ck_ (0 ≤ (rf_ h x0 1)) (ck_ (0 ≤ x1 ∧ x1 < ln_ h (rf_ h x0 1)) (if 57 < (rd_ h (rf_ h x0 1) x1) then some (h, 0) else some (h, 1))))))) := (ff_of bk_36_0 [(17, x0), (0, x1)] [] h).trans (by
  show (ck_ (0 ≤ x0) (ck_ (0 ≤ (rf_ h x0 1)) (ck_ (0 ≤ x1 ∧ x1 < ln_ h (rf_ h x0 1)) (if (rd_ h (rf_ h x0 1) x1) < 48 then JJ 36 3 [(17, x0), (0, x1)] [] h else JJ 36 1 [(17, x0), (0, x1)] [] h)))) = _
  simp only [jt_36_1, jt_36_3, ck_or1, ck_or2, rf_wr, ln_wr, nn_wr, rf_cp, ln_cp, nn_cp, ln_wf, nn_wf, rd_wf, nn_nw]
  try rfl)
theorem cc_36 (h : am_H) (x0 x1 : Int) : CC 36 [(17, x0), (0, x1)] h = Tk_isDigit h x0 x1 := cc_of pk_36 _ h
theorem pk_37 : am_prog 37 = some cd_37 := rfl
theorem bk_37_0 : bk_ am_prog 37 0 = some ([true, true], (bl_37_0, 9999)) := bk_of pk_37 rfl
theorem bk_37_1 : bk_ am_prog 37 1 = some ([true, true], (bl_37_1, 9999)) := bk_of pk_37 rfl
theorem bk_37_2 : bk_ am_prog 37 2 = some ([false, false], (bl_37_2, 9999)) := bk_of pk_37 rfl
theorem bk_37_3 : bk_ am_prog 37 3 = some ([false, false], (bl_37_3, 4)) := bk_of pk_37 rfl
theorem bk_37_4 : bk_ am_prog 37 4 = some ([false, false], (bl_37_4, 9999)) := bk_of pk_37 rfl
theorem jt_37_4 (h : am_H) (d0 d1 : am_V) (s0 : Int) : JJ 37 4 [d0, d1] [(0, s0)] h = ck_ (s0 = 0 ∨ s0 = 1) (some (h, s0)) := (jj_of bk_37_4 _ _ h).trans (ff_of bk_37_4 [(9, 0), (9, 0)] [(0, s0)] h)
theorem jt_37_3 (h : am_H) (d0 d1 : am_V) : JJ 37 3 [d0, d1] [] h = some (h, 0) := (jj_of bk_37_3 _ _ h).trans ((ff_of bk_37_3 [(9, 0), (9, 0)] [] h).trans (by
  show (JJ 37 4 [(9, 0), (9, 0)] [(0, 0)] h) = _
  simp only [jt_37_4, ck_or1, ck_or2, rf_wr, ln_wr, nn_wr, rf_cp, ln_cp, nn_cp, ln_wf, nn_wf, rd_wf, nn_nw]
  try rfl))
theorem jt_37_2 (h : am_H) (d0 d1 : am_V) : JJ 37 2 [d0, d1] [] h = some (h, 1) := (jj_of bk_37_2 _ _ h).trans ((ff_of bk_37_2 [(9, 0), (9, 0)] [] h).trans (by
  show (JJ 37 4 [(9, 0), (9, 0)] [(0, 1)] h) = _
  simp only [jt_37_4, ck_or1, ck_or2, rf_wr, ln_wr, nn_wr, rf_cp, ln_cp, nn_cp, ln_wf, nn_wf, rd_wf, nn_nw]
  try rfl))
theorem jt_37_1 (h : am_H) (x0 x1 : Int) : JJ 37 1 [(17, x0), (0, x1)] [] h = ck_ (0 ≤ x0) (ck_ (0 ≤ (rf_ h x0 1)) (ck_ (0 ≤ x1 ∧ x1 < ln_ h (rf_ h x0 1)) (if 122 < (rd_ h (rf_ h x0 1) x1) then some (h, 0) else some (h, 1)))) := (jj_of bk_37_1 _ _ h).trans ((ff_of bk_37_1 [(17, x0), (0, x1)] [] h).trans (by
  show (ck_ (0 ≤ x0) (ck_ (0 ≤ (rf_ h x0 1)) (ck_ (0 ≤ x1 ∧ x1 < ln_ h (rf_ h x0 1)) (if 122 < (rd_ h (rf_ h x0 1) x1) then JJ 37 3 [(17, x0), (0, x1)] [] h else JJ 37 2 [(17, x0), (0, x1)] [] h)))) = _
  simp only [jt_37_2, jt_37_3, ck_or1, ck_or2, rf_wr, ln_wr, nn_wr, rf_cp, ln_cp, nn_cp, ln_wf, nn_wf, rd_wf, nn_nw]
  try rfl))
theorem Tk_isLetter_e (h : am_H) (x0 x1 : Int) : Tk_isLetter h x0 x1 = ck_ (0 ≤ x0) (ck_ (0 ≤ (rf_ h x0 1)) (ck_ (0 ≤ x1 ∧ x1 < ln_ h (rf_ h x0 1)) (if (rd_ h (rf_ h x0 1) x1) < 97 then some (h, 0) else ck_ (0 ≤ x0) (ck_ (0 ≤ (rf_ h x0 1)) (ck_ (0 ≤ x1 ∧ x1 < ln_ h (rf_ h x0 1)) (if 122 < (rd_ h (rf_ h x0 1) x1) then some (h, 0) else some (h, 1))))))) := (ff_of bk_37_0 [(17, x0), (0, x1)] [] h).trans (by
  show (ck_ (0 ≤ x0) (ck_ (0 ≤ (rf_ h x0 1)) (ck_ (0 ≤ x1 ∧ x1 < ln_ h (rf_ h x0 1)) (if (rd_ h (rf_ h x0 1) x1) < 97 then JJ 37 3 [(17, x0), (0, x1)] [] h else JJ 37 1 [(17, x0), (0, x1)] [] h)))) = _
  simp only [jt_37_1, jt_37_3, ck_or1, ck_or2, rf_wr, ln_wr, nn_wr, rf_cp, ln_cp, nn_cp, ln_wf, nn_wf, rd_wf, nn_nw]
  try rfl)
theorem cc_37 (h : am_H) (x0 x1 : Int) : CC 37 [(17, x0), (0, x1)] h = Tk_isLetter h x0 x1 := cc_of pk_37 _ h
theorem pk_38 : am_prog 38 = some cd_38 := rfl
theorem bk_38_0 : bk_ am_prog 38 0 = some ([true], (bl_38_0, 9999)) := bk_of pk_38 rfl
theorem bk_38_1 : bk_ am_prog 38 1 = some ([false], (bl_38_1, 9999)) := bk_of pk_38 rfl
theorem bk_38_2 : bk_ am_prog 38 2 = some ([false], (bl_38_2, 9999)) := bk_of pk_38 rfl
theorem bk_38_3 : bk_ am_prog 38 3 = some ([false], (bl_38_3, 9999)) := bk_of pk_38 rfl
theorem bk_38_4 : bk_ am_prog 38 4 = some ([false], (bl_38_4, 9999)) := bk_of pk_38 rfl
theorem bk_38_5 : bk_ am_prog 38 5 = some ([false], (bl_38_5, 9999)) := bk_of pk_38 rfl
theorem bk_38_6 : bk_ am_prog 38 6 = some ([false], (bl_38_6, 9999)) := bk_of pk_38 rfl
theorem bk_38_7 : bk_ am_prog 38 7 = some ([false], (bl_38_7, 9999)) := bk_of pk_38 rfl
theorem bk_38_8 : bk_ am_prog 38 8 = some ([false], (bl_38_8, 9999)) := bk_of pk_38 rfl
theorem bk_38_9 : bk_ am_prog 38 9 = some ([false], (bl_38_9, 9999)) := bk_of pk_38 rfl
theorem bk_38_10 : bk_ am_prog 38 10 = some ([false], (bl_38_10, 9999)) := bk_of pk_38 rfl
theorem bk_38_11 : bk_ am_prog 38 11 = some ([false], (bl_38_11, 9999)) := bk_of pk_38 rfl
theorem jt_38_11 (h : am_H) (d0 : am_V) : JJ 38 11 [d0] [] h = some (h, 1) := (jj_of bk_38_11 _ _ h).trans (ff_of bk_38_11 [(9, 0)] [] h)
theorem jt_38_8 (h : am_H) (d0 : am_V) : JJ 38 8 [d0] [] h = some (h, 40) := (jj_of bk_38_8 _ _ h).trans (ff_of bk_38_8 [(9, 0)] [] h)
theorem jt_38_9 (h : am_H) (d0 : am_V) : JJ 38 9 [d0] [] h = some (h, 41) := (jj_of bk_38_9 _ _ h).trans (ff_of bk_38_9 [(9, 0)] [] h)
theorem jt_38_6 (h : am_H) (d0 : am_V) : JJ 38 6 [d0] [] h = some (h, 38) := (jj_of bk_38_6 _ _ h).trans (ff_of bk_38_6 [(9, 0)] [] h)
theorem jt_38_4 (h : am_H) (d0 : am_V) : JJ 38 4 [d0] [] h = some (h, 36) := (jj_of bk_38_4 _ _ h).trans (ff_of bk_38_4 [(9, 0)] [] h)
theorem jt_38_5 (h : am_H) (d0 : am_V) : JJ 38 5 [d0] [] h = some (h, 37) := (jj_of bk_38_5 _ _ h).trans (ff_of bk_38_5 [(9, 0)] [] h)
theorem jt_38_7 (h : am_H) (d0 : am_V) : JJ 38 7 [d0] [] h = some (h, 39) := (jj_of bk_38_7 _ _ h).trans (ff_of bk_38_7 [(9, 0)] [] h)
theorem jt_38_10 (h : am_H) (d0 : am_V) : JJ 38 10 [d0] [] h = some (h, 42) := (jj_of bk_38_10 _ _ h).trans (ff_of bk_38_10 [(9, 0)] [] h)
theorem jt_38_1 (h : am_H) (d0 : am_V) : JJ 38 1 [d0] [] h = some (h, 30) := (jj_of bk_38_1 _ _ h).trans (ff_of bk_38_1 [(9, 0)] [] h)
theorem jt_38_3 (h : am_H) (d0 : am_V) : JJ 38 3 [d0] [] h = some (h, 32) := (jj_of bk_38_3 _ _ h).trans (ff_of bk_38_3 [(9, 0)] [] h)
theorem jt_38_2 (h : am_H) (d0 : am_V) : JJ 38 2 [d0] [] h = some (h, 35) := (jj_of bk_38_2 _ _ h).trans (ff_of bk_38_2 [(9, 0)] [] h)
set_option maxRecDepth 20000 in
theorem Tk_signKind_e (h : am_H) (x0 : Int) : Tk_signKind h x0 = if x0 = 40 then some (h, 40) else if x0 = 41 then some (h, 41) else if x0 = 42 then some (h, 38) else if x0 = 43 then some (h, 36) else if x0 = 44 then some (h, 1) else if x0 = 45 then some (h, 37) else if x0 = 46 then some (h, 1) else if x0 = 47 then some (h, 39) else if x0 = 48 then some (h, 1) else if x0 = 49 then some (h, 1) else if x0 = 50 then some (h, 1) else if x0 = 51 then some (h, 1) else if x0 = 52 then some (h, 1) else if x0 = 53 then some (h, 1) else if x0 = 54 then some (h, 1) else if x0 = 55 then some (h, 1) else if x0 = 56 then some (h, 1) else if x0 = 57 then some (h, 1) else if x0 = 58 then some (h, 1) else if x0 = 59 then some (h, 42) else if x0 = 60 then some (h, 30) else if x0 = 61 then some (h, 32) else if x0 = 62 then some (h, 35) else some (h, 1) := (ff_of bk_38_0 [(0, x0)] [] h).trans (by
  show (if x0 = 40 then JJ 38 8 [(0, x0)] [] h else if x0 = 41 then JJ 38 9 [(0, x0)] [] h else if x0 = 42 then JJ 38 6 [(0, x0)] [] h else if x0 = 43 then JJ 38 4 [(0, x0)] [] h else if x0 = 44 then JJ 38 11 [(0, x0)] [] h else if x0 = 45 then JJ 38 5 [(0, x0)] [] h else if x0 = 46 then JJ 38 11 [(0, x0)] [] h else if x0 = 47 then JJ 38 7 [(0, x0)] [] h else if x0 = 48 then JJ 38 11 [(0, x0)] [] h else if x0 = 49 then JJ 38 11 [(0, x0)] [] h else if x0 = 50 then JJ 38 11 [(0, x0)] [] h else if x0 = 51 then JJ 38 11 [(0, x0)] [] h else if x0 = 52 then JJ 38 11 [(0, x0)] [] h else if x0 = 53 then JJ 38 11 [(0, x0)] [] h else if x0 = 54 then JJ 38 11 [(0, x0)] [] h else if x0 = 55 then JJ 38 11 [(0, x0)] [] h else if x0 = 56 then JJ 38 11 [(0, x0)] [] h else if x0 = 57 then JJ 38 11 [(0, x0)] [] h else if x0 = 58 then JJ 38 11 [(0, x0)] [] h else if x0 = 59 then JJ 38 10 [(0, x0)] [] h else if x0 = 60 then JJ 38 1 [(0, x0)] [] h else if x0 = 61 then JJ 38 3 [(0, x0)] [] h else if x0 = 62 then JJ 38 2 [(0, x0)] [] h else JJ 38 11 [(0, x0)] [] h) = _
  simp only [jt_38_1, jt_38_10, jt_38_11, jt_38_2, jt_38_3, jt_38_4, jt_38_5, jt_38_6, jt_38_7, jt_38_8, jt_38_9, ck_or1, ck_or2, rf_wr, ln_wr, nn_wr, rf_cp, ln_cp, nn_cp, ln_wf, nn_wf, rd_wf, nn_nw]
  try rfl)
theorem cc_38 (h : am_H) (x0 : Int) : CC 38 [(0, x0)] h = Tk_signKind h x0 := cc_of pk_38 _ h
theorem pk_39 : am_prog 39 = some cd_39 := rfl
theorem bk_39_0 : bk_ am_prog 39 0 = some ([true], (bl_39_0, 9999)) := bk_of pk_39 rfl
theorem bk_39_1 : bk_ am_prog 39 1 = some ([true], (bl_39_1, 9999)) := bk_of pk_39 rfl
theorem bk_39_2 : bk_ am_prog 39 2 = some ([true], (bl_39_2, 9999)) := bk_of pk_39 rfl
theorem bk_39_3 : bk_ am_prog 39 3 = some ([true], (bl_39_3, 9999)) := bk_of pk_39 rfl
theorem jt_39_0 (h : am_H) (x0 : Int) : JJ 39 0 [(17, x0)] [] h = Tk_stepNumber h x0 := jj_of bk_39_0 _ _ h
theorem jt_39_3 (h : am_H) (x0 : Int) : JJ 39 3 [(17, x0)] [] h = ck_ (0 ≤ x0) (some (wr_ h x0 4 2, 0)) := (jj_of bk_39_3 _ _ h).trans (ff_of bk_39_3 [(17, x0)] [] h)
set_option maxRecDepth 20000 in
theorem jt_39_2 (h : am_H) (x0 : Int) : JJ 39 2 [(17, x0)] [] h = ck_ (0 ≤ x0) (ck_ (0 ≤ x0) (ck_ (0 ≤ x0) (ck_ (0 ≤ (rf_ h x0 1)) (ck_ (0 ≤ (rd_ h x0 3) ∧ (rd_ h x0 3) < ln_ h (rf_ h x0 1)) (ck_ (0 ≤ x0) (ck_ (0 ≤ x0) (ck_ (0 ≤ x0) (Tk_stepNumber (wr_ (wr_ h x0 6 (if (1000000 : Int) < (w32 ((w32 ((w32 ((rd_ h x0 6) * 10)) + (rd_ h (rf_ h x0 1) (rd_ h x0 3)))) - 48)) then (1000000 : Int) else (w32 ((w32 ((w32 ((rd_ h x0 6) * 10)) + (rd_ h (rf_ h x0 1) (rd_ h x0 3)))) - 48)))) x0 3 (w32 ((rd_ (wr_ h x0 6 (if (1000000 : Int) < (w32 ((w32 ((w32 ((rd_ h x0 6) * 10)) + (rd_ h (rf_ h x0 1) (rd_ h x0 3)))) - 48)) then (1000000 : Int) else (w32 ((w32 ((w32 ((rd_ h x0 6) * 10)) + (rd_ h (rf_ h x0 1) (rd_ h x0 3)))) - 48)))) x0 3) + 1))) x0)))))))) := (jj_of bk_39_2 _ _ h).trans ((ff_of bk_39_2 [(17, x0)] [] h).trans (by
  show (ck_ (0 ≤ x0) (ck_ (0 ≤ x0) (ck_ (0 ≤ x0) (ck_ (0 ≤ (rf_ h x0 1)) (ck_ (0 ≤ (rd_ h x0 3) ∧ (rd_ h x0 3) < ln_ h (rf_ h x0 1)) (ck_ (0 ≤ x0) (ck_ (0 ≤ x0) (ck_ (0 ≤ x0) (JJ 39 0 [(17, x0)] [] (wr_ (wr_ h x0 6 (if (1000000 : Int) < (w32 ((w32 ((w32 ((rd_ h x0 6) * 10)) + (rd_ h (rf_ h x0 1) (rd_ h x0 3)))) - 48)) then (1000000 : Int) else (w32 ((w32 ((w32 ((rd_ h x0 6) * 10)) + (rd_ h (rf_ h x0 1) (rd_ h x0 3)))) - 48)))) x0 3 (w32 ((rd_ (wr_ h x0 6 (if (1000000 : Int) < (w32 ((w32 ((w32 ((rd_ h x0 6) * 10)) + (rd_ h (rf_ h x0 1) (rd_ h x0 3)))) - 48)) then (1000000 : Int) else (w32 ((w32 ((w32 ((rd_ h x0 6) * 10)) + (rd_ h (rf_ h x0 1) (rd_ h x0 3)))) - 48)))) x0 3) + 1)))))))))))) = _
  simp only [jt_39_0, ck_or1, ck_or2, rf_wr, ln_wr, nn_wr, rf_cp, ln_cp, nn_cp, ln_wf, nn_wf, rd_wf, nn_nw]
  try rfl))
set_option maxRecDepth 20000 in
theorem jt_39_1 (h : am_H) (x0 : Int) : JJ 39 1 [(17, x0)] [] h = ck_ (0 ≤ x0) (ck_ (0 ≤ x0) (bd_ (Tk_isDigit h x0 (rd_ h x0 3)) fun h1 v2 => if v2 = 0 then ck_ (0 ≤ x0) (some (wr_ h1 x0 4 2, 0)) else ck_ (0 ≤ x0) (ck_ (0 ≤ x0) (ck_ (0 ≤ x0) (ck_ (0 ≤ (rf_ h1 x0 1)) (ck_ (0 ≤ (rd_ h1 x0 3) ∧ (rd_ h1 x0 3) < ln_ h1 (rf_ h1 x0 1)) (ck_ (0 ≤ x0) (ck_ (0 ≤ x0) (ck_ (0 ≤ x0) (Tk_stepNumber (wr_ (wr_ h1 x0 6 (if (1000000 : Int) < (w32 ((w32 ((w32 ((rd_ h1 x0 6) * 10)) + (rd_ h1 (rf_ h1 x0 1) (rd_ h1 x0 3)))) - 48)) then (1000000 : Int) else (w32 ((w32 ((w32 ((rd_ h1 x0 6) * 10)) + (rd_ h1 (rf_ h1 x0 1) (rd_ h1 x0 3)))) - 48)))) x0 3 (w32 ((rd_ (wr_ h1 x0 6 (if (1000000 : Int) < (w32 ((w32 ((w32 ((rd_ h1 x0 6) * 10)) + (rd_ h1 (rf_ h1 x0 1) (rd_ h1 x0 3)))) - 48)) then (1000000 : Int) else (w32 ((w32 ((w32 ((rd_ h1 x0 6) * 10)) + (rd_ h1 (rf_ h1 x0 1) (rd_ h1 x0 3)))) - 48)))) x0 3) + 1))) x0)))))))))) := (jj_of bk_39_1 _ _ h).trans ((ff_of bk_39_1 [(17, x0)] [] h).trans (by
  show (ck_ (0 ≤ x0) (ck_ (0 ≤ x0) (bd_ (CC 36 [(17, x0), (0, rd_ h x0 3)] h) fun h1 v2 => if v2 = 0 then JJ 39 3 [(17, x0)] [] h1 else JJ 39 2 [(17, x0)] [] h1))) = _
  simp only [cc_36, jt_39_2, jt_39_3, ck_or1, ck_or2, rf_wr, ln_wr, nn_wr, rf_cp, ln_cp, nn_cp, ln_wf, nn_wf, rd_wf, nn_nw]
  try rfl))
set_option maxRecDepth 20000 in
theorem Tk_stepNumber_e (h : am_H) (x0 : Int) : Tk_stepNumber h x0 = ck_ (0 ≤ x0) (ck_ (0 ≤ x0) (if (rd_ h x0 2) ≤ (rd_ h x0 3) then ck_ (0 ≤ x0) (some (wr_ h x0 4 2, 0)) else ck_ (0 ≤ x0) (ck_ (0 ≤ x0) (bd_ (Tk_isDigit h x0 (rd_ h x0 3)) fun h1 v2 => if v2 = 0 then ck_ (0 ≤ x0) (some (wr_ h1 x0 4 2, 0)) else ck_ (0 ≤ x0) (ck_ (0 ≤ x0) (ck_ (0 ≤ x0) (ck_ (0 ≤ (rf_ h1 x0 1)) (ck_ (0 ≤ (rd_ h1 x0 3) ∧ (rd_ h1 x0 3) < ln_ h1 (rf_ h1 x0 1)) (ck_ (0 ≤ x0) (ck_ (0 ≤ x0) (ck_ (0 ≤ x0) (Tk_stepNumber (wr_ (wr_ h1 x0 6 (if (1000000 : Int) < (w32 ((w32 ((w32 ((rd_ h1 x0 6) * 10)) + (rd_ h1 (rf_ h1 x0 1) (rd_ h1 x0 3)))) - 48)) then (1000000 : Int) else (w32 ((w32 ((w32 ((rd_ h1 x0 6) * 10)) + (rd_ h1 (rf_ h1 x0 1) (rd_ h1 x0 3)))) - 48)))) x0 3 (w32 ((rd_ (wr_ h1 x0 6 (if (1000000 : Int) < (w32 ((w32 ((w32 ((rd_ h1 x0 6) * 10)) + (rd_ h1 (rf_ h1 x0 1) (rd_ h1 x0 3)))) - 48)) then (1000000 : Int) else (w32 ((w32 ((w32 ((rd_ h1 x0 6) * 10)) + (rd_ h1 (rf_ h1 x0 1) (rd_ h1 x0 3)))) - 48)))) x0 3) + 1))) x0)))))))))))) := (ff_of bk_39_0 [(17, x0)] [] h).trans (by
  show (ck_ (0 ≤ x0) (ck_ (0 ≤ x0) (if (rd_ h x0 2) ≤ (rd_ h x0 3) then JJ 39 3 [(17, x0)] [] h else JJ 39 1 [(17, x0)] [] h))) = _
  simp only [jt_39_1, jt_39_3, ck_or1, ck_or2, rf_wr, ln_wr, nn_wr, rf_cp, ln_cp, nn_cp, ln_wf, nn_wf, rd_wf, nn_nw]
  try rfl)
theorem cc_39 (h : am_H) (x0 : Int) : CC 39 [(17, x0)] h = Tk_stepNumber h x0 := cc_of pk_39 _ h
theorem pk_40 : am_prog 40 = some cd_40 := rfl
theorem bk_40_0 : bk_ am_prog 40 0 = some ([true], (bl_40_0, 9999)) := bk_of pk_40 rfl
theorem bk_40_1 : bk_ am_prog 40 1 = some ([false], (bl_40_1, 9999)) := bk_of pk_40 rfl
theorem bk_40_2 : bk_ am_prog 40 2 = some ([true], (bl_40_2, 9999)) := bk_of pk_40 rfl
theorem bk_40_3 : bk_ am_prog 40 3 = some ([true], (bl_40_3, 9999)) := bk_of pk_40 rfl
theorem bk_40_4 : bk_ am_prog 40 4 = some ([true], (bl_40_4, 9999)) := bk_of pk_40 rfl
theorem bk_40_5 : bk_ am_prog 40 5 = some ([true], (bl_40_5, 6)) := bk_of pk_40 rfl
theorem bk_40_6 : bk_ am_prog 40 6 = some ([true], (bl_40_6, 9999)) := bk_of pk_40 rfl
theorem bk_40_7 : bk_ am_prog 40 7 = some ([true], (bl_40_7, 9999)) := bk_of pk_40 rfl
theorem bk_40_8 : bk_ am_prog 40 8 = some ([true], (bl_40_8, 9999)) := bk_of pk_40 rfl
theorem bk_40_9 : bk_ am_prog 40 9 = some ([true], (bl_40_9, 10)) := bk_of pk_40 rfl
theorem bk_40_10 : bk_ am_prog 40 10 = some ([false], (bl_40_10, 9999)) := bk_of pk_40 rfl
theorem jt_40_10 (h : am_H) (d0 : am_V) : JJ 40 10 [d0] [] h = some (h, 0) := (jj_of bk_40_10 _ _ h).trans (ff_of bk_40_10 [(9, 0)] [] h)
theorem jt_40_9 (h : am_H) (x0 : Int) : JJ 40 9 [(17, x0)] [] h = ck_ (0 ≤ x0) (ck_ (0 ≤ x0) (ck_ (0 ≤ x0) (some (wr_ (wr_ h x0 4 33) x0 3 (w32 ((rd_ (wr_ h x0 4 33) x0 3) + 1)), 0)))) := (jj_of bk_40_9 _ _ h).trans ((ff_of bk_40_9 [(17, x0)] [] h).trans (by
  show (ck_ (0 ≤ x0) (ck_ (0 ≤ x0) (ck_ (0 ≤ x0) (JJ 40 10 [(17, x0)] [] (wr_ (wr_ h x0 4 33) x0 3 (w32 ((rd_ (wr_ h x0 4 33) x0 3) + 1))))))) = _
  simp only [jt_40_10, ck_or1, ck_or2, rf_wr, ln_wr, nn_wr, rf_cp, ln_cp, nn_cp, ln_wf, nn_wf, rd_wf, nn_nw]
  try rfl))
theorem jt_40_8 (h : am_H) (x0 : Int) : JJ 40 8 [(17, x0)] [] h = ck_ (0 ≤ x0) (if (rd_ h x0 4) ≠ 30 then some (h, 0) else ck_ (0 ≤ x0) (ck_ (0 ≤ x0) (ck_ (0 ≤ x0) (some (wr_ (wr_ h x0 4 33) x0 3 (w32 ((rd_ (wr_ h x0 4 33) x0 3) + 1)), 0))))) := (jj_of bk_40_8 _ _ h).trans ((ff_of bk_40_8 [(17, x0)] [] h).trans (by
  show (ck_ (0 ≤ x0) (if (rd_ h x0 4) ≠ 30 then JJ 40 10 [(17, x0)] [] h else JJ 40 9 [(17, x0)] [] h)) = _
  simp only [jt_40_10, jt_40_9, ck_or1, ck_or2, rf_wr, ln_wr, nn_wr, rf_cp, ln_cp, nn_cp, ln_wf, nn_wf, rd_wf, nn_nw]
  try rfl))
theorem jt_40_7 (h : am_H) (x0 : Int) : JJ 40 7 [(17, x0)] [] h = ck_ (0 ≤ x0) (ck_ (0 ≤ x0) (ck_ (0 ≤ (rf_ h x0 1)) (ck_ (0 ≤ (rd_ h x0 3) ∧ (rd_ h x0 3) < ln_ h (rf_ h x0 1)) (if (rd_ h (rf_ h x0 1) (rd_ h x0 3)) ≠ 62 then some (h, 0) else ck_ (0 ≤ x0) (if (rd_ h x0 4) ≠ 30 then some (h, 0) else ck_ (0 ≤ x0) (ck_ (0 ≤ x0) (ck_ (0 ≤ x0) (some (wr_ (wr_ h x0 4 33) x0 3 (w32 ((rd_ (wr_ h x0 4 33) x0 3) + 1)), 0))))))))) := (jj_of bk_40_7 _ _ h).trans ((ff_of bk_40_7 [(17, x0)] [] h).trans (by
  show (ck_ (0 ≤ x0) (ck_ (0 ≤ x0) (ck_ (0 ≤ (rf_ h x0 1)) (ck_ (0 ≤ (rd_ h x0 3) ∧ (rd_ h x0 3) < ln_ h (rf_ h x0 1)) (if (rd_ h (rf_ h x0 1) (rd_ h x0 3)) ≠ 62 then JJ 40 10 [(17, x0)] [] h else JJ 40 8 [(17, x0)] [] h))))) = _
  simp only [jt_40_10, jt_40_8, ck_or1, ck_or2, rf_wr, ln_wr, nn_wr, rf_cp, ln_cp, nn_cp, ln_wf, nn_wf, rd_wf, nn_nw]
  try rfl))
theorem jt_40_6 (h : am_H) (x0 s0 s1 : Int) : JJ 40 6 [(17, x0)] [(0, s0), (17, s1)] h = ck_ (0 ≤ s1) (ck_ (0 ≤ x0) (ck_ (0 ≤ x0) (some (wr_ (wr_ h s1 4 s0) x0 3 (w32 ((rd_ (wr_ h s1 4 s0) x0 3) + 1)), 0)))) := (jj_of bk_40_6 _ _ h).trans ((ff_of bk_40_6 [(17, x0)] [(0, s0), (17, s1)] h).trans (by
  show (ck_ (0 ≤ s1) (ck_ (0 ≤ x0) (ck_ (0 ≤ x0) (JJ 40 10 [(17, x0)] [] (wr_ (wr_ h s1 4 s0) x0 3 (w32 ((rd_ (wr_ h s1 4 s0) x0 3) + 1))))))) = _
  simp only [jt_40_10, ck_or1, ck_or2, rf_wr, ln_wr, nn_wr, rf_cp, ln_cp, nn_cp, ln_wf, nn_wf, rd_wf, nn_nw]
  try rfl))
theorem jt_40_5 (h : am_H) (x0 s0 : Int) : JJ 40 5 [(17, x0)] [(17, s0)] h = ck_ (0 ≤ s0) (ck_ (0 ≤ x0) (ck_ (0 ≤ x0) (some (wr_ (wr_ h s0 4 34) x0 3 (w32 ((rd_ (wr_ h s0 4 34) x0 3) + 1)), 0)))) := (jj_of bk_40_5 _ _ h).trans ((ff_of bk_40_5 [(17, x0)] [(17, s0)] h).trans (by
  show (JJ 40 6 [(17, x0)] [(0, 34), (17, s0)] h) = _
  simp only [jt_40_6, ck_or1, ck_or2, rf_wr, ln_wr, nn_wr, rf_cp, ln_cp, nn_cp, ln_wf, nn_wf, rd_wf, nn_nw]
  try rfl))
theorem jt_40_4 (h : am_H) (x0 s0 : Int) : JJ 40 4 [(17, x0)] [(17, s0)] h = ck_ (0 ≤ s0) (ck_ (0 ≤ x0) (ck_ (0 ≤ x0) (some (wr_ (wr_ h s0 4 31) x0 3 (w32 ((rd_ (wr_ h s0 4 31) x0 3) + 1)), 0)))) := (jj_of bk_40_4 _ _ h).trans ((ff_of bk_40_4 [(17, x0)] [(17, s0)] h).trans (by
  show (JJ 40 6 [(17, x0)] [(0, 31), (17, s0)] h) = _
  simp only [jt_40_6, ck_or1, ck_or2, rf_wr, ln_wr, nn_wr, rf_cp, ln_cp, nn_cp, ln_wf, nn_wf, rd_wf, nn_nw]
  try rfl))
theorem jt_40_3 (h : am_H) (x0 : Int) : JJ 40 3 [(17, x0)] [] h = ck_ (0 ≤ x0) (if (rd_ h x0 4) ≠ 30 then ck_ (0 ≤ x0) (ck_ (0 ≤ x0) (ck_ (0 ≤ x0) (some (wr_ (wr_ h x0 4 34) x0 3 (w32 ((rd_ (wr_ h x0 4 34) x0 3) + 1)), 0)))) else ck_ (0 ≤ x0) (ck_ (0 ≤ x0) (ck_ (0 ≤ x0) (some (wr_ (wr_ h x0 4 31) x0 3 (w32 ((rd_ (wr_ h x0 4 31) x0 3) + 1)), 0))))) := (jj_of bk_40_3 _ _ h).trans ((ff_of bk_40_3 [(17, x0)] [] h).trans (by
  show (ck_ (0 ≤ x0) (if (rd_ h x0 4) ≠ 30 then JJ 40 5 [(17, x0)] [(17, x0)] h else JJ 40 4 [(17, x0)] [(17, x0)] h)) = _
  simp only [jt_40_4, jt_40_5, ck_or1, ck_or2, rf_wr, ln_wr, nn_wr, rf_cp, ln_cp, nn_cp, ln_wf, nn_wf, rd_wf, nn_nw]
  try rfl))
set_option maxRecDepth 20000 in
theorem jt_40_2 (h : am_H) (x0 : Int) : JJ 40 2 [(17, x0)] [] h = ck_ (0 ≤ x0) (ck_ (0 ≤ x0) (ck_ (0 ≤ (rf_ h x0 1)) (ck_ (0 ≤ (rd_ h x0 3) ∧ (rd_ h x0 3) < ln_ h (rf_ h x0 1)) (if (rd_ h (rf_ h x0 1) (rd_ h x0 3)) ≠ 61 then ck_ (0 ≤ x0) (ck_ (0 ≤ x0) (ck_ (0 ≤ (rf_ h x0 1)) (ck_ (0 ≤ (rd_ h x0 3) ∧ (rd_ h x0 3) < ln_ h (rf_ h x0 1)) (if (rd_ h (rf_ h x0 1) (rd_ h x0 3)) ≠ 62 then some (h, 0) else ck_ (0 ≤ x0) (if (rd_ h x0 4) ≠ 30 then some (h, 0) else ck_ (0 ≤ x0) (ck_ (0 ≤ x0) (ck_ (0 ≤ x0) (some (wr_ (wr_ h x0 4 33) x0 3 (w32 ((rd_ (wr_ h x0 4 33) x0 3) + 1)), 0))))))))) else ck_ (0 ≤ x0) (if (rd_ h x0 4) ≠ 30 then ck_ (0 ≤ x0) (ck_ (0 ≤ x0) (ck_ (0 ≤ x0) (some (wr_ (wr_ h x0 4 34) x0 3 (w32 ((rd_ (wr_ h x0 4 34) x0 3) + 1)), 0)))) else ck_ (0 ≤ x0) (ck_ (0 ≤ x0) (ck_ (0 ≤ x0) (some (wr_ (wr_ h x0 4 31) x0 3 (w32 ((rd_ (wr_ h x0 4 31) x0 3) + 1)), 0))))))))) := (jj_of bk_40_2 _ _ h).trans ((ff_of bk_40_2 [(17, x0)] [] h).trans (by
  show (ck_ (0 ≤ x0) (ck_ (0 ≤ x0) (ck_ (0 ≤ (rf_ h x0 1)) (ck_ (0 ≤ (rd_ h x0 3) ∧ (rd_ h x0 3) < ln_ h (rf_ h x0 1)) (if (rd_ h (rf_ h x0 1) (rd_ h x0 3)) ≠ 61 then JJ 40 7 [(17, x0)] [] h else JJ 40 3 [(17, x0)] [] h))))) = _
  simp only [jt_40_3, jt_40_7, ck_or1, ck_or2, rf_wr, ln_wr, nn_wr, rf_cp, ln_cp, nn_cp, ln_wf, nn_wf, rd_wf, nn_nw]
  try rfl))
theorem jt_40_1 (h : am_H) (d0 : am_V) : JJ 40 1 [d0] [] h = some (h, 0) := (jj_of bk_40_1 _ _ h).trans (ff_of bk_40_1 [(9, 0)] [] h)
set_option maxRecDepth 20000 in
theorem Tk_stepSecondSign_e (h : am_H) (x0 : Int) : Tk_stepSecondSign h x0 = ck_ (0 ≤ x0) (ck_ (0 ≤ x0) (if (rd_ h x0 3) < (rd_ h x0 2) then ck_ (0 ≤ x0) (ck_ (0 ≤ x0) (ck_ (0 ≤ (rf_ h x0 1)) (ck_ (0 ≤ (rd_ h x0 3) ∧ (rd_ h x0 3) < ln_ h (rf_ h x0 1)) (if (rd_ h (rf_ h x0 1) (rd_ h x0 3)) ≠ 61 then ck_ (0 ≤ x0) (ck_ (0 ≤ x0) (ck_ (0 ≤ (rf_ h x0 1)) (ck_ (0 ≤ (rd_ h x0 3) ∧ (rd_ h x0 3) < ln_ h (rf_ h x0 1)) (if (rd_ h (rf_ h x0 1) (rd_ h x0 3)) ≠ 62 then some (h, 0) else ck_ (0 ≤ x0) (if (rd_ h x0 4) ≠ 30 then some (h, 0) else ck_ (0 ≤ x0) (ck_ (0 ≤ x0) (ck_ (0 ≤ x0) (some (wr_ (wr_ h x0 4 33) x0 3 (w32 ((rd_ (wr_ h x0 4 33) x0 3) + 1)), 0))))))))) else ck_ (0 ≤ x0) (if (rd_ h x0 4) ≠ 30 then ck_ (0 ≤ x0) (ck_ (0 ≤ x0) (ck_ (0 ≤ x0) (some (wr_ (wr_ h x0 4 34) x0 3 (w32 ((rd_ (wr_ h x0 4 34) x0 3) + 1)), 0)))) else ck_ (0 ≤ x0) (ck_ (0 ≤ x0) (ck_ (0 ≤ x0) (some (wr_ (wr_ h x0 4 31) x0 3 (w32 ((rd_ (wr_ h x0 4 31) x0 3) + 1)), 0))))))))) else some (h, 0))) := (ff_of bk_40_0 [(17, x0)] [] h).trans (by
  show (ck_ (0 ≤ x0) (ck_ (0 ≤ x0) (if (rd_ h x0 3) < (rd_ h x0 2) then JJ 40 2 [(17, x0)] [] h else JJ 40 1 [(17, x0)] [] h))) = _
  simp only [jt_40_1, jt_40_2, ck_or1, ck_or2, rf_wr, ln_wr, nn_wr, rf_cp, ln_cp, nn_cp, ln_wf, nn_wf, rd_wf, nn_nw]
  try rfl)
theorem cc_40 (h : am_H) (x0 : Int) : CC 40 [(17, x0)] h = Tk_stepSecondSign h x0 := cc_of pk_40 _ h
theorem pk_41 : am_prog 41 = some cd_41 := rfl
theorem bk_41_0 : bk_ am_prog 41 0 = some ([true, true, true, false], (bl_41_0, 1)) := bk_of pk_41 rfl
theorem bk_41_1 : bk_ am_prog 41 1 = some ([true, true, true, true], (bl_41_1, 9999)) := bk_of pk_41 rfl
theorem bk_41_2 : bk_ am_prog 41 2 = some ([true, true, true, true], (bl_41_2, 9999)) := bk_of pk_41 rfl
theorem bk_41_3 : bk_ am_prog 41 3 = some ([true, true, true, true], (bl_41_3, 9999)) := bk_of pk_41 rfl
theorem bk_41_4 : bk_ am_prog 41 4 = some ([false, false, false, true], (bl_41_4, 9999)) := bk_of pk_41 rfl
theorem bk_41_5 : bk_ am_prog 41 5 = some ([true, true, true, true], (bl_41_5, 9999)) := bk_of pk_41 rfl
theorem bk_41_6 : bk_ am_prog 41 6 = some ([false, false, false, false], (bl_41_6, 9999)) := bk_of pk_41 rfl
theorem jt_41_1 (h : am_H) (x0 x1 x2 x3 : Int) : JJ 41 1 [(30, x0), (0, x1), (0, x2), (0, x3)] [] h = Pp_indexOf_1 h x0 x1 x2 x3 := jj_of bk_41_1 _ _ h
theorem Pp_indexOf_e (h : am_H) (x0 x1 x2 : Int) : Pp_indexOf h x0 x1 x2 = Pp_indexOf_1 h x0 x1 x2 0 := (ff_of bk_41_0 [(30, x0), (0, x1), (0, x2), (9, 0)] [] h).trans (by
  show (JJ 41 1 [(30, x0), (0, x1), (0, x2), (0, 0)] [] h) = _
  simp only [jt_41_1, ck_or1, ck_or2, rf_wr, ln_wr, nn_wr, rf_cp, ln_cp, nn_cp, ln_wf, nn_wf, rd_wf, nn_nw]
  try rfl)
theorem jt_41_6 (h : am_H) (d0 d1 d2 d3 : am_V) : JJ 41 6 [d0, d1, d2, d3] [] h = some (h, (-1)) := (jj_of bk_41_6 _ _ h).trans (ff_of bk_41_6 [(9, 0), (9, 0), (9, 0), (9, 0)] [] h)
theorem jt_41_5 (h : am_H) (x0 x1 x2 x3 : Int) : JJ 41 5 [(30, x0), (0, x1), (0, x2), (0, x3)] [] h = Pp_indexOf_1 h x0 x1 x2 (w32 (x3 + 1)) := (jj_of bk_41_5 _ _ h).trans ((ff_of bk_41_5 [(30, x0), (0, x1), (0, x2), (0, x3)] [] h).trans (by
  show (JJ 41 1 [(30, x0), (0, x1), (0, x2), (0, w32 (x3 + 1))] [] h) = _
  simp only [jt_41_1, ck_or1, ck_or2, rf_wr, ln_wr, nn_wr, rf_cp, ln_cp, nn_cp, ln_wf, nn_wf, rd_wf, nn_nw]
  try rfl))
theorem jt_41_4 (h : am_H) (d0 d1 d2 : am_V) (x3 : Int) : JJ 41 4 [d0, d1, d2, (0, x3)] [] h = some (h, x3) := (jj_of bk_41_4 _ _ h).trans (ff_of bk_41_4 [(9, 0), (9, 0), (9, 0), (0, x3)] [] h)
theorem jt_41_3 (h : am_H) (x0 x1 x2 x3 : Int) : JJ 41 3 [(30, x0), (0, x1), (0, x2), (0, x3)] [] h = ck_ (0 ≤ x0) (ck_ (0 ≤ x3 ∧ x3 < ln_ h x0) (if (rd_ h x0 x3) ≠ x2 then Pp_indexOf_1 h x0 x1 x2 (w32 (x3 + 1)) else some (h, x3))) := (jj_of bk_41_3 _ _ h).trans ((ff_of bk_41_3 [(30, x0), (0, x1), (0, x2), (0, x3)] [] h).trans (by
  show (ck_ (0 ≤ x0) (ck_ (0 ≤ x3 ∧ x3 < ln_ h x0) (if (rd_ h x0 x3) ≠ x2 then JJ 41 5 [(30, x0), (0, x1), (0, x2), (0, x3)] [] h else JJ 41 4 [(30, x0), (0, x1), (0, x2), (0, x3)] [] h))) = _
  simp only [jt_41_4, jt_41_5, ck_or1, ck_or2, rf_wr, ln_wr, nn_wr, rf_cp, ln_cp, nn_cp, ln_wf, nn_wf, rd_wf, nn_nw]
  try rfl))
theorem jt_41_2 (h : am_H) (x0 x1 x2 x3 : Int) : JJ 41 2 [(30, x0), (0, x1), (0, x2), (0, x3)] [] h = ck_ (0 ≤ x0) (if (ln_ h x0) ≤ x3 then some (h, (-1)) else ck_ (0 ≤ x0) (ck_ (0 ≤ x3 ∧ x3 < ln_ h x0) (if (rd_ h x0 x3) ≠ x2 then Pp_indexOf_1 h x0 x1 x2 (w32 (x3 + 1)) else some (h, x3)))) := (jj_of bk_41_2 _ _ h).trans ((ff_of bk_41_2 [(30, x0), (0, x1), (0, x2), (0, x3)] [] h).trans (by
  show (ck_ (0 ≤ x0) (if (ln_ h x0) ≤ x3 then JJ 41 6 [(30, x0), (0, x1), (0, x2), (0, x3)] [] h else JJ 41 3 [(30, x0), (0, x1), (0, x2), (0, x3)] [] h)) = _
  simp only [jt_41_3, jt_41_6, ck_or1, ck_or2, rf_wr, ln_wr, nn_wr, rf_cp, ln_cp, nn_cp, ln_wf, nn_wf, rd_wf, nn_nw]
  try rfl))
theorem Pp_indexOf_1_e (h : am_H) (x0 x1 x2 x3 : Int) : Pp_indexOf_1 h x0 x1 x2 x3 = if x1 ≤ x3 then some (h, (-1)) else ck_ (0 ≤ x0) (if (ln_ h x0) ≤ x3 then some (h, (-1)) else ck_ (0 ≤ x0) (ck_ (0 ≤ x3 ∧ x3 < ln_ h x0) (if (rd_ h x0 x3) ≠ x2 then Pp_indexOf_1 h x0 x1 x2 (w32 (x3 + 1)) else some (h, x3)))) := (ff_of bk_41_1 [(30, x0), (0, x1), (0, x2), (0, x3)] [] h).trans (by
  show (if x1 ≤ x3 then JJ 41 6 [(30, x0), (0, x1), (0, x2), (0, x3)] [] h else JJ 41 2 [(30, x0), (0, x1), (0, x2), (0, x3)] [] h) = _
  simp only [jt_41_2, jt_41_6, ck_or1, ck_or2, rf_wr, ln_wr, nn_wr, rf_cp, ln_cp, nn_cp, ln_wf, nn_wf, rd_wf, nn_nw]
  try rfl)
theorem cc_41 (h : am_H) (x0 x1 x2 : Int) : CC 41 [(30, x0), (0, x1), (0, x2)] h = Pp_indexOf h x0 x1 x2 := cc_of pk_41 _ h
theorem pk_42 : am_prog 42 = some cd_42 := rfl
theorem bk_42_0 : bk_ am_prog 42 0 = some ([true, false, false], (bl_42_0, 1)) := bk_of pk_42 rfl
theorem bk_42_1 : bk_ am_prog 42 1 = some ([true, true, false], (bl_42_1, 9999)) := bk_of pk_42 rfl
theorem bk_42_2 : bk_ am_prog 42 2 = some ([true, true, false], (bl_42_2, 9999)) := bk_of pk_42 rfl
theorem bk_42_3 : bk_ am_prog 42 3 = some ([true, true, false], (bl_42_3, 9999)) := bk_of pk_42 rfl
theorem bk_42_4 : bk_ am_prog 42 4 = some ([true, true, false], (bl_42_4, 5)) := bk_of pk_42 rfl
theorem bk_42_5 : bk_ am_prog 42 5 = some ([true, true, false], (bl_42_5, 9999)) := bk_of pk_42 rfl
theorem bk_42_6 : bk_ am_prog 42 6 = some ([true, true, false], (bl_42_6, 9999)) := bk_of pk_42 rfl
theorem bk_42_7 : bk_ am_prog 42 7 = some ([true, false, false], (bl_42_7, 9999)) := bk_of pk_42 rfl
theorem bk_42_8 : bk_ am_prog 42 8 = some ([true, false, false], (bl_42_8, 9999)) := bk_of pk_42 rfl
theorem bk_42_9 : bk_ am_prog 42 9 = some ([false, false, false], (bl_42_9, 9999)) := bk_of pk_42 rfl
theorem bk_42_10 : bk_ am_prog 42 10 = some ([false, false, true], (bl_42_10, 11)) := bk_of pk_42 rfl
theorem bk_42_11 : bk_ am_prog 42 11 = some ([false, false, false], (bl_42_11, 9999)) := bk_of pk_42 rfl
theorem jt_42_1 (h : am_H) (d2 : am_V) (x0 x1 : Int) : JJ 42 1 [(17, x0), (0, x1), d2] [] h = Tk_stepWord_1 h x0 x1 := jj_of bk_42_1 _ _ h
theorem jt_42_6 (h : am_H) (d2 : am_V) (x0 x1 : Int) : JJ 42 6 [(17, x0), (0, x1), d2] [] h = Tk_stepWord_6 h x0 x1 := jj_of bk_42_6 _ _ h
theorem Tk_stepWord_e (h : am_H) (x0 : Int) : Tk_stepWord h x0 = Tk_stepWord_1 h x0 0 := (ff_of bk_42_0 [(17, x0), (9, 0), (9, 0)] [] h).trans (by
  show (JJ 42 1 [(17, x0), (0, 0), (9, 0)] [] h) = _
  simp only [jt_42_1, ck_or1, ck_or2, rf_wr, ln_wr, nn_wr, rf_cp, ln_cp, nn_cp, ln_wf, nn_wf, rd_wf, nn_nw]
  try rfl)
theorem jt_42_5 (h : am_H) (d2 : am_V) (x0 x1 : Int) : JJ 42 5 [(17, x0), (0, x1), d2] [] h = ck_ (0 ≤ x0) (ck_ (0 ≤ x0) (Tk_stepWord_1 (wr_ h x0 3 (w32 ((rd_ h x0 3) + 1))) x0 (w32 (x1 + 1)))) := (jj_of bk_42_5 _ _ h).trans ((ff_of bk_42_5 [(17, x0), (0, x1), (9, 0)] [] h).trans (by
  show (ck_ (0 ≤ x0) (ck_ (0 ≤ x0) (JJ 42 1 [(17, x0), (0, w32 (x1 + 1)), (9, 0)] [] (wr_ h x0 3 (w32 ((rd_ h x0 3) + 1)))))) = _
  simp only [jt_42_1, ck_or1, ck_or2, rf_wr, ln_wr, nn_wr, rf_cp, ln_cp, nn_cp, ln_wf, nn_wf, rd_wf, nn_nw]
  try rfl))
theorem jt_42_4 (h : am_H) (d2 : am_V) (x0 x1 : Int) : JJ 42 4 [(17, x0), (0, x1), d2] [] h = ck_ (0 ≤ x0) (ck_ (0 ≤ x0) (ck_ (0 ≤ x0) (ck_ (0 ≤ (rf_ h x0 1)) (ck_ (0 ≤ (rd_ h x0 3) ∧ (rd_ h x0 3) < ln_ h (rf_ h x0 1)) (ck_ (0 ≤ x0) (ck_ (0 ≤ x0) (ck_ (0 ≤ x0) (Tk_stepWord_1 (wr_ (wr_ h x0 6 (or_ (rd_ h x0 6) (w32 ((w32 ((w32 ((rd_ h (rf_ h x0 1) (rd_ h x0 3)) - 97)) + 1)) * 2 ^ ((w32 (25 - (w32 (5 * x1)))) % 32 : Int).toNat)))) x0 3 (w32 ((rd_ (wr_ h x0 6 (or_ (rd_ h x0 6) (w32 ((w32 ((w32 ((rd_ h (rf_ h x0 1) (rd_ h x0 3)) - 97)) + 1)) * 2 ^ ((w32 (25 - (w32 (5 * x1)))) % 32 : Int).toNat)))) x0 3) + 1))) x0 (w32 (x1 + 1)))))))))) := (jj_of bk_42_4 _ _ h).trans ((ff_of bk_42_4 [(17, x0), (0, x1), (9, 0)] [] h).trans (by
  show (ck_ (0 ≤ x0) (ck_ (0 ≤ x0) (ck_ (0 ≤ x0) (ck_ (0 ≤ (rf_ h x0 1)) (ck_ (0 ≤ (rd_ h x0 3) ∧ (rd_ h x0 3) < ln_ h (rf_ h x0 1)) (ck_ (0 ≤ x0) (JJ 42 5 [(17, x0), (0, x1), (9, 0)] [] (wr_ h x0 6 (or_ (rd_ h x0 6) (w32 ((w32 ((w32 ((rd_ h (rf_ h x0 1) (rd_ h x0 3)) - 97)) + 1)) * 2 ^ ((w32 (25 - (w32 (5 * x1)))) % 32 : Int).toNat))))))))))) = _
  simp only [jt_42_5, ck_or1, ck_or2, rf_wr, ln_wr, nn_wr, rf_cp, ln_cp, nn_cp, ln_wf, nn_wf, rd_wf, nn_nw]
  try rfl))
theorem jt_42_3 (h : am_H) (d2 : am_V) (x0 x1 : Int) : JJ 42 3 [(17, x0), (0, x1), d2] [] h = if 6 ≤ x1 then ck_ (0 ≤ x0) (ck_ (0 ≤ x0) (Tk_stepWord_1 (wr_ h x0 3 (w32 ((rd_ h x0 3) + 1))) x0 (w32 (x1 + 1)))) else ck_ (0 ≤ x0) (ck_ (0 ≤ x0) (ck_ (0 ≤ x0) (ck_ (0 ≤ (rf_ h x0 1)) (ck_ (0 ≤ (rd_ h x0 3) ∧ (rd_ h x0 3) < ln_ h (rf_ h x0 1)) (ck_ (0 ≤ x0) (ck_ (0 ≤ x0) (ck_ (0 ≤ x0) (Tk_stepWord_1 (wr_ (wr_ h x0 6 (or_ (rd_ h x0 6) (w32 ((w32 ((w32 ((rd_ h (rf_ h x0 1) (rd_ h x0 3)) - 97)) + 1)) * 2 ^ ((w32 (25 - (w32 (5 * x1)))) % 32 : Int).toNat)))) x0 3 (w32 ((rd_ (wr_ h x0 6 (or_ (rd_ h x0 6) (w32 ((w32 ((w32 ((rd_ h (rf_ h x0 1) (rd_ h x0 3)) - 97)) + 1)) * 2 ^ ((w32 (25 - (w32 (5 * x1)))) % 32 : Int).toNat)))) x0 3) + 1))) x0 (w32 (x1 + 1)))))))))) := (jj_of bk_42_3 _ _ h).trans ((ff_of bk_42_3 [(17, x0), (0, x1), (9, 0)] [] h).trans (by
  show (if 6 ≤ x1 then JJ 42 5 [(17, x0), (0, x1), (9, 0)] [] h else JJ 42 4 [(17, x0), (0, x1), (9, 0)] [] h) = _
  simp only [jt_42_4, jt_42_5, ck_or1, ck_or2, rf_wr, ln_wr, nn_wr, rf_cp, ln_cp, nn_cp, ln_wf, nn_wf, rd_wf, nn_nw]
  try rfl))
set_option maxRecDepth 20000 in
theorem jt_42_2 (h : am_H) (d2 : am_V) (x0 x1 : Int) : JJ 42 2 [(17, x0), (0, x1), d2] [] h = ck_ (0 ≤ x0) (ck_ (0 ≤ x0) (bd_ (Tk_isLetter h x0 (rd_ h x0 3)) fun h1 v2 => if v2 = 0 then Tk_stepWord_6 h1 x0 x1 else if 6 ≤ x1 then ck_ (0 ≤ x0) (ck_ (0 ≤ x0) (Tk_stepWord_1 (wr_ h1 x0 3 (w32 ((rd_ h1 x0 3) + 1))) x0 (w32 (x1 + 1)))) else ck_ (0 ≤ x0) (ck_ (0 ≤ x0) (ck_ (0 ≤ x0) (ck_ (0 ≤ (rf_ h1 x0 1)) (ck_ (0 ≤ (rd_ h1 x0 3) ∧ (rd_ h1 x0 3) < ln_ h1 (rf_ h1 x0 1)) (ck_ (0 ≤ x0) (ck_ (0 ≤ x0) (ck_ (0 ≤ x0) (Tk_stepWord_1 (wr_ (wr_ h1 x0 6 (or_ (rd_ h1 x0 6) (w32 ((w32 ((w32 ((rd_ h1 (rf_ h1 x0 1) (rd_ h1 x0 3)) - 97)) + 1)) * 2 ^ ((w32 (25 - (w32 (5 * x1)))) % 32 : Int).toNat)))) x0 3 (w32 ((rd_ (wr_ h1 x0 6 (or_ (rd_ h1 x0 6) (w32 ((w32 ((w32 ((rd_ h1 (rf_ h1 x0 1) (rd_ h1 x0 3)) - 97)) + 1)) * 2 ^ ((w32 (25 - (w32 (5 * x1)))) % 32 : Int).toNat)))) x0 3) + 1))) x0 (w32 (x1 + 1)))))))))))) := (jj_of bk_42_2 _ _ h).trans ((ff_of bk_42_2 [(17, x0), (0, x1), (9, 0)] [] h).trans (by
  show (ck_ (0 ≤ x0) (ck_ (0 ≤ x0) (bd_ (CC 37 [(17, x0), (0, rd_ h x0 3)] h) fun h1 v2 => if v2 = 0 then JJ 42 6 [(17, x0), (0, x1), (9, 0)] [] h1 else JJ 42 3 [(17, x0), (0, x1), (9, 0)] [] h1))) = _
  simp only [cc_37, jt_42_3, jt_42_6, ck_or1, ck_or2, rf_wr, ln_wr, nn_wr, rf_cp, ln_cp, nn_cp, ln_wf, nn_wf, rd_wf, nn_nw]
  try rfl))
set_option maxRecDepth 20000 in
theorem Tk_stepWord_1_e (h : am_H) (x0 x1 : Int) : Tk_stepWord_1 h x0 x1 = ck_ (0 ≤ x0) (ck_ (0 ≤ x0) (if (rd_ h x0 2) ≤ (rd_ h x0 3) then Tk_stepWord_6 h x0 x1 else ck_ (0 ≤ x0) (ck_ (0 ≤ x0) (bd_ (Tk_isLetter h x0 (rd_ h x0 3)) fun h1 v2 => if v2 = 0 then Tk_stepWord_6 h1 x0 x1 else if 6 ≤ x1 then ck_ (0 ≤ x0) (ck_ (0 ≤ x0) (Tk_stepWord_1 (wr_ h1 x0 3 (w32 ((rd_ h1 x0 3) + 1))) x0 (w32 (x1 + 1)))) else ck_ (0 ≤ x0) (ck_ (0 ≤ x0) (ck_ (0 ≤ x0) (ck_ (0 ≤ (rf_ h1 x0 1)) (ck_ (0 ≤ (rd_ h1 x0 3) ∧ (rd_ h1 x0 3) < ln_ h1 (rf_ h1 x0 1)) (ck_ (0 ≤ x0) (ck_ (0 ≤ x0) (ck_ (0 ≤ x0) (Tk_stepWord_1 (wr_ (wr_ h1 x0 6 (or_ (rd_ h1 x0 6) (w32 ((w32 ((w32 ((rd_ h1 (rf_ h1 x0 1) (rd_ h1 x0 3)) - 97)) + 1)) * 2 ^ ((w32 (25 - (w32 (5 * x1)))) % 32 : Int).toNat)))) x0 3 (w32 ((rd_ (wr_ h1 x0 6 (or_ (rd_ h1 x0 6) (w32 ((w32 ((w32 ((rd_ h1 (rf_ h1 x0 1) (rd_ h1 x0 3)) - 97)) + 1)) * 2 ^ ((w32 (25 - (w32 (5 * x1)))) % 32 : Int).toNat)))) x0 3) + 1))) x0 (w32 (x1 + 1)))))))))))))) := (ff_of bk_42_1 [(17, x0), (0, x1), (9, 0)] [] h).trans (by
  show (ck_ (0 ≤ x0) (ck_ (0 ≤ x0) (if (rd_ h x0 2) ≤ (rd_ h x0 3) then JJ 42 6 [(17, x0), (0, x1), (9, 0)] [] h else JJ 42 2 [(17, x0), (0, x1), (9, 0)] [] h))) = _
  simp only [jt_42_2, jt_42_6, ck_or1, ck_or2, rf_wr, ln_wr, nn_wr, rf_cp, ln_cp, nn_cp, ln_wf, nn_wf, rd_wf, nn_nw]
  try rfl)
theorem jt_42_11 (h : am_H) (d0 d1 d2 : am_V) (s0 s1 : Int) : JJ 42 11 [d0, d1, d2] [(0, s0), (17, s1)] h = ck_ (0 ≤ s1) (some (wr_ h s1 4 s0, 0)) := (jj_of bk_42_11 _ _ h).trans (ff_of bk_42_11 [(9, 0), (9, 0), (9, 0)] [(0, s0), (17, s1)] h)
theorem jt_42_10 (h : am_H) (d0 d1 : am_V) (x2 s0 : Int) : JJ 42 10 [d0, d1, (0, x2)] [(17, s0)] h = ck_ (0 ≤ s0) (some (wr_ h s0 4 (w32 (10 + x2)), 0)) := (jj_of bk_42_10 _ _ h).trans ((ff_of bk_42_10 [(9, 0), (9, 0), (0, x2)] [(17, s0)] h).trans (by
  show (JJ 42 11 [(9, 0), (9, 0), (0, x2)] [(0, w32 (10 + x2)), (17, s0)] h) = _
  simp only [jt_42_11, ck_or1, ck_or2, rf_wr, ln_wr, nn_wr, rf_cp, ln_cp, nn_cp, ln_wf, nn_wf, rd_wf, nn_nw]
  try rfl))
theorem jt_42_9 (h : am_H) (d0 d1 d2 : am_V) (s0 : Int) : JJ 42 9 [d0, d1, d2] [(17, s0)] h = ck_ (0 ≤ s0) (some (wr_ h s0 4 3, 0)) := (jj_of bk_42_9 _ _ h).trans ((ff_of bk_42_9 [(9, 0), (9, 0), (9, 0)] [(17, s0)] h).trans (by
  show (JJ 42 11 [(9, 0), (9, 0), (9, 0)] [(0, 3), (17, s0)] h) = _
  simp only [jt_42_11, ck_or1, ck_or2, rf_wr, ln_wr, nn_wr, rf_cp, ln_cp, nn_cp, ln_wf, nn_wf, rd_wf, nn_nw]
  try rfl))
theorem jt_42_8 (h : am_H) (d1 d2 : am_V) (x0 : Int) : JJ 42 8 [(17, x0), d1, d2] [] h = ck_ (0 ≤ x0) (ck_ (0 ≤ x0) (bd_ (Pp_indexOf h (rf_ h x0 0) 20 (rd_ h x0 6)) fun h1 v2 => if 0 ≤ v2 then ck_ (0 ≤ x0) (some (wr_ h1 x0 4 (w32 (10 + v2)), 0)) else ck_ (0 ≤ x0) (some (wr_ h1 x0 4 3, 0)))) := (jj_of bk_42_8 _ _ h).trans ((ff_of bk_42_8 [(17, x0), (9, 0), (9, 0)] [] h).trans (by
  show (ck_ (0 ≤ x0) (ck_ (0 ≤ x0) (bd_ (CC 41 [(30, rf_ h x0 0), (0, 20), (0, rd_ h x0 6)] h) fun h1 v2 => if 0 ≤ v2 then JJ 42 10 [(17, x0), (9, 0), (0, v2)] [(17, x0)] h1 else JJ 42 9 [(17, x0), (9, 0), (0, v2)] [(17, x0)] h1))) = _
  simp only [cc_41, jt_42_10, jt_42_9, ck_or1, ck_or2, rf_wr, ln_wr, nn_wr, rf_cp, ln_cp, nn_cp, ln_wf, nn_wf, rd_wf, nn_nw]
  try rfl))
theorem jt_42_7 (h : am_H) (d1 d2 : am_V) (x0 : Int) : JJ 42 7 [(17, x0), d1, d2] [] h = ck_ (0 ≤ x0) (some (wr_ h x0 4 1, 0)) := (jj_of bk_42_7 _ _ h).trans (ff_of bk_42_7 [(17, x0), (9, 0), (9, 0)] [] h)
theorem Tk_stepWord_6_e (h : am_H) (x0 x1 : Int) : Tk_stepWord_6 h x0 x1 = if x1 ≤ 6 then ck_ (0 ≤ x0) (ck_ (0 ≤ x0) (bd_ (Pp_indexOf h (rf_ h x0 0) 20 (rd_ h x0 6)) fun h1 v2 => if 0 ≤ v2 then ck_ (0 ≤ x0) (some (wr_ h1 x0 4 (w32 (10 + v2)), 0)) else ck_ (0 ≤ x0) (some (wr_ h1 x0 4 3, 0)))) else ck_ (0 ≤ x0) (some (wr_ h x0 4 1, 0)) := (ff_of bk_42_6 [(17, x0), (0, x1), (9, 0)] [] h).trans (by
  show (if x1 ≤ 6 then JJ 42 8 [(17, x0), (0, x1), (9, 0)] [] h else JJ 42 7 [(17, x0), (0, x1), (9, 0)] [] h) = _
  simp only [jt_42_7, jt_42_8, ck_or1, ck_or2, rf_wr, ln_wr, nn_wr, rf_cp, ln_cp, nn_cp, ln_wf, nn_wf, rd_wf, nn_nw]
  try rfl)
theorem cc_42 (h : am_H) (x0 : Int) : CC 42 [(17, x0)] h = Tk_stepWord h x0 := cc_of pk_42 _ h
theorem pk_43 : am_prog 43 = some cd_43 := rfl
theorem bk_43_0 : bk_ am_prog 43 0 = some ([true], (bl_43_0, 9999)) := bk_of pk_43 rfl
theorem bk_43_1 : bk_ am_prog 43 1 = some ([true], (bl_43_1, 9999)) := bk_of pk_43 rfl
theorem bk_43_2 : bk_ am_prog 43 2 = some ([true], (bl_43_2, 9999)) := bk_of pk_43 rfl
theorem bk_43_3 : bk_ am_prog 43 3 = some ([true], (bl_43_3, 9999)) := bk_of pk_43 rfl
theorem bk_43_4 : bk_ am_prog 43 4 = some ([true], (bl_43_4, 9999)) := bk_of pk_43 rfl
theorem bk_43_5 : bk_ am_prog 43 5 = some ([true], (bl_43_5, 9999)) := bk_of pk_43 rfl
theorem bk_43_6 : bk_ am_prog 43 6 = some ([true], (bl_43_6, 9999)) := bk_of pk_43 rfl
theorem bk_43_7 : bk_ am_prog 43 7 = some ([true], (bl_43_7, 9999)) := bk_of pk_43 rfl
theorem bk_43_8 : bk_ am_prog 43 8 = some ([true], (bl_43_8, 9999)) := bk_of pk_43 rfl
theorem bk_43_9 : bk_ am_prog 43 9 = some ([true], (bl_43_9, 9999)) := bk_of pk_43 rfl
theorem bk_43_10 : bk_ am_prog 43 10 = some ([true], (bl_43_10, 9999)) := bk_of pk_43 rfl
theorem bk_43_11 : bk_ am_prog 43 11 = some ([true], (bl_43_11, 9999)) := bk_of pk_43 rfl
theorem bk_43_12 : bk_ am_prog 43 12 = some ([true], (bl_43_12, 13)) := bk_of pk_43 rfl
theorem bk_43_13 : bk_ am_prog 43 13 = some ([false], (bl_43_13, 9999)) := bk_of pk_43 rfl
theorem jt_43_0 (h : am_H) (x0 : Int) : JJ 43 0 [(17, x0)] [] h = Tk_step h x0 := jj_of bk_43_0 _ _ h
theorem jt_43_4 (h : am_H) (x0 : Int) : JJ 43 4 [(17, x0)] [] h = Tk_step_4 h x0 := jj_of bk_43_4 _ _ h
theorem jt_43_3 (h : am_H) (x0 : Int) : JJ 43 3 [(17, x0)] [] h = ck_ (0 ≤ x0) (ck_ (0 ≤ x0) (Tk_step (wr_ h x0 3 (w32 ((rd_ h x0 3) + 1))) x0)) := (jj_of bk_43_3 _ _ h).trans ((ff_of bk_43_3 [(17, x0)] [] h).trans (by
  show (ck_ (0 ≤ x0) (ck_ (0 ≤ x0) (JJ 43 0 [(17, x0)] [] (wr_ h x0 3 (w32 ((rd_ h x0 3) + 1)))))) = _
  simp only [jt_43_0, ck_or1, ck_or2, rf_wr, ln_wr, nn_wr, rf_cp, ln_cp, nn_cp, ln_wf, nn_wf, rd_wf, nn_nw]
  try rfl))
theorem jt_43_2 (h : am_H) (x0 : Int) : JJ 43 2 [(17, x0)] [] h = ck_ (0 ≤ x0) (ck_ (0 ≤ x0) (ck_ (0 ≤ (rf_ h x0 1)) (ck_ (0 ≤ (rd_ h x0 3) ∧ (rd_ h x0 3) < ln_ h (rf_ h x0 1)) (if (rd_ h (rf_ h x0 1) (rd_ h x0 3)) ≠ 32 then Tk_step_4 h x0 else ck_ (0 ≤ x0) (ck_ (0 ≤ x0) (Tk_step (wr_ h x0 3 (w32 ((rd_ h x0 3) + 1))) x0)))))) := (jj_of bk_43_2 _ _ h).trans ((ff_of bk_43_2 [(17, x0)] [] h).trans (by
  show (ck_ (0 ≤ x0) (ck_ (0 ≤ x0) (ck_ (0 ≤ (rf_ h x0 1)) (ck_ (0 ≤ (rd_ h x0 3) ∧ (rd_ h x0 3) < ln_ h (rf_ h x0 1)) (if (rd_ h (rf_ h x0 1) (rd_ h x0 3)) ≠ 32 then JJ 43 4 [(17, x0)] [] h else JJ 43 3 [(17, x0)] [] h))))) = _
  simp only [jt_43_3, jt_43_4, ck_or1, ck_or2, rf_wr, ln_wr, nn_wr, rf_cp, ln_cp, nn_cp, ln_wf, nn_wf, rd_wf, nn_nw]
  try rfl))
theorem jt_43_1 (h : am_H) (x0 : Int) : JJ 43 1 [(17, x0)] [] h = ck_ (0 ≤ x0) (ck_ (0 ≤ x0) (ck_ (0 ≤ (rf_ h x0 1)) (ck_ (0 ≤ (rd_ h x0 3) ∧ (rd_ h x0 3) < ln_ h (rf_ h x0 1)) (if (rd_ h (rf_ h x0 1) (rd_ h x0 3)) = 10 then ck_ (0 ≤ x0) (ck_ (0 ≤ x0) (Tk_step (wr_ h x0 3 (w32 ((rd_ h x0 3) + 1))) x0)) else ck_ (0 ≤ x0) (ck_ (0 ≤ x0) (ck_ (0 ≤ (rf_ h x0 1)) (ck_ (0 ≤ (rd_ h x0 3) ∧ (rd_ h x0 3) < ln_ h (rf_ h x0 1)) (if (rd_ h (rf_ h x0 1) (rd_ h x0 3)) ≠ 32 then Tk_step_4 h x0 else ck_ (0 ≤ x0) (ck_ (0 ≤ x0) (Tk_step (wr_ h x0 3 (w32 ((rd_ h x0 3) + 1))) x0)))))))))) := (jj_of bk_43_1 _ _ h).trans ((ff_of bk_43_1 [(17, x0)] [] h).trans (by
  show (ck_ (0 ≤ x0) (ck_ (0 ≤ x0) (ck_ (0 ≤ (rf_ h x0 1)) (ck_ (0 ≤ (rd_ h x0 3) ∧ (rd_ h x0 3) < ln_ h (rf_ h x0 1)) (if (rd_ h (rf_ h x0 1) (rd_ h x0 3)) = 10 then JJ 43 3 [(17, x0)] [] h else JJ 43 2 [(17, x0)] [] h))))) = _
  simp only [jt_43_2, jt_43_3, ck_or1, ck_or2, rf_wr, ln_wr, nn_wr, rf_cp, ln_cp, nn_cp, ln_wf, nn_wf, rd_wf, nn_nw]
  try rfl))
theorem Tk_step_e (h : am_H) (x0 : Int) : Tk_step h x0 = ck_ (0 ≤ x0) (ck_ (0 ≤ x0) (if (rd_ h x0 2) ≤ (rd_ h x0 3) then Tk_step_4 h x0 else ck_ (0 ≤ x0) (ck_ (0 ≤ x0) (ck_ (0 ≤ (rf_ h x0 1)) (ck_ (0 ≤ (rd_ h x0 3) ∧ (rd_ h x0 3) < ln_ h (rf_ h x0 1)) (if (rd_ h (rf_ h x0 1) (rd_ h x0 3)) = 10 then ck_ (0 ≤ x0) (ck_ (0 ≤ x0) (Tk_step (wr_ h x0 3 (w32 ((rd_ h x0 3) + 1))) x0)) else ck_ (0 ≤ x0) (ck_ (0 ≤ x0) (ck_ (0 ≤ (rf_ h x0 1)) (ck_ (0 ≤ (rd_ h x0 3) ∧ (rd_ h x0 3) < ln_ h (rf_ h x0 1)) (if (rd_ h (rf_ h x0 1) (rd_ h x0 3)) ≠ 32 then Tk_step_4 h x0 else ck_ (0 ≤ x0) (ck_ (0 ≤ x0) (Tk_step (wr_ h x0 3 (w32 ((rd_ h x0 3) + 1))) x0)))))))))))) := (ff_of bk_43_0 [(17, x0)] [] h).trans (by
  show (ck_ (0 ≤ x0) (ck_ (0 ≤ x0) (if (rd_ h x0 2) ≤ (rd_ h x0 3) then JJ 43 4 [(17, x0)] [] h else JJ 43 1 [(17, x0)] [] h))) = _
  simp only [jt_43_1, jt_43_4, ck_or1, ck_or2, rf_wr, ln_wr, nn_wr, rf_cp, ln_cp, nn_cp, ln_wf, nn_wf, rd_wf, nn_nw]
  try rfl)
theorem jt_43_13 (h : am_H) (d0 : am_V) : JJ 43 13 [d0] [] h = some (h, 0) := (jj_of bk_43_13 _ _ h).trans (ff_of bk_43_13 [(9, 0)] [] h)
theorem jt_43_12 (h : am_H) (x0 : Int) : JJ 43 12 [(17, x0)] [] h = ck_ (0 ≤ x0) (bd_ (Tk_stepSecondSign h x0) fun h1 _ => some (h1, 0)) := (jj_of bk_43_12 _ _ h).trans ((ff_of bk_43_12 [(17, x0)] [] h).trans (by
  show (ck_ (0 ≤ x0) (bd_ (CC 40 [(17, x0)] h) fun h1 _ => JJ 43 13 [(17, x0)] [] h1)) = _
  simp only [cc_40, jt_43_13, ck_or1, ck_or2, rf_wr, ln_wr, nn_wr, rf_cp, ln_cp, nn_cp, ln_wf, nn_wf, rd_wf, nn_nw]
  try rfl))
theorem jt_43_11 (h : am_H) (x0 : Int) : JJ 43 11 [(17, x0)] [] h = ck_ (0 ≤ x0) (if (rd_ h x0 4) ≠ 35 then some (h, 0) else ck_ (0 ≤ x0) (bd_ (Tk_stepSecondSign h x0) fun h1 _ => some (h1, 0))) := (jj_of bk_43_11 _ _ h).trans ((ff_of bk_43_11 [(17, x0)] [] h).trans (by
  show (ck_ (0 ≤ x0) (if (rd_ h x0 4) ≠ 35 then JJ 43 13 [(17, x0)] [] h else JJ 43 12 [(17, x0)] [] h)) = _
  simp only [jt_43_12, jt_43_13, ck_or1, ck_or2, rf_wr, ln_wr, nn_wr, rf_cp, ln_cp, nn_cp, ln_wf, nn_wf, rd_wf, nn_nw]
  try rfl))
set_option maxRecDepth 20000 in
theorem jt_43_10 (h : am_H) (x0 : Int) : JJ 43 10 [(17, x0)] [] h = ck_ (0 ≤ x0) (ck_ (0 ≤ x0) (ck_ (0 ≤ (rf_ h x0 1)) (ck_ (0 ≤ (rd_ h x0 3) ∧ (rd_ h x0 3) < ln_ h (rf_ h x0 1)) (bd_ (Tk_signKind h (rd_ h (rf_ h x0 1) (rd_ h x0 3))) fun h1 v2 => ck_ (0 ≤ x0) (ck_ (0 ≤ x0) (ck_ (0 ≤ x0) (ck_ (0 ≤ x0) (if (rd_ (wr_ (wr_ h1 x0 4 v2) x0 3 (w32 ((rd_ (wr_ h1 x0 4 v2) x0 3) + 1))) x0 4) = 30 then ck_ (0 ≤ x0) (bd_ (Tk_stepSecondSign (wr_ (wr_ h1 x0 4 v2) x0 3 (w32 ((rd_ (wr_ h1 x0 4 v2) x0 3) + 1))) x0) fun h3 _ => some (h3, 0)) else ck_ (0 ≤ x0) (if (rd_ (wr_ (wr_ h1 x0 4 v2) x0 3 (w32 ((rd_ (wr_ h1 x0 4 v2) x0 3) + 1))) x0 4) ≠ 35 then some (wr_ (wr_ h1 x0 4 v2) x0 3 (w32 ((rd_ (wr_ h1 x0 4 v2) x0 3) + 1)), 0) else ck_ (0 ≤ x0) (bd_ (Tk_stepSecondSign (wr_ (wr_ h1 x0 4 v2) x0 3 (w32 ((rd_ (wr_ h1 x0 4 v2) x0 3) + 1))) x0) fun h5 _ => some (h5, 0))))))))))) := (jj_of bk_43_10 _ _ h).trans ((ff_of bk_43_10 [(17, x0)] [] h).trans (by
  show (ck_ (0 ≤ x0) (ck_ (0 ≤ x0) (ck_ (0 ≤ (rf_ h x0 1)) (ck_ (0 ≤ (rd_ h x0 3) ∧ (rd_ h x0 3) < ln_ h (rf_ h x0 1)) (bd_ (CC 38 [(0, rd_ h (rf_ h x0 1) (rd_ h x0 3))] h) fun h1 v2 => ck_ (0 ≤ x0) (ck_ (0 ≤ x0) (ck_ (0 ≤ x0) (ck_ (0 ≤ x0) (if (rd_ (wr_ (wr_ h1 x0 4 v2) x0 3 (w32 ((rd_ (wr_ h1 x0 4 v2) x0 3) + 1))) x0 4) = 30 then JJ 43 12 [(17, x0)] [] (wr_ (wr_ h1 x0 4 v2) x0 3 (w32 ((rd_ (wr_ h1 x0 4 v2) x0 3) + 1))) else JJ 43 11 [(17, x0)] [] (wr_ (wr_ h1 x0 4 v2) x0 3 (w32 ((rd_ (wr_ h1 x0 4 v2) x0 3) + 1)))))))))))) = _
  simp only [cc_38, jt_43_11, jt_43_12, ck_or1, ck_or2, rf_wr, ln_wr, nn_wr, rf_cp, ln_cp, nn_cp, ln_wf, nn_wf, rd_wf, nn_nw]
  try rfl))
theorem jt_43_9 (h : am_H) (x0 : Int) : JJ 43 9 [(17, x0)] [] h = ck_ (0 ≤ x0) (bd_ (Tk_stepNumber h x0) fun h1 _ => some (h1, 0)) := (jj_of bk_43_9 _ _ h).trans ((ff_of bk_43_9 [(17, x0)] [] h).trans (by
  show (ck_ (0 ≤ x0) (bd_ (CC 39 [(17, x0)] h) fun h1 _ => JJ 43 13 [(17, x0)] [] h1)) = _
  simp only [cc_39, jt_43_13, ck_or1, ck_or2, rf_wr, ln_wr, nn_wr, rf_cp, ln_cp, nn_cp, ln_wf, nn_wf, rd_wf, nn_nw]
  try rfl))
set_option maxRecDepth 20000 in
theorem jt_43_8 (h : am_H) (x0 : Int) : JJ 43 8 [(17, x0)] [] h = ck_ (0 ≤ x0) (ck_ (0 ≤ x0) (bd_ (Tk_isDigit h x0 (rd_ h x0 3)) fun h1 v2 => if v2 = 0 then ck_ (0 ≤ x0) (ck_ (0 ≤ x0) (ck_ (0 ≤ (rf_ h1 x0 1)) (ck_ (0 ≤ (rd_ h1 x0 3) ∧ (rd_ h1 x0 3) < ln_ h1 (rf_ h1 x0 1)) (bd_ (Tk_signKind h1 (rd_ h1 (rf_ h1 x0 1) (rd_ h1 x0 3))) fun h3 v4 => ck_ (0 ≤ x0) (ck_ (0 ≤ x0) (ck_ (0 ≤ x0) (ck_ (0 ≤ x0) (if (rd_ (wr_ (wr_ h3 x0 4 v4) x0 3 (w32 ((rd_ (wr_ h3 x0 4 v4) x0 3) + 1))) x0 4) = 30 then ck_ (0 ≤ x0) (bd_ (Tk_stepSecondSign (wr_ (wr_ h3 x0 4 v4) x0 3 (w32 ((rd_ (wr_ h3 x0 4 v4) x0 3) + 1))) x0) fun h5 _ => some (h5, 0)) else ck_ (0 ≤ x0) (if (rd_ (wr_ (wr_ h3 x0 4 v4) x0 3 (w32 ((rd_ (wr_ h3 x0 4 v4) x0 3) + 1))) x0 4) ≠ 35 then some (wr_ (wr_ h3 x0 4 v4) x0 3 (w32 ((rd_ (wr_ h3 x0 4 v4) x0 3) + 1)), 0) else ck_ (0 ≤ x0) (bd_ (Tk_stepSecondSign (wr_ (wr_ h3 x0 4 v4) x0 3 (w32 ((rd_ (wr_ h3 x0 4 v4) x0 3) + 1))) x0) fun h7 _ => some (h7, 0))))))))))) else ck_ (0 ≤ x0) (bd_ (Tk_stepNumber h1 x0) fun h9 _ => some (h9, 0)))) := (jj_of bk_43_8 _ _ h).trans ((ff_of bk_43_8 [(17, x0)] [] h).trans (by
  show (ck_ (0 ≤ x0) (ck_ (0 ≤ x0) (bd_ (CC 36 [(17, x0), (0, rd_ h x0 3)] h) fun h1 v2 => if v2 = 0 then JJ 43 10 [(17, x0)] [] h1 else JJ 43 9 [(17, x0)] [] h1))) = _
  simp only [cc_36, jt_43_10, jt_43_9, ck_or1, ck_or2, rf_wr, ln_wr, nn_wr, rf_cp, ln_cp, nn_cp, ln_wf, nn_wf, rd_wf, nn_nw]
  try rfl))
theorem jt_43_7 (h : am_H) (x0 : Int) : JJ 43 7 [(17, x0)] [] h = ck_ (0 ≤ x0) (bd_ (Tk_stepWord h x0) fun h1 _ => some (h1, 0)) := (jj_of bk_43_7 _ _ h).trans ((ff_of bk_43_7 [(17, x0)] [] h).trans (by
  show (ck_ (0 ≤ x0) (bd_ (CC 42 [(17, x0)] h) fun h1 _ => JJ 43 13 [(17, x0)] [] h1)) = _
  simp only [cc_42, jt_43_13, ck_or1, ck_or2, rf_wr, ln_wr, nn_wr, rf_cp, ln_cp, nn_cp, ln_wf, nn_wf, rd_wf, nn_nw]
  try rfl))
set_option maxRecDepth 20000 in
theorem jt_43_6 (h : am_H) (x0 : Int) : JJ 43 6 [(17, x0)] [] h = ck_ (0 ≤ x0) (ck_ (0 ≤ x0) (bd_ (Tk_isLetter h x0 (rd_ h x0 3)) fun h1 v2 => if v2 = 0 then ck_ (0 ≤ x0) (ck_ (0 ≤ x0) (bd_ (Tk_isDigit h1 x0 (rd_ h1 x0 3)) fun h3 v4 => if v4 = 0 then ck_ (0 ≤ x0) (ck_ (0 ≤ x0) (ck_ (0 ≤ (rf_ h3 x0 1)) (ck_ (0 ≤ (rd_ h3 x0 3) ∧ (rd_ h3 x0 3) < ln_ h3 (rf_ h3 x0 1)) (bd_ (Tk_signKind h3 (rd_ h3 (rf_ h3 x0 1) (rd_ h3 x0 3))) fun h5 v6 => ck_ (0 ≤ x0) (ck_ (0 ≤ x0) (ck_ (0 ≤ x0) (ck_ (0 ≤ x0) (if (rd_ (wr_ (wr_ h5 x0 4 v6) x0 3 (w32 ((rd_ (wr_ h5 x0 4 v6) x0 3) + 1))) x0 4) = 30 then ck_ (0 ≤ x0) (bd_ (Tk_stepSecondSign (wr_ (wr_ h5 x0 4 v6) x0 3 (w32 ((rd_ (wr_ h5 x0 4 v6) x0 3) + 1))) x0) fun h7 _ => some (h7, 0)) else ck_ (0 ≤ x0) (if (rd_ (wr_ (wr_ h5 x0 4 v6) x0 3 (w32 ((rd_ (wr_ h5 x0 4 v6) x0 3) + 1))) x0 4) ≠ 35 then some (wr_ (wr_ h5 x0 4 v6) x0 3 (w32 ((rd_ (wr_ h5 x0 4 v6) x0 3) + 1)), 0) else ck_ (0 ≤ x0) (bd_ (Tk_stepSecondSign (wr_ (wr_ h5 x0 4 v6) x0 3 (w32 ((rd_ (wr_ h5 x0 4 v6) x0 3) + 1))) x0) fun h9 _ => some (h9, 0))))))))))) else ck_ (0 ≤ x0) (bd_ (Tk_stepNumber h3 x0) fun h11 _ => some (h11, 0)))) else ck_ (0 ≤ x0) (bd_ (Tk_stepWord h1 x0) fun h13 _ => some (h13, 0)))) := (jj_of bk_43_6 _ _ h).trans ((ff_of bk_43_6 [(17, x0)] [] h).trans (by
  show (ck_ (0 ≤ x0) (ck_ (0 ≤ x0) (bd_ (CC 37 [(17, x0), (0, rd_ h x0 3)] h) fun h1 v2 => if v2 = 0 then JJ 43 8 [(17, x0)] [] h1 else JJ 43 7 [(17, x0)] [] h1))) = _
  simp only [cc_37, jt_43_7, jt_43_8, ck_or1, ck_or2, rf_wr, ln_wr, nn_wr, rf_cp, ln_cp, nn_cp, ln_wf, nn_wf, rd_wf, nn_nw]
  try rfl))
theorem jt_43_5 (h : am_H) (x0 : Int) : JJ 43 5 [(17, x0)] [] h = ck_ (0 ≤ x0) (some (wr_ h x0 4 0, 0)) := (jj_of bk_43_5 _ _ h).trans ((ff_of bk_43_5 [(17, x0)] [] h).trans (by
  show (ck_ (0 ≤ x0) (JJ 43 13 [(17, x0)] [] (wr_ h x0 4 0))) = _
  simp only [jt_43_13, ck_or1, ck_or2, rf_wr, ln_wr, nn_wr, rf_cp, ln_cp, nn_cp, ln_wf, nn_wf, rd_wf, nn_nw]
  try rfl))
set_option maxRecDepth 20000 in
theorem Tk_step_4_e (h : am_H) (x0 : Int) : Tk_step_4 h x0 = ck_ (0 ≤ x0) (ck_ (0 ≤ x0) (ck_ (0 ≤ x0) (ck_ (0 ≤ x0) (ck_ (0 ≤ x0) (if (rd_ (wr_ (wr_ h x0 5 (rd_ h x0 3)) x0 6 0) x0 3) < (rd_ (wr_ (wr_ h x0 5 (rd_ h x0 3)) x0 6 0) x0 2) then ck_ (0 ≤ x0) (ck_ (0 ≤ x0) (bd_ (Tk_isLetter (wr_ (wr_ h x0 5 (rd_ h x0 3)) x0 6 0) x0 (rd_ (wr_ (wr_ h x0 5 (rd_ h x0 3)) x0 6 0) x0 3)) fun h1 v2 => if v2 = 0 then ck_ (0 ≤ x0) (ck_ (0 ≤ x0) (bd_ (Tk_isDigit h1 x0 (rd_ h1 x0 3)) fun h3 v4 => if v4 = 0 then ck_ (0 ≤ x0) (ck_ (0 ≤ x0) (ck_ (0 ≤ (rf_ h3 x0 1)) (ck_ (0 ≤ (rd_ h3 x0 3) ∧ (rd_ h3 x0 3) < ln_ h3 (rf_ h3 x0 1)) (bd_ (Tk_signKind h3 (rd_ h3 (rf_ h3 x0 1) (rd_ h3 x0 3))) fun h5 v6 => ck_ (0 ≤ x0) (ck_ (0 ≤ x0) (ck_ (0 ≤ x0) (ck_ (0 ≤ x0) (if (rd_ (wr_ (wr_ h5 x0 4 v6) x0 3 (w32 ((rd_ (wr_ h5 x0 4 v6) x0 3) + 1))) x0 4) = 30 then ck_ (0 ≤ x0) (bd_ (Tk_stepSecondSign (wr_ (wr_ h5 x0 4 v6) x0 3 (w32 ((rd_ (wr_ h5 x0 4 v6) x0 3) + 1))) x0) fun h7 _ => some (h7, 0)) else ck_ (0 ≤ x0) (if (rd_ (wr_ (wr_ h5 x0 4 v6) x0 3 (w32 ((rd_ (wr_ h5 x0 4 v6) x0 3) + 1))) x0 4) ≠ 35 then some (wr_ (wr_ h5 x0 4 v6) x0 3 (w32 ((rd_ (wr_ h5 x0 4 v6) x0 3) + 1)), 0) else ck_ (0 ≤ x0) (bd_ (Tk_stepSecondSign (wr_ (wr_ h5 x0 4 v6) x0 3 (w32 ((rd_ (wr_ h5 x0 4 v6) x0 3) + 1))) x0) fun h9 _ => some (h9, 0))))))))))) else ck_ (0 ≤ x0) (bd_ (Tk_stepNumber h3 x0) fun h11 _ => some (h11, 0)))) else ck_ (0 ≤ x0) (bd_ (Tk_stepWord h1 x0) fun h13 _ => some (h13, 0)))) else ck_ (0 ≤ x0) (some (wr_ (wr_ (wr_ h x0 5 (rd_ h x0 3)) x0 6 0) x0 4 0, 0))))))) := (ff_of bk_43_4 [(17, x0)] [] h).trans (by
  show (ck_ (0 ≤ x0) (ck_ (0 ≤ x0) (ck_ (0 ≤ x0) (ck_ (0 ≤ x0) (ck_ (0 ≤ x0) (if (rd_ (wr_ (wr_ h x0 5 (rd_ h x0 3)) x0 6 0) x0 3) < (rd_ (wr_ (wr_ h x0 5 (rd_ h x0 3)) x0 6 0) x0 2) then JJ 43 6 [(17, x0)] [] (wr_ (wr_ h x0 5 (rd_ h x0 3)) x0 6 0) else JJ 43 5 [(17, x0)] [] (wr_ (wr_ h x0 5 (rd_ h x0 3)) x0 6 0))))))) = _
  simp only [jt_43_5, jt_43_6, ck_or1, ck_or2, rf_wr, ln_wr, nn_wr, rf_cp, ln_cp, nn_cp, ln_wf, nn_wf, rd_wf, nn_nw]
  try rfl)
theorem cc_43 (h : am_H) (x0 : Int) : CC 43 [(17, x0)] h = Tk_step h x0 := cc_of pk_43 _ h
theorem pk_44 : am_prog 44 = some cd_44 := rfl
theorem bk_44_0 : bk_ am_prog 44 0 = some ([true, true, true, false, false], (bl_44_0, 1)) := bk_of pk_44 rfl
theorem bk_44_1 : bk_ am_prog 44 1 = some ([true, false, false, true, false], (bl_44_1, 9999)) := bk_of pk_44 rfl
theorem bk_44_2 : bk_ am_prog 44 2 = some ([true, false, false, true, false], (bl_44_2, 9999)) := bk_of pk_44 rfl
theorem bk_44_3 : bk_ am_prog 44 3 = some ([true, false, false, true, false], (bl_44_3, 9999)) := bk_of pk_44 rfl
theorem bk_44_4 : bk_ am_prog 44 4 = some ([true, false, false, true, false], (bl_44_4, 9999)) := bk_of pk_44 rfl
theorem bk_44_5 : bk_ am_prog 44 5 = some ([true, false, false, false, false], (bl_44_5, 9999)) := bk_of pk_44 rfl
theorem bk_44_6 : bk_ am_prog 44 6 = some ([true, false, false, true, false], (bl_44_6, 9999)) := bk_of pk_44 rfl
theorem bk_44_7 : bk_ am_prog 44 7 = some ([true, false, false, true, false], (bl_44_7, 9999)) := bk_of pk_44 rfl
theorem bk_44_8 : bk_ am_prog 44 8 = some ([true, false, false, true, false], (bl_44_8, 9)) := bk_of pk_44 rfl
theorem bk_44_9 : bk_ am_prog 44 9 = some ([true, false, false, true, false], (bl_44_9, 9999)) := bk_of pk_44 rfl
theorem bk_44_10 : bk_ am_prog 44 10 = some ([false, false, false, false, true], (bl_44_10, 9999)) := bk_of pk_44 rfl
theorem bk_44_11 : bk_ am_prog 44 11 = some ([true, false, false, true, false], (bl_44_11, 9999)) := bk_of pk_44 rfl
theorem bk_44_12 : bk_ am_prog 44 12 = some ([false, false, false, false, false], (bl_44_12, 9999)) := bk_of pk_44 rfl
theorem jt_44_1 (h : am_H) (d1 d2 d4 : am_V) (x0 x3 : Int) : JJ 44 1 [(12, x0), d1, d2, (0, x3), d4] [] h = Fo_read_1 h x0 x3 := jj_of bk_44_1 _ _ h
theorem jt_44_6 (h : am_H) (d1 d2 d4 : am_V) (x0 x3 : Int) : JJ 44 6 [(12, x0), d1, d2, (0, x3), d4] [] h = Fo_read_6 h x0 x3 := jj_of bk_44_6 _ _ h
set_option maxRecDepth 20000 in
theorem Fo_read_e (h : am_H) (x0 x1 x2 : Int) : Fo_read h x0 x1 x2 = ck_ (0 ≤ x0) (ck_ (0 ≤ x0) (ck_ (0 ≤ x0) (ck_ (0 ≤ x0) (ck_ (0 ≤ x0) (ck_ (0 ≤ (rf_ (wf_ (wf_ h x0 1 x1) x0 2 x2) x0 2)) (ck_ (0 ≤ x0) (ck_ (0 ≤ x0) (ck_ (0 ≤ (rf_ (wf_ (wf_ h x0 1 x1) x0 2 x2) x0 2)) (ck_ (0 ≤ x0) (ck_ (0 ≤ x0) (ck_ (0 ≤ x0) (Fo_read_1 (wr_ (wr_ (wr_ (wr_ (wr_ (wr_ (wf_ (wf_ h x0 1 x1) x0 2 x2) x0 3 0) x0 4 0) x0 5 (rd_ (wr_ (wr_ (wf_ (wf_ h x0 1 x1) x0 2 x2) x0 3 0) x0 4 0) (rf_ (wf_ (wf_ h x0 1 x1) x0 2 x2) x0 2) 3)) x0 6 (rd_ (wr_ (wr_ (wr_ (wf_ (wf_ h x0 1 x1) x0 2 x2) x0 3 0) x0 4 0) x0 5 (rd_ (wr_ (wr_ (wf_ (wf_ h x0 1 x1) x0 2 x2) x0 3 0) x0 4 0) (rf_ (wf_ (wf_ h x0 1 x1) x0 2 x2) x0 2) 3)) (rf_ (wf_ (wf_ h x0 1 x1) x0 2 x2) x0 2) 3)) x0 7 1) x0 8 1) x0 0)))))))))))) := (ff_of bk_44_0 [(12, x0), (17, x1), (18, x2), (9, 0), (9, 0)] [] h).trans (by
  show (ck_ (0 ≤ x0) (ck_ (0 ≤ x0) (ck_ (0 ≤ x0) (ck_ (0 ≤ x0) (ck_ (0 ≤ x0) (ck_ (0 ≤ (rf_ (wf_ (wf_ h x0 1 x1) x0 2 x2) x0 2)) (ck_ (0 ≤ x0) (ck_ (0 ≤ x0) (ck_ (0 ≤ (rf_ (wf_ (wf_ h x0 1 x1) x0 2 x2) x0 2)) (ck_ (0 ≤ x0) (ck_ (0 ≤ x0) (ck_ (0 ≤ x0) (JJ 44 1 [(12, x0), (17, x1), (18, x2), (0, 0), (9, 0)] [] (wr_ (wr_ (wr_ (wr_ (wr_ (wr_ (wf_ (wf_ h x0 1 x1) x0 2 x2) x0 3 0) x0 4 0) x0 5 (rd_ (wr_ (wr_ (wf_ (wf_ h x0 1 x1) x0 2 x2) x0 3 0) x0 4 0) (rf_ (wf_ (wf_ h x0 1 x1) x0 2 x2) x0 2) 3)) x0 6 (rd_ (wr_ (wr_ (wr_ (wf_ (wf_ h x0 1 x1) x0 2 x2) x0 3 0) x0 4 0) x0 5 (rd_ (wr_ (wr_ (wf_ (wf_ h x0 1 x1) x0 2 x2) x0 3 0) x0 4 0) (rf_ (wf_ (wf_ h x0 1 x1) x0 2 x2) x0 2) 3)) (rf_ (wf_ (wf_ h x0 1 x1) x0 2 x2) x0 2) 3)) x0 7 1) x0 8 1)))))))))))))) = _
  simp only [jt_44_1, ck_or1, ck_or2, rf_wr, ln_wr, nn_wr, rf_cp, ln_cp, nn_cp, ln_wf, nn_wf, rd_wf, nn_nw]
  try rfl)
theorem jt_44_12 (h : am_H) (d0 d1 d2 d3 d4 : am_V) : JJ 44 12 [d0, d1, d2, d3, d4] [] h = some (h, 1) := (jj_of bk_44_12 _ _ h).trans (ff_of bk_44_12 [(9, 0), (9, 0), (9, 0), (9, 0), (9, 0)] [] h)
theorem jt_44_5 (h : am_H) (d1 d2 d3 d4 : am_V) (x0 : Int) : JJ 44 5 [(12, x0), d1, d2, d3, d4] [] h = ck_ (0 ≤ x0) (bd_ (Fo_putDown h x0 1) fun h1 _ => ck_ (0 ≤ x0) (ck_ (0 ≤ x0) (ck_ (0 ≤ (rf_ h1 x0 2)) (some (wr_ h1 (rf_ h1 x0 2) 3 (rd_ h1 x0 6), 0))))) := (jj_of bk_44_5 _ _ h).trans ((ff_of bk_44_5 [(12, x0), (9, 0), (9, 0), (9, 0), (9, 0)] [] h).trans (by
  show (ck_ (0 ≤ x0) (bd_ (CC 32 [(12, x0), (0, 1)] h) fun h1 _ => ck_ (0 ≤ x0) (ck_ (0 ≤ x0) (ck_ (0 ≤ (rf_ h1 x0 2)) (some (wr_ h1 (rf_ h1 x0 2) 3 (rd_ h1 x0 6), 0)))))) = _
  simp only [cc_32, ck_or1, ck_or2, rf_wr, ln_wr, nn_wr, rf_cp, ln_cp, nn_cp, ln_wf, nn_wf, rd_wf, nn_nw]
  try rfl))
theorem jt_44_4 (h : am_H) (d1 d2 d4 : am_V) (x0 x3 : Int) : JJ 44 4 [(12, x0), d1, d2, (0, x3), d4] [] h = ck_ (0 ≤ x0) (ck_ (0 ≤ (rf_ h x0 1)) (if (rd_ h (rf_ h x0 1) 4) ≠ 42 then Fo_read_6 h x0 x3 else ck_ (0 ≤ x0) (bd_ (Fo_putDown h x0 1) fun h1 _ => ck_ (0 ≤ x0) (ck_ (0 ≤ x0) (ck_ (0 ≤ (rf_ h1 x0 2)) (some (wr_ h1 (rf_ h1 x0 2) 3 (rd_ h1 x0 6), 0))))))) := (jj_of bk_44_4 _ _ h).trans ((ff_of bk_44_4 [(12, x0), (9, 0), (9, 0), (0, x3), (9, 0)] [] h).trans (by
  show (ck_ (0 ≤ x0) (ck_ (0 ≤ (rf_ h x0 1)) (if (rd_ h (rf_ h x0 1) 4) ≠ 42 then JJ 44 6 [(12, x0), (9, 0), (9, 0), (0, x3), (9, 0)] [] h else JJ 44 5 [(12, x0), (9, 0), (9, 0), (0, x3), (9, 0)] [] h))) = _
  simp only [jt_44_5, jt_44_6, ck_or1, ck_or2, rf_wr, ln_wr, nn_wr, rf_cp, ln_cp, nn_cp, ln_wf, nn_wf, rd_wf, nn_nw]
  try rfl))
theorem jt_44_3 (h : am_H) (d1 d2 d4 : am_V) (x0 x3 : Int) : JJ 44 3 [(12, x0), d1, d2, (0, x3), d4] [] h = ck_ (0 ≤ x0) (if (rd_ h x0 4) ≠ 0 then Fo_read_6 h x0 x3 else ck_ (0 ≤ x0) (ck_ (0 ≤ (rf_ h x0 1)) (if (rd_ h (rf_ h x0 1) 4) ≠ 42 then Fo_read_6 h x0 x3 else ck_ (0 ≤ x0) (bd_ (Fo_putDown h x0 1) fun h1 _ => ck_ (0 ≤ x0) (ck_ (0 ≤ x0) (ck_ (0 ≤ (rf_ h1 x0 2)) (some (wr_ h1 (rf_ h1 x0 2) 3 (rd_ h1 x0 6), 0)))))))) := (jj_of bk_44_3 _ _ h).trans ((ff_of bk_44_3 [(12, x0), (9, 0), (9, 0), (0, x3), (9, 0)] [] h).trans (by
  show (ck_ (0 ≤ x0) (if (rd_ h x0 4) ≠ 0 then JJ 44 6 [(12, x0), (9, 0), (9, 0), (0, x3), (9, 0)] [] h else JJ 44 4 [(12, x0), (9, 0), (9, 0), (0, x3), (9, 0)] [] h)) = _
  simp only [jt_44_4, jt_44_6, ck_or1, ck_or2, rf_wr, ln_wr, nn_wr, rf_cp, ln_cp, nn_cp, ln_wf, nn_wf, rd_wf, nn_nw]
  try rfl))
theorem jt_44_2 (h : am_H) (d1 d2 d4 : am_V) (x0 x3 : Int) : JJ 44 2 [(12, x0), d1, d2, (0, x3), d4] [] h = ck_ (0 ≤ x0) (ck_ (0 ≤ (rf_ h x0 1)) (bd_ (Tk_step h (rf_ h x0 1)) fun h1 _ => ck_ (0 ≤ x0) (if (rd_ h1 x0 7) ≠ 0 then Fo_read_6 h1 x0 x3 else ck_ (0 ≤ x0) (if (rd_ h1 x0 4) ≠ 0 then Fo_read_6 h1 x0 x3 else ck_ (0 ≤ x0) (ck_ (0 ≤ (rf_ h1 x0 1)) (if (rd_ h1 (rf_ h1 x0 1) 4) ≠ 42 then Fo_read_6 h1 x0 x3 else ck_ (0 ≤ x0) (bd_ (Fo_putDown h1 x0 1) fun h3 _ => ck_ (0 ≤ x0) (ck_ (0 ≤ x0) (ck_ (0 ≤ (rf_ h3 x0 2)) (some (wr_ h3 (rf_ h3 x0 2) 3 (rd_ h3 x0 6), 0))))))))))) := (jj_of bk_44_2 _ _ h).trans ((ff_of bk_44_2 [(12, x0), (9, 0), (9, 0), (0, x3), (9, 0)] [] h).trans (by
  show (ck_ (0 ≤ x0) (ck_ (0 ≤ (rf_ h x0 1)) (bd_ (CC 43 [(17, rf_ h x0 1)] h) fun h1 _ => ck_ (0 ≤ x0) (if (rd_ h1 x0 7) ≠ 0 then JJ 44 6 [(12, x0), (9, 0), (9, 0), (0, x3), (9, 0)] [] h1 else JJ 44 3 [(12, x0), (9, 0), (9, 0), (0, x3), (9, 0)] [] h1)))) = _
  simp only [cc_43, jt_44_3, jt_44_6, ck_or1, ck_or2, rf_wr, ln_wr, nn_wr, rf_cp, ln_cp, nn_cp, ln_wf, nn_wf, rd_wf, nn_nw]
  try rfl))
theorem Fo_read_1_e (h : am_H) (x0 x3 : Int) : Fo_read_1 h x0 x3 = if 700 < x3 then some (h, 1) else ck_ (0 ≤ x0) (ck_ (0 ≤ (rf_ h x0 1)) (bd_ (Tk_step h (rf_ h x0 1)) fun h1 _ => ck_ (0 ≤ x0) (if (rd_ h1 x0 7) ≠ 0 then Fo_read_6 h1 x0 x3 else ck_ (0 ≤ x0) (if (rd_ h1 x0 4) ≠ 0 then Fo_read_6 h1 x0 x3 else ck_ (0 ≤ x0) (ck_ (0 ≤ (rf_ h1 x0 1)) (if (rd_ h1 (rf_ h1 x0 1) 4) ≠ 42 then Fo_read_6 h1 x0 x3 else ck_ (0 ≤ x0) (bd_ (Fo_putDown h1 x0 1) fun h3 _ => ck_ (0 ≤ x0) (ck_ (0 ≤ x0) (ck_ (0 ≤ (rf_ h3 x0 2)) (some (wr_ h3 (rf_ h3 x0 2) 3 (rd_ h3 x0 6), 0))))))))))) := (ff_of bk_44_1 [(12, x0), (9, 0), (9, 0), (0, x3), (9, 0)] [] h).trans (by
  show (if 700 < x3 then JJ 44 12 [(12, x0), (9, 0), (9, 0), (0, x3), (9, 0)] [] h else JJ 44 2 [(12, x0), (9, 0), (9, 0), (0, x3), (9, 0)] [] h) = _
  simp only [jt_44_12, jt_44_2, ck_or1, ck_or2, rf_wr, ln_wr, nn_wr, rf_cp, ln_cp, nn_cp, ln_wf, nn_wf, rd_wf, nn_nw]
  try rfl)
theorem jt_44_11 (h : am_H) (d1 d2 d4 : am_V) (x0 x3 : Int) : JJ 44 11 [(12, x0), d1, d2, (0, x3), d4] [] h = Fo_read_1 h x0 (w32 (x3 + 1)) := (jj_of bk_44_11 _ _ h).trans ((ff_of bk_44_11 [(12, x0), (9, 0), (9, 0), (0, x3), (9, 0)] [] h).trans (by
  show (JJ 44 1 [(12, x0), (9, 0), (9, 0), (0, w32 (x3 + 1)), (9, 0)] [] h) = _
  simp only [jt_44_1, ck_or1, ck_or2, rf_wr, ln_wr, nn_wr, rf_cp, ln_cp, nn_cp, ln_wf, nn_wf, rd_wf, nn_nw]
  try rfl))
theorem jt_44_10 (h : am_H) (d0 d1 d2 d3 : am_V) (x4 : Int) : JJ 44 10 [d0, d1, d2, d3, (0, x4)] [] h = some (h, x4) := (jj_of bk_44_10 _ _ h).trans (ff_of bk_44_10 [(9, 0), (9, 0), (9, 0), (9, 0), (0, x4)] [] h)
theorem jt_44_9 (h : am_H) (d1 d2 d4 : am_V) (x0 x3 s0 : Int) : JJ 44 9 [(12, x0), d1, d2, (0, x3), d4] [(0, s0)] h = if s0 = 0 then Fo_read_1 h x0 (w32 (x3 + 1)) else some (h, s0) := (jj_of bk_44_9 _ _ h).trans ((ff_of bk_44_9 [(12, x0), (9, 0), (9, 0), (0, x3), (9, 0)] [(0, s0)] h).trans (by
  show (if s0 = 0 then JJ 44 11 [(12, x0), (9, 0), (9, 0), (0, x3), (0, s0)] [] h else JJ 44 10 [(12, x0), (9, 0), (9, 0), (0, x3), (0, s0)] [] h) = _
  simp only [jt_44_10, jt_44_11, ck_or1, ck_or2, rf_wr, ln_wr, nn_wr, rf_cp, ln_cp, nn_cp, ln_wf, nn_wf, rd_wf, nn_nw]
  try rfl))
theorem jt_44_8 (h : am_H) (d1 d2 d4 : am_V) (x0 x3 : Int) : JJ 44 8 [(12, x0), d1, d2, (0, x3), d4] [] h = ck_ (0 ≤ x0) (bd_ (Fo_takeJoint h x0) fun h1 v2 => if v2 = 0 then Fo_read_1 h1 x0 (w32 (x3 + 1)) else some (h1, v2)) := (jj_of bk_44_8 _ _ h).trans ((ff_of bk_44_8 [(12, x0), (9, 0), (9, 0), (0, x3), (9, 0)] [] h).trans (by
  show (ck_ (0 ≤ x0) (bd_ (CC 34 [(12, x0)] h) fun h1 v2 => JJ 44 9 [(12, x0), (9, 0), (9, 0), (0, x3), (9, 0)] [(0, v2)] h1)) = _
  simp only [cc_34, jt_44_9, ck_or1, ck_or2, rf_wr, ln_wr, nn_wr, rf_cp, ln_cp, nn_cp, ln_wf, nn_wf, rd_wf, nn_nw]
  try rfl))
theorem jt_44_7 (h : am_H) (d1 d2 d4 : am_V) (x0 x3 : Int) : JJ 44 7 [(12, x0), d1, d2, (0, x3), d4] [] h = ck_ (0 ≤ x0) (bd_ (Fo_takePart h x0) fun h1 v2 => if v2 = 0 then Fo_read_1 h1 x0 (w32 (x3 + 1)) else some (h1, v2)) := (jj_of bk_44_7 _ _ h).trans ((ff_of bk_44_7 [(12, x0), (9, 0), (9, 0), (0, x3), (9, 0)] [] h).trans (by
  show (ck_ (0 ≤ x0) (bd_ (CC 35 [(12, x0)] h) fun h1 v2 => JJ 44 9 [(12, x0), (9, 0), (9, 0), (0, x3), (9, 0)] [(0, v2)] h1)) = _
  simp only [cc_35, jt_44_9, ck_or1, ck_or2, rf_wr, ln_wr, nn_wr, rf_cp, ln_cp, nn_cp, ln_wf, nn_wf, rd_wf, nn_nw]
  try rfl))
theorem Fo_read_6_e (h : am_H) (x0 x3 : Int) : Fo_read_6 h x0 x3 = ck_ (0 ≤ x0) (if (rd_ h x0 7) = 0 then ck_ (0 ≤ x0) (bd_ (Fo_takeJoint h x0) fun h1 v2 => if v2 = 0 then Fo_read_1 h1 x0 (w32 (x3 + 1)) else some (h1, v2)) else ck_ (0 ≤ x0) (bd_ (Fo_takePart h x0) fun h3 v4 => if v4 = 0 then Fo_read_1 h3 x0 (w32 (x3 + 1)) else some (h3, v4))) := (ff_of bk_44_6 [(12, x0), (9, 0), (9, 0), (0, x3), (9, 0)] [] h).trans (by
  show (ck_ (0 ≤ x0) (if (rd_ h x0 7) = 0 then JJ 44 8 [(12, x0), (9, 0), (9, 0), (0, x3), (9, 0)] [] h else JJ 44 7 [(12, x0), (9, 0), (9, 0), (0, x3), (9, 0)] [] h)) = _
  simp only [jt_44_7, jt_44_8, ck_or1, ck_or2, rf_wr, ln_wr, nn_wr, rf_cp, ln_cp, nn_cp, ln_wf, nn_wf, rd_wf, nn_nw]
  try rfl)
theorem cc_44 (h : am_H) (x0 x1 x2 : Int) : CC 44 [(12, x0), (17, x1), (18, x2)] h = Fo_read h x0 x1 x2 := cc_of pk_44 _ h
theorem pk_45 : am_prog 45 = some cd_45 := rfl
theorem bk_45_0 : bk_ am_prog 45 0 = some ([true], (bl_45_0, 9999)) := bk_of pk_45 rfl
theorem La_new_e (h : am_H) (x0 : Int) : La_new h x0 = ck_ (0 ≤ x0) (ck_ (0 ≤ (64 : Int) ∧ (64 : Int) ≤ 1000000) (ck_ (0 ≤ x0) (ck_ (0 ≤ x0) (ck_ (0 ≤ x0) (some (wf_ (wf_ (wf_ (nw_ h 23 64) x0 0 (nn_ h)) x0 1 (-1)) x0 2 (-1), 0)))))) := ff_of bk_45_0 [(13, x0)] [] h
theorem cc_45 (h : am_H) (x0 : Int) : CC 45 [(13, x0)] h = La_new h x0 := cc_of pk_45 _ h
theorem pk_46 : am_prog 46 = some cd_46 := rfl
theorem bk_46_0 : bk_ am_prog 46 0 = some ([true, true, true, true, true, true], (bl_46_0, 9999)) := bk_of pk_46 rfl
theorem La_lookAt_e (h : am_H) (x0 x1 x2 x3 x4 x5 : Int) : La_lookAt h x0 x1 x2 x3 x4 x5 = ck_ (0 ≤ x0) (ck_ (0 ≤ x0) (ck_ (0 ≤ x0) (ck_ (0 ≤ x0) (ck_ (0 ≤ x0) (some (wr_ (wr_ (wr_ (wf_ (wf_ h x0 1 x1) x0 2 x2) x0 3 x3) x0 4 x4) x0 5 x5, 0)))))) := ff_of bk_46_0 [(13, x0), (18, x1), (20, x2), (0, x3), (0, x4), (0, x5)] [] h
theorem cc_46 (h : am_H) (x0 x1 x2 x3 x4 x5 : Int) : CC 46 [(13, x0), (18, x1), (20, x2), (0, x3), (0, x4), (0, x5)] h = La_lookAt h x0 x1 x2 x3 x4 x5 := cc_of pk_46 _ h
theorem pk_47 : am_prog 47 = some cd_47 := rfl
theorem bk_47_0 : bk_ am_prog 47 0 = some ([true, true, false], (bl_47_0, 9999)) := bk_of pk_47 rfl
theorem bk_47_1 : bk_ am_prog 47 1 = some ([true, true, false], (bl_47_1, 9999)) := bk_of pk_47 rfl
theorem bk_47_2 : bk_ am_prog 47 2 = some ([true, false, false], (bl_47_2, 9999)) := bk_of pk_47 rfl
theorem bk_47_3 : bk_ am_prog 47 3 = some ([false, true, false], (bl_47_3, 9999)) := bk_of pk_47 rfl
theorem jt_47_2 (h : am_H) (d1 d2 : am_V) (x0 : Int) : JJ 47 2 [(13, x0), d1, d2] [] h = ck_ (0 ≤ x0) (some (wr_ h x0 6 1, 0)) := (jj_of bk_47_2 _ _ h).trans (ff_of bk_47_2 [(13, x0), (9, 0), (9, 0)] [] h)
theorem jt_47_3 (h : am_H) (d0 d2 : am_V) (x1 : Int) : JJ 47 3 [d0, (1, x1), d2] [] h = some (h, x1) := (jj_of bk_47_3 _ _ h).trans (ff_of bk_47_3 [(9, 0), (1, x1), (9, 0)] [] h)
theorem jt_47_1 (h : am_H) (d2 : am_V) (x0 x1 : Int) : JJ 47 1 [(13, x0), (1, x1), d2] [] h = if 0 ≤ (lcm_ x1 (-1000000000000)) then some (h, x1) else ck_ (0 ≤ x0) (some (wr_ h x0 6 1, 0)) := (jj_of bk_47_1 _ _ h).trans ((ff_of bk_47_1 [(13, x0), (1, x1), (9, 0)] [] h).trans (by
  show (if 0 ≤ (lcm_ x1 (-1000000000000)) then JJ 47 3 [(13, x0), (1, x1), (9, 0)] [] h else JJ 47 2 [(13, x0), (1, x1), (9, 0)] [] h) = _
  simp only [jt_47_2, jt_47_3, ck_or1, ck_or2, rf_wr, ln_wr, nn_wr, rf_cp, ln_cp, nn_cp, ln_wf, nn_wf, rd_wf, nn_nw]
  try rfl))
theorem La_inBounds_e (h : am_H) (x0 x1 : Int) : La_inBounds h x0 x1 = if 0 < (lcm_ x1 1000000000000) then ck_ (0 ≤ x0) (some (wr_ h x0 6 1, 0)) else if 0 ≤ (lcm_ x1 (-1000000000000)) then some (h, x1) else ck_ (0 ≤ x0) (some (wr_ h x0 6 1, 0)) := (ff_of bk_47_0 [(13, x0), (1, x1), (9, 0)] [] h).trans (by
  show (if 0 < (lcm_ x1 1000000000000) then JJ 47 2 [(13, x0), (1, x1), (9, 0)] [] h else JJ 47 1 [(13, x0), (1, x1), (9, 0)] [] h) = _
  simp only [jt_47_1, jt_47_2, ck_or1, ck_or2, rf_wr, ln_wr, nn_wr, rf_cp, ln_cp, nn_cp, ln_wf, nn_wf, rd_wf, nn_nw]
  try rfl)
theorem cc_47 (h : am_H) (x0 x1 : Int) : CC 47 [(13, x0), (1, x1)] h = La_inBounds h x0 x1 := cc_of pk_47 _ h
theorem pk_48 : am_prog 48 = some cd_48 := rfl
theorem bk_48_0 : bk_ am_prog 48 0 = some ([true, true, false, true, false], (bl_48_0, 9999)) := bk_of pk_48 rfl
theorem bk_48_1 : bk_ am_prog 48 1 = some ([true, true, false, true, false], (bl_48_1, 9999)) := bk_of pk_48 rfl
theorem bk_48_2 : bk_ am_prog 48 2 = some ([true, false, false, false, false], (bl_48_2, 9999)) := bk_of pk_48 rfl
theorem bk_48_3 : bk_ am_prog 48 3 = some ([false, true, false, true, false], (bl_48_3, 9999)) := bk_of pk_48 rfl
theorem jt_48_3 (h : am_H) (d0 d2 d4 : am_V) (x1 x3 : Int) : JJ 48 3 [d0, (1, x1), d2, (1, x3), d4] [] h = some (h, w64 (x1 * x3)) := (jj_of bk_48_3 _ _ h).trans (ff_of bk_48_3 [(9, 0), (1, x1), (9, 0), (1, x3), (9, 0)] [] h)
theorem jt_48_2 (h : am_H) (d1 d2 d3 d4 : am_V) (x0 : Int) : JJ 48 2 [(13, x0), d1, d2, d3, d4] [] h = ck_ (0 ≤ x0) (some (wr_ h x0 6 1, 0)) := (jj_of bk_48_2 _ _ h).trans (ff_of bk_48_2 [(13, x0), (9, 0), (9, 0), (9, 0), (9, 0)] [] h)
theorem jt_48_1 (h : am_H) (d2 d4 : am_V) (x0 x1 x3 : Int) : JJ 48 1 [(13, x0), (1, x1), d2, (1, x3), d4] [] h = ck_ ((if 0 < x3 then x3 else w64 (-x3)) ≠ 0) (if (lcm_ (if 0 < x1 then x1 else w64 (-x1)) (w64 (Int.tdiv 1000000000000 (if 0 < x3 then x3 else w64 (-x3))))) ≤ 0 then some (h, w64 (x1 * x3)) else ck_ (0 ≤ x0) (some (wr_ h x0 6 1, 0))) := (jj_of bk_48_1 _ _ h).trans ((ff_of bk_48_1 [(13, x0), (1, x1), (9, 0), (1, x3), (9, 0)] [] h).trans (by
  show (ck_ ((if 0 < x3 then x3 else w64 (-x3)) ≠ 0) (if (lcm_ (if 0 < x1 then x1 else w64 (-x1)) (w64 (Int.tdiv 1000000000000 (if 0 < x3 then x3 else w64 (-x3))))) ≤ 0 then JJ 48 3 [(13, x0), (1, x1), (9, 0), (1, x3), (9, 0)] [] h else JJ 48 2 [(13, x0), (1, x1), (9, 0), (1, x3), (9, 0)] [] h)) = _
  simp only [jt_48_2, jt_48_3, ck_or1, ck_or2, rf_wr, ln_wr, nn_wr, rf_cp, ln_cp, nn_cp, ln_wf, nn_wf, rd_wf, nn_nw]
  try rfl))
theorem La_product_e (h : am_H) (x0 x1 x3 : Int) : La_product h x0 x1 x3 = if (lcm_ x3 0) = 0 then some (h, w64 (x1 * x3)) else ck_ ((if 0 < x3 then x3 else w64 (-x3)) ≠ 0) (if (lcm_ (if 0 < x1 then x1 else w64 (-x1)) (w64 (Int.tdiv 1000000000000 (if 0 < x3 then x3 else w64 (-x3))))) ≤ 0 then some (h, w64 (x1 * x3)) else ck_ (0 ≤ x0) (some (wr_ h x0 6 1, 0))) := (ff_of bk_48_0 [(13, x0), (1, x1), (9, 0), (1, x3), (9, 0)] [] h).trans (by
  show (if (lcm_ x3 0) = 0 then JJ 48 3 [(13, x0), (1, x1), (9, 0), (1, x3), (9, 0)] [] h else JJ 48 1 [(13, x0), (1, x1), (9, 0), (1, x3), (9, 0)] [] h) = _
  simp only [jt_48_1, jt_48_3, ck_or1, ck_or2, rf_wr, ln_wr, nn_wr, rf_cp, ln_cp, nn_cp, ln_wf, nn_wf, rd_wf, nn_nw]
  try rfl)
theorem cc_48 (h : am_H) (x0 x1 x3 : Int) : CC 48 [(13, x0), (1, x1), (1, x3)] h = La_product h x0 x1 x3 := cc_of pk_48 _ h
theorem pk_49 : am_prog 49 = some cd_49 := rfl
theorem bk_49_0 : bk_ am_prog 49 0 = some ([true, true, false, true, false], (bl_49_0, 9999)) := bk_of pk_49 rfl
theorem bk_49_1 : bk_ am_prog 49 1 = some ([true, false, false, false, false], (bl_49_1, 9999)) := bk_of pk_49 rfl
theorem bk_49_2 : bk_ am_prog 49 2 = some ([false, true, false, true, false], (bl_49_2, 9999)) := bk_of pk_49 rfl
theorem jt_49_2 (h : am_H) (d0 d2 d4 : am_V) (x1 x3 : Int) : JJ 49 2 [d0, (1, x1), d2, (1, x3), d4] [] h = ck_ (x3 ≠ 0) (some (h, w64 (Int.tdiv x1 x3))) := (jj_of bk_49_2 _ _ h).trans (ff_of bk_49_2 [(9, 0), (1, x1), (9, 0), (1, x3), (9, 0)] [] h)
theorem jt_49_1 (h : am_H) (d1 d2 d3 d4 : am_V) (x0 : Int) : JJ 49 1 [(13, x0), d1, d2, d3, d4] [] h = ck_ (0 ≤ x0) (some (wr_ h x0 6 1, 0)) := (jj_of bk_49_1 _ _ h).trans (ff_of bk_49_1 [(13, x0), (9, 0), (9, 0), (9, 0), (9, 0)] [] h)
theorem La_quotient_e (h : am_H) (x0 x1 x3 : Int) : La_quotient h x0 x1 x3 = if (lcm_ x3 0) ≠ 0 then ck_ (x3 ≠ 0) (some (h, w64 (Int.tdiv x1 x3))) else ck_ (0 ≤ x0) (some (wr_ h x0 6 1, 0)) := (ff_of bk_49_0 [(13, x0), (1, x1), (9, 0), (1, x3), (9, 0)] [] h).trans (by
  show (if (lcm_ x3 0) ≠ 0 then JJ 49 2 [(13, x0), (1, x1), (9, 0), (1, x3), (9, 0)] [] h else JJ 49 1 [(13, x0), (1, x1), (9, 0), (1, x3), (9, 0)] [] h) = _
  simp only [jt_49_1, jt_49_2, ck_or1, ck_or2, rf_wr, ln_wr, nn_wr, rf_cp, ln_cp, nn_cp, ln_wf, nn_wf, rd_wf, nn_nw]
  try rfl)
theorem cc_49 (h : am_H) (x0 x1 x3 : Int) : CC 49 [(13, x0), (1, x1), (1, x3)] h = La_quotient h x0 x1 x3 := cc_of pk_49 _ h
theorem pk_50 : am_prog 50 = some cd_50 := rfl
theorem bk_50_0 : bk_ am_prog 50 0 = some ([true], (bl_50_0, 9999)) := bk_of pk_50 rfl
theorem bk_50_1 : bk_ am_prog 50 1 = some ([false], (bl_50_1, 9999)) := bk_of pk_50 rfl
theorem bk_50_2 : bk_ am_prog 50 2 = some ([false], (bl_50_2, 3)) := bk_of pk_50 rfl
theorem bk_50_3 : bk_ am_prog 50 3 = some ([false], (bl_50_3, 9999)) := bk_of pk_50 rfl
theorem jt_50_3 (h : am_H) (d0 : am_V) (s0 : Int) : JJ 50 3 [d0] [(1, s0)] h = some (h, s0) := (jj_of bk_50_3 _ _ h).trans (ff_of bk_50_3 [(9, 0)] [(1, s0)] h)
theorem jt_50_2 (h : am_H) (d0 : am_V) : JJ 50 2 [d0] [] h = some (h, 0) := (jj_of bk_50_2 _ _ h).trans ((ff_of bk_50_2 [(9, 0)] [] h).trans (by
  show (JJ 50 3 [(9, 0)] [(1, 0)] h) = _
  simp only [jt_50_3, ck_or1, ck_or2, rf_wr, ln_wr, nn_wr, rf_cp, ln_cp, nn_cp, ln_wf, nn_wf, rd_wf, nn_nw]
  try rfl))
theorem jt_50_1 (h : am_H) (d0 : am_V) : JJ 50 1 [d0] [] h = some (h, 1) := (jj_of bk_50_1 _ _ h).trans ((ff_of bk_50_1 [(9, 0)] [] h).trans (by
  show (JJ 50 3 [(9, 0)] [(1, 1)] h) = _
  simp only [jt_50_3, ck_or1, ck_or2, rf_wr, ln_wr, nn_wr, rf_cp, ln_cp, nn_cp, ln_wf, nn_wf, rd_wf, nn_nw]
  try rfl))
theorem La_truth_e (h : am_H) (x0 : Int) : La_truth h x0 = if x0 = 0 then some (h, 0) else some (h, 1) := (ff_of bk_50_0 [(0, x0)] [] h).trans (by
  show (if x0 = 0 then JJ 50 2 [(0, x0)] [] h else JJ 50 1 [(0, x0)] [] h) = _
  simp only [jt_50_1, jt_50_2, ck_or1, ck_or2, rf_wr, ln_wr, nn_wr, rf_cp, ln_cp, nn_cp, ln_wf, nn_wf, rd_wf, nn_nw]
  try rfl)
theorem cc_50 (h : am_H) (x0 : Int) : CC 50 [(0, x0)] h = La_truth h x0 := cc_of pk_50 _ h
theorem pk_51 : am_prog 51 = some cd_51 := rfl
theorem bk_51_0 : bk_ am_prog 51 0 = some ([true, true, true, false, true, false], (bl_51_0, 9999)) := bk_of pk_51 rfl
theorem bk_51_1 : bk_ am_prog 51 1 = some ([false, false, true, false, true, false], (bl_51_1, 9999)) := bk_of pk_51 rfl
theorem bk_51_2 : bk_ am_prog 51 2 = some ([false, false, false, false, true, false], (bl_51_2, 9999)) := bk_of pk_51 rfl
theorem bk_51_3 : bk_ am_prog 51 3 = some ([false, false, false, false, false, false], (bl_51_3, 9999)) := bk_of pk_51 rfl
theorem bk_51_4 : bk_ am_prog 51 4 = some ([false, false, false, false, false, false], (bl_51_4, 5)) := bk_of pk_51 rfl
theorem bk_51_5 : bk_ am_prog 51 5 = some ([false, false, false, false, false, false], (bl_51_5, 9999)) := bk_of pk_51 rfl
theorem bk_51_6 : bk_ am_prog 51 6 = some ([false, false, true, false, true, false], (bl_51_6, 9999)) := bk_of pk_51 rfl
theorem bk_51_7 : bk_ am_prog 51 7 = some ([false, false, false, false, true, false], (bl_51_7, 9999)) := bk_of pk_51 rfl
theorem bk_51_8 : bk_ am_prog 51 8 = some ([false, false, false, false, false, false], (bl_51_8, 9999)) := bk_of pk_51 rfl
theorem bk_51_9 : bk_ am_prog 51 9 = some ([false, false, false, false, false, false], (bl_51_9, 10)) := bk_of pk_51 rfl
theorem bk_51_10 : bk_ am_prog 51 10 = some ([false, false, false, false, false, false], (bl_51_10, 9999)) := bk_of pk_51 rfl
theorem bk_51_11 : bk_ am_prog 51 11 = some ([false, false, true, false, true, false], (bl_51_11, 9999)) := bk_of pk_51 rfl
theorem bk_51_12 : bk_ am_prog 51 12 = some ([false, false, false, false, false, false], (bl_51_12, 9999)) := bk_of pk_51 rfl
theorem bk_51_13 : bk_ am_prog 51 13 = some ([false, false, false, false, false, false], (bl_51_13, 14)) := bk_of pk_51 rfl
theorem bk_51_14 : bk_ am_prog 51 14 = some ([false, false, false, false, false, false], (bl_51_14, 9999)) := bk_of pk_51 rfl
theorem bk_51_15 : bk_ am_prog 51 15 = some ([false, false, true, false, true, false], (bl_51_15, 9999)) := bk_of pk_51 rfl
theorem bk_51_16 : bk_ am_prog 51 16 = some ([false, false, false, false, false, false], (bl_51_16, 9999)) := bk_of pk_51 rfl
theorem bk_51_17 : bk_ am_prog 51 17 = some ([false, false, false, false, false, false], (bl_51_17, 18)) := bk_of pk_51 rfl
theorem bk_51_18 : bk_ am_prog 51 18 = some ([false, false, false, false, false, false], (bl_51_18, 9999)) := bk_of pk_51 rfl
theorem bk_51_19 : bk_ am_prog 51 19 = some ([false, false, true, false, true, false], (bl_51_19, 9999)) := bk_of pk_51 rfl
theorem bk_51_20 : bk_ am_prog 51 20 = some ([false, false, false, false, false, false], (bl_51_20, 9999)) := bk_of pk_51 rfl
theorem bk_51_21 : bk_ am_prog 51 21 = some ([false, false, false, false, false, false], (bl_51_21, 22)) := bk_of pk_51 rfl
theorem bk_51_22 : bk_ am_prog 51 22 = some ([false, false, false, false, false, false], (bl_51_22, 9999)) := bk_of pk_51 rfl
theorem bk_51_23 : bk_ am_prog 51 23 = some ([false, false, true, false, true, false], (bl_51_23, 9999)) := bk_of pk_51 rfl
theorem bk_51_24 : bk_ am_prog 51 24 = some ([false, false, false, false, false, false], (bl_51_24, 9999)) := bk_of pk_51 rfl
theorem bk_51_25 : bk_ am_prog 51 25 = some ([false, false, false, false, false, false], (bl_51_25, 26)) := bk_of pk_51 rfl
theorem bk_51_26 : bk_ am_prog 51 26 = some ([false, false, false, false, false, false], (bl_51_26, 9999)) := bk_of pk_51 rfl
theorem bk_51_27 : bk_ am_prog 51 27 = some ([false, false, true, false, true, false], (bl_51_27, 9999)) := bk_of pk_51 rfl
theorem bk_51_28 : bk_ am_prog 51 28 = some ([false, false, false, false, false, false], (bl_51_28, 9999)) := bk_of pk_51 rfl
theorem bk_51_29 : bk_ am_prog 51 29 = some ([false, false, false, false, false, false], (bl_51_29, 30)) := bk_of pk_51 rfl
theorem bk_51_30 : bk_ am_prog 51 30 = some ([false, false, false, false, false, false], (bl_51_30, 9999)) := bk_of pk_51 rfl
theorem bk_51_31 : bk_ am_prog 51 31 = some ([false, false, true, false, true, false], (bl_51_31, 9999)) := bk_of pk_51 rfl
theorem bk_51_32 : bk_ am_prog 51 32 = some ([false, false, false, false, false, false], (bl_51_32, 9999)) := bk_of pk_51 rfl
theorem bk_51_33 : bk_ am_prog 51 33 = some ([false, false, false, false, false, false], (bl_51_33, 34)) := bk_of pk_51 rfl
theorem bk_51_34 : bk_ am_prog 51 34 = some ([false, false, false, false, false, false], (bl_51_34, 9999)) := bk_of pk_51 rfl
theorem bk_51_35 : bk_ am_prog 51 35 = some ([true, false, true, false, true, false], (bl_51_35, 9999)) := bk_of pk_51 rfl
theorem bk_51_36 : bk_ am_prog 51 36 = some ([true, false, true, false, true, false], (bl_51_36, 9999)) := bk_of pk_51 rfl
theorem bk_51_37 : bk_ am_prog 51 37 = some ([true, false, true, false, true, false], (bl_51_37, 9999)) := bk_of pk_51 rfl
theorem bk_51_38 : bk_ am_prog 51 38 = some ([true, false, true, false, true, false], (bl_51_38, 9999)) := bk_of pk_51 rfl
theorem jt_51_38 (h : am_H) (d1 d3 d5 : am_V) (x0 x2 x4 : Int) : JJ 51 38 [(13, x0), d1, (1, x2), d3, (1, x4), d5] [] h = ck_ (0 ≤ x0) (bd_ (La_quotient h x0 x2 x4) fun h1 v2 => some (h1, v2)) := (jj_of bk_51_38 _ _ h).trans ((ff_of bk_51_38 [(13, x0), (9, 0), (1, x2), (9, 0), (1, x4), (9, 0)] [] h).trans (by
  show (ck_ (0 ≤ x0) (bd_ (CC 49 [(13, x0), (1, x2), (1, x4)] h) fun h1 v2 => some (h1, v2))) = _
  simp only [cc_49, ck_or1, ck_or2, rf_wr, ln_wr, nn_wr, rf_cp, ln_cp, nn_cp, ln_wf, nn_wf, rd_wf, nn_nw]
  try rfl))
theorem jt_51_5 (h : am_H) (d0 d1 d2 d3 d4 d5 : am_V) (s0 : Int) : JJ 51 5 [d0, d1, d2, d3, d4, d5] [(0, s0)] h = bd_ (La_truth h s0) fun h1 v2 => some (h1, v2) := (jj_of bk_51_5 _ _ h).trans ((ff_of bk_51_5 [(9, 0), (9, 0), (9, 0), (9, 0), (9, 0), (9, 0)] [(0, s0)] h).trans (by
  show (bd_ (CC 50 [(0, s0)] h) fun h1 v2 => some (h1, v2)) = _
  simp only [cc_50, ck_or1, ck_or2, rf_wr, ln_wr, nn_wr, rf_cp, ln_cp, nn_cp, ln_wf, nn_wf, rd_wf, nn_nw]
  try rfl))
theorem jt_51_3 (h : am_H) (d0 d1 d2 d3 d4 d5 : am_V) : JJ 51 3 [d0, d1, d2, d3, d4, d5] [] h = bd_ (La_truth h 1) fun h1 v2 => some (h1, v2) := (jj_of bk_51_3 _ _ h).trans ((ff_of bk_51_3 [(9, 0), (9, 0), (9, 0), (9, 0), (9, 0), (9, 0)] [] h).trans (by
  show (JJ 51 5 [(9, 0), (9, 0), (9, 0), (9, 0), (9, 0), (9, 0)] [(0, 1)] h) = _
  simp only [jt_51_5, ck_or1, ck_or2, rf_wr, ln_wr, nn_wr, rf_cp, ln_cp, nn_cp, ln_wf, nn_wf, rd_wf, nn_nw]
  try rfl))
theorem jt_51_4 (h : am_H) (d0 d1 d2 d3 d4 d5 : am_V) : JJ 51 4 [d0, d1, d2, d3, d4, d5] [] h = bd_ (La_truth h 0) fun h1 v2 => some (h1, v2) := (jj_of bk_51_4 _ _ h).trans ((ff_of bk_51_4 [(9, 0), (9, 0), (9, 0), (9, 0), (9, 0), (9, 0)] [] h).trans (by
  show (JJ 51 5 [(9, 0), (9, 0), (9, 0), (9, 0), (9, 0), (9, 0)] [(0, 0)] h) = _
  simp only [jt_51_5, ck_or1, ck_or2, rf_wr, ln_wr, nn_wr, rf_cp, ln_cp, nn_cp, ln_wf, nn_wf, rd_wf, nn_nw]
  try rfl))
theorem jt_51_2 (h : am_H) (d0 d1 d2 d3 d5 : am_V) (x4 : Int) : JJ 51 2 [d0, d1, d2, d3, (1, x4), d5] [] h = if (lcm_ x4 0) = 0 then bd_ (La_truth h 0) fun h1 v2 => some (h1, v2) else bd_ (La_truth h 1) fun h3 v4 => some (h3, v4) := (jj_of bk_51_2 _ _ h).trans ((ff_of bk_51_2 [(9, 0), (9, 0), (9, 0), (9, 0), (1, x4), (9, 0)] [] h).trans (by
  show (if (lcm_ x4 0) = 0 then JJ 51 4 [(9, 0), (9, 0), (9, 0), (9, 0), (1, x4), (9, 0)] [] h else JJ 51 3 [(9, 0), (9, 0), (9, 0), (9, 0), (1, x4), (9, 0)] [] h) = _
  simp only [jt_51_3, jt_51_4, ck_or1, ck_or2, rf_wr, ln_wr, nn_wr, rf_cp, ln_cp, nn_cp, ln_wf, nn_wf, rd_wf, nn_nw]
  try rfl))
theorem jt_51_1 (h : am_H) (d0 d1 d3 d5 : am_V) (x2 x4 : Int) : JJ 51 1 [d0, d1, (1, x2), d3, (1, x4), d5] [] h = if (lcm_ x2 0) ≠ 0 then bd_ (La_truth h 1) fun h1 v2 => some (h1, v2) else if (lcm_ x4 0) = 0 then bd_ (La_truth h 0) fun h3 v4 => some (h3, v4) else bd_ (La_truth h 1) fun h5 v6 => some (h5, v6) := (jj_of bk_51_1 _ _ h).trans ((ff_of bk_51_1 [(9, 0), (9, 0), (1, x2), (9, 0), (1, x4), (9, 0)] [] h).trans (by
  show (if (lcm_ x2 0) ≠ 0 then JJ 51 3 [(9, 0), (9, 0), (1, x2), (9, 0), (1, x4), (9, 0)] [] h else JJ 51 2 [(9, 0), (9, 0), (1, x2), (9, 0), (1, x4), (9, 0)] [] h) = _
  simp only [jt_51_2, jt_51_3, ck_or1, ck_or2, rf_wr, ln_wr, nn_wr, rf_cp, ln_cp, nn_cp, ln_wf, nn_wf, rd_wf, nn_nw]
  try rfl))
theorem jt_51_10 (h : am_H) (d0 d1 d2 d3 d4 d5 : am_V) (s0 : Int) : JJ 51 10 [d0, d1, d2, d3, d4, d5] [(0, s0)] h = bd_ (La_truth h s0) fun h1 v2 => some (h1, v2) := (jj_of bk_51_10 _ _ h).trans ((ff_of bk_51_10 [(9, 0), (9, 0), (9, 0), (9, 0), (9, 0), (9, 0)] [(0, s0)] h).trans (by
  show (bd_ (CC 50 [(0, s0)] h) fun h1 v2 => some (h1, v2)) = _
  simp only [cc_50, ck_or1, ck_or2, rf_wr, ln_wr, nn_wr, rf_cp, ln_cp, nn_cp, ln_wf, nn_wf, rd_wf, nn_nw]
  try rfl))
theorem jt_51_9 (h : am_H) (d0 d1 d2 d3 d4 d5 : am_V) : JJ 51 9 [d0, d1, d2, d3, d4, d5] [] h = bd_ (La_truth h 0) fun h1 v2 => some (h1, v2) := (jj_of bk_51_9 _ _ h).trans ((ff_of bk_51_9 [(9, 0), (9, 0), (9, 0), (9, 0), (9, 0), (9, 0)] [] h).trans (by
  show (JJ 51 10 [(9, 0), (9, 0), (9, 0), (9, 0), (9, 0), (9, 0)] [(0, 0)] h) = _
  simp only [jt_51_10, ck_or1, ck_or2, rf_wr, ln_wr, nn_wr, rf_cp, ln_cp, nn_cp, ln_wf, nn_wf, rd_wf, nn_nw]
  try rfl))
theorem jt_51_8 (h : am_H) (d0 d1 d2 d3 d4 d5 : am_V) : JJ 51 8 [d0, d1, d2, d3, d4, d5] [] h = bd_ (La_truth h 1) fun h1 v2 => some (h1, v2) := (jj_of bk_51_8 _ _ h).trans ((ff_of bk_51_8 [(9, 0), (9, 0), (9, 0), (9, 0), (9, 0), (9, 0)] [] h).trans (by
  show (JJ 51 10 [(9, 0), (9, 0), (9, 0), (9, 0), (9, 0), (9, 0)] [(0, 1)] h) = _
  simp only [jt_51_10, ck_or1, ck_or2, rf_wr, ln_wr, nn_wr, rf_cp, ln_cp, nn_cp, ln_wf, nn_wf, rd_wf, nn_nw]
  try rfl))
theorem jt_51_7 (h : am_H) (d0 d1 d2 d3 d5 : am_V) (x4 : Int) : JJ 51 7 [d0, d1, d2, d3, (1, x4), d5] [] h = if (lcm_ x4 0) = 0 then bd_ (La_truth h 0) fun h1 v2 => some (h1, v2) else bd_ (La_truth h 1) fun h3 v4 => some (h3, v4) := (jj_of bk_51_7 _ _ h).trans ((ff_of bk_51_7 [(9, 0), (9, 0), (9, 0), (9, 0), (1, x4), (9, 0)] [] h).trans (by
  show (if (lcm_ x4 0) = 0 then JJ 51 9 [(9, 0), (9, 0), (9, 0), (9, 0), (1, x4), (9, 0)] [] h else JJ 51 8 [(9, 0), (9, 0), (9, 0), (9, 0), (1, x4), (9, 0)] [] h) = _
  simp only [jt_51_8, jt_51_9, ck_or1, ck_or2, rf_wr, ln_wr, nn_wr, rf_cp, ln_cp, nn_cp, ln_wf, nn_wf, rd_wf, nn_nw]
  try rfl))
theorem jt_51_6 (h : am_H) (d0 d1 d3 d5 : am_V) (x2 x4 : Int) : JJ 51 6 [d0, d1, (1, x2), d3, (1, x4), d5] [] h = if (lcm_ x2 0) = 0 then bd_ (La_truth h 0) fun h1 v2 => some (h1, v2) else if (lcm_ x4 0) = 0 then bd_ (La_truth h 0) fun h3 v4 => some (h3, v4) else bd_ (La_truth h 1) fun h5 v6 => some (h5, v6) := (jj_of bk_51_6 _ _ h).trans ((ff_of bk_51_6 [(9, 0), (9, 0), (1, x2), (9, 0), (1, x4), (9, 0)] [] h).trans (by
  show (if (lcm_ x2 0) = 0 then JJ 51 9 [(9, 0), (9, 0), (1, x2), (9, 0), (1, x4), (9, 0)] [] h else JJ 51 7 [(9, 0), (9, 0), (1, x2), (9, 0), (1, x4), (9, 0)] [] h) = _
  simp only [jt_51_7, jt_51_9, ck_or1, ck_or2, rf_wr, ln_wr, nn_wr, rf_cp, ln_cp, nn_cp, ln_wf, nn_wf, rd_wf, nn_nw]
  try rfl))
theorem jt_51_14 (h : am_H) (d0 d1 d2 d3 d4 d5 : am_V) (s0 : Int) : JJ 51 14 [d0, d1, d2, d3, d4, d5] [(0, s0)] h = bd_ (La_truth h s0) fun h1 v2 => some (h1, v2) := (jj_of bk_51_14 _ _ h).trans ((ff_of bk_51_14 [(9, 0), (9, 0), (9, 0), (9, 0), (9, 0), (9, 0)] [(0, s0)] h).trans (by
  show (bd_ (CC 50 [(0, s0)] h) fun h1 v2 => some (h1, v2)) = _
  simp only [cc_50, ck_or1, ck_or2, rf_wr, ln_wr, nn_wr, rf_cp, ln_cp, nn_cp, ln_wf, nn_wf, rd_wf, nn_nw]
  try rfl))
theorem jt_51_13 (h : am_H) (d0 d1 d2 d3 d4 d5 : am_V) : JJ 51 13 [d0, d1, d2, d3, d4, d5] [] h = bd_ (La_truth h 0) fun h1 v2 => some (h1, v2) := (jj_of bk_51_13 _ _ h).trans ((ff_of bk_51_13 [(9, 0), (9, 0), (9, 0), (9, 0), (9, 0), (9, 0)] [] h).trans (by
  show (JJ 51 14 [(9, 0), (9, 0), (9, 0), (9, 0), (9, 0), (9, 0)] [(0, 0)] h) = _
  simp only [jt_51_14, ck_or1, ck_or2, rf_wr, ln_wr, nn_wr, rf_cp, ln_cp, nn_cp, ln_wf, nn_wf, rd_wf, nn_nw]
  try rfl))
theorem jt_51_12 (h : am_H) (d0 d1 d2 d3 d4 d5 : am_V) : JJ 51 12 [d0, d1, d2, d3, d4, d5] [] h = bd_ (La_truth h 1) fun h1 v2 => some (h1, v2) := (jj_of bk_51_12 _ _ h).trans ((ff_of bk_51_12 [(9, 0), (9, 0), (9, 0), (9, 0), (9, 0), (9, 0)] [] h).trans (by
  show (JJ 51 14 [(9, 0), (9, 0), (9, 0), (9, 0), (9, 0), (9, 0)] [(0, 1)] h) = _
  simp only [jt_51_14, ck_or1, ck_or2, rf_wr, ln_wr, nn_wr, rf_cp, ln_cp, nn_cp, ln_wf, nn_wf, rd_wf, nn_nw]
  try rfl))
theorem jt_51_11 (h : am_H) (d0 d1 d3 d5 : am_V) (x2 x4 : Int) : JJ 51 11 [d0, d1, (1, x2), d3, (1, x4), d5] [] h = if 0 ≤ (lcm_ x2 x4) then bd_ (La_truth h 0) fun h1 v2 => some (h1, v2) else bd_ (La_truth h 1) fun h3 v4 => some (h3, v4) := (jj_of bk_51_11 _ _ h).trans ((ff_of bk_51_11 [(9, 0), (9, 0), (1, x2), (9, 0), (1, x4), (9, 0)] [] h).trans (by
  show (if 0 ≤ (lcm_ x2 x4) then JJ 51 13 [(9, 0), (9, 0), (1, x2), (9, 0), (1, x4), (9, 0)] [] h else JJ 51 12 [(9, 0), (9, 0), (1, x2), (9, 0), (1, x4), (9, 0)] [] h) = _
  simp only [jt_51_12, jt_51_13, ck_or1, ck_or2, rf_wr, ln_wr, nn_wr, rf_cp, ln_cp, nn_cp, ln_wf, nn_wf, rd_wf, nn_nw]
  try rfl))
theorem jt_51_18 (h : am_H) (d0 d1 d2 d3 d4 d5 : am_V) (s0 : Int) : JJ 51 18 [d0, d1, d2, d3, d4, d5] [(0, s0)] h = bd_ (La_truth h s0) fun h1 v2 => some (h1, v2) := (jj_of bk_51_18 _ _ h).trans ((ff_of bk_51_18 [(9, 0), (9, 0), (9, 0), (9, 0), (9, 0), (9, 0)] [(0, s0)] h).trans (by
  show (bd_ (CC 50 [(0, s0)] h) fun h1 v2 => some (h1, v2)) = _
  simp only [cc_50, ck_or1, ck_or2, rf_wr, ln_wr, nn_wr, rf_cp, ln_cp, nn_cp, ln_wf, nn_wf, rd_wf, nn_nw]
  try rfl))
theorem jt_51_17 (h : am_H) (d0 d1 d2 d3 d4 d5 : am_V) : JJ 51 17 [d0, d1, d2, d3, d4, d5] [] h = bd_ (La_truth h 0) fun h1 v2 => some (h1, v2) := (jj_of bk_51_17 _ _ h).trans ((ff_of bk_51_17 [(9, 0), (9, 0), (9, 0), (9, 0), (9, 0), (9, 0)] [] h).trans (by
  show (JJ 51 18 [(9, 0), (9, 0), (9, 0), (9, 0), (9, 0), (9, 0)] [(0, 0)] h) = _
  simp only [jt_51_18, ck_or1, ck_or2, rf_wr, ln_wr, nn_wr, rf_cp, ln_cp, nn_cp, ln_wf, nn_wf, rd_wf, nn_nw]
  try rfl))
theorem jt_51_16 (h : am_H) (d0 d1 d2 d3 d4 d5 : am_V) : JJ 51 16 [d0, d1, d2, d3, d4, d5] [] h = bd_ (La_truth h 1) fun h1 v2 => some (h1, v2) := (jj_of bk_51_16 _ _ h).trans ((ff_of bk_51_16 [(9, 0), (9, 0), (9, 0), (9, 0), (9, 0), (9, 0)] [] h).trans (by
  show (JJ 51 18 [(9, 0), (9, 0), (9, 0), (9, 0), (9, 0), (9, 0)] [(0, 1)] h) = _
  simp only [jt_51_18, ck_or1, ck_or2, rf_wr, ln_wr, nn_wr, rf_cp, ln_cp, nn_cp, ln_wf, nn_wf, rd_wf, nn_nw]
  try rfl))
theorem jt_51_15 (h : am_H) (d0 d1 d3 d5 : am_V) (x2 x4 : Int) : JJ 51 15 [d0, d1, (1, x2), d3, (1, x4), d5] [] h = if 0 < (lcm_ x2 x4) then bd_ (La_truth h 0) fun h1 v2 => some (h1, v2) else bd_ (La_truth h 1) fun h3 v4 => some (h3, v4) := (jj_of bk_51_15 _ _ h).trans ((ff_of bk_51_15 [(9, 0), (9, 0), (1, x2), (9, 0), (1, x4), (9, 0)] [] h).trans (by
  show (if 0 < (lcm_ x2 x4) then JJ 51 17 [(9, 0), (9, 0), (1, x2), (9, 0), (1, x4), (9, 0)] [] h else JJ 51 16 [(9, 0), (9, 0), (1, x2), (9, 0), (1, x4), (9, 0)] [] h) = _
  simp only [jt_51_16, jt_51_17, ck_or1, ck_or2, rf_wr, ln_wr, nn_wr, rf_cp, ln_cp, nn_cp, ln_wf, nn_wf, rd_wf, nn_nw]
  try rfl))
theorem jt_51_22 (h : am_H) (d0 d1 d2 d3 d4 d5 : am_V) (s0 : Int) : JJ 51 22 [d0, d1, d2, d3, d4, d5] [(0, s0)] h = bd_ (La_truth h s0) fun h1 v2 => some (h1, v2) := (jj_of bk_51_22 _ _ h).trans ((ff_of bk_51_22 [(9, 0), (9, 0), (9, 0), (9, 0), (9, 0), (9, 0)] [(0, s0)] h).trans (by
  show (bd_ (CC 50 [(0, s0)] h) fun h1 v2 => some (h1, v2)) = _
  simp only [cc_50, ck_or1, ck_or2, rf_wr, ln_wr, nn_wr, rf_cp, ln_cp, nn_cp, ln_wf, nn_wf, rd_wf, nn_nw]
  try rfl))
theorem jt_51_21 (h : am_H) (d0 d1 d2 d3 d4 d5 : am_V) : JJ 51 21 [d0, d1, d2, d3, d4, d5] [] h = bd_ (La_truth h 0) fun h1 v2 => some (h1, v2) := (jj_of bk_51_21 _ _ h).trans ((ff_of bk_51_21 [(9, 0), (9, 0), (9, 0), (9, 0), (9, 0), (9, 0)] [] h).trans (by
  show (JJ 51 22 [(9, 0), (9, 0), (9, 0), (9, 0), (9, 0), (9, 0)] [(0, 0)] h) = _
  simp only [jt_51_22, ck_or1, ck_or2, rf_wr, ln_wr, nn_wr, rf_cp, ln_cp, nn_cp, ln_wf, nn_wf, rd_wf, nn_nw]
  try rfl))
theorem jt_51_20 (h : am_H) (d0 d1 d2 d3 d4 d5 : am_V) : JJ 51 20 [d0, d1, d2, d3, d4, d5] [] h = bd_ (La_truth h 1) fun h1 v2 => some (h1, v2) := (jj_of bk_51_20 _ _ h).trans ((ff_of bk_51_20 [(9, 0), (9, 0), (9, 0), (9, 0), (9, 0), (9, 0)] [] h).trans (by
  show (JJ 51 22 [(9, 0), (9, 0), (9, 0), (9, 0), (9, 0), (9, 0)] [(0, 1)] h) = _
  simp only [jt_51_22, ck_or1, ck_or2, rf_wr, ln_wr, nn_wr, rf_cp, ln_cp, nn_cp, ln_wf, nn_wf, rd_wf, nn_nw]
  try rfl))
theorem jt_51_19 (h : am_H) (d0 d1 d3 d5 : am_V) (x2 x4 : Int) : JJ 51 19 [d0, d1, (1, x2), d3, (1, x4), d5] [] h = if (lcm_ x2 x4) ≠ 0 then bd_ (La_truth h 0) fun h1 v2 => some (h1, v2) else bd_ (La_truth h 1) fun h3 v4 => some (h3, v4) := (jj_of bk_51_19 _ _ h).trans ((ff_of bk_51_19 [(9, 0), (9, 0), (1, x2), (9, 0), (1, x4), (9, 0)] [] h).trans (by
  show (if (lcm_ x2 x4) ≠ 0 then JJ 51 21 [(9, 0), (9, 0), (1, x2), (9, 0), (1, x4), (9, 0)] [] h else JJ 51 20 [(9, 0), (9, 0), (1, x2), (9, 0), (1, x4), (9, 0)] [] h) = _
  simp only [jt_51_20, jt_51_21, ck_or1, ck_or2, rf_wr, ln_wr, nn_wr, rf_cp, ln_cp, nn_cp, ln_wf, nn_wf, rd_wf, nn_nw]
  try rfl))
theorem jt_51_26 (h : am_H) (d0 d1 d2 d3 d4 d5 : am_V) (s0 : Int) : JJ 51 26 [d0, d1, d2, d3, d4, d5] [(0, s0)] h = bd_ (La_truth h s0) fun h1 v2 => some (h1, v2) := (jj_of bk_51_26 _ _ h).trans ((ff_of bk_51_26 [(9, 0), (9, 0), (9, 0), (9, 0), (9, 0), (9, 0)] [(0, s0)] h).trans (by
  show (bd_ (CC 50 [(0, s0)] h) fun h1 v2 => some (h1, v2)) = _
  simp only [cc_50, ck_or1, ck_or2, rf_wr, ln_wr, nn_wr, rf_cp, ln_cp, nn_cp, ln_wf, nn_wf, rd_wf, nn_nw]
  try rfl))
theorem jt_51_25 (h : am_H) (d0 d1 d2 d3 d4 d5 : am_V) : JJ 51 25 [d0, d1, d2, d3, d4, d5] [] h = bd_ (La_truth h 0) fun h1 v2 => some (h1, v2) := (jj_of bk_51_25 _ _ h).trans ((ff_of bk_51_25 [(9, 0), (9, 0), (9, 0), (9, 0), (9, 0), (9, 0)] [] h).trans (by
  show (JJ 51 26 [(9, 0), (9, 0), (9, 0), (9, 0), (9, 0), (9, 0)] [(0, 0)] h) = _
  simp only [jt_51_26, ck_or1, ck_or2, rf_wr, ln_wr, nn_wr, rf_cp, ln_cp, nn_cp, ln_wf, nn_wf, rd_wf, nn_nw]
  try rfl))
theorem jt_51_24 (h : am_H) (d0 d1 d2 d3 d4 d5 : am_V) : JJ 51 24 [d0, d1, d2, d3, d4, d5] [] h = bd_ (La_truth h 1) fun h1 v2 => some (h1, v2) := (jj_of bk_51_24 _ _ h).trans ((ff_of bk_51_24 [(9, 0), (9, 0), (9, 0), (9, 0), (9, 0), (9, 0)] [] h).trans (by
  show (JJ 51 26 [(9, 0), (9, 0), (9, 0), (9, 0), (9, 0), (9, 0)] [(0, 1)] h) = _
  simp only [jt_51_26, ck_or1, ck_or2, rf_wr, ln_wr, nn_wr, rf_cp, ln_cp, nn_cp, ln_wf, nn_wf, rd_wf, nn_nw]
  try rfl))
theorem jt_51_23 (h : am_H) (d0 d1 d3 d5 : am_V) (x2 x4 : Int) : JJ 51 23 [d0, d1, (1, x2), d3, (1, x4), d5] [] h = if (lcm_ x2 x4) = 0 then bd_ (La_truth h 0) fun h1 v2 => some (h1, v2) else bd_ (La_truth h 1) fun h3 v4 => some (h3, v4) := (jj_of bk_51_23 _ _ h).trans ((ff_of bk_51_23 [(9, 0), (9, 0), (1, x2), (9, 0), (1, x4), (9, 0)] [] h).trans (by
  show (if (lcm_ x2 x4) = 0 then JJ 51 25 [(9, 0), (9, 0), (1, x2), (9, 0), (1, x4), (9, 0)] [] h else JJ 51 24 [(9, 0), (9, 0), (1, x2), (9, 0), (1, x4), (9, 0)] [] h) = _
  simp only [jt_51_24, jt_51_25, ck_or1, ck_or2, rf_wr, ln_wr, nn_wr, rf_cp, ln_cp, nn_cp, ln_wf, nn_wf, rd_wf, nn_nw]
  try rfl))
theorem jt_51_30 (h : am_H) (d0 d1 d2 d3 d4 d5 : am_V) (s0 : Int) : JJ 51 30 [d0, d1, d2, d3, d4, d5] [(0, s0)] h = bd_ (La_truth h s0) fun h1 v2 => some (h1, v2) := (jj_of bk_51_30 _ _ h).trans ((ff_of bk_51_30 [(9, 0), (9, 0), (9, 0), (9, 0), (9, 0), (9, 0)] [(0, s0)] h).trans (by
  show (bd_ (CC 50 [(0, s0)] h) fun h1 v2 => some (h1, v2)) = _
  simp only [cc_50, ck_or1, ck_or2, rf_wr, ln_wr, nn_wr, rf_cp, ln_cp, nn_cp, ln_wf, nn_wf, rd_wf, nn_nw]
  try rfl))
theorem jt_51_29 (h : am_H) (d0 d1 d2 d3 d4 d5 : am_V) : JJ 51 29 [d0, d1, d2, d3, d4, d5] [] h = bd_ (La_truth h 0) fun h1 v2 => some (h1, v2) := (jj_of bk_51_29 _ _ h).trans ((ff_of bk_51_29 [(9, 0), (9, 0), (9, 0), (9, 0), (9, 0), (9, 0)] [] h).trans (by
  show (JJ 51 30 [(9, 0), (9, 0), (9, 0), (9, 0), (9, 0), (9, 0)] [(0, 0)] h) = _
  simp only [jt_51_30, ck_or1, ck_or2, rf_wr, ln_wr, nn_wr, rf_cp, ln_cp, nn_cp, ln_wf, nn_wf, rd_wf, nn_nw]
  try rfl))
theorem jt_51_28 (h : am_H) (d0 d1 d2 d3 d4 d5 : am_V) : JJ 51 28 [d0, d1, d2, d3, d4, d5] [] h = bd_ (La_truth h 1) fun h1 v2 => some (h1, v2) := (jj_of bk_51_28 _ _ h).trans ((ff_of bk_51_28 [(9, 0), (9, 0), (9, 0), (9, 0), (9, 0), (9, 0)] [] h).trans (by
  show (JJ 51 30 [(9, 0), (9, 0), (9, 0), (9, 0), (9, 0), (9, 0)] [(0, 1)] h) = _
  simp only [jt_51_30, ck_or1, ck_or2, rf_wr, ln_wr, nn_wr, rf_cp, ln_cp, nn_cp, ln_wf, nn_wf, rd_wf, nn_nw]
  try rfl))
theorem jt_51_27 (h : am_H) (d0 d1 d3 d5 : am_V) (x2 x4 : Int) : JJ 51 27 [d0, d1, (1, x2), d3, (1, x4), d5] [] h = if (lcm_ x2 x4) < 0 then bd_ (La_truth h 0) fun h1 v2 => some (h1, v2) else bd_ (La_truth h 1) fun h3 v4 => some (h3, v4) := (jj_of bk_51_27 _ _ h).trans ((ff_of bk_51_27 [(9, 0), (9, 0), (1, x2), (9, 0), (1, x4), (9, 0)] [] h).trans (by
  show (if (lcm_ x2 x4) < 0 then JJ 51 29 [(9, 0), (9, 0), (1, x2), (9, 0), (1, x4), (9, 0)] [] h else JJ 51 28 [(9, 0), (9, 0), (1, x2), (9, 0), (1, x4), (9, 0)] [] h) = _
  simp only [jt_51_28, jt_51_29, ck_or1, ck_or2, rf_wr, ln_wr, nn_wr, rf_cp, ln_cp, nn_cp, ln_wf, nn_wf, rd_wf, nn_nw]
  try rfl))
theorem jt_51_34 (h : am_H) (d0 d1 d2 d3 d4 d5 : am_V) (s0 : Int) : JJ 51 34 [d0, d1, d2, d3, d4, d5] [(0, s0)] h = bd_ (La_truth h s0) fun h1 v2 => some (h1, v2) := (jj_of bk_51_34 _ _ h).trans ((ff_of bk_51_34 [(9, 0), (9, 0), (9, 0), (9, 0), (9, 0), (9, 0)] [(0, s0)] h).trans (by
  show (bd_ (CC 50 [(0, s0)] h) fun h1 v2 => some (h1, v2)) = _
  simp only [cc_50, ck_or1, ck_or2, rf_wr, ln_wr, nn_wr, rf_cp, ln_cp, nn_cp, ln_wf, nn_wf, rd_wf, nn_nw]
  try rfl))
theorem jt_51_33 (h : am_H) (d0 d1 d2 d3 d4 d5 : am_V) : JJ 51 33 [d0, d1, d2, d3, d4, d5] [] h = bd_ (La_truth h 0) fun h1 v2 => some (h1, v2) := (jj_of bk_51_33 _ _ h).trans ((ff_of bk_51_33 [(9, 0), (9, 0), (9, 0), (9, 0), (9, 0), (9, 0)] [] h).trans (by
  show (JJ 51 34 [(9, 0), (9, 0), (9, 0), (9, 0), (9, 0), (9, 0)] [(0, 0)] h) = _
  simp only [jt_51_34, ck_or1, ck_or2, rf_wr, ln_wr, nn_wr, rf_cp, ln_cp, nn_cp, ln_wf, nn_wf, rd_wf, nn_nw]
  try rfl))
theorem jt_51_32 (h : am_H) (d0 d1 d2 d3 d4 d5 : am_V) : JJ 51 32 [d0, d1, d2, d3, d4, d5] [] h = bd_ (La_truth h 1) fun h1 v2 => some (h1, v2) := (jj_of bk_51_32 _ _ h).trans ((ff_of bk_51_32 [(9, 0), (9, 0), (9, 0), (9, 0), (9, 0), (9, 0)] [] h).trans (by
  show (JJ 51 34 [(9, 0), (9, 0), (9, 0), (9, 0), (9, 0), (9, 0)] [(0, 1)] h) = _
  simp only [jt_51_34, ck_or1, ck_or2, rf_wr, ln_wr, nn_wr, rf_cp, ln_cp, nn_cp, ln_wf, nn_wf, rd_wf, nn_nw]
  try rfl))
theorem jt_51_31 (h : am_H) (d0 d1 d3 d5 : am_V) (x2 x4 : Int) : JJ 51 31 [d0, d1, (1, x2), d3, (1, x4), d5] [] h = if (lcm_ x2 x4) ≤ 0 then bd_ (La_truth h 0) fun h1 v2 => some (h1, v2) else bd_ (La_truth h 1) fun h3 v4 => some (h3, v4) := (jj_of bk_51_31 _ _ h).trans ((ff_of bk_51_31 [(9, 0), (9, 0), (1, x2), (9, 0), (1, x4), (9, 0)] [] h).trans (by
  show (if (lcm_ x2 x4) ≤ 0 then JJ 51 33 [(9, 0), (9, 0), (1, x2), (9, 0), (1, x4), (9, 0)] [] h else JJ 51 32 [(9, 0), (9, 0), (1, x2), (9, 0), (1, x4), (9, 0)] [] h) = _
  simp only [jt_51_32, jt_51_33, ck_or1, ck_or2, rf_wr, ln_wr, nn_wr, rf_cp, ln_cp, nn_cp, ln_wf, nn_wf, rd_wf, nn_nw]
  try rfl))
theorem jt_51_35 (h : am_H) (d1 d3 d5 : am_V) (x0 x2 x4 : Int) : JJ 51 35 [(13, x0), d1, (1, x2), d3, (1, x4), d5] [] h = ck_ (0 ≤ x0) (bd_ (La_inBounds h x0 (w64 (x2 + x4))) fun h1 v2 => some (h1, v2)) := (jj_of bk_51_35 _ _ h).trans ((ff_of bk_51_35 [(13, x0), (9, 0), (1, x2), (9, 0), (1, x4), (9, 0)] [] h).trans (by
  show (ck_ (0 ≤ x0) (bd_ (CC 47 [(13, x0), (1, w64 (x2 + x4))] h) fun h1 v2 => some (h1, v2))) = _
  simp only [cc_47, ck_or1, ck_or2, rf_wr, ln_wr, nn_wr, rf_cp, ln_cp, nn_cp, ln_wf, nn_wf, rd_wf, nn_nw]
  try rfl))
theorem jt_51_36 (h : am_H) (d1 d3 d5 : am_V) (x0 x2 x4 : Int) : JJ 51 36 [(13, x0), d1, (1, x2), d3, (1, x4), d5] [] h = ck_ (0 ≤ x0) (bd_ (La_inBounds h x0 (w64 (x2 - x4))) fun h1 v2 => some (h1, v2)) := (jj_of bk_51_36 _ _ h).trans ((ff_of bk_51_36 [(13, x0), (9, 0), (1, x2), (9, 0), (1, x4), (9, 0)] [] h).trans (by
  show (ck_ (0 ≤ x0) (bd_ (CC 47 [(13, x0), (1, w64 (x2 - x4))] h) fun h1 v2 => some (h1, v2))) = _
  simp only [cc_47, ck_or1, ck_or2, rf_wr, ln_wr, nn_wr, rf_cp, ln_cp, nn_cp, ln_wf, nn_wf, rd_wf, nn_nw]
  try rfl))
theorem jt_51_37 (h : am_H) (d1 d3 d5 : am_V) (x0 x2 x4 : Int) : JJ 51 37 [(13, x0), d1, (1, x2), d3, (1, x4), d5] [] h = ck_ (0 ≤ x0) (bd_ (La_product h x0 x2 x4) fun h1 v2 => some (h1, v2)) := (jj_of bk_51_37 _ _ h).trans ((ff_of bk_51_37 [(13, x0), (9, 0), (1, x2), (9, 0), (1, x4), (9, 0)] [] h).trans (by
  show (ck_ (0 ≤ x0) (bd_ (CC 48 [(13, x0), (1, x2), (1, x4)] h) fun h1 v2 => some (h1, v2))) = _
  simp only [cc_48, ck_or1, ck_or2, rf_wr, ln_wr, nn_wr, rf_cp, ln_cp, nn_cp, ln_wf, nn_wf, rd_wf, nn_nw]
  try rfl))
set_option maxRecDepth 20000 in
theorem La_joined_e (h : am_H) (x0 x1 x2 x4 : Int) : La_joined h x0 x1 x2 x4 = if x1 = 20 then (if (lcm_ x2 0) ≠ 0 then bd_ (La_truth h 1) fun h55 v56 => some (h55, v56) else if (lcm_ x4 0) = 0 then bd_ (La_truth h 0) fun h57 v58 => some (h57, v58) else bd_ (La_truth h 1) fun h59 v60 => some (h59, v60)) else if x1 = 21 then (if (lcm_ x2 0) = 0 then bd_ (La_truth h 0) fun h49 v50 => some (h49, v50) else if (lcm_ x4 0) = 0 then bd_ (La_truth h 0) fun h51 v52 => some (h51, v52) else bd_ (La_truth h 1) fun h53 v54 => some (h53, v54)) else if x1 = 22 then ck_ (0 ≤ x0) (bd_ (La_quotient h x0 x2 x4) fun h47 v48 => some (h47, v48)) else if x1 = 23 then ck_ (0 ≤ x0) (bd_ (La_quotient h x0 x2 x4) fun h45 v46 => some (h45, v46)) else if x1 = 24 then ck_ (0 ≤ x0) (bd_ (La_quotient h x0 x2 x4) fun h43 v44 => some (h43, v44)) else if x1 = 25 then ck_ (0 ≤ x0) (bd_ (La_quotient h x0 x2 x4) fun h41 v42 => some (h41, v42)) else if x1 = 26 then ck_ (0 ≤ x0) (bd_ (La_quotient h x0 x2 x4) fun h39 v40 => some (h39, v40)) else if x1 = 27 then ck_ (0 ≤ x0) (bd_ (La_quotient h x0 x2 x4) fun h37 v38 => some (h37, v38)) else if x1 = 28 then ck_ (0 ≤ x0) (bd_ (La_quotient h x0 x2 x4) fun h35 v36 => some (h35, v36)) else if x1 = 29 then ck_ (0 ≤ x0) (bd_ (La_quotient h x0 x2 x4) fun h33 v34 => some (h33, v34)) else if x1 = 30 then (if 0 ≤ (lcm_ x2 x4) then bd_ (La_truth h 0) fun h29 v30 => some (h29, v30) else bd_ (La_truth h 1) fun h31 v32 => some (h31, v32)) else if x1 = 31 then (if 0 < (lcm_ x2 x4) then bd_ (La_truth h 0) fun h25 v26 => some (h25, v26) else bd_ (La_truth h 1) fun h27 v28 => some (h27, v28)) else if x1 = 32 then (if (lcm_ x2 x4) ≠ 0 then bd_ (La_truth h 0) fun h21 v22 => some (h21, v22) else bd_ (La_truth h 1) fun h23 v24 => some (h23, v24)) else if x1 = 33 then (if (lcm_ x2 x4) = 0 then bd_ (La_truth h 0) fun h17 v18 => some (h17, v18) else bd_ (La_truth h 1) fun h19 v20 => some (h19, v20)) else if x1 = 34 then (if (lcm_ x2 x4) < 0 then bd_ (La_truth h 0) fun h13 v14 => some (h13, v14) else bd_ (La_truth h 1) fun h15 v16 => some (h15, v16)) else if x1 = 35 then (if (lcm_ x2 x4) ≤ 0 then bd_ (La_truth h 0) fun h9 v10 => some (h9, v10) else bd_ (La_truth h 1) fun h11 v12 => some (h11, v12)) else if x1 = 36 then ck_ (0 ≤ x0) (bd_ (La_inBounds h x0 (w64 (x2 + x4))) fun h7 v8 => some (h7, v8)) else if x1 = 37 then ck_ (0 ≤ x0) (bd_ (La_inBounds h x0 (w64 (x2 - x4))) fun h5 v6 => some (h5, v6)) else if x1 = 38 then ck_ (0 ≤ x0) (bd_ (La_product h x0 x2 x4) fun h3 v4 => some (h3, v4)) else ck_ (0 ≤ x0) (bd_ (La_quotient h x0 x2 x4) fun h1 v2 => some (h1, v2)) := (ff_of bk_51_0 [(13, x0), (0, x1), (1, x2), (9, 0), (1, x4), (9, 0)] [] h).trans (by
  show (if x1 = 20 then JJ 51 1 [(13, x0), (0, x1), (1, x2), (9, 0), (1, x4), (9, 0)] [] h else if x1 = 21 then JJ 51 6 [(13, x0), (0, x1), (1, x2), (9, 0), (1, x4), (9, 0)] [] h else if x1 = 22 then JJ 51 38 [(13, x0), (0, x1), (1, x2), (9, 0), (1, x4), (9, 0)] [] h else if x1 = 23 then JJ 51 38 [(13, x0), (0, x1), (1, x2), (9, 0), (1, x4), (9, 0)] [] h else if x1 = 24 then JJ 51 38 [(13, x0), (0, x1), (1, x2), (9, 0), (1, x4), (9, 0)] [] h else if x1 = 25 then JJ 51 38 [(13, x0), (0, x1), (1, x2), (9, 0), (1, x4), (9, 0)] [] h else if x1 = 26 then JJ 51 38 [(13, x0), (0, x1), (1, x2), (9, 0), (1, x4), (9, 0)] [] h else if x1 = 27 then JJ 51 38 [(13, x0), (0, x1), (1, x2), (9, 0), (1, x4), (9, 0)] [] h else if x1 = 28 then JJ 51 38 [(13, x0), (0, x1), (1, x2), (9, 0), (1, x4), (9, 0)] [] h else if x1 = 29 then JJ 51 38 [(13, x0), (0, x1), (1, x2), (9, 0), (1, x4), (9, 0)] [] h else if x1 = 30 then JJ 51 11 [(13, x0), (0, x1), (1, x2), (9, 0), (1, x4), (9, 0)] [] h else if x1 = 31 then JJ 51 15 [(13, x0), (0, x1), (1, x2), (9, 0), (1, x4), (9, 0)] [] h else if x1 = 32 then JJ 51 19 [(13, x0), (0, x1), (1, x2), (9, 0), (1, x4), (9, 0)] [] h else if x1 = 33 then JJ 51 23 [(13, x0), (0, x1), (1, x2), (9, 0), (1, x4), (9, 0)] [] h else if x1 = 34 then JJ 51 27 [(13, x0), (0, x1), (1, x2), (9, 0), (1, x4), (9, 0)] [] h else if x1 = 35 then JJ 51 31 [(13, x0), (0, x1), (1, x2), (9, 0), (1, x4), (9, 0)] [] h else if x1 = 36 then JJ 51 35 [(13, x0), (0, x1), (1, x2), (9, 0), (1, x4), (9, 0)] [] h else if x1 = 37 then JJ 51 36 [(13, x0), (0, x1), (1, x2), (9, 0), (1, x4), (9, 0)] [] h else if x1 = 38 then JJ 51 37 [(13, x0), (0, x1), (1, x2), (9, 0), (1, x4), (9, 0)] [] h else JJ 51 38 [(13, x0), (0, x1), (1, x2), (9, 0), (1, x4), (9, 0)] [] h) = _
  simp only [jt_51_1, jt_51_11, jt_51_15, jt_51_19, jt_51_23, jt_51_27, jt_51_31, jt_51_35, jt_51_36, jt_51_37, jt_51_38, jt_51_6, ck_or1, ck_or2, rf_wr, ln_wr, nn_wr, rf_cp, ln_cp, nn_cp, ln_wf, nn_wf, rd_wf, nn_nw]
  try rfl)
theorem cc_51 (h : am_H) (x0 x1 x2 x4 : Int) : CC 51 [(13, x0), (0, x1), (1, x2), (1, x4)] h = La_joined h x0 x1 x2 x4 := cc_of pk_51 _ h
theorem pk_52 : am_prog 52 = some cd_52 := rfl
theorem bk_52_0 : bk_ am_prog 52 0 = some ([true, true, false, false, false, false, false, false, false, false], (bl_52_0, 1)) := bk_of pk_52 rfl
theorem bk_52_1 : bk_ am_prog 52 1 = some ([true, true, true, true, true, false, false, false, false, false], (bl_52_1, 9999)) := bk_of pk_52 rfl
theorem bk_52_2 : bk_ am_prog 52 2 = some ([true, true, true, true, true, false, false, false, false, false], (bl_52_2, 3)) := bk_of pk_52 rfl
theorem bk_52_3 : bk_ am_prog 52 3 = some ([true, true, true, true, true, true, true, true, true, false], (bl_52_3, 9999)) := bk_of pk_52 rfl
theorem bk_52_4 : bk_ am_prog 52 4 = some ([true, true, true, true, true, true, true, true, true, false], (bl_52_4, 9999)) := bk_of pk_52 rfl
theorem bk_52_5 : bk_ am_prog 52 5 = some ([true, true, true, true, true, true, true, true, true, true], (bl_52_5, 9999)) := bk_of pk_52 rfl
theorem bk_52_6 : bk_ am_prog 52 6 = some ([true, true, true, true, true, true, true, true, true, true], (bl_52_6, 9999)) := bk_of pk_52 rfl
theorem bk_52_7 : bk_ am_prog 52 7 = some ([true, true, true, true, true, true, false, false, true, true], (bl_52_7, 8)) := bk_of pk_52 rfl
theorem bk_52_8 : bk_ am_prog 52 8 = some ([true, true, true, true, true, true, true, true, true, false], (bl_52_8, 9999)) := bk_of pk_52 rfl
theorem bk_52_9 : bk_ am_prog 52 9 = some ([true, true, true, true, true, false, true, false, false, false], (bl_52_9, 9999)) := bk_of pk_52 rfl
theorem bk_52_10 : bk_ am_prog 52 10 = some ([true, true, true, true, true, false, true, false, false, false], (bl_52_10, 9999)) := bk_of pk_52 rfl
theorem bk_52_11 : bk_ am_prog 52 11 = some ([true, true, true, true, true, false, true, false, false, false], (bl_52_11, 9999)) := bk_of pk_52 rfl
theorem bk_52_12 : bk_ am_prog 52 12 = some ([true, true, true, true, true, false, true, false, false, false], (bl_52_12, 13)) := bk_of pk_52 rfl
theorem bk_52_13 : bk_ am_prog 52 13 = some ([true, true, true, true, true, false, true, false, false, false], (bl_52_13, 9999)) := bk_of pk_52 rfl
theorem bk_52_14 : bk_ am_prog 52 14 = some ([true, true, true, true, true, false, false, false, false, false], (bl_52_14, 9999)) := bk_of pk_52 rfl
theorem bk_52_15 : bk_ am_prog 52 15 = some ([true, true, true, true, true, false, false, false, false, false], (bl_52_15, 9999)) := bk_of pk_52 rfl
theorem bk_52_16 : bk_ am_prog 52 16 = some ([true, true, true, true, true, false, false, false, true, false], (bl_52_16, 9999)) := bk_of pk_52 rfl
theorem bk_52_17 : bk_ am_prog 52 17 = some ([true, true, true, true, true, false, false, false, false, false], (bl_52_17, 18)) := bk_of pk_52 rfl
theorem bk_52_18 : bk_ am_prog 52 18 = some ([true, true, true, true, true, false, false, false, false, false], (bl_52_18, 9999)) := bk_of pk_52 rfl
theorem bk_52_19 : bk_ am_prog 52 19 = some ([false, false, true, false, false, false, false, false, false, false], (bl_52_19, 9999)) := bk_of pk_52 rfl
theorem jt_52_1 (h : am_H) (d5 d6 d7 d8 d9 : am_V) (x0 x1 x2 x3 x4 : Int) : JJ 52 1 [(20, x0), (0, x1), (0, x2), (0, x3), (0, x4), d5, d6, d7, d8, d9] [] h = Wo_gaps_1 h x0 x1 x2 x3 x4 := jj_of bk_52_1 _ _ h
theorem jt_52_3 (h : am_H) (d9 : am_V) (x0 x1 x2 x3 x4 x5 x6 x7 x8 : Int) : JJ 52 3 [(20, x0), (0, x1), (0, x2), (0, x3), (0, x4), (0, x5), (0, x6), (0, x7), (0, x8), d9] [] h = Wo_gaps_3 h x0 x1 x2 x3 x4 x5 x6 x7 x8 := jj_of bk_52_3 _ _ h
theorem jt_52_13 (h : am_H) (d5 d7 d8 d9 : am_V) (x0 x1 x2 x3 x4 x6 s0 : Int) : JJ 52 13 [(20, x0), (0, x1), (0, x2), (0, x3), (0, x4), d5, (0, x6), d7, d8, d9] [(0, s0)] h = Wo_gaps_13 h x0 x1 x2 x3 x4 x6 s0 := jj_of bk_52_13 _ _ h
theorem Wo_gaps_e (h : am_H) (x0 x1 : Int) : Wo_gaps h x0 x1 = Wo_gaps_1 h x0 x1 0 (w32 (x1 * 5)) 0 := (ff_of bk_52_0 [(20, x0), (0, x1), (9, 0), (9, 0), (9, 0), (9, 0), (9, 0), (9, 0), (9, 0), (9, 0)] [] h).trans (by
  show (JJ 52 1 [(20, x0), (0, x1), (0, 0), (0, w32 (x1 * 5)), (0, 0), (9, 0), (9, 0), (9, 0), (9, 0), (9, 0)] [] h) = _
  simp only [jt_52_1, ck_or1, ck_or2, rf_wr, ln_wr, nn_wr, rf_cp, ln_cp, nn_cp, ln_wf, nn_wf, rd_wf, nn_nw]
  try rfl)
theorem jt_52_19 (h : am_H) (d0 d1 d3 d4 d5 d6 d7 d8 d9 : am_V) (x2 : Int) : JJ 52 19 [d0, d1, (0, x2), d3, d4, d5, d6, d7, d8, d9] [] h = some (h, x2) := (jj_of bk_52_19 _ _ h).trans (ff_of bk_52_19 [(9, 0), (9, 0), (0, x2), (9, 0), (9, 0), (9, 0), (9, 0), (9, 0), (9, 0), (9, 0)] [] h)
set_option maxRecDepth 20000 in
theorem jt_52_2 (h : am_H) (d5 d6 d7 d8 d9 : am_V) (x0 x1 x2 x3 x4 : Int) : JJ 52 2 [(20, x0), (0, x1), (0, x2), (0, x3), (0, x4), d5, d6, d7, d8, d9] [] h = ck_ (0 ≤ x0) (ck_ (0 ≤ x0) (ck_ (0 ≤ (rf_ h x0 9)) (ck_ (0 ≤ (w32 (x3 + x4)) ∧ (w32 (x3 + x4)) < ln_ h (rf_ h x0 9)) (ck_ (0 ≤ (rf_ h x0 10)) (ck_ (0 ≤ (rd_ h (rf_ h x0 9) (w32 (x3 + x4))) ∧ (rd_ h (rf_ h x0 9) (w32 (x3 + x4))) < ln_ h (rf_ h x0 10)) (Wo_gaps_3 h x0 x1 x2 x3 x4 (rd_ h (rf_ h x0 10) (rd_ h (rf_ h x0 9) (w32 (x3 + x4)))) (-1) 0 0)))))) := (jj_of bk_52_2 _ _ h).trans ((ff_of bk_52_2 [(20, x0), (0, x1), (0, x2), (0, x3), (0, x4), (9, 0), (9, 0), (9, 0), (9, 0), (9, 0)] [] h).trans (by
  show (ck_ (0 ≤ x0) (ck_ (0 ≤ x0) (ck_ (0 ≤ (rf_ h x0 9)) (ck_ (0 ≤ (w32 (x3 + x4)) ∧ (w32 (x3 + x4)) < ln_ h (rf_ h x0 9)) (ck_ (0 ≤ (rf_ h x0 10)) (ck_ (0 ≤ (rd_ h (rf_ h x0 9) (w32 (x3 + x4))) ∧ (rd_ h (rf_ h x0 9) (w32 (x3 + x4))) < ln_ h (rf_ h x0 10)) (JJ 52 3 [(20, x0), (0, x1), (0, x2), (0, x3), (0, x4), (0, rd_ h (rf_ h x0 10) (rd_ h (rf_ h x0 9) (w32 (x3 + x4)))), (0, (-1)), (0, 0), (0, 0), (9, 0)] [] h))))))) = _
  simp only [jt_52_3, ck_or1, ck_or2, rf_wr, ln_wr, nn_wr, rf_cp, ln_cp, nn_cp, ln_wf, nn_wf, rd_wf, nn_nw]
  try rfl))
theorem Wo_gaps_1_e (h : am_H) (x0 x1 x2 x3 x4 : Int) : Wo_gaps_1 h x0 x1 x2 x3 x4 = ck_ (0 ≤ x0) (ck_ (0 ≤ (rf_ h x0 6)) (ck_ (0 ≤ x1 ∧ x1 < ln_ h (rf_ h x0 6)) (if (rd_ h (rf_ h x0 6) x1) ≤ x4 then some (h, x2) else ck_ (0 ≤ x0) (ck_ (0 ≤ x0) (ck_ (0 ≤ (rf_ h x0 9)) (ck_ (0 ≤ (w32 (x3 + x4)) ∧ (w32 (x3 + x4)) < ln_ h (rf_ h x0 9)) (ck_ (0 ≤ (rf_ h x0 10)) (ck_ (0 ≤ (rd_ h (rf_ h x0 9) (w32 (x3 + x4))) ∧ (rd_ h (rf_ h x0 9) (w32 (x3 + x4))) < ln_ h (rf_ h x0 10)) (Wo_gaps_3 h x0 x1 x2 x3 x4 (rd_ h (rf_ h x0 10) (rd_ h (rf_ h x0 9) (w32 (x3 + x4)))) (-1) 0 0))))))))) := (ff_of bk_52_1 [(20, x0), (0, x1), (0, x2), (0, x3), (0, x4), (9, 0), (9, 0), (9, 0), (9, 0), (9, 0)] [] h).trans (by
  show (ck_ (0 ≤ x0) (ck_ (0 ≤ (rf_ h x0 6)) (ck_ (0 ≤ x1 ∧ x1 < ln_ h (rf_ h x0 6)) (if (rd_ h (rf_ h x0 6) x1) ≤ x4 then JJ 52 19 [(20, x0), (0, x1), (0, x2), (0, x3), (0, x4), (9, 0), (9, 0), (9, 0), (9, 0), (9, 0)] [] h else JJ 52 2 [(20, x0), (0, x1), (0, x2), (0, x3), (0, x4), (9, 0), (9, 0), (9, 0), (9, 0), (9, 0)] [] h)))) = _
  simp only [jt_52_19, jt_52_2, ck_or1, ck_or2, rf_wr, ln_wr, nn_wr, rf_cp, ln_cp, nn_cp, ln_wf, nn_wf, rd_wf, nn_nw]
  try rfl)
theorem jt_52_11 (h : am_H) (d5 d7 d8 d9 : am_V) (x0 x1 x2 x3 x4 x6 : Int) : JJ 52 11 [(20, x0), (0, x1), (0, x2), (0, x3), (0, x4), d5, (0, x6), d7, d8, d9] [] h = Wo_gaps_13 h x0 x1 x2 x3 x4 x6 1 := (jj_of bk_52_11 _ _ h).trans ((ff_of bk_52_11 [(20, x0), (0, x1), (0, x2), (0, x3), (0, x4), (9, 0), (0, x6), (9, 0), (9, 0), (9, 0)] [] h).trans (by
  show (JJ 52 13 [(20, x0), (0, x1), (0, x2), (0, x3), (0, x4), (9, 0), (0, x6), (9, 0), (9, 0), (9, 0)] [(0, 1)] h) = _
  simp only [jt_52_13, ck_or1, ck_or2, rf_wr, ln_wr, nn_wr, rf_cp, ln_cp, nn_cp, ln_wf, nn_wf, rd_wf, nn_nw]
  try rfl))
theorem jt_52_12 (h : am_H) (d5 d7 d8 d9 : am_V) (x0 x1 x2 x3 x4 x6 : Int) : JJ 52 12 [(20, x0), (0, x1), (0, x2), (0, x3), (0, x4), d5, (0, x6), d7, d8, d9] [] h = Wo_gaps_13 h x0 x1 x2 x3 x4 x6 0 := (jj_of bk_52_12 _ _ h).trans ((ff_of bk_52_12 [(20, x0), (0, x1), (0, x2), (0, x3), (0, x4), (9, 0), (0, x6), (9, 0), (9, 0), (9, 0)] [] h).trans (by
  show (JJ 52 13 [(20, x0), (0, x1), (0, x2), (0, x3), (0, x4), (9, 0), (0, x6), (9, 0), (9, 0), (9, 0)] [(0, 0)] h) = _
  simp only [jt_52_13, ck_or1, ck_or2, rf_wr, ln_wr, nn_wr, rf_cp, ln_cp, nn_cp, ln_wf, nn_wf, rd_wf, nn_nw]
  try rfl))
theorem jt_52_10 (h : am_H) (d5 d7 d8 d9 : am_V) (x0 x1 x2 x3 x4 x6 : Int) : JJ 52 10 [(20, x0), (0, x1), (0, x2), (0, x3), (0, x4), d5, (0, x6), d7, d8, d9] [] h = if x6 ≠ (w32 (x4 + 1)) then Wo_gaps_13 h x0 x1 x2 x3 x4 x6 0 else Wo_gaps_13 h x0 x1 x2 x3 x4 x6 1 := (jj_of bk_52_10 _ _ h).trans ((ff_of bk_52_10 [(20, x0), (0, x1), (0, x2), (0, x3), (0, x4), (9, 0), (0, x6), (9, 0), (9, 0), (9, 0)] [] h).trans (by
  show (if x6 ≠ (w32 (x4 + 1)) then JJ 52 12 [(20, x0), (0, x1), (0, x2), (0, x3), (0, x4), (9, 0), (0, x6), (9, 0), (9, 0), (9, 0)] [] h else JJ 52 11 [(20, x0), (0, x1), (0, x2), (0, x3), (0, x4), (9, 0), (0, x6), (9, 0), (9, 0), (9, 0)] [] h) = _
  simp only [jt_52_11, jt_52_12, ck_or1, ck_or2, rf_wr, ln_wr, nn_wr, rf_cp, ln_cp, nn_cp, ln_wf, nn_wf, rd_wf, nn_nw]
  try rfl))
theorem jt_52_9 (h : am_H) (d5 d7 d8 d9 : am_V) (x0 x1 x2 x3 x4 x6 : Int) : JJ 52 9 [(20, x0), (0, x1), (0, x2), (0, x3), (0, x4), d5, (0, x6), d7, d8, d9] [] h = if x6 = (w32 (x4 - 1)) then Wo_gaps_13 h x0 x1 x2 x3 x4 x6 1 else if x6 ≠ (w32 (x4 + 1)) then Wo_gaps_13 h x0 x1 x2 x3 x4 x6 0 else Wo_gaps_13 h x0 x1 x2 x3 x4 x6 1 := (jj_of bk_52_9 _ _ h).trans ((ff_of bk_52_9 [(20, x0), (0, x1), (0, x2), (0, x3), (0, x4), (9, 0), (0, x6), (9, 0), (9, 0), (9, 0)] [] h).trans (by
  show (if x6 = (w32 (x4 - 1)) then JJ 52 11 [(20, x0), (0, x1), (0, x2), (0, x3), (0, x4), (9, 0), (0, x6), (9, 0), (9, 0), (9, 0)] [] h else JJ 52 10 [(20, x0), (0, x1), (0, x2), (0, x3), (0, x4), (9, 0), (0, x6), (9, 0), (9, 0), (9, 0)] [] h) = _
  simp only [jt_52_10, jt_52_11, ck_or1, ck_or2, rf_wr, ln_wr, nn_wr, rf_cp, ln_cp, nn_cp, ln_wf, nn_wf, rd_wf, nn_nw]
  try rfl))
theorem jt_52_8 (h : am_H) (d9 : am_V) (x0 x1 x2 x3 x4 x5 x6 x7 x8 : Int) : JJ 52 8 [(20, x0), (0, x1), (0, x2), (0, x3), (0, x4), (0, x5), (0, x6), (0, x7), (0, x8), d9] [] h = Wo_gaps_3 h x0 x1 x2 x3 x4 x5 x6 x7 (w32 (x8 + 1)) := (jj_of bk_52_8 _ _ h).trans ((ff_of bk_52_8 [(20, x0), (0, x1), (0, x2), (0, x3), (0, x4), (0, x5), (0, x6), (0, x7), (0, x8), (9, 0)] [] h).trans (by
  show (JJ 52 3 [(20, x0), (0, x1), (0, x2), (0, x3), (0, x4), (0, x5), (0, x6), (0, x7), (0, w32 (x8 + 1)), (9, 0)] [] h) = _
  simp only [jt_52_3, ck_or1, ck_or2, rf_wr, ln_wr, nn_wr, rf_cp, ln_cp, nn_cp, ln_wf, nn_wf, rd_wf, nn_nw]
  try rfl))
theorem jt_52_7 (h : am_H) (d6 d7 : am_V) (x0 x1 x2 x3 x4 x5 x8 x9 : Int) : JJ 52 7 [(20, x0), (0, x1), (0, x2), (0, x3), (0, x4), (0, x5), d6, d7, (0, x8), (0, x9)] [] h = Wo_gaps_3 h x0 x1 x2 x3 x4 x5 x8 x9 (w32 (x8 + 1)) := (jj_of bk_52_7 _ _ h).trans ((ff_of bk_52_7 [(20, x0), (0, x1), (0, x2), (0, x3), (0, x4), (0, x5), (9, 0), (9, 0), (0, x8), (0, x9)] [] h).trans (by
  show (JJ 52 8 [(20, x0), (0, x1), (0, x2), (0, x3), (0, x4), (0, x5), (0, x8), (0, x9), (0, x8), (0, x9)] [] h) = _
  simp only [jt_52_8, ck_or1, ck_or2, rf_wr, ln_wr, nn_wr, rf_cp, ln_cp, nn_cp, ln_wf, nn_wf, rd_wf, nn_nw]
  try rfl))
theorem jt_52_6 (h : am_H) (x0 x1 x2 x3 x4 x5 x6 x7 x8 x9 : Int) : JJ 52 6 [(20, x0), (0, x1), (0, x2), (0, x3), (0, x4), (0, x5), (0, x6), (0, x7), (0, x8), (0, x9)] [] h = if x7 ≤ x9 then Wo_gaps_3 h x0 x1 x2 x3 x4 x5 x6 x7 (w32 (x8 + 1)) else Wo_gaps_3 h x0 x1 x2 x3 x4 x5 x8 x9 (w32 (x8 + 1)) := (jj_of bk_52_6 _ _ h).trans ((ff_of bk_52_6 [(20, x0), (0, x1), (0, x2), (0, x3), (0, x4), (0, x5), (0, x6), (0, x7), (0, x8), (0, x9)] [] h).trans (by
  show (if x7 ≤ x9 then JJ 52 8 [(20, x0), (0, x1), (0, x2), (0, x3), (0, x4), (0, x5), (0, x6), (0, x7), (0, x8), (0, x9)] [] h else JJ 52 7 [(20, x0), (0, x1), (0, x2), (0, x3), (0, x4), (0, x5), (0, x6), (0, x7), (0, x8), (0, x9)] [] h) = _
  simp only [jt_52_7, jt_52_8, ck_or1, ck_or2, rf_wr, ln_wr, nn_wr, rf_cp, ln_cp, nn_cp, ln_wf, nn_wf, rd_wf, nn_nw]
  try rfl))
theorem jt_52_5 (h : am_H) (x0 x1 x2 x3 x4 x5 x6 x7 x8 x9 : Int) : JJ 52 5 [(20, x0), (0, x1), (0, x2), (0, x3), (0, x4), (0, x5), (0, x6), (0, x7), (0, x8), (0, x9)] [] h = if x6 = (-1) then Wo_gaps_3 h x0 x1 x2 x3 x4 x5 x8 x9 (w32 (x8 + 1)) else if x7 ≤ x9 then Wo_gaps_3 h x0 x1 x2 x3 x4 x5 x6 x7 (w32 (x8 + 1)) else Wo_gaps_3 h x0 x1 x2 x3 x4 x5 x8 x9 (w32 (x8 + 1)) := (jj_of bk_52_5 _ _ h).trans ((ff_of bk_52_5 [(20, x0), (0, x1), (0, x2), (0, x3), (0, x4), (0, x5), (0, x6), (0, x7), (0, x8), (0, x9)] [] h).trans (by
  show (if x6 = (-1) then JJ 52 7 [(20, x0), (0, x1), (0, x2), (0, x3), (0, x4), (0, x5), (0, x6), (0, x7), (0, x8), (0, x9)] [] h else JJ 52 6 [(20, x0), (0, x1), (0, x2), (0, x3), (0, x4), (0, x5), (0, x6), (0, x7), (0, x8), (0, x9)] [] h) = _
  simp only [jt_52_6, jt_52_7, ck_or1, ck_or2, rf_wr, ln_wr, nn_wr, rf_cp, ln_cp, nn_cp, ln_wf, nn_wf, rd_wf, nn_nw]
  try rfl))
set_option maxRecDepth 20000 in
theorem jt_52_4 (h : am_H) (d9 : am_V) (x0 x1 x2 x3 x4 x5 x6 x7 x8 : Int) : JJ 52 4 [(20, x0), (0, x1), (0, x2), (0, x3), (0, x4), (0, x5), (0, x6), (0, x7), (0, x8), d9] [] h = ck_ (0 ≤ x0) (ck_ (0 ≤ x0) (ck_ (0 ≤ (rf_ h x0 9)) (ck_ (0 ≤ (w32 (x3 + x8)) ∧ (w32 (x3 + x8)) < ln_ h (rf_ h x0 9)) (ck_ (0 ≤ (rf_ h x0 10)) (ck_ (0 ≤ (rd_ h (rf_ h x0 9) (w32 (x3 + x8))) ∧ (rd_ h (rf_ h x0 9) (w32 (x3 + x8))) < ln_ h (rf_ h x0 10)) (if (rd_ h (rf_ h x0 10) (rd_ h (rf_ h x0 9) (w32 (x3 + x8)))) ≤ x5 then Wo_gaps_3 h x0 x1 x2 x3 x4 x5 x6 x7 (w32 (x8 + 1)) else if x6 = (-1) then Wo_gaps_3 h x0 x1 x2 x3 x4 x5 x8 (rd_ h (rf_ h x0 10) (rd_ h (rf_ h x0 9) (w32 (x3 + x8)))) (w32 (x8 + 1)) else if x7 ≤ (rd_ h (rf_ h x0 10) (rd_ h (rf_ h x0 9) (w32 (x3 + x8)))) then Wo_gaps_3 h x0 x1 x2 x3 x4 x5 x6 x7 (w32 (x8 + 1)) else Wo_gaps_3 h x0 x1 x2 x3 x4 x5 x8 (rd_ h (rf_ h x0 10) (rd_ h (rf_ h x0 9) (w32 (x3 + x8)))) (w32 (x8 + 1)))))))) := (jj_of bk_52_4 _ _ h).trans ((ff_of bk_52_4 [(20, x0), (0, x1), (0, x2), (0, x3), (0, x4), (0, x5), (0, x6), (0, x7), (0, x8), (9, 0)] [] h).trans (by
  show (ck_ (0 ≤ x0) (ck_ (0 ≤ x0) (ck_ (0 ≤ (rf_ h x0 9)) (ck_ (0 ≤ (w32 (x3 + x8)) ∧ (w32 (x3 + x8)) < ln_ h (rf_ h x0 9)) (ck_ (0 ≤ (rf_ h x0 10)) (ck_ (0 ≤ (rd_ h (rf_ h x0 9) (w32 (x3 + x8))) ∧ (rd_ h (rf_ h x0 9) (w32 (x3 + x8))) < ln_ h (rf_ h x0 10)) (if (rd_ h (rf_ h x0 10) (rd_ h (rf_ h x0 9) (w32 (x3 + x8)))) ≤ x5 then JJ 52 8 [(20, x0), (0, x1), (0, x2), (0, x3), (0, x4), (0, x5), (0, x6), (0, x7), (0, x8), (0, rd_ h (rf_ h x0 10) (rd_ h (rf_ h x0 9) (w32 (x3 + x8))))] [] h else JJ 52 5 [(20, x0), (0, x1), (0, x2), (0, x3), (0, x4), (0, x5), (0, x6), (0, x7), (0, x8), (0, rd_ h (rf_ h x0 10) (rd_ h (rf_ h x0 9) (w32 (x3 + x8))))] [] h))))))) = _
  simp only [jt_52_5, jt_52_8, ck_or1, ck_or2, rf_wr, ln_wr, nn_wr, rf_cp, ln_cp, nn_cp, ln_wf, nn_wf, rd_wf, nn_nw]
  try rfl))
set_option maxRecDepth 20000 in
theorem Wo_gaps_3_e (h : am_H) (x0 x1 x2 x3 x4 x5 x6 x7 x8 : Int) : Wo_gaps_3 h x0 x1 x2 x3 x4 x5 x6 x7 x8 = ck_ (0 ≤ x0) (ck_ (0 ≤ (rf_ h x0 6)) (ck_ (0 ≤ x1 ∧ x1 < ln_ h (rf_ h x0 6)) (if (rd_ h (rf_ h x0 6) x1) ≤ x8 then (if x6 = (w32 (x4 - 1)) then Wo_gaps_13 h x0 x1 x2 x3 x4 x6 1 else if x6 ≠ (w32 (x4 + 1)) then Wo_gaps_13 h x0 x1 x2 x3 x4 x6 0 else Wo_gaps_13 h x0 x1 x2 x3 x4 x6 1) else ck_ (0 ≤ x0) (ck_ (0 ≤ x0) (ck_ (0 ≤ (rf_ h x0 9)) (ck_ (0 ≤ (w32 (x3 + x8)) ∧ (w32 (x3 + x8)) < ln_ h (rf_ h x0 9)) (ck_ (0 ≤ (rf_ h x0 10)) (ck_ (0 ≤ (rd_ h (rf_ h x0 9) (w32 (x3 + x8))) ∧ (rd_ h (rf_ h x0 9) (w32 (x3 + x8))) < ln_ h (rf_ h x0 10)) (if (rd_ h (rf_ h x0 10) (rd_ h (rf_ h x0 9) (w32 (x3 + x8)))) ≤ x5 then Wo_gaps_3 h x0 x1 x2 x3 x4 x5 x6 x7 (w32 (x8 + 1)) else if x6 = (-1) then Wo_gaps_3 h x0 x1 x2 x3 x4 x5 x8 (rd_ h (rf_ h x0 10) (rd_ h (rf_ h x0 9) (w32 (x3 + x8)))) (w32 (x8 + 1)) else if x7 ≤ (rd_ h (rf_ h x0 10) (rd_ h (rf_ h x0 9) (w32 (x3 + x8)))) then Wo_gaps_3 h x0 x1 x2 x3 x4 x5 x6 x7 (w32 (x8 + 1)) else Wo_gaps_3 h x0 x1 x2 x3 x4 x5 x8 (rd_ h (rf_ h x0 10) (rd_ h (rf_ h x0 9) (w32 (x3 + x8)))) (w32 (x8 + 1))))))))))) := (ff_of bk_52_3 [(20, x0), (0, x1), (0, x2), (0, x3), (0, x4), (0, x5), (0, x6), (0, x7), (0, x8), (9, 0)] [] h).trans (by
  show (ck_ (0 ≤ x0) (ck_ (0 ≤ (rf_ h x0 6)) (ck_ (0 ≤ x1 ∧ x1 < ln_ h (rf_ h x0 6)) (if (rd_ h (rf_ h x0 6) x1) ≤ x8 then JJ 52 9 [(20, x0), (0, x1), (0, x2), (0, x3), (0, x4), (0, x5), (0, x6), (0, x7), (0, x8), (9, 0)] [] h else JJ 52 4 [(20, x0), (0, x1), (0, x2), (0, x3), (0, x4), (0, x5), (0, x6), (0, x7), (0, x8), (9, 0)] [] h)))) = _
  simp only [jt_52_4, jt_52_9, ck_or1, ck_or2, rf_wr, ln_wr, nn_wr, rf_cp, ln_cp, nn_cp, ln_wf, nn_wf, rd_wf, nn_nw]
  try rfl)
theorem jt_52_18 (h : am_H) (d5 d6 d7 d8 d9 : am_V) (x0 x1 x2 x3 x4 : Int) : JJ 52 18 [(20, x0), (0, x1), (0, x2), (0, x3), (0, x4), d5, d6, d7, d8, d9] [] h = Wo_gaps_1 h x0 x1 x2 x3 (w32 (x4 + 1)) := (jj_of bk_52_18 _ _ h).trans ((ff_of bk_52_18 [(20, x0), (0, x1), (0, x2), (0, x3), (0, x4), (9, 0), (9, 0), (9, 0), (9, 0), (9, 0)] [] h).trans (by
  show (JJ 52 1 [(20, x0), (0, x1), (0, x2), (0, x3), (0, w32 (x4 + 1)), (9, 0), (9, 0), (9, 0), (9, 0), (9, 0)] [] h) = _
  simp only [jt_52_1, ck_or1, ck_or2, rf_wr, ln_wr, nn_wr, rf_cp, ln_cp, nn_cp, ln_wf, nn_wf, rd_wf, nn_nw]
  try rfl))
theorem jt_52_17 (h : am_H) (d5 d6 d7 d8 d9 : am_V) (x0 x1 x2 x3 x4 : Int) : JJ 52 17 [(20, x0), (0, x1), (0, x2), (0, x3), (0, x4), d5, d6, d7, d8, d9] [] h = Wo_gaps_1 h x0 x1 (w32 (x2 + 1)) x3 (w32 (x4 + 1)) := (jj_of bk_52_17 _ _ h).trans ((ff_of bk_52_17 [(20, x0), (0, x1), (0, x2), (0, x3), (0, x4), (9, 0), (9, 0), (9, 0), (9, 0), (9, 0)] [] h).trans (by
  show (JJ 52 18 [(20, x0), (0, x1), (0, w32 (x2 + 1)), (0, x3), (0, x4), (9, 0), (9, 0), (9, 0), (9, 0), (9, 0)] [] h) = _
  simp only [jt_52_18, ck_or1, ck_or2, rf_wr, ln_wr, nn_wr, rf_cp, ln_cp, nn_cp, ln_wf, nn_wf, rd_wf, nn_nw]
  try rfl))
theorem jt_52_16 (h : am_H) (d5 d6 d7 d9 : am_V) (x0 x1 x2 x3 x4 x8 : Int) : JJ 52 16 [(20, x0), (0, x1), (0, x2), (0, x3), (0, x4), d5, d6, d7, (0, x8), d9] [] h = if x8 ≠ 0 then Wo_gaps_1 h x0 x1 x2 x3 (w32 (x4 + 1)) else Wo_gaps_1 h x0 x1 (w32 (x2 + 1)) x3 (w32 (x4 + 1)) := (jj_of bk_52_16 _ _ h).trans ((ff_of bk_52_16 [(20, x0), (0, x1), (0, x2), (0, x3), (0, x4), (9, 0), (9, 0), (9, 0), (0, x8), (9, 0)] [] h).trans (by
  show (if x8 ≠ 0 then JJ 52 18 [(20, x0), (0, x1), (0, x2), (0, x3), (0, x4), (9, 0), (9, 0), (9, 0), (0, x8), (9, 0)] [] h else JJ 52 17 [(20, x0), (0, x1), (0, x2), (0, x3), (0, x4), (9, 0), (9, 0), (9, 0), (0, x8), (9, 0)] [] h) = _
  simp only [jt_52_17, jt_52_18, ck_or1, ck_or2, rf_wr, ln_wr, nn_wr, rf_cp, ln_cp, nn_cp, ln_wf, nn_wf, rd_wf, nn_nw]
  try rfl))
theorem jt_52_15 (h : am_H) (d5 d6 d7 d8 d9 : am_V) (x0 x1 x2 x3 x4 : Int) : JJ 52 15 [(20, x0), (0, x1), (0, x2), (0, x3), (0, x4), d5, d6, d7, d8, d9] [] h = Wo_gaps_1 h x0 x1 (w32 (x2 + 1)) x3 (w32 (x4 + 1)) := (jj_of bk_52_15 _ _ h).trans ((ff_of bk_52_15 [(20, x0), (0, x1), (0, x2), (0, x3), (0, x4), (9, 0), (9, 0), (9, 0), (9, 0), (9, 0)] [] h).trans (by
  show (JJ 52 17 [(20, x0), (0, x1), (0, x2), (0, x3), (0, x4), (9, 0), (9, 0), (9, 0), (9, 0), (9, 0)] [] h) = _
  simp only [jt_52_17, ck_or1, ck_or2, rf_wr, ln_wr, nn_wr, rf_cp, ln_cp, nn_cp, ln_wf, nn_wf, rd_wf, nn_nw]
  try rfl))
theorem jt_52_14 (h : am_H) (d5 d6 d7 d8 d9 : am_V) (x0 x1 x2 x3 x4 : Int) : JJ 52 14 [(20, x0), (0, x1), (0, x2), (0, x3), (0, x4), d5, d6, d7, d8, d9] [] h = ck_ (0 ≤ x0) (ck_ (0 ≤ (rf_ h x0 6)) (ck_ (0 ≤ x1 ∧ x1 < ln_ h (rf_ h x0 6)) (if x4 = (w32 ((rd_ h (rf_ h x0 6) x1) - 1)) then Wo_gaps_1 h x0 x1 x2 x3 (w32 (x4 + 1)) else Wo_gaps_1 h x0 x1 (w32 (x2 + 1)) x3 (w32 (x4 + 1))))) := (jj_of bk_52_14 _ _ h).trans ((ff_of bk_52_14 [(20, x0), (0, x1), (0, x2), (0, x3), (0, x4), (9, 0), (9, 0), (9, 0), (9, 0), (9, 0)] [] h).trans (by
  show (ck_ (0 ≤ x0) (ck_ (0 ≤ (rf_ h x0 6)) (ck_ (0 ≤ x1 ∧ x1 < ln_ h (rf_ h x0 6)) (if x4 = (w32 ((rd_ h (rf_ h x0 6) x1) - 1)) then JJ 52 18 [(20, x0), (0, x1), (0, x2), (0, x3), (0, x4), (9, 0), (9, 0), (9, 0), (9, 0), (9, 0)] [] h else JJ 52 15 [(20, x0), (0, x1), (0, x2), (0, x3), (0, x4), (9, 0), (9, 0), (9, 0), (9, 0), (9, 0)] [] h)))) = _
  simp only [jt_52_15, jt_52_18, ck_or1, ck_or2, rf_wr, ln_wr, nn_wr, rf_cp, ln_cp, nn_cp, ln_wf, nn_wf, rd_wf, nn_nw]
  try rfl))
theorem Wo_gaps_13_e (h : am_H) (x0 x1 x2 x3 x4 x6 s0 : Int) : Wo_gaps_13 h x0 x1 x2 x3 x4 x6 s0 = if x6 ≠ (-1) then (if s0 ≠ 0 then Wo_gaps_1 h x0 x1 x2 x3 (w32 (x4 + 1)) else Wo_gaps_1 h x0 x1 (w32 (x2 + 1)) x3 (w32 (x4 + 1))) else ck_ (0 ≤ x0) (ck_ (0 ≤ (rf_ h x0 6)) (ck_ (0 ≤ x1 ∧ x1 < ln_ h (rf_ h x0 6)) (if x4 = (w32 ((rd_ h (rf_ h x0 6) x1) - 1)) then Wo_gaps_1 h x0 x1 x2 x3 (w32 (x4 + 1)) else Wo_gaps_1 h x0 x1 (w32 (x2 + 1)) x3 (w32 (x4 + 1))))) := (ff_of bk_52_13 [(20, x0), (0, x1), (0, x2), (0, x3), (0, x4), (9, 0), (0, x6), (9, 0), (9, 0), (9, 0)] [(0, s0)] h).trans (by
  show (if x6 ≠ (-1) then JJ 52 16 [(20, x0), (0, x1), (0, x2), (0, x3), (0, x4), (9, 0), (0, x6), (9, 0), (0, s0), (9, 0)] [] h else JJ 52 14 [(20, x0), (0, x1), (0, x2), (0, x3), (0, x4), (9, 0), (0, x6), (9, 0), (0, s0), (9, 0)] [] h) = _
  simp only [jt_52_14, jt_52_16, ck_or1, ck_or2, rf_wr, ln_wr, nn_wr, rf_cp, ln_cp, nn_cp, ln_wf, nn_wf, rd_wf, nn_nw]
  try rfl)
theorem cc_52 (h : am_H) (x0 x1 : Int) : CC 52 [(20, x0), (0, x1)] h = Wo_gaps h x0 x1 := cc_of pk_52 _ h
theorem pk_53 : am_prog 53 = some cd_53 := rfl
theorem bk_53_0 : bk_ am_prog 53 0 = some ([true, true], (bl_53_0, 9999)) := bk_of pk_53 rfl
theorem bk_53_1 : bk_ am_prog 53 1 = some ([true, true], (bl_53_1, 9999)) := bk_of pk_53 rfl
theorem bk_53_2 : bk_ am_prog 53 2 = some ([false, false], (bl_53_2, 9999)) := bk_of pk_53 rfl
theorem bk_53_3 : bk_ am_prog 53 3 = some ([false, false], (bl_53_3, 4)) := bk_of pk_53 rfl
theorem bk_53_4 : bk_ am_prog 53 4 = some ([false, false], (bl_53_4, 9999)) := bk_of pk_53 rfl
theorem jt_53_4 (h : am_H) (d0 d1 : am_V) (s0 : Int) : JJ 53 4 [d0, d1] [(0, s0)] h = ck_ (s0 = 0 ∨ s0 = 1) (some (h, s0)) := (jj_of bk_53_4 _ _ h).trans (ff_of bk_53_4 [(9, 0), (9, 0)] [(0, s0)] h)
theorem jt_53_3 (h : am_H) (d0 d1 : am_V) : JJ 53 3 [d0, d1] [] h = some (h, 0) := (jj_of bk_53_3 _ _ h).trans ((ff_of bk_53_3 [(9, 0), (9, 0)] [] h).trans (by
  show (JJ 53 4 [(9, 0), (9, 0)] [(0, 0)] h) = _
  simp only [jt_53_4, ck_or1, ck_or2, rf_wr, ln_wr, nn_wr, rf_cp, ln_cp, nn_cp, ln_wf, nn_wf, rd_wf, nn_nw]
  try rfl))
theorem jt_53_2 (h : am_H) (d0 d1 : am_V) : JJ 53 2 [d0, d1] [] h = some (h, 1) := (jj_of bk_53_2 _ _ h).trans ((ff_of bk_53_2 [(9, 0), (9, 0)] [] h).trans (by
  show (JJ 53 4 [(9, 0), (9, 0)] [(0, 1)] h) = _
  simp only [jt_53_4, ck_or1, ck_or2, rf_wr, ln_wr, nn_wr, rf_cp, ln_cp, nn_cp, ln_wf, nn_wf, rd_wf, nn_nw]
  try rfl))
theorem jt_53_1 (h : am_H) (x0 x1 : Int) : JJ 53 1 [(20, x0), (0, x1)] [] h = ck_ (0 ≤ x0) (if (rd_ h x0 0) ≤ x1 then some (h, 0) else some (h, 1)) := (jj_of bk_53_1 _ _ h).trans ((ff_of bk_53_1 [(20, x0), (0, x1)] [] h).trans (by
  show (ck_ (0 ≤ x0) (if (rd_ h x0 0) ≤ x1 then JJ 53 3 [(20, x0), (0, x1)] [] h else JJ 53 2 [(20, x0), (0, x1)] [] h)) = _
  simp only [jt_53_2, jt_53_3, ck_or1, ck_or2, rf_wr, ln_wr, nn_wr, rf_cp, ln_cp, nn_cp, ln_wf, nn_wf, rd_wf, nn_nw]
  try rfl))
theorem Wo_hasMaid_e (h : am_H) (x0 x1 : Int) : Wo_hasMaid h x0 x1 = if x1 < 0 then some (h, 0) else ck_ (0 ≤ x0) (if (rd_ h x0 0) ≤ x1 then some (h, 0) else some (h, 1)) := (ff_of bk_53_0 [(20, x0), (0, x1)] [] h).trans (by
  show (if x1 < 0 then JJ 53 3 [(20, x0), (0, x1)] [] h else JJ 53 1 [(20, x0), (0, x1)] [] h) = _
  simp only [jt_53_1, jt_53_3, ck_or1, ck_or2, rf_wr, ln_wr, nn_wr, rf_cp, ln_cp, nn_cp, ln_wf, nn_wf, rd_wf, nn_nw]
  try rfl)
theorem cc_53 (h : am_H) (x0 x1 : Int) : CC 53 [(20, x0), (0, x1)] h = Wo_hasMaid h x0 x1 := cc_of pk_53 _ h
theorem pk_54 : am_prog 54 = some cd_54 := rfl
theorem bk_54_0 : bk_ am_prog 54 0 = some ([true, true], (bl_54_0, 9999)) := bk_of pk_54 rfl
theorem bk_54_1 : bk_ am_prog 54 1 = some ([true, true], (bl_54_1, 9999)) := bk_of pk_54 rfl
theorem bk_54_2 : bk_ am_prog 54 2 = some ([false, false], (bl_54_2, 9999)) := bk_of pk_54 rfl
theorem bk_54_3 : bk_ am_prog 54 3 = some ([false, false], (bl_54_3, 4)) := bk_of pk_54 rfl
theorem bk_54_4 : bk_ am_prog 54 4 = some ([false, false], (bl_54_4, 9999)) := bk_of pk_54 rfl
theorem jt_54_4 (h : am_H) (d0 d1 : am_V) (s0 : Int) : JJ 54 4 [d0, d1] [(0, s0)] h = ck_ (s0 = 0 ∨ s0 = 1) (some (h, s0)) := (jj_of bk_54_4 _ _ h).trans (ff_of bk_54_4 [(9, 0), (9, 0)] [(0, s0)] h)
theorem jt_54_3 (h : am_H) (d0 d1 : am_V) : JJ 54 3 [d0, d1] [] h = some (h, 0) := (jj_of bk_54_3 _ _ h).trans ((ff_of bk_54_3 [(9, 0), (9, 0)] [] h).trans (by
  show (JJ 54 4 [(9, 0), (9, 0)] [(0, 0)] h) = _
  simp only [jt_54_4, ck_or1, ck_or2, rf_wr, ln_wr, nn_wr, rf_cp, ln_cp, nn_cp, ln_wf, nn_wf, rd_wf, nn_nw]
  try rfl))
theorem jt_54_2 (h : am_H) (d0 d1 : am_V) : JJ 54 2 [d0, d1] [] h = some (h, 1) := (jj_of bk_54_2 _ _ h).trans ((ff_of bk_54_2 [(9, 0), (9, 0)] [] h).trans (by
  show (JJ 54 4 [(9, 0), (9, 0)] [(0, 1)] h) = _
  simp only [jt_54_4, ck_or1, ck_or2, rf_wr, ln_wr, nn_wr, rf_cp, ln_cp, nn_cp, ln_wf, nn_wf, rd_wf, nn_nw]
  try rfl))
theorem jt_54_1 (h : am_H) (x0 x1 : Int) : JJ 54 1 [(20, x0), (0, x1)] [] h = ck_ (0 ≤ x0) (if (rd_ h x0 1) ≤ x1 then some (h, 0) else some (h, 1)) := (jj_of bk_54_1 _ _ h).trans ((ff_of bk_54_1 [(20, x0), (0, x1)] [] h).trans (by
  show (ck_ (0 ≤ x0) (if (rd_ h x0 1) ≤ x1 then JJ 54 3 [(20, x0), (0, x1)] [] h else JJ 54 2 [(20, x0), (0, x1)] [] h)) = _
  simp only [jt_54_2, jt_54_3, ck_or1, ck_or2, rf_wr, ln_wr, nn_wr, rf_cp, ln_cp, nn_cp, ln_wf, nn_wf, rd_wf, nn_nw]
  try rfl))
theorem Wo_hasPile_e (h : am_H) (x0 x1 : Int) : Wo_hasPile h x0 x1 = if x1 < 0 then some (h, 0) else ck_ (0 ≤ x0) (if (rd_ h x0 1) ≤ x1 then some (h, 0) else some (h, 1)) := (ff_of bk_54_0 [(20, x0), (0, x1)] [] h).trans (by
  show (if x1 < 0 then JJ 54 3 [(20, x0), (0, x1)] [] h else JJ 54 1 [(20, x0), (0, x1)] [] h) = _
  simp only [jt_54_1, jt_54_3, ck_or1, ck_or2, rf_wr, ln_wr, nn_wr, rf_cp, ln_cp, nn_cp, ln_wf, nn_wf, rd_wf, nn_nw]
  try rfl)
theorem cc_54 (h : am_H) (x0 x1 : Int) : CC 54 [(20, x0), (0, x1)] h = Wo_hasPile h x0 x1 := cc_of pk_54 _ h
theorem pk_55 : am_prog 55 = some cd_55 := rfl
theorem bk_55_0 : bk_ am_prog 55 0 = some ([true, true, true], (bl_55_0, 9999)) := bk_of pk_55 rfl
theorem bk_55_1 : bk_ am_prog 55 1 = some ([true, true, true], (bl_55_1, 9999)) := bk_of pk_55 rfl
theorem bk_55_2 : bk_ am_prog 55 2 = some ([true, true, true], (bl_55_2, 9999)) := bk_of pk_55 rfl
theorem bk_55_3 : bk_ am_prog 55 3 = some ([true, true, true], (bl_55_3, 9999)) := bk_of pk_55 rfl
theorem bk_55_4 : bk_ am_prog 55 4 = some ([false, false, false], (bl_55_4, 9999)) := bk_of pk_55 rfl
theorem bk_55_5 : bk_ am_prog 55 5 = some ([true, true, true], (bl_55_5, 9999)) := bk_of pk_55 rfl
theorem jt_55_4 (h : am_H) (d0 d1 d2 : am_V) : JJ 55 4 [d0, d1, d2] [] h = some (h, (-1)) := (jj_of bk_55_4 _ _ h).trans (ff_of bk_55_4 [(9, 0), (9, 0), (9, 0)] [] h)
theorem jt_55_5 (h : am_H) (x0 x1 x2 : Int) : JJ 55 5 [(20, x0), (0, x1), (0, x2)] [] h = ck_ (0 ≤ x0) (ck_ (0 ≤ (rf_ h x0 9)) (ck_ (0 ≤ (w32 ((w32 (x1 * 5)) + x2)) ∧ (w32 ((w32 (x1 * 5)) + x2)) < ln_ h (rf_ h x0 9)) (some (h, rd_ h (rf_ h x0 9) (w32 ((w32 (x1 * 5)) + x2)))))) := (jj_of bk_55_5 _ _ h).trans (ff_of bk_55_5 [(20, x0), (0, x1), (0, x2)] [] h)
theorem jt_55_3 (h : am_H) (x0 x1 x2 : Int) : JJ 55 3 [(20, x0), (0, x1), (0, x2)] [] h = ck_ (0 ≤ x0) (ck_ (0 ≤ (rf_ h x0 6)) (ck_ (0 ≤ x1 ∧ x1 < ln_ h (rf_ h x0 6)) (if x2 < (rd_ h (rf_ h x0 6) x1) then ck_ (0 ≤ x0) (ck_ (0 ≤ (rf_ h x0 9)) (ck_ (0 ≤ (w32 ((w32 (x1 * 5)) + x2)) ∧ (w32 ((w32 (x1 * 5)) + x2)) < ln_ h (rf_ h x0 9)) (some (h, rd_ h (rf_ h x0 9) (w32 ((w32 (x1 * 5)) + x2)))))) else some (h, (-1))))) := (jj_of bk_55_3 _ _ h).trans ((ff_of bk_55_3 [(20, x0), (0, x1), (0, x2)] [] h).trans (by
  show (ck_ (0 ≤ x0) (ck_ (0 ≤ (rf_ h x0 6)) (ck_ (0 ≤ x1 ∧ x1 < ln_ h (rf_ h x0 6)) (if x2 < (rd_ h (rf_ h x0 6) x1) then JJ 55 5 [(20, x0), (0, x1), (0, x2)] [] h else JJ 55 4 [(20, x0), (0, x1), (0, x2)] [] h)))) = _
  simp only [jt_55_4, jt_55_5, ck_or1, ck_or2, rf_wr, ln_wr, nn_wr, rf_cp, ln_cp, nn_cp, ln_wf, nn_wf, rd_wf, nn_nw]
  try rfl))
theorem jt_55_2 (h : am_H) (x0 x1 x2 : Int) : JJ 55 2 [(20, x0), (0, x1), (0, x2)] [] h = if x2 < 0 then some (h, (-1)) else ck_ (0 ≤ x0) (ck_ (0 ≤ (rf_ h x0 6)) (ck_ (0 ≤ x1 ∧ x1 < ln_ h (rf_ h x0 6)) (if x2 < (rd_ h (rf_ h x0 6) x1) then ck_ (0 ≤ x0) (ck_ (0 ≤ (rf_ h x0 9)) (ck_ (0 ≤ (w32 ((w32 (x1 * 5)) + x2)) ∧ (w32 ((w32 (x1 * 5)) + x2)) < ln_ h (rf_ h x0 9)) (some (h, rd_ h (rf_ h x0 9) (w32 ((w32 (x1 * 5)) + x2)))))) else some (h, (-1))))) := (jj_of bk_55_2 _ _ h).trans ((ff_of bk_55_2 [(20, x0), (0, x1), (0, x2)] [] h).trans (by
  show (if x2 < 0 then JJ 55 4 [(20, x0), (0, x1), (0, x2)] [] h else JJ 55 3 [(20, x0), (0, x1), (0, x2)] [] h) = _
  simp only [jt_55_3, jt_55_4, ck_or1, ck_or2, rf_wr, ln_wr, nn_wr, rf_cp, ln_cp, nn_cp, ln_wf, nn_wf, rd_wf, nn_nw]
  try rfl))
theorem jt_55_1 (h : am_H) (x0 x1 x2 : Int) : JJ 55 1 [(20, x0), (0, x1), (0, x2)] [] h = ck_ (0 ≤ x0) (if (rd_ h x0 1) ≤ x1 then some (h, (-1)) else if x2 < 0 then some (h, (-1)) else ck_ (0 ≤ x0) (ck_ (0 ≤ (rf_ h x0 6)) (ck_ (0 ≤ x1 ∧ x1 < ln_ h (rf_ h x0 6)) (if x2 < (rd_ h (rf_ h x0 6) x1) then ck_ (0 ≤ x0) (ck_ (0 ≤ (rf_ h x0 9)) (ck_ (0 ≤ (w32 ((w32 (x1 * 5)) + x2)) ∧ (w32 ((w32 (x1 * 5)) + x2)) < ln_ h (rf_ h x0 9)) (some (h, rd_ h (rf_ h x0 9) (w32 ((w32 (x1 * 5)) + x2)))))) else some (h, (-1)))))) := (jj_of bk_55_1 _ _ h).trans ((ff_of bk_55_1 [(20, x0), (0, x1), (0, x2)] [] h).trans (by
  show (ck_ (0 ≤ x0) (if (rd_ h x0 1) ≤ x1 then JJ 55 4 [(20, x0), (0, x1), (0, x2)] [] h else JJ 55 2 [(20, x0), (0, x1), (0, x2)] [] h)) = _
  simp only [jt_55_2, jt_55_4, ck_or1, ck_or2, rf_wr, ln_wr, nn_wr, rf_cp, ln_cp, nn_cp, ln_wf, nn_wf, rd_wf, nn_nw]
  try rfl))
theorem Wo_plateAt_e (h : am_H) (x0 x1 x2 : Int) : Wo_plateAt h x0 x1 x2 = if x1 < 0 then some (h, (-1)) else ck_ (0 ≤ x0) (if (rd_ h x0 1) ≤ x1 then some (h, (-1)) else if x2 < 0 then some (h, (-1)) else ck_ (0 ≤ x0) (ck_ (0 ≤ (rf_ h x0 6)) (ck_ (0 ≤ x1 ∧ x1 < ln_ h (rf_ h x0 6)) (if x2 < (rd_ h (rf_ h x0 6) x1) then ck_ (0 ≤ x0) (ck_ (0 ≤ (rf_ h x0 9)) (ck_ (0 ≤ (w32 ((w32 (x1 * 5)) + x2)) ∧ (w32 ((w32 (x1 * 5)) + x2)) < ln_ h (rf_ h x0 9)) (some (h, rd_ h (rf_ h x0 9) (w32 ((w32 (x1 * 5)) + x2)))))) else some (h, (-1)))))) := (ff_of bk_55_0 [(20, x0), (0, x1), (0, x2)] [] h).trans (by
  show (if x1 < 0 then JJ 55 4 [(20, x0), (0, x1), (0, x2)] [] h else JJ 55 1 [(20, x0), (0, x1), (0, x2)] [] h) = _
  simp only [jt_55_1, jt_55_4, ck_or1, ck_or2, rf_wr, ln_wr, nn_wr, rf_cp, ln_cp, nn_cp, ln_wf, nn_wf, rd_wf, nn_nw]
  try rfl)
theorem cc_55 (h : am_H) (x0 x1 x2 : Int) : CC 55 [(20, x0), (0, x1), (0, x2)] h = Wo_plateAt h x0 x1 x2 := cc_of pk_55 _ h
theorem pk_56 : am_prog 56 = some cd_56 := rfl
theorem bk_56_0 : bk_ am_prog 56 0 = some ([true, true, true, false], (bl_56_0, 9999)) := bk_of pk_56 rfl
theorem bk_56_1 : bk_ am_prog 56 1 = some ([false, false, false, false], (bl_56_1, 9999)) := bk_of pk_56 rfl
theorem bk_56_2 : bk_ am_prog 56 2 = some ([true, false, false, true], (bl_56_2, 3)) := bk_of pk_56 rfl
theorem bk_56_3 : bk_ am_prog 56 3 = some ([false, false, false, false], (bl_56_3, 9999)) := bk_of pk_56 rfl
theorem jt_56_3 (h : am_H) (d0 d1 d2 d3 : am_V) (s0 : Int) : JJ 56 3 [d0, d1, d2, d3] [(0, s0)] h = some (h, s0) := (jj_of bk_56_3 _ _ h).trans (ff_of bk_56_3 [(9, 0), (9, 0), (9, 0), (9, 0)] [(0, s0)] h)
theorem jt_56_2 (h : am_H) (d1 d2 : am_V) (x0 x3 : Int) : JJ 56 2 [(20, x0), d1, d2, (0, x3)] [] h = ck_ (0 ≤ x0) (ck_ (0 ≤ (rf_ h x0 10)) (ck_ (0 ≤ x3 ∧ x3 < ln_ h (rf_ h x0 10)) (some (h, rd_ h (rf_ h x0 10) x3)))) := (jj_of bk_56_2 _ _ h).trans ((ff_of bk_56_2 [(20, x0), (9, 0), (9, 0), (0, x3)] [] h).trans (by
  show (ck_ (0 ≤ x0) (ck_ (0 ≤ (rf_ h x0 10)) (ck_ (0 ≤ x3 ∧ x3 < ln_ h (rf_ h x0 10)) (JJ 56 3 [(20, x0), (9, 0), (9, 0), (0, x3)] [(0, rd_ h (rf_ h x0 10) x3)] h)))) = _
  simp only [jt_56_3, ck_or1, ck_or2, rf_wr, ln_wr, nn_wr, rf_cp, ln_cp, nn_cp, ln_wf, nn_wf, rd_wf, nn_nw]
  try rfl))
theorem jt_56_1 (h : am_H) (d0 d1 d2 d3 : am_V) : JJ 56 1 [d0, d1, d2, d3] [] h = some (h, 0) := (jj_of bk_56_1 _ _ h).trans ((ff_of bk_56_1 [(9, 0), (9, 0), (9, 0), (9, 0)] [] h).trans (by
  show (JJ 56 3 [(9, 0), (9, 0), (9, 0), (9, 0)] [(0, 0)] h) = _
  simp only [jt_56_3, ck_or1, ck_or2, rf_wr, ln_wr, nn_wr, rf_cp, ln_cp, nn_cp, ln_wf, nn_wf, rd_wf, nn_nw]
  try rfl))
theorem Wo_sizeAt_e (h : am_H) (x0 x1 x2 : Int) : Wo_sizeAt h x0 x1 x2 = ck_ (0 ≤ x0) (bd_ (Wo_plateAt h x0 x1 x2) fun h1 v2 => if 0 ≤ v2 then ck_ (0 ≤ x0) (ck_ (0 ≤ (rf_ h1 x0 10)) (ck_ (0 ≤ v2 ∧ v2 < ln_ h1 (rf_ h1 x0 10)) (some (h1, rd_ h1 (rf_ h1 x0 10) v2)))) else some (h1, 0)) := (ff_of bk_56_0 [(20, x0), (0, x1), (0, x2), (9, 0)] [] h).trans (by
  show (ck_ (0 ≤ x0) (bd_ (CC 55 [(20, x0), (0, x1), (0, x2)] h) fun h1 v2 => if 0 ≤ v2 then JJ 56 2 [(20, x0), (0, x1), (0, x2), (0, v2)] [] h1 else JJ 56 1 [(20, x0), (0, x1), (0, x2), (0, v2)] [] h1)) = _
  simp only [cc_55, jt_56_1, jt_56_2, ck_or1, ck_or2, rf_wr, ln_wr, nn_wr, rf_cp, ln_cp, nn_cp, ln_wf, nn_wf, rd_wf, nn_nw]
  try rfl)
theorem cc_56 (h : am_H) (x0 x1 x2 : Int) : CC 56 [(20, x0), (0, x1), (0, x2)] h = Wo_sizeAt h x0 x1 x2 := cc_of pk_56 _ h
theorem pk_57 : am_prog 57 = some cd_57 := rfl
theorem bk_57_0 : bk_ am_prog 57 0 = some ([true, true, true], (bl_57_0, 9999)) := bk_of pk_57 rfl
theorem bk_57_1 : bk_ am_prog 57 1 = some ([true, false, true], (bl_57_1, 9999)) := bk_of pk_57 rfl
theorem bk_57_2 : bk_ am_prog 57 2 = some ([false, false, false], (bl_57_2, 9999)) := bk_of pk_57 rfl
theorem bk_57_3 : bk_ am_prog 57 3 = some ([true, false, false], (bl_57_3, 4)) := bk_of pk_57 rfl
theorem bk_57_4 : bk_ am_prog 57 4 = some ([false, false, false], (bl_57_4, 9999)) := bk_of pk_57 rfl
theorem bk_57_5 : bk_ am_prog 57 5 = some ([true, false, false], (bl_57_5, 9999)) := bk_of pk_57 rfl
theorem bk_57_6 : bk_ am_prog 57 6 = some ([true, false, false], (bl_57_6, 9999)) := bk_of pk_57 rfl
theorem bk_57_7 : bk_ am_prog 57 7 = some ([true, false, false], (bl_57_7, 9999)) := bk_of pk_57 rfl
theorem bk_57_8 : bk_ am_prog 57 8 = some ([false, false, false], (bl_57_8, 9)) := bk_of pk_57 rfl
theorem bk_57_9 : bk_ am_prog 57 9 = some ([false, false, false], (bl_57_9, 9999)) := bk_of pk_57 rfl
theorem bk_57_10 : bk_ am_prog 57 10 = some ([true, false, false], (bl_57_10, 9999)) := bk_of pk_57 rfl
theorem bk_57_11 : bk_ am_prog 57 11 = some ([true, false, false], (bl_57_11, 9999)) := bk_of pk_57 rfl
theorem bk_57_12 : bk_ am_prog 57 12 = some ([false, false, false], (bl_57_12, 13)) := bk_of pk_57 rfl
theorem bk_57_13 : bk_ am_prog 57 13 = some ([false, false, false], (bl_57_13, 9999)) := bk_of pk_57 rfl
theorem bk_57_14 : bk_ am_prog 57 14 = some ([true, false, false], (bl_57_14, 9999)) := bk_of pk_57 rfl
theorem bk_57_15 : bk_ am_prog 57 15 = some ([true, false, false], (bl_57_15, 9999)) := bk_of pk_57 rfl
theorem bk_57_16 : bk_ am_prog 57 16 = some ([false, false, false], (bl_57_16, 17)) := bk_of pk_57 rfl
theorem bk_57_17 : bk_ am_prog 57 17 = some ([false, false, false], (bl_57_17, 9999)) := bk_of pk_57 rfl
theorem bk_57_18 : bk_ am_prog 57 18 = some ([true, false, false], (bl_57_18, 9999)) := bk_of pk_57 rfl
theorem bk_57_19 : bk_ am_prog 57 19 = some ([true, false, false], (bl_57_19, 9999)) := bk_of pk_57 rfl
theorem bk_57_20 : bk_ am_prog 57 20 = some ([false, false, false], (bl_57_20, 21)) := bk_of pk_57 rfl
theorem bk_57_21 : bk_ am_prog 57 21 = some ([false, false, false], (bl_57_21, 9999)) := bk_of pk_57 rfl
theorem bk_57_22 : bk_ am_prog 57 22 = some ([true, false, false], (bl_57_22, 9999)) := bk_of pk_57 rfl
theorem jt_57_22 (h : am_H) (d1 d2 : am_V) (x0 : Int) : JJ 57 22 [(13, x0), d1, d2] [] h = ck_ (0 ≤ x0) (ck_ (0 ≤ (rf_ h x0 2)) (some (h, rd_ h (rf_ h x0 2) 3))) := (jj_of bk_57_22 _ _ h).trans (ff_of bk_57_22 [(13, x0), (9, 0), (9, 0)] [] h)
theorem jt_57_4 (h : am_H) (d0 d1 d2 : am_V) (s0 s1 s2 : Int) : JJ 57 4 [d0, d1, d2] [(0, s0), (0, s1), (20, s2)] h = ck_ (0 ≤ s2) (bd_ (Wo_sizeAt h s2 s1 s0) fun h1 v2 => some (h1, v2)) := (jj_of bk_57_4 _ _ h).trans ((ff_of bk_57_4 [(9, 0), (9, 0), (9, 0)] [(0, s0), (0, s1), (20, s2)] h).trans (by
  show (ck_ (0 ≤ s2) (bd_ (CC 56 [(20, s2), (0, s1), (0, s0)] h) fun h1 v2 => some (h1, v2))) = _
  simp only [cc_56, ck_or1, ck_or2, rf_wr, ln_wr, nn_wr, rf_cp, ln_cp, nn_cp, ln_wf, nn_wf, rd_wf, nn_nw]
  try rfl))
theorem jt_57_3 (h : am_H) (d1 d2 : am_V) (x0 s0 s1 : Int) : JJ 57 3 [(13, x0), d1, d2] [(0, s0), (20, s1)] h = ck_ (0 ≤ x0) (ck_ (0 ≤ s1) (bd_ (Wo_sizeAt h s1 s0 (w32 ((rd_ h x0 5) - 1))) fun h1 v2 => some (h1, v2))) := (jj_of bk_57_3 _ _ h).trans ((ff_of bk_57_3 [(13, x0), (9, 0), (9, 0)] [(0, s0), (20, s1)] h).trans (by
  show (ck_ (0 ≤ x0) (JJ 57 4 [(13, x0), (9, 0), (9, 0)] [(0, w32 ((rd_ h x0 5) - 1)), (0, s0), (20, s1)] h)) = _
  simp only [jt_57_4, ck_or1, ck_or2, rf_wr, ln_wr, nn_wr, rf_cp, ln_cp, nn_cp, ln_wf, nn_wf, rd_wf, nn_nw]
  try rfl))
theorem jt_57_2 (h : am_H) (d0 d1 d2 : am_V) (s0 s1 : Int) : JJ 57 2 [d0, d1, d2] [(0, s0), (20, s1)] h = ck_ (0 ≤ s1) (bd_ (Wo_sizeAt h s1 s0 0) fun h1 v2 => some (h1, v2)) := (jj_of bk_57_2 _ _ h).trans ((ff_of bk_57_2 [(9, 0), (9, 0), (9, 0)] [(0, s0), (20, s1)] h).trans (by
  show (JJ 57 4 [(9, 0), (9, 0), (9, 0)] [(0, 0), (0, s0), (20, s1)] h) = _
  simp only [jt_57_4, ck_or1, ck_or2, rf_wr, ln_wr, nn_wr, rf_cp, ln_cp, nn_cp, ln_wf, nn_wf, rd_wf, nn_nw]
  try rfl))
theorem jt_57_1 (h : am_H) (d1 : am_V) (x0 x2 : Int) : JJ 57 1 [(13, x0), d1, (0, x2)] [] h = ck_ (0 ≤ x0) (ck_ (0 ≤ x0) (if x2 ≠ 1 then ck_ (0 ≤ x0) (ck_ (0 ≤ (rf_ h x0 2)) (bd_ (Wo_sizeAt h (rf_ h x0 2) (rd_ h x0 4) (w32 ((rd_ h x0 5) - 1))) fun h1 v2 => some (h1, v2))) else ck_ (0 ≤ (rf_ h x0 2)) (bd_ (Wo_sizeAt h (rf_ h x0 2) (rd_ h x0 4) 0) fun h3 v4 => some (h3, v4)))) := (jj_of bk_57_1 _ _ h).trans ((ff_of bk_57_1 [(13, x0), (9, 0), (0, x2)] [] h).trans (by
  show (ck_ (0 ≤ x0) (ck_ (0 ≤ x0) (if x2 ≠ 1 then JJ 57 3 [(13, x0), (9, 0), (0, x2)] [(0, rd_ h x0 4), (20, rf_ h x0 2)] h else JJ 57 2 [(13, x0), (9, 0), (0, x2)] [(0, rd_ h x0 4), (20, rf_ h x0 2)] h))) = _
  simp only [jt_57_2, jt_57_3, ck_or1, ck_or2, rf_wr, ln_wr, nn_wr, rf_cp, ln_cp, nn_cp, ln_wf, nn_wf, rd_wf, nn_nw]
  try rfl))
theorem jt_57_5 (h : am_H) (d1 d2 : am_V) (x0 : Int) : JJ 57 5 [(13, x0), d1, d2] [] h = ck_ (0 ≤ x0) (some (h, rd_ h x0 5)) := (jj_of bk_57_5 _ _ h).trans (ff_of bk_57_5 [(13, x0), (9, 0), (9, 0)] [] h)
theorem jt_57_9 (h : am_H) (d0 d1 d2 : am_V) (s0 : Int) : JJ 57 9 [d0, d1, d2] [(1, s0)] h = some (h, s0) := (jj_of bk_57_9 _ _ h).trans (ff_of bk_57_9 [(9, 0), (9, 0), (9, 0)] [(1, s0)] h)
theorem jt_57_8 (h : am_H) (d0 d1 d2 : am_V) : JJ 57 8 [d0, d1, d2] [] h = some (h, 0) := (jj_of bk_57_8 _ _ h).trans ((ff_of bk_57_8 [(9, 0), (9, 0), (9, 0)] [] h).trans (by
  show (JJ 57 9 [(9, 0), (9, 0), (9, 0)] [(1, 0)] h) = _
  simp only [jt_57_9, ck_or1, ck_or2, rf_wr, ln_wr, nn_wr, rf_cp, ln_cp, nn_cp, ln_wf, nn_wf, rd_wf, nn_nw]
  try rfl))
theorem jt_57_7 (h : am_H) (d1 d2 : am_V) (x0 : Int) : JJ 57 7 [(13, x0), d1, d2] [] h = ck_ (0 ≤ x0) (ck_ (0 ≤ (rf_ h x0 2)) (ck_ (0 ≤ x0) (ck_ (0 ≤ (rf_ h (rf_ h x0 2) 6)) (ck_ (0 ≤ (rd_ h x0 4) ∧ (rd_ h x0 4) < ln_ h (rf_ h (rf_ h x0 2) 6)) (some (h, rd_ h (rf_ h (rf_ h x0 2) 6) (rd_ h x0 4))))))) := (jj_of bk_57_7 _ _ h).trans ((ff_of bk_57_7 [(13, x0), (9, 0), (9, 0)] [] h).trans (by
  show (ck_ (0 ≤ x0) (ck_ (0 ≤ (rf_ h x0 2)) (ck_ (0 ≤ x0) (ck_ (0 ≤ (rf_ h (rf_ h x0 2) 6)) (ck_ (0 ≤ (rd_ h x0 4) ∧ (rd_ h x0 4) < ln_ h (rf_ h (rf_ h x0 2) 6)) (JJ 57 9 [(13, x0), (9, 0), (9, 0)] [(1, rd_ h (rf_ h (rf_ h x0 2) 6) (rd_ h x0 4))] h)))))) = _
  simp only [jt_57_9, ck_or1, ck_or2, rf_wr, ln_wr, nn_wr, rf_cp, ln_cp, nn_cp, ln_wf, nn_wf, rd_wf, nn_nw]
  try rfl))
theorem jt_57_6 (h : am_H) (d1 d2 : am_V) (x0 : Int) : JJ 57 6 [(13, x0), d1, d2] [] h = ck_ (0 ≤ x0) (ck_ (0 ≤ x0) (ck_ (0 ≤ (rf_ h x0 2)) (bd_ (Wo_hasPile h (rf_ h x0 2) (rd_ h x0 4)) fun h1 v2 => if v2 = 0 then some (h1, 0) else ck_ (0 ≤ x0) (ck_ (0 ≤ (rf_ h1 x0 2)) (ck_ (0 ≤ x0) (ck_ (0 ≤ (rf_ h1 (rf_ h1 x0 2) 6)) (ck_ (0 ≤ (rd_ h1 x0 4) ∧ (rd_ h1 x0 4) < ln_ h1 (rf_ h1 (rf_ h1 x0 2) 6)) (some (h1, rd_ h1 (rf_ h1 (rf_ h1 x0 2) 6) (rd_ h1 x0 4)))))))))) := (jj_of bk_57_6 _ _ h).trans ((ff_of bk_57_6 [(13, x0), (9, 0), (9, 0)] [] h).trans (by
  show (ck_ (0 ≤ x0) (ck_ (0 ≤ x0) (ck_ (0 ≤ (rf_ h x0 2)) (bd_ (CC 54 [(20, rf_ h x0 2), (0, rd_ h x0 4)] h) fun h1 v2 => if v2 = 0 then JJ 57 8 [(13, x0), (9, 0), (9, 0)] [] h1 else JJ 57 7 [(13, x0), (9, 0), (9, 0)] [] h1)))) = _
  simp only [cc_54, jt_57_7, jt_57_8, ck_or1, ck_or2, rf_wr, ln_wr, nn_wr, rf_cp, ln_cp, nn_cp, ln_wf, nn_wf, rd_wf, nn_nw]
  try rfl))
theorem jt_57_13 (h : am_H) (d0 d1 d2 : am_V) (s0 : Int) : JJ 57 13 [d0, d1, d2] [(1, s0)] h = some (h, s0) := (jj_of bk_57_13 _ _ h).trans (ff_of bk_57_13 [(9, 0), (9, 0), (9, 0)] [(1, s0)] h)
theorem jt_57_12 (h : am_H) (d0 d1 d2 : am_V) : JJ 57 12 [d0, d1, d2] [] h = some (h, 0) := (jj_of bk_57_12 _ _ h).trans ((ff_of bk_57_12 [(9, 0), (9, 0), (9, 0)] [] h).trans (by
  show (JJ 57 13 [(9, 0), (9, 0), (9, 0)] [(1, 0)] h) = _
  simp only [jt_57_13, ck_or1, ck_or2, rf_wr, ln_wr, nn_wr, rf_cp, ln_cp, nn_cp, ln_wf, nn_wf, rd_wf, nn_nw]
  try rfl))
theorem jt_57_11 (h : am_H) (d1 d2 : am_V) (x0 : Int) : JJ 57 11 [(13, x0), d1, d2] [] h = ck_ (0 ≤ x0) (ck_ (0 ≤ (rf_ h x0 1)) (ck_ (0 ≤ x0) (ck_ (0 ≤ (rf_ h (rf_ h x0 1) 8)) (ck_ (0 ≤ (rd_ h x0 3) ∧ (rd_ h x0 3) < ln_ h (rf_ h (rf_ h x0 1) 8)) (some (h, rd_ h (rf_ h (rf_ h x0 1) 8) (rd_ h x0 3))))))) := (jj_of bk_57_11 _ _ h).trans ((ff_of bk_57_11 [(13, x0), (9, 0), (9, 0)] [] h).trans (by
  show (ck_ (0 ≤ x0) (ck_ (0 ≤ (rf_ h x0 1)) (ck_ (0 ≤ x0) (ck_ (0 ≤ (rf_ h (rf_ h x0 1) 8)) (ck_ (0 ≤ (rd_ h x0 3) ∧ (rd_ h x0 3) < ln_ h (rf_ h (rf_ h x0 1) 8)) (JJ 57 13 [(13, x0), (9, 0), (9, 0)] [(1, rd_ h (rf_ h (rf_ h x0 1) 8) (rd_ h x0 3))] h)))))) = _
  simp only [jt_57_13, ck_or1, ck_or2, rf_wr, ln_wr, nn_wr, rf_cp, ln_cp, nn_cp, ln_wf, nn_wf, rd_wf, nn_nw]
  try rfl))
theorem jt_57_10 (h : am_H) (d1 d2 : am_V) (x0 : Int) : JJ 57 10 [(13, x0), d1, d2] [] h = ck_ (0 ≤ x0) (ck_ (0 ≤ x0) (ck_ (0 ≤ (rf_ h x0 2)) (bd_ (Wo_hasMaid h (rf_ h x0 2) (rd_ h x0 3)) fun h1 v2 => if v2 = 0 then some (h1, 0) else ck_ (0 ≤ x0) (ck_ (0 ≤ (rf_ h1 x0 1)) (ck_ (0 ≤ x0) (ck_ (0 ≤ (rf_ h1 (rf_ h1 x0 1) 8)) (ck_ (0 ≤ (rd_ h1 x0 3) ∧ (rd_ h1 x0 3) < ln_ h1 (rf_ h1 (rf_ h1 x0 1) 8)) (some (h1, rd_ h1 (rf_ h1 (rf_ h1 x0 1) 8) (rd_ h1 x0 3)))))))))) := (jj_of bk_57_10 _ _ h).trans ((ff_of bk_57_10 [(13, x0), (9, 0), (9, 0)] [] h).trans (by
  show (ck_ (0 ≤ x0) (ck_ (0 ≤ x0) (ck_ (0 ≤ (rf_ h x0 2)) (bd_ (CC 53 [(20, rf_ h x0 2), (0, rd_ h x0 3)] h) fun h1 v2 => if v2 = 0 then JJ 57 12 [(13, x0), (9, 0), (9, 0)] [] h1 else JJ 57 11 [(13, x0), (9, 0), (9, 0)] [] h1)))) = _
  simp only [cc_53, jt_57_11, jt_57_12, ck_or1, ck_or2, rf_wr, ln_wr, nn_wr, rf_cp, ln_cp, nn_cp, ln_wf, nn_wf, rd_wf, nn_nw]
  try rfl))
theorem jt_57_17 (h : am_H) (d0 d1 d2 : am_V) (s0 : Int) : JJ 57 17 [d0, d1, d2] [(1, s0)] h = some (h, s0) := (jj_of bk_57_17 _ _ h).trans (ff_of bk_57_17 [(9, 0), (9, 0), (9, 0)] [(1, s0)] h)
theorem jt_57_16 (h : am_H) (d0 d1 d2 : am_V) : JJ 57 16 [d0, d1, d2] [] h = some (h, 0) := (jj_of bk_57_16 _ _ h).trans ((ff_of bk_57_16 [(9, 0), (9, 0), (9, 0)] [] h).trans (by
  show (JJ 57 17 [(9, 0), (9, 0), (9, 0)] [(1, 0)] h) = _
  simp only [jt_57_17, ck_or1, ck_or2, rf_wr, ln_wr, nn_wr, rf_cp, ln_cp, nn_cp, ln_wf, nn_wf, rd_wf, nn_nw]
  try rfl))
theorem jt_57_15 (h : am_H) (d1 d2 : am_V) (x0 : Int) : JJ 57 15 [(13, x0), d1, d2] [] h = ck_ (0 ≤ x0) (ck_ (0 ≤ (rf_ h x0 2)) (ck_ (0 ≤ x0) (ck_ (0 ≤ (rf_ h (rf_ h x0 2) 8)) (ck_ (0 ≤ (rd_ h x0 3) ∧ (rd_ h x0 3) < ln_ h (rf_ h (rf_ h x0 2) 8)) (some (h, rd_ h (rf_ h (rf_ h x0 2) 8) (rd_ h x0 3))))))) := (jj_of bk_57_15 _ _ h).trans ((ff_of bk_57_15 [(13, x0), (9, 0), (9, 0)] [] h).trans (by
  show (ck_ (0 ≤ x0) (ck_ (0 ≤ (rf_ h x0 2)) (ck_ (0 ≤ x0) (ck_ (0 ≤ (rf_ h (rf_ h x0 2) 8)) (ck_ (0 ≤ (rd_ h x0 3) ∧ (rd_ h x0 3) < ln_ h (rf_ h (rf_ h x0 2) 8)) (JJ 57 17 [(13, x0), (9, 0), (9, 0)] [(1, rd_ h (rf_ h (rf_ h x0 2) 8) (rd_ h x0 3))] h)))))) = _
  simp only [jt_57_17, ck_or1, ck_or2, rf_wr, ln_wr, nn_wr, rf_cp, ln_cp, nn_cp, ln_wf, nn_wf, rd_wf, nn_nw]
  try rfl))
theorem jt_57_14 (h : am_H) (d1 d2 : am_V) (x0 : Int) : JJ 57 14 [(13, x0), d1, d2] [] h = ck_ (0 ≤ x0) (ck_ (0 ≤ x0) (ck_ (0 ≤ (rf_ h x0 2)) (bd_ (Wo_hasMaid h (rf_ h x0 2) (rd_ h x0 3)) fun h1 v2 => if v2 = 0 then some (h1, 0) else ck_ (0 ≤ x0) (ck_ (0 ≤ (rf_ h1 x0 2)) (ck_ (0 ≤ x0) (ck_ (0 ≤ (rf_ h1 (rf_ h1 x0 2) 8)) (ck_ (0 ≤ (rd_ h1 x0 3) ∧ (rd_ h1 x0 3) < ln_ h1 (rf_ h1 (rf_ h1 x0 2) 8)) (some (h1, rd_ h1 (rf_ h1 (rf_ h1 x0 2) 8) (rd_ h1 x0 3)))))))))) := (jj_of bk_57_14 _ _ h).trans ((ff_of bk_57_14 [(13, x0), (9, 0), (9, 0)] [] h).trans (by
  show (ck_ (0 ≤ x0) (ck_ (0 ≤ x0) (ck_ (0 ≤ (rf_ h x0 2)) (bd_ (CC 53 [(20, rf_ h x0 2), (0, rd_ h x0 3)] h) fun h1 v2 => if v2 = 0 then JJ 57 16 [(13, x0), (9, 0), (9, 0)] [] h1 else JJ 57 15 [(13, x0), (9, 0), (9, 0)] [] h1)))) = _
  simp only [cc_53, jt_57_15, jt_57_16, ck_or1, ck_or2, rf_wr, ln_wr, nn_wr, rf_cp, ln_cp, nn_cp, ln_wf, nn_wf, rd_wf, nn_nw]
  try rfl))
theorem jt_57_21 (h : am_H) (d0 d1 d2 : am_V) (s0 : Int) : JJ 57 21 [d0, d1, d2] [(1, s0)] h = some (h, s0) := (jj_of bk_57_21 _ _ h).trans (ff_of bk_57_21 [(9, 0), (9, 0), (9, 0)] [(1, s0)] h)
theorem jt_57_20 (h : am_H) (d0 d1 d2 : am_V) : JJ 57 20 [d0, d1, d2] [] h = some (h, 0) := (jj_of bk_57_20 _ _ h).trans ((ff_of bk_57_20 [(9, 0), (9, 0), (9, 0)] [] h).trans (by
  show (JJ 57 21 [(9, 0), (9, 0), (9, 0)] [(1, 0)] h) = _
  simp only [jt_57_21, ck_or1, ck_or2, rf_wr, ln_wr, nn_wr, rf_cp, ln_cp, nn_cp, ln_wf, nn_wf, rd_wf, nn_nw]
  try rfl))
theorem jt_57_19 (h : am_H) (d1 d2 : am_V) (x0 : Int) : JJ 57 19 [(13, x0), d1, d2] [] h = ck_ (0 ≤ x0) (ck_ (0 ≤ x0) (ck_ (0 ≤ (rf_ h x0 2)) (bd_ (Wo_gaps h (rf_ h x0 2) (rd_ h x0 4)) fun h1 v2 => some (h1, v2)))) := (jj_of bk_57_19 _ _ h).trans ((ff_of bk_57_19 [(13, x0), (9, 0), (9, 0)] [] h).trans (by
  show (ck_ (0 ≤ x0) (ck_ (0 ≤ x0) (ck_ (0 ≤ (rf_ h x0 2)) (bd_ (CC 52 [(20, rf_ h x0 2), (0, rd_ h x0 4)] h) fun h1 v2 => JJ 57 21 [(13, x0), (9, 0), (9, 0)] [(1, v2)] h1)))) = _
  simp only [cc_52, jt_57_21, ck_or1, ck_or2, rf_wr, ln_wr, nn_wr, rf_cp, ln_cp, nn_cp, ln_wf, nn_wf, rd_wf, nn_nw]
  try rfl))
theorem jt_57_18 (h : am_H) (d1 d2 : am_V) (x0 : Int) : JJ 57 18 [(13, x0), d1, d2] [] h = ck_ (0 ≤ x0) (ck_ (0 ≤ x0) (ck_ (0 ≤ (rf_ h x0 2)) (bd_ (Wo_hasPile h (rf_ h x0 2) (rd_ h x0 4)) fun h1 v2 => if v2 = 0 then some (h1, 0) else ck_ (0 ≤ x0) (ck_ (0 ≤ x0) (ck_ (0 ≤ (rf_ h1 x0 2)) (bd_ (Wo_gaps h1 (rf_ h1 x0 2) (rd_ h1 x0 4)) fun h3 v4 => some (h3, v4))))))) := (jj_of bk_57_18 _ _ h).trans ((ff_of bk_57_18 [(13, x0), (9, 0), (9, 0)] [] h).trans (by
  show (ck_ (0 ≤ x0) (ck_ (0 ≤ x0) (ck_ (0 ≤ (rf_ h x0 2)) (bd_ (CC 54 [(20, rf_ h x0 2), (0, rd_ h x0 4)] h) fun h1 v2 => if v2 = 0 then JJ 57 20 [(13, x0), (9, 0), (9, 0)] [] h1 else JJ 57 19 [(13, x0), (9, 0), (9, 0)] [] h1)))) = _
  simp only [cc_54, jt_57_19, jt_57_20, ck_or1, ck_or2, rf_wr, ln_wr, nn_wr, rf_cp, ln_cp, nn_cp, ln_wf, nn_wf, rd_wf, nn_nw]
  try rfl))
set_option maxRecDepth 20000 in
theorem La_nameValue_e (h : am_H) (x0 x1 x2 : Int) : La_nameValue h x0 x1 x2 = if x1 = 23 then ck_ (0 ≤ x0) (ck_ (0 ≤ x0) (if x2 ≠ 1 then ck_ (0 ≤ x0) (ck_ (0 ≤ (rf_ h x0 2)) (bd_ (Wo_sizeAt h (rf_ h x0 2) (rd_ h x0 4) (w32 ((rd_ h x0 5) - 1))) fun h11 v12 => some (h11, v12))) else ck_ (0 ≤ (rf_ h x0 2)) (bd_ (Wo_sizeAt h (rf_ h x0 2) (rd_ h x0 4) 0) fun h13 v14 => some (h13, v14)))) else if x1 = 24 then ck_ (0 ≤ x0) (some (h, rd_ h x0 5)) else if x1 = 25 then ck_ (0 ≤ x0) (ck_ (0 ≤ x0) (ck_ (0 ≤ (rf_ h x0 2)) (bd_ (Wo_hasPile h (rf_ h x0 2) (rd_ h x0 4)) fun h9 v10 => if v10 = 0 then some (h9, 0) else ck_ (0 ≤ x0) (ck_ (0 ≤ (rf_ h9 x0 2)) (ck_ (0 ≤ x0) (ck_ (0 ≤ (rf_ h9 (rf_ h9 x0 2) 6)) (ck_ (0 ≤ (rd_ h9 x0 4) ∧ (rd_ h9 x0 4) < ln_ h9 (rf_ h9 (rf_ h9 x0 2) 6)) (some (h9, rd_ h9 (rf_ h9 (rf_ h9 x0 2) 6) (rd_ h9 x0 4)))))))))) else if x1 = 26 then ck_ (0 ≤ x0) (ck_ (0 ≤ x0) (ck_ (0 ≤ (rf_ h x0 2)) (bd_ (Wo_hasMaid h (rf_ h x0 2) (rd_ h x0 3)) fun h7 v8 => if v8 = 0 then some (h7, 0) else ck_ (0 ≤ x0) (ck_ (0 ≤ (rf_ h7 x0 1)) (ck_ (0 ≤ x0) (ck_ (0 ≤ (rf_ h7 (rf_ h7 x0 1) 8)) (ck_ (0 ≤ (rd_ h7 x0 3) ∧ (rd_ h7 x0 3) < ln_ h7 (rf_ h7 (rf_ h7 x0 1) 8)) (some (h7, rd_ h7 (rf_ h7 (rf_ h7 x0 1) 8) (rd_ h7 x0 3)))))))))) else if x1 = 27 then ck_ (0 ≤ x0) (ck_ (0 ≤ x0) (ck_ (0 ≤ (rf_ h x0 2)) (bd_ (Wo_hasMaid h (rf_ h x0 2) (rd_ h x0 3)) fun h5 v6 => if v6 = 0 then some (h5, 0) else ck_ (0 ≤ x0) (ck_ (0 ≤ (rf_ h5 x0 2)) (ck_ (0 ≤ x0) (ck_ (0 ≤ (rf_ h5 (rf_ h5 x0 2) 8)) (ck_ (0 ≤ (rd_ h5 x0 3) ∧ (rd_ h5 x0 3) < ln_ h5 (rf_ h5 (rf_ h5 x0 2) 8)) (some (h5, rd_ h5 (rf_ h5 (rf_ h5 x0 2) 8) (rd_ h5 x0 3)))))))))) else if x1 = 28 then ck_ (0 ≤ x0) (ck_ (0 ≤ x0) (ck_ (0 ≤ (rf_ h x0 2)) (bd_ (Wo_hasPile h (rf_ h x0 2) (rd_ h x0 4)) fun h1 v2 => if v2 = 0 then some (h1, 0) else ck_ (0 ≤ x0) (ck_ (0 ≤ x0) (ck_ (0 ≤ (rf_ h1 x0 2)) (bd_ (Wo_gaps h1 (rf_ h1 x0 2) (rd_ h1 x0 4)) fun h3 v4 => some (h3, v4))))))) else ck_ (0 ≤ x0) (ck_ (0 ≤ (rf_ h x0 2)) (some (h, rd_ h (rf_ h x0 2) 3))) := (ff_of bk_57_0 [(13, x0), (0, x1), (0, x2)] [] h).trans (by
  show (if x1 = 23 then JJ 57 1 [(13, x0), (0, x1), (0, x2)] [] h else if x1 = 24 then JJ 57 5 [(13, x0), (0, x1), (0, x2)] [] h else if x1 = 25 then JJ 57 6 [(13, x0), (0, x1), (0, x2)] [] h else if x1 = 26 then JJ 57 10 [(13, x0), (0, x1), (0, x2)] [] h else if x1 = 27 then JJ 57 14 [(13, x0), (0, x1), (0, x2)] [] h else if x1 = 28 then JJ 57 18 [(13, x0), (0, x1), (0, x2)] [] h else JJ 57 22 [(13, x0), (0, x1), (0, x2)] [] h) = _
  simp only [jt_57_1, jt_57_10, jt_57_14, jt_57_18, jt_57_22, jt_57_5, jt_57_6, ck_or1, ck_or2, rf_wr, ln_wr, nn_wr, rf_cp, ln_cp, nn_cp, ln_wf, nn_wf, rd_wf, nn_nw]
  try rfl)
theorem cc_57 (h : am_H) (x0 x1 x2 : Int) : CC 57 [(13, x0), (0, x1), (0, x2)] h = La_nameValue h x0 x1 x2 := cc_of pk_57 _ h
theorem pk_58 : am_prog 58 = some cd_58 := rfl
theorem bk_58_0 : bk_ am_prog 58 0 = some ([true, true], (bl_58_0, 9999)) := bk_of pk_58 rfl
theorem bk_58_1 : bk_ am_prog 58 1 = some ([true, true], (bl_58_1, 9999)) := bk_of pk_58 rfl
theorem bk_58_2 : bk_ am_prog 58 2 = some ([true, true], (bl_58_2, 9999)) := bk_of pk_58 rfl
theorem bk_58_3 : bk_ am_prog 58 3 = some ([false, false], (bl_58_3, 9999)) := bk_of pk_58 rfl
theorem bk_58_4 : bk_ am_prog 58 4 = some ([false, false], (bl_58_4, 5)) := bk_of pk_58 rfl
theorem bk_58_5 : bk_ am_prog 58 5 = some ([false, false], (bl_58_5, 9999)) := bk_of pk_58 rfl
theorem jt_58_5 (h : am_H) (d0 d1 : am_V) (s0 : Int) : JJ 58 5 [d0, d1] [(0, s0)] h = ck_ (s0 = 0 ∨ s0 = 1) (some (h, s0)) := (jj_of bk_58_5 _ _ h).trans (ff_of bk_58_5 [(9, 0), (9, 0)] [(0, s0)] h)
theorem jt_58_4 (h : am_H) (d0 d1 : am_V) : JJ 58 4 [d0, d1] [] h = some (h, 0) := (jj_of bk_58_4 _ _ h).trans ((ff_of bk_58_4 [(9, 0), (9, 0)] [] h).trans (by
  show (JJ 58 5 [(9, 0), (9, 0)] [(0, 0)] h) = _
  simp only [jt_58_5, ck_or1, ck_or2, rf_wr, ln_wr, nn_wr, rf_cp, ln_cp, nn_cp, ln_wf, nn_wf, rd_wf, nn_nw]
  try rfl))
theorem jt_58_3 (h : am_H) (d0 d1 : am_V) : JJ 58 3 [d0, d1] [] h = some (h, 1) := (jj_of bk_58_3 _ _ h).trans ((ff_of bk_58_3 [(9, 0), (9, 0)] [] h).trans (by
  show (JJ 58 5 [(9, 0), (9, 0)] [(0, 1)] h) = _
  simp only [jt_58_5, ck_or1, ck_or2, rf_wr, ln_wr, nn_wr, rf_cp, ln_cp, nn_cp, ln_wf, nn_wf, rd_wf, nn_nw]
  try rfl))
theorem jt_58_2 (h : am_H) (x0 x1 : Int) : JJ 58 2 [(18, x0), (0, x1)] [] h = ck_ (0 ≤ x0) (ck_ (0 ≤ (rf_ h x0 16)) (ck_ (0 ≤ x1 ∧ x1 < ln_ h (rf_ h x0 16)) (ck_ (0 ≤ x0) (ck_ (0 ≤ (rf_ h x0 15)) (ck_ (0 ≤ x1 ∧ x1 < ln_ h (rf_ h x0 15)) (if (rd_ h (rf_ h x0 16) x1) ≤ (rd_ h (rf_ h x0 15) x1) then some (h, 0) else some (h, 1))))))) := (jj_of bk_58_2 _ _ h).trans ((ff_of bk_58_2 [(18, x0), (0, x1)] [] h).trans (by
  show (ck_ (0 ≤ x0) (ck_ (0 ≤ (rf_ h x0 16)) (ck_ (0 ≤ x1 ∧ x1 < ln_ h (rf_ h x0 16)) (ck_ (0 ≤ x0) (ck_ (0 ≤ (rf_ h x0 15)) (ck_ (0 ≤ x1 ∧ x1 < ln_ h (rf_ h x0 15)) (if (rd_ h (rf_ h x0 16) x1) ≤ (rd_ h (rf_ h x0 15) x1) then JJ 58 4 [(18, x0), (0, x1)] [] h else JJ 58 3 [(18, x0), (0, x1)] [] h))))))) = _
  simp only [jt_58_3, jt_58_4, ck_or1, ck_or2, rf_wr, ln_wr, nn_wr, rf_cp, ln_cp, nn_cp, ln_wf, nn_wf, rd_wf, nn_nw]
  try rfl))
theorem jt_58_1 (h : am_H) (x0 x1 : Int) : JJ 58 1 [(18, x0), (0, x1)] [] h = if 3 ≤ x1 then some (h, 0) else ck_ (0 ≤ x0) (ck_ (0 ≤ (rf_ h x0 16)) (ck_ (0 ≤ x1 ∧ x1 < ln_ h (rf_ h x0 16)) (ck_ (0 ≤ x0) (ck_ (0 ≤ (rf_ h x0 15)) (ck_ (0 ≤ x1 ∧ x1 < ln_ h (rf_ h x0 15)) (if (rd_ h (rf_ h x0 16) x1) ≤ (rd_ h (rf_ h x0 15) x1) then some (h, 0) else some (h, 1))))))) := (jj_of bk_58_1 _ _ h).trans ((ff_of bk_58_1 [(18, x0), (0, x1)] [] h).trans (by
  show (if 3 ≤ x1 then JJ 58 4 [(18, x0), (0, x1)] [] h else JJ 58 2 [(18, x0), (0, x1)] [] h) = _
  simp only [jt_58_2, jt_58_4, ck_or1, ck_or2, rf_wr, ln_wr, nn_wr, rf_cp, ln_cp, nn_cp, ln_wf, nn_wf, rd_wf, nn_nw]
  try rfl))
theorem To_hasLaw_e (h : am_H) (x0 x1 : Int) : To_hasLaw h x0 x1 = if x1 < 0 then some (h, 0) else if 3 ≤ x1 then some (h, 0) else ck_ (0 ≤ x0) (ck_ (0 ≤ (rf_ h x0 16)) (ck_ (0 ≤ x1 ∧ x1 < ln_ h (rf_ h x0 16)) (ck_ (0 ≤ x0) (ck_ (0 ≤ (rf_ h x0 15)) (ck_ (0 ≤ x1 ∧ x1 < ln_ h (rf_ h x0 15)) (if (rd_ h (rf_ h x0 16) x1) ≤ (rd_ h (rf_ h x0 15) x1) then some (h, 0) else some (h, 1))))))) := (ff_of bk_58_0 [(18, x0), (0, x1)] [] h).trans (by
  show (if x1 < 0 then JJ 58 4 [(18, x0), (0, x1)] [] h else JJ 58 1 [(18, x0), (0, x1)] [] h) = _
  simp only [jt_58_1, jt_58_4, ck_or1, ck_or2, rf_wr, ln_wr, nn_wr, rf_cp, ln_cp, nn_cp, ln_wf, nn_wf, rd_wf, nn_nw]
  try rfl)
theorem cc_58 (h : am_H) (x0 x1 : Int) : CC 58 [(18, x0), (0, x1)] h = To_hasLaw h x0 x1 := cc_of pk_58 _ h
theorem pk_59 : am_prog 59 = some cd_59 := rfl
theorem bk_59_0 : bk_ am_prog 59 0 = some ([true, true, true, false, false, false, false], (bl_59_0, 9999)) := bk_of pk_59 rfl
theorem bk_59_1 : bk_ am_prog 59 1 = some ([true, true, true, false, false, false, false], (bl_59_1, 9999)) := bk_of pk_59 rfl
theorem bk_59_2 : bk_ am_prog 59 2 = some ([true, true, true, false, false, false, false], (bl_59_2, 9999)) := bk_of pk_59 rfl
theorem bk_59_3 : bk_ am_prog 59 3 = some ([false, false, true, false, false, false, false], (bl_59_3, 9999)) := bk_of pk_59 rfl
theorem bk_59_4 : bk_ am_prog 59 4 = some ([true, true, true, false, false, false, false], (bl_59_4, 5)) := bk_of pk_59 rfl
theorem bk_59_5 : bk_ am_prog 59 5 = some ([true, true, true, false, true, true, false], (bl_59_5, 9999)) := bk_of pk_59 rfl
theorem bk_59_6 : bk_ am_prog 59 6 = some ([true, true, true, false, true, true, false], (bl_59_6, 9999)) := bk_of pk_59 rfl
theorem bk_59_7 : bk_ am_prog 59 7 = some ([true, true, true, false, true, true, false], (bl_59_7, 9999)) := bk_of pk_59 rfl
theorem bk_59_8 : bk_ am_prog 59 8 = some ([true, true, true, false, true, true, false], (bl_59_8, 9999)) := bk_of pk_59 rfl
theorem bk_59_9 : bk_ am_prog 59 9 = some ([true, true, true, false, true, true, false], (bl_59_9, 9999)) := bk_of pk_59 rfl
theorem bk_59_10 : bk_ am_prog 59 10 = some ([true, true, true, false, true, true, false], (bl_59_10, 11)) := bk_of pk_59 rfl
theorem bk_59_11 : bk_ am_prog 59 11 = some ([true, true, true, false, true, true, false], (bl_59_11, 9999)) := bk_of pk_59 rfl
theorem bk_59_12 : bk_ am_prog 59 12 = some ([true, true, true, false, true, true, true], (bl_59_12, 9999)) := bk_of pk_59 rfl
theorem bk_59_13 : bk_ am_prog 59 13 = some ([true, true, true, false, true, true, true], (bl_59_13, 9999)) := bk_of pk_59 rfl
theorem bk_59_14 : bk_ am_prog 59 14 = some ([true, true, true, false, true, true, true], (bl_59_14, 9999)) := bk_of pk_59 rfl
theorem bk_59_15 : bk_ am_prog 59 15 = some ([true, true, true, false, true, true, true], (bl_59_15, 9999)) := bk_of pk_59 rfl
theorem bk_59_16 : bk_ am_prog 59 16 = some ([true, true, true, false, true, true, true], (bl_59_16, 9999)) := bk_of pk_59 rfl
theorem bk_59_17 : bk_ am_prog 59 17 = some ([true, true, true, false, true, true, true], (bl_59_17, 9999)) := bk_of pk_59 rfl
theorem bk_59_18 : bk_ am_prog 59 18 = some ([true, true, true, false, true, true, true], (bl_59_18, 19)) := bk_of pk_59 rfl
theorem bk_59_19 : bk_ am_prog 59 19 = some ([true, true, true, false, true, true, false], (bl_59_19, 9999)) := bk_of pk_59 rfl
theorem bk_59_20 : bk_ am_prog 59 20 = some ([true, true, true, false, true, true, true], (bl_59_20, 9999)) := bk_of pk_59 rfl
theorem bk_59_21 : bk_ am_prog 59 21 = some ([true, true, true, false, true, true, true], (bl_59_21, 22)) := bk_of pk_59 rfl
theorem bk_59_22 : bk_ am_prog 59 22 = some ([true, true, true, false, true, true, false], (bl_59_22, 9999)) := bk_of pk_59 rfl
theorem bk_59_23 : bk_ am_prog 59 23 = some ([false, false, true, false, false, false, false], (bl_59_23, 9999)) := bk_of pk_59 rfl
theorem bk_59_24 : bk_ am_prog 59 24 = some ([true, true, true, false, true, true, false], (bl_59_24, 9999)) := bk_of pk_59 rfl
theorem bk_59_25 : bk_ am_prog 59 25 = some ([true, false, false, false, false, false, false], (bl_59_25, 9999)) := bk_of pk_59 rfl
theorem jt_59_5 (h : am_H) (d3 d6 : am_V) (x0 x1 x2 x4 x5 : Int) : JJ 59 5 [(13, x0), (0, x1), (1, x2), d3, (0, x4), (0, x5), d6] [] h = La_value_5 h x0 x1 x2 x4 x5 := jj_of bk_59_5 _ _ h
theorem jt_59_15 (h : am_H) (d3 : am_V) (x0 x1 x2 x4 x5 x6 : Int) : JJ 59 15 [(13, x0), (0, x1), (1, x2), d3, (0, x4), (0, x5), (0, x6)] [] h = La_value_15 h x0 x1 x2 x4 x5 x6 := jj_of bk_59_15 _ _ h
theorem jt_59_20 (h : am_H) (d3 : am_V) (x0 x1 x2 x4 x5 x6 : Int) : JJ 59 20 [(13, x0), (0, x1), (1, x2), d3, (0, x4), (0, x5), (0, x6)] [] h = La_value_20 h x0 x1 x2 x4 x5 x6 := jj_of bk_59_20 _ _ h
theorem jt_59_3 (h : am_H) (d0 d1 d3 d4 d5 d6 : am_V) (x2 : Int) : JJ 59 3 [d0, d1, (1, x2), d3, d4, d5, d6] [] h = some (h, x2) := (jj_of bk_59_3 _ _ h).trans (ff_of bk_59_3 [(9, 0), (9, 0), (1, x2), (9, 0), (9, 0), (9, 0), (9, 0)] [] h)
theorem jt_59_4 (h : am_H) (d3 d4 d5 d6 : am_V) (x0 x1 x2 : Int) : JJ 59 4 [(13, x0), (0, x1), (1, x2), d3, d4, d5, d6] [] h = ck_ (0 ≤ x0) (ck_ (0 ≤ x0) (ck_ (0 ≤ (rf_ h x0 1)) (ck_ (0 ≤ (rf_ h (rf_ h x0 1) 15)) (ck_ (0 ≤ x1 ∧ x1 < ln_ h (rf_ h (rf_ h x0 1) 15)) (La_value_5 (wr_ h x0 6 0) x0 x1 x2 0 (rd_ (wr_ h x0 6 0) (rf_ h (rf_ h x0 1) 15) x1)))))) := (jj_of bk_59_4 _ _ h).trans ((ff_of bk_59_4 [(13, x0), (0, x1), (1, x2), (9, 0), (9, 0), (9, 0), (9, 0)] [] h).trans (by
  show (ck_ (0 ≤ x0) (ck_ (0 ≤ x0) (ck_ (0 ≤ (rf_ h x0 1)) (ck_ (0 ≤ (rf_ h (rf_ h x0 1) 15)) (ck_ (0 ≤ x1 ∧ x1 < ln_ h (rf_ h (rf_ h x0 1) 15)) (JJ 59 5 [(13, x0), (0, x1), (1, x2), (9, 0), (0, 0), (0, rd_ (wr_ h x0 6 0) (rf_ h (rf_ h x0 1) 15) x1), (9, 0)] [] (wr_ h x0 6 0))))))) = _
  simp only [jt_59_5, ck_or1, ck_or2, rf_wr, ln_wr, nn_wr, rf_cp, ln_cp, nn_cp, ln_wf, nn_wf, rd_wf, nn_nw]
  try rfl))
theorem jt_59_2 (h : am_H) (d3 d4 d5 d6 : am_V) (x0 x1 x2 : Int) : JJ 59 2 [(13, x0), (0, x1), (1, x2), d3, d4, d5, d6] [] h = ck_ (0 ≤ x0) (ck_ (0 ≤ (rf_ h x0 1)) (bd_ (To_hasLaw h (rf_ h x0 1) x1) fun h1 v2 => if v2 ≠ 0 then ck_ (0 ≤ x0) (ck_ (0 ≤ x0) (ck_ (0 ≤ (rf_ h1 x0 1)) (ck_ (0 ≤ (rf_ h1 (rf_ h1 x0 1) 15)) (ck_ (0 ≤ x1 ∧ x1 < ln_ h1 (rf_ h1 (rf_ h1 x0 1) 15)) (La_value_5 (wr_ h1 x0 6 0) x0 x1 x2 0 (rd_ (wr_ h1 x0 6 0) (rf_ h1 (rf_ h1 x0 1) 15) x1)))))) else some (h1, x2))) := (jj_of bk_59_2 _ _ h).trans ((ff_of bk_59_2 [(13, x0), (0, x1), (1, x2), (9, 0), (9, 0), (9, 0), (9, 0)] [] h).trans (by
  show (ck_ (0 ≤ x0) (ck_ (0 ≤ (rf_ h x0 1)) (bd_ (CC 58 [(18, rf_ h x0 1), (0, x1)] h) fun h1 v2 => if v2 ≠ 0 then JJ 59 4 [(13, x0), (0, x1), (1, x2), (9, 0), (9, 0), (9, 0), (9, 0)] [] h1 else JJ 59 3 [(13, x0), (0, x1), (1, x2), (9, 0), (9, 0), (9, 0), (9, 0)] [] h1))) = _
  simp only [cc_58, jt_59_3, jt_59_4, ck_or1, ck_or2, rf_wr, ln_wr, nn_wr, rf_cp, ln_cp, nn_cp, ln_wf, nn_wf, rd_wf, nn_nw]
  try rfl))
theorem jt_59_1 (h : am_H) (d3 d4 d5 d6 : am_V) (x0 x1 x2 : Int) : JJ 59 1 [(13, x0), (0, x1), (1, x2), d3, d4, d5, d6] [] h = ck_ (0 ≤ x0) (if (rf_ h x0 2) < 0 then some (h, x2) else ck_ (0 ≤ x0) (ck_ (0 ≤ (rf_ h x0 1)) (bd_ (To_hasLaw h (rf_ h x0 1) x1) fun h1 v2 => if v2 ≠ 0 then ck_ (0 ≤ x0) (ck_ (0 ≤ x0) (ck_ (0 ≤ (rf_ h1 x0 1)) (ck_ (0 ≤ (rf_ h1 (rf_ h1 x0 1) 15)) (ck_ (0 ≤ x1 ∧ x1 < ln_ h1 (rf_ h1 (rf_ h1 x0 1) 15)) (La_value_5 (wr_ h1 x0 6 0) x0 x1 x2 0 (rd_ (wr_ h1 x0 6 0) (rf_ h1 (rf_ h1 x0 1) 15) x1)))))) else some (h1, x2)))) := (jj_of bk_59_1 _ _ h).trans ((ff_of bk_59_1 [(13, x0), (0, x1), (1, x2), (9, 0), (9, 0), (9, 0), (9, 0)] [] h).trans (by
  show (ck_ (0 ≤ x0) (if (rf_ h x0 2) < 0 then JJ 59 3 [(13, x0), (0, x1), (1, x2), (9, 0), (9, 0), (9, 0), (9, 0)] [] h else JJ 59 2 [(13, x0), (0, x1), (1, x2), (9, 0), (9, 0), (9, 0), (9, 0)] [] h)) = _
  simp only [jt_59_2, jt_59_3, ck_or1, ck_or2, rf_wr, ln_wr, nn_wr, rf_cp, ln_cp, nn_cp, ln_wf, nn_wf, rd_wf, nn_nw]
  try rfl))
theorem La_value_e (h : am_H) (x0 x1 x2 : Int) : La_value h x0 x1 x2 = ck_ (0 ≤ x0) (if (rf_ h x0 1) < 0 then some (h, x2) else ck_ (0 ≤ x0) (if (rf_ h x0 2) < 0 then some (h, x2) else ck_ (0 ≤ x0) (ck_ (0 ≤ (rf_ h x0 1)) (bd_ (To_hasLaw h (rf_ h x0 1) x1) fun h1 v2 => if v2 ≠ 0 then ck_ (0 ≤ x0) (ck_ (0 ≤ x0) (ck_ (0 ≤ (rf_ h1 x0 1)) (ck_ (0 ≤ (rf_ h1 (rf_ h1 x0 1) 15)) (ck_ (0 ≤ x1 ∧ x1 < ln_ h1 (rf_ h1 (rf_ h1 x0 1) 15)) (La_value_5 (wr_ h1 x0 6 0) x0 x1 x2 0 (rd_ (wr_ h1 x0 6 0) (rf_ h1 (rf_ h1 x0 1) 15) x1)))))) else some (h1, x2))))) := (ff_of bk_59_0 [(13, x0), (0, x1), (1, x2), (9, 0), (9, 0), (9, 0), (9, 0)] [] h).trans (by
  show (ck_ (0 ≤ x0) (if (rf_ h x0 1) < 0 then JJ 59 3 [(13, x0), (0, x1), (1, x2), (9, 0), (9, 0), (9, 0), (9, 0)] [] h else JJ 59 1 [(13, x0), (0, x1), (1, x2), (9, 0), (9, 0), (9, 0), (9, 0)] [] h)) = _
  simp only [jt_59_1, jt_59_3, ck_or1, ck_or2, rf_wr, ln_wr, nn_wr, rf_cp, ln_cp, nn_cp, ln_wf, nn_wf, rd_wf, nn_nw]
  try rfl)
theorem jt_59_25 (h : am_H) (d1 d2 d3 d4 d5 d6 : am_V) (x0 : Int) : JJ 59 25 [(13, x0), d1, d2, d3, d4, d5, d6] [] h = ck_ (0 ≤ x0) (ck_ (0 ≤ (rf_ h x0 0)) (ck_ (0 ≤ (0 : Int) ∧ (0 : Int) < ln_ h (rf_ h x0 0)) (some (h, rd_ h (rf_ h x0 0) 0)))) := (jj_of bk_59_25 _ _ h).trans (ff_of bk_59_25 [(13, x0), (9, 0), (9, 0), (9, 0), (9, 0), (9, 0), (9, 0)] [] h)
theorem jt_59_14 (h : am_H) (d3 : am_V) (x0 x1 x2 x4 x5 x6 : Int) : JJ 59 14 [(13, x0), (0, x1), (1, x2), d3, (0, x4), (0, x5), (0, x6)] [] h = if 29 < x6 then La_value_20 h x0 x1 x2 x4 x5 x6 else La_value_15 h x0 x1 x2 x4 x5 x6 := (jj_of bk_59_14 _ _ h).trans ((ff_of bk_59_14 [(13, x0), (0, x1), (1, x2), (9, 0), (0, x4), (0, x5), (0, x6)] [] h).trans (by
  show (if 29 < x6 then JJ 59 20 [(13, x0), (0, x1), (1, x2), (9, 0), (0, x4), (0, x5), (0, x6)] [] h else JJ 59 15 [(13, x0), (0, x1), (1, x2), (9, 0), (0, x4), (0, x5), (0, x6)] [] h) = _
  simp only [jt_59_15, jt_59_20, ck_or1, ck_or2, rf_wr, ln_wr, nn_wr, rf_cp, ln_cp, nn_cp, ln_wf, nn_wf, rd_wf, nn_nw]
  try rfl))
theorem jt_59_13 (h : am_H) (d3 : am_V) (x0 x1 x2 x4 x5 x6 : Int) : JJ 59 13 [(13, x0), (0, x1), (1, x2), d3, (0, x4), (0, x5), (0, x6)] [] h = if x6 < 23 then La_value_20 h x0 x1 x2 x4 x5 x6 else if 29 < x6 then La_value_20 h x0 x1 x2 x4 x5 x6 else La_value_15 h x0 x1 x2 x4 x5 x6 := (jj_of bk_59_13 _ _ h).trans ((ff_of bk_59_13 [(13, x0), (0, x1), (1, x2), (9, 0), (0, x4), (0, x5), (0, x6)] [] h).trans (by
  show (if x6 < 23 then JJ 59 20 [(13, x0), (0, x1), (1, x2), (9, 0), (0, x4), (0, x5), (0, x6)] [] h else JJ 59 14 [(13, x0), (0, x1), (1, x2), (9, 0), (0, x4), (0, x5), (0, x6)] [] h) = _
  simp only [jt_59_14, jt_59_20, ck_or1, ck_or2, rf_wr, ln_wr, nn_wr, rf_cp, ln_cp, nn_cp, ln_wf, nn_wf, rd_wf, nn_nw]
  try rfl))
theorem jt_59_12 (h : am_H) (d3 : am_V) (x0 x1 x2 x4 x5 x6 : Int) : JJ 59 12 [(13, x0), (0, x1), (1, x2), d3, (0, x4), (0, x5), (0, x6)] [] h = if x6 < 0 then La_value_15 h x0 x1 x2 x4 x5 x6 else if x6 < 23 then La_value_20 h x0 x1 x2 x4 x5 x6 else if 29 < x6 then La_value_20 h x0 x1 x2 x4 x5 x6 else La_value_15 h x0 x1 x2 x4 x5 x6 := (jj_of bk_59_12 _ _ h).trans ((ff_of bk_59_12 [(13, x0), (0, x1), (1, x2), (9, 0), (0, x4), (0, x5), (0, x6)] [] h).trans (by
  show (if x6 < 0 then JJ 59 15 [(13, x0), (0, x1), (1, x2), (9, 0), (0, x4), (0, x5), (0, x6)] [] h else JJ 59 13 [(13, x0), (0, x1), (1, x2), (9, 0), (0, x4), (0, x5), (0, x6)] [] h) = _
  simp only [jt_59_13, jt_59_15, ck_or1, ck_or2, rf_wr, ln_wr, nn_wr, rf_cp, ln_cp, nn_cp, ln_wf, nn_wf, rd_wf, nn_nw]
  try rfl))
theorem jt_59_24 (h : am_H) (d3 d6 : am_V) (x0 x1 x2 x4 x5 : Int) : JJ 59 24 [(13, x0), (0, x1), (1, x2), d3, (0, x4), (0, x5), d6] [] h = La_value_5 h x0 x1 x2 x4 (w32 (x5 + 1)) := (jj_of bk_59_24 _ _ h).trans ((ff_of bk_59_24 [(13, x0), (0, x1), (1, x2), (9, 0), (0, x4), (0, x5), (9, 0)] [] h).trans (by
  show (JJ 59 5 [(13, x0), (0, x1), (1, x2), (9, 0), (0, x4), (0, w32 (x5 + 1)), (9, 0)] [] h) = _
  simp only [jt_59_5, ck_or1, ck_or2, rf_wr, ln_wr, nn_wr, rf_cp, ln_cp, nn_cp, ln_wf, nn_wf, rd_wf, nn_nw]
  try rfl))
theorem jt_59_23 (h : am_H) (d0 d1 d3 d4 d5 d6 : am_V) (x2 : Int) : JJ 59 23 [d0, d1, (1, x2), d3, d4, d5, d6] [] h = some (h, x2) := (jj_of bk_59_23 _ _ h).trans (ff_of bk_59_23 [(9, 0), (9, 0), (1, x2), (9, 0), (9, 0), (9, 0), (9, 0)] [] h)
theorem jt_59_22 (h : am_H) (d3 d6 : am_V) (x0 x1 x2 x4 x5 : Int) : JJ 59 22 [(13, x0), (0, x1), (1, x2), d3, (0, x4), (0, x5), d6] [] h = ck_ (0 ≤ x0) (if (rd_ h x0 6) = 0 then La_value_5 h x0 x1 x2 x4 (w32 (x5 + 1)) else some (h, x2)) := (jj_of bk_59_22 _ _ h).trans ((ff_of bk_59_22 [(13, x0), (0, x1), (1, x2), (9, 0), (0, x4), (0, x5), (9, 0)] [] h).trans (by
  show (ck_ (0 ≤ x0) (if (rd_ h x0 6) = 0 then JJ 59 24 [(13, x0), (0, x1), (1, x2), (9, 0), (0, x4), (0, x5), (9, 0)] [] h else JJ 59 23 [(13, x0), (0, x1), (1, x2), (9, 0), (0, x4), (0, x5), (9, 0)] [] h)) = _
  simp only [jt_59_23, jt_59_24, ck_or1, ck_or2, rf_wr, ln_wr, nn_wr, rf_cp, ln_cp, nn_cp, ln_wf, nn_wf, rd_wf, nn_nw]
  try rfl))
theorem jt_59_11 (h : am_H) (d3 d6 : am_V) (x0 x1 x2 x4 x5 s0 s1 s2 : Int) : JJ 59 11 [(13, x0), (0, x1), (1, x2), d3, (0, x4), (0, x5), d6] [(0, s0), (0, s1), (33, s2)] h = bd_ (La_truth h s0) fun h1 v2 => ck_ (0 ≤ s2) (ck_ (0 ≤ s1 ∧ s1 < ln_ h1 s2) (ck_ (0 ≤ x0) (if (rd_ (wr_ h1 s2 s1 v2) x0 6) = 0 then La_value_5 (wr_ h1 s2 s1 v2) x0 x1 x2 x4 (w32 (x5 + 1)) else some (wr_ h1 s2 s1 v2, x2)))) := (jj_of bk_59_11 _ _ h).trans ((ff_of bk_59_11 [(13, x0), (0, x1), (1, x2), (9, 0), (0, x4), (0, x5), (9, 0)] [(0, s0), (0, s1), (33, s2)] h).trans (by
  show (bd_ (CC 50 [(0, s0)] h) fun h1 v2 => ck_ (0 ≤ s2) (ck_ (0 ≤ s1 ∧ s1 < ln_ h1 s2) (JJ 59 22 [(13, x0), (0, x1), (1, x2), (9, 0), (0, x4), (0, x5), (9, 0)] [] (wr_ h1 s2 s1 v2)))) = _
  simp only [cc_50, jt_59_22, ck_or1, ck_or2, rf_wr, ln_wr, nn_wr, rf_cp, ln_cp, nn_cp, ln_wf, nn_wf, rd_wf, nn_nw]
  try rfl))
theorem jt_59_10 (h : am_H) (d3 d6 : am_V) (x0 x1 x2 x4 x5 s0 s1 : Int) : JJ 59 10 [(13, x0), (0, x1), (1, x2), d3, (0, x4), (0, x5), d6] [(0, s0), (33, s1)] h = bd_ (La_truth h 0) fun h1 v2 => ck_ (0 ≤ s1) (ck_ (0 ≤ s0 ∧ s0 < ln_ h1 s1) (ck_ (0 ≤ x0) (if (rd_ (wr_ h1 s1 s0 v2) x0 6) = 0 then La_value_5 (wr_ h1 s1 s0 v2) x0 x1 x2 x4 (w32 (x5 + 1)) else some (wr_ h1 s1 s0 v2, x2)))) := (jj_of bk_59_10 _ _ h).trans ((ff_of bk_59_10 [(13, x0), (0, x1), (1, x2), (9, 0), (0, x4), (0, x5), (9, 0)] [(0, s0), (33, s1)] h).trans (by
  show (JJ 59 11 [(13, x0), (0, x1), (1, x2), (9, 0), (0, x4), (0, x5), (9, 0)] [(0, 0), (0, s0), (33, s1)] h) = _
  simp only [jt_59_11, ck_or1, ck_or2, rf_wr, ln_wr, nn_wr, rf_cp, ln_cp, nn_cp, ln_wf, nn_wf, rd_wf, nn_nw]
  try rfl))
theorem jt_59_9 (h : am_H) (d3 d6 : am_V) (x0 x1 x2 x4 x5 s0 s1 : Int) : JJ 59 9 [(13, x0), (0, x1), (1, x2), d3, (0, x4), (0, x5), d6] [(0, s0), (33, s1)] h = bd_ (La_truth h 1) fun h1 v2 => ck_ (0 ≤ s1) (ck_ (0 ≤ s0 ∧ s0 < ln_ h1 s1) (ck_ (0 ≤ x0) (if (rd_ (wr_ h1 s1 s0 v2) x0 6) = 0 then La_value_5 (wr_ h1 s1 s0 v2) x0 x1 x2 x4 (w32 (x5 + 1)) else some (wr_ h1 s1 s0 v2, x2)))) := (jj_of bk_59_9 _ _ h).trans ((ff_of bk_59_9 [(13, x0), (0, x1), (1, x2), (9, 0), (0, x4), (0, x5), (9, 0)] [(0, s0), (33, s1)] h).trans (by
  show (JJ 59 11 [(13, x0), (0, x1), (1, x2), (9, 0), (0, x4), (0, x5), (9, 0)] [(0, 1), (0, s0), (33, s1)] h) = _
  simp only [jt_59_11, ck_or1, ck_or2, rf_wr, ln_wr, nn_wr, rf_cp, ln_cp, nn_cp, ln_wf, nn_wf, rd_wf, nn_nw]
  try rfl))
set_option maxRecDepth 20000 in
theorem jt_59_8 (h : am_H) (d3 d6 : am_V) (x0 x1 x2 x4 x5 : Int) : JJ 59 8 [(13, x0), (0, x1), (1, x2), d3, (0, x4), (0, x5), d6] [] h = ck_ (0 ≤ x0) (ck_ (0 ≤ x0) (ck_ (0 ≤ (rf_ h x0 0)) (ck_ (0 ≤ (w32 (x4 - 1)) ∧ (w32 (x4 - 1)) < ln_ h (rf_ h x0 0)) (if (lcm_ (rd_ h (rf_ h x0 0) (w32 (x4 - 1))) 0) ≠ 0 then bd_ (La_truth h 0) fun h1 v2 => ck_ (0 ≤ (rf_ h x0 0)) (ck_ (0 ≤ (w32 (x4 - 1)) ∧ (w32 (x4 - 1)) < ln_ h1 (rf_ h x0 0)) (ck_ (0 ≤ x0) (if (rd_ (wr_ h1 (rf_ h x0 0) (w32 (x4 - 1)) v2) x0 6) = 0 then La_value_5 (wr_ h1 (rf_ h x0 0) (w32 (x4 - 1)) v2) x0 x1 x2 x4 (w32 (x5 + 1)) else some (wr_ h1 (rf_ h x0 0) (w32 (x4 - 1)) v2, x2)))) else bd_ (La_truth h 1) fun h3 v4 => ck_ (0 ≤ (rf_ h x0 0)) (ck_ (0 ≤ (w32 (x4 - 1)) ∧ (w32 (x4 - 1)) < ln_ h3 (rf_ h x0 0)) (ck_ (0 ≤ x0) (if (rd_ (wr_ h3 (rf_ h x0 0) (w32 (x4 - 1)) v4) x0 6) = 0 then La_value_5 (wr_ h3 (rf_ h x0 0) (w32 (x4 - 1)) v4) x0 x1 x2 x4 (w32 (x5 + 1)) else some (wr_ h3 (rf_ h x0 0) (w32 (x4 - 1)) v4, x2)))))))) := (jj_of bk_59_8 _ _ h).trans ((ff_of bk_59_8 [(13, x0), (0, x1), (1, x2), (9, 0), (0, x4), (0, x5), (9, 0)] [] h).trans (by
  show (ck_ (0 ≤ x0) (ck_ (0 ≤ x0) (ck_ (0 ≤ (rf_ h x0 0)) (ck_ (0 ≤ (w32 (x4 - 1)) ∧ (w32 (x4 - 1)) < ln_ h (rf_ h x0 0)) (if (lcm_ (rd_ h (rf_ h x0 0) (w32 (x4 - 1))) 0) ≠ 0 then JJ 59 10 [(13, x0), (0, x1), (1, x2), (9, 0), (0, x4), (0, x5), (9, 0)] [(0, w32 (x4 - 1)), (33, rf_ h x0 0)] h else JJ 59 9 [(13, x0), (0, x1), (1, x2), (9, 0), (0, x4), (0, x5), (9, 0)] [(0, w32 (x4 - 1)), (33, rf_ h x0 0)] h))))) = _
  simp only [jt_59_10, jt_59_9, ck_or1, ck_or2, rf_wr, ln_wr, nn_wr, rf_cp, ln_cp, nn_cp, ln_wf, nn_wf, rd_wf, nn_nw]
  try rfl))
set_option maxRecDepth 20000 in
theorem jt_59_7 (h : am_H) (d3 d6 : am_V) (x0 x1 x2 x4 x5 : Int) : JJ 59 7 [(13, x0), (0, x1), (1, x2), d3, (0, x4), (0, x5), d6] [] h = if x4 ≤ 0 then ck_ (0 ≤ x0) (if (rd_ h x0 6) = 0 then La_value_5 h x0 x1 x2 x4 (w32 (x5 + 1)) else some (h, x2)) else ck_ (0 ≤ x0) (ck_ (0 ≤ x0) (ck_ (0 ≤ (rf_ h x0 0)) (ck_ (0 ≤ (w32 (x4 - 1)) ∧ (w32 (x4 - 1)) < ln_ h (rf_ h x0 0)) (if (lcm_ (rd_ h (rf_ h x0 0) (w32 (x4 - 1))) 0) ≠ 0 then bd_ (La_truth h 0) fun h1 v2 => ck_ (0 ≤ (rf_ h x0 0)) (ck_ (0 ≤ (w32 (x4 - 1)) ∧ (w32 (x4 - 1)) < ln_ h1 (rf_ h x0 0)) (ck_ (0 ≤ x0) (if (rd_ (wr_ h1 (rf_ h x0 0) (w32 (x4 - 1)) v2) x0 6) = 0 then La_value_5 (wr_ h1 (rf_ h x0 0) (w32 (x4 - 1)) v2) x0 x1 x2 x4 (w32 (x5 + 1)) else some (wr_ h1 (rf_ h x0 0) (w32 (x4 - 1)) v2, x2)))) else bd_ (La_truth h 1) fun h3 v4 => ck_ (0 ≤ (rf_ h x0 0)) (ck_ (0 ≤ (w32 (x4 - 1)) ∧ (w32 (x4 - 1)) < ln_ h3 (rf_ h x0 0)) (ck_ (0 ≤ x0) (if (rd_ (wr_ h3 (rf_ h x0 0) (w32 (x4 - 1)) v4) x0 6) = 0 then La_value_5 (wr_ h3 (rf_ h x0 0) (w32 (x4 - 1)) v4) x0 x1 x2 x4 (w32 (x5 + 1)) else some (wr_ h3 (rf_ h x0 0) (w32 (x4 - 1)) v4, x2)))))))) := (jj_of bk_59_7 _ _ h).trans ((ff_of bk_59_7 [(13, x0), (0, x1), (1, x2), (9, 0), (0, x4), (0, x5), (9, 0)] [] h).trans (by
  show (if x4 ≤ 0 then JJ 59 22 [(13, x0), (0, x1), (1, x2), (9, 0), (0, x4), (0, x5), (9, 0)] [] h else JJ 59 8 [(13, x0), (0, x1), (1, x2), (9, 0), (0, x4), (0, x5), (9, 0)] [] h) = _
  simp only [jt_59_22, jt_59_8, ck_or1, ck_or2, rf_wr, ln_wr, nn_wr, rf_cp, ln_cp, nn_cp, ln_wf, nn_wf, rd_wf, nn_nw]
  try rfl))
set_option maxRecDepth 20000 in
theorem jt_59_6 (h : am_H) (d3 d6 : am_V) (x0 x1 x2 x4 x5 : Int) : JJ 59 6 [(13, x0), (0, x1), (1, x2), d3, (0, x4), (0, x5), d6] [] h = ck_ (0 ≤ x0) (ck_ (0 ≤ (rf_ h x0 1)) (ck_ (0 ≤ (rf_ h (rf_ h x0 1) 14)) (ck_ (0 ≤ x5 ∧ x5 < ln_ h (rf_ h (rf_ h x0 1) 14)) (if (rd_ h (rf_ h (rf_ h x0 1) 14) x5) ≠ 22 then (if (rd_ h (rf_ h (rf_ h x0 1) 14) x5) < 0 then La_value_15 h x0 x1 x2 x4 x5 (rd_ h (rf_ h (rf_ h x0 1) 14) x5) else if (rd_ h (rf_ h (rf_ h x0 1) 14) x5) < 23 then La_value_20 h x0 x1 x2 x4 x5 (rd_ h (rf_ h (rf_ h x0 1) 14) x5) else if 29 < (rd_ h (rf_ h (rf_ h x0 1) 14) x5) then La_value_20 h x0 x1 x2 x4 x5 (rd_ h (rf_ h (rf_ h x0 1) 14) x5) else La_value_15 h x0 x1 x2 x4 x5 (rd_ h (rf_ h (rf_ h x0 1) 14) x5)) else if x4 ≤ 0 then ck_ (0 ≤ x0) (if (rd_ h x0 6) = 0 then La_value_5 h x0 x1 x2 x4 (w32 (x5 + 1)) else some (h, x2)) else ck_ (0 ≤ x0) (ck_ (0 ≤ x0) (ck_ (0 ≤ (rf_ h x0 0)) (ck_ (0 ≤ (w32 (x4 - 1)) ∧ (w32 (x4 - 1)) < ln_ h (rf_ h x0 0)) (if (lcm_ (rd_ h (rf_ h x0 0) (w32 (x4 - 1))) 0) ≠ 0 then bd_ (La_truth h 0) fun h1 v2 => ck_ (0 ≤ (rf_ h x0 0)) (ck_ (0 ≤ (w32 (x4 - 1)) ∧ (w32 (x4 - 1)) < ln_ h1 (rf_ h x0 0)) (ck_ (0 ≤ x0) (if (rd_ (wr_ h1 (rf_ h x0 0) (w32 (x4 - 1)) v2) x0 6) = 0 then La_value_5 (wr_ h1 (rf_ h x0 0) (w32 (x4 - 1)) v2) x0 x1 x2 x4 (w32 (x5 + 1)) else some (wr_ h1 (rf_ h x0 0) (w32 (x4 - 1)) v2, x2)))) else bd_ (La_truth h 1) fun h3 v4 => ck_ (0 ≤ (rf_ h x0 0)) (ck_ (0 ≤ (w32 (x4 - 1)) ∧ (w32 (x4 - 1)) < ln_ h3 (rf_ h x0 0)) (ck_ (0 ≤ x0) (if (rd_ (wr_ h3 (rf_ h x0 0) (w32 (x4 - 1)) v4) x0 6) = 0 then La_value_5 (wr_ h3 (rf_ h x0 0) (w32 (x4 - 1)) v4) x0 x1 x2 x4 (w32 (x5 + 1)) else some (wr_ h3 (rf_ h x0 0) (w32 (x4 - 1)) v4, x2)))))))))))) := (jj_of bk_59_6 _ _ h).trans ((ff_of bk_59_6 [(13, x0), (0, x1), (1, x2), (9, 0), (0, x4), (0, x5), (9, 0)] [] h).trans (by
  show (ck_ (0 ≤ x0) (ck_ (0 ≤ (rf_ h x0 1)) (ck_ (0 ≤ (rf_ h (rf_ h x0 1) 14)) (ck_ (0 ≤ x5 ∧ x5 < ln_ h (rf_ h (rf_ h x0 1) 14)) (if (rd_ h (rf_ h (rf_ h x0 1) 14) x5) ≠ 22 then JJ 59 12 [(13, x0), (0, x1), (1, x2), (9, 0), (0, x4), (0, x5), (0, rd_ h (rf_ h (rf_ h x0 1) 14) x5)] [] h else JJ 59 7 [(13, x0), (0, x1), (1, x2), (9, 0), (0, x4), (0, x5), (0, rd_ h (rf_ h (rf_ h x0 1) 14) x5)] [] h))))) = _
  simp only [jt_59_12, jt_59_7, ck_or1, ck_or2, rf_wr, ln_wr, nn_wr, rf_cp, ln_cp, nn_cp, ln_wf, nn_wf, rd_wf, nn_nw]
  try rfl))
set_option maxRecDepth 20000 in
theorem La_value_5_e (h : am_H) (x0 x1 x2 x4 x5 : Int) : La_value_5 h x0 x1 x2 x4 x5 = ck_ (0 ≤ x0) (ck_ (0 ≤ (rf_ h x0 1)) (ck_ (0 ≤ (rf_ h (rf_ h x0 1) 16)) (ck_ (0 ≤ x1 ∧ x1 < ln_ h (rf_ h (rf_ h x0 1) 16)) (if (rd_ h (rf_ h (rf_ h x0 1) 16) x1) ≤ x5 then ck_ (0 ≤ x0) (ck_ (0 ≤ (rf_ h x0 0)) (ck_ (0 ≤ (0 : Int) ∧ (0 : Int) < ln_ h (rf_ h x0 0)) (some (h, rd_ h (rf_ h x0 0) 0)))) else ck_ (0 ≤ x0) (ck_ (0 ≤ (rf_ h x0 1)) (ck_ (0 ≤ (rf_ h (rf_ h x0 1) 14)) (ck_ (0 ≤ x5 ∧ x5 < ln_ h (rf_ h (rf_ h x0 1) 14)) (if (rd_ h (rf_ h (rf_ h x0 1) 14) x5) ≠ 22 then (if (rd_ h (rf_ h (rf_ h x0 1) 14) x5) < 0 then La_value_15 h x0 x1 x2 x4 x5 (rd_ h (rf_ h (rf_ h x0 1) 14) x5) else if (rd_ h (rf_ h (rf_ h x0 1) 14) x5) < 23 then La_value_20 h x0 x1 x2 x4 x5 (rd_ h (rf_ h (rf_ h x0 1) 14) x5) else if 29 < (rd_ h (rf_ h (rf_ h x0 1) 14) x5) then La_value_20 h x0 x1 x2 x4 x5 (rd_ h (rf_ h (rf_ h x0 1) 14) x5) else La_value_15 h x0 x1 x2 x4 x5 (rd_ h (rf_ h (rf_ h x0 1) 14) x5)) else if x4 ≤ 0 then ck_ (0 ≤ x0) (if (rd_ h x0 6) = 0 then La_value_5 h x0 x1 x2 x4 (w32 (x5 + 1)) else some (h, x2)) else ck_ (0 ≤ x0) (ck_ (0 ≤ x0) (ck_ (0 ≤ (rf_ h x0 0)) (ck_ (0 ≤ (w32 (x4 - 1)) ∧ (w32 (x4 - 1)) < ln_ h (rf_ h x0 0)) (if (lcm_ (rd_ h (rf_ h x0 0) (w32 (x4 - 1))) 0) ≠ 0 then bd_ (La_truth h 0) fun h1 v2 => ck_ (0 ≤ (rf_ h x0 0)) (ck_ (0 ≤ (w32 (x4 - 1)) ∧ (w32 (x4 - 1)) < ln_ h1 (rf_ h x0 0)) (ck_ (0 ≤ x0) (if (rd_ (wr_ h1 (rf_ h x0 0) (w32 (x4 - 1)) v2) x0 6) = 0 then La_value_5 (wr_ h1 (rf_ h x0 0) (w32 (x4 - 1)) v2) x0 x1 x2 x4 (w32 (x5 + 1)) else some (wr_ h1 (rf_ h x0 0) (w32 (x4 - 1)) v2, x2)))) else bd_ (La_truth h 1) fun h3 v4 => ck_ (0 ≤ (rf_ h x0 0)) (ck_ (0 ≤ (w32 (x4 - 1)) ∧ (w32 (x4 - 1)) < ln_ h3 (rf_ h x0 0)) (ck_ (0 ≤ x0) (if (rd_ (wr_ h3 (rf_ h x0 0) (w32 (x4 - 1)) v4) x0 6) = 0 then La_value_5 (wr_ h3 (rf_ h x0 0) (w32 (x4 - 1)) v4) x0 x1 x2 x4 (w32 (x5 + 1)) else some (wr_ h3 (rf_ h x0 0) (w32 (x4 - 1)) v4, x2)))))))))))))))) := (ff_of bk_59_5 [(13, x0), (0, x1), (1, x2), (9, 0), (0, x4), (0, x5), (9, 0)] [] h).trans (by
  show (ck_ (0 ≤ x0) (ck_ (0 ≤ (rf_ h x0 1)) (ck_ (0 ≤ (rf_ h (rf_ h x0 1) 16)) (ck_ (0 ≤ x1 ∧ x1 < ln_ h (rf_ h (rf_ h x0 1) 16)) (if (rd_ h (rf_ h (rf_ h x0 1) 16) x1) ≤ x5 then JJ 59 25 [(13, x0), (0, x1), (1, x2), (9, 0), (0, x4), (0, x5), (9, 0)] [] h else JJ 59 6 [(13, x0), (0, x1), (1, x2), (9, 0), (0, x4), (0, x5), (9, 0)] [] h))))) = _
  simp only [jt_59_25, jt_59_6, ck_or1, ck_or2, rf_wr, ln_wr, nn_wr, rf_cp, ln_cp, nn_cp, ln_wf, nn_wf, rd_wf, nn_nw]
  try rfl)
theorem jt_59_19 (h : am_H) (d3 d6 : am_V) (x0 x1 x2 x4 x5 s0 s1 s2 : Int) : JJ 59 19 [(13, x0), (0, x1), (1, x2), d3, (0, x4), (0, x5), d6] [(1, s0), (0, s1), (33, s2)] h = ck_ (0 ≤ s2) (ck_ (0 ≤ s1 ∧ s1 < ln_ h s2) (ck_ (0 ≤ x0) (if (rd_ (wr_ h s2 s1 s0) x0 6) = 0 then La_value_5 (wr_ h s2 s1 s0) x0 x1 x2 (w32 (x4 + 1)) (w32 (x5 + 1)) else some (wr_ h s2 s1 s0, x2)))) := (jj_of bk_59_19 _ _ h).trans ((ff_of bk_59_19 [(13, x0), (0, x1), (1, x2), (9, 0), (0, x4), (0, x5), (9, 0)] [(1, s0), (0, s1), (33, s2)] h).trans (by
  show (ck_ (0 ≤ s2) (ck_ (0 ≤ s1 ∧ s1 < ln_ h s2) (JJ 59 22 [(13, x0), (0, x1), (1, x2), (9, 0), (0, w32 (x4 + 1)), (0, x5), (9, 0)] [] (wr_ h s2 s1 s0)))) = _
  simp only [jt_59_22, ck_or1, ck_or2, rf_wr, ln_wr, nn_wr, rf_cp, ln_cp, nn_cp, ln_wf, nn_wf, rd_wf, nn_nw]
  try rfl))
theorem jt_59_18 (h : am_H) (d3 : am_V) (x0 x1 x2 x4 x5 x6 s0 s1 : Int) : JJ 59 18 [(13, x0), (0, x1), (1, x2), d3, (0, x4), (0, x5), (0, x6)] [(0, s0), (33, s1)] h = ck_ (0 ≤ x0) (bd_ (La_nameValue h x0 x6 x1) fun h1 v2 => ck_ (0 ≤ s1) (ck_ (0 ≤ s0 ∧ s0 < ln_ h1 s1) (ck_ (0 ≤ x0) (if (rd_ (wr_ h1 s1 s0 v2) x0 6) = 0 then La_value_5 (wr_ h1 s1 s0 v2) x0 x1 x2 (w32 (x4 + 1)) (w32 (x5 + 1)) else some (wr_ h1 s1 s0 v2, x2))))) := (jj_of bk_59_18 _ _ h).trans ((ff_of bk_59_18 [(13, x0), (0, x1), (1, x2), (9, 0), (0, x4), (0, x5), (0, x6)] [(0, s0), (33, s1)] h).trans (by
  show (ck_ (0 ≤ x0) (bd_ (CC 57 [(13, x0), (0, x6), (0, x1)] h) fun h1 v2 => JJ 59 19 [(13, x0), (0, x1), (1, x2), (9, 0), (0, x4), (0, x5), (0, x6)] [(1, v2), (0, s0), (33, s1)] h1)) = _
  simp only [cc_57, jt_59_19, ck_or1, ck_or2, rf_wr, ln_wr, nn_wr, rf_cp, ln_cp, nn_cp, ln_wf, nn_wf, rd_wf, nn_nw]
  try rfl))
theorem jt_59_17 (h : am_H) (d3 : am_V) (x0 x1 x2 x4 x5 x6 s0 s1 : Int) : JJ 59 17 [(13, x0), (0, x1), (1, x2), d3, (0, x4), (0, x5), (0, x6)] [(0, s0), (33, s1)] h = ck_ (0 ≤ s1) (ck_ (0 ≤ s0 ∧ s0 < ln_ h s1) (ck_ (0 ≤ x0) (if (rd_ (wr_ h s1 s0 (w32 ((-1) - x6))) x0 6) = 0 then La_value_5 (wr_ h s1 s0 (w32 ((-1) - x6))) x0 x1 x2 (w32 (x4 + 1)) (w32 (x5 + 1)) else some (wr_ h s1 s0 (w32 ((-1) - x6)), x2)))) := (jj_of bk_59_17 _ _ h).trans ((ff_of bk_59_17 [(13, x0), (0, x1), (1, x2), (9, 0), (0, x4), (0, x5), (0, x6)] [(0, s0), (33, s1)] h).trans (by
  show (JJ 59 19 [(13, x0), (0, x1), (1, x2), (9, 0), (0, x4), (0, x5), (0, x6)] [(1, w32 ((-1) - x6)), (0, s0), (33, s1)] h) = _
  simp only [jt_59_19, ck_or1, ck_or2, rf_wr, ln_wr, nn_wr, rf_cp, ln_cp, nn_cp, ln_wf, nn_wf, rd_wf, nn_nw]
  try rfl))
set_option maxRecDepth 20000 in
theorem jt_59_16 (h : am_H) (d3 : am_V) (x0 x1 x2 x4 x5 x6 : Int) : JJ 59 16 [(13, x0), (0, x1), (1, x2), d3, (0, x4), (0, x5), (0, x6)] [] h = ck_ (0 ≤ x0) (if 0 ≤ x6 then ck_ (0 ≤ x0) (bd_ (La_nameValue h x0 x6 x1) fun h1 v2 => ck_ (0 ≤ (rf_ h x0 0)) (ck_ (0 ≤ x4 ∧ x4 < ln_ h1 (rf_ h x0 0)) (ck_ (0 ≤ x0) (if (rd_ (wr_ h1 (rf_ h x0 0) x4 v2) x0 6) = 0 then La_value_5 (wr_ h1 (rf_ h x0 0) x4 v2) x0 x1 x2 (w32 (x4 + 1)) (w32 (x5 + 1)) else some (wr_ h1 (rf_ h x0 0) x4 v2, x2))))) else ck_ (0 ≤ (rf_ h x0 0)) (ck_ (0 ≤ x4 ∧ x4 < ln_ h (rf_ h x0 0)) (ck_ (0 ≤ x0) (if (rd_ (wr_ h (rf_ h x0 0) x4 (w32 ((-1) - x6))) x0 6) = 0 then La_value_5 (wr_ h (rf_ h x0 0) x4 (w32 ((-1) - x6))) x0 x1 x2 (w32 (x4 + 1)) (w32 (x5 + 1)) else some (wr_ h (rf_ h x0 0) x4 (w32 ((-1) - x6)), x2))))) := (jj_of bk_59_16 _ _ h).trans ((ff_of bk_59_16 [(13, x0), (0, x1), (1, x2), (9, 0), (0, x4), (0, x5), (0, x6)] [] h).trans (by
  show (ck_ (0 ≤ x0) (if 0 ≤ x6 then JJ 59 18 [(13, x0), (0, x1), (1, x2), (9, 0), (0, x4), (0, x5), (0, x6)] [(0, x4), (33, rf_ h x0 0)] h else JJ 59 17 [(13, x0), (0, x1), (1, x2), (9, 0), (0, x4), (0, x5), (0, x6)] [(0, x4), (33, rf_ h x0 0)] h)) = _
  simp only [jt_59_17, jt_59_18, ck_or1, ck_or2, rf_wr, ln_wr, nn_wr, rf_cp, ln_cp, nn_cp, ln_wf, nn_wf, rd_wf, nn_nw]
  try rfl))
set_option maxRecDepth 20000 in
theorem La_value_15_e (h : am_H) (x0 x1 x2 x4 x5 x6 : Int) : La_value_15 h x0 x1 x2 x4 x5 x6 = if 64 ≤ x4 then ck_ (0 ≤ x0) (if (rd_ h x0 6) = 0 then La_value_5 h x0 x1 x2 x4 (w32 (x5 + 1)) else some (h, x2)) else ck_ (0 ≤ x0) (if 0 ≤ x6 then ck_ (0 ≤ x0) (bd_ (La_nameValue h x0 x6 x1) fun h1 v2 => ck_ (0 ≤ (rf_ h x0 0)) (ck_ (0 ≤ x4 ∧ x4 < ln_ h1 (rf_ h x0 0)) (ck_ (0 ≤ x0) (if (rd_ (wr_ h1 (rf_ h x0 0) x4 v2) x0 6) = 0 then La_value_5 (wr_ h1 (rf_ h x0 0) x4 v2) x0 x1 x2 (w32 (x4 + 1)) (w32 (x5 + 1)) else some (wr_ h1 (rf_ h x0 0) x4 v2, x2))))) else ck_ (0 ≤ (rf_ h x0 0)) (ck_ (0 ≤ x4 ∧ x4 < ln_ h (rf_ h x0 0)) (ck_ (0 ≤ x0) (if (rd_ (wr_ h (rf_ h x0 0) x4 (w32 ((-1) - x6))) x0 6) = 0 then La_value_5 (wr_ h (rf_ h x0 0) x4 (w32 ((-1) - x6))) x0 x1 x2 (w32 (x4 + 1)) (w32 (x5 + 1)) else some (wr_ h (rf_ h x0 0) x4 (w32 ((-1) - x6)), x2))))) := (ff_of bk_59_15 [(13, x0), (0, x1), (1, x2), (9, 0), (0, x4), (0, x5), (0, x6)] [] h).trans (by
  show (if 64 ≤ x4 then JJ 59 22 [(13, x0), (0, x1), (1, x2), (9, 0), (0, x4), (0, x5), (0, x6)] [] h else JJ 59 16 [(13, x0), (0, x1), (1, x2), (9, 0), (0, x4), (0, x5), (0, x6)] [] h) = _
  simp only [jt_59_16, jt_59_22, ck_or1, ck_or2, rf_wr, ln_wr, nn_wr, rf_cp, ln_cp, nn_cp, ln_wf, nn_wf, rd_wf, nn_nw]
  try rfl)
set_option maxRecDepth 20000 in
theorem jt_59_21 (h : am_H) (d3 : am_V) (x0 x1 x2 x4 x5 x6 : Int) : JJ 59 21 [(13, x0), (0, x1), (1, x2), d3, (0, x4), (0, x5), (0, x6)] [] h = ck_ (0 ≤ x0) (ck_ (0 ≤ x0) (ck_ (0 ≤ (rf_ h x0 0)) (ck_ (0 ≤ (w32 ((w32 (x4 + (-1))) - 1)) ∧ (w32 ((w32 (x4 + (-1))) - 1)) < ln_ h (rf_ h x0 0)) (ck_ (0 ≤ x0) (ck_ (0 ≤ (rf_ h x0 0)) (ck_ (0 ≤ (w32 (x4 + (-1))) ∧ (w32 (x4 + (-1))) < ln_ h (rf_ h x0 0)) (ck_ (0 ≤ x0) (bd_ (La_joined h x0 x6 (rd_ h (rf_ h x0 0) (w32 ((w32 (x4 + (-1))) - 1))) (rd_ h (rf_ h x0 0) (w32 (x4 + (-1))))) fun h1 v2 => ck_ (0 ≤ (rf_ h x0 0)) (ck_ (0 ≤ (w32 ((w32 (x4 + (-1))) - 1)) ∧ (w32 ((w32 (x4 + (-1))) - 1)) < ln_ h1 (rf_ h x0 0)) (ck_ (0 ≤ x0) (if (rd_ (wr_ h1 (rf_ h x0 0) (w32 ((w32 (x4 + (-1))) - 1)) v2) x0 6) = 0 then La_value_5 (wr_ h1 (rf_ h x0 0) (w32 ((w32 (x4 + (-1))) - 1)) v2) x0 x1 x2 (w32 (x4 + (-1))) (w32 (x5 + 1)) else some (wr_ h1 (rf_ h x0 0) (w32 ((w32 (x4 + (-1))) - 1)) v2, x2)))))))))))) := (jj_of bk_59_21 _ _ h).trans ((ff_of bk_59_21 [(13, x0), (0, x1), (1, x2), (9, 0), (0, x4), (0, x5), (0, x6)] [] h).trans (by
  show (ck_ (0 ≤ x0) (ck_ (0 ≤ x0) (ck_ (0 ≤ (rf_ h x0 0)) (ck_ (0 ≤ (w32 ((w32 (x4 + (-1))) - 1)) ∧ (w32 ((w32 (x4 + (-1))) - 1)) < ln_ h (rf_ h x0 0)) (ck_ (0 ≤ x0) (ck_ (0 ≤ (rf_ h x0 0)) (ck_ (0 ≤ (w32 (x4 + (-1))) ∧ (w32 (x4 + (-1))) < ln_ h (rf_ h x0 0)) (ck_ (0 ≤ x0) (bd_ (CC 51 [(13, x0), (0, x6), (1, rd_ h (rf_ h x0 0) (w32 ((w32 (x4 + (-1))) - 1))), (1, rd_ h (rf_ h x0 0) (w32 (x4 + (-1))))] h) fun h1 v2 => ck_ (0 ≤ (rf_ h x0 0)) (ck_ (0 ≤ (w32 ((w32 (x4 + (-1))) - 1)) ∧ (w32 ((w32 (x4 + (-1))) - 1)) < ln_ h1 (rf_ h x0 0)) (JJ 59 22 [(13, x0), (0, x1), (1, x2), (9, 0), (0, w32 (x4 + (-1))), (0, x5), (0, x6)] [] (wr_ h1 (rf_ h x0 0) (w32 ((w32 (x4 + (-1))) - 1)) v2)))))))))))) = _
  simp only [cc_51, jt_59_22, ck_or1, ck_or2, rf_wr, ln_wr, nn_wr, rf_cp, ln_cp, nn_cp, ln_wf, nn_wf, rd_wf, nn_nw]
  try rfl))
set_option maxRecDepth 20000 in
theorem La_value_20_e (h : am_H) (x0 x1 x2 x4 x5 x6 : Int) : La_value_20 h x0 x1 x2 x4 x5 x6 = if x4 ≤ 1 then ck_ (0 ≤ x0) (if (rd_ h x0 6) = 0 then La_value_5 h x0 x1 x2 x4 (w32 (x5 + 1)) else some (h, x2)) else ck_ (0 ≤ x0) (ck_ (0 ≤ x0) (ck_ (0 ≤ (rf_ h x0 0)) (ck_ (0 ≤ (w32 ((w32 (x4 + (-1))) - 1)) ∧ (w32 ((w32 (x4 + (-1))) - 1)) < ln_ h (rf_ h x0 0)) (ck_ (0 ≤ x0) (ck_ (0 ≤ (rf_ h x0 0)) (ck_ (0 ≤ (w32 (x4 + (-1))) ∧ (w32 (x4 + (-1))) < ln_ h (rf_ h x0 0)) (ck_ (0 ≤ x0) (bd_ (La_joined h x0 x6 (rd_ h (rf_ h x0 0) (w32 ((w32 (x4 + (-1))) - 1))) (rd_ h (rf_ h x0 0) (w32 (x4 + (-1))))) fun h1 v2 => ck_ (0 ≤ (rf_ h x0 0)) (ck_ (0 ≤ (w32 ((w32 (x4 + (-1))) - 1)) ∧ (w32 ((w32 (x4 + (-1))) - 1)) < ln_ h1 (rf_ h x0 0)) (ck_ (0 ≤ x0) (if (rd_ (wr_ h1 (rf_ h x0 0) (w32 ((w32 (x4 + (-1))) - 1)) v2) x0 6) = 0 then La_value_5 (wr_ h1 (rf_ h x0 0) (w32 ((w32 (x4 + (-1))) - 1)) v2) x0 x1 x2 (w32 (x4 + (-1))) (w32 (x5 + 1)) else some (wr_ h1 (rf_ h x0 0) (w32 ((w32 (x4 + (-1))) - 1)) v2, x2)))))))))))) := (ff_of bk_59_20 [(13, x0), (0, x1), (1, x2), (9, 0), (0, x4), (0, x5), (0, x6)] [] h).trans (by
  show (if x4 ≤ 1 then JJ 59 22 [(13, x0), (0, x1), (1, x2), (9, 0), (0, x4), (0, x5), (0, x6)] [] h else JJ 59 21 [(13, x0), (0, x1), (1, x2), (9, 0), (0, x4), (0, x5), (0, x6)] [] h) = _
  simp only [jt_59_21, jt_59_22, ck_or1, ck_or2, rf_wr, ln_wr, nn_wr, rf_cp, ln_cp, nn_cp, ln_wf, nn_wf, rd_wf, nn_nw]
  try rfl)
theorem cc_59 (h : am_H) (x0 x1 x2 : Int) : CC 59 [(13, x0), (0, x1), (1, x2)] h = La_value h x0 x1 x2 := cc_of pk_59 _ h
theorem pk_60 : am_prog 60 = some cd_60 := rfl
theorem bk_60_0 : bk_ am_prog 60 0 = some ([true], (bl_60_0, 9999)) := bk_of pk_60 rfl
theorem Mi_new_e (h : am_H) (x0 : Int) : Mi_new h x0 = ck_ (0 ≤ x0) (ck_ (0 ≤ (nn_ h)) (bd_ (La_new (nw_ h 3 7) (nn_ h)) fun h1 _ => ck_ (0 ≤ x0) (ck_ (0 ≤ x0) (ck_ (0 ≤ x0) (some (wf_ (wf_ (wf_ h1 x0 0 (nn_ h)) x0 1 (-1)) x0 2 (-1), 0)))))) := (ff_of bk_60_0 [(14, x0)] [] h).trans (by
  show (ck_ (0 ≤ x0) (ck_ (0 ≤ (nn_ h)) (bd_ (CC 45 [(13, nn_ h)] (nw_ h 3 7)) fun h1 _ => ck_ (0 ≤ x0) (ck_ (0 ≤ x0) (ck_ (0 ≤ x0) (some (wf_ (wf_ (wf_ h1 x0 0 (nn_ h)) x0 1 (-1)) x0 2 (-1), 0))))))) = _
  simp only [cc_45, ck_or1, ck_or2, rf_wr, ln_wr, nn_wr, rf_cp, ln_cp, nn_cp, ln_wf, nn_wf, rd_wf, nn_nw]
  try rfl)
theorem cc_60 (h : am_H) (x0 : Int) : CC 60 [(14, x0)] h = Mi_new h x0 := cc_of pk_60 _ h
theorem pk_61 : am_prog 61 = some cd_61 := rfl
theorem bk_61_0 : bk_ am_prog 61 0 = some ([true, true, true], (bl_61_0, 9999)) := bk_of pk_61 rfl
theorem Mi_begin_e (h : am_H) (x0 x1 x2 : Int) : Mi_begin h x0 x1 x2 = ck_ (0 ≤ x0) (ck_ (0 ≤ x0) (ck_ (0 ≤ x0) (ck_ (0 ≤ x0) (ck_ (0 ≤ x0) (ck_ (0 ≤ x0) (ck_ (0 ≤ x0) (some (wr_ (wr_ (wr_ (wr_ (wr_ (wf_ (wf_ h x0 1 x1) x0 2 x2) x0 3 0) x0 4 (-1)) x0 5 (-1)) x0 6 (-1)) x0 7 0, 0)))))))) := ff_of bk_61_0 [(14, x0), (18, x1), (20, x2)] [] h
theorem cc_61 (h : am_H) (x0 x1 x2 : Int) : CC 61 [(14, x0), (18, x1), (20, x2)] h = Mi_begin h x0 x1 x2 := cc_of pk_61 _ h
theorem pk_62 : am_prog 62 = some cd_62 := rfl
theorem bk_62_0 : bk_ am_prog 62 0 = some ([true], (bl_62_0, 9999)) := bk_of pk_62 rfl
theorem Mi_byNumbers_e (h : am_H) (x0 : Int) : Mi_byNumbers h x0 = ck_ (0 ≤ x0) (some (wr_ h x0 3 1, 0)) := ff_of bk_62_0 [(14, x0)] [] h
theorem cc_62 (h : am_H) (x0 : Int) : CC 62 [(14, x0)] h = Mi_byNumbers h x0 := cc_of pk_62 _ h
theorem pk_63 : am_prog 63 = some cd_63 := rfl
theorem bk_63_0 : bk_ am_prog 63 0 = some ([true, true, true], (bl_63_0, 9999)) := bk_of pk_63 rfl
theorem bk_63_1 : bk_ am_prog 63 1 = some ([false, false, true], (bl_63_1, 9999)) := bk_of pk_63 rfl
theorem bk_63_2 : bk_ am_prog 63 2 = some ([false, false, false], (bl_63_2, 3)) := bk_of pk_63 rfl
theorem bk_63_3 : bk_ am_prog 63 3 = some ([false, false, false], (bl_63_3, 9999)) := bk_of pk_63 rfl
theorem jt_63_3 (h : am_H) (d0 d1 d2 : am_V) (s0 s1 : Int) : JJ 63 3 [d0, d1, d2] [(0, s0), (14, s1)] h = ck_ (0 ≤ s1) (some (wr_ h s1 5 s0, 0)) := (jj_of bk_63_3 _ _ h).trans (ff_of bk_63_3 [(9, 0), (9, 0), (9, 0)] [(0, s0), (14, s1)] h)
theorem jt_63_2 (h : am_H) (d0 d1 d2 : am_V) (s0 : Int) : JJ 63 2 [d0, d1, d2] [(14, s0)] h = ck_ (0 ≤ s0) (some (wr_ h s0 5 (-1), 0)) := (jj_of bk_63_2 _ _ h).trans ((ff_of bk_63_2 [(9, 0), (9, 0), (9, 0)] [(14, s0)] h).trans (by
  show (JJ 63 3 [(9, 0), (9, 0), (9, 0)] [(0, (-1)), (14, s0)] h) = _
  simp only [jt_63_3, ck_or1, ck_or2, rf_wr, ln_wr, nn_wr, rf_cp, ln_cp, nn_cp, ln_wf, nn_wf, rd_wf, nn_nw]
  try rfl))
theorem jt_63_1 (h : am_H) (d0 d1 : am_V) (x2 s0 : Int) : JJ 63 1 [d0, d1, (0, x2)] [(14, s0)] h = ck_ (0 ≤ s0) (some (wr_ h s0 5 x2, 0)) := (jj_of bk_63_1 _ _ h).trans ((ff_of bk_63_1 [(9, 0), (9, 0), (0, x2)] [(14, s0)] h).trans (by
  show (JJ 63 3 [(9, 0), (9, 0), (0, x2)] [(0, x2), (14, s0)] h) = _
  simp only [jt_63_3, ck_or1, ck_or2, rf_wr, ln_wr, nn_wr, rf_cp, ln_cp, nn_cp, ln_wf, nn_wf, rd_wf, nn_nw]
  try rfl))
theorem Mi_tryOtherwise_e (h : am_H) (x0 x1 x2 : Int) : Mi_tryOtherwise h x0 x1 x2 = ck_ (0 ≤ x0) (if x1 ≠ 2 then ck_ (0 ≤ x0) (some (wr_ (wr_ h x0 4 x1) x0 5 (-1), 0)) else ck_ (0 ≤ x0) (some (wr_ (wr_ h x0 4 x1) x0 5 x2, 0))) := (ff_of bk_63_0 [(14, x0), (0, x1), (0, x2)] [] h).trans (by
  show (ck_ (0 ≤ x0) (if x1 ≠ 2 then JJ 63 2 [(14, x0), (0, x1), (0, x2)] [(14, x0)] (wr_ h x0 4 x1) else JJ 63 1 [(14, x0), (0, x1), (0, x2)] [(14, x0)] (wr_ h x0 4 x1))) = _
  simp only [jt_63_1, jt_63_2, ck_or1, ck_or2, rf_wr, ln_wr, nn_wr, rf_cp, ln_cp, nn_cp, ln_wf, nn_wf, rd_wf, nn_nw]
  try rfl)
theorem cc_63 (h : am_H) (x0 x1 x2 : Int) : CC 63 [(14, x0), (0, x1), (0, x2)] h = Mi_tryOtherwise h x0 x1 x2 := cc_of pk_63 _ h
theorem pk_64 : am_prog 64 = some cd_64 := rfl
theorem bk_64_0 : bk_ am_prog 64 0 = some ([true, true, true], (bl_64_0, 9999)) := bk_of pk_64 rfl
theorem Mi_turnBy_e (h : am_H) (x0 x1 x2 : Int) : Mi_turnBy h x0 x1 x2 = ck_ (0 ≤ x0) (ck_ (0 ≤ x0) (some (wr_ (wr_ h x0 6 x1) x0 7 x2, 0))) := ff_of bk_64_0 [(14, x0), (0, x1), (0, x2)] [] h
theorem cc_64 (h : am_H) (x0 x1 x2 : Int) : CC 64 [(14, x0), (0, x1), (0, x2)] h = Mi_turnBy h x0 x1 x2 := cc_of pk_64 _ h
theorem pk_65 : am_prog 65 = some cd_65 := rfl
theorem bk_65_0 : bk_ am_prog 65 0 = some ([true, true, false], (bl_65_0, 9999)) := bk_of pk_65 rfl
theorem bk_65_1 : bk_ am_prog 65 1 = some ([true, false, true], (bl_65_1, 2)) := bk_of pk_65 rfl
theorem bk_65_2 : bk_ am_prog 65 2 = some ([false, false, false], (bl_65_2, 9999)) := bk_of pk_65 rfl
theorem jt_65_2 (h : am_H) (d0 d1 d2 : am_V) : JJ 65 2 [d0, d1, d2] [] h = some (h, 0) := (jj_of bk_65_2 _ _ h).trans (ff_of bk_65_2 [(9, 0), (9, 0), (9, 0)] [] h)
theorem jt_65_1 (h : am_H) (d1 : am_V) (x0 x2 : Int) : JJ 65 1 [(20, x0), d1, (0, x2)] [] h = ck_ (0 ≤ x0) (ck_ (0 ≤ (rf_ h x0 12)) (ck_ (0 ≤ x2 ∧ x2 < ln_ h (rf_ h x0 12)) (some (wr_ h (rf_ h x0 12) x2 1, 0)))) := (jj_of bk_65_1 _ _ h).trans ((ff_of bk_65_1 [(20, x0), (9, 0), (0, x2)] [] h).trans (by
  show (ck_ (0 ≤ x0) (ck_ (0 ≤ (rf_ h x0 12)) (ck_ (0 ≤ x2 ∧ x2 < ln_ h (rf_ h x0 12)) (JJ 65 2 [(20, x0), (9, 0), (0, x2)] [] (wr_ h (rf_ h x0 12) x2 1))))) = _
  simp only [jt_65_2, ck_or1, ck_or2, rf_wr, ln_wr, nn_wr, rf_cp, ln_cp, nn_cp, ln_wf, nn_wf, rd_wf, nn_nw]
  try rfl))
theorem Wo_chipTop_e (h : am_H) (x0 x1 : Int) : Wo_chipTop h x0 x1 = ck_ (0 ≤ x0) (bd_ (Wo_plateAt h x0 x1 0) fun h1 v2 => if v2 < 0 then some (h1, 0) else ck_ (0 ≤ x0) (ck_ (0 ≤ (rf_ h1 x0 12)) (ck_ (0 ≤ v2 ∧ v2 < ln_ h1 (rf_ h1 x0 12)) (some (wr_ h1 (rf_ h1 x0 12) v2 1, 0))))) := (ff_of bk_65_0 [(20, x0), (0, x1), (9, 0)] [] h).trans (by
  show (ck_ (0 ≤ x0) (bd_ (CC 55 [(20, x0), (0, x1), (0, 0)] h) fun h1 v2 => if v2 < 0 then JJ 65 2 [(20, x0), (0, x1), (0, v2)] [] h1 else JJ 65 1 [(20, x0), (0, x1), (0, v2)] [] h1)) = _
  simp only [cc_55, jt_65_1, jt_65_2, ck_or1, ck_or2, rf_wr, ln_wr, nn_wr, rf_cp, ln_cp, nn_cp, ln_wf, nn_wf, rd_wf, nn_nw]
  try rfl)
theorem cc_65 (h : am_H) (x0 x1 : Int) : CC 65 [(20, x0), (0, x1)] h = Wo_chipTop h x0 x1 := cc_of pk_65 _ h
theorem pk_66 : am_prog 66 = some cd_66 := rfl
theorem bk_66_0 : bk_ am_prog 66 0 = some ([true, true, true, false, false, false, false], (bl_66_0, 9999)) := bk_of pk_66 rfl
theorem bk_66_1 : bk_ am_prog 66 1 = some ([true, true, true, false, false, false, false], (bl_66_1, 9999)) := bk_of pk_66 rfl
theorem bk_66_2 : bk_ am_prog 66 2 = some ([true, true, true, false, false, false, false], (bl_66_2, 9999)) := bk_of pk_66 rfl
theorem bk_66_3 : bk_ am_prog 66 3 = some ([false, false, false, false, false, false, false], (bl_66_3, 9999)) := bk_of pk_66 rfl
theorem bk_66_4 : bk_ am_prog 66 4 = some ([true, true, true, false, false, false, false], (bl_66_4, 5)) := bk_of pk_66 rfl
theorem bk_66_5 : bk_ am_prog 66 5 = some ([true, true, true, true, true, true, false], (bl_66_5, 9999)) := bk_of pk_66 rfl
theorem bk_66_6 : bk_ am_prog 66 6 = some ([true, true, true, true, true, true, false], (bl_66_6, 9999)) := bk_of pk_66 rfl
theorem bk_66_7 : bk_ am_prog 66 7 = some ([true, true, true, true, false, false, false], (bl_66_7, 8)) := bk_of pk_66 rfl
theorem bk_66_8 : bk_ am_prog 66 8 = some ([true, true, true, true, true, false, false], (bl_66_8, 9999)) := bk_of pk_66 rfl
theorem bk_66_9 : bk_ am_prog 66 9 = some ([true, true, true, true, true, false, false], (bl_66_9, 9999)) := bk_of pk_66 rfl
theorem bk_66_10 : bk_ am_prog 66 10 = some ([true, true, false, false, false, false, false], (bl_66_10, 9999)) := bk_of pk_66 rfl
theorem jt_66_5 (h : am_H) (d6 : am_V) (x0 x1 x2 x3 x4 x5 : Int) : JJ 66 5 [(20, x0), (0, x1), (0, x2), (0, x3), (0, x4), (0, x5), d6] [] h = Wo_turnOver_5 h x0 x1 x2 x3 x4 x5 := jj_of bk_66_5 _ _ h
theorem jt_66_8 (h : am_H) (d5 d6 : am_V) (x0 x1 x2 x3 x4 : Int) : JJ 66 8 [(20, x0), (0, x1), (0, x2), (0, x3), (0, x4), d5, d6] [] h = Wo_turnOver_8 h x0 x1 x2 x3 x4 := jj_of bk_66_8 _ _ h
theorem jt_66_3 (h : am_H) (d0 d1 d2 d3 d4 d5 d6 : am_V) : JJ 66 3 [d0, d1, d2, d3, d4, d5, d6] [] h = some (h, 0) := (jj_of bk_66_3 _ _ h).trans (ff_of bk_66_3 [(9, 0), (9, 0), (9, 0), (9, 0), (9, 0), (9, 0), (9, 0)] [] h)
theorem jt_66_4 (h : am_H) (d3 d4 d5 d6 : am_V) (x0 x1 x2 : Int) : JJ 66 4 [(20, x0), (0, x1), (0, x2), d3, d4, d5, d6] [] h = Wo_turnOver_5 h x0 x1 x2 (w32 (x1 * 5)) (w32 (x1 * 5)) (w32 ((w32 ((w32 (x1 * 5)) + x2)) - 1)) := (jj_of bk_66_4 _ _ h).trans ((ff_of bk_66_4 [(20, x0), (0, x1), (0, x2), (9, 0), (9, 0), (9, 0), (9, 0)] [] h).trans (by
  show (JJ 66 5 [(20, x0), (0, x1), (0, x2), (0, w32 (x1 * 5)), (0, w32 (x1 * 5)), (0, w32 ((w32 ((w32 (x1 * 5)) + x2)) - 1)), (9, 0)] [] h) = _
  simp only [jt_66_5, ck_or1, ck_or2, rf_wr, ln_wr, nn_wr, rf_cp, ln_cp, nn_cp, ln_wf, nn_wf, rd_wf, nn_nw]
  try rfl))
theorem jt_66_2 (h : am_H) (d3 d4 d5 d6 : am_V) (x0 x1 x2 : Int) : JJ 66 2 [(20, x0), (0, x1), (0, x2), d3, d4, d5, d6] [] h = ck_ (0 ≤ x0) (ck_ (0 ≤ (rf_ h x0 6)) (ck_ (0 ≤ x1 ∧ x1 < ln_ h (rf_ h x0 6)) (if x2 ≤ (rd_ h (rf_ h x0 6) x1) then Wo_turnOver_5 h x0 x1 x2 (w32 (x1 * 5)) (w32 (x1 * 5)) (w32 ((w32 ((w32 (x1 * 5)) + x2)) - 1)) else some (h, 0)))) := (jj_of bk_66_2 _ _ h).trans ((ff_of bk_66_2 [(20, x0), (0, x1), (0, x2), (9, 0), (9, 0), (9, 0), (9, 0)] [] h).trans (by
  show (ck_ (0 ≤ x0) (ck_ (0 ≤ (rf_ h x0 6)) (ck_ (0 ≤ x1 ∧ x1 < ln_ h (rf_ h x0 6)) (if x2 ≤ (rd_ h (rf_ h x0 6) x1) then JJ 66 4 [(20, x0), (0, x1), (0, x2), (9, 0), (9, 0), (9, 0), (9, 0)] [] h else JJ 66 3 [(20, x0), (0, x1), (0, x2), (9, 0), (9, 0), (9, 0), (9, 0)] [] h)))) = _
  simp only [jt_66_3, jt_66_4, ck_or1, ck_or2, rf_wr, ln_wr, nn_wr, rf_cp, ln_cp, nn_cp, ln_wf, nn_wf, rd_wf, nn_nw]
  try rfl))
theorem jt_66_1 (h : am_H) (d3 d4 d5 d6 : am_V) (x0 x1 x2 : Int) : JJ 66 1 [(20, x0), (0, x1), (0, x2), d3, d4, d5, d6] [] h = if x2 < 1 then some (h, 0) else ck_ (0 ≤ x0) (ck_ (0 ≤ (rf_ h x0 6)) (ck_ (0 ≤ x1 ∧ x1 < ln_ h (rf_ h x0 6)) (if x2 ≤ (rd_ h (rf_ h x0 6) x1) then Wo_turnOver_5 h x0 x1 x2 (w32 (x1 * 5)) (w32 (x1 * 5)) (w32 ((w32 ((w32 (x1 * 5)) + x2)) - 1)) else some (h, 0)))) := (jj_of bk_66_1 _ _ h).trans ((ff_of bk_66_1 [(20, x0), (0, x1), (0, x2), (9, 0), (9, 0), (9, 0), (9, 0)] [] h).trans (by
  show (if x2 < 1 then JJ 66 3 [(20, x0), (0, x1), (0, x2), (9, 0), (9, 0), (9, 0), (9, 0)] [] h else JJ 66 2 [(20, x0), (0, x1), (0, x2), (9, 0), (9, 0), (9, 0), (9, 0)] [] h) = _
  simp only [jt_66_2, jt_66_3, ck_or1, ck_or2, rf_wr, ln_wr, nn_wr, rf_cp, ln_cp, nn_cp, ln_wf, nn_wf, rd_wf, nn_nw]
  try rfl))
theorem Wo_turnOver_e (h : am_H) (x0 x1 x2 : Int) : Wo_turnOver h x0 x1 x2 = ck_ (0 ≤ x0) (bd_ (Wo_hasPile h x0 x1) fun h1 v2 => if v2 = 0 then some (h1, 0) else if x2 < 1 then some (h1, 0) else ck_ (0 ≤ x0) (ck_ (0 ≤ (rf_ h1 x0 6)) (ck_ (0 ≤ x1 ∧ x1 < ln_ h1 (rf_ h1 x0 6)) (if x2 ≤ (rd_ h1 (rf_ h1 x0 6) x1) then Wo_turnOver_5 h1 x0 x1 x2 (w32 (x1 * 5)) (w32 (x1 * 5)) (w32 ((w32 ((w32 (x1 * 5)) + x2)) - 1)) else some (h1, 0))))) := (ff_of bk_66_0 [(20, x0), (0, x1), (0, x2), (9, 0), (9, 0), (9, 0), (9, 0)] [] h).trans (by
  show (ck_ (0 ≤ x0) (bd_ (CC 54 [(20, x0), (0, x1)] h) fun h1 v2 => if v2 = 0 then JJ 66 3 [(20, x0), (0, x1), (0, x2), (9, 0), (9, 0), (9, 0), (9, 0)] [] h1 else JJ 66 1 [(20, x0), (0, x1), (0, x2), (9, 0), (9, 0), (9, 0), (9, 0)] [] h1)) = _
  simp only [cc_54, jt_66_1, jt_66_3, ck_or1, ck_or2, rf_wr, ln_wr, nn_wr, rf_cp, ln_cp, nn_cp, ln_wf, nn_wf, rd_wf, nn_nw]
  try rfl)
theorem jt_66_7 (h : am_H) (d4 d5 d6 : am_V) (x0 x1 x2 x3 : Int) : JJ 66 7 [(20, x0), (0, x1), (0, x2), (0, x3), d4, d5, d6] [] h = Wo_turnOver_8 h x0 x1 x2 x3 x3 := (jj_of bk_66_7 _ _ h).trans ((ff_of bk_66_7 [(20, x0), (0, x1), (0, x2), (0, x3), (9, 0), (9, 0), (9, 0)] [] h).trans (by
  show (JJ 66 8 [(20, x0), (0, x1), (0, x2), (0, x3), (0, x3), (9, 0), (9, 0)] [] h) = _
  simp only [jt_66_8, ck_or1, ck_or2, rf_wr, ln_wr, nn_wr, rf_cp, ln_cp, nn_cp, ln_wf, nn_wf, rd_wf, nn_nw]
  try rfl))
set_option maxRecDepth 20000 in
theorem jt_66_6 (h : am_H) (d6 : am_V) (x0 x1 x2 x3 x4 x5 : Int) : JJ 66 6 [(20, x0), (0, x1), (0, x2), (0, x3), (0, x4), (0, x5), d6] [] h = ck_ (0 ≤ x0) (ck_ (0 ≤ (rf_ h x0 9)) (ck_ (0 ≤ x4 ∧ x4 < ln_ h (rf_ h x0 9)) (ck_ (0 ≤ x0) (ck_ (0 ≤ x0) (ck_ (0 ≤ (rf_ h x0 9)) (ck_ (0 ≤ x5 ∧ x5 < ln_ h (rf_ h x0 9)) (ck_ (0 ≤ (rf_ h x0 9)) (ck_ (0 ≤ x4 ∧ x4 < ln_ h (rf_ h x0 9)) (ck_ (0 ≤ x0) (ck_ (0 ≤ (rf_ h x0 9)) (ck_ (0 ≤ x5 ∧ x5 < ln_ h (rf_ h x0 9)) (Wo_turnOver_5 (wr_ (wr_ h (rf_ h x0 9) x4 (rd_ h (rf_ h x0 9) x5)) (rf_ h x0 9) x5 (rd_ h (rf_ h x0 9) x4)) x0 x1 x2 x3 (w32 (x4 + 1)) (w32 (x5 + (-1))))))))))))))) := (jj_of bk_66_6 _ _ h).trans ((ff_of bk_66_6 [(20, x0), (0, x1), (0, x2), (0, x3), (0, x4), (0, x5), (9, 0)] [] h).trans (by
  show (ck_ (0 ≤ x0) (ck_ (0 ≤ (rf_ h x0 9)) (ck_ (0 ≤ x4 ∧ x4 < ln_ h (rf_ h x0 9)) (ck_ (0 ≤ x0) (ck_ (0 ≤ x0) (ck_ (0 ≤ (rf_ h x0 9)) (ck_ (0 ≤ x5 ∧ x5 < ln_ h (rf_ h x0 9)) (ck_ (0 ≤ (rf_ h x0 9)) (ck_ (0 ≤ x4 ∧ x4 < ln_ h (rf_ h x0 9)) (ck_ (0 ≤ x0) (ck_ (0 ≤ (rf_ h x0 9)) (ck_ (0 ≤ x5 ∧ x5 < ln_ h (rf_ h x0 9)) (JJ 66 5 [(20, x0), (0, x1), (0, x2), (0, x3), (0, w32 (x4 + 1)), (0, w32 (x5 + (-1))), (0, rd_ h (rf_ h x0 9) x4)] [] (wr_ (wr_ h (rf_ h x0 9) x4 (rd_ h (rf_ h x0 9) x5)) (rf_ h x0 9) x5 (rd_ h (rf_ h x0 9) x4))))))))))))))) = _
  simp only [jt_66_5, ck_or1, ck_or2, rf_wr, ln_wr, nn_wr, rf_cp, ln_cp, nn_cp, ln_wf, nn_wf, rd_wf, nn_nw]
  try rfl))
theorem Wo_turnOver_5_e (h : am_H) (x0 x1 x2 x3 x4 x5 : Int) : Wo_turnOver_5 h x0 x1 x2 x3 x4 x5 = if x5 ≤ x4 then Wo_turnOver_8 h x0 x1 x2 x3 x3 else ck_ (0 ≤ x0) (ck_ (0 ≤ (rf_ h x0 9)) (ck_ (0 ≤ x4 ∧ x4 < ln_ h (rf_ h x0 9)) (ck_ (0 ≤ x0) (ck_ (0 ≤ x0) (ck_ (0 ≤ (rf_ h x0 9)) (ck_ (0 ≤ x5 ∧ x5 < ln_ h (rf_ h x0 9)) (ck_ (0 ≤ (rf_ h x0 9)) (ck_ (0 ≤ x4 ∧ x4 < ln_ h (rf_ h x0 9)) (ck_ (0 ≤ x0) (ck_ (0 ≤ (rf_ h x0 9)) (ck_ (0 ≤ x5 ∧ x5 < ln_ h (rf_ h x0 9)) (Wo_turnOver_5 (wr_ (wr_ h (rf_ h x0 9) x4 (rd_ h (rf_ h x0 9) x5)) (rf_ h x0 9) x5 (rd_ h (rf_ h x0 9) x4)) x0 x1 x2 x3 (w32 (x4 + 1)) (w32 (x5 + (-1))))))))))))))) := (ff_of bk_66_5 [(20, x0), (0, x1), (0, x2), (0, x3), (0, x4), (0, x5), (9, 0)] [] h).trans (by
  show (if x5 ≤ x4 then JJ 66 7 [(20, x0), (0, x1), (0, x2), (0, x3), (0, x4), (0, x5), (9, 0)] [] h else JJ 66 6 [(20, x0), (0, x1), (0, x2), (0, x3), (0, x4), (0, x5), (9, 0)] [] h) = _
  simp only [jt_66_6, jt_66_7, ck_or1, ck_or2, rf_wr, ln_wr, nn_wr, rf_cp, ln_cp, nn_cp, ln_wf, nn_wf, rd_wf, nn_nw]
  try rfl)
theorem jt_66_10 (h : am_H) (d2 d3 d4 d5 d6 : am_V) (x0 x1 : Int) : JJ 66 10 [(20, x0), (0, x1), d2, d3, d4, d5, d6] [] h = ck_ (0 ≤ x0) (ck_ (0 ≤ (rf_ h x0 7)) (ck_ (0 ≤ x1 ∧ x1 < ln_ h (rf_ h x0 7)) (ck_ (0 ≤ (rf_ h x0 7)) (ck_ (0 ≤ x1 ∧ x1 < ln_ h (rf_ h x0 7)) (some (wr_ h (rf_ h x0 7) x1 (w32 ((rd_ h (rf_ h x0 7) x1) + 1)), 0)))))) := (jj_of bk_66_10 _ _ h).trans (ff_of bk_66_10 [(20, x0), (0, x1), (9, 0), (9, 0), (9, 0), (9, 0), (9, 0)] [] h)
set_option maxRecDepth 20000 in
theorem jt_66_9 (h : am_H) (d5 d6 : am_V) (x0 x1 x2 x3 x4 : Int) : JJ 66 9 [(20, x0), (0, x1), (0, x2), (0, x3), (0, x4), d5, d6] [] h = ck_ (0 ≤ x0) (ck_ (0 ≤ x0) (ck_ (0 ≤ (rf_ h x0 9)) (ck_ (0 ≤ x4 ∧ x4 < ln_ h (rf_ h x0 9)) (ck_ (0 ≤ x0) (ck_ (0 ≤ x0) (ck_ (0 ≤ (rf_ h x0 9)) (ck_ (0 ≤ x4 ∧ x4 < ln_ h (rf_ h x0 9)) (ck_ (0 ≤ (rf_ h x0 11)) (ck_ (0 ≤ (rd_ h (rf_ h x0 9) x4) ∧ (rd_ h (rf_ h x0 9) x4) < ln_ h (rf_ h x0 11)) (ck_ (0 ≤ (rf_ h x0 11)) (ck_ (0 ≤ (rd_ h (rf_ h x0 9) x4) ∧ (rd_ h (rf_ h x0 9) x4) < ln_ h (rf_ h x0 11)) (Wo_turnOver_8 (wr_ h (rf_ h x0 11) (rd_ h (rf_ h x0 9) x4) (w32 (1 - (rd_ h (rf_ h x0 11) (rd_ h (rf_ h x0 9) x4))))) x0 x1 x2 x3 (w32 (x4 + 1)))))))))))))) := (jj_of bk_66_9 _ _ h).trans ((ff_of bk_66_9 [(20, x0), (0, x1), (0, x2), (0, x3), (0, x4), (9, 0), (9, 0)] [] h).trans (by
  show (ck_ (0 ≤ x0) (ck_ (0 ≤ x0) (ck_ (0 ≤ (rf_ h x0 9)) (ck_ (0 ≤ x4 ∧ x4 < ln_ h (rf_ h x0 9)) (ck_ (0 ≤ x0) (ck_ (0 ≤ x0) (ck_ (0 ≤ (rf_ h x0 9)) (ck_ (0 ≤ x4 ∧ x4 < ln_ h (rf_ h x0 9)) (ck_ (0 ≤ (rf_ h x0 11)) (ck_ (0 ≤ (rd_ h (rf_ h x0 9) x4) ∧ (rd_ h (rf_ h x0 9) x4) < ln_ h (rf_ h x0 11)) (ck_ (0 ≤ (rf_ h x0 11)) (ck_ (0 ≤ (rd_ h (rf_ h x0 9) x4) ∧ (rd_ h (rf_ h x0 9) x4) < ln_ h (rf_ h x0 11)) (JJ 66 8 [(20, x0), (0, x1), (0, x2), (0, x3), (0, w32 (x4 + 1)), (9, 0), (9, 0)] [] (wr_ h (rf_ h x0 11) (rd_ h (rf_ h x0 9) x4) (w32 (1 - (rd_ h (rf_ h x0 11) (rd_ h (rf_ h x0 9) x4)))))))))))))))))) = _
  simp only [jt_66_8, ck_or1, ck_or2, rf_wr, ln_wr, nn_wr, rf_cp, ln_cp, nn_cp, ln_wf, nn_wf, rd_wf, nn_nw]
  try rfl))
set_option maxRecDepth 20000 in
theorem Wo_turnOver_8_e (h : am_H) (x0 x1 x2 x3 x4 : Int) : Wo_turnOver_8 h x0 x1 x2 x3 x4 = if (w32 (x3 + x2)) ≤ x4 then ck_ (0 ≤ x0) (ck_ (0 ≤ (rf_ h x0 7)) (ck_ (0 ≤ x1 ∧ x1 < ln_ h (rf_ h x0 7)) (ck_ (0 ≤ (rf_ h x0 7)) (ck_ (0 ≤ x1 ∧ x1 < ln_ h (rf_ h x0 7)) (some (wr_ h (rf_ h x0 7) x1 (w32 ((rd_ h (rf_ h x0 7) x1) + 1)), 0)))))) else ck_ (0 ≤ x0) (ck_ (0 ≤ x0) (ck_ (0 ≤ (rf_ h x0 9)) (ck_ (0 ≤ x4 ∧ x4 < ln_ h (rf_ h x0 9)) (ck_ (0 ≤ x0) (ck_ (0 ≤ x0) (ck_ (0 ≤ (rf_ h x0 9)) (ck_ (0 ≤ x4 ∧ x4 < ln_ h (rf_ h x0 9)) (ck_ (0 ≤ (rf_ h x0 11)) (ck_ (0 ≤ (rd_ h (rf_ h x0 9) x4) ∧ (rd_ h (rf_ h x0 9) x4) < ln_ h (rf_ h x0 11)) (ck_ (0 ≤ (rf_ h x0 11)) (ck_ (0 ≤ (rd_ h (rf_ h x0 9) x4) ∧ (rd_ h (rf_ h x0 9) x4) < ln_ h (rf_ h x0 11)) (Wo_turnOver_8 (wr_ h (rf_ h x0 11) (rd_ h (rf_ h x0 9) x4) (w32 (1 - (rd_ h (rf_ h x0 11) (rd_ h (rf_ h x0 9) x4))))) x0 x1 x2 x3 (w32 (x4 + 1)))))))))))))) := (ff_of bk_66_8 [(20, x0), (0, x1), (0, x2), (0, x3), (0, x4), (9, 0), (9, 0)] [] h).trans (by
  show (if (w32 (x3 + x2)) ≤ x4 then JJ 66 10 [(20, x0), (0, x1), (0, x2), (0, x3), (0, x4), (9, 0), (9, 0)] [] h else JJ 66 9 [(20, x0), (0, x1), (0, x2), (0, x3), (0, x4), (9, 0), (9, 0)] [] h) = _
  simp only [jt_66_10, jt_66_9, ck_or1, ck_or2, rf_wr, ln_wr, nn_wr, rf_cp, ln_cp, nn_cp, ln_wf, nn_wf, rd_wf, nn_nw]
  try rfl)
theorem cc_66 (h : am_H) (x0 x1 x2 : Int) : CC 66 [(20, x0), (0, x1), (0, x2)] h = Wo_turnOver h x0 x1 x2 := cc_of pk_66 _ h
theorem pk_67 : am_prog 67 = some cd_67 := rfl
theorem bk_67_0 : bk_ am_prog 67 0 = some ([true, true], (bl_67_0, 9999)) := bk_of pk_67 rfl
theorem bk_67_1 : bk_ am_prog 67 1 = some ([false, true], (bl_67_1, 9999)) := bk_of pk_67 rfl
theorem bk_67_2 : bk_ am_prog 67 2 = some ([false, false], (bl_67_2, 9999)) := bk_of pk_67 rfl
theorem bk_67_3 : bk_ am_prog 67 3 = some ([false, false], (bl_67_3, 4)) := bk_of pk_67 rfl
theorem bk_67_4 : bk_ am_prog 67 4 = some ([false, false], (bl_67_4, 9999)) := bk_of pk_67 rfl
theorem bk_67_5 : bk_ am_prog 67 5 = some ([true, true], (bl_67_5, 9999)) := bk_of pk_67 rfl
theorem bk_67_6 : bk_ am_prog 67 6 = some ([true, true], (bl_67_6, 9999)) := bk_of pk_67 rfl
theorem bk_67_7 : bk_ am_prog 67 7 = some ([false, true], (bl_67_7, 9999)) := bk_of pk_67 rfl
theorem bk_67_8 : bk_ am_prog 67 8 = some ([false, false], (bl_67_8, 9999)) := bk_of pk_67 rfl
theorem bk_67_9 : bk_ am_prog 67 9 = some ([false, false], (bl_67_9, 10)) := bk_of pk_67 rfl
theorem bk_67_10 : bk_ am_prog 67 10 = some ([false, false], (bl_67_10, 9999)) := bk_of pk_67 rfl
theorem bk_67_11 : bk_ am_prog 67 11 = some ([true, true], (bl_67_11, 9999)) := bk_of pk_67 rfl
theorem bk_67_12 : bk_ am_prog 67 12 = some ([false, false], (bl_67_12, 9999)) := bk_of pk_67 rfl
theorem bk_67_13 : bk_ am_prog 67 13 = some ([false, false], (bl_67_13, 14)) := bk_of pk_67 rfl
theorem bk_67_14 : bk_ am_prog 67 14 = some ([false, false], (bl_67_14, 9999)) := bk_of pk_67 rfl
theorem jt_67_10 (h : am_H) (d0 d1 : am_V) (s0 : Int) : JJ 67 10 [d0, d1] [(0, s0)] h = ck_ (s0 = 0 ∨ s0 = 1) (some (h, s0)) := (jj_of bk_67_10 _ _ h).trans (ff_of bk_67_10 [(9, 0), (9, 0)] [(0, s0)] h)
theorem jt_67_9 (h : am_H) (d0 d1 : am_V) : JJ 67 9 [d0, d1] [] h = some (h, 0) := (jj_of bk_67_9 _ _ h).trans ((ff_of bk_67_9 [(9, 0), (9, 0)] [] h).trans (by
  show (JJ 67 10 [(9, 0), (9, 0)] [(0, 0)] h) = _
  simp only [jt_67_10, ck_or1, ck_or2, rf_wr, ln_wr, nn_wr, rf_cp, ln_cp, nn_cp, ln_wf, nn_wf, rd_wf, nn_nw]
  try rfl))
theorem jt_67_8 (h : am_H) (d0 d1 : am_V) : JJ 67 8 [d0, d1] [] h = some (h, 1) := (jj_of bk_67_8 _ _ h).trans ((ff_of bk_67_8 [(9, 0), (9, 0)] [] h).trans (by
  show (JJ 67 10 [(9, 0), (9, 0)] [(0, 1)] h) = _
  simp only [jt_67_10, ck_or1, ck_or2, rf_wr, ln_wr, nn_wr, rf_cp, ln_cp, nn_cp, ln_wf, nn_wf, rd_wf, nn_nw]
  try rfl))
theorem jt_67_7 (h : am_H) (d0 : am_V) (x1 : Int) : JJ 67 7 [d0, (0, x1)] [] h = if x1 ≠ 100 then some (h, 0) else some (h, 1) := (jj_of bk_67_7 _ _ h).trans ((ff_of bk_67_7 [(9, 0), (0, x1)] [] h).trans (by
  show (if x1 ≠ 100 then JJ 67 9 [(9, 0), (0, x1)] [] h else JJ 67 8 [(9, 0), (0, x1)] [] h) = _
  simp only [jt_67_8, jt_67_9, ck_or1, ck_or2, rf_wr, ln_wr, nn_wr, rf_cp, ln_cp, nn_cp, ln_wf, nn_wf, rd_wf, nn_nw]
  try rfl))
theorem jt_67_14 (h : am_H) (d0 d1 : am_V) (s0 : Int) : JJ 67 14 [d0, d1] [(0, s0)] h = ck_ (s0 = 0 ∨ s0 = 1) (some (h, s0)) := (jj_of bk_67_14 _ _ h).trans (ff_of bk_67_14 [(9, 0), (9, 0)] [(0, s0)] h)
theorem jt_67_13 (h : am_H) (d0 d1 : am_V) : JJ 67 13 [d0, d1] [] h = some (h, 0) := (jj_of bk_67_13 _ _ h).trans ((ff_of bk_67_13 [(9, 0), (9, 0)] [] h).trans (by
  show (JJ 67 14 [(9, 0), (9, 0)] [(0, 0)] h) = _
  simp only [jt_67_14, ck_or1, ck_or2, rf_wr, ln_wr, nn_wr, rf_cp, ln_cp, nn_cp, ln_wf, nn_wf, rd_wf, nn_nw]
  try rfl))
theorem jt_67_12 (h : am_H) (d0 d1 : am_V) : JJ 67 12 [d0, d1] [] h = some (h, 1) := (jj_of bk_67_12 _ _ h).trans ((ff_of bk_67_12 [(9, 0), (9, 0)] [] h).trans (by
  show (JJ 67 14 [(9, 0), (9, 0)] [(0, 1)] h) = _
  simp only [jt_67_14, ck_or1, ck_or2, rf_wr, ln_wr, nn_wr, rf_cp, ln_cp, nn_cp, ln_wf, nn_wf, rd_wf, nn_nw]
  try rfl))
set_option maxRecDepth 20000 in
theorem jt_67_11 (h : am_H) (x0 x1 : Int) : JJ 67 11 [(14, x0), (0, x1)] [] h = ck_ (0 ≤ x0) (ck_ (0 ≤ x0) (ck_ (0 ≤ (rf_ h x0 2)) (ck_ (0 ≤ (rf_ h x0 2)) (ck_ (0 ≤ x0) (ck_ (0 ≤ (rf_ h x0 2)) (ck_ ((65536 : Int) ≠ 0) (ck_ ((100 : Int) ≠ 0) (if 0 ≤ (lcm_ (Int.tmod (w64 (Int.tdiv (rd_ (wr_ h (rf_ h x0 2) 5 (al_ (w64 ((w64 ((rd_ h (rf_ h x0 2) 5) * 1103515245)) + 12345)) 2147483647)) (rf_ h x0 2) 5) 65536)) 100) x1) then some (wr_ h (rf_ h x0 2) 5 (al_ (w64 ((w64 ((rd_ h (rf_ h x0 2) 5) * 1103515245)) + 12345)) 2147483647), 0) else some (wr_ h (rf_ h x0 2) 5 (al_ (w64 ((w64 ((rd_ h (rf_ h x0 2) 5) * 1103515245)) + 12345)) 2147483647), 1))))))))) := (jj_of bk_67_11 _ _ h).trans ((ff_of bk_67_11 [(14, x0), (0, x1)] [] h).trans (by
  show (ck_ (0 ≤ x0) (ck_ (0 ≤ x0) (ck_ (0 ≤ (rf_ h x0 2)) (ck_ (0 ≤ (rf_ h x0 2)) (ck_ (0 ≤ x0) (ck_ (0 ≤ (rf_ h x0 2)) (ck_ ((65536 : Int) ≠ 0) (ck_ ((100 : Int) ≠ 0) (if 0 ≤ (lcm_ (Int.tmod (w64 (Int.tdiv (rd_ (wr_ h (rf_ h x0 2) 5 (al_ (w64 ((w64 ((rd_ h (rf_ h x0 2) 5) * 1103515245)) + 12345)) 2147483647)) (rf_ h x0 2) 5) 65536)) 100) x1) then JJ 67 13 [(14, x0), (0, x1)] [] (wr_ h (rf_ h x0 2) 5 (al_ (w64 ((w64 ((rd_ h (rf_ h x0 2) 5) * 1103515245)) + 12345)) 2147483647)) else JJ 67 12 [(14, x0), (0, x1)] [] (wr_ h (rf_ h x0 2) 5 (al_ (w64 ((w64 ((rd_ h (rf_ h x0 2) 5) * 1103515245)) + 12345)) 2147483647))))))))))) = _
  simp only [jt_67_12, jt_67_13, ck_or1, ck_or2, rf_wr, ln_wr, nn_wr, rf_cp, ln_cp, nn_cp, ln_wf, nn_wf, rd_wf, nn_nw]
  try rfl))
theorem jt_67_6 (h : am_H) (x0 x1 : Int) : JJ 67 6 [(14, x0), (0, x1)] [] h = if x1 ≠ 100 then ck_ (0 ≤ x0) (ck_ (0 ≤ x0) (ck_ (0 ≤ (rf_ h x0 2)) (ck_ (0 ≤ (rf_ h x0 2)) (ck_ (0 ≤ x0) (ck_ (0 ≤ (rf_ h x0 2)) (ck_ ((65536 : Int) ≠ 0) (ck_ ((100 : Int) ≠ 0) (if 0 ≤ (lcm_ (Int.tmod (w64 (Int.tdiv (rd_ (wr_ h (rf_ h x0 2) 5 (al_ (w64 ((w64 ((rd_ h (rf_ h x0 2) 5) * 1103515245)) + 12345)) 2147483647)) (rf_ h x0 2) 5) 65536)) 100) x1) then some (wr_ h (rf_ h x0 2) 5 (al_ (w64 ((w64 ((rd_ h (rf_ h x0 2) 5) * 1103515245)) + 12345)) 2147483647), 0) else some (wr_ h (rf_ h x0 2) 5 (al_ (w64 ((w64 ((rd_ h (rf_ h x0 2) 5) * 1103515245)) + 12345)) 2147483647), 1))))))))) else if x1 ≠ 100 then some (h, 0) else some (h, 1) := (jj_of bk_67_6 _ _ h).trans ((ff_of bk_67_6 [(14, x0), (0, x1)] [] h).trans (by
  show (if x1 ≠ 100 then JJ 67 11 [(14, x0), (0, x1)] [] h else JJ 67 7 [(14, x0), (0, x1)] [] h) = _
  simp only [jt_67_11, jt_67_7, ck_or1, ck_or2, rf_wr, ln_wr, nn_wr, rf_cp, ln_cp, nn_cp, ln_wf, nn_wf, rd_wf, nn_nw]
  try rfl))
theorem jt_67_5 (h : am_H) (x0 x1 : Int) : JJ 67 5 [(14, x0), (0, x1)] [] h = if x1 = 0 then (if x1 ≠ 100 then some (h, 0) else some (h, 1)) else if x1 ≠ 100 then ck_ (0 ≤ x0) (ck_ (0 ≤ x0) (ck_ (0 ≤ (rf_ h x0 2)) (ck_ (0 ≤ (rf_ h x0 2)) (ck_ (0 ≤ x0) (ck_ (0 ≤ (rf_ h x0 2)) (ck_ ((65536 : Int) ≠ 0) (ck_ ((100 : Int) ≠ 0) (if 0 ≤ (lcm_ (Int.tmod (w64 (Int.tdiv (rd_ (wr_ h (rf_ h x0 2) 5 (al_ (w64 ((w64 ((rd_ h (rf_ h x0 2) 5) * 1103515245)) + 12345)) 2147483647)) (rf_ h x0 2) 5) 65536)) 100) x1) then some (wr_ h (rf_ h x0 2) 5 (al_ (w64 ((w64 ((rd_ h (rf_ h x0 2) 5) * 1103515245)) + 12345)) 2147483647), 0) else some (wr_ h (rf_ h x0 2) 5 (al_ (w64 ((w64 ((rd_ h (rf_ h x0 2) 5) * 1103515245)) + 12345)) 2147483647), 1))))))))) else if x1 ≠ 100 then some (h, 0) else some (h, 1) := (jj_of bk_67_5 _ _ h).trans ((ff_of bk_67_5 [(14, x0), (0, x1)] [] h).trans (by
  show (if x1 = 0 then JJ 67 7 [(14, x0), (0, x1)] [] h else JJ 67 6 [(14, x0), (0, x1)] [] h) = _
  simp only [jt_67_6, jt_67_7, ck_or1, ck_or2, rf_wr, ln_wr, nn_wr, rf_cp, ln_cp, nn_cp, ln_wf, nn_wf, rd_wf, nn_nw]
  try rfl))
theorem jt_67_4 (h : am_H) (d0 d1 : am_V) (s0 : Int) : JJ 67 4 [d0, d1] [(0, s0)] h = ck_ (s0 = 0 ∨ s0 = 1) (some (h, s0)) := (jj_of bk_67_4 _ _ h).trans (ff_of bk_67_4 [(9, 0), (9, 0)] [(0, s0)] h)
theorem jt_67_3 (h : am_H) (d0 d1 : am_V) : JJ 67 3 [d0, d1] [] h = some (h, 0) := (jj_of bk_67_3 _ _ h).trans ((ff_of bk_67_3 [(9, 0), (9, 0)] [] h).trans (by
  show (JJ 67 4 [(9, 0), (9, 0)] [(0, 0)] h) = _
  simp only [jt_67_4, ck_or1, ck_or2, rf_wr, ln_wr, nn_wr, rf_cp, ln_cp, nn_cp, ln_wf, nn_wf, rd_wf, nn_nw]
  try rfl))
theorem jt_67_2 (h : am_H) (d0 d1 : am_V) : JJ 67 2 [d0, d1] [] h = some (h, 1) := (jj_of bk_67_2 _ _ h).trans ((ff_of bk_67_2 [(9, 0), (9, 0)] [] h).trans (by
  show (JJ 67 4 [(9, 0), (9, 0)] [(0, 1)] h) = _
  simp only [jt_67_4, ck_or1, ck_or2, rf_wr, ln_wr, nn_wr, rf_cp, ln_cp, nn_cp, ln_wf, nn_wf, rd_wf, nn_nw]
  try rfl))
theorem jt_67_1 (h : am_H) (d0 : am_V) (x1 : Int) : JJ 67 1 [d0, (0, x1)] [] h = if x1 < 50 then some (h, 0) else some (h, 1) := (jj_of bk_67_1 _ _ h).trans ((ff_of bk_67_1 [(9, 0), (0, x1)] [] h).trans (by
  show (if x1 < 50 then JJ 67 3 [(9, 0), (0, x1)] [] h else JJ 67 2 [(9, 0), (0, x1)] [] h) = _
  simp only [jt_67_2, jt_67_3, ck_or1, ck_or2, rf_wr, ln_wr, nn_wr, rf_cp, ln_cp, nn_cp, ln_wf, nn_wf, rd_wf, nn_nw]
  try rfl))
theorem Mi_chips_e (h : am_H) (x0 x1 : Int) : Mi_chips h x0 x1 = ck_ (0 ≤ x0) (if (rd_ h x0 3) ≠ 0 then (if x1 = 0 then (if x1 ≠ 100 then some (h, 0) else some (h, 1)) else if x1 ≠ 100 then ck_ (0 ≤ x0) (ck_ (0 ≤ x0) (ck_ (0 ≤ (rf_ h x0 2)) (ck_ (0 ≤ (rf_ h x0 2)) (ck_ (0 ≤ x0) (ck_ (0 ≤ (rf_ h x0 2)) (ck_ ((65536 : Int) ≠ 0) (ck_ ((100 : Int) ≠ 0) (if 0 ≤ (lcm_ (Int.tmod (w64 (Int.tdiv (rd_ (wr_ h (rf_ h x0 2) 5 (al_ (w64 ((w64 ((rd_ h (rf_ h x0 2) 5) * 1103515245)) + 12345)) 2147483647)) (rf_ h x0 2) 5) 65536)) 100) x1) then some (wr_ h (rf_ h x0 2) 5 (al_ (w64 ((w64 ((rd_ h (rf_ h x0 2) 5) * 1103515245)) + 12345)) 2147483647), 0) else some (wr_ h (rf_ h x0 2) 5 (al_ (w64 ((w64 ((rd_ h (rf_ h x0 2) 5) * 1103515245)) + 12345)) 2147483647), 1))))))))) else if x1 ≠ 100 then some (h, 0) else some (h, 1)) else if x1 < 50 then some (h, 0) else some (h, 1)) := (ff_of bk_67_0 [(14, x0), (0, x1)] [] h).trans (by
  show (ck_ (0 ≤ x0) (if (rd_ h x0 3) ≠ 0 then JJ 67 5 [(14, x0), (0, x1)] [] h else JJ 67 1 [(14, x0), (0, x1)] [] h)) = _
  simp only [jt_67_1, jt_67_5, ck_or1, ck_or2, rf_wr, ln_wr, nn_wr, rf_cp, ln_cp, nn_cp, ln_wf, nn_wf, rd_wf, nn_nw]
  try rfl)
theorem cc_67 (h : am_H) (x0 x1 : Int) : CC 67 [(14, x0), (0, x1)] h = Mi_chips h x0 x1 := cc_of pk_67 _ h
theorem pk_68 : am_prog 68 = some cd_68 := rfl
theorem bk_68_0 : bk_ am_prog 68 0 = some ([true, true, true], (bl_68_0, 9999)) := bk_of pk_68 rfl
theorem bk_68_1 : bk_ am_prog 68 1 = some ([true, false, false], (bl_68_1, 9999)) := bk_of pk_68 rfl
theorem bk_68_2 : bk_ am_prog 68 2 = some ([true, true, true], (bl_68_2, 9999)) := bk_of pk_68 rfl
theorem bk_68_3 : bk_ am_prog 68 3 = some ([true, false, true], (bl_68_3, 9999)) := bk_of pk_68 rfl
theorem bk_68_4 : bk_ am_prog 68 4 = some ([true, true, false], (bl_68_4, 9999)) := bk_of pk_68 rfl
theorem bk_68_5 : bk_ am_prog 68 5 = some ([true, true, false], (bl_68_5, 9999)) := bk_of pk_68 rfl
theorem bk_68_6 : bk_ am_prog 68 6 = some ([true, true, false], (bl_68_6, 7)) := bk_of pk_68 rfl
theorem bk_68_7 : bk_ am_prog 68 7 = some ([false, false, false], (bl_68_7, 9999)) := bk_of pk_68 rfl
theorem jt_68_7 (h : am_H) (d0 d1 d2 : am_V) (s0 : Int) : JJ 68 7 [d0, d1, d2] [(0, s0)] h = some (h, s0) := (jj_of bk_68_7 _ _ h).trans (ff_of bk_68_7 [(9, 0), (9, 0), (9, 0)] [(0, s0)] h)
theorem jt_68_6 (h : am_H) (d2 : am_V) (x0 x1 : Int) : JJ 68 6 [(14, x0), (0, x1), d2] [] h = ck_ (0 ≤ x0) (ck_ (0 ≤ (rf_ h x0 1)) (ck_ (0 ≤ (rf_ h (rf_ h x0 1) 12)) (ck_ (0 ≤ x1 ∧ x1 < ln_ h (rf_ h (rf_ h x0 1) 12)) (some (h, rd_ h (rf_ h (rf_ h x0 1) 12) x1))))) := (jj_of bk_68_6 _ _ h).trans ((ff_of bk_68_6 [(14, x0), (0, x1), (9, 0)] [] h).trans (by
  show (ck_ (0 ≤ x0) (ck_ (0 ≤ (rf_ h x0 1)) (ck_ (0 ≤ (rf_ h (rf_ h x0 1) 12)) (ck_ (0 ≤ x1 ∧ x1 < ln_ h (rf_ h (rf_ h x0 1) 12)) (JJ 68 7 [(14, x0), (0, x1), (9, 0)] [(0, rd_ h (rf_ h (rf_ h x0 1) 12) x1)] h))))) = _
  simp only [jt_68_7, ck_or1, ck_or2, rf_wr, ln_wr, nn_wr, rf_cp, ln_cp, nn_cp, ln_wf, nn_wf, rd_wf, nn_nw]
  try rfl))
theorem jt_68_5 (h : am_H) (d2 : am_V) (x0 x1 : Int) : JJ 68 5 [(14, x0), (0, x1), d2] [] h = ck_ (0 ≤ x0) (ck_ (0 ≤ (rf_ h x0 1)) (ck_ (0 ≤ (rf_ h (rf_ h x0 1) 12)) (ck_ (0 ≤ x1 ∧ x1 < ln_ h (rf_ h (rf_ h x0 1) 12)) (some (h, w32 ((rd_ h (rf_ h (rf_ h x0 1) 12) x1) + 1)))))) := (jj_of bk_68_5 _ _ h).trans ((ff_of bk_68_5 [(14, x0), (0, x1), (9, 0)] [] h).trans (by
  show (ck_ (0 ≤ x0) (ck_ (0 ≤ (rf_ h x0 1)) (ck_ (0 ≤ (rf_ h (rf_ h x0 1) 12)) (ck_ (0 ≤ x1 ∧ x1 < ln_ h (rf_ h (rf_ h x0 1) 12)) (JJ 68 7 [(14, x0), (0, x1), (9, 0)] [(0, w32 ((rd_ h (rf_ h (rf_ h x0 1) 12) x1) + 1))] h))))) = _
  simp only [jt_68_7, ck_or1, ck_or2, rf_wr, ln_wr, nn_wr, rf_cp, ln_cp, nn_cp, ln_wf, nn_wf, rd_wf, nn_nw]
  try rfl))
theorem jt_68_4 (h : am_H) (d2 : am_V) (x0 x1 : Int) : JJ 68 4 [(14, x0), (0, x1), d2] [] h = ck_ (0 ≤ x0) (if (rd_ h x0 4) ≠ 1 then ck_ (0 ≤ x0) (ck_ (0 ≤ (rf_ h x0 1)) (ck_ (0 ≤ (rf_ h (rf_ h x0 1) 12)) (ck_ (0 ≤ x1 ∧ x1 < ln_ h (rf_ h (rf_ h x0 1) 12)) (some (h, rd_ h (rf_ h (rf_ h x0 1) 12) x1))))) else ck_ (0 ≤ x0) (ck_ (0 ≤ (rf_ h x0 1)) (ck_ (0 ≤ (rf_ h (rf_ h x0 1) 12)) (ck_ (0 ≤ x1 ∧ x1 < ln_ h (rf_ h (rf_ h x0 1) 12)) (some (h, w32 ((rd_ h (rf_ h (rf_ h x0 1) 12) x1) + 1))))))) := (jj_of bk_68_4 _ _ h).trans ((ff_of bk_68_4 [(14, x0), (0, x1), (9, 0)] [] h).trans (by
  show (ck_ (0 ≤ x0) (if (rd_ h x0 4) ≠ 1 then JJ 68 6 [(14, x0), (0, x1), (9, 0)] [] h else JJ 68 5 [(14, x0), (0, x1), (9, 0)] [] h)) = _
  simp only [jt_68_5, jt_68_6, ck_or1, ck_or2, rf_wr, ln_wr, nn_wr, rf_cp, ln_cp, nn_cp, ln_wf, nn_wf, rd_wf, nn_nw]
  try rfl))
theorem jt_68_3 (h : am_H) (d1 : am_V) (x0 x2 : Int) : JJ 68 3 [(14, x0), d1, (0, x2)] [] h = ck_ (0 ≤ x0) (ck_ (0 ≤ (rf_ h x0 2)) (ck_ (0 ≤ (rf_ h (rf_ h x0 2) 6)) (ck_ (0 ≤ x2 ∧ x2 < ln_ h (rf_ h (rf_ h x0 2) 6)) (some (h, rd_ h (rf_ h (rf_ h x0 2) 6) x2))))) := (jj_of bk_68_3 _ _ h).trans (ff_of bk_68_3 [(14, x0), (9, 0), (0, x2)] [] h)
theorem jt_68_2 (h : am_H) (x0 x1 x2 : Int) : JJ 68 2 [(14, x0), (0, x1), (0, x2)] [] h = ck_ (0 ≤ x0) (if (rd_ h x0 4) ≠ 4 then ck_ (0 ≤ x0) (if (rd_ h x0 4) ≠ 1 then ck_ (0 ≤ x0) (ck_ (0 ≤ (rf_ h x0 1)) (ck_ (0 ≤ (rf_ h (rf_ h x0 1) 12)) (ck_ (0 ≤ x1 ∧ x1 < ln_ h (rf_ h (rf_ h x0 1) 12)) (some (h, rd_ h (rf_ h (rf_ h x0 1) 12) x1))))) else ck_ (0 ≤ x0) (ck_ (0 ≤ (rf_ h x0 1)) (ck_ (0 ≤ (rf_ h (rf_ h x0 1) 12)) (ck_ (0 ≤ x1 ∧ x1 < ln_ h (rf_ h (rf_ h x0 1) 12)) (some (h, w32 ((rd_ h (rf_ h (rf_ h x0 1) 12) x1) + 1))))))) else ck_ (0 ≤ x0) (ck_ (0 ≤ (rf_ h x0 2)) (ck_ (0 ≤ (rf_ h (rf_ h x0 2) 6)) (ck_ (0 ≤ x2 ∧ x2 < ln_ h (rf_ h (rf_ h x0 2) 6)) (some (h, rd_ h (rf_ h (rf_ h x0 2) 6) x2)))))) := (jj_of bk_68_2 _ _ h).trans ((ff_of bk_68_2 [(14, x0), (0, x1), (0, x2)] [] h).trans (by
  show (ck_ (0 ≤ x0) (if (rd_ h x0 4) ≠ 4 then JJ 68 4 [(14, x0), (0, x1), (0, x2)] [] h else JJ 68 3 [(14, x0), (0, x1), (0, x2)] [] h)) = _
  simp only [jt_68_3, jt_68_4, ck_or1, ck_or2, rf_wr, ln_wr, nn_wr, rf_cp, ln_cp, nn_cp, ln_wf, nn_wf, rd_wf, nn_nw]
  try rfl))
theorem jt_68_1 (h : am_H) (d1 d2 : am_V) (x0 : Int) : JJ 68 1 [(14, x0), d1, d2] [] h = ck_ (0 ≤ x0) (some (h, rd_ h x0 7)) := (jj_of bk_68_1 _ _ h).trans (ff_of bk_68_1 [(14, x0), (9, 0), (9, 0)] [] h)
theorem Mi_depthOf_e (h : am_H) (x0 x1 x2 : Int) : Mi_depthOf h x0 x1 x2 = ck_ (0 ≤ x0) (if x1 ≠ (rd_ h x0 6) then ck_ (0 ≤ x0) (if (rd_ h x0 4) ≠ 4 then ck_ (0 ≤ x0) (if (rd_ h x0 4) ≠ 1 then ck_ (0 ≤ x0) (ck_ (0 ≤ (rf_ h x0 1)) (ck_ (0 ≤ (rf_ h (rf_ h x0 1) 12)) (ck_ (0 ≤ x1 ∧ x1 < ln_ h (rf_ h (rf_ h x0 1) 12)) (some (h, rd_ h (rf_ h (rf_ h x0 1) 12) x1))))) else ck_ (0 ≤ x0) (ck_ (0 ≤ (rf_ h x0 1)) (ck_ (0 ≤ (rf_ h (rf_ h x0 1) 12)) (ck_ (0 ≤ x1 ∧ x1 < ln_ h (rf_ h (rf_ h x0 1) 12)) (some (h, w32 ((rd_ h (rf_ h (rf_ h x0 1) 12) x1) + 1))))))) else ck_ (0 ≤ x0) (ck_ (0 ≤ (rf_ h x0 2)) (ck_ (0 ≤ (rf_ h (rf_ h x0 2) 6)) (ck_ (0 ≤ x2 ∧ x2 < ln_ h (rf_ h (rf_ h x0 2) 6)) (some (h, rd_ h (rf_ h (rf_ h x0 2) 6) x2)))))) else ck_ (0 ≤ x0) (some (h, rd_ h x0 7))) := (ff_of bk_68_0 [(14, x0), (0, x1), (0, x2)] [] h).trans (by
  show (ck_ (0 ≤ x0) (if x1 ≠ (rd_ h x0 6) then JJ 68 2 [(14, x0), (0, x1), (0, x2)] [] h else JJ 68 1 [(14, x0), (0, x1), (0, x2)] [] h)) = _
  simp only [jt_68_1, jt_68_2, ck_or1, ck_or2, rf_wr, ln_wr, nn_wr, rf_cp, ln_cp, nn_cp, ln_wf, nn_wf, rd_wf, nn_nw]
  try rfl)
theorem cc_68 (h : am_H) (x0 x1 x2 : Int) : CC 68 [(14, x0), (0, x1), (0, x2)] h = Mi_depthOf h x0 x1 x2 := cc_of pk_68 _ h
theorem pk_69 : am_prog 69 = some cd_69 := rfl
theorem bk_69_0 : bk_ am_prog 69 0 = some ([true, false, true], (bl_69_0, 9999)) := bk_of pk_69 rfl
theorem Mi_within_e (h : am_H) (x0 x2 : Int) : Mi_within h x0 x2 = some (h, w32 (if (if x2 < x0 then x2 else x0) < (0 : Int) then (0 : Int) else (if x2 < x0 then x2 else x0))) := ff_of bk_69_0 [(1, x0), (9, 0), (0, x2)] [] h
theorem cc_69 (h : am_H) (x0 x2 : Int) : CC 69 [(1, x0), (0, x2)] h = Mi_within h x0 x2 := cc_of pk_69 _ h
theorem pk_70 : am_prog 70 = some cd_70 := rfl
theorem bk_70_0 : bk_ am_prog 70 0 = some ([true, true, false, false, false, false, false], (bl_70_0, 9999)) := bk_of pk_70 rfl
theorem bk_70_1 : bk_ am_prog 70 1 = some ([true, true, true, true, false, false, false], (bl_70_1, 9999)) := bk_of pk_70 rfl
theorem bk_70_2 : bk_ am_prog 70 2 = some ([true, true, true, true, false, false, false], (bl_70_2, 9999)) := bk_of pk_70 rfl
theorem bk_70_3 : bk_ am_prog 70 3 = some ([false, false, false, false, false, false, false], (bl_70_3, 9999)) := bk_of pk_70 rfl
theorem bk_70_4 : bk_ am_prog 70 4 = some ([true, true, true, true, false, false, false], (bl_70_4, 9999)) := bk_of pk_70 rfl
theorem bk_70_5 : bk_ am_prog 70 5 = some ([true, false, true, true, true, false, false], (bl_70_5, 9999)) := bk_of pk_70 rfl
theorem bk_70_6 : bk_ am_prog 70 6 = some ([true, false, true, true, true, false, false], (bl_70_6, 9999)) := bk_of pk_70 rfl
theorem bk_70_7 : bk_ am_prog 70 7 = some ([true, false, true, true, true, false, false], (bl_70_7, 8)) := bk_of pk_70 rfl
theorem bk_70_8 : bk_ am_prog 70 8 = some ([true, false, true, true, true, false, false], (bl_70_8, 9999)) := bk_of pk_70 rfl
theorem bk_70_9 : bk_ am_prog 70 9 = some ([true, false, true, true, true, false, false], (bl_70_9, 9999)) := bk_of pk_70 rfl
theorem bk_70_10 : bk_ am_prog 70 10 = some ([true, false, true, true, true, false, false], (bl_70_10, 9999)) := bk_of pk_70 rfl
theorem bk_70_11 : bk_ am_prog 70 11 = some ([true, false, false, false, false, false, false], (bl_70_11, 9999)) := bk_of pk_70 rfl
theorem bk_70_12 : bk_ am_prog 70 12 = some ([true, false, true, true, true, false, false], (bl_70_12, 9999)) := bk_of pk_70 rfl
theorem bk_70_13 : bk_ am_prog 70 13 = some ([true, false, false, true, false, false, false], (bl_70_13, 14)) := bk_of pk_70 rfl
theorem bk_70_14 : bk_ am_prog 70 14 = some ([false, false, false, false, false, false, false], (bl_70_14, 9999)) := bk_of pk_70 rfl
theorem jt_70_8 (h : am_H) (d1 d5 d6 : am_V) (x0 x2 x3 x4 s0 : Int) : JJ 70 8 [(14, x0), d1, (0, x2), (0, x3), (0, x4), d5, d6] [(0, s0)] h = Mi_takeTurn_8 h x0 x2 x3 x4 s0 := jj_of bk_70_8 _ _ h
theorem jt_70_3 (h : am_H) (d0 d1 d2 d3 d4 d5 d6 : am_V) : JJ 70 3 [d0, d1, d2, d3, d4, d5, d6] [] h = some (h, 0) := (jj_of bk_70_3 _ _ h).trans (ff_of bk_70_3 [(9, 0), (9, 0), (9, 0), (9, 0), (9, 0), (9, 0), (9, 0)] [] h)
theorem jt_70_6 (h : am_H) (d1 d5 d6 : am_V) (x0 x2 x3 x4 : Int) : JJ 70 6 [(14, x0), d1, (0, x2), (0, x3), (0, x4), d5, d6] [] h = Mi_takeTurn_8 h x0 x2 x3 x4 1 := (jj_of bk_70_6 _ _ h).trans ((ff_of bk_70_6 [(14, x0), (9, 0), (0, x2), (0, x3), (0, x4), (9, 0), (9, 0)] [] h).trans (by
  show (JJ 70 8 [(14, x0), (9, 0), (0, x2), (0, x3), (0, x4), (9, 0), (9, 0)] [(0, 1)] h) = _
  simp only [jt_70_8, ck_or1, ck_or2, rf_wr, ln_wr, nn_wr, rf_cp, ln_cp, nn_cp, ln_wf, nn_wf, rd_wf, nn_nw]
  try rfl))
theorem jt_70_7 (h : am_H) (d1 d5 d6 : am_V) (x0 x2 x3 x4 : Int) : JJ 70 7 [(14, x0), d1, (0, x2), (0, x3), (0, x4), d5, d6] [] h = Mi_takeTurn_8 h x0 x2 x3 x4 0 := (jj_of bk_70_7 _ _ h).trans ((ff_of bk_70_7 [(14, x0), (9, 0), (0, x2), (0, x3), (0, x4), (9, 0), (9, 0)] [] h).trans (by
  show (JJ 70 8 [(14, x0), (9, 0), (0, x2), (0, x3), (0, x4), (9, 0), (9, 0)] [(0, 0)] h) = _
  simp only [jt_70_8, ck_or1, ck_or2, rf_wr, ln_wr, nn_wr, rf_cp, ln_cp, nn_cp, ln_wf, nn_wf, rd_wf, nn_nw]
  try rfl))
theorem jt_70_5 (h : am_H) (d1 d5 d6 : am_V) (x0 x2 x3 x4 : Int) : JJ 70 5 [(14, x0), d1, (0, x2), (0, x3), (0, x4), d5, d6] [] h = ck_ (0 ≤ x0) (ck_ (0 ≤ (rf_ h x0 0)) (bd_ (La_value h (rf_ h x0 0) 2 1) fun h1 v2 => if (lcm_ v2 0) = 0 then Mi_takeTurn_8 h1 x0 x2 x3 x4 0 else Mi_takeTurn_8 h1 x0 x2 x3 x4 1)) := (jj_of bk_70_5 _ _ h).trans ((ff_of bk_70_5 [(14, x0), (9, 0), (0, x2), (0, x3), (0, x4), (9, 0), (9, 0)] [] h).trans (by
  show (ck_ (0 ≤ x0) (ck_ (0 ≤ (rf_ h x0 0)) (bd_ (CC 59 [(13, rf_ h x0 0), (0, 2), (1, 1)] h) fun h1 v2 => if (lcm_ v2 0) = 0 then JJ 70 7 [(14, x0), (9, 0), (0, x2), (0, x3), (0, x4), (9, 0), (9, 0)] [] h1 else JJ 70 6 [(14, x0), (9, 0), (0, x2), (0, x3), (0, x4), (9, 0), (9, 0)] [] h1))) = _
  simp only [cc_59, jt_70_6, jt_70_7, ck_or1, ck_or2, rf_wr, ln_wr, nn_wr, rf_cp, ln_cp, nn_cp, ln_wf, nn_wf, rd_wf, nn_nw]
  try rfl))
set_option maxRecDepth 20000 in
theorem jt_70_4 (h : am_H) (d4 d5 d6 : am_V) (x0 x1 x2 x3 : Int) : JJ 70 4 [(14, x0), (0, x1), (0, x2), (0, x3), d4, d5, d6] [] h = ck_ (0 ≤ x0) (bd_ (Mi_depthOf h x0 x1 x3) fun h1 v2 => ck_ (0 ≤ x0) (ck_ (0 ≤ x0) (ck_ (0 ≤ x0) (ck_ (0 ≤ (rf_ h1 x0 0)) (bd_ (La_lookAt h1 (rf_ h1 x0 0) (rf_ h1 x0 1) (rf_ h1 x0 2) x2 x3 v2) fun h3 _ => ck_ (0 ≤ x0) (if (rd_ h3 x0 4) = 0 then Mi_takeTurn_8 h3 x0 x2 x3 v2 1 else ck_ (0 ≤ x0) (ck_ (0 ≤ (rf_ h3 x0 0)) (bd_ (La_value h3 (rf_ h3 x0 0) 2 1) fun h5 v6 => if (lcm_ v6 0) = 0 then Mi_takeTurn_8 h5 x0 x2 x3 v2 0 else Mi_takeTurn_8 h5 x0 x2 x3 v2 1)))))))) := (jj_of bk_70_4 _ _ h).trans ((ff_of bk_70_4 [(14, x0), (0, x1), (0, x2), (0, x3), (9, 0), (9, 0), (9, 0)] [] h).trans (by
  show (ck_ (0 ≤ x0) (bd_ (CC 68 [(14, x0), (0, x1), (0, x3)] h) fun h1 v2 => ck_ (0 ≤ x0) (ck_ (0 ≤ x0) (ck_ (0 ≤ x0) (ck_ (0 ≤ (rf_ h1 x0 0)) (bd_ (CC 46 [(13, rf_ h1 x0 0), (18, rf_ h1 x0 1), (20, rf_ h1 x0 2), (0, x2), (0, x3), (0, v2)] h1) fun h3 _ => ck_ (0 ≤ x0) (if (rd_ h3 x0 4) = 0 then JJ 70 6 [(14, x0), (0, x1), (0, x2), (0, x3), (0, v2), (9, 0), (9, 0)] [] h3 else JJ 70 5 [(14, x0), (0, x1), (0, x2), (0, x3), (0, v2), (9, 0), (9, 0)] [] h3))))))) = _
  simp only [cc_46, cc_68, jt_70_5, jt_70_6, ck_or1, ck_or2, rf_wr, ln_wr, nn_wr, rf_cp, ln_cp, nn_cp, ln_wf, nn_wf, rd_wf, nn_nw]
  try rfl))
set_option maxRecDepth 20000 in
theorem jt_70_2 (h : am_H) (d4 d5 d6 : am_V) (x0 x1 x2 x3 : Int) : JJ 70 2 [(14, x0), (0, x1), (0, x2), (0, x3), d4, d5, d6] [] h = ck_ (0 ≤ x0) (ck_ (0 ≤ (rf_ h x0 2)) (bd_ (Wo_hasPile h (rf_ h x0 2) x3) fun h1 v2 => if v2 ≠ 0 then ck_ (0 ≤ x0) (bd_ (Mi_depthOf h1 x0 x1 x3) fun h3 v4 => ck_ (0 ≤ x0) (ck_ (0 ≤ x0) (ck_ (0 ≤ x0) (ck_ (0 ≤ (rf_ h3 x0 0)) (bd_ (La_lookAt h3 (rf_ h3 x0 0) (rf_ h3 x0 1) (rf_ h3 x0 2) x2 x3 v4) fun h5 _ => ck_ (0 ≤ x0) (if (rd_ h5 x0 4) = 0 then Mi_takeTurn_8 h5 x0 x2 x3 v4 1 else ck_ (0 ≤ x0) (ck_ (0 ≤ (rf_ h5 x0 0)) (bd_ (La_value h5 (rf_ h5 x0 0) 2 1) fun h7 v8 => if (lcm_ v8 0) = 0 then Mi_takeTurn_8 h7 x0 x2 x3 v4 0 else Mi_takeTurn_8 h7 x0 x2 x3 v4 1)))))))) else some (h1, 0))) := (jj_of bk_70_2 _ _ h).trans ((ff_of bk_70_2 [(14, x0), (0, x1), (0, x2), (0, x3), (9, 0), (9, 0), (9, 0)] [] h).trans (by
  show (ck_ (0 ≤ x0) (ck_ (0 ≤ (rf_ h x0 2)) (bd_ (CC 54 [(20, rf_ h x0 2), (0, x3)] h) fun h1 v2 => if v2 ≠ 0 then JJ 70 4 [(14, x0), (0, x1), (0, x2), (0, x3), (9, 0), (9, 0), (9, 0)] [] h1 else JJ 70 3 [(14, x0), (0, x1), (0, x2), (0, x3), (9, 0), (9, 0), (9, 0)] [] h1))) = _
  simp only [cc_54, jt_70_3, jt_70_4, ck_or1, ck_or2, rf_wr, ln_wr, nn_wr, rf_cp, ln_cp, nn_cp, ln_wf, nn_wf, rd_wf, nn_nw]
  try rfl))
set_option maxRecDepth 20000 in
theorem jt_70_1 (h : am_H) (d4 d5 d6 : am_V) (x0 x1 x2 x3 : Int) : JJ 70 1 [(14, x0), (0, x1), (0, x2), (0, x3), d4, d5, d6] [] h = ck_ (0 ≤ x0) (ck_ (0 ≤ (rf_ h x0 2)) (bd_ (Wo_hasMaid h (rf_ h x0 2) x2) fun h1 v2 => if v2 = 0 then some (h1, 0) else ck_ (0 ≤ x0) (ck_ (0 ≤ (rf_ h1 x0 2)) (bd_ (Wo_hasPile h1 (rf_ h1 x0 2) x3) fun h3 v4 => if v4 ≠ 0 then ck_ (0 ≤ x0) (bd_ (Mi_depthOf h3 x0 x1 x3) fun h5 v6 => ck_ (0 ≤ x0) (ck_ (0 ≤ x0) (ck_ (0 ≤ x0) (ck_ (0 ≤ (rf_ h5 x0 0)) (bd_ (La_lookAt h5 (rf_ h5 x0 0) (rf_ h5 x0 1) (rf_ h5 x0 2) x2 x3 v6) fun h7 _ => ck_ (0 ≤ x0) (if (rd_ h7 x0 4) = 0 then Mi_takeTurn_8 h7 x0 x2 x3 v6 1 else ck_ (0 ≤ x0) (ck_ (0 ≤ (rf_ h7 x0 0)) (bd_ (La_value h7 (rf_ h7 x0 0) 2 1) fun h9 v10 => if (lcm_ v10 0) = 0 then Mi_takeTurn_8 h9 x0 x2 x3 v6 0 else Mi_takeTurn_8 h9 x0 x2 x3 v6 1)))))))) else some (h3, 0))))) := (jj_of bk_70_1 _ _ h).trans ((ff_of bk_70_1 [(14, x0), (0, x1), (0, x2), (0, x3), (9, 0), (9, 0), (9, 0)] [] h).trans (by
  show (ck_ (0 ≤ x0) (ck_ (0 ≤ (rf_ h x0 2)) (bd_ (CC 53 [(20, rf_ h x0 2), (0, x2)] h) fun h1 v2 => if v2 = 0 then JJ 70 3 [(14, x0), (0, x1), (0, x2), (0, x3), (9, 0), (9, 0), (9, 0)] [] h1 else JJ 70 2 [(14, x0), (0, x1), (0, x2), (0, x3), (9, 0), (9, 0), (9, 0)] [] h1))) = _
  simp only [cc_53, jt_70_2, jt_70_3, ck_or1, ck_or2, rf_wr, ln_wr, nn_wr, rf_cp, ln_cp, nn_cp, ln_wf, nn_wf, rd_wf, nn_nw]
  try rfl))
set_option maxRecDepth 20000 in
theorem Mi_takeTurn_e (h : am_H) (x0 x1 : Int) : Mi_takeTurn h x0 x1 = ck_ (0 ≤ x0) (ck_ (0 ≤ (rf_ h x0 1)) (ck_ (0 ≤ (rf_ h (rf_ h x0 1) 10)) (ck_ (0 ≤ x1 ∧ x1 < ln_ h (rf_ h (rf_ h x0 1) 10)) (ck_ (0 ≤ x0) (ck_ (0 ≤ (rf_ h x0 1)) (ck_ (0 ≤ (rf_ h (rf_ h x0 1) 11)) (ck_ (0 ≤ x1 ∧ x1 < ln_ h (rf_ h (rf_ h x0 1) 11)) (ck_ (0 ≤ x0) (if (rd_ h (rf_ h (rf_ h x0 1) 10) x1) = (rd_ h x0 5) then some (h, 0) else ck_ (0 ≤ x0) (ck_ (0 ≤ (rf_ h x0 2)) (bd_ (Wo_hasMaid h (rf_ h x0 2) (rd_ h (rf_ h (rf_ h x0 1) 10) x1)) fun h1 v2 => if v2 = 0 then some (h1, 0) else ck_ (0 ≤ x0) (ck_ (0 ≤ (rf_ h1 x0 2)) (bd_ (Wo_hasPile h1 (rf_ h1 x0 2) (rd_ h (rf_ h (rf_ h x0 1) 11) x1)) fun h3 v4 => if v4 ≠ 0 then ck_ (0 ≤ x0) (bd_ (Mi_depthOf h3 x0 x1 (rd_ h (rf_ h (rf_ h x0 1) 11) x1)) fun h5 v6 => ck_ (0 ≤ x0) (ck_ (0 ≤ x0) (ck_ (0 ≤ x0) (ck_ (0 ≤ (rf_ h5 x0 0)) (bd_ (La_lookAt h5 (rf_ h5 x0 0) (rf_ h5 x0 1) (rf_ h5 x0 2) (rd_ h (rf_ h (rf_ h x0 1) 10) x1) (rd_ h (rf_ h (rf_ h x0 1) 11) x1) v6) fun h7 _ => ck_ (0 ≤ x0) (if (rd_ h7 x0 4) = 0 then Mi_takeTurn_8 h7 x0 (rd_ h (rf_ h (rf_ h x0 1) 10) x1) (rd_ h (rf_ h (rf_ h x0 1) 11) x1) v6 1 else ck_ (0 ≤ x0) (ck_ (0 ≤ (rf_ h7 x0 0)) (bd_ (La_value h7 (rf_ h7 x0 0) 2 1) fun h9 v10 => if (lcm_ v10 0) = 0 then Mi_takeTurn_8 h9 x0 (rd_ h (rf_ h (rf_ h x0 1) 10) x1) (rd_ h (rf_ h (rf_ h x0 1) 11) x1) v6 0 else Mi_takeTurn_8 h9 x0 (rd_ h (rf_ h (rf_ h x0 1) 10) x1) (rd_ h (rf_ h (rf_ h x0 1) 11) x1) v6 1)))))))) else some (h3, 0)))))))))))))) := (ff_of bk_70_0 [(14, x0), (0, x1), (9, 0), (9, 0), (9, 0), (9, 0), (9, 0)] [] h).trans (by
  show (ck_ (0 ≤ x0) (ck_ (0 ≤ (rf_ h x0 1)) (ck_ (0 ≤ (rf_ h (rf_ h x0 1) 10)) (ck_ (0 ≤ x1 ∧ x1 < ln_ h (rf_ h (rf_ h x0 1) 10)) (ck_ (0 ≤ x0) (ck_ (0 ≤ (rf_ h x0 1)) (ck_ (0 ≤ (rf_ h (rf_ h x0 1) 11)) (ck_ (0 ≤ x1 ∧ x1 < ln_ h (rf_ h (rf_ h x0 1) 11)) (ck_ (0 ≤ x0) (if (rd_ h (rf_ h (rf_ h x0 1) 10) x1) = (rd_ h x0 5) then JJ 70 3 [(14, x0), (0, x1), (0, rd_ h (rf_ h (rf_ h x0 1) 10) x1), (0, rd_ h (rf_ h (rf_ h x0 1) 11) x1), (9, 0), (9, 0), (9, 0)] [] h else JJ 70 1 [(14, x0), (0, x1), (0, rd_ h (rf_ h (rf_ h x0 1) 10) x1), (0, rd_ h (rf_ h (rf_ h x0 1) 11) x1), (9, 0), (9, 0), (9, 0)] [] h)))))))))) = _
  simp only [jt_70_1, jt_70_3, ck_or1, ck_or2, rf_wr, ln_wr, nn_wr, rf_cp, ln_cp, nn_cp, ln_wf, nn_wf, rd_wf, nn_nw]
  try rfl)
theorem jt_70_11 (h : am_H) (d1 d2 d3 d4 d5 d6 : am_V) (x0 : Int) : JJ 70 11 [(14, x0), d1, d2, d3, d4, d5, d6] [] h = ck_ (0 ≤ x0) (ck_ (0 ≤ (rf_ h x0 2)) (ck_ (0 ≤ (rf_ h x0 2)) (some (wr_ h (rf_ h x0 2) 4 (w32 ((rd_ h (rf_ h x0 2) 4) + 1)), 0)))) := (jj_of bk_70_11 _ _ h).trans (ff_of bk_70_11 [(14, x0), (9, 0), (9, 0), (9, 0), (9, 0), (9, 0), (9, 0)] [] h)
theorem jt_70_14 (h : am_H) (d0 d1 d2 d3 d4 d5 d6 : am_V) : JJ 70 14 [d0, d1, d2, d3, d4, d5, d6] [] h = some (h, 0) := (jj_of bk_70_14 _ _ h).trans (ff_of bk_70_14 [(9, 0), (9, 0), (9, 0), (9, 0), (9, 0), (9, 0), (9, 0)] [] h)
theorem jt_70_13 (h : am_H) (d1 d2 d4 d5 d6 : am_V) (x0 x3 : Int) : JJ 70 13 [(14, x0), d1, d2, (0, x3), d4, d5, d6] [] h = ck_ (0 ≤ x0) (ck_ (0 ≤ (rf_ h x0 2)) (bd_ (Wo_chipTop h (rf_ h x0 2) x3) fun h1 _ => some (h1, 0))) := (jj_of bk_70_13 _ _ h).trans ((ff_of bk_70_13 [(14, x0), (9, 0), (9, 0), (0, x3), (9, 0), (9, 0), (9, 0)] [] h).trans (by
  show (ck_ (0 ≤ x0) (ck_ (0 ≤ (rf_ h x0 2)) (bd_ (CC 65 [(20, rf_ h x0 2), (0, x3)] h) fun h1 _ => JJ 70 14 [(14, x0), (9, 0), (9, 0), (0, x3), (9, 0), (9, 0), (9, 0)] [] h1))) = _
  simp only [cc_65, jt_70_14, ck_or1, ck_or2, rf_wr, ln_wr, nn_wr, rf_cp, ln_cp, nn_cp, ln_wf, nn_wf, rd_wf, nn_nw]
  try rfl))
set_option maxRecDepth 20000 in
theorem jt_70_12 (h : am_H) (d1 d5 d6 : am_V) (x0 x2 x3 x4 : Int) : JJ 70 12 [(14, x0), d1, (0, x2), (0, x3), (0, x4), d5, d6] [] h = ck_ (0 ≤ x0) (ck_ (0 ≤ (rf_ h x0 0)) (bd_ (La_value h (rf_ h x0 0) 0 x4) fun h1 v2 => bd_ (Mi_within h1 v2 999) fun h3 v4 => ck_ (0 ≤ x0) (ck_ (0 ≤ (rf_ h3 x0 2)) (bd_ (Wo_turnOver h3 (rf_ h3 x0 2) x3 x4) fun h5 _ => ck_ (0 ≤ x0) (ck_ (0 ≤ (rf_ h5 x0 2)) (ck_ (0 ≤ x0) (ck_ (0 ≤ (rf_ h5 x0 2)) (ck_ (0 ≤ (rf_ h5 (rf_ h5 x0 2) 8)) (ck_ (0 ≤ x2 ∧ x2 < ln_ h5 (rf_ h5 (rf_ h5 x0 2) 8)) (ck_ (0 ≤ (rf_ h5 (rf_ h5 x0 2) 8)) (ck_ (0 ≤ x2 ∧ x2 < ln_ h5 (rf_ h5 (rf_ h5 x0 2) 8)) (ck_ (0 ≤ x0) (ck_ (0 ≤ x0) (ck_ (0 ≤ (rf_ h5 x0 1)) (ck_ (0 ≤ (rf_ h5 x0 0)) (bd_ (La_value (wr_ h5 (rf_ h5 (rf_ h5 x0 2) 8) x2 (if (99999 : Int) < (w32 ((rd_ h5 (rf_ h5 (rf_ h5 x0 2) 8) x2) + v4)) then (99999 : Int) else (w32 ((rd_ h5 (rf_ h5 (rf_ h5 x0 2) 8) x2) + v4)))) (rf_ h5 x0 0) 1 (rd_ (wr_ h5 (rf_ h5 (rf_ h5 x0 2) 8) x2 (if (99999 : Int) < (w32 ((rd_ h5 (rf_ h5 (rf_ h5 x0 2) 8) x2) + v4)) then (99999 : Int) else (w32 ((rd_ h5 (rf_ h5 (rf_ h5 x0 2) 8) x2) + v4)))) (rf_ h5 x0 1) 2)) fun h7 v8 => bd_ (Mi_within h7 v8 100) fun h9 v10 => ck_ (0 ≤ x0) (bd_ (Mi_chips h9 x0 v10) fun h11 v12 => if v12 = 0 then some (h11, 0) else ck_ (0 ≤ x0) (ck_ (0 ≤ (rf_ h11 x0 2)) (bd_ (Wo_chipTop h11 (rf_ h11 x0 2) x3) fun h13 _ => some (h13, 0)))))))))))))))))))) := (jj_of bk_70_12 _ _ h).trans ((ff_of bk_70_12 [(14, x0), (9, 0), (0, x2), (0, x3), (0, x4), (9, 0), (9, 0)] [] h).trans (by
  show (ck_ (0 ≤ x0) (ck_ (0 ≤ (rf_ h x0 0)) (bd_ (CC 59 [(13, rf_ h x0 0), (0, 0), (1, x4)] h) fun h1 v2 => bd_ (CC 69 [(1, v2), (0, 999)] h1) fun h3 v4 => ck_ (0 ≤ x0) (ck_ (0 ≤ (rf_ h3 x0 2)) (bd_ (CC 66 [(20, rf_ h3 x0 2), (0, x3), (0, x4)] h3) fun h5 _ => ck_ (0 ≤ x0) (ck_ (0 ≤ (rf_ h5 x0 2)) (ck_ (0 ≤ x0) (ck_ (0 ≤ (rf_ h5 x0 2)) (ck_ (0 ≤ (rf_ h5 (rf_ h5 x0 2) 8)) (ck_ (0 ≤ x2 ∧ x2 < ln_ h5 (rf_ h5 (rf_ h5 x0 2) 8)) (ck_ (0 ≤ (rf_ h5 (rf_ h5 x0 2) 8)) (ck_ (0 ≤ x2 ∧ x2 < ln_ h5 (rf_ h5 (rf_ h5 x0 2) 8)) (ck_ (0 ≤ x0) (ck_ (0 ≤ x0) (ck_ (0 ≤ (rf_ h5 x0 1)) (ck_ (0 ≤ (rf_ h5 x0 0)) (bd_ (CC 59 [(13, rf_ h5 x0 0), (0, 1), (1, rd_ (wr_ h5 (rf_ h5 (rf_ h5 x0 2) 8) x2 (if (99999 : Int) < (w32 ((rd_ h5 (rf_ h5 (rf_ h5 x0 2) 8) x2) + v4)) then (99999 : Int) else (w32 ((rd_ h5 (rf_ h5 (rf_ h5 x0 2) 8) x2) + v4)))) (rf_ h5 x0 1) 2)] (wr_ h5 (rf_ h5 (rf_ h5 x0 2) 8) x2 (if (99999 : Int) < (w32 ((rd_ h5 (rf_ h5 (rf_ h5 x0 2) 8) x2) + v4)) then (99999 : Int) else (w32 ((rd_ h5 (rf_ h5 (rf_ h5 x0 2) 8) x2) + v4))))) fun h7 v8 => bd_ (CC 69 [(1, v8), (0, 100)] h7) fun h9 v10 => ck_ (0 ≤ x0) (bd_ (CC 67 [(14, x0), (0, v10)] h9) fun h11 v12 => if v12 = 0 then JJ 70 14 [(14, x0), (9, 0), (0, x2), (0, x3), (0, x4), (9, 0), (0, v4)] [] h11 else JJ 70 13 [(14, x0), (9, 0), (0, x2), (0, x3), (0, x4), (9, 0), (0, v4)] [] h11)))))))))))))))))) = _
  simp only [cc_66, cc_59, cc_67, cc_69, jt_70_13, jt_70_14, ck_or1, ck_or2, rf_wr, ln_wr, nn_wr, rf_cp, ln_cp, nn_cp, ln_wf, nn_wf, rd_wf, nn_nw]
  try rfl))
set_option maxRecDepth 20000 in
theorem jt_70_10 (h : am_H) (d1 d5 d6 : am_V) (x0 x2 x3 x4 : Int) : JJ 70 10 [(14, x0), d1, (0, x2), (0, x3), (0, x4), d5, d6] [] h = ck_ (0 ≤ x0) (ck_ (0 ≤ (rf_ h x0 2)) (ck_ (0 ≤ (rf_ h (rf_ h x0 2) 6)) (ck_ (0 ≤ x3 ∧ x3 < ln_ h (rf_ h (rf_ h x0 2) 6)) (if x4 ≤ (rd_ h (rf_ h (rf_ h x0 2) 6) x3) then ck_ (0 ≤ x0) (ck_ (0 ≤ (rf_ h x0 0)) (bd_ (La_value h (rf_ h x0 0) 0 x4) fun h1 v2 => bd_ (Mi_within h1 v2 999) fun h3 v4 => ck_ (0 ≤ x0) (ck_ (0 ≤ (rf_ h3 x0 2)) (bd_ (Wo_turnOver h3 (rf_ h3 x0 2) x3 x4) fun h5 _ => ck_ (0 ≤ x0) (ck_ (0 ≤ (rf_ h5 x0 2)) (ck_ (0 ≤ x0) (ck_ (0 ≤ (rf_ h5 x0 2)) (ck_ (0 ≤ (rf_ h5 (rf_ h5 x0 2) 8)) (ck_ (0 ≤ x2 ∧ x2 < ln_ h5 (rf_ h5 (rf_ h5 x0 2) 8)) (ck_ (0 ≤ (rf_ h5 (rf_ h5 x0 2) 8)) (ck_ (0 ≤ x2 ∧ x2 < ln_ h5 (rf_ h5 (rf_ h5 x0 2) 8)) (ck_ (0 ≤ x0) (ck_ (0 ≤ x0) (ck_ (0 ≤ (rf_ h5 x0 1)) (ck_ (0 ≤ (rf_ h5 x0 0)) (bd_ (La_value (wr_ h5 (rf_ h5 (rf_ h5 x0 2) 8) x2 (if (99999 : Int) < (w32 ((rd_ h5 (rf_ h5 (rf_ h5 x0 2) 8) x2) + v4)) then (99999 : Int) else (w32 ((rd_ h5 (rf_ h5 (rf_ h5 x0 2) 8) x2) + v4)))) (rf_ h5 x0 0) 1 (rd_ (wr_ h5 (rf_ h5 (rf_ h5 x0 2) 8) x2 (if (99999 : Int) < (w32 ((rd_ h5 (rf_ h5 (rf_ h5 x0 2) 8) x2) + v4)) then (99999 : Int) else (w32 ((rd_ h5 (rf_ h5 (rf_ h5 x0 2) 8) x2) + v4)))) (rf_ h5 x0 1) 2)) fun h7 v8 => bd_ (Mi_within h7 v8 100) fun h9 v10 => ck_ (0 ≤ x0) (bd_ (Mi_chips h9 x0 v10) fun h11 v12 => if v12 = 0 then some (h11, 0) else ck_ (0 ≤ x0) (ck_ (0 ≤ (rf_ h11 x0 2)) (bd_ (Wo_chipTop h11 (rf_ h11 x0 2) x3) fun h13 _ => some (h13, 0)))))))))))))))))))) else ck_ (0 ≤ x0) (ck_ (0 ≤ (rf_ h x0 2)) (ck_ (0 ≤ (rf_ h x0 2)) (some (wr_ h (rf_ h x0 2) 4 (w32 ((rd_ h (rf_ h x0 2) 4) + 1)), 0)))))))) := (jj_of bk_70_10 _ _ h).trans ((ff_of bk_70_10 [(14, x0), (9, 0), (0, x2), (0, x3), (0, x4), (9, 0), (9, 0)] [] h).trans (by
  show (ck_ (0 ≤ x0) (ck_ (0 ≤ (rf_ h x0 2)) (ck_ (0 ≤ (rf_ h (rf_ h x0 2) 6)) (ck_ (0 ≤ x3 ∧ x3 < ln_ h (rf_ h (rf_ h x0 2) 6)) (if x4 ≤ (rd_ h (rf_ h (rf_ h x0 2) 6) x3) then JJ 70 12 [(14, x0), (9, 0), (0, x2), (0, x3), (0, x4), (9, 0), (9, 0)] [] h else JJ 70 11 [(14, x0), (9, 0), (0, x2), (0, x3), (0, x4), (9, 0), (9, 0)] [] h))))) = _
  simp only [jt_70_11, jt_70_12, ck_or1, ck_or2, rf_wr, ln_wr, nn_wr, rf_cp, ln_cp, nn_cp, ln_wf, nn_wf, rd_wf, nn_nw]
  try rfl))
set_option maxRecDepth 20000 in
theorem jt_70_9 (h : am_H) (d1 d5 d6 : am_V) (x0 x2 x3 x4 : Int) : JJ 70 9 [(14, x0), d1, (0, x2), (0, x3), (0, x4), d5, d6] [] h = if x4 < 1 then ck_ (0 ≤ x0) (ck_ (0 ≤ (rf_ h x0 2)) (ck_ (0 ≤ (rf_ h x0 2)) (some (wr_ h (rf_ h x0 2) 4 (w32 ((rd_ h (rf_ h x0 2) 4) + 1)), 0)))) else ck_ (0 ≤ x0) (ck_ (0 ≤ (rf_ h x0 2)) (ck_ (0 ≤ (rf_ h (rf_ h x0 2) 6)) (ck_ (0 ≤ x3 ∧ x3 < ln_ h (rf_ h (rf_ h x0 2) 6)) (if x4 ≤ (rd_ h (rf_ h (rf_ h x0 2) 6) x3) then ck_ (0 ≤ x0) (ck_ (0 ≤ (rf_ h x0 0)) (bd_ (La_value h (rf_ h x0 0) 0 x4) fun h1 v2 => bd_ (Mi_within h1 v2 999) fun h3 v4 => ck_ (0 ≤ x0) (ck_ (0 ≤ (rf_ h3 x0 2)) (bd_ (Wo_turnOver h3 (rf_ h3 x0 2) x3 x4) fun h5 _ => ck_ (0 ≤ x0) (ck_ (0 ≤ (rf_ h5 x0 2)) (ck_ (0 ≤ x0) (ck_ (0 ≤ (rf_ h5 x0 2)) (ck_ (0 ≤ (rf_ h5 (rf_ h5 x0 2) 8)) (ck_ (0 ≤ x2 ∧ x2 < ln_ h5 (rf_ h5 (rf_ h5 x0 2) 8)) (ck_ (0 ≤ (rf_ h5 (rf_ h5 x0 2) 8)) (ck_ (0 ≤ x2 ∧ x2 < ln_ h5 (rf_ h5 (rf_ h5 x0 2) 8)) (ck_ (0 ≤ x0) (ck_ (0 ≤ x0) (ck_ (0 ≤ (rf_ h5 x0 1)) (ck_ (0 ≤ (rf_ h5 x0 0)) (bd_ (La_value (wr_ h5 (rf_ h5 (rf_ h5 x0 2) 8) x2 (if (99999 : Int) < (w32 ((rd_ h5 (rf_ h5 (rf_ h5 x0 2) 8) x2) + v4)) then (99999 : Int) else (w32 ((rd_ h5 (rf_ h5 (rf_ h5 x0 2) 8) x2) + v4)))) (rf_ h5 x0 0) 1 (rd_ (wr_ h5 (rf_ h5 (rf_ h5 x0 2) 8) x2 (if (99999 : Int) < (w32 ((rd_ h5 (rf_ h5 (rf_ h5 x0 2) 8) x2) + v4)) then (99999 : Int) else (w32 ((rd_ h5 (rf_ h5 (rf_ h5 x0 2) 8) x2) + v4)))) (rf_ h5 x0 1) 2)) fun h7 v8 => bd_ (Mi_within h7 v8 100) fun h9 v10 => ck_ (0 ≤ x0) (bd_ (Mi_chips h9 x0 v10) fun h11 v12 => if v12 = 0 then some (h11, 0) else ck_ (0 ≤ x0) (ck_ (0 ≤ (rf_ h11 x0 2)) (bd_ (Wo_chipTop h11 (rf_ h11 x0 2) x3) fun h13 _ => some (h13, 0)))))))))))))))))))) else ck_ (0 ≤ x0) (ck_ (0 ≤ (rf_ h x0 2)) (ck_ (0 ≤ (rf_ h x0 2)) (some (wr_ h (rf_ h x0 2) 4 (w32 ((rd_ h (rf_ h x0 2) 4) + 1)), 0)))))))) := (jj_of bk_70_9 _ _ h).trans ((ff_of bk_70_9 [(14, x0), (9, 0), (0, x2), (0, x3), (0, x4), (9, 0), (9, 0)] [] h).trans (by
  show (if x4 < 1 then JJ 70 11 [(14, x0), (9, 0), (0, x2), (0, x3), (0, x4), (9, 0), (9, 0)] [] h else JJ 70 10 [(14, x0), (9, 0), (0, x2), (0, x3), (0, x4), (9, 0), (9, 0)] [] h) = _
  simp only [jt_70_10, jt_70_11, ck_or1, ck_or2, rf_wr, ln_wr, nn_wr, rf_cp, ln_cp, nn_cp, ln_wf, nn_wf, rd_wf, nn_nw]
  try rfl))
set_option maxRecDepth 20000 in
theorem Mi_takeTurn_8_e (h : am_H) (x0 x2 x3 x4 s0 : Int) : Mi_takeTurn_8 h x0 x2 x3 x4 s0 = if s0 = 0 then ck_ (0 ≤ x0) (ck_ (0 ≤ (rf_ h x0 2)) (ck_ (0 ≤ (rf_ h x0 2)) (some (wr_ h (rf_ h x0 2) 4 (w32 ((rd_ h (rf_ h x0 2) 4) + 1)), 0)))) else if x4 < 1 then ck_ (0 ≤ x0) (ck_ (0 ≤ (rf_ h x0 2)) (ck_ (0 ≤ (rf_ h x0 2)) (some (wr_ h (rf_ h x0 2) 4 (w32 ((rd_ h (rf_ h x0 2) 4) + 1)), 0)))) else ck_ (0 ≤ x0) (ck_ (0 ≤ (rf_ h x0 2)) (ck_ (0 ≤ (rf_ h (rf_ h x0 2) 6)) (ck_ (0 ≤ x3 ∧ x3 < ln_ h (rf_ h (rf_ h x0 2) 6)) (if x4 ≤ (rd_ h (rf_ h (rf_ h x0 2) 6) x3) then ck_ (0 ≤ x0) (ck_ (0 ≤ (rf_ h x0 0)) (bd_ (La_value h (rf_ h x0 0) 0 x4) fun h1 v2 => bd_ (Mi_within h1 v2 999) fun h3 v4 => ck_ (0 ≤ x0) (ck_ (0 ≤ (rf_ h3 x0 2)) (bd_ (Wo_turnOver h3 (rf_ h3 x0 2) x3 x4) fun h5 _ => ck_ (0 ≤ x0) (ck_ (0 ≤ (rf_ h5 x0 2)) (ck_ (0 ≤ x0) (ck_ (0 ≤ (rf_ h5 x0 2)) (ck_ (0 ≤ (rf_ h5 (rf_ h5 x0 2) 8)) (ck_ (0 ≤ x2 ∧ x2 < ln_ h5 (rf_ h5 (rf_ h5 x0 2) 8)) (ck_ (0 ≤ (rf_ h5 (rf_ h5 x0 2) 8)) (ck_ (0 ≤ x2 ∧ x2 < ln_ h5 (rf_ h5 (rf_ h5 x0 2) 8)) (ck_ (0 ≤ x0) (ck_ (0 ≤ x0) (ck_ (0 ≤ (rf_ h5 x0 1)) (ck_ (0 ≤ (rf_ h5 x0 0)) (bd_ (La_value (wr_ h5 (rf_ h5 (rf_ h5 x0 2) 8) x2 (if (99999 : Int) < (w32 ((rd_ h5 (rf_ h5 (rf_ h5 x0 2) 8) x2) + v4)) then (99999 : Int) else (w32 ((rd_ h5 (rf_ h5 (rf_ h5 x0 2) 8) x2) + v4)))) (rf_ h5 x0 0) 1 (rd_ (wr_ h5 (rf_ h5 (rf_ h5 x0 2) 8) x2 (if (99999 : Int) < (w32 ((rd_ h5 (rf_ h5 (rf_ h5 x0 2) 8) x2) + v4)) then (99999 : Int) else (w32 ((rd_ h5 (rf_ h5 (rf_ h5 x0 2) 8) x2) + v4)))) (rf_ h5 x0 1) 2)) fun h7 v8 => bd_ (Mi_within h7 v8 100) fun h9 v10 => ck_ (0 ≤ x0) (bd_ (Mi_chips h9 x0 v10) fun h11 v12 => if v12 = 0 then some (h11, 0) else ck_ (0 ≤ x0) (ck_ (0 ≤ (rf_ h11 x0 2)) (bd_ (Wo_chipTop h11 (rf_ h11 x0 2) x3) fun h13 _ => some (h13, 0)))))))))))))))))))) else ck_ (0 ≤ x0) (ck_ (0 ≤ (rf_ h x0 2)) (ck_ (0 ≤ (rf_ h x0 2)) (some (wr_ h (rf_ h x0 2) 4 (w32 ((rd_ h (rf_ h x0 2) 4) + 1)), 0)))))))) := (ff_of bk_70_8 [(14, x0), (9, 0), (0, x2), (0, x3), (0, x4), (9, 0), (9, 0)] [(0, s0)] h).trans (by
  show (if s0 = 0 then JJ 70 11 [(14, x0), (9, 0), (0, x2), (0, x3), (0, x4), (0, s0), (9, 0)] [] h else JJ 70 9 [(14, x0), (9, 0), (0, x2), (0, x3), (0, x4), (0, s0), (9, 0)] [] h) = _
  simp only [jt_70_11, jt_70_9, ck_or1, ck_or2, rf_wr, ln_wr, nn_wr, rf_cp, ln_cp, nn_cp, ln_wf, nn_wf, rd_wf, nn_nw]
  try rfl)
theorem cc_70 (h : am_H) (x0 x1 : Int) : CC 70 [(14, x0), (0, x1)] h = Mi_takeTurn h x0 x1 := cc_of pk_70 _ h
theorem pk_71 : am_prog 71 = some cd_71 := rfl
theorem bk_71_0 : bk_ am_prog 71 0 = some ([true, false], (bl_71_0, 9999)) := bk_of pk_71 rfl
theorem bk_71_1 : bk_ am_prog 71 1 = some ([true, false], (bl_71_1, 9999)) := bk_of pk_71 rfl
theorem bk_71_2 : bk_ am_prog 71 2 = some ([false, false], (bl_71_2, 9999)) := bk_of pk_71 rfl
theorem bk_71_3 : bk_ am_prog 71 3 = some ([true, false], (bl_71_3, 4)) := bk_of pk_71 rfl
theorem bk_71_4 : bk_ am_prog 71 4 = some ([true, true], (bl_71_4, 9999)) := bk_of pk_71 rfl
theorem bk_71_5 : bk_ am_prog 71 5 = some ([true, true], (bl_71_5, 9999)) := bk_of pk_71 rfl
theorem bk_71_6 : bk_ am_prog 71 6 = some ([true, true], (bl_71_6, 9999)) := bk_of pk_71 rfl
theorem bk_71_7 : bk_ am_prog 71 7 = some ([true, true], (bl_71_7, 9999)) := bk_of pk_71 rfl
theorem bk_71_8 : bk_ am_prog 71 8 = some ([true, true], (bl_71_8, 9)) := bk_of pk_71 rfl
theorem bk_71_9 : bk_ am_prog 71 9 = some ([true, true], (bl_71_9, 9999)) := bk_of pk_71 rfl
theorem bk_71_10 : bk_ am_prog 71 10 = some ([true, false], (bl_71_10, 9999)) := bk_of pk_71 rfl
theorem jt_71_4 (h : am_H) (x0 x1 : Int) : JJ 71 4 [(14, x0), (0, x1)] [] h = Mi_pass_4 h x0 x1 := jj_of bk_71_4 _ _ h
theorem jt_71_2 (h : am_H) (d0 d1 : am_V) : JJ 71 2 [d0, d1] [] h = some (h, 0) := (jj_of bk_71_2 _ _ h).trans (ff_of bk_71_2 [(9, 0), (9, 0)] [] h)
theorem jt_71_3 (h : am_H) (d1 : am_V) (x0 : Int) : JJ 71 3 [(14, x0), d1] [] h = Mi_pass_4 h x0 0 := (jj_of bk_71_3 _ _ h).trans ((ff_of bk_71_3 [(14, x0), (9, 0)] [] h).trans (by
  show (JJ 71 4 [(14, x0), (0, 0)] [] h) = _
  simp only [jt_71_4, ck_or1, ck_or2, rf_wr, ln_wr, nn_wr, rf_cp, ln_cp, nn_cp, ln_wf, nn_wf, rd_wf, nn_nw]
  try rfl))
theorem jt_71_1 (h : am_H) (d1 : am_V) (x0 : Int) : JJ 71 1 [(14, x0), d1] [] h = ck_ (0 ≤ x0) (if (rf_ h x0 2) < 0 then some (h, 0) else Mi_pass_4 h x0 0) := (jj_of bk_71_1 _ _ h).trans ((ff_of bk_71_1 [(14, x0), (9, 0)] [] h).trans (by
  show (ck_ (0 ≤ x0) (if (rf_ h x0 2) < 0 then JJ 71 2 [(14, x0), (9, 0)] [] h else JJ 71 3 [(14, x0), (9, 0)] [] h)) = _
  simp only [jt_71_2, jt_71_3, ck_or1, ck_or2, rf_wr, ln_wr, nn_wr, rf_cp, ln_cp, nn_cp, ln_wf, nn_wf, rd_wf, nn_nw]
  try rfl))
theorem Mi_pass_e (h : am_H) (x0 : Int) : Mi_pass h x0 = ck_ (0 ≤ x0) (if (rf_ h x0 1) < 0 then some (h, 0) else ck_ (0 ≤ x0) (if (rf_ h x0 2) < 0 then some (h, 0) else Mi_pass_4 h x0 0)) := (ff_of bk_71_0 [(14, x0), (9, 0)] [] h).trans (by
  show (ck_ (0 ≤ x0) (if (rf_ h x0 1) < 0 then JJ 71 2 [(14, x0), (9, 0)] [] h else JJ 71 1 [(14, x0), (9, 0)] [] h)) = _
  simp only [jt_71_1, jt_71_2, ck_or1, ck_or2, rf_wr, ln_wr, nn_wr, rf_cp, ln_cp, nn_cp, ln_wf, nn_wf, rd_wf, nn_nw]
  try rfl)
theorem jt_71_10 (h : am_H) (d1 : am_V) (x0 : Int) : JJ 71 10 [(14, x0), d1] [] h = ck_ (0 ≤ x0) (ck_ (0 ≤ (rf_ h x0 2)) (ck_ (0 ≤ (rf_ h x0 2)) (some (wr_ h (rf_ h x0 2) 3 (w32 ((rd_ h (rf_ h x0 2) 3) + 1)), 0)))) := (jj_of bk_71_10 _ _ h).trans (ff_of bk_71_10 [(14, x0), (9, 0)] [] h)
theorem jt_71_9 (h : am_H) (x0 x1 : Int) : JJ 71 9 [(14, x0), (0, x1)] [] h = Mi_pass_4 h x0 (w32 (x1 + 1)) := (jj_of bk_71_9 _ _ h).trans ((ff_of bk_71_9 [(14, x0), (0, x1)] [] h).trans (by
  show (JJ 71 4 [(14, x0), (0, w32 (x1 + 1))] [] h) = _
  simp only [jt_71_4, ck_or1, ck_or2, rf_wr, ln_wr, nn_wr, rf_cp, ln_cp, nn_cp, ln_wf, nn_wf, rd_wf, nn_nw]
  try rfl))
theorem jt_71_8 (h : am_H) (x0 x1 : Int) : JJ 71 8 [(14, x0), (0, x1)] [] h = ck_ (0 ≤ x0) (bd_ (Mi_takeTurn h x0 x1) fun h1 _ => Mi_pass_4 h1 x0 (w32 (x1 + 1))) := (jj_of bk_71_8 _ _ h).trans ((ff_of bk_71_8 [(14, x0), (0, x1)] [] h).trans (by
  show (ck_ (0 ≤ x0) (bd_ (CC 70 [(14, x0), (0, x1)] h) fun h1 _ => JJ 71 9 [(14, x0), (0, x1)] [] h1)) = _
  simp only [cc_70, jt_71_9, ck_or1, ck_or2, rf_wr, ln_wr, nn_wr, rf_cp, ln_cp, nn_cp, ln_wf, nn_wf, rd_wf, nn_nw]
  try rfl))
theorem jt_71_7 (h : am_H) (x0 x1 : Int) : JJ 71 7 [(14, x0), (0, x1)] [] h = ck_ (0 ≤ x0) (bd_ (Mi_takeTurn h x0 x1) fun h1 _ => ck_ (0 ≤ x0) (if (rd_ h1 x0 4) ≠ 3 then Mi_pass_4 h1 x0 (w32 (x1 + 1)) else ck_ (0 ≤ x0) (bd_ (Mi_takeTurn h1 x0 x1) fun h3 _ => Mi_pass_4 h3 x0 (w32 (x1 + 1))))) := (jj_of bk_71_7 _ _ h).trans ((ff_of bk_71_7 [(14, x0), (0, x1)] [] h).trans (by
  show (ck_ (0 ≤ x0) (bd_ (CC 70 [(14, x0), (0, x1)] h) fun h1 _ => ck_ (0 ≤ x0) (if (rd_ h1 x0 4) ≠ 3 then JJ 71 9 [(14, x0), (0, x1)] [] h1 else JJ 71 8 [(14, x0), (0, x1)] [] h1))) = _
  simp only [cc_70, jt_71_8, jt_71_9, ck_or1, ck_or2, rf_wr, ln_wr, nn_wr, rf_cp, ln_cp, nn_cp, ln_wf, nn_wf, rd_wf, nn_nw]
  try rfl))
theorem jt_71_6 (h : am_H) (x0 x1 : Int) : JJ 71 6 [(14, x0), (0, x1)] [] h = ck_ (0 ≤ x0) (ck_ (0 ≤ (rf_ h x0 1)) (ck_ (0 ≤ (rf_ h (rf_ h x0 1) 13)) (ck_ (0 ≤ x1 ∧ x1 < ln_ h (rf_ h (rf_ h x0 1) 13)) (ck_ (0 ≤ x0) (ck_ (0 ≤ (rf_ h x0 2)) (if (rd_ h (rf_ h (rf_ h x0 1) 13) x1) ≠ (rd_ h (rf_ h x0 2) 3) then Mi_pass_4 h x0 (w32 (x1 + 1)) else ck_ (0 ≤ x0) (bd_ (Mi_takeTurn h x0 x1) fun h1 _ => ck_ (0 ≤ x0) (if (rd_ h1 x0 4) ≠ 3 then Mi_pass_4 h1 x0 (w32 (x1 + 1)) else ck_ (0 ≤ x0) (bd_ (Mi_takeTurn h1 x0 x1) fun h3 _ => Mi_pass_4 h3 x0 (w32 (x1 + 1))))))))))) := (jj_of bk_71_6 _ _ h).trans ((ff_of bk_71_6 [(14, x0), (0, x1)] [] h).trans (by
  show (ck_ (0 ≤ x0) (ck_ (0 ≤ (rf_ h x0 1)) (ck_ (0 ≤ (rf_ h (rf_ h x0 1) 13)) (ck_ (0 ≤ x1 ∧ x1 < ln_ h (rf_ h (rf_ h x0 1) 13)) (ck_ (0 ≤ x0) (ck_ (0 ≤ (rf_ h x0 2)) (if (rd_ h (rf_ h (rf_ h x0 1) 13) x1) ≠ (rd_ h (rf_ h x0 2) 3) then JJ 71 9 [(14, x0), (0, x1)] [] h else JJ 71 7 [(14, x0), (0, x1)] [] h))))))) = _
  simp only [jt_71_7, jt_71_9, ck_or1, ck_or2, rf_wr, ln_wr, nn_wr, rf_cp, ln_cp, nn_cp, ln_wf, nn_wf, rd_wf, nn_nw]
  try rfl))
theorem jt_71_5 (h : am_H) (x0 x1 : Int) : JJ 71 5 [(14, x0), (0, x1)] [] h = ck_ (0 ≤ x0) (ck_ (0 ≤ (rf_ h x0 2)) (if 99 < (rd_ h (rf_ h x0 2) 3) then ck_ (0 ≤ x0) (ck_ (0 ≤ (rf_ h x0 2)) (ck_ (0 ≤ (rf_ h x0 2)) (some (wr_ h (rf_ h x0 2) 3 (w32 ((rd_ h (rf_ h x0 2) 3) + 1)), 0)))) else ck_ (0 ≤ x0) (ck_ (0 ≤ (rf_ h x0 1)) (ck_ (0 ≤ (rf_ h (rf_ h x0 1) 13)) (ck_ (0 ≤ x1 ∧ x1 < ln_ h (rf_ h (rf_ h x0 1) 13)) (ck_ (0 ≤ x0) (ck_ (0 ≤ (rf_ h x0 2)) (if (rd_ h (rf_ h (rf_ h x0 1) 13) x1) ≠ (rd_ h (rf_ h x0 2) 3) then Mi_pass_4 h x0 (w32 (x1 + 1)) else ck_ (0 ≤ x0) (bd_ (Mi_takeTurn h x0 x1) fun h1 _ => ck_ (0 ≤ x0) (if (rd_ h1 x0 4) ≠ 3 then Mi_pass_4 h1 x0 (w32 (x1 + 1)) else ck_ (0 ≤ x0) (bd_ (Mi_takeTurn h1 x0 x1) fun h3 _ => Mi_pass_4 h3 x0 (w32 (x1 + 1))))))))))))) := (jj_of bk_71_5 _ _ h).trans ((ff_of bk_71_5 [(14, x0), (0, x1)] [] h).trans (by
  show (ck_ (0 ≤ x0) (ck_ (0 ≤ (rf_ h x0 2)) (if 99 < (rd_ h (rf_ h x0 2) 3) then JJ 71 10 [(14, x0), (0, x1)] [] h else JJ 71 6 [(14, x0), (0, x1)] [] h))) = _
  simp only [jt_71_10, jt_71_6, ck_or1, ck_or2, rf_wr, ln_wr, nn_wr, rf_cp, ln_cp, nn_cp, ln_wf, nn_wf, rd_wf, nn_nw]
  try rfl))
set_option maxRecDepth 20000 in
theorem Mi_pass_4_e (h : am_H) (x0 x1 : Int) : Mi_pass_4 h x0 x1 = ck_ (0 ≤ x0) (ck_ (0 ≤ (rf_ h x0 1)) (if (rd_ h (rf_ h x0 1) 1) ≤ x1 then ck_ (0 ≤ x0) (ck_ (0 ≤ (rf_ h x0 2)) (ck_ (0 ≤ (rf_ h x0 2)) (some (wr_ h (rf_ h x0 2) 3 (w32 ((rd_ h (rf_ h x0 2) 3) + 1)), 0)))) else ck_ (0 ≤ x0) (ck_ (0 ≤ (rf_ h x0 2)) (if 99 < (rd_ h (rf_ h x0 2) 3) then ck_ (0 ≤ x0) (ck_ (0 ≤ (rf_ h x0 2)) (ck_ (0 ≤ (rf_ h x0 2)) (some (wr_ h (rf_ h x0 2) 3 (w32 ((rd_ h (rf_ h x0 2) 3) + 1)), 0)))) else ck_ (0 ≤ x0) (ck_ (0 ≤ (rf_ h x0 1)) (ck_ (0 ≤ (rf_ h (rf_ h x0 1) 13)) (ck_ (0 ≤ x1 ∧ x1 < ln_ h (rf_ h (rf_ h x0 1) 13)) (ck_ (0 ≤ x0) (ck_ (0 ≤ (rf_ h x0 2)) (if (rd_ h (rf_ h (rf_ h x0 1) 13) x1) ≠ (rd_ h (rf_ h x0 2) 3) then Mi_pass_4 h x0 (w32 (x1 + 1)) else ck_ (0 ≤ x0) (bd_ (Mi_takeTurn h x0 x1) fun h1 _ => ck_ (0 ≤ x0) (if (rd_ h1 x0 4) ≠ 3 then Mi_pass_4 h1 x0 (w32 (x1 + 1)) else ck_ (0 ≤ x0) (bd_ (Mi_takeTurn h1 x0 x1) fun h3 _ => Mi_pass_4 h3 x0 (w32 (x1 + 1))))))))))))))) := (ff_of bk_71_4 [(14, x0), (0, x1)] [] h).trans (by
  show (ck_ (0 ≤ x0) (ck_ (0 ≤ (rf_ h x0 1)) (if (rd_ h (rf_ h x0 1) 1) ≤ x1 then JJ 71 10 [(14, x0), (0, x1)] [] h else JJ 71 5 [(14, x0), (0, x1)] [] h))) = _
  simp only [jt_71_10, jt_71_5, ck_or1, ck_or2, rf_wr, ln_wr, nn_wr, rf_cp, ln_cp, nn_cp, ln_wf, nn_wf, rd_wf, nn_nw]
  try rfl)
theorem cc_71 (h : am_H) (x0 : Int) : CC 71 [(14, x0)] h = Mi_pass h x0 := cc_of pk_71 _ h
theorem pk_72 : am_prog 72 = some cd_72 := rfl
theorem bk_72_0 : bk_ am_prog 72 0 = some ([true, true, false], (bl_72_0, 1)) := bk_of pk_72 rfl
theorem bk_72_1 : bk_ am_prog 72 1 = some ([true, true, true], (bl_72_1, 9999)) := bk_of pk_72 rfl
theorem bk_72_2 : bk_ am_prog 72 2 = some ([true, true, true], (bl_72_2, 9999)) := bk_of pk_72 rfl
theorem bk_72_3 : bk_ am_prog 72 3 = some ([false, false, false], (bl_72_3, 9999)) := bk_of pk_72 rfl
theorem jt_72_1 (h : am_H) (x0 x1 x2 : Int) : JJ 72 1 [(14, x0), (0, x1), (0, x2)] [] h = Mi_passAll_1 h x0 x1 x2 := jj_of bk_72_1 _ _ h
theorem Mi_passAll_e (h : am_H) (x0 x1 : Int) : Mi_passAll h x0 x1 = Mi_passAll_1 h x0 x1 0 := (ff_of bk_72_0 [(14, x0), (0, x1), (9, 0)] [] h).trans (by
  show (JJ 72 1 [(14, x0), (0, x1), (0, 0)] [] h) = _
  simp only [jt_72_1, ck_or1, ck_or2, rf_wr, ln_wr, nn_wr, rf_cp, ln_cp, nn_cp, ln_wf, nn_wf, rd_wf, nn_nw]
  try rfl)
theorem jt_72_3 (h : am_H) (d0 d1 d2 : am_V) : JJ 72 3 [d0, d1, d2] [] h = some (h, 0) := (jj_of bk_72_3 _ _ h).trans (ff_of bk_72_3 [(9, 0), (9, 0), (9, 0)] [] h)
theorem jt_72_2 (h : am_H) (x0 x1 x2 : Int) : JJ 72 2 [(14, x0), (0, x1), (0, x2)] [] h = ck_ (0 ≤ x0) (bd_ (Mi_pass h x0) fun h1 _ => Mi_passAll_1 h1 x0 x1 (w32 (x2 + 1))) := (jj_of bk_72_2 _ _ h).trans ((ff_of bk_72_2 [(14, x0), (0, x1), (0, x2)] [] h).trans (by
  show (ck_ (0 ≤ x0) (bd_ (CC 71 [(14, x0)] h) fun h1 _ => JJ 72 1 [(14, x0), (0, x1), (0, w32 (x2 + 1))] [] h1)) = _
  simp only [cc_71, jt_72_1, ck_or1, ck_or2, rf_wr, ln_wr, nn_wr, rf_cp, ln_cp, nn_cp, ln_wf, nn_wf, rd_wf, nn_nw]
  try rfl))
theorem Mi_passAll_1_e (h : am_H) (x0 x1 x2 : Int) : Mi_passAll_1 h x0 x1 x2 = if x1 ≤ x2 then some (h, 0) else ck_ (0 ≤ x0) (bd_ (Mi_pass h x0) fun h1 _ => Mi_passAll_1 h1 x0 x1 (w32 (x2 + 1))) := (ff_of bk_72_1 [(14, x0), (0, x1), (0, x2)] [] h).trans (by
  show (if x1 ≤ x2 then JJ 72 3 [(14, x0), (0, x1), (0, x2)] [] h else JJ 72 2 [(14, x0), (0, x1), (0, x2)] [] h) = _
  simp only [jt_72_2, jt_72_3, ck_or1, ck_or2, rf_wr, ln_wr, nn_wr, rf_cp, ln_cp, nn_cp, ln_wf, nn_wf, rd_wf, nn_nw]
  try rfl)
theorem cc_72 (h : am_H) (x0 x1 : Int) : CC 72 [(14, x0), (0, x1)] h = Mi_passAll h x0 x1 := cc_of pk_72 _ h
theorem pk_73 : am_prog 73 = some cd_73 := rfl
theorem bk_73_0 : bk_ am_prog 73 0 = some ([true], (bl_73_0, 9999)) := bk_of pk_73 rfl
theorem bk_73_1 : bk_ am_prog 73 1 = some ([true], (bl_73_1, 9999)) := bk_of pk_73 rfl
theorem bk_73_2 : bk_ am_prog 73 2 = some ([false], (bl_73_2, 9999)) := bk_of pk_73 rfl
theorem bk_73_3 : bk_ am_prog 73 3 = some ([false], (bl_73_3, 4)) := bk_of pk_73 rfl
theorem bk_73_4 : bk_ am_prog 73 4 = some ([false], (bl_73_4, 9999)) := bk_of pk_73 rfl
theorem jt_73_4 (h : am_H) (d0 : am_V) (s0 : Int) : JJ 73 4 [d0] [(0, s0)] h = ck_ (s0 = 0 ∨ s0 = 1) (some (h, s0)) := (jj_of bk_73_4 _ _ h).trans (ff_of bk_73_4 [(9, 0)] [(0, s0)] h)
theorem jt_73_3 (h : am_H) (d0 : am_V) : JJ 73 3 [d0] [] h = some (h, 0) := (jj_of bk_73_3 _ _ h).trans ((ff_of bk_73_3 [(9, 0)] [] h).trans (by
  show (JJ 73 4 [(9, 0)] [(0, 0)] h) = _
  simp only [jt_73_4, ck_or1, ck_or2, rf_wr, ln_wr, nn_wr, rf_cp, ln_cp, nn_cp, ln_wf, nn_wf, rd_wf, nn_nw]
  try rfl))
theorem jt_73_2 (h : am_H) (d0 : am_V) : JJ 73 2 [d0] [] h = some (h, 1) := (jj_of bk_73_2 _ _ h).trans ((ff_of bk_73_2 [(9, 0)] [] h).trans (by
  show (JJ 73 4 [(9, 0)] [(0, 1)] h) = _
  simp only [jt_73_4, ck_or1, ck_or2, rf_wr, ln_wr, nn_wr, rf_cp, ln_cp, nn_cp, ln_wf, nn_wf, rd_wf, nn_nw]
  try rfl))
theorem jt_73_1 (h : am_H) : JJ 73 1 [(6, 0)] [] h = if (0 : Int) ≠ 0 then some (h, 0) else some (h, 1) := (jj_of bk_73_1 _ _ h).trans ((ff_of bk_73_1 [(6, 0)] [] h).trans (by
  show (if (0 : Int) ≠ 0 then JJ 73 3 [(6, 0)] [] h else JJ 73 2 [(6, 0)] [] h) = _
  simp only [jt_73_2, jt_73_3, ck_or1, ck_or2, rf_wr, ln_wr, nn_wr, rf_cp, ln_cp, nn_cp, ln_wf, nn_wf, rd_wf, nn_nw]
  try rfl))
theorem Js_isLatin1_e (h : am_H) : Js_isLatin1 h = if (1 : Int) = 0 then some (h, 0) else if (0 : Int) ≠ 0 then some (h, 0) else some (h, 1) := (ff_of bk_73_0 [(6, 0)] [] h).trans (by
  show (if (1 : Int) = 0 then JJ 73 3 [(6, 0)] [] h else JJ 73 1 [(6, 0)] [] h) = _
  simp only [jt_73_1, jt_73_3, ck_or1, ck_or2, rf_wr, ln_wr, nn_wr, rf_cp, ln_cp, nn_cp, ln_wf, nn_wf, rd_wf, nn_nw]
  try rfl)
theorem cc_73 (h : am_H) : CC 73 [(6, 0)] h = Js_isLatin1 h := cc_of pk_73 _ h
theorem pk_74 : am_prog 74 = some cd_74 := rfl
theorem bk_74_0 : bk_ am_prog 74 0 = some ([true, true, true], (bl_74_0, 9999)) := bk_of pk_74 rfl
theorem bk_74_1 : bk_ am_prog 74 1 = some ([true, true, true], (bl_74_1, 9999)) := bk_of pk_74 rfl
theorem bk_74_2 : bk_ am_prog 74 2 = some ([true, true, true], (bl_74_2, 9999)) := bk_of pk_74 rfl
theorem bk_74_3 : bk_ am_prog 74 3 = some ([true, false, false], (bl_74_3, 9999)) := bk_of pk_74 rfl
theorem jt_74_2 (h : am_H) (x0 x1 : Int) : JJ 74 2 [(0, x0), (0, x1), (8, 0)] [] h = none := (jj_of bk_74_2 _ _ h).trans (ff_of bk_74_2 [(0, x0), (0, x1), (8, 0)] [] h)
theorem jt_74_3 (h : am_H) (d1 d2 : am_V) (x0 : Int) : JJ 74 3 [(0, x0), d1, d2] [] h = some (h, x0) := (jj_of bk_74_3 _ _ h).trans (ff_of bk_74_3 [(0, x0), (9, 0), (9, 0)] [] h)
theorem jt_74_1 (h : am_H) (x0 x1 : Int) : JJ 74 1 [(0, x0), (0, x1), (8, 0)] [] h = if x0 < x1 then some (h, x0) else none := (jj_of bk_74_1 _ _ h).trans ((ff_of bk_74_1 [(0, x0), (0, x1), (8, 0)] [] h).trans (by
  show (if x0 < x1 then JJ 74 3 [(0, x0), (0, x1), (8, 0)] [] h else JJ 74 2 [(0, x0), (0, x1), (8, 0)] [] h) = _
  simp only [jt_74_2, jt_74_3, ck_or1, ck_or2, rf_wr, ln_wr, nn_wr, rf_cp, ln_cp, nn_cp, ln_wf, nn_wf, rd_wf, nn_nw]
  try rfl))
theorem Jp_checkIndex_e (h : am_H) (x0 x1 : Int) : Jp_checkIndex h x0 x1 = if x0 < 0 then none else if x0 < x1 then some (h, x0) else none := (ff_of bk_74_0 [(0, x0), (0, x1), (8, 0)] [] h).trans (by
  show (if x0 < 0 then JJ 74 2 [(0, x0), (0, x1), (8, 0)] [] h else JJ 74 1 [(0, x0), (0, x1), (8, 0)] [] h) = _
  simp only [jt_74_1, jt_74_2, ck_or1, ck_or2, rf_wr, ln_wr, nn_wr, rf_cp, ln_cp, nn_cp, ln_wf, nn_wf, rd_wf, nn_nw]
  try rfl)
theorem cc_74 (h : am_H) (x0 x1 : Int) : CC 74 [(0, x0), (0, x1), (8, 0)] h = Jp_checkIndex h x0 x1 := cc_of pk_74 _ h
theorem pk_75 : am_prog 75 = some cd_75 := rfl
theorem bk_75_0 : bk_ am_prog 75 0 = some ([true, true], (bl_75_0, 9999)) := bk_of pk_75 rfl
theorem Js_checkIndex_e (h : am_H) (x0 x1 : Int) : Js_checkIndex h x0 x1 = bd_ (Jp_checkIndex h x0 x1) fun h1 v2 => some (h1, 0) := (ff_of bk_75_0 [(0, x0), (0, x1)] [] h).trans (by
  show (bd_ (CC 74 [(0, x0), (0, x1), (8, 0)] h) fun h1 v2 => some (h1, 0)) = _
  simp only [cc_74, ck_or1, ck_or2, rf_wr, ln_wr, nn_wr, rf_cp, ln_cp, nn_cp, ln_wf, nn_wf, rd_wf, nn_nw]
  try rfl)
theorem cc_75 (h : am_H) (x0 x1 : Int) : CC 75 [(0, x0), (0, x1)] h = Js_checkIndex h x0 x1 := cc_of pk_75 _ h
theorem pk_76 : am_prog 76 = some cd_76 := rfl
theorem bk_76_0 : bk_ am_prog 76 0 = some ([true, true], (bl_76_0, 9999)) := bk_of pk_76 rfl
theorem Jl_charAt_e (h : am_H) (x1 : Int) : Jl_charAt h x1 = bd_ (Js_checkIndex h x1 104) fun h1 _ => ck_ (0 ≤ x1 ∧ x1 < 104) (ck_ (0 ≤ ((an_ (tx_.getD (x1 : Int).toNat 0) 255) % 65536) ∧ ((an_ (tx_.getD (x1 : Int).toNat 0) 255) % 65536) < 128) (some (h1, (an_ (tx_.getD (x1 : Int).toNat 0) 255) % 65536))) := (ff_of bk_76_0 [(7, 0), (0, x1)] [] h).trans (by
  show (bd_ (CC 75 [(0, x1), (0, 104)] h) fun h1 _ => ck_ (0 ≤ x1 ∧ x1 < 104) (ck_ (0 ≤ ((an_ (tx_.getD (x1 : Int).toNat 0) 255) % 65536) ∧ ((an_ (tx_.getD (x1 : Int).toNat 0) 255) % 65536) < 128) (some (h1, (an_ (tx_.getD (x1 : Int).toNat 0) 255) % 65536)))) = _
  simp only [cc_75, ck_or1, ck_or2, rf_wr, ln_wr, nn_wr, rf_cp, ln_cp, nn_cp, ln_wf, nn_wf, rd_wf, nn_nw]
  try rfl)
theorem cc_76 (h : am_H) (x1 : Int) : CC 76 [(7, 0), (0, x1)] h = Jl_charAt h x1 := cc_of pk_76 _ h
theorem pk_77 : am_prog 77 = some cd_77 := rfl
theorem bk_77_0 : bk_ am_prog 77 0 = some ([true, true], (bl_77_0, 9999)) := bk_of pk_77 rfl
theorem bk_77_1 : bk_ am_prog 77 1 = some ([true, true], (bl_77_1, 9999)) := bk_of pk_77 rfl
theorem bk_77_2 : bk_ am_prog 77 2 = some ([true, true], (bl_77_2, 9999)) := bk_of pk_77 rfl
theorem jt_77_2 (h : am_H) (x1 : Int) : JJ 77 2 [(6, 0), (0, x1)] [] h = none := (jj_of bk_77_2 _ _ h).trans (ff_of bk_77_2 [(6, 0), (0, x1)] [] h)
theorem jt_77_1 (h : am_H) (x1 : Int) : JJ 77 1 [(6, 0), (0, x1)] [] h = bd_ (Jl_charAt h x1) fun h1 v2 => ck_ (0 ≤ v2 ∧ v2 < 128) (some (h1, v2)) := (jj_of bk_77_1 _ _ h).trans ((ff_of bk_77_1 [(6, 0), (0, x1)] [] h).trans (by
  show (bd_ (CC 76 [(7, 0), (0, x1)] h) fun h1 v2 => ck_ (0 ≤ v2 ∧ v2 < 128) (some (h1, v2))) = _
  simp only [cc_76, ck_or1, ck_or2, rf_wr, ln_wr, nn_wr, rf_cp, ln_cp, nn_cp, ln_wf, nn_wf, rd_wf, nn_nw]
  try rfl))
theorem Js_charAt_e (h : am_H) (x1 : Int) : Js_charAt h x1 = bd_ (Js_isLatin1 h) fun h1 v2 => if v2 = 0 then none else bd_ (Jl_charAt h1 x1) fun h3 v4 => ck_ (0 ≤ v4 ∧ v4 < 128) (some (h3, v4)) := (ff_of bk_77_0 [(6, 0), (0, x1)] [] h).trans (by
  show (bd_ (CC 73 [(6, 0)] h) fun h1 v2 => if v2 = 0 then JJ 77 2 [(6, 0), (0, x1)] [] h1 else JJ 77 1 [(6, 0), (0, x1)] [] h1) = _
  simp only [cc_73, jt_77_1, jt_77_2, ck_or1, ck_or2, rf_wr, ln_wr, nn_wr, rf_cp, ln_cp, nn_cp, ln_wf, nn_wf, rd_wf, nn_nw]
  try rfl)
theorem cc_77 (h : am_H) (x1 : Int) : CC 77 [(6, 0), (0, x1)] h = Js_charAt h x1 := cc_of pk_77 _ h
theorem pk_78 : am_prog 78 = some cd_78 := rfl
theorem bk_78_0 : bk_ am_prog 78 0 = some ([true], (bl_78_0, 9999)) := bk_of pk_78 rfl
theorem bk_78_1 : bk_ am_prog 78 1 = some ([true], (bl_78_1, 9999)) := bk_of pk_78 rfl
theorem bk_78_2 : bk_ am_prog 78 2 = some ([false], (bl_78_2, 3)) := bk_of pk_78 rfl
theorem bk_78_3 : bk_ am_prog 78 3 = some ([false], (bl_78_3, 9999)) := bk_of pk_78 rfl
theorem jt_78_3 (h : am_H) (d0 : am_V) (s0 : Int) : JJ 78 3 [d0] [(0, s0)] h = ck_ (0 ≤ s0 ∧ s0 < 128) (some (h, s0)) := (jj_of bk_78_3 _ _ h).trans (ff_of bk_78_3 [(9, 0)] [(0, s0)] h)
theorem jt_78_2 (h : am_H) (d0 : am_V) : JJ 78 2 [d0] [] h = ck_ (0 ≤ (1 : Int) ∧ (1 : Int) < 128) (some (h, 1)) := (jj_of bk_78_2 _ _ h).trans ((ff_of bk_78_2 [(9, 0)] [] h).trans (by
  show (JJ 78 3 [(9, 0)] [(0, 1)] h) = _
  simp only [jt_78_3, ck_or1, ck_or2, rf_wr, ln_wr, nn_wr, rf_cp, ln_cp, nn_cp, ln_wf, nn_wf, rd_wf, nn_nw]
  try rfl))
theorem jt_78_1 (h : am_H) : JJ 78 1 [(6, 0)] [] h = ck_ (0 ≤ (0 : Int) ∧ (0 : Int) < 128) (some (h, 0)) := (jj_of bk_78_1 _ _ h).trans ((ff_of bk_78_1 [(6, 0)] [] h).trans (by
  show (JJ 78 3 [(6, 0)] [(0, 0)] h) = _
  simp only [jt_78_3, ck_or1, ck_or2, rf_wr, ln_wr, nn_wr, rf_cp, ln_cp, nn_cp, ln_wf, nn_wf, rd_wf, nn_nw]
  try rfl))
theorem Js_coder_e (h : am_H) : Js_coder h = if (1 : Int) = 0 then ck_ (0 ≤ (1 : Int) ∧ (1 : Int) < 128) (some (h, 1)) else ck_ (0 ≤ (0 : Int) ∧ (0 : Int) < 128) (some (h, 0)) := (ff_of bk_78_0 [(6, 0)] [] h).trans (by
  show (if (1 : Int) = 0 then JJ 78 2 [(6, 0)] [] h else JJ 78 1 [(6, 0)] [] h) = _
  simp only [jt_78_1, jt_78_2, ck_or1, ck_or2, rf_wr, ln_wr, nn_wr, rf_cp, ln_cp, nn_cp, ln_wf, nn_wf, rd_wf, nn_nw]
  try rfl)
theorem cc_78 (h : am_H) : CC 78 [(6, 0)] h = Js_coder h := cc_of pk_78 _ h
theorem pk_79 : am_prog 79 = some cd_79 := rfl
theorem bk_79_0 : bk_ am_prog 79 0 = some ([true], (bl_79_0, 9999)) := bk_of pk_79 rfl
theorem Js_length_e (h : am_H) : Js_length h = bd_ (Js_coder h) fun h1 v2 => some (h1, 104 / 2 ^ (v2 % 32 : Int).toNat) := (ff_of bk_79_0 [(6, 0)] [] h).trans (by
  show (bd_ (CC 78 [(6, 0)] h) fun h1 v2 => some (h1, 104 / 2 ^ (v2 % 32 : Int).toNat)) = _
  simp only [cc_78, ck_or1, ck_or2, rf_wr, ln_wr, nn_wr, rf_cp, ln_cp, nn_cp, ln_wf, nn_wf, rd_wf, nn_nw]
  try rfl)
theorem cc_79 (h : am_H) : CC 79 [(6, 0)] h = Js_length h := cc_of pk_79 _ h
