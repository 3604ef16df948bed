/-! what each is -/
theorem pk_80 : am_prog 80 = some cd_80 := rfl
theorem bk_80_0 : bk_ am_prog 80 0 = some ([true, false, false, false, false], (bl_80_0, 1)) := bk_of pk_80 rfl
theorem bk_80_1 : bk_ am_prog 80 1 = some ([true, true, true, true, false], (bl_80_1, 9999)) := bk_of pk_80 rfl
theorem bk_80_2 : bk_ am_prog 80 2 = some ([true, true, true, true, false], (bl_80_2, 9999)) := bk_of pk_80 rfl
theorem bk_80_3 : bk_ am_prog 80 3 = some ([true, true, true, true, false], (bl_80_3, 9999)) := bk_of pk_80 rfl
theorem bk_80_4 : bk_ am_prog 80 4 = some ([true, true, false, true, false], (bl_80_4, 9999)) := bk_of pk_80 rfl
theorem bk_80_5 : bk_ am_prog 80 5 = some ([true, true, true, true, true], (bl_80_5, 6)) := bk_of pk_80 rfl
theorem bk_80_6 : bk_ am_prog 80 6 = some ([true, true, true, true, false], (bl_80_6, 9999)) := bk_of pk_80 rfl
theorem bk_80_7 : bk_ am_prog 80 7 = some ([false, false, false, false, false], (bl_80_7, 9999)) := bk_of pk_80 rfl
theorem jt_80_1 (h : am_H) (d4 : am_V) (x0 x1 x2 x3 : Int) : JJ 80 1 [(17, x0), (0, x1), (0, x2), (0, x3), d4] [] h = Tk_new_1 h x0 x1 x2 x3 := jj_of bk_80_1 _ _ h
theorem Tk_new_e (h : am_H) (x0 : Int) : Tk_new h x0 = ck_ (0 ≤ x0) (ck_ (0 ≤ (20 : Int) ∧ (20 : Int) ≤ 1000000) (ck_ (0 ≤ x0) (ck_ (0 ≤ x0) (Tk_new_1 (wf_ (wf_ (nw_ h 20 20) x0 0 (nn_ h)) x0 1 (-1)) x0 0 0 0)))) := (ff_of bk_80_0 [(17, x0), (9, 0), (9, 0), (9, 0), (9, 0)] [] h).trans (by
  show (ck_ (0 ≤ x0) (ck_ (0 ≤ (20 : Int) ∧ (20 : Int) ≤ 1000000) (ck_ (0 ≤ x0) (ck_ (0 ≤ x0) (JJ 80 1 [(17, x0), (0, 0), (0, 0), (0, 0), (9, 0)] [] (wf_ (wf_ (nw_ h 20 20) x0 0 (nn_ h)) x0 1 (-1))))))) = _
  simp only [jt_80_1, ck_or1, ck_or2, rf_wr, ln_wr, nn_wr, rf_cp, ln_cp, nn_cp, ln_wf, nn_wf, rd_wf, nn_nw]
  try rfl)
theorem jt_80_7 (h : am_H) (d0 d1 d2 d3 d4 : am_V) : JJ 80 7 [d0, d1, d2, d3, d4] [] h = some (h, 0) := (jj_of bk_80_7 _ _ h).trans (ff_of bk_80_7 [(9, 0), (9, 0), (9, 0), (9, 0), (9, 0)] [] h)
theorem jt_80_6 (h : am_H) (d4 : am_V) (x0 x1 x2 x3 : Int) : JJ 80 6 [(17, x0), (0, x1), (0, x2), (0, x3), d4] [] h = Tk_new_1 h x0 x1 x2 (w32 (x3 + 1)) := (jj_of bk_80_6 _ _ h).trans ((ff_of bk_80_6 [(17, x0), (0, x1), (0, x2), (0, x3), (9, 0)] [] h).trans (by
  show (JJ 80 1 [(17, x0), (0, x1), (0, x2), (0, w32 (x3 + 1)), (9, 0)] [] h) = _
  simp only [jt_80_1, ck_or1, ck_or2, rf_wr, ln_wr, nn_wr, rf_cp, ln_cp, nn_cp, ln_wf, nn_wf, rd_wf, nn_nw]
  try rfl))
theorem jt_80_5 (h : am_H) (x0 x1 x2 x3 x4 : Int) : JJ 80 5 [(17, x0), (0, x1), (0, x2), (0, x3), (0, x4)] [] h = ck_ (0 ≤ x0) (ck_ (0 ≤ (rf_ h x0 0)) (ck_ (0 ≤ x1 ∧ x1 < ln_ h (rf_ h x0 0)) (ck_ (0 ≤ (rf_ h x0 0)) (ck_ (0 ≤ x1 ∧ x1 < ln_ h (rf_ h x0 0)) (Tk_new_1 (wr_ h (rf_ h x0 0) x1 (or_ (rd_ h (rf_ h x0 0) x1) (w32 ((w32 ((w32 (x4 - 97)) + 1)) * 2 ^ ((w32 (25 - (w32 (5 * x2)))) % 32 : Int).toNat)))) x0 x1 (w32 (x2 + 1)) (w32 (x3 + 1))))))) := (jj_of bk_80_5 _ _ h).trans ((ff_of bk_80_5 [(17, x0), (0, x1), (0, x2), (0, x3), (0, x4)] [] h).trans (by
  show (ck_ (0 ≤ x0) (ck_ (0 ≤ (rf_ h x0 0)) (ck_ (0 ≤ x1 ∧ x1 < ln_ h (rf_ h x0 0)) (ck_ (0 ≤ (rf_ h x0 0)) (ck_ (0 ≤ x1 ∧ x1 < ln_ h (rf_ h x0 0)) (JJ 80 6 [(17, x0), (0, x1), (0, w32 (x2 + 1)), (0, x3), (0, x4)] [] (wr_ h (rf_ h x0 0) x1 (or_ (rd_ h (rf_ h x0 0) x1) (w32 ((w32 ((w32 (x4 - 97)) + 1)) * 2 ^ ((w32 (25 - (w32 (5 * x2)))) % 32 : Int).toNat)))))))))) = _
  simp only [jt_80_6, ck_or1, ck_or2, rf_wr, ln_wr, nn_wr, rf_cp, ln_cp, nn_cp, ln_wf, nn_wf, rd_wf, nn_nw]
  try rfl))
theorem jt_80_4 (h : am_H) (d2 d4 : am_V) (x0 x1 x3 : Int) : JJ 80 4 [(17, x0), (0, x1), d2, (0, x3), d4] [] h = Tk_new_1 h x0 (w32 (x1 + 1)) 0 (w32 (x3 + 1)) := (jj_of bk_80_4 _ _ h).trans ((ff_of bk_80_4 [(17, x0), (0, x1), (9, 0), (0, x3), (9, 0)] [] h).trans (by
  show (JJ 80 6 [(17, x0), (0, w32 (x1 + 1)), (0, 0), (0, x3), (9, 0)] [] h) = _
  simp only [jt_80_6, ck_or1, ck_or2, rf_wr, ln_wr, nn_wr, rf_cp, ln_cp, nn_cp, ln_wf, nn_wf, rd_wf, nn_nw]
  try rfl))
theorem jt_80_3 (h : am_H) (d4 : am_V) (x0 x1 x2 x3 : Int) : JJ 80 3 [(17, x0), (0, x1), (0, x2), (0, x3), d4] [] h = bd_ (Js_charAt h x3) fun h1 v2 => if v2 ≠ 32 then ck_ (0 ≤ x0) (ck_ (0 ≤ (rf_ h1 x0 0)) (ck_ (0 ≤ x1 ∧ x1 < ln_ h1 (rf_ h1 x0 0)) (ck_ (0 ≤ (rf_ h1 x0 0)) (ck_ (0 ≤ x1 ∧ x1 < ln_ h1 (rf_ h1 x0 0)) (Tk_new_1 (wr_ h1 (rf_ h1 x0 0) x1 (or_ (rd_ h1 (rf_ h1 x0 0) x1) (w32 ((w32 ((w32 (v2 - 97)) + 1)) * 2 ^ ((w32 (25 - (w32 (5 * x2)))) % 32 : Int).toNat)))) x0 x1 (w32 (x2 + 1)) (w32 (x3 + 1))))))) else Tk_new_1 h1 x0 (w32 (x1 + 1)) 0 (w32 (x3 + 1)) := (jj_of bk_80_3 _ _ h).trans ((ff_of bk_80_3 [(17, x0), (0, x1), (0, x2), (0, x3), (9, 0)] [] h).trans (by
  show (bd_ (CC 77 [(6, 0), (0, x3)] h) fun h1 v2 => if v2 ≠ 32 then JJ 80 5 [(17, x0), (0, x1), (0, x2), (0, x3), (0, v2)] [] h1 else JJ 80 4 [(17, x0), (0, x1), (0, x2), (0, x3), (0, v2)] [] h1) = _
  simp only [cc_77, jt_80_4, jt_80_5, ck_or1, ck_or2, rf_wr, ln_wr, nn_wr, rf_cp, ln_cp, nn_cp, ln_wf, nn_wf, rd_wf, nn_nw]
  try rfl))
theorem jt_80_2 (h : am_H) (d4 : am_V) (x0 x1 x2 x3 : Int) : JJ 80 2 [(17, x0), (0, x1), (0, x2), (0, x3), d4] [] h = if 20 ≤ x1 then some (h, 0) else bd_ (Js_charAt h x3) fun h1 v2 => if v2 ≠ 32 then ck_ (0 ≤ x0) (ck_ (0 ≤ (rf_ h1 x0 0)) (ck_ (0 ≤ x1 ∧ x1 < ln_ h1 (rf_ h1 x0 0)) (ck_ (0 ≤ (rf_ h1 x0 0)) (ck_ (0 ≤ x1 ∧ x1 < ln_ h1 (rf_ h1 x0 0)) (Tk_new_1 (wr_ h1 (rf_ h1 x0 0) x1 (or_ (rd_ h1 (rf_ h1 x0 0) x1) (w32 ((w32 ((w32 (v2 - 97)) + 1)) * 2 ^ ((w32 (25 - (w32 (5 * x2)))) % 32 : Int).toNat)))) x0 x1 (w32 (x2 + 1)) (w32 (x3 + 1))))))) else Tk_new_1 h1 x0 (w32 (x1 + 1)) 0 (w32 (x3 + 1)) := (jj_of bk_80_2 _ _ h).trans ((ff_of bk_80_2 [(17, x0), (0, x1), (0, x2), (0, x3), (9, 0)] [] h).trans (by
  show (if 20 ≤ x1 then JJ 80 7 [(17, x0), (0, x1), (0, x2), (0, x3), (9, 0)] [] h else JJ 80 3 [(17, x0), (0, x1), (0, x2), (0, x3), (9, 0)] [] h) = _
  simp only [jt_80_3, jt_80_7, ck_or1, ck_or2, rf_wr, ln_wr, nn_wr, rf_cp, ln_cp, nn_cp, ln_wf, nn_wf, rd_wf, nn_nw]
  try rfl))
theorem Tk_new_1_e (h : am_H) (x0 x1 x2 x3 : Int) : Tk_new_1 h x0 x1 x2 x3 = bd_ (Js_length h) fun h1 v2 => if v2 ≤ x3 then some (h1, 0) else if 20 ≤ x1 then some (h1, 0) else bd_ (Js_charAt h1 x3) fun h3 v4 => if v4 ≠ 32 then ck_ (0 ≤ x0) (ck_ (0 ≤ (rf_ h3 x0 0)) (ck_ (0 ≤ x1 ∧ x1 < ln_ h3 (rf_ h3 x0 0)) (ck_ (0 ≤ (rf_ h3 x0 0)) (ck_ (0 ≤ x1 ∧ x1 < ln_ h3 (rf_ h3 x0 0)) (Tk_new_1 (wr_ h3 (rf_ h3 x0 0) x1 (or_ (rd_ h3 (rf_ h3 x0 0) x1) (w32 ((w32 ((w32 (v4 - 97)) + 1)) * 2 ^ ((w32 (25 - (w32 (5 * x2)))) % 32 : Int).toNat)))) x0 x1 (w32 (x2 + 1)) (w32 (x3 + 1))))))) else Tk_new_1 h3 x0 (w32 (x1 + 1)) 0 (w32 (x3 + 1)) := (ff_of bk_80_1 [(17, x0), (0, x1), (0, x2), (0, x3), (9, 0)] [] h).trans (by
  show (bd_ (CC 79 [(6, 0)] h) fun h1 v2 => if v2 ≤ x3 then JJ 80 7 [(17, x0), (0, x1), (0, x2), (0, x3), (9, 0)] [] h1 else JJ 80 2 [(17, x0), (0, x1), (0, x2), (0, x3), (9, 0)] [] h1) = _
  simp only [cc_79, jt_80_2, jt_80_7, ck_or1, ck_or2, rf_wr, ln_wr, nn_wr, rf_cp, ln_cp, nn_cp, ln_wf, nn_wf, rd_wf, nn_nw]
  try rfl)
theorem cc_80 (h : am_H) (x0 : Int) : CC 80 [(17, x0)] h = Tk_new h x0 := cc_of pk_80 _ h
theorem pk_81 : am_prog 81 = some cd_81 := rfl
theorem bk_81_0 : bk_ am_prog 81 0 = some ([true], (bl_81_0, 9999)) := bk_of pk_81 rfl
theorem Re_new_e (h : am_H) (x0 : Int) : Re_new h x0 = ck_ (0 ≤ x0) (ck_ (0 ≤ (nn_ h)) (bd_ (Tk_new (nw_ h 7 7) (nn_ h)) fun h1 _ => ck_ (0 ≤ x0) (ck_ (0 ≤ (nn_ h1)) (bd_ (Fo_new (nw_ (wf_ h1 x0 0 (nn_ h)) 2 9) (nn_ h1)) fun h3 _ => ck_ (0 ≤ x0) (ck_ (0 ≤ x0) (some (wf_ (wf_ h3 x0 1 (nn_ h1)) x0 2 (-1), 0))))))) := (ff_of bk_81_0 [(15, x0)] [] h).trans (by
  show (ck_ (0 ≤ x0) (ck_ (0 ≤ (nn_ h)) (bd_ (CC 80 [(17, nn_ h)] (nw_ h 7 7)) fun h1 _ => ck_ (0 ≤ x0) (ck_ (0 ≤ (nn_ h1)) (bd_ (CC 29 [(12, nn_ h1)] (nw_ (wf_ h1 x0 0 (nn_ h)) 2 9)) fun h3 _ => ck_ (0 ≤ x0) (ck_ (0 ≤ x0) (some (wf_ (wf_ h3 x0 1 (nn_ h1)) x0 2 (-1), 0)))))))) = _
  simp only [cc_29, cc_80, ck_or1, ck_or2, rf_wr, ln_wr, nn_wr, rf_cp, ln_cp, nn_cp, ln_wf, nn_wf, rd_wf, nn_nw]
  try rfl)
theorem cc_81 (h : am_H) (x0 : Int) : CC 81 [(15, x0)] h = Re_new h x0 := cc_of pk_81 _ h
theorem pk_82 : am_prog 82 = some cd_82 := rfl
theorem bk_82_0 : bk_ am_prog 82 0 = some ([true], (bl_82_0, 9999)) := bk_of pk_82 rfl
theorem Re_place_e (h : am_H) (x0 : Int) : Re_place h x0 = ck_ (0 ≤ x0) (ck_ (0 ≤ (rf_ h x0 0)) (some (h, rd_ h (rf_ h x0 0) 5))) := ff_of bk_82_0 [(15, x0)] [] h
theorem cc_82 (h : am_H) (x0 : Int) : CC 82 [(15, x0)] h = Re_place h x0 := cc_of pk_82 _ h
theorem pk_83 : am_prog 83 = some cd_83 := rfl
theorem bk_83_0 : bk_ am_prog 83 0 = some ([true, true, true], (bl_83_0, 9999)) := bk_of pk_83 rfl
theorem bk_83_1 : bk_ am_prog 83 1 = some ([false, false, false], (bl_83_1, 9999)) := bk_of pk_83 rfl
theorem bk_83_2 : bk_ am_prog 83 2 = some ([true, true, true], (bl_83_2, 9999)) := bk_of pk_83 rfl
theorem bk_83_3 : bk_ am_prog 83 3 = some ([true, false, true], (bl_83_3, 9999)) := bk_of pk_83 rfl
theorem bk_83_4 : bk_ am_prog 83 4 = some ([false, false, false], (bl_83_4, 9999)) := bk_of pk_83 rfl
theorem bk_83_5 : bk_ am_prog 83 5 = some ([false, false, false], (bl_83_5, 6)) := bk_of pk_83 rfl
theorem bk_83_6 : bk_ am_prog 83 6 = some ([false, false, false], (bl_83_6, 9999)) := bk_of pk_83 rfl
theorem jt_83_6 (h : am_H) (d0 d1 d2 : am_V) (s0 : Int) : JJ 83 6 [d0, d1, d2] [(0, s0)] h = some (h, s0) := (jj_of bk_83_6 _ _ h).trans (ff_of bk_83_6 [(9, 0), (9, 0), (9, 0)] [(0, s0)] h)
theorem jt_83_4 (h : am_H) (d0 d1 d2 : am_V) : JJ 83 4 [d0, d1, d2] [] h = some (h, 2) := (jj_of bk_83_4 _ _ h).trans ((ff_of bk_83_4 [(9, 0), (9, 0), (9, 0)] [] h).trans (by
  show (JJ 83 6 [(9, 0), (9, 0), (9, 0)] [(0, 2)] h) = _
  simp only [jt_83_6, ck_or1, ck_or2, rf_wr, ln_wr, nn_wr, rf_cp, ln_cp, nn_cp, ln_wf, nn_wf, rd_wf, nn_nw]
  try rfl))
theorem jt_83_5 (h : am_H) (d0 d1 d2 : am_V) : JJ 83 5 [d0, d1, d2] [] h = some (h, 0) := (jj_of bk_83_5 _ _ h).trans ((ff_of bk_83_5 [(9, 0), (9, 0), (9, 0)] [] h).trans (by
  show (JJ 83 6 [(9, 0), (9, 0), (9, 0)] [(0, 0)] h) = _
  simp only [jt_83_6, ck_or1, ck_or2, rf_wr, ln_wr, nn_wr, rf_cp, ln_cp, nn_cp, ln_wf, nn_wf, rd_wf, nn_nw]
  try rfl))
theorem jt_83_3 (h : am_H) (d1 : am_V) (x0 x2 : Int) : JJ 83 3 [(15, x0), d1, (0, x2)] [] h = ck_ (0 ≤ x0) (ck_ (0 ≤ (rf_ h x0 0)) (if (rd_ h (rf_ h x0 0) 6) ≤ x2 then some (h, 0) else some (h, 2))) := (jj_of bk_83_3 _ _ h).trans ((ff_of bk_83_3 [(15, x0), (9, 0), (0, x2)] [] h).trans (by
  show (ck_ (0 ≤ x0) (ck_ (0 ≤ (rf_ h x0 0)) (if (rd_ h (rf_ h x0 0) 6) ≤ x2 then JJ 83 5 [(15, x0), (9, 0), (0, x2)] [] h else JJ 83 4 [(15, x0), (9, 0), (0, x2)] [] h))) = _
  simp only [jt_83_4, jt_83_5, ck_or1, ck_or2, rf_wr, ln_wr, nn_wr, rf_cp, ln_cp, nn_cp, ln_wf, nn_wf, rd_wf, nn_nw]
  try rfl))
theorem jt_83_2 (h : am_H) (x0 x1 x2 : Int) : JJ 83 2 [(15, x0), (0, x1), (0, x2)] [] h = ck_ (0 ≤ x0) (ck_ (0 ≤ (rf_ h x0 0)) (if (rd_ h (rf_ h x0 0) 6) < x1 then some (h, 2) else ck_ (0 ≤ x0) (ck_ (0 ≤ (rf_ h x0 0)) (if (rd_ h (rf_ h x0 0) 6) ≤ x2 then some (h, 0) else some (h, 2))))) := (jj_of bk_83_2 _ _ h).trans ((ff_of bk_83_2 [(15, x0), (0, x1), (0, x2)] [] h).trans (by
  show (ck_ (0 ≤ x0) (ck_ (0 ≤ (rf_ h x0 0)) (if (rd_ h (rf_ h x0 0) 6) < x1 then JJ 83 4 [(15, x0), (0, x1), (0, x2)] [] h else JJ 83 3 [(15, x0), (0, x1), (0, x2)] [] h))) = _
  simp only [jt_83_3, jt_83_4, ck_or1, ck_or2, rf_wr, ln_wr, nn_wr, rf_cp, ln_cp, nn_cp, ln_wf, nn_wf, rd_wf, nn_nw]
  try rfl))
theorem jt_83_1 (h : am_H) (d0 d1 d2 : am_V) : JJ 83 1 [d0, d1, d2] [] h = some (h, 1) := (jj_of bk_83_1 _ _ h).trans (ff_of bk_83_1 [(9, 0), (9, 0), (9, 0)] [] h)
theorem Re_readNumber_e (h : am_H) (x0 x1 x2 : Int) : Re_readNumber h x0 x1 x2 = ck_ (0 ≤ x0) (ck_ (0 ≤ (rf_ h x0 0)) (bd_ (Tk_step h (rf_ h x0 0)) fun h1 _ => ck_ (0 ≤ x0) (ck_ (0 ≤ (rf_ h1 x0 0)) (if (rd_ h1 (rf_ h1 x0 0) 4) = 2 then ck_ (0 ≤ x0) (ck_ (0 ≤ (rf_ h1 x0 0)) (if (rd_ h1 (rf_ h1 x0 0) 6) < x1 then some (h1, 2) else ck_ (0 ≤ x0) (ck_ (0 ≤ (rf_ h1 x0 0)) (if (rd_ h1 (rf_ h1 x0 0) 6) ≤ x2 then some (h1, 0) else some (h1, 2))))) else some (h1, 1))))) := (ff_of bk_83_0 [(15, x0), (0, x1), (0, x2)] [] h).trans (by
  show (ck_ (0 ≤ x0) (ck_ (0 ≤ (rf_ h x0 0)) (bd_ (CC 43 [(17, rf_ h x0 0)] h) fun h1 _ => ck_ (0 ≤ x0) (ck_ (0 ≤ (rf_ h1 x0 0)) (if (rd_ h1 (rf_ h1 x0 0) 4) = 2 then JJ 83 2 [(15, x0), (0, x1), (0, x2)] [] h1 else JJ 83 1 [(15, x0), (0, x1), (0, x2)] [] h1))))) = _
  simp only [cc_43, jt_83_1, jt_83_2, ck_or1, ck_or2, rf_wr, ln_wr, nn_wr, rf_cp, ln_cp, nn_cp, ln_wf, nn_wf, rd_wf, nn_nw]
  try rfl)
theorem cc_83 (h : am_H) (x0 x1 x2 : Int) : CC 83 [(15, x0), (0, x1), (0, x2)] h = Re_readNumber h x0 x1 x2 := cc_of pk_83 _ h
theorem pk_84 : am_prog 84 = some cd_84 := rfl
theorem bk_84_0 : bk_ am_prog 84 0 = some ([true], (bl_84_0, 9999)) := bk_of pk_84 rfl
theorem bk_84_1 : bk_ am_prog 84 1 = some ([false], (bl_84_1, 9999)) := bk_of pk_84 rfl
theorem bk_84_2 : bk_ am_prog 84 2 = some ([false], (bl_84_2, 3)) := bk_of pk_84 rfl
theorem bk_84_3 : bk_ am_prog 84 3 = some ([false], (bl_84_3, 9999)) := bk_of pk_84 rfl
theorem jt_84_3 (h : am_H) (d0 : am_V) (s0 : Int) : JJ 84 3 [d0] [(0, s0)] h = some (h, s0) := (jj_of bk_84_3 _ _ h).trans (ff_of bk_84_3 [(9, 0)] [(0, s0)] h)
theorem jt_84_2 (h : am_H) (d0 : am_V) : JJ 84 2 [d0] [] h = some (h, 1) := (jj_of bk_84_2 _ _ h).trans ((ff_of bk_84_2 [(9, 0)] [] h).trans (by
  show (JJ 84 3 [(9, 0)] [(0, 1)] h) = _
  simp only [jt_84_3, ck_or1, ck_or2, rf_wr, ln_wr, nn_wr, rf_cp, ln_cp, nn_cp, ln_wf, nn_wf, rd_wf, nn_nw]
  try rfl))
theorem jt_84_1 (h : am_H) (d0 : am_V) : JJ 84 1 [d0] [] h = some (h, 0) := (jj_of bk_84_1 _ _ h).trans ((ff_of bk_84_1 [(9, 0)] [] h).trans (by
  show (JJ 84 3 [(9, 0)] [(0, 0)] h) = _
  simp only [jt_84_3, ck_or1, ck_or2, rf_wr, ln_wr, nn_wr, rf_cp, ln_cp, nn_cp, ln_wf, nn_wf, rd_wf, nn_nw]
  try rfl))
theorem Re_readSemicolon_e (h : am_H) (x0 : Int) : Re_readSemicolon h x0 = ck_ (0 ≤ x0) (ck_ (0 ≤ (rf_ h x0 0)) (bd_ (Tk_step h (rf_ h x0 0)) fun h1 _ => ck_ (0 ≤ x0) (ck_ (0 ≤ (rf_ h1 x0 0)) (if (rd_ h1 (rf_ h1 x0 0) 4) ≠ 42 then some (h1, 1) else some (h1, 0))))) := (ff_of bk_84_0 [(15, x0)] [] h).trans (by
  show (ck_ (0 ≤ x0) (ck_ (0 ≤ (rf_ h x0 0)) (bd_ (CC 43 [(17, rf_ h x0 0)] h) fun h1 _ => ck_ (0 ≤ x0) (ck_ (0 ≤ (rf_ h1 x0 0)) (if (rd_ h1 (rf_ h1 x0 0) 4) ≠ 42 then JJ 84 2 [(15, x0)] [] h1 else JJ 84 1 [(15, x0)] [] h1))))) = _
  simp only [cc_43, jt_84_1, jt_84_2, ck_or1, ck_or2, rf_wr, ln_wr, nn_wr, rf_cp, ln_cp, nn_cp, ln_wf, nn_wf, rd_wf, nn_nw]
  try rfl)
theorem cc_84 (h : am_H) (x0 : Int) : CC 84 [(15, x0)] h = Re_readSemicolon h x0 := cc_of pk_84 _ h
theorem pk_85 : am_prog 85 = some cd_85 := rfl
theorem bk_85_0 : bk_ am_prog 85 0 = some ([true, false], (bl_85_0, 9999)) := bk_of pk_85 rfl
theorem bk_85_1 : bk_ am_prog 85 1 = some ([false, false], (bl_85_1, 9999)) := bk_of pk_85 rfl
theorem bk_85_2 : bk_ am_prog 85 2 = some ([true, false], (bl_85_2, 9999)) := bk_of pk_85 rfl
theorem bk_85_3 : bk_ am_prog 85 3 = some ([false, true], (bl_85_3, 9999)) := bk_of pk_85 rfl
theorem bk_85_4 : bk_ am_prog 85 4 = some ([true, false], (bl_85_4, 9999)) := bk_of pk_85 rfl
theorem jt_85_4 (h : am_H) (d1 : am_V) (x0 : Int) : JJ 85 4 [(15, x0), d1] [] h = ck_ (0 ≤ x0) (ck_ (0 ≤ x0) (ck_ (0 ≤ (rf_ h x0 0)) (ck_ (0 ≤ (rf_ h x0 2)) (ck_ (0 ≤ x0) (ck_ (0 ≤ (rf_ h x0 2)) (ck_ (0 ≤ x0) (bd_ (Re_readSemicolon (wr_ (wr_ h (rf_ h x0 2) 2 (rd_ h (rf_ h x0 0) 6)) (rf_ h x0 2) 4 1) x0) fun h1 v2 => some (h1, v2)))))))) := (jj_of bk_85_4 _ _ h).trans ((ff_of bk_85_4 [(15, x0), (9, 0)] [] h).trans (by
  show (ck_ (0 ≤ x0) (ck_ (0 ≤ x0) (ck_ (0 ≤ (rf_ h x0 0)) (ck_ (0 ≤ (rf_ h x0 2)) (ck_ (0 ≤ x0) (ck_ (0 ≤ (rf_ h x0 2)) (ck_ (0 ≤ x0) (bd_ (CC 84 [(15, x0)] (wr_ (wr_ h (rf_ h x0 2) 2 (rd_ h (rf_ h x0 0) 6)) (rf_ h x0 2) 4 1)) fun h1 v2 => some (h1, v2))))))))) = _
  simp only [cc_84, ck_or1, ck_or2, rf_wr, ln_wr, nn_wr, rf_cp, ln_cp, nn_cp, ln_wf, nn_wf, rd_wf, nn_nw]
  try rfl))
theorem jt_85_3 (h : am_H) (d0 : am_V) (x1 : Int) : JJ 85 3 [d0, (0, x1)] [] h = some (h, x1) := (jj_of bk_85_3 _ _ h).trans (ff_of bk_85_3 [(9, 0), (0, x1)] [] h)
theorem jt_85_2 (h : am_H) (d1 : am_V) (x0 : Int) : JJ 85 2 [(15, x0), d1] [] h = ck_ (0 ≤ x0) (bd_ (Re_readNumber h x0 0 100) fun h1 v2 => if v2 = 0 then ck_ (0 ≤ x0) (ck_ (0 ≤ x0) (ck_ (0 ≤ (rf_ h1 x0 0)) (ck_ (0 ≤ (rf_ h1 x0 2)) (ck_ (0 ≤ x0) (ck_ (0 ≤ (rf_ h1 x0 2)) (ck_ (0 ≤ x0) (bd_ (Re_readSemicolon (wr_ (wr_ h1 (rf_ h1 x0 2) 2 (rd_ h1 (rf_ h1 x0 0) 6)) (rf_ h1 x0 2) 4 1) x0) fun h3 v4 => some (h3, v4)))))))) else some (h1, v2)) := (jj_of bk_85_2 _ _ h).trans ((ff_of bk_85_2 [(15, x0), (9, 0)] [] h).trans (by
  show (ck_ (0 ≤ x0) (bd_ (CC 83 [(15, x0), (0, 0), (0, 100)] h) fun h1 v2 => if v2 = 0 then JJ 85 4 [(15, x0), (0, v2)] [] h1 else JJ 85 3 [(15, x0), (0, v2)] [] h1)) = _
  simp only [cc_83, jt_85_3, jt_85_4, ck_or1, ck_or2, rf_wr, ln_wr, nn_wr, rf_cp, ln_cp, nn_cp, ln_wf, nn_wf, rd_wf, nn_nw]
  try rfl))
theorem jt_85_1 (h : am_H) (d0 d1 : am_V) : JJ 85 1 [d0, d1] [] h = some (h, 3) := (jj_of bk_85_1 _ _ h).trans (ff_of bk_85_1 [(9, 0), (9, 0)] [] h)
theorem Re_readChip_e (h : am_H) (x0 : Int) : Re_readChip h x0 = ck_ (0 ≤ x0) (ck_ (0 ≤ (rf_ h x0 2)) (if (rd_ h (rf_ h x0 2) 4) = 0 then ck_ (0 ≤ x0) (bd_ (Re_readNumber h x0 0 100) fun h1 v2 => if v2 = 0 then ck_ (0 ≤ x0) (ck_ (0 ≤ x0) (ck_ (0 ≤ (rf_ h1 x0 0)) (ck_ (0 ≤ (rf_ h1 x0 2)) (ck_ (0 ≤ x0) (ck_ (0 ≤ (rf_ h1 x0 2)) (ck_ (0 ≤ x0) (bd_ (Re_readSemicolon (wr_ (wr_ h1 (rf_ h1 x0 2) 2 (rd_ h1 (rf_ h1 x0 0) 6)) (rf_ h1 x0 2) 4 1) x0) fun h3 v4 => some (h3, v4)))))))) else some (h1, v2)) else some (h, 3))) := (ff_of bk_85_0 [(15, x0), (9, 0)] [] h).trans (by
  show (ck_ (0 ≤ x0) (ck_ (0 ≤ (rf_ h x0 2)) (if (rd_ h (rf_ h x0 2) 4) = 0 then JJ 85 2 [(15, x0), (9, 0)] [] h else JJ 85 1 [(15, x0), (9, 0)] [] h))) = _
  simp only [jt_85_1, jt_85_2, ck_or1, ck_or2, rf_wr, ln_wr, nn_wr, rf_cp, ln_cp, nn_cp, ln_wf, nn_wf, rd_wf, nn_nw]
  try rfl)
theorem cc_85 (h : am_H) (x0 : Int) : CC 85 [(15, x0)] h = Re_readChip h x0 := cc_of pk_85 _ h
theorem pk_86 : am_prog 86 = some cd_86 := rfl
theorem bk_86_0 : bk_ am_prog 86 0 = some ([true, false, false, false], (bl_86_0, 9999)) := bk_of pk_86 rfl
theorem bk_86_1 : bk_ am_prog 86 1 = some ([true, false, false, false], (bl_86_1, 9999)) := bk_of pk_86 rfl
theorem bk_86_2 : bk_ am_prog 86 2 = some ([false, false, false, false], (bl_86_2, 9999)) := bk_of pk_86 rfl
theorem bk_86_3 : bk_ am_prog 86 3 = some ([true, false, false, false], (bl_86_3, 9999)) := bk_of pk_86 rfl
theorem bk_86_4 : bk_ am_prog 86 4 = some ([false, false, false, false], (bl_86_4, 9999)) := bk_of pk_86 rfl
theorem bk_86_5 : bk_ am_prog 86 5 = some ([true, true, false, false], (bl_86_5, 9999)) := bk_of pk_86 rfl
theorem jt_86_2 (h : am_H) (d0 d1 d2 d3 : am_V) : JJ 86 2 [d0, d1, d2, d3] [] h = some (h, 1) := (jj_of bk_86_2 _ _ h).trans (ff_of bk_86_2 [(9, 0), (9, 0), (9, 0), (9, 0)] [] h)
set_option maxRecDepth 20000 in
theorem jt_86_5 (h : am_H) (d2 d3 : am_V) (x0 x1 : Int) : JJ 86 5 [(15, x0), (0, x1), d2, d3] [] h = ck_ (0 ≤ x0) (ck_ (0 ≤ (rf_ h x0 2)) (ck_ (0 ≤ x0) (ck_ (0 ≤ x0) (ck_ (0 ≤ x0) (ck_ (0 ≤ (rf_ h x0 1)) (bd_ (Fo_read h (rf_ h x0 1) (rf_ h x0 0) (rf_ h x0 2)) fun h1 v2 => ck_ (0 ≤ x0) (ck_ (0 ≤ (rf_ h1 x0 2)) (ck_ (0 ≤ (rf_ h1 (rf_ h1 x0 2) 15)) (ck_ (0 ≤ x1 ∧ x1 < ln_ h1 (rf_ h1 (rf_ h1 x0 2) 15)) (ck_ (0 ≤ x0) (ck_ (0 ≤ (rf_ h1 x0 2)) (ck_ (0 ≤ x0) (ck_ (0 ≤ (rf_ h1 x0 2)) (ck_ (0 ≤ (rf_ h1 (rf_ h1 x0 2) 16)) (ck_ (0 ≤ x1 ∧ x1 < ln_ h1 (rf_ h1 (rf_ h1 x0 2) 16)) (some (wr_ (wr_ h1 (rf_ h1 (rf_ h1 x0 2) 15) x1 (rd_ h (rf_ h x0 2) 3)) (rf_ h1 (rf_ h1 x0 2) 16) x1 (rd_ (wr_ h1 (rf_ h1 (rf_ h1 x0 2) 15) x1 (rd_ h (rf_ h x0 2) 3)) (rf_ h1 x0 2) 3), v2))))))))))))))))) := (jj_of bk_86_5 _ _ h).trans ((ff_of bk_86_5 [(15, x0), (0, x1), (9, 0), (9, 0)] [] h).trans (by
  show (ck_ (0 ≤ x0) (ck_ (0 ≤ (rf_ h x0 2)) (ck_ (0 ≤ x0) (ck_ (0 ≤ x0) (ck_ (0 ≤ x0) (ck_ (0 ≤ (rf_ h x0 1)) (bd_ (CC 44 [(12, rf_ h x0 1), (17, rf_ h x0 0), (18, rf_ h x0 2)] h) fun h1 v2 => ck_ (0 ≤ x0) (ck_ (0 ≤ (rf_ h1 x0 2)) (ck_ (0 ≤ (rf_ h1 (rf_ h1 x0 2) 15)) (ck_ (0 ≤ x1 ∧ x1 < ln_ h1 (rf_ h1 (rf_ h1 x0 2) 15)) (ck_ (0 ≤ x0) (ck_ (0 ≤ (rf_ h1 x0 2)) (ck_ (0 ≤ x0) (ck_ (0 ≤ (rf_ h1 x0 2)) (ck_ (0 ≤ (rf_ h1 (rf_ h1 x0 2) 16)) (ck_ (0 ≤ x1 ∧ x1 < ln_ h1 (rf_ h1 (rf_ h1 x0 2) 16)) (some (wr_ (wr_ h1 (rf_ h1 (rf_ h1 x0 2) 15) x1 (rd_ h (rf_ h x0 2) 3)) (rf_ h1 (rf_ h1 x0 2) 16) x1 (rd_ (wr_ h1 (rf_ h1 (rf_ h1 x0 2) 15) x1 (rd_ h (rf_ h x0 2) 3)) (rf_ h1 x0 2) 3), v2)))))))))))))))))) = _
  simp only [cc_44, ck_or1, ck_or2, rf_wr, ln_wr, nn_wr, rf_cp, ln_cp, nn_cp, ln_wf, nn_wf, rd_wf, nn_nw]
  try rfl))
theorem jt_86_4 (h : am_H) (d0 d1 d2 d3 : am_V) : JJ 86 4 [d0, d1, d2, d3] [] h = some (h, 3) := (jj_of bk_86_4 _ _ h).trans (ff_of bk_86_4 [(9, 0), (9, 0), (9, 0), (9, 0)] [] h)
set_option maxRecDepth 20000 in
theorem jt_86_3 (h : am_H) (d1 d2 d3 : am_V) (x0 : Int) : JJ 86 3 [(15, x0), d1, d2, d3] [] h = ck_ (0 ≤ x0) (ck_ (0 ≤ (rf_ h x0 0)) (ck_ (0 ≤ x0) (ck_ (0 ≤ (rf_ h x0 2)) (bd_ (To_hasLaw h (rf_ h x0 2) (w32 ((rd_ h (rf_ h x0 0) 4) - 17))) fun h1 v2 => if v2 = 0 then ck_ (0 ≤ x0) (ck_ (0 ≤ (rf_ h1 x0 2)) (ck_ (0 ≤ x0) (ck_ (0 ≤ x0) (ck_ (0 ≤ x0) (ck_ (0 ≤ (rf_ h1 x0 1)) (bd_ (Fo_read h1 (rf_ h1 x0 1) (rf_ h1 x0 0) (rf_ h1 x0 2)) fun h3 v4 => ck_ (0 ≤ x0) (ck_ (0 ≤ (rf_ h3 x0 2)) (ck_ (0 ≤ (rf_ h3 (rf_ h3 x0 2) 15)) (ck_ (0 ≤ (w32 ((rd_ h (rf_ h x0 0) 4) - 17)) ∧ (w32 ((rd_ h (rf_ h x0 0) 4) - 17)) < ln_ h3 (rf_ h3 (rf_ h3 x0 2) 15)) (ck_ (0 ≤ x0) (ck_ (0 ≤ (rf_ h3 x0 2)) (ck_ (0 ≤ x0) (ck_ (0 ≤ (rf_ h3 x0 2)) (ck_ (0 ≤ (rf_ h3 (rf_ h3 x0 2) 16)) (ck_ (0 ≤ (w32 ((rd_ h (rf_ h x0 0) 4) - 17)) ∧ (w32 ((rd_ h (rf_ h x0 0) 4) - 17)) < ln_ h3 (rf_ h3 (rf_ h3 x0 2) 16)) (some (wr_ (wr_ h3 (rf_ h3 (rf_ h3 x0 2) 15) (w32 ((rd_ h (rf_ h x0 0) 4) - 17)) (rd_ h1 (rf_ h1 x0 2) 3)) (rf_ h3 (rf_ h3 x0 2) 16) (w32 ((rd_ h (rf_ h x0 0) 4) - 17)) (rd_ (wr_ h3 (rf_ h3 (rf_ h3 x0 2) 15) (w32 ((rd_ h (rf_ h x0 0) 4) - 17)) (rd_ h1 (rf_ h1 x0 2) 3)) (rf_ h3 x0 2) 3), v4))))))))))))))))) else some (h1, 3))))) := (jj_of bk_86_3 _ _ h).trans ((ff_of bk_86_3 [(15, x0), (9, 0), (9, 0), (9, 0)] [] h).trans (by
  show (ck_ (0 ≤ x0) (ck_ (0 ≤ (rf_ h x0 0)) (ck_ (0 ≤ x0) (ck_ (0 ≤ (rf_ h x0 2)) (bd_ (CC 58 [(18, rf_ h x0 2), (0, w32 ((rd_ h (rf_ h x0 0) 4) - 17))] h) fun h1 v2 => if v2 = 0 then JJ 86 5 [(15, x0), (0, w32 ((rd_ h (rf_ h x0 0) 4) - 17)), (9, 0), (9, 0)] [] h1 else JJ 86 4 [(15, x0), (0, w32 ((rd_ h (rf_ h x0 0) 4) - 17)), (9, 0), (9, 0)] [] h1))))) = _
  simp only [cc_58, jt_86_4, jt_86_5, ck_or1, ck_or2, rf_wr, ln_wr, nn_wr, rf_cp, ln_cp, nn_cp, ln_wf, nn_wf, rd_wf, nn_nw]
  try rfl))
set_option maxRecDepth 20000 in
theorem jt_86_1 (h : am_H) (d1 d2 d3 : am_V) (x0 : Int) : JJ 86 1 [(15, x0), d1, d2, d3] [] h = ck_ (0 ≤ x0) (ck_ (0 ≤ (rf_ h x0 0)) (if (rd_ h (rf_ h x0 0) 4) ≤ 19 then ck_ (0 ≤ x0) (ck_ (0 ≤ (rf_ h x0 0)) (ck_ (0 ≤ x0) (ck_ (0 ≤ (rf_ h x0 2)) (bd_ (To_hasLaw h (rf_ h x0 2) (w32 ((rd_ h (rf_ h x0 0) 4) - 17))) fun h1 v2 => if v2 = 0 then ck_ (0 ≤ x0) (ck_ (0 ≤ (rf_ h1 x0 2)) (ck_ (0 ≤ x0) (ck_ (0 ≤ x0) (ck_ (0 ≤ x0) (ck_ (0 ≤ (rf_ h1 x0 1)) (bd_ (Fo_read h1 (rf_ h1 x0 1) (rf_ h1 x0 0) (rf_ h1 x0 2)) fun h3 v4 => ck_ (0 ≤ x0) (ck_ (0 ≤ (rf_ h3 x0 2)) (ck_ (0 ≤ (rf_ h3 (rf_ h3 x0 2) 15)) (ck_ (0 ≤ (w32 ((rd_ h (rf_ h x0 0) 4) - 17)) ∧ (w32 ((rd_ h (rf_ h x0 0) 4) - 17)) < ln_ h3 (rf_ h3 (rf_ h3 x0 2) 15)) (ck_ (0 ≤ x0) (ck_ (0 ≤ (rf_ h3 x0 2)) (ck_ (0 ≤ x0) (ck_ (0 ≤ (rf_ h3 x0 2)) (ck_ (0 ≤ (rf_ h3 (rf_ h3 x0 2) 16)) (ck_ (0 ≤ (w32 ((rd_ h (rf_ h x0 0) 4) - 17)) ∧ (w32 ((rd_ h (rf_ h x0 0) 4) - 17)) < ln_ h3 (rf_ h3 (rf_ h3 x0 2) 16)) (some (wr_ (wr_ h3 (rf_ h3 (rf_ h3 x0 2) 15) (w32 ((rd_ h (rf_ h x0 0) 4) - 17)) (rd_ h1 (rf_ h1 x0 2) 3)) (rf_ h3 (rf_ h3 x0 2) 16) (w32 ((rd_ h (rf_ h x0 0) 4) - 17)) (rd_ (wr_ h3 (rf_ h3 (rf_ h3 x0 2) 15) (w32 ((rd_ h (rf_ h x0 0) 4) - 17)) (rd_ h1 (rf_ h1 x0 2) 3)) (rf_ h3 x0 2) 3), v4))))))))))))))))) else some (h1, 3))))) else some (h, 1))) := (jj_of bk_86_1 _ _ h).trans ((ff_of bk_86_1 [(15, x0), (9, 0), (9, 0), (9, 0)] [] h).trans (by
  show (ck_ (0 ≤ x0) (ck_ (0 ≤ (rf_ h x0 0)) (if (rd_ h (rf_ h x0 0) 4) ≤ 19 then JJ 86 3 [(15, x0), (9, 0), (9, 0), (9, 0)] [] h else JJ 86 2 [(15, x0), (9, 0), (9, 0), (9, 0)] [] h))) = _
  simp only [jt_86_2, jt_86_3, ck_or1, ck_or2, rf_wr, ln_wr, nn_wr, rf_cp, ln_cp, nn_cp, ln_wf, nn_wf, rd_wf, nn_nw]
  try rfl))
set_option maxRecDepth 20000 in
theorem Re_readLaw_e (h : am_H) (x0 : Int) : Re_readLaw h x0 = ck_ (0 ≤ x0) (ck_ (0 ≤ (rf_ h x0 0)) (bd_ (Tk_step h (rf_ h x0 0)) fun h1 _ => ck_ (0 ≤ x0) (ck_ (0 ≤ (rf_ h1 x0 0)) (if (rd_ h1 (rf_ h1 x0 0) 4) < 17 then some (h1, 1) else ck_ (0 ≤ x0) (ck_ (0 ≤ (rf_ h1 x0 0)) (if (rd_ h1 (rf_ h1 x0 0) 4) ≤ 19 then ck_ (0 ≤ x0) (ck_ (0 ≤ (rf_ h1 x0 0)) (ck_ (0 ≤ x0) (ck_ (0 ≤ (rf_ h1 x0 2)) (bd_ (To_hasLaw h1 (rf_ h1 x0 2) (w32 ((rd_ h1 (rf_ h1 x0 0) 4) - 17))) fun h3 v4 => if v4 = 0 then ck_ (0 ≤ x0) (ck_ (0 ≤ (rf_ h3 x0 2)) (ck_ (0 ≤ x0) (ck_ (0 ≤ x0) (ck_ (0 ≤ x0) (ck_ (0 ≤ (rf_ h3 x0 1)) (bd_ (Fo_read h3 (rf_ h3 x0 1) (rf_ h3 x0 0) (rf_ h3 x0 2)) fun h5 v6 => ck_ (0 ≤ x0) (ck_ (0 ≤ (rf_ h5 x0 2)) (ck_ (0 ≤ (rf_ h5 (rf_ h5 x0 2) 15)) (ck_ (0 ≤ (w32 ((rd_ h1 (rf_ h1 x0 0) 4) - 17)) ∧ (w32 ((rd_ h1 (rf_ h1 x0 0) 4) - 17)) < ln_ h5 (rf_ h5 (rf_ h5 x0 2) 15)) (ck_ (0 ≤ x0) (ck_ (0 ≤ (rf_ h5 x0 2)) (ck_ (0 ≤ x0) (ck_ (0 ≤ (rf_ h5 x0 2)) (ck_ (0 ≤ (rf_ h5 (rf_ h5 x0 2) 16)) (ck_ (0 ≤ (w32 ((rd_ h1 (rf_ h1 x0 0) 4) - 17)) ∧ (w32 ((rd_ h1 (rf_ h1 x0 0) 4) - 17)) < ln_ h5 (rf_ h5 (rf_ h5 x0 2) 16)) (some (wr_ (wr_ h5 (rf_ h5 (rf_ h5 x0 2) 15) (w32 ((rd_ h1 (rf_ h1 x0 0) 4) - 17)) (rd_ h3 (rf_ h3 x0 2) 3)) (rf_ h5 (rf_ h5 x0 2) 16) (w32 ((rd_ h1 (rf_ h1 x0 0) 4) - 17)) (rd_ (wr_ h5 (rf_ h5 (rf_ h5 x0 2) 15) (w32 ((rd_ h1 (rf_ h1 x0 0) 4) - 17)) (rd_ h3 (rf_ h3 x0 2) 3)) (rf_ h5 x0 2) 3), v6))))))))))))))))) else some (h3, 3))))) else some (h1, 1))))))) := (ff_of bk_86_0 [(15, x0), (9, 0), (9, 0), (9, 0)] [] h).trans (by
  show (ck_ (0 ≤ x0) (ck_ (0 ≤ (rf_ h x0 0)) (bd_ (CC 43 [(17, rf_ h x0 0)] h) fun h1 _ => ck_ (0 ≤ x0) (ck_ (0 ≤ (rf_ h1 x0 0)) (if (rd_ h1 (rf_ h1 x0 0) 4) < 17 then JJ 86 2 [(15, x0), (9, 0), (9, 0), (9, 0)] [] h1 else JJ 86 1 [(15, x0), (9, 0), (9, 0), (9, 0)] [] h1))))) = _
  simp only [cc_43, jt_86_1, jt_86_2, ck_or1, ck_or2, rf_wr, ln_wr, nn_wr, rf_cp, ln_cp, nn_cp, ln_wf, nn_wf, rd_wf, nn_nw]
  try rfl)
theorem cc_86 (h : am_H) (x0 : Int) : CC 86 [(15, x0)] h = Re_readLaw h x0 := cc_of pk_86 _ h
theorem pk_87 : am_prog 87 = some cd_87 := rfl
theorem bk_87_0 : bk_ am_prog 87 0 = some ([true], (bl_87_0, 9999)) := bk_of pk_87 rfl
theorem bk_87_1 : bk_ am_prog 87 1 = some ([true], (bl_87_1, 2)) := bk_of pk_87 rfl
theorem bk_87_2 : bk_ am_prog 87 2 = some ([false], (bl_87_2, 9999)) := bk_of pk_87 rfl
theorem jt_87_2 (h : am_H) (d0 : am_V) : JJ 87 2 [d0] [] h = some (h, 0) := (jj_of bk_87_2 _ _ h).trans (ff_of bk_87_2 [(9, 0)] [] h)
theorem jt_87_1 (h : am_H) (x0 : Int) : JJ 87 1 [(20, x0)] [] h = ck_ (0 ≤ x0) (ck_ (0 ≤ x0) (ck_ (0 ≤ (rf_ h x0 8)) (ck_ (0 ≤ (rd_ h x0 0) ∧ (rd_ h x0 0) < ln_ h (rf_ h x0 8)) (ck_ (0 ≤ x0) (ck_ (0 ≤ x0) (some (wr_ (wr_ h (rf_ h x0 8) (rd_ h x0 0) 0) x0 0 (w32 ((rd_ (wr_ h (rf_ h x0 8) (rd_ h x0 0) 0) x0 0) + 1)), 0))))))) := (jj_of bk_87_1 _ _ h).trans ((ff_of bk_87_1 [(20, x0)] [] h).trans (by
  show (ck_ (0 ≤ x0) (ck_ (0 ≤ x0) (ck_ (0 ≤ (rf_ h x0 8)) (ck_ (0 ≤ (rd_ h x0 0) ∧ (rd_ h x0 0) < ln_ h (rf_ h x0 8)) (ck_ (0 ≤ x0) (ck_ (0 ≤ x0) (JJ 87 2 [(20, x0)] [] (wr_ (wr_ h (rf_ h x0 8) (rd_ h x0 0) 0) x0 0 (w32 ((rd_ (wr_ h (rf_ h x0 8) (rd_ h x0 0) 0) x0 0) + 1)))))))))) = _
  simp only [jt_87_2, ck_or1, ck_or2, rf_wr, ln_wr, nn_wr, rf_cp, ln_cp, nn_cp, ln_wf, nn_wf, rd_wf, nn_nw]
  try rfl))
theorem Wo_addMaid_e (h : am_H) (x0 : Int) : Wo_addMaid h x0 = ck_ (0 ≤ x0) (if 4 ≤ (rd_ h x0 0) then some (h, 0) else ck_ (0 ≤ x0) (ck_ (0 ≤ x0) (ck_ (0 ≤ (rf_ h x0 8)) (ck_ (0 ≤ (rd_ h x0 0) ∧ (rd_ h x0 0) < ln_ h (rf_ h x0 8)) (ck_ (0 ≤ x0) (ck_ (0 ≤ x0) (some (wr_ (wr_ h (rf_ h x0 8) (rd_ h x0 0) 0) x0 0 (w32 ((rd_ (wr_ h (rf_ h x0 8) (rd_ h x0 0) 0) x0 0) + 1)), 0)))))))) := (ff_of bk_87_0 [(20, x0)] [] h).trans (by
  show (ck_ (0 ≤ x0) (if 4 ≤ (rd_ h x0 0) then JJ 87 2 [(20, x0)] [] h else JJ 87 1 [(20, x0)] [] h)) = _
  simp only [jt_87_1, jt_87_2, ck_or1, ck_or2, rf_wr, ln_wr, nn_wr, rf_cp, ln_cp, nn_cp, ln_wf, nn_wf, rd_wf, nn_nw]
  try rfl)
theorem cc_87 (h : am_H) (x0 : Int) : CC 87 [(20, x0)] h = Wo_addMaid h x0 := cc_of pk_87 _ h
theorem pk_88 : am_prog 88 = some cd_88 := rfl
theorem bk_88_0 : bk_ am_prog 88 0 = some ([true, true, true], (bl_88_0, 9999)) := bk_of pk_88 rfl
theorem bk_88_1 : bk_ am_prog 88 1 = some ([false, false, false], (bl_88_1, 9999)) := bk_of pk_88 rfl
theorem bk_88_2 : bk_ am_prog 88 2 = some ([true, true, true], (bl_88_2, 9999)) := bk_of pk_88 rfl
theorem bk_88_3 : bk_ am_prog 88 3 = some ([false, false, false], (bl_88_3, 9999)) := bk_of pk_88 rfl
theorem bk_88_4 : bk_ am_prog 88 4 = some ([true, true, true], (bl_88_4, 9999)) := bk_of pk_88 rfl
theorem bk_88_5 : bk_ am_prog 88 5 = some ([true, true, true], (bl_88_5, 6)) := bk_of pk_88 rfl
theorem bk_88_6 : bk_ am_prog 88 6 = some ([false, false, false], (bl_88_6, 9999)) := bk_of pk_88 rfl
theorem jt_88_6 (h : am_H) (d0 d1 d2 : am_V) : JJ 88 6 [d0, d1, d2] [] h = some (h, 0) := (jj_of bk_88_6 _ _ h).trans (ff_of bk_88_6 [(9, 0), (9, 0), (9, 0)] [] h)
theorem jt_88_5 (h : am_H) (x0 x1 x2 : Int) : JJ 88 5 [(15, x0), (30, x1), (0, x2)] [] h = ck_ (0 ≤ x0) (ck_ (0 ≤ (rf_ h x0 0)) (ck_ (0 ≤ x1) (ck_ (0 ≤ x2 ∧ x2 < ln_ h x1) (some (wr_ h x1 x2 (rd_ h (rf_ h x0 0) 6), 0))))) := (jj_of bk_88_5 _ _ h).trans ((ff_of bk_88_5 [(15, x0), (30, x1), (0, x2)] [] h).trans (by
  show (ck_ (0 ≤ x0) (ck_ (0 ≤ (rf_ h x0 0)) (ck_ (0 ≤ x1) (ck_ (0 ≤ x2 ∧ x2 < ln_ h x1) (JJ 88 6 [(15, x0), (30, x1), (0, x2)] [] (wr_ h x1 x2 (rd_ h (rf_ h x0 0) 6))))))) = _
  simp only [jt_88_6, ck_or1, ck_or2, rf_wr, ln_wr, nn_wr, rf_cp, ln_cp, nn_cp, ln_wf, nn_wf, rd_wf, nn_nw]
  try rfl))
theorem jt_88_4 (h : am_H) (x0 x1 x2 : Int) : JJ 88 4 [(15, x0), (30, x1), (0, x2)] [] h = ck_ (0 ≤ x1) (if (ln_ h x1) ≤ x2 then some (h, 0) else ck_ (0 ≤ x0) (ck_ (0 ≤ (rf_ h x0 0)) (ck_ (0 ≤ x1) (ck_ (0 ≤ x2 ∧ x2 < ln_ h x1) (some (wr_ h x1 x2 (rd_ h (rf_ h x0 0) 6), 0)))))) := (jj_of bk_88_4 _ _ h).trans ((ff_of bk_88_4 [(15, x0), (30, x1), (0, x2)] [] h).trans (by
  show (ck_ (0 ≤ x1) (if (ln_ h x1) ≤ x2 then JJ 88 6 [(15, x0), (30, x1), (0, x2)] [] h else JJ 88 5 [(15, x0), (30, x1), (0, x2)] [] h)) = _
  simp only [jt_88_5, jt_88_6, ck_or1, ck_or2, rf_wr, ln_wr, nn_wr, rf_cp, ln_cp, nn_cp, ln_wf, nn_wf, rd_wf, nn_nw]
  try rfl))
theorem jt_88_3 (h : am_H) (d0 d1 d2 : am_V) : JJ 88 3 [d0, d1, d2] [] h = some (h, 3) := (jj_of bk_88_3 _ _ h).trans (ff_of bk_88_3 [(9, 0), (9, 0), (9, 0)] [] h)
theorem jt_88_2 (h : am_H) (x0 x1 x2 : Int) : JJ 88 2 [(15, x0), (30, x1), (0, x2)] [] h = ck_ (0 ≤ x0) (ck_ (0 ≤ (rf_ h x0 0)) (bd_ (Pp_indexOf h x1 x2 (rd_ h (rf_ h x0 0) 6)) fun h1 v2 => if v2 < 0 then ck_ (0 ≤ x1) (if (ln_ h1 x1) ≤ x2 then some (h1, 0) else ck_ (0 ≤ x0) (ck_ (0 ≤ (rf_ h1 x0 0)) (ck_ (0 ≤ x1) (ck_ (0 ≤ x2 ∧ x2 < ln_ h1 x1) (some (wr_ h1 x1 x2 (rd_ h1 (rf_ h1 x0 0) 6), 0)))))) else some (h1, 3))) := (jj_of bk_88_2 _ _ h).trans ((ff_of bk_88_2 [(15, x0), (30, x1), (0, x2)] [] h).trans (by
  show (ck_ (0 ≤ x0) (ck_ (0 ≤ (rf_ h x0 0)) (bd_ (CC 41 [(30, x1), (0, x2), (0, rd_ h (rf_ h x0 0) 6)] h) fun h1 v2 => if v2 < 0 then JJ 88 4 [(15, x0), (30, x1), (0, x2)] [] h1 else JJ 88 3 [(15, x0), (30, x1), (0, x2)] [] h1))) = _
  simp only [cc_41, jt_88_3, jt_88_4, ck_or1, ck_or2, rf_wr, ln_wr, nn_wr, rf_cp, ln_cp, nn_cp, ln_wf, nn_wf, rd_wf, nn_nw]
  try rfl))
theorem jt_88_1 (h : am_H) (d0 d1 d2 : am_V) : JJ 88 1 [d0, d1, d2] [] h = some (h, 1) := (jj_of bk_88_1 _ _ h).trans (ff_of bk_88_1 [(9, 0), (9, 0), (9, 0)] [] h)
theorem Re_readNewName_e (h : am_H) (x0 x1 x2 : Int) : Re_readNewName h x0 x1 x2 = ck_ (0 ≤ x0) (ck_ (0 ≤ (rf_ h x0 0)) (bd_ (Tk_step h (rf_ h x0 0)) fun h1 _ => ck_ (0 ≤ x0) (ck_ (0 ≤ (rf_ h1 x0 0)) (if (rd_ h1 (rf_ h1 x0 0) 4) = 3 then ck_ (0 ≤ x0) (ck_ (0 ≤ (rf_ h1 x0 0)) (bd_ (Pp_indexOf h1 x1 x2 (rd_ h1 (rf_ h1 x0 0) 6)) fun h3 v4 => if v4 < 0 then ck_ (0 ≤ x1) (if (ln_ h3 x1) ≤ x2 then some (h3, 0) else ck_ (0 ≤ x0) (ck_ (0 ≤ (rf_ h3 x0 0)) (ck_ (0 ≤ x1) (ck_ (0 ≤ x2 ∧ x2 < ln_ h3 x1) (some (wr_ h3 x1 x2 (rd_ h3 (rf_ h3 x0 0) 6), 0)))))) else some (h3, 3))) else some (h1, 1))))) := (ff_of bk_88_0 [(15, x0), (30, x1), (0, x2)] [] h).trans (by
  show (ck_ (0 ≤ x0) (ck_ (0 ≤ (rf_ h x0 0)) (bd_ (CC 43 [(17, rf_ h x0 0)] h) fun h1 _ => ck_ (0 ≤ x0) (ck_ (0 ≤ (rf_ h1 x0 0)) (if (rd_ h1 (rf_ h1 x0 0) 4) = 3 then JJ 88 2 [(15, x0), (30, x1), (0, x2)] [] h1 else JJ 88 1 [(15, x0), (30, x1), (0, x2)] [] h1))))) = _
  simp only [cc_43, jt_88_1, jt_88_2, ck_or1, ck_or2, rf_wr, ln_wr, nn_wr, rf_cp, ln_cp, nn_cp, ln_wf, nn_wf, rd_wf, nn_nw]
  try rfl)
theorem cc_88 (h : am_H) (x0 x1 x2 : Int) : CC 88 [(15, x0), (30, x1), (0, x2)] h = Re_readNewName h x0 x1 x2 := cc_of pk_88 _ h
theorem pk_89 : am_prog 89 = some cd_89 := rfl
theorem bk_89_0 : bk_ am_prog 89 0 = some ([true, false, false], (bl_89_0, 9999)) := bk_of pk_89 rfl
theorem bk_89_1 : bk_ am_prog 89 1 = some ([false, false, false], (bl_89_1, 9999)) := bk_of pk_89 rfl
theorem bk_89_2 : bk_ am_prog 89 2 = some ([true, true, false], (bl_89_2, 9999)) := bk_of pk_89 rfl
theorem bk_89_3 : bk_ am_prog 89 3 = some ([true, true, false], (bl_89_3, 4)) := bk_of pk_89 rfl
theorem bk_89_4 : bk_ am_prog 89 4 = some ([true, true, true], (bl_89_4, 9999)) := bk_of pk_89 rfl
theorem bk_89_5 : bk_ am_prog 89 5 = some ([false, false, true], (bl_89_5, 9999)) := bk_of pk_89 rfl
theorem bk_89_6 : bk_ am_prog 89 6 = some ([true, true, false], (bl_89_6, 9999)) := bk_of pk_89 rfl
theorem jt_89_4 (h : am_H) (x0 x1 x2 : Int) : JJ 89 4 [(15, x0), (0, x1), (0, x2)] [] h = Re_readMaid_4 h x0 x1 x2 := jj_of bk_89_4 _ _ h
theorem jt_89_3 (h : am_H) (d2 : am_V) (x0 x1 : Int) : JJ 89 3 [(15, x0), (0, x1), d2] [] h = ck_ (0 ≤ x0) (bd_ (Re_readNumber h x0 0 9) fun h1 v2 => Re_readMaid_4 h1 x0 x1 v2) := (jj_of bk_89_3 _ _ h).trans ((ff_of bk_89_3 [(15, x0), (0, x1), (9, 0)] [] h).trans (by
  show (ck_ (0 ≤ x0) (bd_ (CC 83 [(15, x0), (0, 0), (0, 9)] h) fun h1 v2 => JJ 89 4 [(15, x0), (0, x1), (0, v2)] [] h1)) = _
  simp only [cc_83, jt_89_4, ck_or1, ck_or2, rf_wr, ln_wr, nn_wr, rf_cp, ln_cp, nn_cp, ln_wf, nn_wf, rd_wf, nn_nw]
  try rfl))
theorem jt_89_2 (h : am_H) (d2 : am_V) (x0 x1 : Int) : JJ 89 2 [(15, x0), (0, x1), d2] [] h = ck_ (0 ≤ x0) (ck_ (0 ≤ (rf_ h x0 2)) (ck_ (0 ≤ x0) (bd_ (Re_readNewName h x0 (rf_ h (rf_ h x0 2) 7) x1) fun h1 v2 => if v2 ≠ 0 then Re_readMaid_4 h1 x0 x1 v2 else ck_ (0 ≤ x0) (bd_ (Re_readNumber h1 x0 0 9) fun h3 v4 => Re_readMaid_4 h3 x0 x1 v4)))) := (jj_of bk_89_2 _ _ h).trans ((ff_of bk_89_2 [(15, x0), (0, x1), (9, 0)] [] h).trans (by
  show (ck_ (0 ≤ x0) (ck_ (0 ≤ (rf_ h x0 2)) (ck_ (0 ≤ x0) (bd_ (CC 88 [(15, x0), (30, rf_ h (rf_ h x0 2) 7), (0, x1)] h) fun h1 v2 => if v2 ≠ 0 then JJ 89 4 [(15, x0), (0, x1), (0, v2)] [] h1 else JJ 89 3 [(15, x0), (0, x1), (0, v2)] [] h1)))) = _
  simp only [cc_88, jt_89_3, jt_89_4, ck_or1, ck_or2, rf_wr, ln_wr, nn_wr, rf_cp, ln_cp, nn_cp, ln_wf, nn_wf, rd_wf, nn_nw]
  try rfl))
theorem jt_89_1 (h : am_H) (d0 d1 d2 : am_V) : JJ 89 1 [d0, d1, d2] [] h = some (h, 2) := (jj_of bk_89_1 _ _ h).trans (ff_of bk_89_1 [(9, 0), (9, 0), (9, 0)] [] h)
theorem Re_readMaid_e (h : am_H) (x0 : Int) : Re_readMaid h x0 = ck_ (0 ≤ x0) (ck_ (0 ≤ (rf_ h x0 2)) (ck_ (0 ≤ (rf_ h (rf_ h x0 2) 6)) (if (rd_ h (rf_ h (rf_ h x0 2) 6) 0) < 4 then ck_ (0 ≤ x0) (ck_ (0 ≤ (rf_ h x0 2)) (ck_ (0 ≤ x0) (bd_ (Re_readNewName h x0 (rf_ h (rf_ h x0 2) 7) (rd_ h (rf_ h (rf_ h x0 2) 6) 0)) fun h1 v2 => if v2 ≠ 0 then Re_readMaid_4 h1 x0 (rd_ h (rf_ h (rf_ h x0 2) 6) 0) v2 else ck_ (0 ≤ x0) (bd_ (Re_readNumber h1 x0 0 9) fun h3 v4 => Re_readMaid_4 h3 x0 (rd_ h (rf_ h (rf_ h x0 2) 6) 0) v4)))) else some (h, 2)))) := (ff_of bk_89_0 [(15, x0), (9, 0), (9, 0)] [] h).trans (by
  show (ck_ (0 ≤ x0) (ck_ (0 ≤ (rf_ h x0 2)) (ck_ (0 ≤ (rf_ h (rf_ h x0 2) 6)) (if (rd_ h (rf_ h (rf_ h x0 2) 6) 0) < 4 then JJ 89 2 [(15, x0), (0, rd_ h (rf_ h (rf_ h x0 2) 6) 0), (9, 0)] [] h else JJ 89 1 [(15, x0), (0, rd_ h (rf_ h (rf_ h x0 2) 6) 0), (9, 0)] [] h)))) = _
  simp only [jt_89_1, jt_89_2, ck_or1, ck_or2, rf_wr, ln_wr, nn_wr, rf_cp, ln_cp, nn_cp, ln_wf, nn_wf, rd_wf, nn_nw]
  try rfl)
theorem jt_89_6 (h : am_H) (d2 : am_V) (x0 x1 : Int) : JJ 89 6 [(15, x0), (0, x1), d2] [] h = ck_ (0 ≤ x0) (ck_ (0 ≤ (rf_ h x0 2)) (ck_ (0 ≤ x0) (ck_ (0 ≤ (rf_ h x0 0)) (ck_ (0 ≤ (rf_ h (rf_ h x0 2) 8)) (ck_ (0 ≤ x1 ∧ x1 < ln_ h (rf_ h (rf_ h x0 2) 8)) (ck_ (0 ≤ x0) (ck_ (0 ≤ (rf_ h x0 2)) (ck_ (0 ≤ (rf_ h (rf_ h x0 2) 6)) (bd_ (Wo_addMaid (wr_ h (rf_ h (rf_ h x0 2) 8) x1 (rd_ h (rf_ h x0 0) 6)) (rf_ h (rf_ h x0 2) 6)) fun h1 _ => ck_ (0 ≤ x0) (bd_ (Re_readSemicolon h1 x0) fun h3 v4 => some (h3, v4))))))))))) := (jj_of bk_89_6 _ _ h).trans ((ff_of bk_89_6 [(15, x0), (0, x1), (9, 0)] [] h).trans (by
  show (ck_ (0 ≤ x0) (ck_ (0 ≤ (rf_ h x0 2)) (ck_ (0 ≤ x0) (ck_ (0 ≤ (rf_ h x0 0)) (ck_ (0 ≤ (rf_ h (rf_ h x0 2) 8)) (ck_ (0 ≤ x1 ∧ x1 < ln_ h (rf_ h (rf_ h x0 2) 8)) (ck_ (0 ≤ x0) (ck_ (0 ≤ (rf_ h x0 2)) (ck_ (0 ≤ (rf_ h (rf_ h x0 2) 6)) (bd_ (CC 87 [(20, rf_ h (rf_ h x0 2) 6)] (wr_ h (rf_ h (rf_ h x0 2) 8) x1 (rd_ h (rf_ h x0 0) 6))) fun h1 _ => ck_ (0 ≤ x0) (bd_ (CC 84 [(15, x0)] h1) fun h3 v4 => some (h3, v4)))))))))))) = _
  simp only [cc_87, cc_84, ck_or1, ck_or2, rf_wr, ln_wr, nn_wr, rf_cp, ln_cp, nn_cp, ln_wf, nn_wf, rd_wf, nn_nw]
  try rfl))
theorem jt_89_5 (h : am_H) (d0 d1 : am_V) (x2 : Int) : JJ 89 5 [d0, d1, (0, x2)] [] h = some (h, x2) := (jj_of bk_89_5 _ _ h).trans (ff_of bk_89_5 [(9, 0), (9, 0), (0, x2)] [] h)
theorem Re_readMaid_4_e (h : am_H) (x0 x1 x2 : Int) : Re_readMaid_4 h x0 x1 x2 = if x2 = 0 then ck_ (0 ≤ x0) (ck_ (0 ≤ (rf_ h x0 2)) (ck_ (0 ≤ x0) (ck_ (0 ≤ (rf_ h x0 0)) (ck_ (0 ≤ (rf_ h (rf_ h x0 2) 8)) (ck_ (0 ≤ x1 ∧ x1 < ln_ h (rf_ h (rf_ h x0 2) 8)) (ck_ (0 ≤ x0) (ck_ (0 ≤ (rf_ h x0 2)) (ck_ (0 ≤ (rf_ h (rf_ h x0 2) 6)) (bd_ (Wo_addMaid (wr_ h (rf_ h (rf_ h x0 2) 8) x1 (rd_ h (rf_ h x0 0) 6)) (rf_ h (rf_ h x0 2) 6)) fun h1 _ => ck_ (0 ≤ x0) (bd_ (Re_readSemicolon h1 x0) fun h3 v4 => some (h3, v4))))))))))) else some (h, x2) := (ff_of bk_89_4 [(15, x0), (0, x1), (0, x2)] [] h).trans (by
  show (if x2 = 0 then JJ 89 6 [(15, x0), (0, x1), (0, x2)] [] h else JJ 89 5 [(15, x0), (0, x1), (0, x2)] [] h) = _
  simp only [jt_89_5, jt_89_6, ck_or1, ck_or2, rf_wr, ln_wr, nn_wr, rf_cp, ln_cp, nn_cp, ln_wf, nn_wf, rd_wf, nn_nw]
  try rfl)
theorem cc_89 (h : am_H) (x0 : Int) : CC 89 [(15, x0)] h = Re_readMaid h x0 := cc_of pk_89 _ h
theorem pk_90 : am_prog 90 = some cd_90 := rfl
theorem bk_90_0 : bk_ am_prog 90 0 = some ([true], (bl_90_0, 9999)) := bk_of pk_90 rfl
theorem bk_90_1 : bk_ am_prog 90 1 = some ([true], (bl_90_1, 2)) := bk_of pk_90 rfl
theorem bk_90_2 : bk_ am_prog 90 2 = some ([false], (bl_90_2, 9999)) := bk_of pk_90 rfl
theorem jt_90_2 (h : am_H) (d0 : am_V) : JJ 90 2 [d0] [] h = some (h, 0) := (jj_of bk_90_2 _ _ h).trans (ff_of bk_90_2 [(9, 0)] [] h)
set_option maxRecDepth 20000 in
theorem jt_90_1 (h : am_H) (x0 : Int) : JJ 90 1 [(20, x0)] [] h = ck_ (0 ≤ x0) (ck_ (0 ≤ x0) (ck_ (0 ≤ (rf_ h x0 6)) (ck_ (0 ≤ (rd_ h x0 1) ∧ (rd_ h x0 1) < ln_ h (rf_ h x0 6)) (ck_ (0 ≤ x0) (ck_ (0 ≤ x0) (ck_ (0 ≤ (rf_ h x0 7)) (ck_ (0 ≤ (rd_ (wr_ h (rf_ h x0 6) (rd_ h x0 1) 0) x0 1) ∧ (rd_ (wr_ h (rf_ h x0 6) (rd_ h x0 1) 0) x0 1) < ln_ h (rf_ h x0 7)) (ck_ (0 ≤ x0) (ck_ (0 ≤ x0) (some (wr_ (wr_ (wr_ h (rf_ h x0 6) (rd_ h x0 1) 0) (rf_ h x0 7) (rd_ (wr_ h (rf_ h x0 6) (rd_ h x0 1) 0) x0 1) 0) x0 1 (w32 ((rd_ (wr_ (wr_ h (rf_ h x0 6) (rd_ h x0 1) 0) (rf_ h x0 7) (rd_ (wr_ h (rf_ h x0 6) (rd_ h x0 1) 0) x0 1) 0) x0 1) + 1)), 0))))))))))) := (jj_of bk_90_1 _ _ h).trans ((ff_of bk_90_1 [(20, x0)] [] h).trans (by
  show (ck_ (0 ≤ x0) (ck_ (0 ≤ x0) (ck_ (0 ≤ (rf_ h x0 6)) (ck_ (0 ≤ (rd_ h x0 1) ∧ (rd_ h x0 1) < ln_ h (rf_ h x0 6)) (ck_ (0 ≤ x0) (ck_ (0 ≤ x0) (ck_ (0 ≤ (rf_ h x0 7)) (ck_ (0 ≤ (rd_ (wr_ h (rf_ h x0 6) (rd_ h x0 1) 0) x0 1) ∧ (rd_ (wr_ h (rf_ h x0 6) (rd_ h x0 1) 0) x0 1) < ln_ h (rf_ h x0 7)) (ck_ (0 ≤ x0) (ck_ (0 ≤ x0) (JJ 90 2 [(20, x0)] [] (wr_ (wr_ (wr_ h (rf_ h x0 6) (rd_ h x0 1) 0) (rf_ h x0 7) (rd_ (wr_ h (rf_ h x0 6) (rd_ h x0 1) 0) x0 1) 0) x0 1 (w32 ((rd_ (wr_ (wr_ h (rf_ h x0 6) (rd_ h x0 1) 0) (rf_ h x0 7) (rd_ (wr_ h (rf_ h x0 6) (rd_ h x0 1) 0) x0 1) 0) x0 1) + 1)))))))))))))) = _
  simp only [jt_90_2, ck_or1, ck_or2, rf_wr, ln_wr, nn_wr, rf_cp, ln_cp, nn_cp, ln_wf, nn_wf, rd_wf, nn_nw]
  try rfl))
theorem Wo_addPile_e (h : am_H) (x0 : Int) : Wo_addPile h x0 = ck_ (0 ≤ x0) (if 4 ≤ (rd_ h x0 1) then some (h, 0) else ck_ (0 ≤ x0) (ck_ (0 ≤ x0) (ck_ (0 ≤ (rf_ h x0 6)) (ck_ (0 ≤ (rd_ h x0 1) ∧ (rd_ h x0 1) < ln_ h (rf_ h x0 6)) (ck_ (0 ≤ x0) (ck_ (0 ≤ x0) (ck_ (0 ≤ (rf_ h x0 7)) (ck_ (0 ≤ (rd_ (wr_ h (rf_ h x0 6) (rd_ h x0 1) 0) x0 1) ∧ (rd_ (wr_ h (rf_ h x0 6) (rd_ h x0 1) 0) x0 1) < ln_ h (rf_ h x0 7)) (ck_ (0 ≤ x0) (ck_ (0 ≤ x0) (some (wr_ (wr_ (wr_ h (rf_ h x0 6) (rd_ h x0 1) 0) (rf_ h x0 7) (rd_ (wr_ h (rf_ h x0 6) (rd_ h x0 1) 0) x0 1) 0) x0 1 (w32 ((rd_ (wr_ (wr_ h (rf_ h x0 6) (rd_ h x0 1) 0) (rf_ h x0 7) (rd_ (wr_ h (rf_ h x0 6) (rd_ h x0 1) 0) x0 1) 0) x0 1) + 1)), 0)))))))))))) := (ff_of bk_90_0 [(20, x0)] [] h).trans (by
  show (ck_ (0 ≤ x0) (if 4 ≤ (rd_ h x0 1) then JJ 90 2 [(20, x0)] [] h else JJ 90 1 [(20, x0)] [] h)) = _
  simp only [jt_90_1, jt_90_2, ck_or1, ck_or2, rf_wr, ln_wr, nn_wr, rf_cp, ln_cp, nn_cp, ln_wf, nn_wf, rd_wf, nn_nw]
  try rfl)
theorem cc_90 (h : am_H) (x0 : Int) : CC 90 [(20, x0)] h = Wo_addPile h x0 := cc_of pk_90 _ h
theorem pk_91 : am_prog 91 = some cd_91 := rfl
theorem bk_91_0 : bk_ am_prog 91 0 = some ([true, false, false], (bl_91_0, 9999)) := bk_of pk_91 rfl
theorem bk_91_1 : bk_ am_prog 91 1 = some ([false, false, false], (bl_91_1, 9999)) := bk_of pk_91 rfl
theorem bk_91_2 : bk_ am_prog 91 2 = some ([true, true, false], (bl_91_2, 9999)) := bk_of pk_91 rfl
theorem bk_91_3 : bk_ am_prog 91 3 = some ([false, false, true], (bl_91_3, 9999)) := bk_of pk_91 rfl
theorem bk_91_4 : bk_ am_prog 91 4 = some ([true, false, false], (bl_91_4, 9999)) := bk_of pk_91 rfl
theorem jt_91_4 (h : am_H) (d1 d2 : am_V) (x0 : Int) : JJ 91 4 [(15, x0), d1, d2] [] h = ck_ (0 ≤ x0) (ck_ (0 ≤ (rf_ h x0 2)) (ck_ (0 ≤ (rf_ h (rf_ h x0 2) 6)) (bd_ (Wo_addPile h (rf_ h (rf_ h x0 2) 6)) fun h1 _ => ck_ (0 ≤ x0) (bd_ (Re_readSemicolon h1 x0) fun h3 v4 => some (h3, v4))))) := (jj_of bk_91_4 _ _ h).trans ((ff_of bk_91_4 [(15, x0), (9, 0), (9, 0)] [] h).trans (by
  show (ck_ (0 ≤ x0) (ck_ (0 ≤ (rf_ h x0 2)) (ck_ (0 ≤ (rf_ h (rf_ h x0 2) 6)) (bd_ (CC 90 [(20, rf_ h (rf_ h x0 2) 6)] h) fun h1 _ => ck_ (0 ≤ x0) (bd_ (CC 84 [(15, x0)] h1) fun h3 v4 => some (h3, v4)))))) = _
  simp only [cc_90, cc_84, ck_or1, ck_or2, rf_wr, ln_wr, nn_wr, rf_cp, ln_cp, nn_cp, ln_wf, nn_wf, rd_wf, nn_nw]
  try rfl))
theorem jt_91_3 (h : am_H) (d0 d1 : am_V) (x2 : Int) : JJ 91 3 [d0, d1, (0, x2)] [] h = some (h, x2) := (jj_of bk_91_3 _ _ h).trans (ff_of bk_91_3 [(9, 0), (9, 0), (0, x2)] [] h)
theorem jt_91_2 (h : am_H) (d2 : am_V) (x0 x1 : Int) : JJ 91 2 [(15, x0), (0, x1), d2] [] h = ck_ (0 ≤ x0) (ck_ (0 ≤ (rf_ h x0 2)) (ck_ (0 ≤ x0) (bd_ (Re_readNewName h x0 (rf_ h (rf_ h x0 2) 9) x1) fun h1 v2 => if v2 = 0 then ck_ (0 ≤ x0) (ck_ (0 ≤ (rf_ h1 x0 2)) (ck_ (0 ≤ (rf_ h1 (rf_ h1 x0 2) 6)) (bd_ (Wo_addPile h1 (rf_ h1 (rf_ h1 x0 2) 6)) fun h3 _ => ck_ (0 ≤ x0) (bd_ (Re_readSemicolon h3 x0) fun h5 v6 => some (h5, v6))))) else some (h1, v2)))) := (jj_of bk_91_2 _ _ h).trans ((ff_of bk_91_2 [(15, x0), (0, x1), (9, 0)] [] h).trans (by
  show (ck_ (0 ≤ x0) (ck_ (0 ≤ (rf_ h x0 2)) (ck_ (0 ≤ x0) (bd_ (CC 88 [(15, x0), (30, rf_ h (rf_ h x0 2) 9), (0, x1)] h) fun h1 v2 => if v2 = 0 then JJ 91 4 [(15, x0), (0, x1), (0, v2)] [] h1 else JJ 91 3 [(15, x0), (0, x1), (0, v2)] [] h1)))) = _
  simp only [cc_88, jt_91_3, jt_91_4, ck_or1, ck_or2, rf_wr, ln_wr, nn_wr, rf_cp, ln_cp, nn_cp, ln_wf, nn_wf, rd_wf, nn_nw]
  try rfl))
theorem jt_91_1 (h : am_H) (d0 d1 d2 : am_V) : JJ 91 1 [d0, d1, d2] [] h = some (h, 2) := (jj_of bk_91_1 _ _ h).trans (ff_of bk_91_1 [(9, 0), (9, 0), (9, 0)] [] h)
theorem Re_readPile_e (h : am_H) (x0 : Int) : Re_readPile h x0 = ck_ (0 ≤ x0) (ck_ (0 ≤ (rf_ h x0 2)) (ck_ (0 ≤ (rf_ h (rf_ h x0 2) 6)) (if (rd_ h (rf_ h (rf_ h x0 2) 6) 1) < 4 then ck_ (0 ≤ x0) (ck_ (0 ≤ (rf_ h x0 2)) (ck_ (0 ≤ x0) (bd_ (Re_readNewName h x0 (rf_ h (rf_ h x0 2) 9) (rd_ h (rf_ h (rf_ h x0 2) 6) 1)) fun h1 v2 => if v2 = 0 then ck_ (0 ≤ x0) (ck_ (0 ≤ (rf_ h1 x0 2)) (ck_ (0 ≤ (rf_ h1 (rf_ h1 x0 2) 6)) (bd_ (Wo_addPile h1 (rf_ h1 (rf_ h1 x0 2) 6)) fun h3 _ => ck_ (0 ≤ x0) (bd_ (Re_readSemicolon h3 x0) fun h5 v6 => some (h5, v6))))) else some (h1, v2)))) else some (h, 2)))) := (ff_of bk_91_0 [(15, x0), (9, 0), (9, 0)] [] h).trans (by
  show (ck_ (0 ≤ x0) (ck_ (0 ≤ (rf_ h x0 2)) (ck_ (0 ≤ (rf_ h (rf_ h x0 2) 6)) (if (rd_ h (rf_ h (rf_ h x0 2) 6) 1) < 4 then JJ 91 2 [(15, x0), (0, rd_ h (rf_ h (rf_ h x0 2) 6) 1), (9, 0)] [] h else JJ 91 1 [(15, x0), (0, rd_ h (rf_ h (rf_ h x0 2) 6) 1), (9, 0)] [] h)))) = _
  simp only [jt_91_1, jt_91_2, ck_or1, ck_or2, rf_wr, ln_wr, nn_wr, rf_cp, ln_cp, nn_cp, ln_wf, nn_wf, rd_wf, nn_nw]
  try rfl)
theorem cc_91 (h : am_H) (x0 : Int) : CC 91 [(15, x0)] h = Re_readPile h x0 := cc_of pk_91 _ h
theorem pk_92 : am_prog 92 = some cd_92 := rfl
theorem bk_92_0 : bk_ am_prog 92 0 = some ([true, true, true, true], (bl_92_0, 9999)) := bk_of pk_92 rfl
theorem bk_92_1 : bk_ am_prog 92 1 = some ([true, true, true, true], (bl_92_1, 9999)) := bk_of pk_92 rfl
theorem bk_92_2 : bk_ am_prog 92 2 = some ([true, true, true, true], (bl_92_2, 9999)) := bk_of pk_92 rfl
theorem bk_92_3 : bk_ am_prog 92 3 = some ([true, true, true, true], (bl_92_3, 4)) := bk_of pk_92 rfl
theorem bk_92_4 : bk_ am_prog 92 4 = some ([false, false, false, false], (bl_92_4, 9999)) := bk_of pk_92 rfl
theorem jt_92_4 (h : am_H) (d0 d1 d2 d3 : am_V) : JJ 92 4 [d0, d1, d2, d3] [] h = some (h, 0) := (jj_of bk_92_4 _ _ h).trans (ff_of bk_92_4 [(9, 0), (9, 0), (9, 0), (9, 0)] [] h)
set_option maxRecDepth 20000 in
theorem jt_92_3 (h : am_H) (x0 x1 x2 x3 : Int) : JJ 92 3 [(20, x0), (0, x1), (0, x2), (0, x3)] [] h = ck_ (0 ≤ x0) (ck_ (0 ≤ x0) (ck_ (0 ≤ (rf_ h x0 6)) (ck_ (0 ≤ x1 ∧ x1 < ln_ h (rf_ h x0 6)) (ck_ (0 ≤ x0) (ck_ (0 ≤ (rf_ h x0 9)) (ck_ (0 ≤ (w32 ((w32 (x1 * 5)) + (rd_ h (rf_ h x0 6) x1))) ∧ (w32 ((w32 (x1 * 5)) + (rd_ h (rf_ h x0 6) x1))) < ln_ h (rf_ h x0 9)) (ck_ (0 ≤ x0) (ck_ (0 ≤ x0) (ck_ (0 ≤ (rf_ h x0 10)) (ck_ (0 ≤ (rd_ (wr_ h (rf_ h x0 9) (w32 ((w32 (x1 * 5)) + (rd_ h (rf_ h x0 6) x1))) (rd_ h x0 2)) x0 2) ∧ (rd_ (wr_ h (rf_ h x0 9) (w32 ((w32 (x1 * 5)) + (rd_ h (rf_ h x0 6) x1))) (rd_ h x0 2)) x0 2) < ln_ h (rf_ h x0 10)) (ck_ (0 ≤ x0) (ck_ (0 ≤ x0) (ck_ (0 ≤ (rf_ h x0 11)) (ck_ (0 ≤ (rd_ (wr_ (wr_ h (rf_ h x0 9) (w32 ((w32 (x1 * 5)) + (rd_ h (rf_ h x0 6) x1))) (rd_ h x0 2)) (rf_ h x0 10) (rd_ (wr_ h (rf_ h x0 9) (w32 ((w32 (x1 * 5)) + (rd_ h (rf_ h x0 6) x1))) (rd_ h x0 2)) x0 2) x2) x0 2) ∧ (rd_ (wr_ (wr_ h (rf_ h x0 9) (w32 ((w32 (x1 * 5)) + (rd_ h (rf_ h x0 6) x1))) (rd_ h x0 2)) (rf_ h x0 10) (rd_ (wr_ h (rf_ h x0 9) (w32 ((w32 (x1 * 5)) + (rd_ h (rf_ h x0 6) x1))) (rd_ h x0 2)) x0 2) x2) x0 2) < ln_ h (rf_ h x0 11)) (ck_ (0 ≤ x0) (ck_ (0 ≤ x0) (ck_ (0 ≤ (rf_ h x0 12)) (ck_ (0 ≤ (rd_ (wr_ (wr_ (wr_ h (rf_ h x0 9) (w32 ((w32 (x1 * 5)) + (rd_ h (rf_ h x0 6) x1))) (rd_ h x0 2)) (rf_ h x0 10) (rd_ (wr_ h (rf_ h x0 9) (w32 ((w32 (x1 * 5)) + (rd_ h (rf_ h x0 6) x1))) (rd_ h x0 2)) x0 2) x2) (rf_ h x0 11) (rd_ (wr_ (wr_ h (rf_ h x0 9) (w32 ((w32 (x1 * 5)) + (rd_ h (rf_ h x0 6) x1))) (rd_ h x0 2)) (rf_ h x0 10) (rd_ (wr_ h (rf_ h x0 9) (w32 ((w32 (x1 * 5)) + (rd_ h (rf_ h x0 6) x1))) (rd_ h x0 2)) x0 2) x2) x0 2) x3) x0 2) ∧ (rd_ (wr_ (wr_ (wr_ h (rf_ h x0 9) (w32 ((w32 (x1 * 5)) + (rd_ h (rf_ h x0 6) x1))) (rd_ h x0 2)) (rf_ h x0 10) (rd_ (wr_ h (rf_ h x0 9) (w32 ((w32 (x1 * 5)) + (rd_ h (rf_ h x0 6) x1))) (rd_ h x0 2)) x0 2) x2) (rf_ h x0 11) (rd_ (wr_ (wr_ h (rf_ h x0 9) (w32 ((w32 (x1 * 5)) + (rd_ h (rf_ h x0 6) x1))) (rd_ h x0 2)) (rf_ h x0 10) (rd_ (wr_ h (rf_ h x0 9) (w32 ((w32 (x1 * 5)) + (rd_ h (rf_ h x0 6) x1))) (rd_ h x0 2)) x0 2) x2) x0 2) x3) x0 2) < ln_ h (rf_ h x0 12)) (ck_ (0 ≤ x0) (ck_ (0 ≤ (rf_ h x0 6)) (ck_ (0 ≤ x1 ∧ x1 < ln_ h (rf_ h x0 6)) (ck_ (0 ≤ (rf_ h x0 6)) (ck_ (0 ≤ x1 ∧ x1 < ln_ h (rf_ h x0 6)) (ck_ (0 ≤ x0) (ck_ (0 ≤ x0) (some (wr_ (wr_ (wr_ (wr_ (wr_ (wr_ h (rf_ h x0 9) (w32 ((w32 (x1 * 5)) + (rd_ h (rf_ h x0 6) x1))) (rd_ h x0 2)) (rf_ h x0 10) (rd_ (wr_ h (rf_ h x0 9) (w32 ((w32 (x1 * 5)) + (rd_ h (rf_ h x0 6) x1))) (rd_ h x0 2)) x0 2) x2) (rf_ h x0 11) (rd_ (wr_ (wr_ h (rf_ h x0 9) (w32 ((w32 (x1 * 5)) + (rd_ h (rf_ h x0 6) x1))) (rd_ h x0 2)) (rf_ h x0 10) (rd_ (wr_ h (rf_ h x0 9) (w32 ((w32 (x1 * 5)) + (rd_ h (rf_ h x0 6) x1))) (rd_ h x0 2)) x0 2) x2) x0 2) x3) (rf_ h x0 12) (rd_ (wr_ (wr_ (wr_ h (rf_ h x0 9) (w32 ((w32 (x1 * 5)) + (rd_ h (rf_ h x0 6) x1))) (rd_ h x0 2)) (rf_ h x0 10) (rd_ (wr_ h (rf_ h x0 9) (w32 ((w32 (x1 * 5)) + (rd_ h (rf_ h x0 6) x1))) (rd_ h x0 2)) x0 2) x2) (rf_ h x0 11) (rd_ (wr_ (wr_ h (rf_ h x0 9) (w32 ((w32 (x1 * 5)) + (rd_ h (rf_ h x0 6) x1))) (rd_ h x0 2)) (rf_ h x0 10) (rd_ (wr_ h (rf_ h x0 9) (w32 ((w32 (x1 * 5)) + (rd_ h (rf_ h x0 6) x1))) (rd_ h x0 2)) x0 2) x2) x0 2) x3) x0 2) 0) (rf_ h x0 6) x1 (w32 ((rd_ (wr_ (wr_ (wr_ (wr_ h (rf_ h x0 9) (w32 ((w32 (x1 * 5)) + (rd_ h (rf_ h x0 6) x1))) (rd_ h x0 2)) (rf_ h x0 10) (rd_ (wr_ h (rf_ h x0 9) (w32 ((w32 (x1 * 5)) + (rd_ h (rf_ h x0 6) x1))) (rd_ h x0 2)) x0 2) x2) (rf_ h x0 11) (rd_ (wr_ (wr_ h (rf_ h x0 9) (w32 ((w32 (x1 * 5)) + (rd_ h (rf_ h x0 6) x1))) (rd_ h x0 2)) (rf_ h x0 10) (rd_ (wr_ h (rf_ h x0 9) (w32 ((w32 (x1 * 5)) + (rd_ h (rf_ h x0 6) x1))) (rd_ h x0 2)) x0 2) x2) x0 2) x3) (rf_ h x0 12) (rd_ (wr_ (wr_ (wr_ h (rf_ h x0 9) (w32 ((w32 (x1 * 5)) + (rd_ h (rf_ h x0 6) x1))) (rd_ h x0 2)) (rf_ h x0 10) (rd_ (wr_ h (rf_ h x0 9) (w32 ((w32 (x1 * 5)) + (rd_ h (rf_ h x0 6) x1))) (rd_ h x0 2)) x0 2) x2) (rf_ h x0 11) (rd_ (wr_ (wr_ h (rf_ h x0 9) (w32 ((w32 (x1 * 5)) + (rd_ h (rf_ h x0 6) x1))) (rd_ h x0 2)) (rf_ h x0 10) (rd_ (wr_ h (rf_ h x0 9) (w32 ((w32 (x1 * 5)) + (rd_ h (rf_ h x0 6) x1))) (rd_ h x0 2)) x0 2) x2) x0 2) x3) x0 2) 0) (rf_ h x0 6) x1) + 1))) x0 2 (w32 ((rd_ (wr_ (wr_ (wr_ (wr_ (wr_ h (rf_ h x0 9) (w32 ((w32 (x1 * 5)) + (rd_ h (rf_ h x0 6) x1))) (rd_ h x0 2)) (rf_ h x0 10) (rd_ (wr_ h (rf_ h x0 9) (w32 ((w32 (x1 * 5)) + (rd_ h (rf_ h x0 6) x1))) (rd_ h x0 2)) x0 2) x2) (rf_ h x0 11) (rd_ (wr_ (wr_ h (rf_ h x0 9) (w32 ((w32 (x1 * 5)) + (rd_ h (rf_ h x0 6) x1))) (rd_ h x0 2)) (rf_ h x0 10) (rd_ (wr_ h (rf_ h x0 9) (w32 ((w32 (x1 * 5)) + (rd_ h (rf_ h x0 6) x1))) (rd_ h x0 2)) x0 2) x2) x0 2) x3) (rf_ h x0 12) (rd_ (wr_ (wr_ (wr_ h (rf_ h x0 9) (w32 ((w32 (x1 * 5)) + (rd_ h (rf_ h x0 6) x1))) (rd_ h x0 2)) (rf_ h x0 10) (rd_ (wr_ h (rf_ h x0 9) (w32 ((w32 (x1 * 5)) + (rd_ h (rf_ h x0 6) x1))) (rd_ h x0 2)) x0 2) x2) (rf_ h x0 11) (rd_ (wr_ (wr_ h (rf_ h x0 9) (w32 ((w32 (x1 * 5)) + (rd_ h (rf_ h x0 6) x1))) (rd_ h x0 2)) (rf_ h x0 10) (rd_ (wr_ h (rf_ h x0 9) (w32 ((w32 (x1 * 5)) + (rd_ h (rf_ h x0 6) x1))) (rd_ h x0 2)) x0 2) x2) x0 2) x3) x0 2) 0) (rf_ h x0 6) x1 (w32 ((rd_ (wr_ (wr_ (wr_ (wr_ h (rf_ h x0 9) (w32 ((w32 (x1 * 5)) + (rd_ h (rf_ h x0 6) x1))) (rd_ h x0 2)) (rf_ h x0 10) (rd_ (wr_ h (rf_ h x0 9) (w32 ((w32 (x1 * 5)) + (rd_ h (rf_ h x0 6) x1))) (rd_ h x0 2)) x0 2) x2) (rf_ h x0 11) (rd_ (wr_ (wr_ h (rf_ h x0 9) (w32 ((w32 (x1 * 5)) + (rd_ h (rf_ h x0 6) x1))) (rd_ h x0 2)) (rf_ h x0 10) (rd_ (wr_ h (rf_ h x0 9) (w32 ((w32 (x1 * 5)) + (rd_ h (rf_ h x0 6) x1))) (rd_ h x0 2)) x0 2) x2) x0 2) x3) (rf_ h x0 12) (rd_ (wr_ (wr_ (wr_ h (rf_ h x0 9) (w32 ((w32 (x1 * 5)) + (rd_ h (rf_ h x0 6) x1))) (rd_ h x0 2)) (rf_ h x0 10) (rd_ (wr_ h (rf_ h x0 9) (w32 ((w32 (x1 * 5)) + (rd_ h (rf_ h x0 6) x1))) (rd_ h x0 2)) x0 2) x2) (rf_ h x0 11) (rd_ (wr_ (wr_ h (rf_ h x0 9) (w32 ((w32 (x1 * 5)) + (rd_ h (rf_ h x0 6) x1))) (rd_ h x0 2)) (rf_ h x0 10) (rd_ (wr_ h (rf_ h x0 9) (w32 ((w32 (x1 * 5)) + (rd_ h (rf_ h x0 6) x1))) (rd_ h x0 2)) x0 2) x2) x0 2) x3) x0 2) 0) (rf_ h x0 6) x1) + 1))) x0 2) + 1)), 0))))))))))))))))))))))))))) := (jj_of bk_92_3 _ _ h).trans ((ff_of bk_92_3 [(20, x0), (0, x1), (0, x2), (0, x3)] [] h).trans (by
  show (ck_ (0 ≤ x0) (ck_ (0 ≤ x0) (ck_ (0 ≤ (rf_ h x0 6)) (ck_ (0 ≤ x1 ∧ x1 < ln_ h (rf_ h x0 6)) (ck_ (0 ≤ x0) (ck_ (0 ≤ (rf_ h x0 9)) (ck_ (0 ≤ (w32 ((w32 (x1 * 5)) + (rd_ h (rf_ h x0 6) x1))) ∧ (w32 ((w32 (x1 * 5)) + (rd_ h (rf_ h x0 6) x1))) < ln_ h (rf_ h x0 9)) (ck_ (0 ≤ x0) (ck_ (0 ≤ x0) (ck_ (0 ≤ (rf_ h x0 10)) (ck_ (0 ≤ (rd_ (wr_ h (rf_ h x0 9) (w32 ((w32 (x1 * 5)) + (rd_ h (rf_ h x0 6) x1))) (rd_ h x0 2)) x0 2) ∧ (rd_ (wr_ h (rf_ h x0 9) (w32 ((w32 (x1 * 5)) + (rd_ h (rf_ h x0 6) x1))) (rd_ h x0 2)) x0 2) < ln_ h (rf_ h x0 10)) (ck_ (0 ≤ x0) (ck_ (0 ≤ x0) (ck_ (0 ≤ (rf_ h x0 11)) (ck_ (0 ≤ (rd_ (wr_ (wr_ h (rf_ h x0 9) (w32 ((w32 (x1 * 5)) + (rd_ h (rf_ h x0 6) x1))) (rd_ h x0 2)) (rf_ h x0 10) (rd_ (wr_ h (rf_ h x0 9) (w32 ((w32 (x1 * 5)) + (rd_ h (rf_ h x0 6) x1))) (rd_ h x0 2)) x0 2) x2) x0 2) ∧ (rd_ (wr_ (wr_ h (rf_ h x0 9) (w32 ((w32 (x1 * 5)) + (rd_ h (rf_ h x0 6) x1))) (rd_ h x0 2)) (rf_ h x0 10) (rd_ (wr_ h (rf_ h x0 9) (w32 ((w32 (x1 * 5)) + (rd_ h (rf_ h x0 6) x1))) (rd_ h x0 2)) x0 2) x2) x0 2) < ln_ h (rf_ h x0 11)) (ck_ (0 ≤ x0) (ck_ (0 ≤ x0) (ck_ (0 ≤ (rf_ h x0 12)) (ck_ (0 ≤ (rd_ (wr_ (wr_ (wr_ h (rf_ h x0 9) (w32 ((w32 (x1 * 5)) + (rd_ h (rf_ h x0 6) x1))) (rd_ h x0 2)) (rf_ h x0 10) (rd_ (wr_ h (rf_ h x0 9) (w32 ((w32 (x1 * 5)) + (rd_ h (rf_ h x0 6) x1))) (rd_ h x0 2)) x0 2) x2) (rf_ h x0 11) (rd_ (wr_ (wr_ h (rf_ h x0 9) (w32 ((w32 (x1 * 5)) + (rd_ h (rf_ h x0 6) x1))) (rd_ h x0 2)) (rf_ h x0 10) (rd_ (wr_ h (rf_ h x0 9) (w32 ((w32 (x1 * 5)) + (rd_ h (rf_ h x0 6) x1))) (rd_ h x0 2)) x0 2) x2) x0 2) x3) x0 2) ∧ (rd_ (wr_ (wr_ (wr_ h (rf_ h x0 9) (w32 ((w32 (x1 * 5)) + (rd_ h (rf_ h x0 6) x1))) (rd_ h x0 2)) (rf_ h x0 10) (rd_ (wr_ h (rf_ h x0 9) (w32 ((w32 (x1 * 5)) + (rd_ h (rf_ h x0 6) x1))) (rd_ h x0 2)) x0 2) x2) (rf_ h x0 11) (rd_ (wr_ (wr_ h (rf_ h x0 9) (w32 ((w32 (x1 * 5)) + (rd_ h (rf_ h x0 6) x1))) (rd_ h x0 2)) (rf_ h x0 10) (rd_ (wr_ h (rf_ h x0 9) (w32 ((w32 (x1 * 5)) + (rd_ h (rf_ h x0 6) x1))) (rd_ h x0 2)) x0 2) x2) x0 2) x3) x0 2) < ln_ h (rf_ h x0 12)) (ck_ (0 ≤ x0) (ck_ (0 ≤ (rf_ h x0 6)) (ck_ (0 ≤ x1 ∧ x1 < ln_ h (rf_ h x0 6)) (ck_ (0 ≤ (rf_ h x0 6)) (ck_ (0 ≤ x1 ∧ x1 < ln_ h (rf_ h x0 6)) (ck_ (0 ≤ x0) (ck_ (0 ≤ x0) (JJ 92 4 [(20, x0), (0, x1), (0, x2), (0, x3)] [] (wr_ (wr_ (wr_ (wr_ (wr_ (wr_ h (rf_ h x0 9) (w32 ((w32 (x1 * 5)) + (rd_ h (rf_ h x0 6) x1))) (rd_ h x0 2)) (rf_ h x0 10) (rd_ (wr_ h (rf_ h x0 9) (w32 ((w32 (x1 * 5)) + (rd_ h (rf_ h x0 6) x1))) (rd_ h x0 2)) x0 2) x2) (rf_ h x0 11) (rd_ (wr_ (wr_ h (rf_ h x0 9) (w32 ((w32 (x1 * 5)) + (rd_ h (rf_ h x0 6) x1))) (rd_ h x0 2)) (rf_ h x0 10) (rd_ (wr_ h (rf_ h x0 9) (w32 ((w32 (x1 * 5)) + (rd_ h (rf_ h x0 6) x1))) (rd_ h x0 2)) x0 2) x2) x0 2) x3) (rf_ h x0 12) (rd_ (wr_ (wr_ (wr_ h (rf_ h x0 9) (w32 ((w32 (x1 * 5)) + (rd_ h (rf_ h x0 6) x1))) (rd_ h x0 2)) (rf_ h x0 10) (rd_ (wr_ h (rf_ h x0 9) (w32 ((w32 (x1 * 5)) + (rd_ h (rf_ h x0 6) x1))) (rd_ h x0 2)) x0 2) x2) (rf_ h x0 11) (rd_ (wr_ (wr_ h (rf_ h x0 9) (w32 ((w32 (x1 * 5)) + (rd_ h (rf_ h x0 6) x1))) (rd_ h x0 2)) (rf_ h x0 10) (rd_ (wr_ h (rf_ h x0 9) (w32 ((w32 (x1 * 5)) + (rd_ h (rf_ h x0 6) x1))) (rd_ h x0 2)) x0 2) x2) x0 2) x3) x0 2) 0) (rf_ h x0 6) x1 (w32 ((rd_ (wr_ (wr_ (wr_ (wr_ h (rf_ h x0 9) (w32 ((w32 (x1 * 5)) + (rd_ h (rf_ h x0 6) x1))) (rd_ h x0 2)) (rf_ h x0 10) (rd_ (wr_ h (rf_ h x0 9) (w32 ((w32 (x1 * 5)) + (rd_ h (rf_ h x0 6) x1))) (rd_ h x0 2)) x0 2) x2) (rf_ h x0 11) (rd_ (wr_ (wr_ h (rf_ h x0 9) (w32 ((w32 (x1 * 5)) + (rd_ h (rf_ h x0 6) x1))) (rd_ h x0 2)) (rf_ h x0 10) (rd_ (wr_ h (rf_ h x0 9) (w32 ((w32 (x1 * 5)) + (rd_ h (rf_ h x0 6) x1))) (rd_ h x0 2)) x0 2) x2) x0 2) x3) (rf_ h x0 12) (rd_ (wr_ (wr_ (wr_ h (rf_ h x0 9) (w32 ((w32 (x1 * 5)) + (rd_ h (rf_ h x0 6) x1))) (rd_ h x0 2)) (rf_ h x0 10) (rd_ (wr_ h (rf_ h x0 9) (w32 ((w32 (x1 * 5)) + (rd_ h (rf_ h x0 6) x1))) (rd_ h x0 2)) x0 2) x2) (rf_ h x0 11) (rd_ (wr_ (wr_ h (rf_ h x0 9) (w32 ((w32 (x1 * 5)) + (rd_ h (rf_ h x0 6) x1))) (rd_ h x0 2)) (rf_ h x0 10) (rd_ (wr_ h (rf_ h x0 9) (w32 ((w32 (x1 * 5)) + (rd_ h (rf_ h x0 6) x1))) (rd_ h x0 2)) x0 2) x2) x0 2) x3) x0 2) 0) (rf_ h x0 6) x1) + 1))) x0 2 (w32 ((rd_ (wr_ (wr_ (wr_ (wr_ (wr_ h (rf_ h x0 9) (w32 ((w32 (x1 * 5)) + (rd_ h (rf_ h x0 6) x1))) (rd_ h x0 2)) (rf_ h x0 10) (rd_ (wr_ h (rf_ h x0 9) (w32 ((w32 (x1 * 5)) + (rd_ h (rf_ h x0 6) x1))) (rd_ h x0 2)) x0 2) x2) (rf_ h x0 11) (rd_ (wr_ (wr_ h (rf_ h x0 9) (w32 ((w32 (x1 * 5)) + (rd_ h (rf_ h x0 6) x1))) (rd_ h x0 2)) (rf_ h x0 10) (rd_ (wr_ h (rf_ h x0 9) (w32 ((w32 (x1 * 5)) + (rd_ h (rf_ h x0 6) x1))) (rd_ h x0 2)) x0 2) x2) x0 2) x3) (rf_ h x0 12) (rd_ (wr_ (wr_ (wr_ h (rf_ h x0 9) (w32 ((w32 (x1 * 5)) + (rd_ h (rf_ h x0 6) x1))) (rd_ h x0 2)) (rf_ h x0 10) (rd_ (wr_ h (rf_ h x0 9) (w32 ((w32 (x1 * 5)) + (rd_ h (rf_ h x0 6) x1))) (rd_ h x0 2)) x0 2) x2) (rf_ h x0 11) (rd_ (wr_ (wr_ h (rf_ h x0 9) (w32 ((w32 (x1 * 5)) + (rd_ h (rf_ h x0 6) x1))) (rd_ h x0 2)) (rf_ h x0 10) (rd_ (wr_ h (rf_ h x0 9) (w32 ((w32 (x1 * 5)) + (rd_ h (rf_ h x0 6) x1))) (rd_ h x0 2)) x0 2) x2) x0 2) x3) x0 2) 0) (rf_ h x0 6) x1 (w32 ((rd_ (wr_ (wr_ (wr_ (wr_ h (rf_ h x0 9) (w32 ((w32 (x1 * 5)) + (rd_ h (rf_ h x0 6) x1))) (rd_ h x0 2)) (rf_ h x0 10) (rd_ (wr_ h (rf_ h x0 9) (w32 ((w32 (x1 * 5)) + (rd_ h (rf_ h x0 6) x1))) (rd_ h x0 2)) x0 2) x2) (rf_ h x0 11) (rd_ (wr_ (wr_ h (rf_ h x0 9) (w32 ((w32 (x1 * 5)) + (rd_ h (rf_ h x0 6) x1))) (rd_ h x0 2)) (rf_ h x0 10) (rd_ (wr_ h (rf_ h x0 9) (w32 ((w32 (x1 * 5)) + (rd_ h (rf_ h x0 6) x1))) (rd_ h x0 2)) x0 2) x2) x0 2) x3) (rf_ h x0 12) (rd_ (wr_ (wr_ (wr_ h (rf_ h x0 9) (w32 ((w32 (x1 * 5)) + (rd_ h (rf_ h x0 6) x1))) (rd_ h x0 2)) (rf_ h x0 10) (rd_ (wr_ h (rf_ h x0 9) (w32 ((w32 (x1 * 5)) + (rd_ h (rf_ h x0 6) x1))) (rd_ h x0 2)) x0 2) x2) (rf_ h x0 11) (rd_ (wr_ (wr_ h (rf_ h x0 9) (w32 ((w32 (x1 * 5)) + (rd_ h (rf_ h x0 6) x1))) (rd_ h x0 2)) (rf_ h x0 10) (rd_ (wr_ h (rf_ h x0 9) (w32 ((w32 (x1 * 5)) + (rd_ h (rf_ h x0 6) x1))) (rd_ h x0 2)) x0 2) x2) x0 2) x3) x0 2) 0) (rf_ h x0 6) x1) + 1))) x0 2) + 1)))))))))))))))))))))))))))))) = _
  simp only [jt_92_4, ck_or1, ck_or2, rf_wr, ln_wr, nn_wr, rf_cp, ln_cp, nn_cp, ln_wf, nn_wf, rd_wf, nn_nw]
  try rfl))
set_option maxRecDepth 20000 in
theorem jt_92_2 (h : am_H) (x0 x1 x2 x3 : Int) : JJ 92 2 [(20, x0), (0, x1), (0, x2), (0, x3)] [] h = ck_ (0 ≤ x0) (if 20 ≤ (rd_ h x0 2) then some (h, 0) else ck_ (0 ≤ x0) (ck_ (0 ≤ x0) (ck_ (0 ≤ (rf_ h x0 6)) (ck_ (0 ≤ x1 ∧ x1 < ln_ h (rf_ h x0 6)) (ck_ (0 ≤ x0) (ck_ (0 ≤ (rf_ h x0 9)) (ck_ (0 ≤ (w32 ((w32 (x1 * 5)) + (rd_ h (rf_ h x0 6) x1))) ∧ (w32 ((w32 (x1 * 5)) + (rd_ h (rf_ h x0 6) x1))) < ln_ h (rf_ h x0 9)) (ck_ (0 ≤ x0) (ck_ (0 ≤ x0) (ck_ (0 ≤ (rf_ h x0 10)) (ck_ (0 ≤ (rd_ (wr_ h (rf_ h x0 9) (w32 ((w32 (x1 * 5)) + (rd_ h (rf_ h x0 6) x1))) (rd_ h x0 2)) x0 2) ∧ (rd_ (wr_ h (rf_ h x0 9) (w32 ((w32 (x1 * 5)) + (rd_ h (rf_ h x0 6) x1))) (rd_ h x0 2)) x0 2) < ln_ h (rf_ h x0 10)) (ck_ (0 ≤ x0) (ck_ (0 ≤ x0) (ck_ (0 ≤ (rf_ h x0 11)) (ck_ (0 ≤ (rd_ (wr_ (wr_ h (rf_ h x0 9) (w32 ((w32 (x1 * 5)) + (rd_ h (rf_ h x0 6) x1))) (rd_ h x0 2)) (rf_ h x0 10) (rd_ (wr_ h (rf_ h x0 9) (w32 ((w32 (x1 * 5)) + (rd_ h (rf_ h x0 6) x1))) (rd_ h x0 2)) x0 2) x2) x0 2) ∧ (rd_ (wr_ (wr_ h (rf_ h x0 9) (w32 ((w32 (x1 * 5)) + (rd_ h (rf_ h x0 6) x1))) (rd_ h x0 2)) (rf_ h x0 10) (rd_ (wr_ h (rf_ h x0 9) (w32 ((w32 (x1 * 5)) + (rd_ h (rf_ h x0 6) x1))) (rd_ h x0 2)) x0 2) x2) x0 2) < ln_ h (rf_ h x0 11)) (ck_ (0 ≤ x0) (ck_ (0 ≤ x0) (ck_ (0 ≤ (rf_ h x0 12)) (ck_ (0 ≤ (rd_ (wr_ (wr_ (wr_ h (rf_ h x0 9) (w32 ((w32 (x1 * 5)) + (rd_ h (rf_ h x0 6) x1))) (rd_ h x0 2)) (rf_ h x0 10) (rd_ (wr_ h (rf_ h x0 9) (w32 ((w32 (x1 * 5)) + (rd_ h (rf_ h x0 6) x1))) (rd_ h x0 2)) x0 2) x2) (rf_ h x0 11) (rd_ (wr_ (wr_ h (rf_ h x0 9) (w32 ((w32 (x1 * 5)) + (rd_ h (rf_ h x0 6) x1))) (rd_ h x0 2)) (rf_ h x0 10) (rd_ (wr_ h (rf_ h x0 9) (w32 ((w32 (x1 * 5)) + (rd_ h (rf_ h x0 6) x1))) (rd_ h x0 2)) x0 2) x2) x0 2) x3) x0 2) ∧ (rd_ (wr_ (wr_ (wr_ h (rf_ h x0 9) (w32 ((w32 (x1 * 5)) + (rd_ h (rf_ h x0 6) x1))) (rd_ h x0 2)) (rf_ h x0 10) (rd_ (wr_ h (rf_ h x0 9) (w32 ((w32 (x1 * 5)) + (rd_ h (rf_ h x0 6) x1))) (rd_ h x0 2)) x0 2) x2) (rf_ h x0 11) (rd_ (wr_ (wr_ h (rf_ h x0 9) (w32 ((w32 (x1 * 5)) + (rd_ h (rf_ h x0 6) x1))) (rd_ h x0 2)) (rf_ h x0 10) (rd_ (wr_ h (rf_ h x0 9) (w32 ((w32 (x1 * 5)) + (rd_ h (rf_ h x0 6) x1))) (rd_ h x0 2)) x0 2) x2) x0 2) x3) x0 2) < ln_ h (rf_ h x0 12)) (ck_ (0 ≤ x0) (ck_ (0 ≤ (rf_ h x0 6)) (ck_ (0 ≤ x1 ∧ x1 < ln_ h (rf_ h x0 6)) (ck_ (0 ≤ (rf_ h x0 6)) (ck_ (0 ≤ x1 ∧ x1 < ln_ h (rf_ h x0 6)) (ck_ (0 ≤ x0) (ck_ (0 ≤ x0) (some (wr_ (wr_ (wr_ (wr_ (wr_ (wr_ h (rf_ h x0 9) (w32 ((w32 (x1 * 5)) + (rd_ h (rf_ h x0 6) x1))) (rd_ h x0 2)) (rf_ h x0 10) (rd_ (wr_ h (rf_ h x0 9) (w32 ((w32 (x1 * 5)) + (rd_ h (rf_ h x0 6) x1))) (rd_ h x0 2)) x0 2) x2) (rf_ h x0 11) (rd_ (wr_ (wr_ h (rf_ h x0 9) (w32 ((w32 (x1 * 5)) + (rd_ h (rf_ h x0 6) x1))) (rd_ h x0 2)) (rf_ h x0 10) (rd_ (wr_ h (rf_ h x0 9) (w32 ((w32 (x1 * 5)) + (rd_ h (rf_ h x0 6) x1))) (rd_ h x0 2)) x0 2) x2) x0 2) x3) (rf_ h x0 12) (rd_ (wr_ (wr_ (wr_ h (rf_ h x0 9) (w32 ((w32 (x1 * 5)) + (rd_ h (rf_ h x0 6) x1))) (rd_ h x0 2)) (rf_ h x0 10) (rd_ (wr_ h (rf_ h x0 9) (w32 ((w32 (x1 * 5)) + (rd_ h (rf_ h x0 6) x1))) (rd_ h x0 2)) x0 2) x2) (rf_ h x0 11) (rd_ (wr_ (wr_ h (rf_ h x0 9) (w32 ((w32 (x1 * 5)) + (rd_ h (rf_ h x0 6) x1))) (rd_ h x0 2)) (rf_ h x0 10) (rd_ (wr_ h (rf_ h x0 9) (w32 ((w32 (x1 * 5)) + (rd_ h (rf_ h x0 6) x1))) (rd_ h x0 2)) x0 2) x2) x0 2) x3) x0 2) 0) (rf_ h x0 6) x1 (w32 ((rd_ (wr_ (wr_ (wr_ (wr_ h (rf_ h x0 9) (w32 ((w32 (x1 * 5)) + (rd_ h (rf_ h x0 6) x1))) (rd_ h x0 2)) (rf_ h x0 10) (rd_ (wr_ h (rf_ h x0 9) (w32 ((w32 (x1 * 5)) + (rd_ h (rf_ h x0 6) x1))) (rd_ h x0 2)) x0 2) x2) (rf_ h x0 11) (rd_ (wr_ (wr_ h (rf_ h x0 9) (w32 ((w32 (x1 * 5)) + (rd_ h (rf_ h x0 6) x1))) (rd_ h x0 2)) (rf_ h x0 10) (rd_ (wr_ h (rf_ h x0 9) (w32 ((w32 (x1 * 5)) + (rd_ h (rf_ h x0 6) x1))) (rd_ h x0 2)) x0 2) x2) x0 2) x3) (rf_ h x0 12) (rd_ (wr_ (wr_ (wr_ h (rf_ h x0 9) (w32 ((w32 (x1 * 5)) + (rd_ h (rf_ h x0 6) x1))) (rd_ h x0 2)) (rf_ h x0 10) (rd_ (wr_ h (rf_ h x0 9) (w32 ((w32 (x1 * 5)) + (rd_ h (rf_ h x0 6) x1))) (rd_ h x0 2)) x0 2) x2) (rf_ h x0 11) (rd_ (wr_ (wr_ h (rf_ h x0 9) (w32 ((w32 (x1 * 5)) + (rd_ h (rf_ h x0 6) x1))) (rd_ h x0 2)) (rf_ h x0 10) (rd_ (wr_ h (rf_ h x0 9) (w32 ((w32 (x1 * 5)) + (rd_ h (rf_ h x0 6) x1))) (rd_ h x0 2)) x0 2) x2) x0 2) x3) x0 2) 0) (rf_ h x0 6) x1) + 1))) x0 2 (w32 ((rd_ (wr_ (wr_ (wr_ (wr_ (wr_ h (rf_ h x0 9) (w32 ((w32 (x1 * 5)) + (rd_ h (rf_ h x0 6) x1))) (rd_ h x0 2)) (rf_ h x0 10) (rd_ (wr_ h (rf_ h x0 9) (w32 ((w32 (x1 * 5)) + (rd_ h (rf_ h x0 6) x1))) (rd_ h x0 2)) x0 2) x2) (rf_ h x0 11) (rd_ (wr_ (wr_ h (rf_ h x0 9) (w32 ((w32 (x1 * 5)) + (rd_ h (rf_ h x0 6) x1))) (rd_ h x0 2)) (rf_ h x0 10) (rd_ (wr_ h (rf_ h x0 9) (w32 ((w32 (x1 * 5)) + (rd_ h (rf_ h x0 6) x1))) (rd_ h x0 2)) x0 2) x2) x0 2) x3) (rf_ h x0 12) (rd_ (wr_ (wr_ (wr_ h (rf_ h x0 9) (w32 ((w32 (x1 * 5)) + (rd_ h (rf_ h x0 6) x1))) (rd_ h x0 2)) (rf_ h x0 10) (rd_ (wr_ h (rf_ h x0 9) (w32 ((w32 (x1 * 5)) + (rd_ h (rf_ h x0 6) x1))) (rd_ h x0 2)) x0 2) x2) (rf_ h x0 11) (rd_ (wr_ (wr_ h (rf_ h x0 9) (w32 ((w32 (x1 * 5)) + (rd_ h (rf_ h x0 6) x1))) (rd_ h x0 2)) (rf_ h x0 10) (rd_ (wr_ h (rf_ h x0 9) (w32 ((w32 (x1 * 5)) + (rd_ h (rf_ h x0 6) x1))) (rd_ h x0 2)) x0 2) x2) x0 2) x3) x0 2) 0) (rf_ h x0 6) x1 (w32 ((rd_ (wr_ (wr_ (wr_ (wr_ h (rf_ h x0 9) (w32 ((w32 (x1 * 5)) + (rd_ h (rf_ h x0 6) x1))) (rd_ h x0 2)) (rf_ h x0 10) (rd_ (wr_ h (rf_ h x0 9) (w32 ((w32 (x1 * 5)) + (rd_ h (rf_ h x0 6) x1))) (rd_ h x0 2)) x0 2) x2) (rf_ h x0 11) (rd_ (wr_ (wr_ h (rf_ h x0 9) (w32 ((w32 (x1 * 5)) + (rd_ h (rf_ h x0 6) x1))) (rd_ h x0 2)) (rf_ h x0 10) (rd_ (wr_ h (rf_ h x0 9) (w32 ((w32 (x1 * 5)) + (rd_ h (rf_ h x0 6) x1))) (rd_ h x0 2)) x0 2) x2) x0 2) x3) (rf_ h x0 12) (rd_ (wr_ (wr_ (wr_ h (rf_ h x0 9) (w32 ((w32 (x1 * 5)) + (rd_ h (rf_ h x0 6) x1))) (rd_ h x0 2)) (rf_ h x0 10) (rd_ (wr_ h (rf_ h x0 9) (w32 ((w32 (x1 * 5)) + (rd_ h (rf_ h x0 6) x1))) (rd_ h x0 2)) x0 2) x2) (rf_ h x0 11) (rd_ (wr_ (wr_ h (rf_ h x0 9) (w32 ((w32 (x1 * 5)) + (rd_ h (rf_ h x0 6) x1))) (rd_ h x0 2)) (rf_ h x0 10) (rd_ (wr_ h (rf_ h x0 9) (w32 ((w32 (x1 * 5)) + (rd_ h (rf_ h x0 6) x1))) (rd_ h x0 2)) x0 2) x2) x0 2) x3) x0 2) 0) (rf_ h x0 6) x1) + 1))) x0 2) + 1)), 0)))))))))))))))))))))))))))) := (jj_of bk_92_2 _ _ h).trans ((ff_of bk_92_2 [(20, x0), (0, x1), (0, x2), (0, x3)] [] h).trans (by
  show (ck_ (0 ≤ x0) (if 20 ≤ (rd_ h x0 2) then JJ 92 4 [(20, x0), (0, x1), (0, x2), (0, x3)] [] h else JJ 92 3 [(20, x0), (0, x1), (0, x2), (0, x3)] [] h)) = _
  simp only [jt_92_3, jt_92_4, ck_or1, ck_or2, rf_wr, ln_wr, nn_wr, rf_cp, ln_cp, nn_cp, ln_wf, nn_wf, rd_wf, nn_nw]
  try rfl))
set_option maxRecDepth 20000 in
theorem jt_92_1 (h : am_H) (x0 x1 x2 x3 : Int) : JJ 92 1 [(20, x0), (0, x1), (0, x2), (0, x3)] [] h = ck_ (0 ≤ x0) (ck_ (0 ≤ (rf_ h x0 6)) (ck_ (0 ≤ x1 ∧ x1 < ln_ h (rf_ h x0 6)) (if 5 ≤ (rd_ h (rf_ h x0 6) x1) then some (h, 0) else ck_ (0 ≤ x0) (if 20 ≤ (rd_ h x0 2) then some (h, 0) else ck_ (0 ≤ x0) (ck_ (0 ≤ x0) (ck_ (0 ≤ (rf_ h x0 6)) (ck_ (0 ≤ x1 ∧ x1 < ln_ h (rf_ h x0 6)) (ck_ (0 ≤ x0) (ck_ (0 ≤ (rf_ h x0 9)) (ck_ (0 ≤ (w32 ((w32 (x1 * 5)) + (rd_ h (rf_ h x0 6) x1))) ∧ (w32 ((w32 (x1 * 5)) + (rd_ h (rf_ h x0 6) x1))) < ln_ h (rf_ h x0 9)) (ck_ (0 ≤ x0) (ck_ (0 ≤ x0) (ck_ (0 ≤ (rf_ h x0 10)) (ck_ (0 ≤ (rd_ (wr_ h (rf_ h x0 9) (w32 ((w32 (x1 * 5)) + (rd_ h (rf_ h x0 6) x1))) (rd_ h x0 2)) x0 2) ∧ (rd_ (wr_ h (rf_ h x0 9) (w32 ((w32 (x1 * 5)) + (rd_ h (rf_ h x0 6) x1))) (rd_ h x0 2)) x0 2) < ln_ h (rf_ h x0 10)) (ck_ (0 ≤ x0) (ck_ (0 ≤ x0) (ck_ (0 ≤ (rf_ h x0 11)) (ck_ (0 ≤ (rd_ (wr_ (wr_ h (rf_ h x0 9) (w32 ((w32 (x1 * 5)) + (rd_ h (rf_ h x0 6) x1))) (rd_ h x0 2)) (rf_ h x0 10) (rd_ (wr_ h (rf_ h x0 9) (w32 ((w32 (x1 * 5)) + (rd_ h (rf_ h x0 6) x1))) (rd_ h x0 2)) x0 2) x2) x0 2) ∧ (rd_ (wr_ (wr_ h (rf_ h x0 9) (w32 ((w32 (x1 * 5)) + (rd_ h (rf_ h x0 6) x1))) (rd_ h x0 2)) (rf_ h x0 10) (rd_ (wr_ h (rf_ h x0 9) (w32 ((w32 (x1 * 5)) + (rd_ h (rf_ h x0 6) x1))) (rd_ h x0 2)) x0 2) x2) x0 2) < ln_ h (rf_ h x0 11)) (ck_ (0 ≤ x0) (ck_ (0 ≤ x0) (ck_ (0 ≤ (rf_ h x0 12)) (ck_ (0 ≤ (rd_ (wr_ (wr_ (wr_ h (rf_ h x0 9) (w32 ((w32 (x1 * 5)) + (rd_ h (rf_ h x0 6) x1))) (rd_ h x0 2)) (rf_ h x0 10) (rd_ (wr_ h (rf_ h x0 9) (w32 ((w32 (x1 * 5)) + (rd_ h (rf_ h x0 6) x1))) (rd_ h x0 2)) x0 2) x2) (rf_ h x0 11) (rd_ (wr_ (wr_ h (rf_ h x0 9) (w32 ((w32 (x1 * 5)) + (rd_ h (rf_ h x0 6) x1))) (rd_ h x0 2)) (rf_ h x0 10) (rd_ (wr_ h (rf_ h x0 9) (w32 ((w32 (x1 * 5)) + (rd_ h (rf_ h x0 6) x1))) (rd_ h x0 2)) x0 2) x2) x0 2) x3) x0 2) ∧ (rd_ (wr_ (wr_ (wr_ h (rf_ h x0 9) (w32 ((w32 (x1 * 5)) + (rd_ h (rf_ h x0 6) x1))) (rd_ h x0 2)) (rf_ h x0 10) (rd_ (wr_ h (rf_ h x0 9) (w32 ((w32 (x1 * 5)) + (rd_ h (rf_ h x0 6) x1))) (rd_ h x0 2)) x0 2) x2) (rf_ h x0 11) (rd_ (wr_ (wr_ h (rf_ h x0 9) (w32 ((w32 (x1 * 5)) + (rd_ h (rf_ h x0 6) x1))) (rd_ h x0 2)) (rf_ h x0 10) (rd_ (wr_ h (rf_ h x0 9) (w32 ((w32 (x1 * 5)) + (rd_ h (rf_ h x0 6) x1))) (rd_ h x0 2)) x0 2) x2) x0 2) x3) x0 2) < ln_ h (rf_ h x0 12)) (ck_ (0 ≤ x0) (ck_ (0 ≤ (rf_ h x0 6)) (ck_ (0 ≤ x1 ∧ x1 < ln_ h (rf_ h x0 6)) (ck_ (0 ≤ (rf_ h x0 6)) (ck_ (0 ≤ x1 ∧ x1 < ln_ h (rf_ h x0 6)) (ck_ (0 ≤ x0) (ck_ (0 ≤ x0) (some (wr_ (wr_ (wr_ (wr_ (wr_ (wr_ h (rf_ h x0 9) (w32 ((w32 (x1 * 5)) + (rd_ h (rf_ h x0 6) x1))) (rd_ h x0 2)) (rf_ h x0 10) (rd_ (wr_ h (rf_ h x0 9) (w32 ((w32 (x1 * 5)) + (rd_ h (rf_ h x0 6) x1))) (rd_ h x0 2)) x0 2) x2) (rf_ h x0 11) (rd_ (wr_ (wr_ h (rf_ h x0 9) (w32 ((w32 (x1 * 5)) + (rd_ h (rf_ h x0 6) x1))) (rd_ h x0 2)) (rf_ h x0 10) (rd_ (wr_ h (rf_ h x0 9) (w32 ((w32 (x1 * 5)) + (rd_ h (rf_ h x0 6) x1))) (rd_ h x0 2)) x0 2) x2) x0 2) x3) (rf_ h x0 12) (rd_ (wr_ (wr_ (wr_ h (rf_ h x0 9) (w32 ((w32 (x1 * 5)) + (rd_ h (rf_ h x0 6) x1))) (rd_ h x0 2)) (rf_ h x0 10) (rd_ (wr_ h (rf_ h x0 9) (w32 ((w32 (x1 * 5)) + (rd_ h (rf_ h x0 6) x1))) (rd_ h x0 2)) x0 2) x2) (rf_ h x0 11) (rd_ (wr_ (wr_ h (rf_ h x0 9) (w32 ((w32 (x1 * 5)) + (rd_ h (rf_ h x0 6) x1))) (rd_ h x0 2)) (rf_ h x0 10) (rd_ (wr_ h (rf_ h x0 9) (w32 ((w32 (x1 * 5)) + (rd_ h (rf_ h x0 6) x1))) (rd_ h x0 2)) x0 2) x2) x0 2) x3) x0 2) 0) (rf_ h x0 6) x1 (w32 ((rd_ (wr_ (wr_ (wr_ (wr_ h (rf_ h x0 9) (w32 ((w32 (x1 * 5)) + (rd_ h (rf_ h x0 6) x1))) (rd_ h x0 2)) (rf_ h x0 10) (rd_ (wr_ h (rf_ h x0 9) (w32 ((w32 (x1 * 5)) + (rd_ h (rf_ h x0 6) x1))) (rd_ h x0 2)) x0 2) x2) (rf_ h x0 11) (rd_ (wr_ (wr_ h (rf_ h x0 9) (w32 ((w32 (x1 * 5)) + (rd_ h (rf_ h x0 6) x1))) (rd_ h x0 2)) (rf_ h x0 10) (rd_ (wr_ h (rf_ h x0 9) (w32 ((w32 (x1 * 5)) + (rd_ h (rf_ h x0 6) x1))) (rd_ h x0 2)) x0 2) x2) x0 2) x3) (rf_ h x0 12) (rd_ (wr_ (wr_ (wr_ h (rf_ h x0 9) (w32 ((w32 (x1 * 5)) + (rd_ h (rf_ h x0 6) x1))) (rd_ h x0 2)) (rf_ h x0 10) (rd_ (wr_ h (rf_ h x0 9) (w32 ((w32 (x1 * 5)) + (rd_ h (rf_ h x0 6) x1))) (rd_ h x0 2)) x0 2) x2) (rf_ h x0 11) (rd_ (wr_ (wr_ h (rf_ h x0 9) (w32 ((w32 (x1 * 5)) + (rd_ h (rf_ h x0 6) x1))) (rd_ h x0 2)) (rf_ h x0 10) (rd_ (wr_ h (rf_ h x0 9) (w32 ((w32 (x1 * 5)) + (rd_ h (rf_ h x0 6) x1))) (rd_ h x0 2)) x0 2) x2) x0 2) x3) x0 2) 0) (rf_ h x0 6) x1) + 1))) x0 2 (w32 ((rd_ (wr_ (wr_ (wr_ (wr_ (wr_ h (rf_ h x0 9) (w32 ((w32 (x1 * 5)) + (rd_ h (rf_ h x0 6) x1))) (rd_ h x0 2)) (rf_ h x0 10) (rd_ (wr_ h (rf_ h x0 9) (w32 ((w32 (x1 * 5)) + (rd_ h (rf_ h x0 6) x1))) (rd_ h x0 2)) x0 2) x2) (rf_ h x0 11) (rd_ (wr_ (wr_ h (rf_ h x0 9) (w32 ((w32 (x1 * 5)) + (rd_ h (rf_ h x0 6) x1))) (rd_ h x0 2)) (rf_ h x0 10) (rd_ (wr_ h (rf_ h x0 9) (w32 ((w32 (x1 * 5)) + (rd_ h (rf_ h x0 6) x1))) (rd_ h x0 2)) x0 2) x2) x0 2) x3) (rf_ h x0 12) (rd_ (wr_ (wr_ (wr_ h (rf_ h x0 9) (w32 ((w32 (x1 * 5)) + (rd_ h (rf_ h x0 6) x1))) (rd_ h x0 2)) (rf_ h x0 10) (rd_ (wr_ h (rf_ h x0 9) (w32 ((w32 (x1 * 5)) + (rd_ h (rf_ h x0 6) x1))) (rd_ h x0 2)) x0 2) x2) (rf_ h x0 11) (rd_ (wr_ (wr_ h (rf_ h x0 9) (w32 ((w32 (x1 * 5)) + (rd_ h (rf_ h x0 6) x1))) (rd_ h x0 2)) (rf_ h x0 10) (rd_ (wr_ h (rf_ h x0 9) (w32 ((w32 (x1 * 5)) + (rd_ h (rf_ h x0 6) x1))) (rd_ h x0 2)) x0 2) x2) x0 2) x3) x0 2) 0) (rf_ h x0 6) x1 (w32 ((rd_ (wr_ (wr_ (wr_ (wr_ h (rf_ h x0 9) (w32 ((w32 (x1 * 5)) + (rd_ h (rf_ h x0 6) x1))) (rd_ h x0 2)) (rf_ h x0 10) (rd_ (wr_ h (rf_ h x0 9) (w32 ((w32 (x1 * 5)) + (rd_ h (rf_ h x0 6) x1))) (rd_ h x0 2)) x0 2) x2) (rf_ h x0 11) (rd_ (wr_ (wr_ h (rf_ h x0 9) (w32 ((w32 (x1 * 5)) + (rd_ h (rf_ h x0 6) x1))) (rd_ h x0 2)) (rf_ h x0 10) (rd_ (wr_ h (rf_ h x0 9) (w32 ((w32 (x1 * 5)) + (rd_ h (rf_ h x0 6) x1))) (rd_ h x0 2)) x0 2) x2) x0 2) x3) (rf_ h x0 12) (rd_ (wr_ (wr_ (wr_ h (rf_ h x0 9) (w32 ((w32 (x1 * 5)) + (rd_ h (rf_ h x0 6) x1))) (rd_ h x0 2)) (rf_ h x0 10) (rd_ (wr_ h (rf_ h x0 9) (w32 ((w32 (x1 * 5)) + (rd_ h (rf_ h x0 6) x1))) (rd_ h x0 2)) x0 2) x2) (rf_ h x0 11) (rd_ (wr_ (wr_ h (rf_ h x0 9) (w32 ((w32 (x1 * 5)) + (rd_ h (rf_ h x0 6) x1))) (rd_ h x0 2)) (rf_ h x0 10) (rd_ (wr_ h (rf_ h x0 9) (w32 ((w32 (x1 * 5)) + (rd_ h (rf_ h x0 6) x1))) (rd_ h x0 2)) x0 2) x2) x0 2) x3) x0 2) 0) (rf_ h x0 6) x1) + 1))) x0 2) + 1)), 0))))))))))))))))))))))))))))))) := (jj_of bk_92_1 _ _ h).trans ((ff_of bk_92_1 [(20, x0), (0, x1), (0, x2), (0, x3)] [] h).trans (by
  show (ck_ (0 ≤ x0) (ck_ (0 ≤ (rf_ h x0 6)) (ck_ (0 ≤ x1 ∧ x1 < ln_ h (rf_ h x0 6)) (if 5 ≤ (rd_ h (rf_ h x0 6) x1) then JJ 92 4 [(20, x0), (0, x1), (0, x2), (0, x3)] [] h else JJ 92 2 [(20, x0), (0, x1), (0, x2), (0, x3)] [] h)))) = _
  simp only [jt_92_2, jt_92_4, ck_or1, ck_or2, rf_wr, ln_wr, nn_wr, rf_cp, ln_cp, nn_cp, ln_wf, nn_wf, rd_wf, nn_nw]
  try rfl))
set_option maxRecDepth 20000 in
theorem Wo_addPlate_e (h : am_H) (x0 x1 x2 x3 : Int) : Wo_addPlate h x0 x1 x2 x3 = ck_ (0 ≤ x0) (bd_ (Wo_hasPile h x0 x1) fun h1 v2 => if v2 = 0 then some (h1, 0) else ck_ (0 ≤ x0) (ck_ (0 ≤ (rf_ h1 x0 6)) (ck_ (0 ≤ x1 ∧ x1 < ln_ h1 (rf_ h1 x0 6)) (if 5 ≤ (rd_ h1 (rf_ h1 x0 6) x1) then some (h1, 0) else ck_ (0 ≤ x0) (if 20 ≤ (rd_ h1 x0 2) then some (h1, 0) else ck_ (0 ≤ x0) (ck_ (0 ≤ x0) (ck_ (0 ≤ (rf_ h1 x0 6)) (ck_ (0 ≤ x1 ∧ x1 < ln_ h1 (rf_ h1 x0 6)) (ck_ (0 ≤ x0) (ck_ (0 ≤ (rf_ h1 x0 9)) (ck_ (0 ≤ (w32 ((w32 (x1 * 5)) + (rd_ h1 (rf_ h1 x0 6) x1))) ∧ (w32 ((w32 (x1 * 5)) + (rd_ h1 (rf_ h1 x0 6) x1))) < ln_ h1 (rf_ h1 x0 9)) (ck_ (0 ≤ x0) (ck_ (0 ≤ x0) (ck_ (0 ≤ (rf_ h1 x0 10)) (ck_ (0 ≤ (rd_ (wr_ h1 (rf_ h1 x0 9) (w32 ((w32 (x1 * 5)) + (rd_ h1 (rf_ h1 x0 6) x1))) (rd_ h1 x0 2)) x0 2) ∧ (rd_ (wr_ h1 (rf_ h1 x0 9) (w32 ((w32 (x1 * 5)) + (rd_ h1 (rf_ h1 x0 6) x1))) (rd_ h1 x0 2)) x0 2) < ln_ h1 (rf_ h1 x0 10)) (ck_ (0 ≤ x0) (ck_ (0 ≤ x0) (ck_ (0 ≤ (rf_ h1 x0 11)) (ck_ (0 ≤ (rd_ (wr_ (wr_ h1 (rf_ h1 x0 9) (w32 ((w32 (x1 * 5)) + (rd_ h1 (rf_ h1 x0 6) x1))) (rd_ h1 x0 2)) (rf_ h1 x0 10) (rd_ (wr_ h1 (rf_ h1 x0 9) (w32 ((w32 (x1 * 5)) + (rd_ h1 (rf_ h1 x0 6) x1))) (rd_ h1 x0 2)) x0 2) x2) x0 2) ∧ (rd_ (wr_ (wr_ h1 (rf_ h1 x0 9) (w32 ((w32 (x1 * 5)) + (rd_ h1 (rf_ h1 x0 6) x1))) (rd_ h1 x0 2)) (rf_ h1 x0 10) (rd_ (wr_ h1 (rf_ h1 x0 9) (w32 ((w32 (x1 * 5)) + (rd_ h1 (rf_ h1 x0 6) x1))) (rd_ h1 x0 2)) x0 2) x2) x0 2) < ln_ h1 (rf_ h1 x0 11)) (ck_ (0 ≤ x0) (ck_ (0 ≤ x0) (ck_ (0 ≤ (rf_ h1 x0 12)) (ck_ (0 ≤ (rd_ (wr_ (wr_ (wr_ h1 (rf_ h1 x0 9) (w32 ((w32 (x1 * 5)) + (rd_ h1 (rf_ h1 x0 6) x1))) (rd_ h1 x0 2)) (rf_ h1 x0 10) (rd_ (wr_ h1 (rf_ h1 x0 9) (w32 ((w32 (x1 * 5)) + (rd_ h1 (rf_ h1 x0 6) x1))) (rd_ h1 x0 2)) x0 2) x2) (rf_ h1 x0 11) (rd_ (wr_ (wr_ h1 (rf_ h1 x0 9) (w32 ((w32 (x1 * 5)) + (rd_ h1 (rf_ h1 x0 6) x1))) (rd_ h1 x0 2)) (rf_ h1 x0 10) (rd_ (wr_ h1 (rf_ h1 x0 9) (w32 ((w32 (x1 * 5)) + (rd_ h1 (rf_ h1 x0 6) x1))) (rd_ h1 x0 2)) x0 2) x2) x0 2) x3) x0 2) ∧ (rd_ (wr_ (wr_ (wr_ h1 (rf_ h1 x0 9) (w32 ((w32 (x1 * 5)) + (rd_ h1 (rf_ h1 x0 6) x1))) (rd_ h1 x0 2)) (rf_ h1 x0 10) (rd_ (wr_ h1 (rf_ h1 x0 9) (w32 ((w32 (x1 * 5)) + (rd_ h1 (rf_ h1 x0 6) x1))) (rd_ h1 x0 2)) x0 2) x2) (rf_ h1 x0 11) (rd_ (wr_ (wr_ h1 (rf_ h1 x0 9) (w32 ((w32 (x1 * 5)) + (rd_ h1 (rf_ h1 x0 6) x1))) (rd_ h1 x0 2)) (rf_ h1 x0 10) (rd_ (wr_ h1 (rf_ h1 x0 9) (w32 ((w32 (x1 * 5)) + (rd_ h1 (rf_ h1 x0 6) x1))) (rd_ h1 x0 2)) x0 2) x2) x0 2) x3) x0 2) < ln_ h1 (rf_ h1 x0 12)) (ck_ (0 ≤ x0) (ck_ (0 ≤ (rf_ h1 x0 6)) (ck_ (0 ≤ x1 ∧ x1 < ln_ h1 (rf_ h1 x0 6)) (ck_ (0 ≤ (rf_ h1 x0 6)) (ck_ (0 ≤ x1 ∧ x1 < ln_ h1 (rf_ h1 x0 6)) (ck_ (0 ≤ x0) (ck_ (0 ≤ x0) (some (wr_ (wr_ (wr_ (wr_ (wr_ (wr_ h1 (rf_ h1 x0 9) (w32 ((w32 (x1 * 5)) + (rd_ h1 (rf_ h1 x0 6) x1))) (rd_ h1 x0 2)) (rf_ h1 x0 10) (rd_ (wr_ h1 (rf_ h1 x0 9) (w32 ((w32 (x1 * 5)) + (rd_ h1 (rf_ h1 x0 6) x1))) (rd_ h1 x0 2)) x0 2) x2) (rf_ h1 x0 11) (rd_ (wr_ (wr_ h1 (rf_ h1 x0 9) (w32 ((w32 (x1 * 5)) + (rd_ h1 (rf_ h1 x0 6) x1))) (rd_ h1 x0 2)) (rf_ h1 x0 10) (rd_ (wr_ h1 (rf_ h1 x0 9) (w32 ((w32 (x1 * 5)) + (rd_ h1 (rf_ h1 x0 6) x1))) (rd_ h1 x0 2)) x0 2) x2) x0 2) x3) (rf_ h1 x0 12) (rd_ (wr_ (wr_ (wr_ h1 (rf_ h1 x0 9) (w32 ((w32 (x1 * 5)) + (rd_ h1 (rf_ h1 x0 6) x1))) (rd_ h1 x0 2)) (rf_ h1 x0 10) (rd_ (wr_ h1 (rf_ h1 x0 9) (w32 ((w32 (x1 * 5)) + (rd_ h1 (rf_ h1 x0 6) x1))) (rd_ h1 x0 2)) x0 2) x2) (rf_ h1 x0 11) (rd_ (wr_ (wr_ h1 (rf_ h1 x0 9) (w32 ((w32 (x1 * 5)) + (rd_ h1 (rf_ h1 x0 6) x1))) (rd_ h1 x0 2)) (rf_ h1 x0 10) (rd_ (wr_ h1 (rf_ h1 x0 9) (w32 ((w32 (x1 * 5)) + (rd_ h1 (rf_ h1 x0 6) x1))) (rd_ h1 x0 2)) x0 2) x2) x0 2) x3) x0 2) 0) (rf_ h1 x0 6) x1 (w32 ((rd_ (wr_ (wr_ (wr_ (wr_ h1 (rf_ h1 x0 9) (w32 ((w32 (x1 * 5)) + (rd_ h1 (rf_ h1 x0 6) x1))) (rd_ h1 x0 2)) (rf_ h1 x0 10) (rd_ (wr_ h1 (rf_ h1 x0 9) (w32 ((w32 (x1 * 5)) + (rd_ h1 (rf_ h1 x0 6) x1))) (rd_ h1 x0 2)) x0 2) x2) (rf_ h1 x0 11) (rd_ (wr_ (wr_ h1 (rf_ h1 x0 9) (w32 ((w32 (x1 * 5)) + (rd_ h1 (rf_ h1 x0 6) x1))) (rd_ h1 x0 2)) (rf_ h1 x0 10) (rd_ (wr_ h1 (rf_ h1 x0 9) (w32 ((w32 (x1 * 5)) + (rd_ h1 (rf_ h1 x0 6) x1))) (rd_ h1 x0 2)) x0 2) x2) x0 2) x3) (rf_ h1 x0 12) (rd_ (wr_ (wr_ (wr_ h1 (rf_ h1 x0 9) (w32 ((w32 (x1 * 5)) + (rd_ h1 (rf_ h1 x0 6) x1))) (rd_ h1 x0 2)) (rf_ h1 x0 10) (rd_ (wr_ h1 (rf_ h1 x0 9) (w32 ((w32 (x1 * 5)) + (rd_ h1 (rf_ h1 x0 6) x1))) (rd_ h1 x0 2)) x0 2) x2) (rf_ h1 x0 11) (rd_ (wr_ (wr_ h1 (rf_ h1 x0 9) (w32 ((w32 (x1 * 5)) + (rd_ h1 (rf_ h1 x0 6) x1))) (rd_ h1 x0 2)) (rf_ h1 x0 10) (rd_ (wr_ h1 (rf_ h1 x0 9) (w32 ((w32 (x1 * 5)) + (rd_ h1 (rf_ h1 x0 6) x1))) (rd_ h1 x0 2)) x0 2) x2) x0 2) x3) x0 2) 0) (rf_ h1 x0 6) x1) + 1))) x0 2 (w32 ((rd_ (wr_ (wr_ (wr_ (wr_ (wr_ h1 (rf_ h1 x0 9) (w32 ((w32 (x1 * 5)) + (rd_ h1 (rf_ h1 x0 6) x1))) (rd_ h1 x0 2)) (rf_ h1 x0 10) (rd_ (wr_ h1 (rf_ h1 x0 9) (w32 ((w32 (x1 * 5)) + (rd_ h1 (rf_ h1 x0 6) x1))) (rd_ h1 x0 2)) x0 2) x2) (rf_ h1 x0 11) (rd_ (wr_ (wr_ h1 (rf_ h1 x0 9) (w32 ((w32 (x1 * 5)) + (rd_ h1 (rf_ h1 x0 6) x1))) (rd_ h1 x0 2)) (rf_ h1 x0 10) (rd_ (wr_ h1 (rf_ h1 x0 9) (w32 ((w32 (x1 * 5)) + (rd_ h1 (rf_ h1 x0 6) x1))) (rd_ h1 x0 2)) x0 2) x2) x0 2) x3) (rf_ h1 x0 12) (rd_ (wr_ (wr_ (wr_ h1 (rf_ h1 x0 9) (w32 ((w32 (x1 * 5)) + (rd_ h1 (rf_ h1 x0 6) x1))) (rd_ h1 x0 2)) (rf_ h1 x0 10) (rd_ (wr_ h1 (rf_ h1 x0 9) (w32 ((w32 (x1 * 5)) + (rd_ h1 (rf_ h1 x0 6) x1))) (rd_ h1 x0 2)) x0 2) x2) (rf_ h1 x0 11) (rd_ (wr_ (wr_ h1 (rf_ h1 x0 9) (w32 ((w32 (x1 * 5)) + (rd_ h1 (rf_ h1 x0 6) x1))) (rd_ h1 x0 2)) (rf_ h1 x0 10) (rd_ (wr_ h1 (rf_ h1 x0 9) (w32 ((w32 (x1 * 5)) + (rd_ h1 (rf_ h1 x0 6) x1))) (rd_ h1 x0 2)) x0 2) x2) x0 2) x3) x0 2) 0) (rf_ h1 x0 6) x1 (w32 ((rd_ (wr_ (wr_ (wr_ (wr_ h1 (rf_ h1 x0 9) (w32 ((w32 (x1 * 5)) + (rd_ h1 (rf_ h1 x0 6) x1))) (rd_ h1 x0 2)) (rf_ h1 x0 10) (rd_ (wr_ h1 (rf_ h1 x0 9) (w32 ((w32 (x1 * 5)) + (rd_ h1 (rf_ h1 x0 6) x1))) (rd_ h1 x0 2)) x0 2) x2) (rf_ h1 x0 11) (rd_ (wr_ (wr_ h1 (rf_ h1 x0 9) (w32 ((w32 (x1 * 5)) + (rd_ h1 (rf_ h1 x0 6) x1))) (rd_ h1 x0 2)) (rf_ h1 x0 10) (rd_ (wr_ h1 (rf_ h1 x0 9) (w32 ((w32 (x1 * 5)) + (rd_ h1 (rf_ h1 x0 6) x1))) (rd_ h1 x0 2)) x0 2) x2) x0 2) x3) (rf_ h1 x0 12) (rd_ (wr_ (wr_ (wr_ h1 (rf_ h1 x0 9) (w32 ((w32 (x1 * 5)) + (rd_ h1 (rf_ h1 x0 6) x1))) (rd_ h1 x0 2)) (rf_ h1 x0 10) (rd_ (wr_ h1 (rf_ h1 x0 9) (w32 ((w32 (x1 * 5)) + (rd_ h1 (rf_ h1 x0 6) x1))) (rd_ h1 x0 2)) x0 2) x2) (rf_ h1 x0 11) (rd_ (wr_ (wr_ h1 (rf_ h1 x0 9) (w32 ((w32 (x1 * 5)) + (rd_ h1 (rf_ h1 x0 6) x1))) (rd_ h1 x0 2)) (rf_ h1 x0 10) (rd_ (wr_ h1 (rf_ h1 x0 9) (w32 ((w32 (x1 * 5)) + (rd_ h1 (rf_ h1 x0 6) x1))) (rd_ h1 x0 2)) x0 2) x2) x0 2) x3) x0 2) 0) (rf_ h1 x0 6) x1) + 1))) x0 2) + 1)), 0)))))))))))))))))))))))))))))))) := (ff_of bk_92_0 [(20, x0), (0, x1), (0, x2), (0, x3)] [] h).trans (by
  show (ck_ (0 ≤ x0) (bd_ (CC 54 [(20, x0), (0, x1)] h) fun h1 v2 => if v2 = 0 then JJ 92 4 [(20, x0), (0, x1), (0, x2), (0, x3)] [] h1 else JJ 92 1 [(20, x0), (0, x1), (0, x2), (0, x3)] [] h1)) = _
  simp only [cc_54, jt_92_1, jt_92_4, ck_or1, ck_or2, rf_wr, ln_wr, nn_wr, rf_cp, ln_cp, nn_cp, ln_wf, nn_wf, rd_wf, nn_nw]
  try rfl)
theorem cc_92 (h : am_H) (x0 x1 x2 x3 : Int) : CC 92 [(20, x0), (0, x1), (0, x2), (0, x3)] h = Wo_addPlate h x0 x1 x2 x3 := cc_of pk_92 _ h
theorem pk_93 : am_prog 93 = some cd_93 := rfl
theorem bk_93_0 : bk_ am_prog 93 0 = some ([true, true, true, false], (bl_93_0, 1)) := bk_of pk_93 rfl
theorem bk_93_1 : bk_ am_prog 93 1 = some ([true, true, true, true], (bl_93_1, 9999)) := bk_of pk_93 rfl
theorem bk_93_2 : bk_ am_prog 93 2 = some ([true, true, true, true], (bl_93_2, 9999)) := bk_of pk_93 rfl
theorem bk_93_3 : bk_ am_prog 93 3 = some ([false, false, false, false], (bl_93_3, 9999)) := bk_of pk_93 rfl
theorem bk_93_4 : bk_ am_prog 93 4 = some ([true, true, true, true], (bl_93_4, 9999)) := bk_of pk_93 rfl
theorem bk_93_5 : bk_ am_prog 93 5 = some ([false, false, false, false], (bl_93_5, 9999)) := bk_of pk_93 rfl
theorem jt_93_1 (h : am_H) (x0 x1 x2 x3 : Int) : JJ 93 1 [(20, x0), (0, x1), (0, x2), (0, x3)] [] h = Wo_hasSize_1 h x0 x1 x2 x3 := jj_of bk_93_1 _ _ h
theorem Wo_hasSize_e (h : am_H) (x0 x1 x2 : Int) : Wo_hasSize h x0 x1 x2 = Wo_hasSize_1 h x0 x1 x2 0 := (ff_of bk_93_0 [(20, x0), (0, x1), (0, x2), (9, 0)] [] h).trans (by
  show (JJ 93 1 [(20, x0), (0, x1), (0, x2), (0, 0)] [] h) = _
  simp only [jt_93_1, ck_or1, ck_or2, rf_wr, ln_wr, nn_wr, rf_cp, ln_cp, nn_cp, ln_wf, nn_wf, rd_wf, nn_nw]
  try rfl)
theorem jt_93_5 (h : am_H) (d0 d1 d2 d3 : am_V) : JJ 93 5 [d0, d1, d2, d3] [] h = some (h, 0) := (jj_of bk_93_5 _ _ h).trans (ff_of bk_93_5 [(9, 0), (9, 0), (9, 0), (9, 0)] [] h)
theorem jt_93_4 (h : am_H) (x0 x1 x2 x3 : Int) : JJ 93 4 [(20, x0), (0, x1), (0, x2), (0, x3)] [] h = Wo_hasSize_1 h x0 x1 x2 (w32 (x3 + 1)) := (jj_of bk_93_4 _ _ h).trans ((ff_of bk_93_4 [(20, x0), (0, x1), (0, x2), (0, x3)] [] h).trans (by
  show (JJ 93 1 [(20, x0), (0, x1), (0, x2), (0, w32 (x3 + 1))] [] h) = _
  simp only [jt_93_1, ck_or1, ck_or2, rf_wr, ln_wr, nn_wr, rf_cp, ln_cp, nn_cp, ln_wf, nn_wf, rd_wf, nn_nw]
  try rfl))
theorem jt_93_3 (h : am_H) (d0 d1 d2 d3 : am_V) : JJ 93 3 [d0, d1, d2, d3] [] h = some (h, 1) := (jj_of bk_93_3 _ _ h).trans (ff_of bk_93_3 [(9, 0), (9, 0), (9, 0), (9, 0)] [] h)
theorem jt_93_2 (h : am_H) (x0 x1 x2 x3 : Int) : JJ 93 2 [(20, x0), (0, x1), (0, x2), (0, x3)] [] h = ck_ (0 ≤ x0) (bd_ (Wo_sizeAt h x0 x1 x3) fun h1 v2 => if v2 ≠ x2 then Wo_hasSize_1 h1 x0 x1 x2 (w32 (x3 + 1)) else some (h1, 1)) := (jj_of bk_93_2 _ _ h).trans ((ff_of bk_93_2 [(20, x0), (0, x1), (0, x2), (0, x3)] [] h).trans (by
  show (ck_ (0 ≤ x0) (bd_ (CC 56 [(20, x0), (0, x1), (0, x3)] h) fun h1 v2 => if v2 ≠ x2 then JJ 93 4 [(20, x0), (0, x1), (0, x2), (0, x3)] [] h1 else JJ 93 3 [(20, x0), (0, x1), (0, x2), (0, x3)] [] h1)) = _
  simp only [cc_56, jt_93_3, jt_93_4, ck_or1, ck_or2, rf_wr, ln_wr, nn_wr, rf_cp, ln_cp, nn_cp, ln_wf, nn_wf, rd_wf, nn_nw]
  try rfl))
theorem Wo_hasSize_1_e (h : am_H) (x0 x1 x2 x3 : Int) : Wo_hasSize_1 h x0 x1 x2 x3 = ck_ (0 ≤ x0) (ck_ (0 ≤ (rf_ h x0 6)) (ck_ (0 ≤ x1 ∧ x1 < ln_ h (rf_ h x0 6)) (if (rd_ h (rf_ h x0 6) x1) ≤ x3 then some (h, 0) else ck_ (0 ≤ x0) (bd_ (Wo_sizeAt h x0 x1 x3) fun h1 v2 => if v2 ≠ x2 then Wo_hasSize_1 h1 x0 x1 x2 (w32 (x3 + 1)) else some (h1, 1))))) := (ff_of bk_93_1 [(20, x0), (0, x1), (0, x2), (0, x3)] [] h).trans (by
  show (ck_ (0 ≤ x0) (ck_ (0 ≤ (rf_ h x0 6)) (ck_ (0 ≤ x1 ∧ x1 < ln_ h (rf_ h x0 6)) (if (rd_ h (rf_ h x0 6) x1) ≤ x3 then JJ 93 5 [(20, x0), (0, x1), (0, x2), (0, x3)] [] h else JJ 93 2 [(20, x0), (0, x1), (0, x2), (0, x3)] [] h)))) = _
  simp only [jt_93_2, jt_93_5, ck_or1, ck_or2, rf_wr, ln_wr, nn_wr, rf_cp, ln_cp, nn_cp, ln_wf, nn_wf, rd_wf, nn_nw]
  try rfl)
theorem cc_93 (h : am_H) (x0 x1 x2 : Int) : CC 93 [(20, x0), (0, x1), (0, x2)] h = Wo_hasSize h x0 x1 x2 := cc_of pk_93 _ h
theorem pk_94 : am_prog 94 = some cd_94 := rfl
theorem bk_94_0 : bk_ am_prog 94 0 = some ([true, true, true], (bl_94_0, 9999)) := bk_of pk_94 rfl
theorem bk_94_1 : bk_ am_prog 94 1 = some ([false, false, false], (bl_94_1, 9999)) := bk_of pk_94 rfl
theorem bk_94_2 : bk_ am_prog 94 2 = some ([true, true, true], (bl_94_2, 9999)) := bk_of pk_94 rfl
theorem bk_94_3 : bk_ am_prog 94 3 = some ([false, false, false], (bl_94_3, 9999)) := bk_of pk_94 rfl
theorem bk_94_4 : bk_ am_prog 94 4 = some ([false, false, false], (bl_94_4, 5)) := bk_of pk_94 rfl
theorem bk_94_5 : bk_ am_prog 94 5 = some ([false, false, false], (bl_94_5, 9999)) := bk_of pk_94 rfl
theorem jt_94_5 (h : am_H) (d0 d1 d2 : am_V) (s0 : Int) : JJ 94 5 [d0, d1, d2] [(0, s0)] h = some (h, s0) := (jj_of bk_94_5 _ _ h).trans (ff_of bk_94_5 [(9, 0), (9, 0), (9, 0)] [(0, s0)] h)
theorem jt_94_4 (h : am_H) (d0 d1 d2 : am_V) : JJ 94 4 [d0, d1, d2] [] h = some (h, 0) := (jj_of bk_94_4 _ _ h).trans ((ff_of bk_94_4 [(9, 0), (9, 0), (9, 0)] [] h).trans (by
  show (JJ 94 5 [(9, 0), (9, 0), (9, 0)] [(0, 0)] h) = _
  simp only [jt_94_5, ck_or1, ck_or2, rf_wr, ln_wr, nn_wr, rf_cp, ln_cp, nn_cp, ln_wf, nn_wf, rd_wf, nn_nw]
  try rfl))
theorem jt_94_3 (h : am_H) (d0 d1 d2 : am_V) : JJ 94 3 [d0, d1, d2] [] h = some (h, 4) := (jj_of bk_94_3 _ _ h).trans ((ff_of bk_94_3 [(9, 0), (9, 0), (9, 0)] [] h).trans (by
  show (JJ 94 5 [(9, 0), (9, 0), (9, 0)] [(0, 4)] h) = _
  simp only [jt_94_5, ck_or1, ck_or2, rf_wr, ln_wr, nn_wr, rf_cp, ln_cp, nn_cp, ln_wf, nn_wf, rd_wf, nn_nw]
  try rfl))
theorem jt_94_2 (h : am_H) (x0 x1 x2 : Int) : JJ 94 2 [(15, x0), (30, x1), (0, x2)] [] h = ck_ (0 ≤ x0) (ck_ (0 ≤ (rf_ h x0 0)) (bd_ (Pp_indexOf h x1 x2 (rd_ h (rf_ h x0 0) 6)) fun h1 v2 => if 0 ≤ v2 then some (h1, 0) else some (h1, 4))) := (jj_of bk_94_2 _ _ h).trans ((ff_of bk_94_2 [(15, x0), (30, x1), (0, x2)] [] h).trans (by
  show (ck_ (0 ≤ x0) (ck_ (0 ≤ (rf_ h x0 0)) (bd_ (CC 41 [(30, x1), (0, x2), (0, rd_ h (rf_ h x0 0) 6)] h) fun h1 v2 => if 0 ≤ v2 then JJ 94 4 [(15, x0), (30, x1), (0, x2)] [] h1 else JJ 94 3 [(15, x0), (30, x1), (0, x2)] [] h1))) = _
  simp only [cc_41, jt_94_3, jt_94_4, ck_or1, ck_or2, rf_wr, ln_wr, nn_wr, rf_cp, ln_cp, nn_cp, ln_wf, nn_wf, rd_wf, nn_nw]
  try rfl))
theorem jt_94_1 (h : am_H) (d0 d1 d2 : am_V) : JJ 94 1 [d0, d1, d2] [] h = some (h, 1) := (jj_of bk_94_1 _ _ h).trans (ff_of bk_94_1 [(9, 0), (9, 0), (9, 0)] [] h)
theorem Re_readToldName_e (h : am_H) (x0 x1 x2 : Int) : Re_readToldName h x0 x1 x2 = ck_ (0 ≤ x0) (ck_ (0 ≤ (rf_ h x0 0)) (bd_ (Tk_step h (rf_ h x0 0)) fun h1 _ => ck_ (0 ≤ x0) (ck_ (0 ≤ (rf_ h1 x0 0)) (if (rd_ h1 (rf_ h1 x0 0) 4) = 3 then ck_ (0 ≤ x0) (ck_ (0 ≤ (rf_ h1 x0 0)) (bd_ (Pp_indexOf h1 x1 x2 (rd_ h1 (rf_ h1 x0 0) 6)) fun h3 v4 => if 0 ≤ v4 then some (h3, 0) else some (h3, 4))) else some (h1, 1))))) := (ff_of bk_94_0 [(15, x0), (30, x1), (0, x2)] [] h).trans (by
  show (ck_ (0 ≤ x0) (ck_ (0 ≤ (rf_ h x0 0)) (bd_ (CC 43 [(17, rf_ h x0 0)] h) fun h1 _ => ck_ (0 ≤ x0) (ck_ (0 ≤ (rf_ h1 x0 0)) (if (rd_ h1 (rf_ h1 x0 0) 4) = 3 then JJ 94 2 [(15, x0), (30, x1), (0, x2)] [] h1 else JJ 94 1 [(15, x0), (30, x1), (0, x2)] [] h1))))) = _
  simp only [cc_43, jt_94_1, jt_94_2, ck_or1, ck_or2, rf_wr, ln_wr, nn_wr, rf_cp, ln_cp, nn_cp, ln_wf, nn_wf, rd_wf, nn_nw]
  try rfl)
theorem cc_94 (h : am_H) (x0 x1 x2 : Int) : CC 94 [(15, x0), (30, x1), (0, x2)] h = Re_readToldName h x0 x1 x2 := cc_of pk_94 _ h
theorem pk_95 : am_prog 95 = some cd_95 := rfl
theorem bk_95_0 : bk_ am_prog 95 0 = some ([true, false, false, false], (bl_95_0, 9999)) := bk_of pk_95 rfl
theorem bk_95_1 : bk_ am_prog 95 1 = some ([false, true, false, false], (bl_95_1, 9999)) := bk_of pk_95 rfl
theorem bk_95_2 : bk_ am_prog 95 2 = some ([true, false, false, false], (bl_95_2, 9999)) := bk_of pk_95 rfl
theorem bk_95_3 : bk_ am_prog 95 3 = some ([true, false, true, false], (bl_95_3, 9999)) := bk_of pk_95 rfl
theorem bk_95_4 : bk_ am_prog 95 4 = some ([false, false, false, false], (bl_95_4, 9999)) := bk_of pk_95 rfl
theorem bk_95_5 : bk_ am_prog 95 5 = some ([true, false, true, false], (bl_95_5, 9999)) := bk_of pk_95 rfl
theorem bk_95_6 : bk_ am_prog 95 6 = some ([false, true, false, false], (bl_95_6, 9999)) := bk_of pk_95 rfl
theorem bk_95_7 : bk_ am_prog 95 7 = some ([true, false, true, false], (bl_95_7, 9999)) := bk_of pk_95 rfl
theorem bk_95_8 : bk_ am_prog 95 8 = some ([true, false, true, true], (bl_95_8, 9999)) := bk_of pk_95 rfl
theorem bk_95_9 : bk_ am_prog 95 9 = some ([false, false, false, false], (bl_95_9, 9999)) := bk_of pk_95 rfl
theorem bk_95_10 : bk_ am_prog 95 10 = some ([true, false, true, true], (bl_95_10, 9999)) := bk_of pk_95 rfl
theorem bk_95_11 : bk_ am_prog 95 11 = some ([false, true, false, false], (bl_95_11, 9999)) := bk_of pk_95 rfl
theorem bk_95_12 : bk_ am_prog 95 12 = some ([true, false, true, true], (bl_95_12, 9999)) := bk_of pk_95 rfl
theorem jt_95_5 (h : am_H) (d1 d3 : am_V) (x0 x2 : Int) : JJ 95 5 [(15, x0), d1, (0, x2), d3] [] h = Re_readPlate_5 h x0 x2 := jj_of bk_95_5 _ _ h
theorem jt_95_10 (h : am_H) (d1 : am_V) (x0 x2 x3 : Int) : JJ 95 10 [(15, x0), d1, (0, x2), (0, x3)] [] h = Re_readPlate_10 h x0 x2 x3 := jj_of bk_95_10 _ _ h
theorem jt_95_4 (h : am_H) (d0 d1 d2 d3 : am_V) : JJ 95 4 [d0, d1, d2, d3] [] h = some (h, 2) := (jj_of bk_95_4 _ _ h).trans (ff_of bk_95_4 [(9, 0), (9, 0), (9, 0), (9, 0)] [] h)
theorem jt_95_3 (h : am_H) (d1 d3 : am_V) (x0 x2 : Int) : JJ 95 3 [(15, x0), d1, (0, x2), d3] [] h = ck_ (0 ≤ x0) (ck_ (0 ≤ (rf_ h x0 2)) (ck_ (0 ≤ (rf_ h (rf_ h x0 2) 6)) (ck_ (0 ≤ (rf_ h (rf_ h (rf_ h x0 2) 6) 6)) (ck_ (0 ≤ x2 ∧ x2 < ln_ h (rf_ h (rf_ h (rf_ h x0 2) 6) 6)) (if (rd_ h (rf_ h (rf_ h (rf_ h x0 2) 6) 6) x2) < 5 then Re_readPlate_5 h x0 x2 else some (h, 2)))))) := (jj_of bk_95_3 _ _ h).trans ((ff_of bk_95_3 [(15, x0), (9, 0), (0, x2), (9, 0)] [] h).trans (by
  show (ck_ (0 ≤ x0) (ck_ (0 ≤ (rf_ h x0 2)) (ck_ (0 ≤ (rf_ h (rf_ h x0 2) 6)) (ck_ (0 ≤ (rf_ h (rf_ h (rf_ h x0 2) 6) 6)) (ck_ (0 ≤ x2 ∧ x2 < ln_ h (rf_ h (rf_ h (rf_ h x0 2) 6) 6)) (if (rd_ h (rf_ h (rf_ h (rf_ h x0 2) 6) 6) x2) < 5 then JJ 95 5 [(15, x0), (9, 0), (0, x2), (9, 0)] [] h else JJ 95 4 [(15, x0), (9, 0), (0, x2), (9, 0)] [] h)))))) = _
  simp only [jt_95_4, jt_95_5, ck_or1, ck_or2, rf_wr, ln_wr, nn_wr, rf_cp, ln_cp, nn_cp, ln_wf, nn_wf, rd_wf, nn_nw]
  try rfl))
set_option maxRecDepth 20000 in
theorem jt_95_2 (h : am_H) (d1 d2 d3 : am_V) (x0 : Int) : JJ 95 2 [(15, x0), d1, d2, d3] [] h = ck_ (0 ≤ x0) (ck_ (0 ≤ (rf_ h x0 2)) (ck_ (0 ≤ x0) (ck_ (0 ≤ (rf_ h x0 2)) (ck_ (0 ≤ (rf_ h (rf_ h x0 2) 6)) (ck_ (0 ≤ x0) (ck_ (0 ≤ (rf_ h x0 0)) (bd_ (Pp_indexOf h (rf_ h (rf_ h x0 2) 9) (rd_ h (rf_ h (rf_ h x0 2) 6) 1) (rd_ h (rf_ h x0 0) 6)) fun h1 v2 => ck_ (0 ≤ x0) (ck_ (0 ≤ (rf_ h1 x0 2)) (ck_ (0 ≤ (rf_ h1 (rf_ h1 x0 2) 6)) (bd_ (Wo_hasPile h1 (rf_ h1 (rf_ h1 x0 2) 6) v2) fun h3 v4 => if v4 = 0 then Re_readPlate_5 h3 x0 v2 else ck_ (0 ≤ x0) (ck_ (0 ≤ (rf_ h3 x0 2)) (ck_ (0 ≤ (rf_ h3 (rf_ h3 x0 2) 6)) (ck_ (0 ≤ (rf_ h3 (rf_ h3 (rf_ h3 x0 2) 6) 6)) (ck_ (0 ≤ v2 ∧ v2 < ln_ h3 (rf_ h3 (rf_ h3 (rf_ h3 x0 2) 6) 6)) (if (rd_ h3 (rf_ h3 (rf_ h3 (rf_ h3 x0 2) 6) 6) v2) < 5 then Re_readPlate_5 h3 x0 v2 else some (h3, 2)))))))))))))))) := (jj_of bk_95_2 _ _ h).trans ((ff_of bk_95_2 [(15, x0), (9, 0), (9, 0), (9, 0)] [] h).trans (by
  show (ck_ (0 ≤ x0) (ck_ (0 ≤ (rf_ h x0 2)) (ck_ (0 ≤ x0) (ck_ (0 ≤ (rf_ h x0 2)) (ck_ (0 ≤ (rf_ h (rf_ h x0 2) 6)) (ck_ (0 ≤ x0) (ck_ (0 ≤ (rf_ h x0 0)) (bd_ (CC 41 [(30, rf_ h (rf_ h x0 2) 9), (0, rd_ h (rf_ h (rf_ h x0 2) 6) 1), (0, rd_ h (rf_ h x0 0) 6)] h) fun h1 v2 => ck_ (0 ≤ x0) (ck_ (0 ≤ (rf_ h1 x0 2)) (ck_ (0 ≤ (rf_ h1 (rf_ h1 x0 2) 6)) (bd_ (CC 54 [(20, rf_ h1 (rf_ h1 x0 2) 6), (0, v2)] h1) fun h3 v4 => if v4 = 0 then JJ 95 5 [(15, x0), (9, 0), (0, v2), (9, 0)] [] h3 else JJ 95 3 [(15, x0), (9, 0), (0, v2), (9, 0)] [] h3))))))))))) = _
  simp only [cc_54, cc_41, jt_95_3, jt_95_5, ck_or1, ck_or2, rf_wr, ln_wr, nn_wr, rf_cp, ln_cp, nn_cp, ln_wf, nn_wf, rd_wf, nn_nw]
  try rfl))
theorem jt_95_1 (h : am_H) (d0 d2 d3 : am_V) (x1 : Int) : JJ 95 1 [d0, (0, x1), d2, d3] [] h = some (h, x1) := (jj_of bk_95_1 _ _ h).trans (ff_of bk_95_1 [(9, 0), (0, x1), (9, 0), (9, 0)] [] h)
set_option maxRecDepth 20000 in
theorem Re_readPlate_e (h : am_H) (x0 : Int) : Re_readPlate h x0 = ck_ (0 ≤ x0) (ck_ (0 ≤ (rf_ h x0 2)) (ck_ (0 ≤ x0) (ck_ (0 ≤ (rf_ h x0 2)) (ck_ (0 ≤ (rf_ h (rf_ h x0 2) 6)) (ck_ (0 ≤ x0) (bd_ (Re_readToldName h x0 (rf_ h (rf_ h x0 2) 9) (rd_ h (rf_ h (rf_ h x0 2) 6) 1)) fun h1 v2 => if v2 = 0 then ck_ (0 ≤ x0) (ck_ (0 ≤ (rf_ h1 x0 2)) (ck_ (0 ≤ x0) (ck_ (0 ≤ (rf_ h1 x0 2)) (ck_ (0 ≤ (rf_ h1 (rf_ h1 x0 2) 6)) (ck_ (0 ≤ x0) (ck_ (0 ≤ (rf_ h1 x0 0)) (bd_ (Pp_indexOf h1 (rf_ h1 (rf_ h1 x0 2) 9) (rd_ h1 (rf_ h1 (rf_ h1 x0 2) 6) 1) (rd_ h1 (rf_ h1 x0 0) 6)) fun h3 v4 => ck_ (0 ≤ x0) (ck_ (0 ≤ (rf_ h3 x0 2)) (ck_ (0 ≤ (rf_ h3 (rf_ h3 x0 2) 6)) (bd_ (Wo_hasPile h3 (rf_ h3 (rf_ h3 x0 2) 6) v4) fun h5 v6 => if v6 = 0 then Re_readPlate_5 h5 x0 v4 else ck_ (0 ≤ x0) (ck_ (0 ≤ (rf_ h5 x0 2)) (ck_ (0 ≤ (rf_ h5 (rf_ h5 x0 2) 6)) (ck_ (0 ≤ (rf_ h5 (rf_ h5 (rf_ h5 x0 2) 6) 6)) (ck_ (0 ≤ v4 ∧ v4 < ln_ h5 (rf_ h5 (rf_ h5 (rf_ h5 x0 2) 6) 6)) (if (rd_ h5 (rf_ h5 (rf_ h5 (rf_ h5 x0 2) 6) 6) v4) < 5 then Re_readPlate_5 h5 x0 v4 else some (h5, 2)))))))))))))))) else some (h1, v2))))))) := (ff_of bk_95_0 [(15, x0), (9, 0), (9, 0), (9, 0)] [] h).trans (by
  show (ck_ (0 ≤ x0) (ck_ (0 ≤ (rf_ h x0 2)) (ck_ (0 ≤ x0) (ck_ (0 ≤ (rf_ h x0 2)) (ck_ (0 ≤ (rf_ h (rf_ h x0 2) 6)) (ck_ (0 ≤ x0) (bd_ (CC 94 [(15, x0), (30, rf_ h (rf_ h x0 2) 9), (0, rd_ h (rf_ h (rf_ h x0 2) 6) 1)] h) fun h1 v2 => if v2 = 0 then JJ 95 2 [(15, x0), (0, v2), (9, 0), (9, 0)] [] h1 else JJ 95 1 [(15, x0), (0, v2), (9, 0), (9, 0)] [] h1))))))) = _
  simp only [cc_94, jt_95_1, jt_95_2, ck_or1, ck_or2, rf_wr, ln_wr, nn_wr, rf_cp, ln_cp, nn_cp, ln_wf, nn_wf, rd_wf, nn_nw]
  try rfl)
theorem jt_95_9 (h : am_H) (d0 d1 d2 d3 : am_V) : JJ 95 9 [d0, d1, d2, d3] [] h = some (h, 3) := (jj_of bk_95_9 _ _ h).trans (ff_of bk_95_9 [(9, 0), (9, 0), (9, 0), (9, 0)] [] h)
theorem jt_95_8 (h : am_H) (d1 : am_V) (x0 x2 x3 : Int) : JJ 95 8 [(15, x0), d1, (0, x2), (0, x3)] [] h = ck_ (0 ≤ x0) (ck_ (0 ≤ (rf_ h x0 2)) (ck_ (0 ≤ (rf_ h (rf_ h x0 2) 6)) (bd_ (Wo_hasSize h (rf_ h (rf_ h x0 2) 6) x2 x3) fun h1 v2 => if v2 = 0 then Re_readPlate_10 h1 x0 x2 x3 else some (h1, 3)))) := (jj_of bk_95_8 _ _ h).trans ((ff_of bk_95_8 [(15, x0), (9, 0), (0, x2), (0, x3)] [] h).trans (by
  show (ck_ (0 ≤ x0) (ck_ (0 ≤ (rf_ h x0 2)) (ck_ (0 ≤ (rf_ h (rf_ h x0 2) 6)) (bd_ (CC 93 [(20, rf_ h (rf_ h x0 2) 6), (0, x2), (0, x3)] h) fun h1 v2 => if v2 = 0 then JJ 95 10 [(15, x0), (9, 0), (0, x2), (0, x3)] [] h1 else JJ 95 9 [(15, x0), (9, 0), (0, x2), (0, x3)] [] h1)))) = _
  simp only [cc_93, jt_95_10, jt_95_9, ck_or1, ck_or2, rf_wr, ln_wr, nn_wr, rf_cp, ln_cp, nn_cp, ln_wf, nn_wf, rd_wf, nn_nw]
  try rfl))
theorem jt_95_7 (h : am_H) (d1 d3 : am_V) (x0 x2 : Int) : JJ 95 7 [(15, x0), d1, (0, x2), d3] [] h = ck_ (0 ≤ x0) (ck_ (0 ≤ (rf_ h x0 0)) (ck_ (0 ≤ x0) (ck_ (0 ≤ (rf_ h x0 2)) (ck_ (0 ≤ (rf_ h (rf_ h x0 2) 6)) (bd_ (Wo_hasPile h (rf_ h (rf_ h x0 2) 6) x2) fun h1 v2 => if v2 = 0 then Re_readPlate_10 h1 x0 x2 (rd_ h (rf_ h x0 0) 6) else ck_ (0 ≤ x0) (ck_ (0 ≤ (rf_ h1 x0 2)) (ck_ (0 ≤ (rf_ h1 (rf_ h1 x0 2) 6)) (bd_ (Wo_hasSize h1 (rf_ h1 (rf_ h1 x0 2) 6) x2 (rd_ h (rf_ h x0 0) 6)) fun h3 v4 => if v4 = 0 then Re_readPlate_10 h3 x0 x2 (rd_ h (rf_ h x0 0) 6) else some (h3, 3))))))))) := (jj_of bk_95_7 _ _ h).trans ((ff_of bk_95_7 [(15, x0), (9, 0), (0, x2), (9, 0)] [] h).trans (by
  show (ck_ (0 ≤ x0) (ck_ (0 ≤ (rf_ h x0 0)) (ck_ (0 ≤ x0) (ck_ (0 ≤ (rf_ h x0 2)) (ck_ (0 ≤ (rf_ h (rf_ h x0 2) 6)) (bd_ (CC 54 [(20, rf_ h (rf_ h x0 2) 6), (0, x2)] h) fun h1 v2 => if v2 = 0 then JJ 95 10 [(15, x0), (9, 0), (0, x2), (0, rd_ h (rf_ h x0 0) 6)] [] h1 else JJ 95 8 [(15, x0), (9, 0), (0, x2), (0, rd_ h (rf_ h x0 0) 6)] [] h1)))))) = _
  simp only [cc_54, jt_95_10, jt_95_8, ck_or1, ck_or2, rf_wr, ln_wr, nn_wr, rf_cp, ln_cp, nn_cp, ln_wf, nn_wf, rd_wf, nn_nw]
  try rfl))
theorem jt_95_6 (h : am_H) (d0 d2 d3 : am_V) (x1 : Int) : JJ 95 6 [d0, (0, x1), d2, d3] [] h = some (h, x1) := (jj_of bk_95_6 _ _ h).trans (ff_of bk_95_6 [(9, 0), (0, x1), (9, 0), (9, 0)] [] h)
theorem Re_readPlate_5_e (h : am_H) (x0 x2 : Int) : Re_readPlate_5 h x0 x2 = ck_ (0 ≤ x0) (bd_ (Re_readNumber h x0 1 99) fun h1 v2 => if v2 = 0 then ck_ (0 ≤ x0) (ck_ (0 ≤ (rf_ h1 x0 0)) (ck_ (0 ≤ x0) (ck_ (0 ≤ (rf_ h1 x0 2)) (ck_ (0 ≤ (rf_ h1 (rf_ h1 x0 2) 6)) (bd_ (Wo_hasPile h1 (rf_ h1 (rf_ h1 x0 2) 6) x2) fun h3 v4 => if v4 = 0 then Re_readPlate_10 h3 x0 x2 (rd_ h1 (rf_ h1 x0 0) 6) else ck_ (0 ≤ x0) (ck_ (0 ≤ (rf_ h3 x0 2)) (ck_ (0 ≤ (rf_ h3 (rf_ h3 x0 2) 6)) (bd_ (Wo_hasSize h3 (rf_ h3 (rf_ h3 x0 2) 6) x2 (rd_ h1 (rf_ h1 x0 0) 6)) fun h5 v6 => if v6 = 0 then Re_readPlate_10 h5 x0 x2 (rd_ h1 (rf_ h1 x0 0) 6) else some (h5, 3))))))))) else some (h1, v2)) := (ff_of bk_95_5 [(15, x0), (9, 0), (0, x2), (9, 0)] [] h).trans (by
  show (ck_ (0 ≤ x0) (bd_ (CC 83 [(15, x0), (0, 1), (0, 99)] h) fun h1 v2 => if v2 = 0 then JJ 95 7 [(15, x0), (0, v2), (0, x2), (9, 0)] [] h1 else JJ 95 6 [(15, x0), (0, v2), (0, x2), (9, 0)] [] h1)) = _
  simp only [cc_83, jt_95_6, jt_95_7, ck_or1, ck_or2, rf_wr, ln_wr, nn_wr, rf_cp, ln_cp, nn_cp, ln_wf, nn_wf, rd_wf, nn_nw]
  try rfl)
theorem jt_95_12 (h : am_H) (d1 : am_V) (x0 x2 x3 : Int) : JJ 95 12 [(15, x0), d1, (0, x2), (0, x3)] [] h = ck_ (0 ≤ x0) (ck_ (0 ≤ (rf_ h x0 2)) (ck_ (0 ≤ x0) (ck_ (0 ≤ (rf_ h x0 0)) (ck_ (0 ≤ (rf_ h (rf_ h x0 2) 6)) (bd_ (Wo_addPlate h (rf_ h (rf_ h x0 2) 6) x2 x3 (rd_ h (rf_ h x0 0) 6)) fun h1 _ => ck_ (0 ≤ x0) (bd_ (Re_readSemicolon h1 x0) fun h3 v4 => some (h3, v4))))))) := (jj_of bk_95_12 _ _ h).trans ((ff_of bk_95_12 [(15, x0), (9, 0), (0, x2), (0, x3)] [] h).trans (by
  show (ck_ (0 ≤ x0) (ck_ (0 ≤ (rf_ h x0 2)) (ck_ (0 ≤ x0) (ck_ (0 ≤ (rf_ h x0 0)) (ck_ (0 ≤ (rf_ h (rf_ h x0 2) 6)) (bd_ (CC 92 [(20, rf_ h (rf_ h x0 2) 6), (0, x2), (0, x3), (0, rd_ h (rf_ h x0 0) 6)] h) fun h1 _ => ck_ (0 ≤ x0) (bd_ (CC 84 [(15, x0)] h1) fun h3 v4 => some (h3, v4)))))))) = _
  simp only [cc_92, cc_84, ck_or1, ck_or2, rf_wr, ln_wr, nn_wr, rf_cp, ln_cp, nn_cp, ln_wf, nn_wf, rd_wf, nn_nw]
  try rfl))
theorem jt_95_11 (h : am_H) (d0 d2 d3 : am_V) (x1 : Int) : JJ 95 11 [d0, (0, x1), d2, d3] [] h = some (h, x1) := (jj_of bk_95_11 _ _ h).trans (ff_of bk_95_11 [(9, 0), (0, x1), (9, 0), (9, 0)] [] h)
theorem Re_readPlate_10_e (h : am_H) (x0 x2 x3 : Int) : Re_readPlate_10 h x0 x2 x3 = ck_ (0 ≤ x0) (bd_ (Re_readNumber h x0 0 1) fun h1 v2 => if v2 = 0 then ck_ (0 ≤ x0) (ck_ (0 ≤ (rf_ h1 x0 2)) (ck_ (0 ≤ x0) (ck_ (0 ≤ (rf_ h1 x0 0)) (ck_ (0 ≤ (rf_ h1 (rf_ h1 x0 2) 6)) (bd_ (Wo_addPlate h1 (rf_ h1 (rf_ h1 x0 2) 6) x2 x3 (rd_ h1 (rf_ h1 x0 0) 6)) fun h3 _ => ck_ (0 ≤ x0) (bd_ (Re_readSemicolon h3 x0) fun h5 v6 => some (h5, v6))))))) else some (h1, v2)) := (ff_of bk_95_10 [(15, x0), (9, 0), (0, x2), (0, x3)] [] h).trans (by
  show (ck_ (0 ≤ x0) (bd_ (CC 83 [(15, x0), (0, 0), (0, 1)] h) fun h1 v2 => if v2 = 0 then JJ 95 12 [(15, x0), (0, v2), (0, x2), (0, x3)] [] h1 else JJ 95 11 [(15, x0), (0, v2), (0, x2), (0, x3)] [] h1)) = _
  simp only [cc_83, jt_95_11, jt_95_12, ck_or1, ck_or2, rf_wr, ln_wr, nn_wr, rf_cp, ln_cp, nn_cp, ln_wf, nn_wf, rd_wf, nn_nw]
  try rfl)
theorem cc_95 (h : am_H) (x0 : Int) : CC 95 [(15, x0)] h = Re_readPlate h x0 := cc_of pk_95 _ h
theorem pk_96 : am_prog 96 = some cd_96 := rfl
theorem bk_96_0 : bk_ am_prog 96 0 = some ([true, false], (bl_96_0, 9999)) := bk_of pk_96 rfl
theorem bk_96_1 : bk_ am_prog 96 1 = some ([false, false], (bl_96_1, 9999)) := bk_of pk_96 rfl
theorem bk_96_2 : bk_ am_prog 96 2 = some ([true, false], (bl_96_2, 9999)) := bk_of pk_96 rfl
theorem bk_96_3 : bk_ am_prog 96 3 = some ([false, true], (bl_96_3, 9999)) := bk_of pk_96 rfl
theorem bk_96_4 : bk_ am_prog 96 4 = some ([true, false], (bl_96_4, 9999)) := bk_of pk_96 rfl
theorem jt_96_4 (h : am_H) (d1 : am_V) (x0 : Int) : JJ 96 4 [(15, x0), d1] [] h = ck_ (0 ≤ x0) (ck_ (0 ≤ (rf_ h x0 2)) (ck_ (0 ≤ x0) (ck_ (0 ≤ (rf_ h x0 0)) (ck_ (0 ≤ (rf_ h (rf_ h x0 2) 6)) (ck_ (0 ≤ x0) (ck_ (0 ≤ (rf_ h x0 2)) (ck_ (0 ≤ x0) (bd_ (Re_readSemicolon (wr_ (wr_ h (rf_ h (rf_ h x0 2) 6) 5 (rd_ h (rf_ h x0 0) 6)) (rf_ h x0 2) 5 1) x0) fun h1 v2 => some (h1, v2))))))))) := (jj_of bk_96_4 _ _ h).trans ((ff_of bk_96_4 [(15, x0), (9, 0)] [] h).trans (by
  show (ck_ (0 ≤ x0) (ck_ (0 ≤ (rf_ h x0 2)) (ck_ (0 ≤ x0) (ck_ (0 ≤ (rf_ h x0 0)) (ck_ (0 ≤ (rf_ h (rf_ h x0 2) 6)) (ck_ (0 ≤ x0) (ck_ (0 ≤ (rf_ h x0 2)) (ck_ (0 ≤ x0) (bd_ (CC 84 [(15, x0)] (wr_ (wr_ h (rf_ h (rf_ h x0 2) 6) 5 (rd_ h (rf_ h x0 0) 6)) (rf_ h x0 2) 5 1)) fun h1 v2 => some (h1, v2)))))))))) = _
  simp only [cc_84, ck_or1, ck_or2, rf_wr, ln_wr, nn_wr, rf_cp, ln_cp, nn_cp, ln_wf, nn_wf, rd_wf, nn_nw]
  try rfl))
theorem jt_96_3 (h : am_H) (d0 : am_V) (x1 : Int) : JJ 96 3 [d0, (0, x1)] [] h = some (h, x1) := (jj_of bk_96_3 _ _ h).trans (ff_of bk_96_3 [(9, 0), (0, x1)] [] h)
theorem jt_96_2 (h : am_H) (d1 : am_V) (x0 : Int) : JJ 96 2 [(15, x0), d1] [] h = ck_ (0 ≤ x0) (bd_ (Re_readNumber h x0 0 99999) fun h1 v2 => if v2 = 0 then ck_ (0 ≤ x0) (ck_ (0 ≤ (rf_ h1 x0 2)) (ck_ (0 ≤ x0) (ck_ (0 ≤ (rf_ h1 x0 0)) (ck_ (0 ≤ (rf_ h1 (rf_ h1 x0 2) 6)) (ck_ (0 ≤ x0) (ck_ (0 ≤ (rf_ h1 x0 2)) (ck_ (0 ≤ x0) (bd_ (Re_readSemicolon (wr_ (wr_ h1 (rf_ h1 (rf_ h1 x0 2) 6) 5 (rd_ h1 (rf_ h1 x0 0) 6)) (rf_ h1 x0 2) 5 1) x0) fun h3 v4 => some (h3, v4))))))))) else some (h1, v2)) := (jj_of bk_96_2 _ _ h).trans ((ff_of bk_96_2 [(15, x0), (9, 0)] [] h).trans (by
  show (ck_ (0 ≤ x0) (bd_ (CC 83 [(15, x0), (0, 0), (0, 99999)] h) fun h1 v2 => if v2 = 0 then JJ 96 4 [(15, x0), (0, v2)] [] h1 else JJ 96 3 [(15, x0), (0, v2)] [] h1)) = _
  simp only [cc_83, jt_96_3, jt_96_4, ck_or1, ck_or2, rf_wr, ln_wr, nn_wr, rf_cp, ln_cp, nn_cp, ln_wf, nn_wf, rd_wf, nn_nw]
  try rfl))
theorem jt_96_1 (h : am_H) (d0 d1 : am_V) : JJ 96 1 [d0, d1] [] h = some (h, 3) := (jj_of bk_96_1 _ _ h).trans (ff_of bk_96_1 [(9, 0), (9, 0)] [] h)
theorem Re_readSeed_e (h : am_H) (x0 : Int) : Re_readSeed h x0 = ck_ (0 ≤ x0) (ck_ (0 ≤ (rf_ h x0 2)) (if (rd_ h (rf_ h x0 2) 5) = 0 then ck_ (0 ≤ x0) (bd_ (Re_readNumber h x0 0 99999) fun h1 v2 => if v2 = 0 then ck_ (0 ≤ x0) (ck_ (0 ≤ (rf_ h1 x0 2)) (ck_ (0 ≤ x0) (ck_ (0 ≤ (rf_ h1 x0 0)) (ck_ (0 ≤ (rf_ h1 (rf_ h1 x0 2) 6)) (ck_ (0 ≤ x0) (ck_ (0 ≤ (rf_ h1 x0 2)) (ck_ (0 ≤ x0) (bd_ (Re_readSemicolon (wr_ (wr_ h1 (rf_ h1 (rf_ h1 x0 2) 6) 5 (rd_ h1 (rf_ h1 x0 0) 6)) (rf_ h1 x0 2) 5 1) x0) fun h3 v4 => some (h3, v4))))))))) else some (h1, v2)) else some (h, 3))) := (ff_of bk_96_0 [(15, x0), (9, 0)] [] h).trans (by
  show (ck_ (0 ≤ x0) (ck_ (0 ≤ (rf_ h x0 2)) (if (rd_ h (rf_ h x0 2) 5) = 0 then JJ 96 2 [(15, x0), (9, 0)] [] h else JJ 96 1 [(15, x0), (9, 0)] [] h))) = _
  simp only [jt_96_1, jt_96_2, ck_or1, ck_or2, rf_wr, ln_wr, nn_wr, rf_cp, ln_cp, nn_cp, ln_wf, nn_wf, rd_wf, nn_nw]
  try rfl)
theorem cc_96 (h : am_H) (x0 : Int) : CC 96 [(15, x0)] h = Re_readSeed h x0 := cc_of pk_96 _ h
theorem pk_97 : am_prog 97 = some cd_97 := rfl
theorem bk_97_0 : bk_ am_prog 97 0 = some ([true, false, false], (bl_97_0, 9999)) := bk_of pk_97 rfl
theorem bk_97_1 : bk_ am_prog 97 1 = some ([false, false, false], (bl_97_1, 9999)) := bk_of pk_97 rfl
theorem bk_97_2 : bk_ am_prog 97 2 = some ([true, true, false], (bl_97_2, 9999)) := bk_of pk_97 rfl
theorem bk_97_3 : bk_ am_prog 97 3 = some ([false, false, true], (bl_97_3, 9999)) := bk_of pk_97 rfl
theorem bk_97_4 : bk_ am_prog 97 4 = some ([true, true, false], (bl_97_4, 9999)) := bk_of pk_97 rfl
theorem bk_97_5 : bk_ am_prog 97 5 = some ([false, false, true], (bl_97_5, 9999)) := bk_of pk_97 rfl
theorem bk_97_6 : bk_ am_prog 97 6 = some ([true, true, false], (bl_97_6, 9999)) := bk_of pk_97 rfl
theorem bk_97_7 : bk_ am_prog 97 7 = some ([false, false, true], (bl_97_7, 9999)) := bk_of pk_97 rfl
theorem bk_97_8 : bk_ am_prog 97 8 = some ([true, true, false], (bl_97_8, 9999)) := bk_of pk_97 rfl
theorem bk_97_9 : bk_ am_prog 97 9 = some ([false, false, true], (bl_97_9, 9999)) := bk_of pk_97 rfl
theorem bk_97_10 : bk_ am_prog 97 10 = some ([true, true, false], (bl_97_10, 9999)) := bk_of pk_97 rfl
set_option maxRecDepth 20000 in
theorem jt_97_10 (h : am_H) (d2 : am_V) (x0 x1 : Int) : JJ 97 10 [(15, x0), (0, x1), d2] [] h = ck_ (0 ≤ x0) (ck_ (0 ≤ (rf_ h x0 2)) (ck_ (0 ≤ x0) (ck_ (0 ≤ (rf_ h x0 0)) (ck_ (0 ≤ (rf_ h (rf_ h x0 2) 13)) (ck_ (0 ≤ x1 ∧ x1 < ln_ h (rf_ h (rf_ h x0 2) 13)) (ck_ (0 ≤ x0) (ck_ (0 ≤ (rf_ h x0 2)) (ck_ (0 ≤ (rf_ h x0 2)) (ck_ (0 ≤ x0) (bd_ (Re_readSemicolon (wr_ (wr_ h (rf_ h (rf_ h x0 2) 13) x1 (rd_ h (rf_ h x0 0) 6)) (rf_ h x0 2) 1 (w32 ((rd_ (wr_ h (rf_ h (rf_ h x0 2) 13) x1 (rd_ h (rf_ h x0 0) 6)) (rf_ h x0 2) 1) + 1))) x0) fun h1 v2 => some (h1, v2))))))))))) := (jj_of bk_97_10 _ _ h).trans ((ff_of bk_97_10 [(15, x0), (0, x1), (9, 0)] [] h).trans (by
  show (ck_ (0 ≤ x0) (ck_ (0 ≤ (rf_ h x0 2)) (ck_ (0 ≤ x0) (ck_ (0 ≤ (rf_ h x0 0)) (ck_ (0 ≤ (rf_ h (rf_ h x0 2) 13)) (ck_ (0 ≤ x1 ∧ x1 < ln_ h (rf_ h (rf_ h x0 2) 13)) (ck_ (0 ≤ x0) (ck_ (0 ≤ (rf_ h x0 2)) (ck_ (0 ≤ (rf_ h x0 2)) (ck_ (0 ≤ x0) (bd_ (CC 84 [(15, x0)] (wr_ (wr_ h (rf_ h (rf_ h x0 2) 13) x1 (rd_ h (rf_ h x0 0) 6)) (rf_ h x0 2) 1 (w32 ((rd_ (wr_ h (rf_ h (rf_ h x0 2) 13) x1 (rd_ h (rf_ h x0 0) 6)) (rf_ h x0 2) 1) + 1)))) fun h1 v2 => some (h1, v2)))))))))))) = _
  simp only [cc_84, ck_or1, ck_or2, rf_wr, ln_wr, nn_wr, rf_cp, ln_cp, nn_cp, ln_wf, nn_wf, rd_wf, nn_nw]
  try rfl))
theorem jt_97_9 (h : am_H) (d0 d1 : am_V) (x2 : Int) : JJ 97 9 [d0, d1, (0, x2)] [] h = some (h, x2) := (jj_of bk_97_9 _ _ h).trans (ff_of bk_97_9 [(9, 0), (9, 0), (0, x2)] [] h)
set_option maxRecDepth 20000 in
theorem jt_97_8 (h : am_H) (d2 : am_V) (x0 x1 : Int) : JJ 97 8 [(15, x0), (0, x1), d2] [] h = ck_ (0 ≤ x0) (ck_ (0 ≤ (rf_ h x0 2)) (ck_ (0 ≤ x0) (ck_ (0 ≤ (rf_ h x0 0)) (ck_ (0 ≤ (rf_ h (rf_ h x0 2) 12)) (ck_ (0 ≤ x1 ∧ x1 < ln_ h (rf_ h (rf_ h x0 2) 12)) (ck_ (0 ≤ x0) (bd_ (Re_readNumber (wr_ h (rf_ h (rf_ h x0 2) 12) x1 (rd_ h (rf_ h x0 0) 6)) x0 0 99) fun h1 v2 => if v2 = 0 then ck_ (0 ≤ x0) (ck_ (0 ≤ (rf_ h1 x0 2)) (ck_ (0 ≤ x0) (ck_ (0 ≤ (rf_ h1 x0 0)) (ck_ (0 ≤ (rf_ h1 (rf_ h1 x0 2) 13)) (ck_ (0 ≤ x1 ∧ x1 < ln_ h1 (rf_ h1 (rf_ h1 x0 2) 13)) (ck_ (0 ≤ x0) (ck_ (0 ≤ (rf_ h1 x0 2)) (ck_ (0 ≤ (rf_ h1 x0 2)) (ck_ (0 ≤ x0) (bd_ (Re_readSemicolon (wr_ (wr_ h1 (rf_ h1 (rf_ h1 x0 2) 13) x1 (rd_ h1 (rf_ h1 x0 0) 6)) (rf_ h1 x0 2) 1 (w32 ((rd_ (wr_ h1 (rf_ h1 (rf_ h1 x0 2) 13) x1 (rd_ h1 (rf_ h1 x0 0) 6)) (rf_ h1 x0 2) 1) + 1))) x0) fun h3 v4 => some (h3, v4))))))))))) else some (h1, v2)))))))) := (jj_of bk_97_8 _ _ h).trans ((ff_of bk_97_8 [(15, x0), (0, x1), (9, 0)] [] h).trans (by
  show (ck_ (0 ≤ x0) (ck_ (0 ≤ (rf_ h x0 2)) (ck_ (0 ≤ x0) (ck_ (0 ≤ (rf_ h x0 0)) (ck_ (0 ≤ (rf_ h (rf_ h x0 2) 12)) (ck_ (0 ≤ x1 ∧ x1 < ln_ h (rf_ h (rf_ h x0 2) 12)) (ck_ (0 ≤ x0) (bd_ (CC 83 [(15, x0), (0, 0), (0, 99)] (wr_ h (rf_ h (rf_ h x0 2) 12) x1 (rd_ h (rf_ h x0 0) 6))) fun h1 v2 => if v2 = 0 then JJ 97 10 [(15, x0), (0, x1), (0, v2)] [] h1 else JJ 97 9 [(15, x0), (0, x1), (0, v2)] [] h1)))))))) = _
  simp only [cc_83, jt_97_10, jt_97_9, ck_or1, ck_or2, rf_wr, ln_wr, nn_wr, rf_cp, ln_cp, nn_cp, ln_wf, nn_wf, rd_wf, nn_nw]
  try rfl))
theorem jt_97_7 (h : am_H) (d0 d1 : am_V) (x2 : Int) : JJ 97 7 [d0, d1, (0, x2)] [] h = some (h, x2) := (jj_of bk_97_7 _ _ h).trans (ff_of bk_97_7 [(9, 0), (9, 0), (0, x2)] [] h)
set_option maxRecDepth 20000 in
theorem jt_97_6 (h : am_H) (d2 : am_V) (x0 x1 : Int) : JJ 97 6 [(15, x0), (0, x1), d2] [] h = ck_ (0 ≤ x0) (ck_ (0 ≤ (rf_ h x0 2)) (ck_ (0 ≤ x0) (ck_ (0 ≤ (rf_ h x0 2)) (ck_ (0 ≤ x0) (ck_ (0 ≤ (rf_ h x0 2)) (ck_ (0 ≤ (rf_ h (rf_ h x0 2) 6)) (ck_ (0 ≤ x0) (ck_ (0 ≤ (rf_ h x0 0)) (bd_ (Pp_indexOf h (rf_ h (rf_ h x0 2) 9) (rd_ h (rf_ h (rf_ h x0 2) 6) 1) (rd_ h (rf_ h x0 0) 6)) fun h1 v2 => ck_ (0 ≤ (rf_ h (rf_ h x0 2) 11)) (ck_ (0 ≤ x1 ∧ x1 < ln_ h1 (rf_ h (rf_ h x0 2) 11)) (ck_ (0 ≤ x0) (bd_ (Re_readNumber (wr_ h1 (rf_ h (rf_ h x0 2) 11) x1 v2) x0 1 5) fun h3 v4 => if v4 = 0 then ck_ (0 ≤ x0) (ck_ (0 ≤ (rf_ h3 x0 2)) (ck_ (0 ≤ x0) (ck_ (0 ≤ (rf_ h3 x0 0)) (ck_ (0 ≤ (rf_ h3 (rf_ h3 x0 2) 12)) (ck_ (0 ≤ x1 ∧ x1 < ln_ h3 (rf_ h3 (rf_ h3 x0 2) 12)) (ck_ (0 ≤ x0) (bd_ (Re_readNumber (wr_ h3 (rf_ h3 (rf_ h3 x0 2) 12) x1 (rd_ h3 (rf_ h3 x0 0) 6)) x0 0 99) fun h5 v6 => if v6 = 0 then ck_ (0 ≤ x0) (ck_ (0 ≤ (rf_ h5 x0 2)) (ck_ (0 ≤ x0) (ck_ (0 ≤ (rf_ h5 x0 0)) (ck_ (0 ≤ (rf_ h5 (rf_ h5 x0 2) 13)) (ck_ (0 ≤ x1 ∧ x1 < ln_ h5 (rf_ h5 (rf_ h5 x0 2) 13)) (ck_ (0 ≤ x0) (ck_ (0 ≤ (rf_ h5 x0 2)) (ck_ (0 ≤ (rf_ h5 x0 2)) (ck_ (0 ≤ x0) (bd_ (Re_readSemicolon (wr_ (wr_ h5 (rf_ h5 (rf_ h5 x0 2) 13) x1 (rd_ h5 (rf_ h5 x0 0) 6)) (rf_ h5 x0 2) 1 (w32 ((rd_ (wr_ h5 (rf_ h5 (rf_ h5 x0 2) 13) x1 (rd_ h5 (rf_ h5 x0 0) 6)) (rf_ h5 x0 2) 1) + 1))) x0) fun h7 v8 => some (h7, v8))))))))))) else some (h5, v6)))))))) else some (h3, v4))))))))))))) := (jj_of bk_97_6 _ _ h).trans ((ff_of bk_97_6 [(15, x0), (0, x1), (9, 0)] [] h).trans (by
  show (ck_ (0 ≤ x0) (ck_ (0 ≤ (rf_ h x0 2)) (ck_ (0 ≤ x0) (ck_ (0 ≤ (rf_ h x0 2)) (ck_ (0 ≤ x0) (ck_ (0 ≤ (rf_ h x0 2)) (ck_ (0 ≤ (rf_ h (rf_ h x0 2) 6)) (ck_ (0 ≤ x0) (ck_ (0 ≤ (rf_ h x0 0)) (bd_ (CC 41 [(30, rf_ h (rf_ h x0 2) 9), (0, rd_ h (rf_ h (rf_ h x0 2) 6) 1), (0, rd_ h (rf_ h x0 0) 6)] h) fun h1 v2 => ck_ (0 ≤ (rf_ h (rf_ h x0 2) 11)) (ck_ (0 ≤ x1 ∧ x1 < ln_ h1 (rf_ h (rf_ h x0 2) 11)) (ck_ (0 ≤ x0) (bd_ (CC 83 [(15, x0), (0, 1), (0, 5)] (wr_ h1 (rf_ h (rf_ h x0 2) 11) x1 v2)) fun h3 v4 => if v4 = 0 then JJ 97 8 [(15, x0), (0, x1), (0, v4)] [] h3 else JJ 97 7 [(15, x0), (0, x1), (0, v4)] [] h3))))))))))))) = _
  simp only [cc_41, cc_83, jt_97_7, jt_97_8, ck_or1, ck_or2, rf_wr, ln_wr, nn_wr, rf_cp, ln_cp, nn_cp, ln_wf, nn_wf, rd_wf, nn_nw]
  try rfl))
theorem jt_97_5 (h : am_H) (d0 d1 : am_V) (x2 : Int) : JJ 97 5 [d0, d1, (0, x2)] [] h = some (h, x2) := (jj_of bk_97_5 _ _ h).trans (ff_of bk_97_5 [(9, 0), (9, 0), (0, x2)] [] h)
set_option maxRecDepth 20000 in
theorem jt_97_4 (h : am_H) (d2 : am_V) (x0 x1 : Int) : JJ 97 4 [(15, x0), (0, x1), d2] [] h = ck_ (0 ≤ x0) (ck_ (0 ≤ (rf_ h x0 2)) (ck_ (0 ≤ x0) (ck_ (0 ≤ (rf_ h x0 2)) (ck_ (0 ≤ x0) (ck_ (0 ≤ (rf_ h x0 2)) (ck_ (0 ≤ (rf_ h (rf_ h x0 2) 6)) (ck_ (0 ≤ x0) (ck_ (0 ≤ (rf_ h x0 0)) (bd_ (Pp_indexOf h (rf_ h (rf_ h x0 2) 7) (rd_ h (rf_ h (rf_ h x0 2) 6) 0) (rd_ h (rf_ h x0 0) 6)) fun h1 v2 => ck_ (0 ≤ (rf_ h (rf_ h x0 2) 10)) (ck_ (0 ≤ x1 ∧ x1 < ln_ h1 (rf_ h (rf_ h x0 2) 10)) (ck_ (0 ≤ x0) (ck_ (0 ≤ (rf_ h1 x0 2)) (ck_ (0 ≤ x0) (ck_ (0 ≤ (rf_ h1 x0 2)) (ck_ (0 ≤ (rf_ h1 (rf_ h1 x0 2) 6)) (ck_ (0 ≤ x0) (bd_ (Re_readToldName (wr_ h1 (rf_ h (rf_ h x0 2) 10) x1 v2) x0 (rf_ h1 (rf_ h1 x0 2) 9) (rd_ (wr_ h1 (rf_ h (rf_ h x0 2) 10) x1 v2) (rf_ h1 (rf_ h1 x0 2) 6) 1)) fun h3 v4 => if v4 = 0 then ck_ (0 ≤ x0) (ck_ (0 ≤ (rf_ h3 x0 2)) (ck_ (0 ≤ x0) (ck_ (0 ≤ (rf_ h3 x0 2)) (ck_ (0 ≤ x0) (ck_ (0 ≤ (rf_ h3 x0 2)) (ck_ (0 ≤ (rf_ h3 (rf_ h3 x0 2) 6)) (ck_ (0 ≤ x0) (ck_ (0 ≤ (rf_ h3 x0 0)) (bd_ (Pp_indexOf h3 (rf_ h3 (rf_ h3 x0 2) 9) (rd_ h3 (rf_ h3 (rf_ h3 x0 2) 6) 1) (rd_ h3 (rf_ h3 x0 0) 6)) fun h5 v6 => ck_ (0 ≤ (rf_ h3 (rf_ h3 x0 2) 11)) (ck_ (0 ≤ x1 ∧ x1 < ln_ h5 (rf_ h3 (rf_ h3 x0 2) 11)) (ck_ (0 ≤ x0) (bd_ (Re_readNumber (wr_ h5 (rf_ h3 (rf_ h3 x0 2) 11) x1 v6) x0 1 5) fun h7 v8 => if v8 = 0 then ck_ (0 ≤ x0) (ck_ (0 ≤ (rf_ h7 x0 2)) (ck_ (0 ≤ x0) (ck_ (0 ≤ (rf_ h7 x0 0)) (ck_ (0 ≤ (rf_ h7 (rf_ h7 x0 2) 12)) (ck_ (0 ≤ x1 ∧ x1 < ln_ h7 (rf_ h7 (rf_ h7 x0 2) 12)) (ck_ (0 ≤ x0) (bd_ (Re_readNumber (wr_ h7 (rf_ h7 (rf_ h7 x0 2) 12) x1 (rd_ h7 (rf_ h7 x0 0) 6)) x0 0 99) fun h9 v10 => if v10 = 0 then ck_ (0 ≤ x0) (ck_ (0 ≤ (rf_ h9 x0 2)) (ck_ (0 ≤ x0) (ck_ (0 ≤ (rf_ h9 x0 0)) (ck_ (0 ≤ (rf_ h9 (rf_ h9 x0 2) 13)) (ck_ (0 ≤ x1 ∧ x1 < ln_ h9 (rf_ h9 (rf_ h9 x0 2) 13)) (ck_ (0 ≤ x0) (ck_ (0 ≤ (rf_ h9 x0 2)) (ck_ (0 ≤ (rf_ h9 x0 2)) (ck_ (0 ≤ x0) (bd_ (Re_readSemicolon (wr_ (wr_ h9 (rf_ h9 (rf_ h9 x0 2) 13) x1 (rd_ h9 (rf_ h9 x0 0) 6)) (rf_ h9 x0 2) 1 (w32 ((rd_ (wr_ h9 (rf_ h9 (rf_ h9 x0 2) 13) x1 (rd_ h9 (rf_ h9 x0 0) 6)) (rf_ h9 x0 2) 1) + 1))) x0) fun h11 v12 => some (h11, v12))))))))))) else some (h9, v10)))))))) else some (h7, v8))))))))))))) else some (h3, v4)))))))))))))))))) := (jj_of bk_97_4 _ _ h).trans ((ff_of bk_97_4 [(15, x0), (0, x1), (9, 0)] [] h).trans (by
  show (ck_ (0 ≤ x0) (ck_ (0 ≤ (rf_ h x0 2)) (ck_ (0 ≤ x0) (ck_ (0 ≤ (rf_ h x0 2)) (ck_ (0 ≤ x0) (ck_ (0 ≤ (rf_ h x0 2)) (ck_ (0 ≤ (rf_ h (rf_ h x0 2) 6)) (ck_ (0 ≤ x0) (ck_ (0 ≤ (rf_ h x0 0)) (bd_ (CC 41 [(30, rf_ h (rf_ h x0 2) 7), (0, rd_ h (rf_ h (rf_ h x0 2) 6) 0), (0, rd_ h (rf_ h x0 0) 6)] h) fun h1 v2 => ck_ (0 ≤ (rf_ h (rf_ h x0 2) 10)) (ck_ (0 ≤ x1 ∧ x1 < ln_ h1 (rf_ h (rf_ h x0 2) 10)) (ck_ (0 ≤ x0) (ck_ (0 ≤ (rf_ h1 x0 2)) (ck_ (0 ≤ x0) (ck_ (0 ≤ (rf_ h1 x0 2)) (ck_ (0 ≤ (rf_ h1 (rf_ h1 x0 2) 6)) (ck_ (0 ≤ x0) (bd_ (CC 94 [(15, x0), (30, rf_ h1 (rf_ h1 x0 2) 9), (0, rd_ (wr_ h1 (rf_ h (rf_ h x0 2) 10) x1 v2) (rf_ h1 (rf_ h1 x0 2) 6) 1)] (wr_ h1 (rf_ h (rf_ h x0 2) 10) x1 v2)) fun h3 v4 => if v4 = 0 then JJ 97 6 [(15, x0), (0, x1), (0, v4)] [] h3 else JJ 97 5 [(15, x0), (0, x1), (0, v4)] [] h3)))))))))))))))))) = _
  simp only [cc_41, cc_94, jt_97_5, jt_97_6, ck_or1, ck_or2, rf_wr, ln_wr, nn_wr, rf_cp, ln_cp, nn_cp, ln_wf, nn_wf, rd_wf, nn_nw]
  try rfl))
theorem jt_97_3 (h : am_H) (d0 d1 : am_V) (x2 : Int) : JJ 97 3 [d0, d1, (0, x2)] [] h = some (h, x2) := (jj_of bk_97_3 _ _ h).trans (ff_of bk_97_3 [(9, 0), (9, 0), (0, x2)] [] h)
set_option maxRecDepth 20000 in
theorem jt_97_2 (h : am_H) (d2 : am_V) (x0 x1 : Int) : JJ 97 2 [(15, x0), (0, x1), d2] [] h = ck_ (0 ≤ x0) (ck_ (0 ≤ (rf_ h x0 2)) (ck_ (0 ≤ x0) (ck_ (0 ≤ (rf_ h x0 2)) (ck_ (0 ≤ (rf_ h (rf_ h x0 2) 6)) (ck_ (0 ≤ x0) (bd_ (Re_readToldName h x0 (rf_ h (rf_ h x0 2) 7) (rd_ h (rf_ h (rf_ h x0 2) 6) 0)) fun h1 v2 => if v2 = 0 then ck_ (0 ≤ x0) (ck_ (0 ≤ (rf_ h1 x0 2)) (ck_ (0 ≤ x0) (ck_ (0 ≤ (rf_ h1 x0 2)) (ck_ (0 ≤ x0) (ck_ (0 ≤ (rf_ h1 x0 2)) (ck_ (0 ≤ (rf_ h1 (rf_ h1 x0 2) 6)) (ck_ (0 ≤ x0) (ck_ (0 ≤ (rf_ h1 x0 0)) (bd_ (Pp_indexOf h1 (rf_ h1 (rf_ h1 x0 2) 7) (rd_ h1 (rf_ h1 (rf_ h1 x0 2) 6) 0) (rd_ h1 (rf_ h1 x0 0) 6)) fun h3 v4 => ck_ (0 ≤ (rf_ h1 (rf_ h1 x0 2) 10)) (ck_ (0 ≤ x1 ∧ x1 < ln_ h3 (rf_ h1 (rf_ h1 x0 2) 10)) (ck_ (0 ≤ x0) (ck_ (0 ≤ (rf_ h3 x0 2)) (ck_ (0 ≤ x0) (ck_ (0 ≤ (rf_ h3 x0 2)) (ck_ (0 ≤ (rf_ h3 (rf_ h3 x0 2) 6)) (ck_ (0 ≤ x0) (bd_ (Re_readToldName (wr_ h3 (rf_ h1 (rf_ h1 x0 2) 10) x1 v4) x0 (rf_ h3 (rf_ h3 x0 2) 9) (rd_ (wr_ h3 (rf_ h1 (rf_ h1 x0 2) 10) x1 v4) (rf_ h3 (rf_ h3 x0 2) 6) 1)) fun h5 v6 => if v6 = 0 then ck_ (0 ≤ x0) (ck_ (0 ≤ (rf_ h5 x0 2)) (ck_ (0 ≤ x0) (ck_ (0 ≤ (rf_ h5 x0 2)) (ck_ (0 ≤ x0) (ck_ (0 ≤ (rf_ h5 x0 2)) (ck_ (0 ≤ (rf_ h5 (rf_ h5 x0 2) 6)) (ck_ (0 ≤ x0) (ck_ (0 ≤ (rf_ h5 x0 0)) (bd_ (Pp_indexOf h5 (rf_ h5 (rf_ h5 x0 2) 9) (rd_ h5 (rf_ h5 (rf_ h5 x0 2) 6) 1) (rd_ h5 (rf_ h5 x0 0) 6)) fun h7 v8 => ck_ (0 ≤ (rf_ h5 (rf_ h5 x0 2) 11)) (ck_ (0 ≤ x1 ∧ x1 < ln_ h7 (rf_ h5 (rf_ h5 x0 2) 11)) (ck_ (0 ≤ x0) (bd_ (Re_readNumber (wr_ h7 (rf_ h5 (rf_ h5 x0 2) 11) x1 v8) x0 1 5) fun h9 v10 => if v10 = 0 then ck_ (0 ≤ x0) (ck_ (0 ≤ (rf_ h9 x0 2)) (ck_ (0 ≤ x0) (ck_ (0 ≤ (rf_ h9 x0 0)) (ck_ (0 ≤ (rf_ h9 (rf_ h9 x0 2) 12)) (ck_ (0 ≤ x1 ∧ x1 < ln_ h9 (rf_ h9 (rf_ h9 x0 2) 12)) (ck_ (0 ≤ x0) (bd_ (Re_readNumber (wr_ h9 (rf_ h9 (rf_ h9 x0 2) 12) x1 (rd_ h9 (rf_ h9 x0 0) 6)) x0 0 99) fun h11 v12 => if v12 = 0 then ck_ (0 ≤ x0) (ck_ (0 ≤ (rf_ h11 x0 2)) (ck_ (0 ≤ x0) (ck_ (0 ≤ (rf_ h11 x0 0)) (ck_ (0 ≤ (rf_ h11 (rf_ h11 x0 2) 13)) (ck_ (0 ≤ x1 ∧ x1 < ln_ h11 (rf_ h11 (rf_ h11 x0 2) 13)) (ck_ (0 ≤ x0) (ck_ (0 ≤ (rf_ h11 x0 2)) (ck_ (0 ≤ (rf_ h11 x0 2)) (ck_ (0 ≤ x0) (bd_ (Re_readSemicolon (wr_ (wr_ h11 (rf_ h11 (rf_ h11 x0 2) 13) x1 (rd_ h11 (rf_ h11 x0 0) 6)) (rf_ h11 x0 2) 1 (w32 ((rd_ (wr_ h11 (rf_ h11 (rf_ h11 x0 2) 13) x1 (rd_ h11 (rf_ h11 x0 0) 6)) (rf_ h11 x0 2) 1) + 1))) x0) fun h13 v14 => some (h13, v14))))))))))) else some (h11, v12)))))))) else some (h9, v10))))))))))))) else some (h5, v6)))))))))))))))))) else some (h1, v2))))))) := (jj_of bk_97_2 _ _ h).trans ((ff_of bk_97_2 [(15, x0), (0, x1), (9, 0)] [] h).trans (by
  show (ck_ (0 ≤ x0) (ck_ (0 ≤ (rf_ h x0 2)) (ck_ (0 ≤ x0) (ck_ (0 ≤ (rf_ h x0 2)) (ck_ (0 ≤ (rf_ h (rf_ h x0 2) 6)) (ck_ (0 ≤ x0) (bd_ (CC 94 [(15, x0), (30, rf_ h (rf_ h x0 2) 7), (0, rd_ h (rf_ h (rf_ h x0 2) 6) 0)] h) fun h1 v2 => if v2 = 0 then JJ 97 4 [(15, x0), (0, x1), (0, v2)] [] h1 else JJ 97 3 [(15, x0), (0, x1), (0, v2)] [] h1))))))) = _
  simp only [cc_94, jt_97_3, jt_97_4, ck_or1, ck_or2, rf_wr, ln_wr, nn_wr, rf_cp, ln_cp, nn_cp, ln_wf, nn_wf, rd_wf, nn_nw]
  try rfl))
theorem jt_97_1 (h : am_H) (d0 d1 d2 : am_V) : JJ 97 1 [d0, d1, d2] [] h = some (h, 2) := (jj_of bk_97_1 _ _ h).trans (ff_of bk_97_1 [(9, 0), (9, 0), (9, 0)] [] h)
set_option maxRecDepth 20000 in
theorem Re_readTurn_e (h : am_H) (x0 : Int) : Re_readTurn h x0 = ck_ (0 ≤ x0) (ck_ (0 ≤ (rf_ h x0 2)) (if (rd_ h (rf_ h x0 2) 1) < 14 then ck_ (0 ≤ x0) (ck_ (0 ≤ (rf_ h x0 2)) (ck_ (0 ≤ x0) (ck_ (0 ≤ (rf_ h x0 2)) (ck_ (0 ≤ (rf_ h (rf_ h x0 2) 6)) (ck_ (0 ≤ x0) (bd_ (Re_readToldName h x0 (rf_ h (rf_ h x0 2) 7) (rd_ h (rf_ h (rf_ h x0 2) 6) 0)) fun h1 v2 => if v2 = 0 then ck_ (0 ≤ x0) (ck_ (0 ≤ (rf_ h1 x0 2)) (ck_ (0 ≤ x0) (ck_ (0 ≤ (rf_ h1 x0 2)) (ck_ (0 ≤ x0) (ck_ (0 ≤ (rf_ h1 x0 2)) (ck_ (0 ≤ (rf_ h1 (rf_ h1 x0 2) 6)) (ck_ (0 ≤ x0) (ck_ (0 ≤ (rf_ h1 x0 0)) (bd_ (Pp_indexOf h1 (rf_ h1 (rf_ h1 x0 2) 7) (rd_ h1 (rf_ h1 (rf_ h1 x0 2) 6) 0) (rd_ h1 (rf_ h1 x0 0) 6)) fun h3 v4 => ck_ (0 ≤ (rf_ h1 (rf_ h1 x0 2) 10)) (ck_ (0 ≤ (rd_ h (rf_ h x0 2) 1) ∧ (rd_ h (rf_ h x0 2) 1) < ln_ h3 (rf_ h1 (rf_ h1 x0 2) 10)) (ck_ (0 ≤ x0) (ck_ (0 ≤ (rf_ h3 x0 2)) (ck_ (0 ≤ x0) (ck_ (0 ≤ (rf_ h3 x0 2)) (ck_ (0 ≤ (rf_ h3 (rf_ h3 x0 2) 6)) (ck_ (0 ≤ x0) (bd_ (Re_readToldName (wr_ h3 (rf_ h1 (rf_ h1 x0 2) 10) (rd_ h (rf_ h x0 2) 1) v4) x0 (rf_ h3 (rf_ h3 x0 2) 9) (rd_ (wr_ h3 (rf_ h1 (rf_ h1 x0 2) 10) (rd_ h (rf_ h x0 2) 1) v4) (rf_ h3 (rf_ h3 x0 2) 6) 1)) fun h5 v6 => if v6 = 0 then ck_ (0 ≤ x0) (ck_ (0 ≤ (rf_ h5 x0 2)) (ck_ (0 ≤ x0) (ck_ (0 ≤ (rf_ h5 x0 2)) (ck_ (0 ≤ x0) (ck_ (0 ≤ (rf_ h5 x0 2)) (ck_ (0 ≤ (rf_ h5 (rf_ h5 x0 2) 6)) (ck_ (0 ≤ x0) (ck_ (0 ≤ (rf_ h5 x0 0)) (bd_ (Pp_indexOf h5 (rf_ h5 (rf_ h5 x0 2) 9) (rd_ h5 (rf_ h5 (rf_ h5 x0 2) 6) 1) (rd_ h5 (rf_ h5 x0 0) 6)) fun h7 v8 => ck_ (0 ≤ (rf_ h5 (rf_ h5 x0 2) 11)) (ck_ (0 ≤ (rd_ h (rf_ h x0 2) 1) ∧ (rd_ h (rf_ h x0 2) 1) < ln_ h7 (rf_ h5 (rf_ h5 x0 2) 11)) (ck_ (0 ≤ x0) (bd_ (Re_readNumber (wr_ h7 (rf_ h5 (rf_ h5 x0 2) 11) (rd_ h (rf_ h x0 2) 1) v8) x0 1 5) fun h9 v10 => if v10 = 0 then ck_ (0 ≤ x0) (ck_ (0 ≤ (rf_ h9 x0 2)) (ck_ (0 ≤ x0) (ck_ (0 ≤ (rf_ h9 x0 0)) (ck_ (0 ≤ (rf_ h9 (rf_ h9 x0 2) 12)) (ck_ (0 ≤ (rd_ h (rf_ h x0 2) 1) ∧ (rd_ h (rf_ h x0 2) 1) < ln_ h9 (rf_ h9 (rf_ h9 x0 2) 12)) (ck_ (0 ≤ x0) (bd_ (Re_readNumber (wr_ h9 (rf_ h9 (rf_ h9 x0 2) 12) (rd_ h (rf_ h x0 2) 1) (rd_ h9 (rf_ h9 x0 0) 6)) x0 0 99) fun h11 v12 => if v12 = 0 then ck_ (0 ≤ x0) (ck_ (0 ≤ (rf_ h11 x0 2)) (ck_ (0 ≤ x0) (ck_ (0 ≤ (rf_ h11 x0 0)) (ck_ (0 ≤ (rf_ h11 (rf_ h11 x0 2) 13)) (ck_ (0 ≤ (rd_ h (rf_ h x0 2) 1) ∧ (rd_ h (rf_ h x0 2) 1) < ln_ h11 (rf_ h11 (rf_ h11 x0 2) 13)) (ck_ (0 ≤ x0) (ck_ (0 ≤ (rf_ h11 x0 2)) (ck_ (0 ≤ (rf_ h11 x0 2)) (ck_ (0 ≤ x0) (bd_ (Re_readSemicolon (wr_ (wr_ h11 (rf_ h11 (rf_ h11 x0 2) 13) (rd_ h (rf_ h x0 2) 1) (rd_ h11 (rf_ h11 x0 0) 6)) (rf_ h11 x0 2) 1 (w32 ((rd_ (wr_ h11 (rf_ h11 (rf_ h11 x0 2) 13) (rd_ h (rf_ h x0 2) 1) (rd_ h11 (rf_ h11 x0 0) 6)) (rf_ h11 x0 2) 1) + 1))) x0) fun h13 v14 => some (h13, v14))))))))))) else some (h11, v12)))))))) else some (h9, v10))))))))))))) else some (h5, v6)))))))))))))))))) else some (h1, v2))))))) else some (h, 2))) := (ff_of bk_97_0 [(15, x0), (9, 0), (9, 0)] [] h).trans (by
  show (ck_ (0 ≤ x0) (ck_ (0 ≤ (rf_ h x0 2)) (if (rd_ h (rf_ h x0 2) 1) < 14 then JJ 97 2 [(15, x0), (0, rd_ h (rf_ h x0 2) 1), (9, 0)] [] h else JJ 97 1 [(15, x0), (0, rd_ h (rf_ h x0 2) 1), (9, 0)] [] h))) = _
  simp only [jt_97_1, jt_97_2, ck_or1, ck_or2, rf_wr, ln_wr, nn_wr, rf_cp, ln_cp, nn_cp, ln_wf, nn_wf, rd_wf, nn_nw]
  try rfl)
theorem cc_97 (h : am_H) (x0 : Int) : CC 97 [(15, x0)] h = Re_readTurn h x0 := cc_of pk_97 _ h
theorem pk_98 : am_prog 98 = some cd_98 := rfl
theorem bk_98_0 : bk_ am_prog 98 0 = some ([true], (bl_98_0, 9999)) := bk_of pk_98 rfl
theorem bk_98_1 : bk_ am_prog 98 1 = some ([true], (bl_98_1, 9999)) := bk_of pk_98 rfl
theorem bk_98_2 : bk_ am_prog 98 2 = some ([true], (bl_98_2, 9999)) := bk_of pk_98 rfl
theorem bk_98_3 : bk_ am_prog 98 3 = some ([true], (bl_98_3, 9999)) := bk_of pk_98 rfl
theorem bk_98_4 : bk_ am_prog 98 4 = some ([true], (bl_98_4, 9999)) := bk_of pk_98 rfl
theorem bk_98_5 : bk_ am_prog 98 5 = some ([true], (bl_98_5, 9999)) := bk_of pk_98 rfl
theorem bk_98_6 : bk_ am_prog 98 6 = some ([true], (bl_98_6, 9999)) := bk_of pk_98 rfl
theorem bk_98_7 : bk_ am_prog 98 7 = some ([true], (bl_98_7, 9999)) := bk_of pk_98 rfl
theorem bk_98_8 : bk_ am_prog 98 8 = some ([false], (bl_98_8, 9999)) := bk_of pk_98 rfl
theorem jt_98_8 (h : am_H) (d0 : am_V) : JJ 98 8 [d0] [] h = some (h, 1) := (jj_of bk_98_8 _ _ h).trans (ff_of bk_98_8 [(9, 0)] [] h)
theorem jt_98_1 (h : am_H) (x0 : Int) : JJ 98 1 [(15, x0)] [] h = ck_ (0 ≤ x0) (bd_ (Re_readMaid h x0) fun h1 v2 => some (h1, v2)) := (jj_of bk_98_1 _ _ h).trans ((ff_of bk_98_1 [(15, x0)] [] h).trans (by
  show (ck_ (0 ≤ x0) (bd_ (CC 89 [(15, x0)] h) fun h1 v2 => some (h1, v2))) = _
  simp only [cc_89, ck_or1, ck_or2, rf_wr, ln_wr, nn_wr, rf_cp, ln_cp, nn_cp, ln_wf, nn_wf, rd_wf, nn_nw]
  try rfl))
theorem jt_98_2 (h : am_H) (x0 : Int) : JJ 98 2 [(15, x0)] [] h = ck_ (0 ≤ x0) (bd_ (Re_readPile h x0) fun h1 v2 => some (h1, v2)) := (jj_of bk_98_2 _ _ h).trans ((ff_of bk_98_2 [(15, x0)] [] h).trans (by
  show (ck_ (0 ≤ x0) (bd_ (CC 91 [(15, x0)] h) fun h1 v2 => some (h1, v2))) = _
  simp only [cc_91, ck_or1, ck_or2, rf_wr, ln_wr, nn_wr, rf_cp, ln_cp, nn_cp, ln_wf, nn_wf, rd_wf, nn_nw]
  try rfl))
theorem jt_98_3 (h : am_H) (x0 : Int) : JJ 98 3 [(15, x0)] [] h = ck_ (0 ≤ x0) (bd_ (Re_readPlate h x0) fun h1 v2 => some (h1, v2)) := (jj_of bk_98_3 _ _ h).trans ((ff_of bk_98_3 [(15, x0)] [] h).trans (by
  show (ck_ (0 ≤ x0) (bd_ (CC 95 [(15, x0)] h) fun h1 v2 => some (h1, v2))) = _
  simp only [cc_95, ck_or1, ck_or2, rf_wr, ln_wr, nn_wr, rf_cp, ln_cp, nn_cp, ln_wf, nn_wf, rd_wf, nn_nw]
  try rfl))
theorem jt_98_4 (h : am_H) (x0 : Int) : JJ 98 4 [(15, x0)] [] h = ck_ (0 ≤ x0) (bd_ (Re_readTurn h x0) fun h1 v2 => some (h1, v2)) := (jj_of bk_98_4 _ _ h).trans ((ff_of bk_98_4 [(15, x0)] [] h).trans (by
  show (ck_ (0 ≤ x0) (bd_ (CC 97 [(15, x0)] h) fun h1 v2 => some (h1, v2))) = _
  simp only [cc_97, ck_or1, ck_or2, rf_wr, ln_wr, nn_wr, rf_cp, ln_cp, nn_cp, ln_wf, nn_wf, rd_wf, nn_nw]
  try rfl))
theorem jt_98_5 (h : am_H) (x0 : Int) : JJ 98 5 [(15, x0)] [] h = ck_ (0 ≤ x0) (bd_ (Re_readChip h x0) fun h1 v2 => some (h1, v2)) := (jj_of bk_98_5 _ _ h).trans ((ff_of bk_98_5 [(15, x0)] [] h).trans (by
  show (ck_ (0 ≤ x0) (bd_ (CC 85 [(15, x0)] h) fun h1 v2 => some (h1, v2))) = _
  simp only [cc_85, ck_or1, ck_or2, rf_wr, ln_wr, nn_wr, rf_cp, ln_cp, nn_cp, ln_wf, nn_wf, rd_wf, nn_nw]
  try rfl))
theorem jt_98_6 (h : am_H) (x0 : Int) : JJ 98 6 [(15, x0)] [] h = ck_ (0 ≤ x0) (bd_ (Re_readSeed h x0) fun h1 v2 => some (h1, v2)) := (jj_of bk_98_6 _ _ h).trans ((ff_of bk_98_6 [(15, x0)] [] h).trans (by
  show (ck_ (0 ≤ x0) (bd_ (CC 96 [(15, x0)] h) fun h1 v2 => some (h1, v2))) = _
  simp only [cc_96, ck_or1, ck_or2, rf_wr, ln_wr, nn_wr, rf_cp, ln_cp, nn_cp, ln_wf, nn_wf, rd_wf, nn_nw]
  try rfl))
theorem jt_98_7 (h : am_H) (x0 : Int) : JJ 98 7 [(15, x0)] [] h = ck_ (0 ≤ x0) (bd_ (Re_readLaw h x0) fun h1 v2 => some (h1, v2)) := (jj_of bk_98_7 _ _ h).trans ((ff_of bk_98_7 [(15, x0)] [] h).trans (by
  show (ck_ (0 ≤ x0) (bd_ (CC 86 [(15, x0)] h) fun h1 v2 => some (h1, v2))) = _
  simp only [cc_86, ck_or1, ck_or2, rf_wr, ln_wr, nn_wr, rf_cp, ln_cp, nn_cp, ln_wf, nn_wf, rd_wf, nn_nw]
  try rfl))
set_option maxRecDepth 20000 in
theorem Re_readLine_e (h : am_H) (x0 : Int) : Re_readLine h x0 = ck_ (0 ≤ x0) (ck_ (0 ≤ (rf_ h x0 0)) (if (rd_ h (rf_ h x0 0) 4) = 10 then ck_ (0 ≤ x0) (bd_ (Re_readMaid h x0) fun h13 v14 => some (h13, v14)) else if (rd_ h (rf_ h x0 0) 4) = 11 then ck_ (0 ≤ x0) (bd_ (Re_readPile h x0) fun h11 v12 => some (h11, v12)) else if (rd_ h (rf_ h x0 0) 4) = 12 then ck_ (0 ≤ x0) (bd_ (Re_readPlate h x0) fun h9 v10 => some (h9, v10)) else if (rd_ h (rf_ h x0 0) 4) = 13 then ck_ (0 ≤ x0) (bd_ (Re_readTurn h x0) fun h7 v8 => some (h7, v8)) else if (rd_ h (rf_ h x0 0) 4) = 14 then ck_ (0 ≤ x0) (bd_ (Re_readChip h x0) fun h5 v6 => some (h5, v6)) else if (rd_ h (rf_ h x0 0) 4) = 15 then ck_ (0 ≤ x0) (bd_ (Re_readSeed h x0) fun h3 v4 => some (h3, v4)) else if (rd_ h (rf_ h x0 0) 4) = 16 then ck_ (0 ≤ x0) (bd_ (Re_readLaw h x0) fun h1 v2 => some (h1, v2)) else some (h, 1))) := (ff_of bk_98_0 [(15, x0)] [] h).trans (by
  show (ck_ (0 ≤ x0) (ck_ (0 ≤ (rf_ h x0 0)) (if (rd_ h (rf_ h x0 0) 4) = 10 then JJ 98 1 [(15, x0)] [] h else if (rd_ h (rf_ h x0 0) 4) = 11 then JJ 98 2 [(15, x0)] [] h else if (rd_ h (rf_ h x0 0) 4) = 12 then JJ 98 3 [(15, x0)] [] h else if (rd_ h (rf_ h x0 0) 4) = 13 then JJ 98 4 [(15, x0)] [] h else if (rd_ h (rf_ h x0 0) 4) = 14 then JJ 98 5 [(15, x0)] [] h else if (rd_ h (rf_ h x0 0) 4) = 15 then JJ 98 6 [(15, x0)] [] h else if (rd_ h (rf_ h x0 0) 4) = 16 then JJ 98 7 [(15, x0)] [] h else JJ 98 8 [(15, x0)] [] h))) = _
  simp only [jt_98_1, jt_98_2, jt_98_3, jt_98_4, jt_98_5, jt_98_6, jt_98_7, jt_98_8, ck_or1, ck_or2, rf_wr, ln_wr, nn_wr, rf_cp, ln_cp, nn_cp, ln_wf, nn_wf, rd_wf, nn_nw]
  try rfl)
theorem cc_98 (h : am_H) (x0 : Int) : CC 98 [(15, x0)] h = Re_readLine h x0 := cc_of pk_98 _ h
theorem pk_99 : am_prog 99 = some cd_99 := rfl
theorem bk_99_0 : bk_ am_prog 99 0 = some ([true, true, true], (bl_99_0, 9999)) := bk_of pk_99 rfl
theorem Tk_begin_e (h : am_H) (x0 x1 x2 : Int) : Tk_begin h x0 x1 x2 = ck_ (0 ≤ x0) (ck_ (0 ≤ x0) (ck_ (0 ≤ (rf_ (wf_ h x0 1 x1) x0 1)) (ck_ (0 ≤ x0) (ck_ (0 ≤ x0) (ck_ (0 ≤ x0) (ck_ (0 ≤ x0) (ck_ (0 ≤ x0) (some (wr_ (wr_ (wr_ (wr_ (wr_ (wf_ h x0 1 x1) x0 2 (if (ln_ h (rf_ (wf_ h x0 1 x1) x0 1)) < x2 then (ln_ h (rf_ (wf_ h x0 1 x1) x0 1)) else x2)) x0 3 0) x0 4 0) x0 5 0) x0 6 0, 0))))))))) := ff_of bk_99_0 [(17, x0), (31, x1), (0, x2)] [] h
theorem cc_99 (h : am_H) (x0 x1 x2 : Int) : CC 99 [(17, x0), (31, x1), (0, x2)] h = Tk_begin h x0 x1 x2 := cc_of pk_99 _ h
theorem pk_100 : am_prog 100 = some cd_100 := rfl
theorem bk_100_0 : bk_ am_prog 100 0 = some ([true], (bl_100_0, 9999)) := bk_of pk_100 rfl
theorem Wo_clear_e (h : am_H) (x0 : Int) : Wo_clear h x0 = ck_ (0 ≤ x0) (ck_ (0 ≤ x0) (ck_ (0 ≤ x0) (ck_ (0 ≤ x0) (ck_ (0 ≤ x0) (ck_ (0 ≤ x0) (some (wr_ (wr_ (wr_ (wr_ (wr_ (wr_ h x0 0 0) x0 1 0) x0 2 0) x0 3 0) x0 4 0) x0 5 0, 0))))))) := ff_of bk_100_0 [(20, x0)] [] h
theorem cc_100 (h : am_H) (x0 : Int) : CC 100 [(20, x0)] h = Wo_clear h x0 := cc_of pk_100 _ h
theorem pk_101 : am_prog 101 = some cd_101 := rfl
theorem bk_101_0 : bk_ am_prog 101 0 = some ([true, false], (bl_101_0, 1)) := bk_of pk_101 rfl
theorem bk_101_1 : bk_ am_prog 101 1 = some ([true, true], (bl_101_1, 9999)) := bk_of pk_101 rfl
theorem bk_101_2 : bk_ am_prog 101 2 = some ([true, true], (bl_101_2, 9999)) := bk_of pk_101 rfl
theorem bk_101_3 : bk_ am_prog 101 3 = some ([false, false], (bl_101_3, 9999)) := bk_of pk_101 rfl
theorem jt_101_1 (h : am_H) (x0 x1 : Int) : JJ 101 1 [(18, x0), (0, x1)] [] h = To_clear_1 h x0 x1 := jj_of bk_101_1 _ _ h
theorem To_clear_e (h : am_H) (x0 : Int) : To_clear h x0 = ck_ (0 ≤ x0) (ck_ (0 ≤ x0) (ck_ (0 ≤ x0) (ck_ (0 ≤ x0) (ck_ (0 ≤ x0) (ck_ (0 ≤ x0) (ck_ (0 ≤ x0) (ck_ (0 ≤ (rf_ h x0 6)) (bd_ (Wo_clear (wr_ (wr_ (wr_ (wr_ (wr_ (wr_ h x0 0 0) x0 1 0) x0 2 0) x0 3 0) x0 4 0) x0 5 0) (rf_ h x0 6)) fun h1 _ => To_clear_1 h1 x0 0)))))))) := (ff_of bk_101_0 [(18, x0), (9, 0)] [] h).trans (by
  show (ck_ (0 ≤ x0) (ck_ (0 ≤ x0) (ck_ (0 ≤ x0) (ck_ (0 ≤ x0) (ck_ (0 ≤ x0) (ck_ (0 ≤ x0) (ck_ (0 ≤ x0) (ck_ (0 ≤ (rf_ h x0 6)) (bd_ (CC 100 [(20, rf_ h x0 6)] (wr_ (wr_ (wr_ (wr_ (wr_ (wr_ h x0 0 0) x0 1 0) x0 2 0) x0 3 0) x0 4 0) x0 5 0)) fun h1 _ => JJ 101 1 [(18, x0), (0, 0)] [] h1))))))))) = _
  simp only [cc_100, jt_101_1, ck_or1, ck_or2, rf_wr, ln_wr, nn_wr, rf_cp, ln_cp, nn_cp, ln_wf, nn_wf, rd_wf, nn_nw]
  try rfl)
theorem jt_101_3 (h : am_H) (d0 d1 : am_V) : JJ 101 3 [d0, d1] [] h = some (h, 0) := (jj_of bk_101_3 _ _ h).trans (ff_of bk_101_3 [(9, 0), (9, 0)] [] h)
theorem jt_101_2 (h : am_H) (x0 x1 : Int) : JJ 101 2 [(18, x0), (0, x1)] [] h = ck_ (0 ≤ x0) (ck_ (0 ≤ (rf_ h x0 15)) (ck_ (0 ≤ x1 ∧ x1 < ln_ h (rf_ h x0 15)) (ck_ (0 ≤ x0) (ck_ (0 ≤ (rf_ h x0 16)) (ck_ (0 ≤ x1 ∧ x1 < ln_ h (rf_ h x0 16)) (To_clear_1 (wr_ (wr_ h (rf_ h x0 15) x1 0) (rf_ h x0 16) x1 0) x0 (w32 (x1 + 1)))))))) := (jj_of bk_101_2 _ _ h).trans ((ff_of bk_101_2 [(18, x0), (0, x1)] [] h).trans (by
  show (ck_ (0 ≤ x0) (ck_ (0 ≤ (rf_ h x0 15)) (ck_ (0 ≤ x1 ∧ x1 < ln_ h (rf_ h x0 15)) (ck_ (0 ≤ x0) (ck_ (0 ≤ (rf_ h x0 16)) (ck_ (0 ≤ x1 ∧ x1 < ln_ h (rf_ h x0 16)) (JJ 101 1 [(18, x0), (0, w32 (x1 + 1))] [] (wr_ (wr_ h (rf_ h x0 15) x1 0) (rf_ h x0 16) x1 0)))))))) = _
  simp only [jt_101_1, ck_or1, ck_or2, rf_wr, ln_wr, nn_wr, rf_cp, ln_cp, nn_cp, ln_wf, nn_wf, rd_wf, nn_nw]
  try rfl))
theorem To_clear_1_e (h : am_H) (x0 x1 : Int) : To_clear_1 h x0 x1 = if 3 ≤ x1 then some (h, 0) else ck_ (0 ≤ x0) (ck_ (0 ≤ (rf_ h x0 15)) (ck_ (0 ≤ x1 ∧ x1 < ln_ h (rf_ h x0 15)) (ck_ (0 ≤ x0) (ck_ (0 ≤ (rf_ h x0 16)) (ck_ (0 ≤ x1 ∧ x1 < ln_ h (rf_ h x0 16)) (To_clear_1 (wr_ (wr_ h (rf_ h x0 15) x1 0) (rf_ h x0 16) x1 0) x0 (w32 (x1 + 1)))))))) := (ff_of bk_101_1 [(18, x0), (0, x1)] [] h).trans (by
  show (if 3 ≤ x1 then JJ 101 3 [(18, x0), (0, x1)] [] h else JJ 101 2 [(18, x0), (0, x1)] [] h) = _
  simp only [jt_101_2, jt_101_3, ck_or1, ck_or2, rf_wr, ln_wr, nn_wr, rf_cp, ln_cp, nn_cp, ln_wf, nn_wf, rd_wf, nn_nw]
  try rfl)
theorem cc_101 (h : am_H) (x0 : Int) : CC 101 [(18, x0)] h = To_clear h x0 := cc_of pk_101 _ h
theorem pk_102 : am_prog 102 = some cd_102 := rfl
theorem bk_102_0 : bk_ am_prog 102 0 = some ([true, true, true, true, false, false], (bl_102_0, 1)) := bk_of pk_102 rfl
theorem bk_102_1 : bk_ am_prog 102 1 = some ([true, false, true, false, true, false], (bl_102_1, 9999)) := bk_of pk_102 rfl
theorem bk_102_2 : bk_ am_prog 102 2 = some ([true, false, true, false, true, false], (bl_102_2, 9999)) := bk_of pk_102 rfl
theorem bk_102_3 : bk_ am_prog 102 3 = some ([false, false, false, false, false, false], (bl_102_3, 9999)) := bk_of pk_102 rfl
theorem bk_102_4 : bk_ am_prog 102 4 = some ([true, false, true, false, true, false], (bl_102_4, 9999)) := bk_of pk_102 rfl
theorem bk_102_5 : bk_ am_prog 102 5 = some ([false, false, false, false, false, true], (bl_102_5, 9999)) := bk_of pk_102 rfl
theorem bk_102_6 : bk_ am_prog 102 6 = some ([true, false, true, false, true, false], (bl_102_6, 9999)) := bk_of pk_102 rfl
theorem bk_102_7 : bk_ am_prog 102 7 = some ([false, false, false, false, false, false], (bl_102_7, 9999)) := bk_of pk_102 rfl
theorem jt_102_1 (h : am_H) (d1 d3 d5 : am_V) (x0 x2 x4 : Int) : JJ 102 1 [(15, x0), d1, (0, x2), d3, (0, x4), d5] [] h = Re_read_1 h x0 x2 x4 := jj_of bk_102_1 _ _ h
theorem Re_read_e (h : am_H) (x0 x1 x2 x3 : Int) : Re_read h x0 x1 x2 x3 = ck_ (0 ≤ x0) (ck_ (0 ≤ x0) (ck_ (0 ≤ (rf_ (wf_ h x0 2 x3) x0 2)) (bd_ (To_clear (wf_ h x0 2 x3) (rf_ (wf_ h x0 2 x3) x0 2)) fun h1 _ => ck_ (0 ≤ x0) (ck_ (0 ≤ (rf_ h1 x0 0)) (bd_ (Tk_begin h1 (rf_ h1 x0 0) x1 x2) fun h3 _ => Re_read_1 h3 x0 x2 0))))) := (ff_of bk_102_0 [(15, x0), (31, x1), (0, x2), (18, x3), (9, 0), (9, 0)] [] h).trans (by
  show (ck_ (0 ≤ x0) (ck_ (0 ≤ x0) (ck_ (0 ≤ (rf_ (wf_ h x0 2 x3) x0 2)) (bd_ (CC 101 [(18, rf_ (wf_ h x0 2 x3) x0 2)] (wf_ h x0 2 x3)) fun h1 _ => ck_ (0 ≤ x0) (ck_ (0 ≤ (rf_ h1 x0 0)) (bd_ (CC 99 [(17, rf_ h1 x0 0), (31, x1), (0, x2)] h1) fun h3 _ => JJ 102 1 [(15, x0), (31, x1), (0, x2), (18, x3), (0, 0), (9, 0)] [] h3)))))) = _
  simp only [cc_99, cc_101, jt_102_1, ck_or1, ck_or2, rf_wr, ln_wr, nn_wr, rf_cp, ln_cp, nn_cp, ln_wf, nn_wf, rd_wf, nn_nw]
  try rfl)
theorem jt_102_7 (h : am_H) (d0 d1 d2 d3 d4 d5 : am_V) : JJ 102 7 [d0, d1, d2, d3, d4, d5] [] h = some (h, 1) := (jj_of bk_102_7 _ _ h).trans (ff_of bk_102_7 [(9, 0), (9, 0), (9, 0), (9, 0), (9, 0), (9, 0)] [] h)
theorem jt_102_6 (h : am_H) (d1 d3 d5 : am_V) (x0 x2 x4 : Int) : JJ 102 6 [(15, x0), d1, (0, x2), d3, (0, x4), d5] [] h = ck_ (0 ≤ x0) (ck_ (0 ≤ (rf_ h x0 2)) (ck_ (0 ≤ (rf_ h x0 2)) (Re_read_1 (wr_ h (rf_ h x0 2) 0 (w32 ((rd_ h (rf_ h x0 2) 0) + 1))) x0 x2 (w32 (x4 + 1))))) := (jj_of bk_102_6 _ _ h).trans ((ff_of bk_102_6 [(15, x0), (9, 0), (0, x2), (9, 0), (0, x4), (9, 0)] [] h).trans (by
  show (ck_ (0 ≤ x0) (ck_ (0 ≤ (rf_ h x0 2)) (ck_ (0 ≤ (rf_ h x0 2)) (JJ 102 1 [(15, x0), (9, 0), (0, x2), (9, 0), (0, w32 (x4 + 1)), (9, 0)] [] (wr_ h (rf_ h x0 2) 0 (w32 ((rd_ h (rf_ h x0 2) 0) + 1))))))) = _
  simp only [jt_102_1, ck_or1, ck_or2, rf_wr, ln_wr, nn_wr, rf_cp, ln_cp, nn_cp, ln_wf, nn_wf, rd_wf, nn_nw]
  try rfl))
theorem jt_102_5 (h : am_H) (d0 d1 d2 d3 d4 : am_V) (x5 : Int) : JJ 102 5 [d0, d1, d2, d3, d4, (0, x5)] [] h = some (h, x5) := (jj_of bk_102_5 _ _ h).trans (ff_of bk_102_5 [(9, 0), (9, 0), (9, 0), (9, 0), (9, 0), (0, x5)] [] h)
theorem jt_102_4 (h : am_H) (d1 d3 d5 : am_V) (x0 x2 x4 : Int) : JJ 102 4 [(15, x0), d1, (0, x2), d3, (0, x4), d5] [] h = ck_ (0 ≤ x0) (bd_ (Re_readLine h x0) fun h1 v2 => if v2 = 0 then ck_ (0 ≤ x0) (ck_ (0 ≤ (rf_ h1 x0 2)) (ck_ (0 ≤ (rf_ h1 x0 2)) (Re_read_1 (wr_ h1 (rf_ h1 x0 2) 0 (w32 ((rd_ h1 (rf_ h1 x0 2) 0) + 1))) x0 x2 (w32 (x4 + 1))))) else some (h1, v2)) := (jj_of bk_102_4 _ _ h).trans ((ff_of bk_102_4 [(15, x0), (9, 0), (0, x2), (9, 0), (0, x4), (9, 0)] [] h).trans (by
  show (ck_ (0 ≤ x0) (bd_ (CC 98 [(15, x0)] h) fun h1 v2 => if v2 = 0 then JJ 102 6 [(15, x0), (9, 0), (0, x2), (9, 0), (0, x4), (0, v2)] [] h1 else JJ 102 5 [(15, x0), (9, 0), (0, x2), (9, 0), (0, x4), (0, v2)] [] h1)) = _
  simp only [cc_98, jt_102_5, jt_102_6, ck_or1, ck_or2, rf_wr, ln_wr, nn_wr, rf_cp, ln_cp, nn_cp, ln_wf, nn_wf, rd_wf, nn_nw]
  try rfl))
theorem jt_102_3 (h : am_H) (d0 d1 d2 d3 d4 d5 : am_V) : JJ 102 3 [d0, d1, d2, d3, d4, d5] [] h = some (h, 0) := (jj_of bk_102_3 _ _ h).trans (ff_of bk_102_3 [(9, 0), (9, 0), (9, 0), (9, 0), (9, 0), (9, 0)] [] h)
theorem jt_102_2 (h : am_H) (d1 d3 d5 : am_V) (x0 x2 x4 : Int) : JJ 102 2 [(15, x0), d1, (0, x2), d3, (0, x4), d5] [] h = ck_ (0 ≤ x0) (ck_ (0 ≤ (rf_ h x0 0)) (bd_ (Tk_step h (rf_ h x0 0)) fun h1 _ => ck_ (0 ≤ x0) (ck_ (0 ≤ (rf_ h1 x0 0)) (if (rd_ h1 (rf_ h1 x0 0) 4) ≠ 0 then ck_ (0 ≤ x0) (bd_ (Re_readLine h1 x0) fun h3 v4 => if v4 = 0 then ck_ (0 ≤ x0) (ck_ (0 ≤ (rf_ h3 x0 2)) (ck_ (0 ≤ (rf_ h3 x0 2)) (Re_read_1 (wr_ h3 (rf_ h3 x0 2) 0 (w32 ((rd_ h3 (rf_ h3 x0 2) 0) + 1))) x0 x2 (w32 (x4 + 1))))) else some (h3, v4)) else some (h1, 0))))) := (jj_of bk_102_2 _ _ h).trans ((ff_of bk_102_2 [(15, x0), (9, 0), (0, x2), (9, 0), (0, x4), (9, 0)] [] h).trans (by
  show (ck_ (0 ≤ x0) (ck_ (0 ≤ (rf_ h x0 0)) (bd_ (CC 43 [(17, rf_ h x0 0)] h) fun h1 _ => ck_ (0 ≤ x0) (ck_ (0 ≤ (rf_ h1 x0 0)) (if (rd_ h1 (rf_ h1 x0 0) 4) ≠ 0 then JJ 102 4 [(15, x0), (9, 0), (0, x2), (9, 0), (0, x4), (9, 0)] [] h1 else JJ 102 3 [(15, x0), (9, 0), (0, x2), (9, 0), (0, x4), (9, 0)] [] h1))))) = _
  simp only [cc_43, jt_102_3, jt_102_4, ck_or1, ck_or2, rf_wr, ln_wr, nn_wr, rf_cp, ln_cp, nn_cp, ln_wf, nn_wf, rd_wf, nn_nw]
  try rfl))
theorem Re_read_1_e (h : am_H) (x0 x2 x4 : Int) : Re_read_1 h x0 x2 x4 = if x2 < x4 then some (h, 1) else ck_ (0 ≤ x0) (ck_ (0 ≤ (rf_ h x0 0)) (bd_ (Tk_step h (rf_ h x0 0)) fun h1 _ => ck_ (0 ≤ x0) (ck_ (0 ≤ (rf_ h1 x0 0)) (if (rd_ h1 (rf_ h1 x0 0) 4) ≠ 0 then ck_ (0 ≤ x0) (bd_ (Re_readLine h1 x0) fun h3 v4 => if v4 = 0 then ck_ (0 ≤ x0) (ck_ (0 ≤ (rf_ h3 x0 2)) (ck_ (0 ≤ (rf_ h3 x0 2)) (Re_read_1 (wr_ h3 (rf_ h3 x0 2) 0 (w32 ((rd_ h3 (rf_ h3 x0 2) 0) + 1))) x0 x2 (w32 (x4 + 1))))) else some (h3, v4)) else some (h1, 0))))) := (ff_of bk_102_1 [(15, x0), (9, 0), (0, x2), (9, 0), (0, x4), (9, 0)] [] h).trans (by
  show (if x2 < x4 then JJ 102 7 [(15, x0), (9, 0), (0, x2), (9, 0), (0, x4), (9, 0)] [] h else JJ 102 2 [(15, x0), (9, 0), (0, x2), (9, 0), (0, x4), (9, 0)] [] h) = _
  simp only [jt_102_2, jt_102_7, ck_or1, ck_or2, rf_wr, ln_wr, nn_wr, rf_cp, ln_cp, nn_cp, ln_wf, nn_wf, rd_wf, nn_nw]
  try rfl)
theorem cc_102 (h : am_H) (x0 x1 x2 x3 : Int) : CC 102 [(15, x0), (31, x1), (0, x2), (18, x3)] h = Re_read h x0 x1 x2 x3 := cc_of pk_102 _ h
theorem pk_103 : am_prog 103 = some cd_103 := rfl
theorem bk_103_0 : bk_ am_prog 103 0 = some ([true], (bl_103_0, 9999)) := bk_of pk_103 rfl
theorem Se_new_e (h : am_H) (x0 : Int) : Se_new h x0 = ck_ (0 ≤ x0) (ck_ (0 ≤ (24 : Int) ∧ (24 : Int) ≤ 1000000) (ck_ (0 ≤ x0) (ck_ (0 ≤ (24 : Int) ∧ (24 : Int) ≤ 1000000) (ck_ (0 ≤ x0) (ck_ (0 ≤ (24 : Int) ∧ (24 : Int) ≤ 1000000) (ck_ (0 ≤ x0) (ck_ (0 ≤ (24 : Int) ∧ (24 : Int) ≤ 1000000) (ck_ (0 ≤ x0) (ck_ (0 ≤ (24 : Int) ∧ (24 : Int) ≤ 1000000) (ck_ (0 ≤ x0) (ck_ (0 ≤ (24 : Int) ∧ (24 : Int) ≤ 1000000) (ck_ (0 ≤ x0) (ck_ (0 ≤ x0) (ck_ (0 ≤ x0) (some (wr_ (wr_ (wf_ (nw_ (wf_ (nw_ (wf_ (nw_ (wf_ (nw_ (wf_ (nw_ (wf_ (nw_ h 20 24) x0 0 (nn_ h)) 20 24) x0 1 (nn_ h + 1)) 20 24) x0 2 (nn_ h + 1 + 1)) 22 24) x0 3 (nn_ h + 1 + 1 + 1)) 20 24) x0 4 (nn_ h + 1 + 1 + 1 + 1)) 22 24) x0 5 (nn_ h + 1 + 1 + 1 + 1 + 1)) x0 6 0) x0 7 (-1), 0)))))))))))))))) := ff_of bk_103_0 [(16, x0)] [] h
theorem cc_103 (h : am_H) (x0 : Int) : CC 103 [(16, x0)] h = Se_new h x0 := cc_of pk_103 _ h
theorem pk_104 : am_prog 104 = some cd_104 := rfl
theorem bk_104_0 : bk_ am_prog 104 0 = some ([true], (bl_104_0, 9999)) := bk_of pk_104 rfl
theorem Se_forget_e (h : am_H) (x0 : Int) : Se_forget h x0 = ck_ (0 ≤ x0) (ck_ (0 ≤ x0) (some (wr_ (wr_ h x0 6 0) x0 7 (-1), 0))) := ff_of bk_104_0 [(16, x0)] [] h
theorem cc_104 (h : am_H) (x0 : Int) : CC 104 [(16, x0)] h = Se_forget h x0 := cc_of pk_104 _ h
theorem pk_105 : am_prog 105 = some cd_105 := rfl
theorem bk_105_0 : bk_ am_prog 105 0 = some ([true], (bl_105_0, 9999)) := bk_of pk_105 rfl
theorem Se_total_e (h : am_H) (x0 : Int) : Se_total h x0 = ck_ (0 ≤ x0) (some (h, rd_ h x0 6)) := ff_of bk_105_0 [(16, x0)] [] h
theorem cc_105 (h : am_H) (x0 : Int) : CC 105 [(16, x0)] h = Se_total h x0 := cc_of pk_105 _ h
theorem pk_106 : am_prog 106 = some cd_106 := rfl
theorem bk_106_0 : bk_ am_prog 106 0 = some ([true], (bl_106_0, 9999)) := bk_of pk_106 rfl
theorem bk_106_1 : bk_ am_prog 106 1 = some ([true], (bl_106_1, 9999)) := bk_of pk_106 rfl
theorem bk_106_2 : bk_ am_prog 106 2 = some ([true], (bl_106_2, 3)) := bk_of pk_106 rfl
theorem bk_106_3 : bk_ am_prog 106 3 = some ([false], (bl_106_3, 9999)) := bk_of pk_106 rfl
theorem jt_106_3 (h : am_H) (d0 : am_V) (s0 : Int) : JJ 106 3 [d0] [(0, s0)] h = some (h, s0) := (jj_of bk_106_3 _ _ h).trans (ff_of bk_106_3 [(9, 0)] [(0, s0)] h)
theorem jt_106_2 (h : am_H) (x0 : Int) : JJ 106 2 [(16, x0)] [] h = ck_ (0 ≤ x0) (some (h, rd_ h x0 7)) := (jj_of bk_106_2 _ _ h).trans ((ff_of bk_106_2 [(16, x0)] [] h).trans (by
  show (ck_ (0 ≤ x0) (JJ 106 3 [(16, x0)] [(0, rd_ h x0 7)] h)) = _
  simp only [jt_106_3, ck_or1, ck_or2, rf_wr, ln_wr, nn_wr, rf_cp, ln_cp, nn_cp, ln_wf, nn_wf, rd_wf, nn_nw]
  try rfl))
theorem jt_106_1 (h : am_H) (x0 : Int) : JJ 106 1 [(16, x0)] [] h = ck_ (0 ≤ x0) (some (h, rd_ h x0 6)) := (jj_of bk_106_1 _ _ h).trans ((ff_of bk_106_1 [(16, x0)] [] h).trans (by
  show (ck_ (0 ≤ x0) (JJ 106 3 [(16, x0)] [(0, rd_ h x0 6)] h)) = _
  simp only [jt_106_3, ck_or1, ck_or2, rf_wr, ln_wr, nn_wr, rf_cp, ln_cp, nn_cp, ln_wf, nn_wf, rd_wf, nn_nw]
  try rfl))
theorem Se_knownBy_e (h : am_H) (x0 : Int) : Se_knownBy h x0 = ck_ (0 ≤ x0) (if (rd_ h x0 7) ≠ (-1) then ck_ (0 ≤ x0) (some (h, rd_ h x0 7)) else ck_ (0 ≤ x0) (some (h, rd_ h x0 6))) := (ff_of bk_106_0 [(16, x0)] [] h).trans (by
  show (ck_ (0 ≤ x0) (if (rd_ h x0 7) ≠ (-1) then JJ 106 2 [(16, x0)] [] h else JJ 106 1 [(16, x0)] [] h)) = _
  simp only [jt_106_1, jt_106_2, ck_or1, ck_or2, rf_wr, ln_wr, nn_wr, rf_cp, ln_cp, nn_cp, ln_wf, nn_wf, rd_wf, nn_nw]
  try rfl)
theorem cc_106 (h : am_H) (x0 : Int) : CC 106 [(16, x0)] h = Se_knownBy h x0 := cc_of pk_106 _ h
theorem pk_107 : am_prog 107 = some cd_107 := rfl
theorem bk_107_0 : bk_ am_prog 107 0 = some ([true, true], (bl_107_0, 9999)) := bk_of pk_107 rfl
theorem bk_107_1 : bk_ am_prog 107 1 = some ([true, true], (bl_107_1, 9999)) := bk_of pk_107 rfl
theorem bk_107_2 : bk_ am_prog 107 2 = some ([false, false], (bl_107_2, 9999)) := bk_of pk_107 rfl
theorem bk_107_3 : bk_ am_prog 107 3 = some ([true, true], (bl_107_3, 9999)) := bk_of pk_107 rfl
theorem jt_107_2 (h : am_H) (d0 d1 : am_V) : JJ 107 2 [d0, d1] [] h = some (h, 0) := (jj_of bk_107_2 _ _ h).trans (ff_of bk_107_2 [(9, 0), (9, 0)] [] h)
theorem jt_107_3 (h : am_H) (x0 x1 : Int) : JJ 107 3 [(16, x0), (0, x1)] [] h = ck_ (0 ≤ x0) (some (wr_ h x0 7 x1, 1)) := (jj_of bk_107_3 _ _ h).trans (ff_of bk_107_3 [(16, x0), (0, x1)] [] h)
theorem jt_107_1 (h : am_H) (x0 x1 : Int) : JJ 107 1 [(16, x0), (0, x1)] [] h = ck_ (0 ≤ x0) (if x1 ≤ (rd_ h x0 6) then ck_ (0 ≤ x0) (some (wr_ h x0 7 x1, 1)) else some (h, 0)) := (jj_of bk_107_1 _ _ h).trans ((ff_of bk_107_1 [(16, x0), (0, x1)] [] h).trans (by
  show (ck_ (0 ≤ x0) (if x1 ≤ (rd_ h x0 6) then JJ 107 3 [(16, x0), (0, x1)] [] h else JJ 107 2 [(16, x0), (0, x1)] [] h)) = _
  simp only [jt_107_2, jt_107_3, ck_or1, ck_or2, rf_wr, ln_wr, nn_wr, rf_cp, ln_cp, nn_cp, ln_wf, nn_wf, rd_wf, nn_nw]
  try rfl))
theorem Se_knowBy_e (h : am_H) (x0 x1 : Int) : Se_knowBy h x0 x1 = if x1 < (-1) then some (h, 0) else ck_ (0 ≤ x0) (if x1 ≤ (rd_ h x0 6) then ck_ (0 ≤ x0) (some (wr_ h x0 7 x1, 1)) else some (h, 0)) := (ff_of bk_107_0 [(16, x0), (0, x1)] [] h).trans (by
  show (if x1 < (-1) then JJ 107 2 [(16, x0), (0, x1)] [] h else JJ 107 1 [(16, x0), (0, x1)] [] h) = _
  simp only [jt_107_1, jt_107_2, ck_or1, ck_or2, rf_wr, ln_wr, nn_wr, rf_cp, ln_cp, nn_cp, ln_wf, nn_wf, rd_wf, nn_nw]
  try rfl)
theorem cc_107 (h : am_H) (x0 x1 : Int) : CC 107 [(16, x0), (0, x1)] h = Se_knowBy h x0 x1 := cc_of pk_107 _ h
theorem pk_108 : am_prog 108 = some cd_108 := rfl
theorem bk_108_0 : bk_ am_prog 108 0 = some ([true, true, true, true, true], (bl_108_0, 9999)) := bk_of pk_108 rfl
theorem bk_108_1 : bk_ am_prog 108 1 = some ([false, false, false, false, false], (bl_108_1, 9999)) := bk_of pk_108 rfl
theorem bk_108_2 : bk_ am_prog 108 2 = some ([true, true, true, true, true], (bl_108_2, 9999)) := bk_of pk_108 rfl
set_option maxRecDepth 20000 in
theorem jt_108_2 (h : am_H) (x0 x1 x2 x3 x4 : Int) : JJ 108 2 [(16, x0), (0, x1), (0, x2), (0, x3), (0, x4)] [] h = ck_ (0 ≤ x0) (ck_ (0 ≤ x0) (ck_ (0 ≤ (rf_ h x0 0)) (ck_ (0 ≤ (rd_ h x0 6) ∧ (rd_ h x0 6) < ln_ h (rf_ h x0 0)) (ck_ (0 ≤ x0) (ck_ (0 ≤ x0) (ck_ (0 ≤ (rf_ h x0 1)) (ck_ (0 ≤ (rd_ (wr_ h (rf_ h x0 0) (rd_ h x0 6) x1) x0 6) ∧ (rd_ (wr_ h (rf_ h x0 0) (rd_ h x0 6) x1) x0 6) < ln_ h (rf_ h x0 1)) (ck_ (0 ≤ x0) (ck_ (0 ≤ x0) (ck_ (0 ≤ (rf_ h x0 2)) (ck_ (0 ≤ (rd_ (wr_ (wr_ h (rf_ h x0 0) (rd_ h x0 6) x1) (rf_ h x0 1) (rd_ (wr_ h (rf_ h x0 0) (rd_ h x0 6) x1) x0 6) x2) x0 6) ∧ (rd_ (wr_ (wr_ h (rf_ h x0 0) (rd_ h x0 6) x1) (rf_ h x0 1) (rd_ (wr_ h (rf_ h x0 0) (rd_ h x0 6) x1) x0 6) x2) x0 6) < ln_ h (rf_ h x0 2)) (ck_ (0 ≤ x0) (ck_ (0 ≤ x0) (ck_ (0 ≤ (rf_ h x0 3)) (ck_ (0 ≤ (rd_ (wr_ (wr_ (wr_ h (rf_ h x0 0) (rd_ h x0 6) x1) (rf_ h x0 1) (rd_ (wr_ h (rf_ h x0 0) (rd_ h x0 6) x1) x0 6) x2) (rf_ h x0 2) (rd_ (wr_ (wr_ h (rf_ h x0 0) (rd_ h x0 6) x1) (rf_ h x0 1) (rd_ (wr_ h (rf_ h x0 0) (rd_ h x0 6) x1) x0 6) x2) x0 6) x3) x0 6) ∧ (rd_ (wr_ (wr_ (wr_ h (rf_ h x0 0) (rd_ h x0 6) x1) (rf_ h x0 1) (rd_ (wr_ h (rf_ h x0 0) (rd_ h x0 6) x1) x0 6) x2) (rf_ h x0 2) (rd_ (wr_ (wr_ h (rf_ h x0 0) (rd_ h x0 6) x1) (rf_ h x0 1) (rd_ (wr_ h (rf_ h x0 0) (rd_ h x0 6) x1) x0 6) x2) x0 6) x3) x0 6) < ln_ h (rf_ h x0 3)) (ck_ (x4 = 0 ∨ x4 = 1) (ck_ (0 ≤ x0) (ck_ (0 ≤ x0) (ck_ (0 ≤ (rf_ h x0 4)) (ck_ (0 ≤ (rd_ (wr_ (wr_ (wr_ (wr_ h (rf_ h x0 0) (rd_ h x0 6) x1) (rf_ h x0 1) (rd_ (wr_ h (rf_ h x0 0) (rd_ h x0 6) x1) x0 6) x2) (rf_ h x0 2) (rd_ (wr_ (wr_ h (rf_ h x0 0) (rd_ h x0 6) x1) (rf_ h x0 1) (rd_ (wr_ h (rf_ h x0 0) (rd_ h x0 6) x1) x0 6) x2) x0 6) x3) (rf_ h x0 3) (rd_ (wr_ (wr_ (wr_ h (rf_ h x0 0) (rd_ h x0 6) x1) (rf_ h x0 1) (rd_ (wr_ h (rf_ h x0 0) (rd_ h x0 6) x1) x0 6) x2) (rf_ h x0 2) (rd_ (wr_ (wr_ h (rf_ h x0 0) (rd_ h x0 6) x1) (rf_ h x0 1) (rd_ (wr_ h (rf_ h x0 0) (rd_ h x0 6) x1) x0 6) x2) x0 6) x3) x0 6) x4) x0 6) ∧ (rd_ (wr_ (wr_ (wr_ (wr_ h (rf_ h x0 0) (rd_ h x0 6) x1) (rf_ h x0 1) (rd_ (wr_ h (rf_ h x0 0) (rd_ h x0 6) x1) x0 6) x2) (rf_ h x0 2) (rd_ (wr_ (wr_ h (rf_ h x0 0) (rd_ h x0 6) x1) (rf_ h x0 1) (rd_ (wr_ h (rf_ h x0 0) (rd_ h x0 6) x1) x0 6) x2) x0 6) x3) (rf_ h x0 3) (rd_ (wr_ (wr_ (wr_ h (rf_ h x0 0) (rd_ h x0 6) x1) (rf_ h x0 1) (rd_ (wr_ h (rf_ h x0 0) (rd_ h x0 6) x1) x0 6) x2) (rf_ h x0 2) (rd_ (wr_ (wr_ h (rf_ h x0 0) (rd_ h x0 6) x1) (rf_ h x0 1) (rd_ (wr_ h (rf_ h x0 0) (rd_ h x0 6) x1) x0 6) x2) x0 6) x3) x0 6) x4) x0 6) < ln_ h (rf_ h x0 4)) (ck_ (0 ≤ x0) (ck_ (0 ≤ x0) (ck_ (0 ≤ x0) (some (wr_ (wr_ (wr_ (wr_ (wr_ (wr_ h (rf_ h x0 0) (rd_ h x0 6) x1) (rf_ h x0 1) (rd_ (wr_ h (rf_ h x0 0) (rd_ h x0 6) x1) x0 6) x2) (rf_ h x0 2) (rd_ (wr_ (wr_ h (rf_ h x0 0) (rd_ h x0 6) x1) (rf_ h x0 1) (rd_ (wr_ h (rf_ h x0 0) (rd_ h x0 6) x1) x0 6) x2) x0 6) x3) (rf_ h x0 3) (rd_ (wr_ (wr_ (wr_ h (rf_ h x0 0) (rd_ h x0 6) x1) (rf_ h x0 1) (rd_ (wr_ h (rf_ h x0 0) (rd_ h x0 6) x1) x0 6) x2) (rf_ h x0 2) (rd_ (wr_ (wr_ h (rf_ h x0 0) (rd_ h x0 6) x1) (rf_ h x0 1) (rd_ (wr_ h (rf_ h x0 0) (rd_ h x0 6) x1) x0 6) x2) x0 6) x3) x0 6) x4) (rf_ h x0 4) (rd_ (wr_ (wr_ (wr_ (wr_ h (rf_ h x0 0) (rd_ h x0 6) x1) (rf_ h x0 1) (rd_ (wr_ h (rf_ h x0 0) (rd_ h x0 6) x1) x0 6) x2) (rf_ h x0 2) (rd_ (wr_ (wr_ h (rf_ h x0 0) (rd_ h x0 6) x1) (rf_ h x0 1) (rd_ (wr_ h (rf_ h x0 0) (rd_ h x0 6) x1) x0 6) x2) x0 6) x3) (rf_ h x0 3) (rd_ (wr_ (wr_ (wr_ h (rf_ h x0 0) (rd_ h x0 6) x1) (rf_ h x0 1) (rd_ (wr_ h (rf_ h x0 0) (rd_ h x0 6) x1) x0 6) x2) (rf_ h x0 2) (rd_ (wr_ (wr_ h (rf_ h x0 0) (rd_ h x0 6) x1) (rf_ h x0 1) (rd_ (wr_ h (rf_ h x0 0) (rd_ h x0 6) x1) x0 6) x2) x0 6) x3) x0 6) x4) x0 6) (-1)) x0 6 (w32 ((rd_ (wr_ (wr_ (wr_ (wr_ (wr_ h (rf_ h x0 0) (rd_ h x0 6) x1) (rf_ h x0 1) (rd_ (wr_ h (rf_ h x0 0) (rd_ h x0 6) x1) x0 6) x2) (rf_ h x0 2) (rd_ (wr_ (wr_ h (rf_ h x0 0) (rd_ h x0 6) x1) (rf_ h x0 1) (rd_ (wr_ h (rf_ h x0 0) (rd_ h x0 6) x1) x0 6) x2) x0 6) x3) (rf_ h x0 3) (rd_ (wr_ (wr_ (wr_ h (rf_ h x0 0) (rd_ h x0 6) x1) (rf_ h x0 1) (rd_ (wr_ h (rf_ h x0 0) (rd_ h x0 6) x1) x0 6) x2) (rf_ h x0 2) (rd_ (wr_ (wr_ h (rf_ h x0 0) (rd_ h x0 6) x1) (rf_ h x0 1) (rd_ (wr_ h (rf_ h x0 0) (rd_ h x0 6) x1) x0 6) x2) x0 6) x3) x0 6) x4) (rf_ h x0 4) (rd_ (wr_ (wr_ (wr_ (wr_ h (rf_ h x0 0) (rd_ h x0 6) x1) (rf_ h x0 1) (rd_ (wr_ h (rf_ h x0 0) (rd_ h x0 6) x1) x0 6) x2) (rf_ h x0 2) (rd_ (wr_ (wr_ h (rf_ h x0 0) (rd_ h x0 6) x1) (rf_ h x0 1) (rd_ (wr_ h (rf_ h x0 0) (rd_ h x0 6) x1) x0 6) x2) x0 6) x3) (rf_ h x0 3) (rd_ (wr_ (wr_ (wr_ h (rf_ h x0 0) (rd_ h x0 6) x1) (rf_ h x0 1) (rd_ (wr_ h (rf_ h x0 0) (rd_ h x0 6) x1) x0 6) x2) (rf_ h x0 2) (rd_ (wr_ (wr_ h (rf_ h x0 0) (rd_ h x0 6) x1) (rf_ h x0 1) (rd_ (wr_ h (rf_ h x0 0) (rd_ h x0 6) x1) x0 6) x2) x0 6) x3) x0 6) x4) x0 6) (-1)) x0 6) + 1)), w32 ((rd_ (wr_ (wr_ (wr_ (wr_ (wr_ (wr_ h (rf_ h x0 0) (rd_ h x0 6) x1) (rf_ h x0 1) (rd_ (wr_ h (rf_ h x0 0) (rd_ h x0 6) x1) x0 6) x2) (rf_ h x0 2) (rd_ (wr_ (wr_ h (rf_ h x0 0) (rd_ h x0 6) x1) (rf_ h x0 1) (rd_ (wr_ h (rf_ h x0 0) (rd_ h x0 6) x1) x0 6) x2) x0 6) x3) (rf_ h x0 3) (rd_ (wr_ (wr_ (wr_ h (rf_ h x0 0) (rd_ h x0 6) x1) (rf_ h x0 1) (rd_ (wr_ h (rf_ h x0 0) (rd_ h x0 6) x1) x0 6) x2) (rf_ h x0 2) (rd_ (wr_ (wr_ h (rf_ h x0 0) (rd_ h x0 6) x1) (rf_ h x0 1) (rd_ (wr_ h (rf_ h x0 0) (rd_ h x0 6) x1) x0 6) x2) x0 6) x3) x0 6) x4) (rf_ h x0 4) (rd_ (wr_ (wr_ (wr_ (wr_ h (rf_ h x0 0) (rd_ h x0 6) x1) (rf_ h x0 1) (rd_ (wr_ h (rf_ h x0 0) (rd_ h x0 6) x1) x0 6) x2) (rf_ h x0 2) (rd_ (wr_ (wr_ h (rf_ h x0 0) (rd_ h x0 6) x1) (rf_ h x0 1) (rd_ (wr_ h (rf_ h x0 0) (rd_ h x0 6) x1) x0 6) x2) x0 6) x3) (rf_ h x0 3) (rd_ (wr_ (wr_ (wr_ h (rf_ h x0 0) (rd_ h x0 6) x1) (rf_ h x0 1) (rd_ (wr_ h (rf_ h x0 0) (rd_ h x0 6) x1) x0 6) x2) (rf_ h x0 2) (rd_ (wr_ (wr_ h (rf_ h x0 0) (rd_ h x0 6) x1) (rf_ h x0 1) (rd_ (wr_ h (rf_ h x0 0) (rd_ h x0 6) x1) x0 6) x2) x0 6) x3) x0 6) x4) x0 6) (-1)) x0 6 (w32 ((rd_ (wr_ (wr_ (wr_ (wr_ (wr_ h (rf_ h x0 0) (rd_ h x0 6) x1) (rf_ h x0 1) (rd_ (wr_ h (rf_ h x0 0) (rd_ h x0 6) x1) x0 6) x2) (rf_ h x0 2) (rd_ (wr_ (wr_ h (rf_ h x0 0) (rd_ h x0 6) x1) (rf_ h x0 1) (rd_ (wr_ h (rf_ h x0 0) (rd_ h x0 6) x1) x0 6) x2) x0 6) x3) (rf_ h x0 3) (rd_ (wr_ (wr_ (wr_ h (rf_ h x0 0) (rd_ h x0 6) x1) (rf_ h x0 1) (rd_ (wr_ h (rf_ h x0 0) (rd_ h x0 6) x1) x0 6) x2) (rf_ h x0 2) (rd_ (wr_ (wr_ h (rf_ h x0 0) (rd_ h x0 6) x1) (rf_ h x0 1) (rd_ (wr_ h (rf_ h x0 0) (rd_ h x0 6) x1) x0 6) x2) x0 6) x3) x0 6) x4) (rf_ h x0 4) (rd_ (wr_ (wr_ (wr_ (wr_ h (rf_ h x0 0) (rd_ h x0 6) x1) (rf_ h x0 1) (rd_ (wr_ h (rf_ h x0 0) (rd_ h x0 6) x1) x0 6) x2) (rf_ h x0 2) (rd_ (wr_ (wr_ h (rf_ h x0 0) (rd_ h x0 6) x1) (rf_ h x0 1) (rd_ (wr_ h (rf_ h x0 0) (rd_ h x0 6) x1) x0 6) x2) x0 6) x3) (rf_ h x0 3) (rd_ (wr_ (wr_ (wr_ h (rf_ h x0 0) (rd_ h x0 6) x1) (rf_ h x0 1) (rd_ (wr_ h (rf_ h x0 0) (rd_ h x0 6) x1) x0 6) x2) (rf_ h x0 2) (rd_ (wr_ (wr_ h (rf_ h x0 0) (rd_ h x0 6) x1) (rf_ h x0 1) (rd_ (wr_ h (rf_ h x0 0) (rd_ h x0 6) x1) x0 6) x2) x0 6) x3) x0 6) x4) x0 6) (-1)) x0 6) + 1))) x0 6) - 1)))))))))))))))))))))))))) := (jj_of bk_108_2 _ _ h).trans (ff_of bk_108_2 [(16, x0), (0, x1), (0, x2), (0, x3), (0, x4)] [] h)
theorem jt_108_1 (h : am_H) (d0 d1 d2 d3 d4 : am_V) : JJ 108 1 [d0, d1, d2, d3, d4] [] h = some (h, (-1)) := (jj_of bk_108_1 _ _ h).trans (ff_of bk_108_1 [(9, 0), (9, 0), (9, 0), (9, 0), (9, 0)] [] h)
set_option maxRecDepth 20000 in
theorem Se_addSight_e (h : am_H) (x0 x1 x2 x3 x4 : Int) : Se_addSight h x0 x1 x2 x3 x4 = ck_ (0 ≤ x0) (if (rd_ h x0 6) < 24 then ck_ (0 ≤ x0) (ck_ (0 ≤ x0) (ck_ (0 ≤ (rf_ h x0 0)) (ck_ (0 ≤ (rd_ h x0 6) ∧ (rd_ h x0 6) < ln_ h (rf_ h x0 0)) (ck_ (0 ≤ x0) (ck_ (0 ≤ x0) (ck_ (0 ≤ (rf_ h x0 1)) (ck_ (0 ≤ (rd_ (wr_ h (rf_ h x0 0) (rd_ h x0 6) x1) x0 6) ∧ (rd_ (wr_ h (rf_ h x0 0) (rd_ h x0 6) x1) x0 6) < ln_ h (rf_ h x0 1)) (ck_ (0 ≤ x0) (ck_ (0 ≤ x0) (ck_ (0 ≤ (rf_ h x0 2)) (ck_ (0 ≤ (rd_ (wr_ (wr_ h (rf_ h x0 0) (rd_ h x0 6) x1) (rf_ h x0 1) (rd_ (wr_ h (rf_ h x0 0) (rd_ h x0 6) x1) x0 6) x2) x0 6) ∧ (rd_ (wr_ (wr_ h (rf_ h x0 0) (rd_ h x0 6) x1) (rf_ h x0 1) (rd_ (wr_ h (rf_ h x0 0) (rd_ h x0 6) x1) x0 6) x2) x0 6) < ln_ h (rf_ h x0 2)) (ck_ (0 ≤ x0) (ck_ (0 ≤ x0) (ck_ (0 ≤ (rf_ h x0 3)) (ck_ (0 ≤ (rd_ (wr_ (wr_ (wr_ h (rf_ h x0 0) (rd_ h x0 6) x1) (rf_ h x0 1) (rd_ (wr_ h (rf_ h x0 0) (rd_ h x0 6) x1) x0 6) x2) (rf_ h x0 2) (rd_ (wr_ (wr_ h (rf_ h x0 0) (rd_ h x0 6) x1) (rf_ h x0 1) (rd_ (wr_ h (rf_ h x0 0) (rd_ h x0 6) x1) x0 6) x2) x0 6) x3) x0 6) ∧ (rd_ (wr_ (wr_ (wr_ h (rf_ h x0 0) (rd_ h x0 6) x1) (rf_ h x0 1) (rd_ (wr_ h (rf_ h x0 0) (rd_ h x0 6) x1) x0 6) x2) (rf_ h x0 2) (rd_ (wr_ (wr_ h (rf_ h x0 0) (rd_ h x0 6) x1) (rf_ h x0 1) (rd_ (wr_ h (rf_ h x0 0) (rd_ h x0 6) x1) x0 6) x2) x0 6) x3) x0 6) < ln_ h (rf_ h x0 3)) (ck_ (x4 = 0 ∨ x4 = 1) (ck_ (0 ≤ x0) (ck_ (0 ≤ x0) (ck_ (0 ≤ (rf_ h x0 4)) (ck_ (0 ≤ (rd_ (wr_ (wr_ (wr_ (wr_ h (rf_ h x0 0) (rd_ h x0 6) x1) (rf_ h x0 1) (rd_ (wr_ h (rf_ h x0 0) (rd_ h x0 6) x1) x0 6) x2) (rf_ h x0 2) (rd_ (wr_ (wr_ h (rf_ h x0 0) (rd_ h x0 6) x1) (rf_ h x0 1) (rd_ (wr_ h (rf_ h x0 0) (rd_ h x0 6) x1) x0 6) x2) x0 6) x3) (rf_ h x0 3) (rd_ (wr_ (wr_ (wr_ h (rf_ h x0 0) (rd_ h x0 6) x1) (rf_ h x0 1) (rd_ (wr_ h (rf_ h x0 0) (rd_ h x0 6) x1) x0 6) x2) (rf_ h x0 2) (rd_ (wr_ (wr_ h (rf_ h x0 0) (rd_ h x0 6) x1) (rf_ h x0 1) (rd_ (wr_ h (rf_ h x0 0) (rd_ h x0 6) x1) x0 6) x2) x0 6) x3) x0 6) x4) x0 6) ∧ (rd_ (wr_ (wr_ (wr_ (wr_ h (rf_ h x0 0) (rd_ h x0 6) x1) (rf_ h x0 1) (rd_ (wr_ h (rf_ h x0 0) (rd_ h x0 6) x1) x0 6) x2) (rf_ h x0 2) (rd_ (wr_ (wr_ h (rf_ h x0 0) (rd_ h x0 6) x1) (rf_ h x0 1) (rd_ (wr_ h (rf_ h x0 0) (rd_ h x0 6) x1) x0 6) x2) x0 6) x3) (rf_ h x0 3) (rd_ (wr_ (wr_ (wr_ h (rf_ h x0 0) (rd_ h x0 6) x1) (rf_ h x0 1) (rd_ (wr_ h (rf_ h x0 0) (rd_ h x0 6) x1) x0 6) x2) (rf_ h x0 2) (rd_ (wr_ (wr_ h (rf_ h x0 0) (rd_ h x0 6) x1) (rf_ h x0 1) (rd_ (wr_ h (rf_ h x0 0) (rd_ h x0 6) x1) x0 6) x2) x0 6) x3) x0 6) x4) x0 6) < ln_ h (rf_ h x0 4)) (ck_ (0 ≤ x0) (ck_ (0 ≤ x0) (ck_ (0 ≤ x0) (some (wr_ (wr_ (wr_ (wr_ (wr_ (wr_ h (rf_ h x0 0) (rd_ h x0 6) x1) (rf_ h x0 1) (rd_ (wr_ h (rf_ h x0 0) (rd_ h x0 6) x1) x0 6) x2) (rf_ h x0 2) (rd_ (wr_ (wr_ h (rf_ h x0 0) (rd_ h x0 6) x1) (rf_ h x0 1) (rd_ (wr_ h (rf_ h x0 0) (rd_ h x0 6) x1) x0 6) x2) x0 6) x3) (rf_ h x0 3) (rd_ (wr_ (wr_ (wr_ h (rf_ h x0 0) (rd_ h x0 6) x1) (rf_ h x0 1) (rd_ (wr_ h (rf_ h x0 0) (rd_ h x0 6) x1) x0 6) x2) (rf_ h x0 2) (rd_ (wr_ (wr_ h (rf_ h x0 0) (rd_ h x0 6) x1) (rf_ h x0 1) (rd_ (wr_ h (rf_ h x0 0) (rd_ h x0 6) x1) x0 6) x2) x0 6) x3) x0 6) x4) (rf_ h x0 4) (rd_ (wr_ (wr_ (wr_ (wr_ h (rf_ h x0 0) (rd_ h x0 6) x1) (rf_ h x0 1) (rd_ (wr_ h (rf_ h x0 0) (rd_ h x0 6) x1) x0 6) x2) (rf_ h x0 2) (rd_ (wr_ (wr_ h (rf_ h x0 0) (rd_ h x0 6) x1) (rf_ h x0 1) (rd_ (wr_ h (rf_ h x0 0) (rd_ h x0 6) x1) x0 6) x2) x0 6) x3) (rf_ h x0 3) (rd_ (wr_ (wr_ (wr_ h (rf_ h x0 0) (rd_ h x0 6) x1) (rf_ h x0 1) (rd_ (wr_ h (rf_ h x0 0) (rd_ h x0 6) x1) x0 6) x2) (rf_ h x0 2) (rd_ (wr_ (wr_ h (rf_ h x0 0) (rd_ h x0 6) x1) (rf_ h x0 1) (rd_ (wr_ h (rf_ h x0 0) (rd_ h x0 6) x1) x0 6) x2) x0 6) x3) x0 6) x4) x0 6) (-1)) x0 6 (w32 ((rd_ (wr_ (wr_ (wr_ (wr_ (wr_ h (rf_ h x0 0) (rd_ h x0 6) x1) (rf_ h x0 1) (rd_ (wr_ h (rf_ h x0 0) (rd_ h x0 6) x1) x0 6) x2) (rf_ h x0 2) (rd_ (wr_ (wr_ h (rf_ h x0 0) (rd_ h x0 6) x1) (rf_ h x0 1) (rd_ (wr_ h (rf_ h x0 0) (rd_ h x0 6) x1) x0 6) x2) x0 6) x3) (rf_ h x0 3) (rd_ (wr_ (wr_ (wr_ h (rf_ h x0 0) (rd_ h x0 6) x1) (rf_ h x0 1) (rd_ (wr_ h (rf_ h x0 0) (rd_ h x0 6) x1) x0 6) x2) (rf_ h x0 2) (rd_ (wr_ (wr_ h (rf_ h x0 0) (rd_ h x0 6) x1) (rf_ h x0 1) (rd_ (wr_ h (rf_ h x0 0) (rd_ h x0 6) x1) x0 6) x2) x0 6) x3) x0 6) x4) (rf_ h x0 4) (rd_ (wr_ (wr_ (wr_ (wr_ h (rf_ h x0 0) (rd_ h x0 6) x1) (rf_ h x0 1) (rd_ (wr_ h (rf_ h x0 0) (rd_ h x0 6) x1) x0 6) x2) (rf_ h x0 2) (rd_ (wr_ (wr_ h (rf_ h x0 0) (rd_ h x0 6) x1) (rf_ h x0 1) (rd_ (wr_ h (rf_ h x0 0) (rd_ h x0 6) x1) x0 6) x2) x0 6) x3) (rf_ h x0 3) (rd_ (wr_ (wr_ (wr_ h (rf_ h x0 0) (rd_ h x0 6) x1) (rf_ h x0 1) (rd_ (wr_ h (rf_ h x0 0) (rd_ h x0 6) x1) x0 6) x2) (rf_ h x0 2) (rd_ (wr_ (wr_ h (rf_ h x0 0) (rd_ h x0 6) x1) (rf_ h x0 1) (rd_ (wr_ h (rf_ h x0 0) (rd_ h x0 6) x1) x0 6) x2) x0 6) x3) x0 6) x4) x0 6) (-1)) x0 6) + 1)), w32 ((rd_ (wr_ (wr_ (wr_ (wr_ (wr_ (wr_ h (rf_ h x0 0) (rd_ h x0 6) x1) (rf_ h x0 1) (rd_ (wr_ h (rf_ h x0 0) (rd_ h x0 6) x1) x0 6) x2) (rf_ h x0 2) (rd_ (wr_ (wr_ h (rf_ h x0 0) (rd_ h x0 6) x1) (rf_ h x0 1) (rd_ (wr_ h (rf_ h x0 0) (rd_ h x0 6) x1) x0 6) x2) x0 6) x3) (rf_ h x0 3) (rd_ (wr_ (wr_ (wr_ h (rf_ h x0 0) (rd_ h x0 6) x1) (rf_ h x0 1) (rd_ (wr_ h (rf_ h x0 0) (rd_ h x0 6) x1) x0 6) x2) (rf_ h x0 2) (rd_ (wr_ (wr_ h (rf_ h x0 0) (rd_ h x0 6) x1) (rf_ h x0 1) (rd_ (wr_ h (rf_ h x0 0) (rd_ h x0 6) x1) x0 6) x2) x0 6) x3) x0 6) x4) (rf_ h x0 4) (rd_ (wr_ (wr_ (wr_ (wr_ h (rf_ h x0 0) (rd_ h x0 6) x1) (rf_ h x0 1) (rd_ (wr_ h (rf_ h x0 0) (rd_ h x0 6) x1) x0 6) x2) (rf_ h x0 2) (rd_ (wr_ (wr_ h (rf_ h x0 0) (rd_ h x0 6) x1) (rf_ h x0 1) (rd_ (wr_ h (rf_ h x0 0) (rd_ h x0 6) x1) x0 6) x2) x0 6) x3) (rf_ h x0 3) (rd_ (wr_ (wr_ (wr_ h (rf_ h x0 0) (rd_ h x0 6) x1) (rf_ h x0 1) (rd_ (wr_ h (rf_ h x0 0) (rd_ h x0 6) x1) x0 6) x2) (rf_ h x0 2) (rd_ (wr_ (wr_ h (rf_ h x0 0) (rd_ h x0 6) x1) (rf_ h x0 1) (rd_ (wr_ h (rf_ h x0 0) (rd_ h x0 6) x1) x0 6) x2) x0 6) x3) x0 6) x4) x0 6) (-1)) x0 6 (w32 ((rd_ (wr_ (wr_ (wr_ (wr_ (wr_ h (rf_ h x0 0) (rd_ h x0 6) x1) (rf_ h x0 1) (rd_ (wr_ h (rf_ h x0 0) (rd_ h x0 6) x1) x0 6) x2) (rf_ h x0 2) (rd_ (wr_ (wr_ h (rf_ h x0 0) (rd_ h x0 6) x1) (rf_ h x0 1) (rd_ (wr_ h (rf_ h x0 0) (rd_ h x0 6) x1) x0 6) x2) x0 6) x3) (rf_ h x0 3) (rd_ (wr_ (wr_ (wr_ h (rf_ h x0 0) (rd_ h x0 6) x1) (rf_ h x0 1) (rd_ (wr_ h (rf_ h x0 0) (rd_ h x0 6) x1) x0 6) x2) (rf_ h x0 2) (rd_ (wr_ (wr_ h (rf_ h x0 0) (rd_ h x0 6) x1) (rf_ h x0 1) (rd_ (wr_ h (rf_ h x0 0) (rd_ h x0 6) x1) x0 6) x2) x0 6) x3) x0 6) x4) (rf_ h x0 4) (rd_ (wr_ (wr_ (wr_ (wr_ h (rf_ h x0 0) (rd_ h x0 6) x1) (rf_ h x0 1) (rd_ (wr_ h (rf_ h x0 0) (rd_ h x0 6) x1) x0 6) x2) (rf_ h x0 2) (rd_ (wr_ (wr_ h (rf_ h x0 0) (rd_ h x0 6) x1) (rf_ h x0 1) (rd_ (wr_ h (rf_ h x0 0) (rd_ h x0 6) x1) x0 6) x2) x0 6) x3) (rf_ h x0 3) (rd_ (wr_ (wr_ (wr_ h (rf_ h x0 0) (rd_ h x0 6) x1) (rf_ h x0 1) (rd_ (wr_ h (rf_ h x0 0) (rd_ h x0 6) x1) x0 6) x2) (rf_ h x0 2) (rd_ (wr_ (wr_ h (rf_ h x0 0) (rd_ h x0 6) x1) (rf_ h x0 1) (rd_ (wr_ h (rf_ h x0 0) (rd_ h x0 6) x1) x0 6) x2) x0 6) x3) x0 6) x4) x0 6) (-1)) x0 6) + 1))) x0 6) - 1)))))))))))))))))))))))))) else some (h, (-1))) := (ff_of bk_108_0 [(16, x0), (0, x1), (0, x2), (0, x3), (0, x4)] [] h).trans (by
  show (ck_ (0 ≤ x0) (if (rd_ h x0 6) < 24 then JJ 108 2 [(16, x0), (0, x1), (0, x2), (0, x3), (0, x4)] [] h else JJ 108 1 [(16, x0), (0, x1), (0, x2), (0, x3), (0, x4)] [] h)) = _
  simp only [jt_108_1, jt_108_2, ck_or1, ck_or2, rf_wr, ln_wr, nn_wr, rf_cp, ln_cp, nn_cp, ln_wf, nn_wf, rd_wf, nn_nw]
  try rfl)
theorem cc_108 (h : am_H) (x0 x1 x2 x3 x4 : Int) : CC 108 [(16, x0), (0, x1), (0, x2), (0, x3), (0, x4)] h = Se_addSight h x0 x1 x2 x3 x4 := cc_of pk_108 _ h
theorem pk_109 : am_prog 109 = some cd_109 := rfl
theorem bk_109_0 : bk_ am_prog 109 0 = some ([true, true], (bl_109_0, 9999)) := bk_of pk_109 rfl
theorem bk_109_1 : bk_ am_prog 109 1 = some ([true, true], (bl_109_1, 9999)) := bk_of pk_109 rfl
theorem bk_109_2 : bk_ am_prog 109 2 = some ([true, true], (bl_109_2, 9999)) := bk_of pk_109 rfl
theorem bk_109_3 : bk_ am_prog 109 3 = some ([false, false], (bl_109_3, 9999)) := bk_of pk_109 rfl
theorem bk_109_4 : bk_ am_prog 109 4 = some ([true, true], (bl_109_4, 9999)) := bk_of pk_109 rfl
theorem jt_109_3 (h : am_H) (d0 d1 : am_V) : JJ 109 3 [d0, d1] [] h = some (h, (-1)) := (jj_of bk_109_3 _ _ h).trans (ff_of bk_109_3 [(9, 0), (9, 0)] [] h)
theorem jt_109_4 (h : am_H) (x0 x1 : Int) : JJ 109 4 [(16, x0), (0, x1)] [] h = ck_ (0 ≤ x0) (ck_ (0 ≤ x0) (ck_ (0 ≤ (rf_ h x0 0)) (ck_ (0 ≤ (rd_ h x0 6) ∧ (rd_ h x0 6) < ln_ h (rf_ h x0 0)) (ck_ (0 ≤ x0) (ck_ (0 ≤ x0) (ck_ (0 ≤ (rf_ h x0 4)) (ck_ (0 ≤ (rd_ (wr_ h (rf_ h x0 0) (rd_ h x0 6) 0) x0 6) ∧ (rd_ (wr_ h (rf_ h x0 0) (rd_ h x0 6) 0) x0 6) < ln_ h (rf_ h x0 4)) (ck_ (0 ≤ x0) (ck_ (0 ≤ x0) (ck_ (0 ≤ x0) (some (wr_ (wr_ (wr_ h (rf_ h x0 0) (rd_ h x0 6) 0) (rf_ h x0 4) (rd_ (wr_ h (rf_ h x0 0) (rd_ h x0 6) 0) x0 6) x1) x0 6 (w32 ((rd_ (wr_ (wr_ h (rf_ h x0 0) (rd_ h x0 6) 0) (rf_ h x0 4) (rd_ (wr_ h (rf_ h x0 0) (rd_ h x0 6) 0) x0 6) x1) x0 6) + 1)), w32 ((rd_ (wr_ (wr_ (wr_ h (rf_ h x0 0) (rd_ h x0 6) 0) (rf_ h x0 4) (rd_ (wr_ h (rf_ h x0 0) (rd_ h x0 6) 0) x0 6) x1) x0 6 (w32 ((rd_ (wr_ (wr_ h (rf_ h x0 0) (rd_ h x0 6) 0) (rf_ h x0 4) (rd_ (wr_ h (rf_ h x0 0) (rd_ h x0 6) 0) x0 6) x1) x0 6) + 1))) x0 6) - 1))))))))))))) := (jj_of bk_109_4 _ _ h).trans (ff_of bk_109_4 [(16, x0), (0, x1)] [] h)
set_option maxRecDepth 20000 in
theorem jt_109_2 (h : am_H) (x0 x1 : Int) : JJ 109 2 [(16, x0), (0, x1)] [] h = ck_ (0 ≤ x0) (if (rd_ h x0 6) < 24 then ck_ (0 ≤ x0) (ck_ (0 ≤ x0) (ck_ (0 ≤ (rf_ h x0 0)) (ck_ (0 ≤ (rd_ h x0 6) ∧ (rd_ h x0 6) < ln_ h (rf_ h x0 0)) (ck_ (0 ≤ x0) (ck_ (0 ≤ x0) (ck_ (0 ≤ (rf_ h x0 4)) (ck_ (0 ≤ (rd_ (wr_ h (rf_ h x0 0) (rd_ h x0 6) 0) x0 6) ∧ (rd_ (wr_ h (rf_ h x0 0) (rd_ h x0 6) 0) x0 6) < ln_ h (rf_ h x0 4)) (ck_ (0 ≤ x0) (ck_ (0 ≤ x0) (ck_ (0 ≤ x0) (some (wr_ (wr_ (wr_ h (rf_ h x0 0) (rd_ h x0 6) 0) (rf_ h x0 4) (rd_ (wr_ h (rf_ h x0 0) (rd_ h x0 6) 0) x0 6) x1) x0 6 (w32 ((rd_ (wr_ (wr_ h (rf_ h x0 0) (rd_ h x0 6) 0) (rf_ h x0 4) (rd_ (wr_ h (rf_ h x0 0) (rd_ h x0 6) 0) x0 6) x1) x0 6) + 1)), w32 ((rd_ (wr_ (wr_ (wr_ h (rf_ h x0 0) (rd_ h x0 6) 0) (rf_ h x0 4) (rd_ (wr_ h (rf_ h x0 0) (rd_ h x0 6) 0) x0 6) x1) x0 6 (w32 ((rd_ (wr_ (wr_ h (rf_ h x0 0) (rd_ h x0 6) 0) (rf_ h x0 4) (rd_ (wr_ h (rf_ h x0 0) (rd_ h x0 6) 0) x0 6) x1) x0 6) + 1))) x0 6) - 1))))))))))))) else some (h, (-1))) := (jj_of bk_109_2 _ _ h).trans ((ff_of bk_109_2 [(16, x0), (0, x1)] [] h).trans (by
  show (ck_ (0 ≤ x0) (if (rd_ h x0 6) < 24 then JJ 109 4 [(16, x0), (0, x1)] [] h else JJ 109 3 [(16, x0), (0, x1)] [] h)) = _
  simp only [jt_109_3, jt_109_4, ck_or1, ck_or2, rf_wr, ln_wr, nn_wr, rf_cp, ln_cp, nn_cp, ln_wf, nn_wf, rd_wf, nn_nw]
  try rfl))
set_option maxRecDepth 20000 in
theorem jt_109_1 (h : am_H) (x0 x1 : Int) : JJ 109 1 [(16, x0), (0, x1)] [] h = ck_ (0 ≤ x0) (if (rd_ h x0 6) ≤ x1 then some (h, (-1)) else ck_ (0 ≤ x0) (if (rd_ h x0 6) < 24 then ck_ (0 ≤ x0) (ck_ (0 ≤ x0) (ck_ (0 ≤ (rf_ h x0 0)) (ck_ (0 ≤ (rd_ h x0 6) ∧ (rd_ h x0 6) < ln_ h (rf_ h x0 0)) (ck_ (0 ≤ x0) (ck_ (0 ≤ x0) (ck_ (0 ≤ (rf_ h x0 4)) (ck_ (0 ≤ (rd_ (wr_ h (rf_ h x0 0) (rd_ h x0 6) 0) x0 6) ∧ (rd_ (wr_ h (rf_ h x0 0) (rd_ h x0 6) 0) x0 6) < ln_ h (rf_ h x0 4)) (ck_ (0 ≤ x0) (ck_ (0 ≤ x0) (ck_ (0 ≤ x0) (some (wr_ (wr_ (wr_ h (rf_ h x0 0) (rd_ h x0 6) 0) (rf_ h x0 4) (rd_ (wr_ h (rf_ h x0 0) (rd_ h x0 6) 0) x0 6) x1) x0 6 (w32 ((rd_ (wr_ (wr_ h (rf_ h x0 0) (rd_ h x0 6) 0) (rf_ h x0 4) (rd_ (wr_ h (rf_ h x0 0) (rd_ h x0 6) 0) x0 6) x1) x0 6) + 1)), w32 ((rd_ (wr_ (wr_ (wr_ h (rf_ h x0 0) (rd_ h x0 6) 0) (rf_ h x0 4) (rd_ (wr_ h (rf_ h x0 0) (rd_ h x0 6) 0) x0 6) x1) x0 6 (w32 ((rd_ (wr_ (wr_ h (rf_ h x0 0) (rd_ h x0 6) 0) (rf_ h x0 4) (rd_ (wr_ h (rf_ h x0 0) (rd_ h x0 6) 0) x0 6) x1) x0 6) + 1))) x0 6) - 1))))))))))))) else some (h, (-1)))) := (jj_of bk_109_1 _ _ h).trans ((ff_of bk_109_1 [(16, x0), (0, x1)] [] h).trans (by
  show (ck_ (0 ≤ x0) (if (rd_ h x0 6) ≤ x1 then JJ 109 3 [(16, x0), (0, x1)] [] h else JJ 109 2 [(16, x0), (0, x1)] [] h)) = _
  simp only [jt_109_2, jt_109_3, ck_or1, ck_or2, rf_wr, ln_wr, nn_wr, rf_cp, ln_cp, nn_cp, ln_wf, nn_wf, rd_wf, nn_nw]
  try rfl))
set_option maxRecDepth 20000 in
theorem Se_addStrike_e (h : am_H) (x0 x1 : Int) : Se_addStrike h x0 x1 = if x1 < 0 then some (h, (-1)) else ck_ (0 ≤ x0) (if (rd_ h x0 6) ≤ x1 then some (h, (-1)) else ck_ (0 ≤ x0) (if (rd_ h x0 6) < 24 then ck_ (0 ≤ x0) (ck_ (0 ≤ x0) (ck_ (0 ≤ (rf_ h x0 0)) (ck_ (0 ≤ (rd_ h x0 6) ∧ (rd_ h x0 6) < ln_ h (rf_ h x0 0)) (ck_ (0 ≤ x0) (ck_ (0 ≤ x0) (ck_ (0 ≤ (rf_ h x0 4)) (ck_ (0 ≤ (rd_ (wr_ h (rf_ h x0 0) (rd_ h x0 6) 0) x0 6) ∧ (rd_ (wr_ h (rf_ h x0 0) (rd_ h x0 6) 0) x0 6) < ln_ h (rf_ h x0 4)) (ck_ (0 ≤ x0) (ck_ (0 ≤ x0) (ck_ (0 ≤ x0) (some (wr_ (wr_ (wr_ h (rf_ h x0 0) (rd_ h x0 6) 0) (rf_ h x0 4) (rd_ (wr_ h (rf_ h x0 0) (rd_ h x0 6) 0) x0 6) x1) x0 6 (w32 ((rd_ (wr_ (wr_ h (rf_ h x0 0) (rd_ h x0 6) 0) (rf_ h x0 4) (rd_ (wr_ h (rf_ h x0 0) (rd_ h x0 6) 0) x0 6) x1) x0 6) + 1)), w32 ((rd_ (wr_ (wr_ (wr_ h (rf_ h x0 0) (rd_ h x0 6) 0) (rf_ h x0 4) (rd_ (wr_ h (rf_ h x0 0) (rd_ h x0 6) 0) x0 6) x1) x0 6 (w32 ((rd_ (wr_ (wr_ h (rf_ h x0 0) (rd_ h x0 6) 0) (rf_ h x0 4) (rd_ (wr_ h (rf_ h x0 0) (rd_ h x0 6) 0) x0 6) x1) x0 6) + 1))) x0 6) - 1))))))))))))) else some (h, (-1)))) := (ff_of bk_109_0 [(16, x0), (0, x1)] [] h).trans (by
  show (if x1 < 0 then JJ 109 3 [(16, x0), (0, x1)] [] h else JJ 109 1 [(16, x0), (0, x1)] [] h) = _
  simp only [jt_109_1, jt_109_3, ck_or1, ck_or2, rf_wr, ln_wr, nn_wr, rf_cp, ln_cp, nn_cp, ln_wf, nn_wf, rd_wf, nn_nw]
  try rfl)
theorem cc_109 (h : am_H) (x0 x1 : Int) : CC 109 [(16, x0), (0, x1)] h = Se_addStrike h x0 x1 := cc_of pk_109 _ h
theorem pk_110 : am_prog 110 = some cd_110 := rfl
theorem bk_110_0 : bk_ am_prog 110 0 = some ([true, false, false], (bl_110_0, 1)) := bk_of pk_110 rfl
theorem bk_110_1 : bk_ am_prog 110 1 = some ([true, true, true], (bl_110_1, 9999)) := bk_of pk_110 rfl
theorem bk_110_2 : bk_ am_prog 110 2 = some ([true, true, true], (bl_110_2, 9999)) := bk_of pk_110 rfl
theorem bk_110_3 : bk_ am_prog 110 3 = some ([true, true, false], (bl_110_3, 4)) := bk_of pk_110 rfl
theorem bk_110_4 : bk_ am_prog 110 4 = some ([true, false, true], (bl_110_4, 9999)) := bk_of pk_110 rfl
theorem bk_110_5 : bk_ am_prog 110 5 = some ([true, false, true], (bl_110_5, 9999)) := bk_of pk_110 rfl
theorem bk_110_6 : bk_ am_prog 110 6 = some ([true, false, true], (bl_110_6, 9999)) := bk_of pk_110 rfl
theorem bk_110_7 : bk_ am_prog 110 7 = some ([true, false, true], (bl_110_7, 8)) := bk_of pk_110 rfl
theorem bk_110_8 : bk_ am_prog 110 8 = some ([true, false, true], (bl_110_8, 9999)) := bk_of pk_110 rfl
theorem bk_110_9 : bk_ am_prog 110 9 = some ([false, false, false], (bl_110_9, 9999)) := bk_of pk_110 rfl
theorem jt_110_1 (h : am_H) (x0 x1 x2 : Int) : JJ 110 1 [(16, x0), (0, x1), (0, x2)] [] h = Se_weigh_1 h x0 x1 x2 := jj_of bk_110_1 _ _ h
theorem jt_110_4 (h : am_H) (d1 : am_V) (x0 x2 : Int) : JJ 110 4 [(16, x0), d1, (0, x2)] [] h = Se_weigh_4 h x0 x2 := jj_of bk_110_4 _ _ h
theorem Se_weigh_e (h : am_H) (x0 : Int) : Se_weigh h x0 = ck_ (0 ≤ x0) (bd_ (Se_knownBy h x0) fun h1 v2 => Se_weigh_1 h1 x0 v2 0) := (ff_of bk_110_0 [(16, x0), (9, 0), (9, 0)] [] h).trans (by
  show (ck_ (0 ≤ x0) (bd_ (CC 106 [(16, x0)] h) fun h1 v2 => JJ 110 1 [(16, x0), (0, v2), (0, 0)] [] h1)) = _
  simp only [cc_106, jt_110_1, ck_or1, ck_or2, rf_wr, ln_wr, nn_wr, rf_cp, ln_cp, nn_cp, ln_wf, nn_wf, rd_wf, nn_nw]
  try rfl)
theorem jt_110_3 (h : am_H) (d2 : am_V) (x0 x1 : Int) : JJ 110 3 [(16, x0), (0, x1), d2] [] h = Se_weigh_4 h x0 (w32 (x1 - 1)) := (jj_of bk_110_3 _ _ h).trans ((ff_of bk_110_3 [(16, x0), (0, x1), (9, 0)] [] h).trans (by
  show (JJ 110 4 [(16, x0), (0, x1), (0, w32 (x1 - 1))] [] h) = _
  simp only [jt_110_4, ck_or1, ck_or2, rf_wr, ln_wr, nn_wr, rf_cp, ln_cp, nn_cp, ln_wf, nn_wf, rd_wf, nn_nw]
  try rfl))
theorem jt_110_2 (h : am_H) (x0 x1 x2 : Int) : JJ 110 2 [(16, x0), (0, x1), (0, x2)] [] h = ck_ (0 ≤ x0) (ck_ (0 ≤ (rf_ h x0 5)) (ck_ (0 ≤ x2 ∧ x2 < ln_ h (rf_ h x0 5)) (Se_weigh_1 (wr_ h (rf_ h x0 5) x2 1) x0 x1 (w32 (x2 + 1))))) := (jj_of bk_110_2 _ _ h).trans ((ff_of bk_110_2 [(16, x0), (0, x1), (0, x2)] [] h).trans (by
  show (ck_ (0 ≤ x0) (ck_ (0 ≤ (rf_ h x0 5)) (ck_ (0 ≤ x2 ∧ x2 < ln_ h (rf_ h x0 5)) (JJ 110 1 [(16, x0), (0, x1), (0, w32 (x2 + 1))] [] (wr_ h (rf_ h x0 5) x2 1))))) = _
  simp only [jt_110_1, ck_or1, ck_or2, rf_wr, ln_wr, nn_wr, rf_cp, ln_cp, nn_cp, ln_wf, nn_wf, rd_wf, nn_nw]
  try rfl))
theorem Se_weigh_1_e (h : am_H) (x0 x1 x2 : Int) : Se_weigh_1 h x0 x1 x2 = if x1 ≤ x2 then Se_weigh_4 h x0 (w32 (x1 - 1)) else ck_ (0 ≤ x0) (ck_ (0 ≤ (rf_ h x0 5)) (ck_ (0 ≤ x2 ∧ x2 < ln_ h (rf_ h x0 5)) (Se_weigh_1 (wr_ h (rf_ h x0 5) x2 1) x0 x1 (w32 (x2 + 1))))) := (ff_of bk_110_1 [(16, x0), (0, x1), (0, x2)] [] h).trans (by
  show (if x1 ≤ x2 then JJ 110 3 [(16, x0), (0, x1), (0, x2)] [] h else JJ 110 2 [(16, x0), (0, x1), (0, x2)] [] h) = _
  simp only [jt_110_2, jt_110_3, ck_or1, ck_or2, rf_wr, ln_wr, nn_wr, rf_cp, ln_cp, nn_cp, ln_wf, nn_wf, rd_wf, nn_nw]
  try rfl)
theorem jt_110_9 (h : am_H) (d0 d1 d2 : am_V) : JJ 110 9 [d0, d1, d2] [] h = some (h, 0) := (jj_of bk_110_9 _ _ h).trans (ff_of bk_110_9 [(9, 0), (9, 0), (9, 0)] [] h)
theorem jt_110_8 (h : am_H) (d1 : am_V) (x0 x2 : Int) : JJ 110 8 [(16, x0), d1, (0, x2)] [] h = Se_weigh_4 h x0 (w32 (x2 + (-1))) := (jj_of bk_110_8 _ _ h).trans ((ff_of bk_110_8 [(16, x0), (9, 0), (0, x2)] [] h).trans (by
  show (JJ 110 4 [(16, x0), (9, 0), (0, w32 (x2 + (-1)))] [] h) = _
  simp only [jt_110_4, ck_or1, ck_or2, rf_wr, ln_wr, nn_wr, rf_cp, ln_cp, nn_cp, ln_wf, nn_wf, rd_wf, nn_nw]
  try rfl))
theorem jt_110_7 (h : am_H) (d1 : am_V) (x0 x2 : Int) : JJ 110 7 [(16, x0), d1, (0, x2)] [] h = ck_ (0 ≤ x0) (ck_ (0 ≤ x0) (ck_ (0 ≤ (rf_ h x0 4)) (ck_ (0 ≤ x2 ∧ x2 < ln_ h (rf_ h x0 4)) (ck_ (0 ≤ (rf_ h x0 5)) (ck_ (0 ≤ (rd_ h (rf_ h x0 4) x2) ∧ (rd_ h (rf_ h x0 4) x2) < ln_ h (rf_ h x0 5)) (Se_weigh_4 (wr_ h (rf_ h x0 5) (rd_ h (rf_ h x0 4) x2) 0) x0 (w32 (x2 + (-1))))))))) := (jj_of bk_110_7 _ _ h).trans ((ff_of bk_110_7 [(16, x0), (9, 0), (0, x2)] [] h).trans (by
  show (ck_ (0 ≤ x0) (ck_ (0 ≤ x0) (ck_ (0 ≤ (rf_ h x0 4)) (ck_ (0 ≤ x2 ∧ x2 < ln_ h (rf_ h x0 4)) (ck_ (0 ≤ (rf_ h x0 5)) (ck_ (0 ≤ (rd_ h (rf_ h x0 4) x2) ∧ (rd_ h (rf_ h x0 4) x2) < ln_ h (rf_ h x0 5)) (JJ 110 8 [(16, x0), (9, 0), (0, x2)] [] (wr_ h (rf_ h x0 5) (rd_ h (rf_ h x0 4) x2) 0)))))))) = _
  simp only [jt_110_8, ck_or1, ck_or2, rf_wr, ln_wr, nn_wr, rf_cp, ln_cp, nn_cp, ln_wf, nn_wf, rd_wf, nn_nw]
  try rfl))
theorem jt_110_6 (h : am_H) (d1 : am_V) (x0 x2 : Int) : JJ 110 6 [(16, x0), d1, (0, x2)] [] h = ck_ (0 ≤ x0) (ck_ (0 ≤ (rf_ h x0 4)) (ck_ (0 ≤ x2 ∧ x2 < ln_ h (rf_ h x0 4)) (if (rd_ h (rf_ h x0 4) x2) < 0 then Se_weigh_4 h x0 (w32 (x2 + (-1))) else ck_ (0 ≤ x0) (ck_ (0 ≤ x0) (ck_ (0 ≤ (rf_ h x0 4)) (ck_ (0 ≤ x2 ∧ x2 < ln_ h (rf_ h x0 4)) (ck_ (0 ≤ (rf_ h x0 5)) (ck_ (0 ≤ (rd_ h (rf_ h x0 4) x2) ∧ (rd_ h (rf_ h x0 4) x2) < ln_ h (rf_ h x0 5)) (Se_weigh_4 (wr_ h (rf_ h x0 5) (rd_ h (rf_ h x0 4) x2) 0) x0 (w32 (x2 + (-1)))))))))))) := (jj_of bk_110_6 _ _ h).trans ((ff_of bk_110_6 [(16, x0), (9, 0), (0, x2)] [] h).trans (by
  show (ck_ (0 ≤ x0) (ck_ (0 ≤ (rf_ h x0 4)) (ck_ (0 ≤ x2 ∧ x2 < ln_ h (rf_ h x0 4)) (if (rd_ h (rf_ h x0 4) x2) < 0 then JJ 110 8 [(16, x0), (9, 0), (0, x2)] [] h else JJ 110 7 [(16, x0), (9, 0), (0, x2)] [] h)))) = _
  simp only [jt_110_7, jt_110_8, ck_or1, ck_or2, rf_wr, ln_wr, nn_wr, rf_cp, ln_cp, nn_cp, ln_wf, nn_wf, rd_wf, nn_nw]
  try rfl))
theorem jt_110_5 (h : am_H) (d1 : am_V) (x0 x2 : Int) : JJ 110 5 [(16, x0), d1, (0, x2)] [] h = ck_ (0 ≤ x0) (ck_ (0 ≤ (rf_ h x0 5)) (ck_ (0 ≤ x2 ∧ x2 < ln_ h (rf_ h x0 5)) (if (rd_ h (rf_ h x0 5) x2) = 0 then Se_weigh_4 h x0 (w32 (x2 + (-1))) else ck_ (0 ≤ x0) (ck_ (0 ≤ (rf_ h x0 4)) (ck_ (0 ≤ x2 ∧ x2 < ln_ h (rf_ h x0 4)) (if (rd_ h (rf_ h x0 4) x2) < 0 then Se_weigh_4 h x0 (w32 (x2 + (-1))) else ck_ (0 ≤ x0) (ck_ (0 ≤ x0) (ck_ (0 ≤ (rf_ h x0 4)) (ck_ (0 ≤ x2 ∧ x2 < ln_ h (rf_ h x0 4)) (ck_ (0 ≤ (rf_ h x0 5)) (ck_ (0 ≤ (rd_ h (rf_ h x0 4) x2) ∧ (rd_ h (rf_ h x0 4) x2) < ln_ h (rf_ h x0 5)) (Se_weigh_4 (wr_ h (rf_ h x0 5) (rd_ h (rf_ h x0 4) x2) 0) x0 (w32 (x2 + (-1))))))))))))))) := (jj_of bk_110_5 _ _ h).trans ((ff_of bk_110_5 [(16, x0), (9, 0), (0, x2)] [] h).trans (by
  show (ck_ (0 ≤ x0) (ck_ (0 ≤ (rf_ h x0 5)) (ck_ (0 ≤ x2 ∧ x2 < ln_ h (rf_ h x0 5)) (if (rd_ h (rf_ h x0 5) x2) = 0 then JJ 110 8 [(16, x0), (9, 0), (0, x2)] [] h else JJ 110 6 [(16, x0), (9, 0), (0, x2)] [] h)))) = _
  simp only [jt_110_6, jt_110_8, ck_or1, ck_or2, rf_wr, ln_wr, nn_wr, rf_cp, ln_cp, nn_cp, ln_wf, nn_wf, rd_wf, nn_nw]
  try rfl))
theorem Se_weigh_4_e (h : am_H) (x0 x2 : Int) : Se_weigh_4 h x0 x2 = if x2 < 0 then some (h, 0) else ck_ (0 ≤ x0) (ck_ (0 ≤ (rf_ h x0 5)) (ck_ (0 ≤ x2 ∧ x2 < ln_ h (rf_ h x0 5)) (if (rd_ h (rf_ h x0 5) x2) = 0 then Se_weigh_4 h x0 (w32 (x2 + (-1))) else ck_ (0 ≤ x0) (ck_ (0 ≤ (rf_ h x0 4)) (ck_ (0 ≤ x2 ∧ x2 < ln_ h (rf_ h x0 4)) (if (rd_ h (rf_ h x0 4) x2) < 0 then Se_weigh_4 h x0 (w32 (x2 + (-1))) else ck_ (0 ≤ x0) (ck_ (0 ≤ x0) (ck_ (0 ≤ (rf_ h x0 4)) (ck_ (0 ≤ x2 ∧ x2 < ln_ h (rf_ h x0 4)) (ck_ (0 ≤ (rf_ h x0 5)) (ck_ (0 ≤ (rd_ h (rf_ h x0 4) x2) ∧ (rd_ h (rf_ h x0 4) x2) < ln_ h (rf_ h x0 5)) (Se_weigh_4 (wr_ h (rf_ h x0 5) (rd_ h (rf_ h x0 4) x2) 0) x0 (w32 (x2 + (-1))))))))))))))) := (ff_of bk_110_4 [(16, x0), (9, 0), (0, x2)] [] h).trans (by
  show (if x2 < 0 then JJ 110 9 [(16, x0), (9, 0), (0, x2)] [] h else JJ 110 5 [(16, x0), (9, 0), (0, x2)] [] h) = _
  simp only [jt_110_5, jt_110_9, ck_or1, ck_or2, rf_wr, ln_wr, nn_wr, rf_cp, ln_cp, nn_cp, ln_wf, nn_wf, rd_wf, nn_nw]
  try rfl)
theorem cc_110 (h : am_H) (x0 : Int) : CC 110 [(16, x0)] h = Se_weigh h x0 := cc_of pk_110 _ h
theorem pk_111 : am_prog 111 = some cd_111 := rfl
theorem bk_111_0 : bk_ am_prog 111 0 = some ([true, false, false], (bl_111_0, 1)) := bk_of pk_111 rfl
theorem bk_111_1 : bk_ am_prog 111 1 = some ([true, true, true], (bl_111_1, 9999)) := bk_of pk_111 rfl
theorem bk_111_2 : bk_ am_prog 111 2 = some ([true, true, true], (bl_111_2, 9999)) := bk_of pk_111 rfl
theorem bk_111_3 : bk_ am_prog 111 3 = some ([true, true, true], (bl_111_3, 4)) := bk_of pk_111 rfl
theorem bk_111_4 : bk_ am_prog 111 4 = some ([true, true, true], (bl_111_4, 9999)) := bk_of pk_111 rfl
theorem bk_111_5 : bk_ am_prog 111 5 = some ([false, true, false], (bl_111_5, 9999)) := bk_of pk_111 rfl
theorem jt_111_1 (h : am_H) (x0 x1 x2 : Int) : JJ 111 1 [(16, x0), (0, x1), (0, x2)] [] h = Se_longest_1 h x0 x1 x2 := jj_of bk_111_1 _ _ h
theorem Se_longest_e (h : am_H) (x0 : Int) : Se_longest h x0 = Se_longest_1 h x0 0 0 := (ff_of bk_111_0 [(16, x0), (9, 0), (9, 0)] [] h).trans (by
  show (JJ 111 1 [(16, x0), (0, 0), (0, 0)] [] h) = _
  simp only [jt_111_1, ck_or1, ck_or2, rf_wr, ln_wr, nn_wr, rf_cp, ln_cp, nn_cp, ln_wf, nn_wf, rd_wf, nn_nw]
  try rfl)
theorem jt_111_5 (h : am_H) (d0 d2 : am_V) (x1 : Int) : JJ 111 5 [d0, (0, x1), d2] [] h = some (h, x1) := (jj_of bk_111_5 _ _ h).trans (ff_of bk_111_5 [(9, 0), (0, x1), (9, 0)] [] h)
theorem jt_111_4 (h : am_H) (x0 x1 x2 : Int) : JJ 111 4 [(16, x0), (0, x1), (0, x2)] [] h = Se_longest_1 h x0 x1 (w32 (x2 + 1)) := (jj_of bk_111_4 _ _ h).trans ((ff_of bk_111_4 [(16, x0), (0, x1), (0, x2)] [] h).trans (by
  show (JJ 111 1 [(16, x0), (0, x1), (0, w32 (x2 + 1))] [] h) = _
  simp only [jt_111_1, ck_or1, ck_or2, rf_wr, ln_wr, nn_wr, rf_cp, ln_cp, nn_cp, ln_wf, nn_wf, rd_wf, nn_nw]
  try rfl))
theorem jt_111_3 (h : am_H) (x0 x1 x2 : Int) : JJ 111 3 [(16, x0), (0, x1), (0, x2)] [] h = ck_ (0 ≤ x0) (ck_ (0 ≤ (rf_ h x0 0)) (ck_ (0 ≤ x2 ∧ x2 < ln_ h (rf_ h x0 0)) (Se_longest_1 h x0 (if x1 < (rd_ h (rf_ h x0 0) x2) then (rd_ h (rf_ h x0 0) x2) else x1) (w32 (x2 + 1))))) := (jj_of bk_111_3 _ _ h).trans ((ff_of bk_111_3 [(16, x0), (0, x1), (0, x2)] [] h).trans (by
  show (ck_ (0 ≤ x0) (ck_ (0 ≤ (rf_ h x0 0)) (ck_ (0 ≤ x2 ∧ x2 < ln_ h (rf_ h x0 0)) (JJ 111 4 [(16, x0), (0, if x1 < (rd_ h (rf_ h x0 0) x2) then (rd_ h (rf_ h x0 0) x2) else x1), (0, x2)] [] h)))) = _
  simp only [jt_111_4, ck_or1, ck_or2, rf_wr, ln_wr, nn_wr, rf_cp, ln_cp, nn_cp, ln_wf, nn_wf, rd_wf, nn_nw]
  try rfl))
theorem jt_111_2 (h : am_H) (x0 x1 x2 : Int) : JJ 111 2 [(16, x0), (0, x1), (0, x2)] [] h = ck_ (0 ≤ x0) (ck_ (0 ≤ (rf_ h x0 5)) (ck_ (0 ≤ x2 ∧ x2 < ln_ h (rf_ h x0 5)) (if (rd_ h (rf_ h x0 5) x2) = 0 then Se_longest_1 h x0 x1 (w32 (x2 + 1)) else ck_ (0 ≤ x0) (ck_ (0 ≤ (rf_ h x0 0)) (ck_ (0 ≤ x2 ∧ x2 < ln_ h (rf_ h x0 0)) (Se_longest_1 h x0 (if x1 < (rd_ h (rf_ h x0 0) x2) then (rd_ h (rf_ h x0 0) x2) else x1) (w32 (x2 + 1)))))))) := (jj_of bk_111_2 _ _ h).trans ((ff_of bk_111_2 [(16, x0), (0, x1), (0, x2)] [] h).trans (by
  show (ck_ (0 ≤ x0) (ck_ (0 ≤ (rf_ h x0 5)) (ck_ (0 ≤ x2 ∧ x2 < ln_ h (rf_ h x0 5)) (if (rd_ h (rf_ h x0 5) x2) = 0 then JJ 111 4 [(16, x0), (0, x1), (0, x2)] [] h else JJ 111 3 [(16, x0), (0, x1), (0, x2)] [] h)))) = _
  simp only [jt_111_3, jt_111_4, ck_or1, ck_or2, rf_wr, ln_wr, nn_wr, rf_cp, ln_cp, nn_cp, ln_wf, nn_wf, rd_wf, nn_nw]
  try rfl))
theorem Se_longest_1_e (h : am_H) (x0 x1 x2 : Int) : Se_longest_1 h x0 x1 x2 = ck_ (0 ≤ x0) (bd_ (Se_knownBy h x0) fun h1 v2 => if v2 ≤ x2 then some (h1, x1) else ck_ (0 ≤ x0) (ck_ (0 ≤ (rf_ h1 x0 5)) (ck_ (0 ≤ x2 ∧ x2 < ln_ h1 (rf_ h1 x0 5)) (if (rd_ h1 (rf_ h1 x0 5) x2) = 0 then Se_longest_1 h1 x0 x1 (w32 (x2 + 1)) else ck_ (0 ≤ x0) (ck_ (0 ≤ (rf_ h1 x0 0)) (ck_ (0 ≤ x2 ∧ x2 < ln_ h1 (rf_ h1 x0 0)) (Se_longest_1 h1 x0 (if x1 < (rd_ h1 (rf_ h1 x0 0) x2) then (rd_ h1 (rf_ h1 x0 0) x2) else x1) (w32 (x2 + 1))))))))) := (ff_of bk_111_1 [(16, x0), (0, x1), (0, x2)] [] h).trans (by
  show (ck_ (0 ≤ x0) (bd_ (CC 106 [(16, x0)] h) fun h1 v2 => if v2 ≤ x2 then JJ 111 5 [(16, x0), (0, x1), (0, x2)] [] h1 else JJ 111 2 [(16, x0), (0, x1), (0, x2)] [] h1)) = _
  simp only [cc_106, jt_111_2, jt_111_5, ck_or1, ck_or2, rf_wr, ln_wr, nn_wr, rf_cp, ln_cp, nn_cp, ln_wf, nn_wf, rd_wf, nn_nw]
  try rfl)
theorem cc_111 (h : am_H) (x0 : Int) : CC 111 [(16, x0)] h = Se_longest h x0 := cc_of pk_111 _ h
theorem pk_112 : am_prog 112 = some cd_112 := rfl
theorem bk_112_0 : bk_ am_prog 112 0 = some ([true, true, true, false, false], (bl_112_0, 1)) := bk_of pk_112 rfl
theorem bk_112_1 : bk_ am_prog 112 1 = some ([true, true, true, true, false], (bl_112_1, 9999)) := bk_of pk_112 rfl
theorem bk_112_2 : bk_ am_prog 112 2 = some ([true, true, true, true, false], (bl_112_2, 9999)) := bk_of pk_112 rfl
theorem bk_112_3 : bk_ am_prog 112 3 = some ([true, true, true, true, false], (bl_112_3, 9999)) := bk_of pk_112 rfl
theorem bk_112_4 : bk_ am_prog 112 4 = some ([true, true, true, true, false], (bl_112_4, 9999)) := bk_of pk_112 rfl
theorem bk_112_5 : bk_ am_prog 112 5 = some ([true, true, true, true, false], (bl_112_5, 9999)) := bk_of pk_112 rfl
theorem bk_112_6 : bk_ am_prog 112 6 = some ([true, true, true, true, false], (bl_112_6, 7)) := bk_of pk_112 rfl
theorem bk_112_7 : bk_ am_prog 112 7 = some ([true, true, true, true, false], (bl_112_7, 9999)) := bk_of pk_112 rfl
theorem bk_112_8 : bk_ am_prog 112 8 = some ([true, true, true, true, false], (bl_112_8, 9999)) := bk_of pk_112 rfl
theorem bk_112_9 : bk_ am_prog 112 9 = some ([true, true, true, true, false], (bl_112_9, 9999)) := bk_of pk_112 rfl
theorem bk_112_10 : bk_ am_prog 112 10 = some ([true, true, true, true, false], (bl_112_10, 11)) := bk_of pk_112 rfl
theorem bk_112_11 : bk_ am_prog 112 11 = some ([true, true, true, true, false], (bl_112_11, 9999)) := bk_of pk_112 rfl
theorem bk_112_12 : bk_ am_prog 112 12 = some ([false, false, false, false, false], (bl_112_12, 9999)) := bk_of pk_112 rfl
theorem bk_112_13 : bk_ am_prog 112 13 = some ([true, true, true, true, false], (bl_112_13, 9999)) := bk_of pk_112 rfl
theorem bk_112_14 : bk_ am_prog 112 14 = some ([false, false, false, false, false], (bl_112_14, 9999)) := bk_of pk_112 rfl
theorem jt_112_1 (h : am_H) (d4 : am_V) (x0 x1 x2 x3 : Int) : JJ 112 1 [(16, x0), (20, x1), (0, x2), (0, x3), d4] [] h = Se_agrees_1 h x0 x1 x2 x3 := jj_of bk_112_1 _ _ h
theorem jt_112_7 (h : am_H) (d4 : am_V) (x0 x1 x2 x3 s0 : Int) : JJ 112 7 [(16, x0), (20, x1), (0, x2), (0, x3), d4] [(0, s0)] h = Se_agrees_7 h x0 x1 x2 x3 s0 := jj_of bk_112_7 _ _ h
theorem Se_agrees_e (h : am_H) (x0 x1 x2 : Int) : Se_agrees h x0 x1 x2 = Se_agrees_1 h x0 x1 x2 0 := (ff_of bk_112_0 [(16, x0), (20, x1), (0, x2), (9, 0), (9, 0)] [] h).trans (by
  show (JJ 112 1 [(16, x0), (20, x1), (0, x2), (0, 0), (9, 0)] [] h) = _
  simp only [jt_112_1, ck_or1, ck_or2, rf_wr, ln_wr, nn_wr, rf_cp, ln_cp, nn_cp, ln_wf, nn_wf, rd_wf, nn_nw]
  try rfl)
theorem jt_112_14 (h : am_H) (d0 d1 d2 d3 d4 : am_V) : JJ 112 14 [d0, d1, d2, d3, d4] [] h = some (h, 1) := (jj_of bk_112_14 _ _ h).trans (ff_of bk_112_14 [(9, 0), (9, 0), (9, 0), (9, 0), (9, 0)] [] h)
theorem jt_112_6 (h : am_H) (d4 : am_V) (x0 x1 x2 x3 : Int) : JJ 112 6 [(16, x0), (20, x1), (0, x2), (0, x3), d4] [] h = Se_agrees_7 h x0 x1 x2 x3 0 := (jj_of bk_112_6 _ _ h).trans ((ff_of bk_112_6 [(16, x0), (20, x1), (0, x2), (0, x3), (9, 0)] [] h).trans (by
  show (JJ 112 7 [(16, x0), (20, x1), (0, x2), (0, x3), (9, 0)] [(0, 0)] h) = _
  simp only [jt_112_7, ck_or1, ck_or2, rf_wr, ln_wr, nn_wr, rf_cp, ln_cp, nn_cp, ln_wf, nn_wf, rd_wf, nn_nw]
  try rfl))
theorem jt_112_5 (h : am_H) (d4 : am_V) (x0 x1 x2 x3 : Int) : JJ 112 5 [(16, x0), (20, x1), (0, x2), (0, x3), d4] [] h = Se_agrees_7 h x0 x1 x2 x3 1 := (jj_of bk_112_5 _ _ h).trans ((ff_of bk_112_5 [(16, x0), (20, x1), (0, x2), (0, x3), (9, 0)] [] h).trans (by
  show (JJ 112 7 [(16, x0), (20, x1), (0, x2), (0, x3), (9, 0)] [(0, 1)] h) = _
  simp only [jt_112_7, ck_or1, ck_or2, rf_wr, ln_wr, nn_wr, rf_cp, ln_cp, nn_cp, ln_wf, nn_wf, rd_wf, nn_nw]
  try rfl))
theorem jt_112_4 (h : am_H) (d4 : am_V) (x0 x1 x2 x3 : Int) : JJ 112 4 [(16, x0), (20, x1), (0, x2), (0, x3), d4] [] h = ck_ (0 ≤ x0) (ck_ (0 ≤ (rf_ h x0 0)) (ck_ (0 ≤ x3 ∧ x3 < ln_ h (rf_ h x0 0)) (if (rd_ h (rf_ h x0 0) x3) ≠ x2 then Se_agrees_7 h x0 x1 x2 x3 0 else Se_agrees_7 h x0 x1 x2 x3 1))) := (jj_of bk_112_4 _ _ h).trans ((ff_of bk_112_4 [(16, x0), (20, x1), (0, x2), (0, x3), (9, 0)] [] h).trans (by
  show (ck_ (0 ≤ x0) (ck_ (0 ≤ (rf_ h x0 0)) (ck_ (0 ≤ x3 ∧ x3 < ln_ h (rf_ h x0 0)) (if (rd_ h (rf_ h x0 0) x3) ≠ x2 then JJ 112 6 [(16, x0), (20, x1), (0, x2), (0, x3), (9, 0)] [] h else JJ 112 5 [(16, x0), (20, x1), (0, x2), (0, x3), (9, 0)] [] h)))) = _
  simp only [jt_112_5, jt_112_6, ck_or1, ck_or2, rf_wr, ln_wr, nn_wr, rf_cp, ln_cp, nn_cp, ln_wf, nn_wf, rd_wf, nn_nw]
  try rfl))
theorem jt_112_3 (h : am_H) (d4 : am_V) (x0 x1 x2 x3 : Int) : JJ 112 3 [(16, x0), (20, x1), (0, x2), (0, x3), d4] [] h = ck_ (0 ≤ x0) (ck_ (0 ≤ (rf_ h x0 4)) (ck_ (0 ≤ x3 ∧ x3 < ln_ h (rf_ h x0 4)) (if 0 ≤ (rd_ h (rf_ h x0 4) x3) then Se_agrees_7 h x0 x1 x2 x3 0 else ck_ (0 ≤ x0) (ck_ (0 ≤ (rf_ h x0 0)) (ck_ (0 ≤ x3 ∧ x3 < ln_ h (rf_ h x0 0)) (if (rd_ h (rf_ h x0 0) x3) ≠ x2 then Se_agrees_7 h x0 x1 x2 x3 0 else Se_agrees_7 h x0 x1 x2 x3 1)))))) := (jj_of bk_112_3 _ _ h).trans ((ff_of bk_112_3 [(16, x0), (20, x1), (0, x2), (0, x3), (9, 0)] [] h).trans (by
  show (ck_ (0 ≤ x0) (ck_ (0 ≤ (rf_ h x0 4)) (ck_ (0 ≤ x3 ∧ x3 < ln_ h (rf_ h x0 4)) (if 0 ≤ (rd_ h (rf_ h x0 4) x3) then JJ 112 6 [(16, x0), (20, x1), (0, x2), (0, x3), (9, 0)] [] h else JJ 112 4 [(16, x0), (20, x1), (0, x2), (0, x3), (9, 0)] [] h)))) = _
  simp only [jt_112_4, jt_112_6, ck_or1, ck_or2, rf_wr, ln_wr, nn_wr, rf_cp, ln_cp, nn_cp, ln_wf, nn_wf, rd_wf, nn_nw]
  try rfl))
theorem jt_112_2 (h : am_H) (d4 : am_V) (x0 x1 x2 x3 : Int) : JJ 112 2 [(16, x0), (20, x1), (0, x2), (0, x3), d4] [] h = ck_ (0 ≤ x0) (ck_ (0 ≤ (rf_ h x0 5)) (ck_ (0 ≤ x3 ∧ x3 < ln_ h (rf_ h x0 5)) (if (rd_ h (rf_ h x0 5) x3) = 0 then Se_agrees_7 h x0 x1 x2 x3 0 else ck_ (0 ≤ x0) (ck_ (0 ≤ (rf_ h x0 4)) (ck_ (0 ≤ x3 ∧ x3 < ln_ h (rf_ h x0 4)) (if 0 ≤ (rd_ h (rf_ h x0 4) x3) then Se_agrees_7 h x0 x1 x2 x3 0 else ck_ (0 ≤ x0) (ck_ (0 ≤ (rf_ h x0 0)) (ck_ (0 ≤ x3 ∧ x3 < ln_ h (rf_ h x0 0)) (if (rd_ h (rf_ h x0 0) x3) ≠ x2 then Se_agrees_7 h x0 x1 x2 x3 0 else Se_agrees_7 h x0 x1 x2 x3 1))))))))) := (jj_of bk_112_2 _ _ h).trans ((ff_of bk_112_2 [(16, x0), (20, x1), (0, x2), (0, x3), (9, 0)] [] h).trans (by
  show (ck_ (0 ≤ x0) (ck_ (0 ≤ (rf_ h x0 5)) (ck_ (0 ≤ x3 ∧ x3 < ln_ h (rf_ h x0 5)) (if (rd_ h (rf_ h x0 5) x3) = 0 then JJ 112 6 [(16, x0), (20, x1), (0, x2), (0, x3), (9, 0)] [] h else JJ 112 3 [(16, x0), (20, x1), (0, x2), (0, x3), (9, 0)] [] h)))) = _
  simp only [jt_112_3, jt_112_6, ck_or1, ck_or2, rf_wr, ln_wr, nn_wr, rf_cp, ln_cp, nn_cp, ln_wf, nn_wf, rd_wf, nn_nw]
  try rfl))
theorem Se_agrees_1_e (h : am_H) (x0 x1 x2 x3 : Int) : Se_agrees_1 h x0 x1 x2 x3 = ck_ (0 ≤ x0) (bd_ (Se_knownBy h x0) fun h1 v2 => if v2 ≤ x3 then some (h1, 1) else ck_ (0 ≤ x0) (ck_ (0 ≤ (rf_ h1 x0 5)) (ck_ (0 ≤ x3 ∧ x3 < ln_ h1 (rf_ h1 x0 5)) (if (rd_ h1 (rf_ h1 x0 5) x3) = 0 then Se_agrees_7 h1 x0 x1 x2 x3 0 else ck_ (0 ≤ x0) (ck_ (0 ≤ (rf_ h1 x0 4)) (ck_ (0 ≤ x3 ∧ x3 < ln_ h1 (rf_ h1 x0 4)) (if 0 ≤ (rd_ h1 (rf_ h1 x0 4) x3) then Se_agrees_7 h1 x0 x1 x2 x3 0 else ck_ (0 ≤ x0) (ck_ (0 ≤ (rf_ h1 x0 0)) (ck_ (0 ≤ x3 ∧ x3 < ln_ h1 (rf_ h1 x0 0)) (if (rd_ h1 (rf_ h1 x0 0) x3) ≠ x2 then Se_agrees_7 h1 x0 x1 x2 x3 0 else Se_agrees_7 h1 x0 x1 x2 x3 1)))))))))) := (ff_of bk_112_1 [(16, x0), (20, x1), (0, x2), (0, x3), (9, 0)] [] h).trans (by
  show (ck_ (0 ≤ x0) (bd_ (CC 106 [(16, x0)] h) fun h1 v2 => if v2 ≤ x3 then JJ 112 14 [(16, x0), (20, x1), (0, x2), (0, x3), (9, 0)] [] h1 else JJ 112 2 [(16, x0), (20, x1), (0, x2), (0, x3), (9, 0)] [] h1)) = _
  simp only [cc_106, jt_112_14, jt_112_2, ck_or1, ck_or2, rf_wr, ln_wr, nn_wr, rf_cp, ln_cp, nn_cp, ln_wf, nn_wf, rd_wf, nn_nw]
  try rfl)
theorem jt_112_13 (h : am_H) (d4 : am_V) (x0 x1 x2 x3 : Int) : JJ 112 13 [(16, x0), (20, x1), (0, x2), (0, x3), d4] [] h = Se_agrees_1 h x0 x1 x2 (w32 (x3 + 1)) := (jj_of bk_112_13 _ _ h).trans ((ff_of bk_112_13 [(16, x0), (20, x1), (0, x2), (0, x3), (9, 0)] [] h).trans (by
  show (JJ 112 1 [(16, x0), (20, x1), (0, x2), (0, w32 (x3 + 1)), (9, 0)] [] h) = _
  simp only [jt_112_1, ck_or1, ck_or2, rf_wr, ln_wr, nn_wr, rf_cp, ln_cp, nn_cp, ln_wf, nn_wf, rd_wf, nn_nw]
  try rfl))
theorem jt_112_12 (h : am_H) (d0 d1 d2 d3 d4 : am_V) : JJ 112 12 [d0, d1, d2, d3, d4] [] h = some (h, 0) := (jj_of bk_112_12 _ _ h).trans (ff_of bk_112_12 [(9, 0), (9, 0), (9, 0), (9, 0), (9, 0)] [] h)
theorem jt_112_11 (h : am_H) (d4 : am_V) (x0 x1 x2 x3 s0 : Int) : JJ 112 11 [(16, x0), (20, x1), (0, x2), (0, x3), d4] [(0, s0)] h = ck_ (0 ≤ x0) (ck_ (0 ≤ (rf_ h x0 3)) (ck_ (0 ≤ x3 ∧ x3 < ln_ h (rf_ h x0 3)) (if s0 = (rd_ h (rf_ h x0 3) x3) then Se_agrees_1 h x0 x1 x2 (w32 (x3 + 1)) else some (h, 0)))) := (jj_of bk_112_11 _ _ h).trans ((ff_of bk_112_11 [(16, x0), (20, x1), (0, x2), (0, x3), (9, 0)] [(0, s0)] h).trans (by
  show (ck_ (0 ≤ x0) (ck_ (0 ≤ (rf_ h x0 3)) (ck_ (0 ≤ x3 ∧ x3 < ln_ h (rf_ h x0 3)) (if s0 = (rd_ h (rf_ h x0 3) x3) then JJ 112 13 [(16, x0), (20, x1), (0, x2), (0, x3), (9, 0)] [] h else JJ 112 12 [(16, x0), (20, x1), (0, x2), (0, x3), (9, 0)] [] h)))) = _
  simp only [jt_112_12, jt_112_13, ck_or1, ck_or2, rf_wr, ln_wr, nn_wr, rf_cp, ln_cp, nn_cp, ln_wf, nn_wf, rd_wf, nn_nw]
  try rfl))
theorem jt_112_10 (h : am_H) (d4 : am_V) (x0 x1 x2 x3 : Int) : JJ 112 10 [(16, x0), (20, x1), (0, x2), (0, x3), d4] [] h = ck_ (0 ≤ x0) (ck_ (0 ≤ (rf_ h x0 3)) (ck_ (0 ≤ x3 ∧ x3 < ln_ h (rf_ h x0 3)) (if (0 : Int) = (rd_ h (rf_ h x0 3) x3) then Se_agrees_1 h x0 x1 x2 (w32 (x3 + 1)) else some (h, 0)))) := (jj_of bk_112_10 _ _ h).trans ((ff_of bk_112_10 [(16, x0), (20, x1), (0, x2), (0, x3), (9, 0)] [] h).trans (by
  show (JJ 112 11 [(16, x0), (20, x1), (0, x2), (0, x3), (9, 0)] [(0, 0)] h) = _
  simp only [jt_112_11, ck_or1, ck_or2, rf_wr, ln_wr, nn_wr, rf_cp, ln_cp, nn_cp, ln_wf, nn_wf, rd_wf, nn_nw]
  try rfl))
theorem jt_112_9 (h : am_H) (d4 : am_V) (x0 x1 x2 x3 : Int) : JJ 112 9 [(16, x0), (20, x1), (0, x2), (0, x3), d4] [] h = ck_ (0 ≤ x0) (ck_ (0 ≤ (rf_ h x0 3)) (ck_ (0 ≤ x3 ∧ x3 < ln_ h (rf_ h x0 3)) (if (1 : Int) = (rd_ h (rf_ h x0 3) x3) then Se_agrees_1 h x0 x1 x2 (w32 (x3 + 1)) else some (h, 0)))) := (jj_of bk_112_9 _ _ h).trans ((ff_of bk_112_9 [(16, x0), (20, x1), (0, x2), (0, x3), (9, 0)] [] h).trans (by
  show (JJ 112 11 [(16, x0), (20, x1), (0, x2), (0, x3), (9, 0)] [(0, 1)] h) = _
  simp only [jt_112_11, ck_or1, ck_or2, rf_wr, ln_wr, nn_wr, rf_cp, ln_cp, nn_cp, ln_wf, nn_wf, rd_wf, nn_nw]
  try rfl))
set_option maxRecDepth 20000 in
theorem jt_112_8 (h : am_H) (d4 : am_V) (x0 x1 x2 x3 : Int) : JJ 112 8 [(16, x0), (20, x1), (0, x2), (0, x3), d4] [] h = ck_ (0 ≤ x0) (ck_ (0 ≤ (rf_ h x0 1)) (ck_ (0 ≤ x3 ∧ x3 < ln_ h (rf_ h x0 1)) (ck_ (0 ≤ x1) (bd_ (Wo_sizeAt h x1 (rd_ h (rf_ h x0 1) x3) 0) fun h1 v2 => ck_ (0 ≤ x0) (ck_ (0 ≤ (rf_ h1 x0 2)) (ck_ (0 ≤ x3 ∧ x3 < ln_ h1 (rf_ h1 x0 2)) (if v2 ≠ (rd_ h1 (rf_ h1 x0 2) x3) then ck_ (0 ≤ x0) (ck_ (0 ≤ (rf_ h1 x0 3)) (ck_ (0 ≤ x3 ∧ x3 < ln_ h1 (rf_ h1 x0 3)) (if (0 : Int) = (rd_ h1 (rf_ h1 x0 3) x3) then Se_agrees_1 h1 x0 x1 x2 (w32 (x3 + 1)) else some (h1, 0)))) else ck_ (0 ≤ x0) (ck_ (0 ≤ (rf_ h1 x0 3)) (ck_ (0 ≤ x3 ∧ x3 < ln_ h1 (rf_ h1 x0 3)) (if (1 : Int) = (rd_ h1 (rf_ h1 x0 3) x3) then Se_agrees_1 h1 x0 x1 x2 (w32 (x3 + 1)) else some (h1, 0))))))))))) := (jj_of bk_112_8 _ _ h).trans ((ff_of bk_112_8 [(16, x0), (20, x1), (0, x2), (0, x3), (9, 0)] [] h).trans (by
  show (ck_ (0 ≤ x0) (ck_ (0 ≤ (rf_ h x0 1)) (ck_ (0 ≤ x3 ∧ x3 < ln_ h (rf_ h x0 1)) (ck_ (0 ≤ x1) (bd_ (CC 56 [(20, x1), (0, rd_ h (rf_ h x0 1) x3), (0, 0)] h) fun h1 v2 => ck_ (0 ≤ x0) (ck_ (0 ≤ (rf_ h1 x0 2)) (ck_ (0 ≤ x3 ∧ x3 < ln_ h1 (rf_ h1 x0 2)) (if v2 ≠ (rd_ h1 (rf_ h1 x0 2) x3) then JJ 112 10 [(16, x0), (20, x1), (0, x2), (0, x3), (9, 0)] [] h1 else JJ 112 9 [(16, x0), (20, x1), (0, x2), (0, x3), (9, 0)] [] h1)))))))) = _
  simp only [cc_56, jt_112_10, jt_112_9, ck_or1, ck_or2, rf_wr, ln_wr, nn_wr, rf_cp, ln_cp, nn_cp, ln_wf, nn_wf, rd_wf, nn_nw]
  try rfl))
theorem Se_agrees_7_e (h : am_H) (x0 x1 x2 x3 s0 : Int) : Se_agrees_7 h x0 x1 x2 x3 s0 = if s0 = 0 then Se_agrees_1 h x0 x1 x2 (w32 (x3 + 1)) else ck_ (0 ≤ x0) (ck_ (0 ≤ (rf_ h x0 1)) (ck_ (0 ≤ x3 ∧ x3 < ln_ h (rf_ h x0 1)) (ck_ (0 ≤ x1) (bd_ (Wo_sizeAt h x1 (rd_ h (rf_ h x0 1) x3) 0) fun h1 v2 => ck_ (0 ≤ x0) (ck_ (0 ≤ (rf_ h1 x0 2)) (ck_ (0 ≤ x3 ∧ x3 < ln_ h1 (rf_ h1 x0 2)) (if v2 ≠ (rd_ h1 (rf_ h1 x0 2) x3) then ck_ (0 ≤ x0) (ck_ (0 ≤ (rf_ h1 x0 3)) (ck_ (0 ≤ x3 ∧ x3 < ln_ h1 (rf_ h1 x0 3)) (if (0 : Int) = (rd_ h1 (rf_ h1 x0 3) x3) then Se_agrees_1 h1 x0 x1 x2 (w32 (x3 + 1)) else some (h1, 0)))) else ck_ (0 ≤ x0) (ck_ (0 ≤ (rf_ h1 x0 3)) (ck_ (0 ≤ x3 ∧ x3 < ln_ h1 (rf_ h1 x0 3)) (if (1 : Int) = (rd_ h1 (rf_ h1 x0 3) x3) then Se_agrees_1 h1 x0 x1 x2 (w32 (x3 + 1)) else some (h1, 0))))))))))) := (ff_of bk_112_7 [(16, x0), (20, x1), (0, x2), (0, x3), (9, 0)] [(0, s0)] h).trans (by
  show (if s0 = 0 then JJ 112 13 [(16, x0), (20, x1), (0, x2), (0, x3), (0, s0)] [] h else JJ 112 8 [(16, x0), (20, x1), (0, x2), (0, x3), (0, s0)] [] h) = _
  simp only [jt_112_13, jt_112_8, ck_or1, ck_or2, rf_wr, ln_wr, nn_wr, rf_cp, ln_cp, nn_cp, ln_wf, nn_wf, rd_wf, nn_nw]
  try rfl)
theorem cc_112 (h : am_H) (x0 x1 x2 : Int) : CC 112 [(16, x0), (20, x1), (0, x2)] h = Se_agrees h x0 x1 x2 := cc_of pk_112 _ h
theorem pk_113 : am_prog 113 = some cd_113 := rfl
theorem bk_113_0 : bk_ am_prog 113 0 = some ([true], (bl_113_0, 9999)) := bk_of pk_113 rfl
theorem Wo_new_e (h : am_H) (x0 : Int) : Wo_new h x0 = ck_ (0 ≤ x0) (ck_ (0 ≤ (4 : Int) ∧ (4 : Int) ≤ 1000000) (ck_ (0 ≤ x0) (ck_ (0 ≤ (4 : Int) ∧ (4 : Int) ≤ 1000000) (ck_ (0 ≤ x0) (ck_ (0 ≤ (4 : Int) ∧ (4 : Int) ≤ 1000000) (ck_ (0 ≤ x0) (ck_ (0 ≤ (20 : Int) ∧ (20 : Int) ≤ 1000000) (ck_ (0 ≤ x0) (ck_ (0 ≤ (20 : Int) ∧ (20 : Int) ≤ 1000000) (ck_ (0 ≤ x0) (ck_ (0 ≤ (20 : Int) ∧ (20 : Int) ≤ 1000000) (ck_ (0 ≤ x0) (ck_ (0 ≤ (20 : Int) ∧ (20 : Int) ≤ 1000000) (ck_ (0 ≤ x0) (ck_ (0 ≤ (5 : Int) ∧ (5 : Int) ≤ 1000000) (ck_ (0 ≤ x0) (some (wf_ (nw_ (wf_ (nw_ (wf_ (nw_ (wf_ (nw_ (wf_ (nw_ (wf_ (nw_ (wf_ (nw_ (wf_ (nw_ h 20 4) x0 6 (nn_ h)) 20 4) x0 7 (nn_ h + 1)) 20 4) x0 8 (nn_ h + 1 + 1)) 20 20) x0 9 (nn_ h + 1 + 1 + 1)) 20 20) x0 10 (nn_ h + 1 + 1 + 1 + 1)) 20 20) x0 11 (nn_ h + 1 + 1 + 1 + 1 + 1)) 20 20) x0 12 (nn_ h + 1 + 1 + 1 + 1 + 1 + 1)) 20 5) x0 13 (nn_ h + 1 + 1 + 1 + 1 + 1 + 1 + 1), 0)))))))))))))))))) := ff_of bk_113_0 [(20, x0)] [] h
theorem cc_113 (h : am_H) (x0 : Int) : CC 113 [(20, x0)] h = Wo_new h x0 := cc_of pk_113 _ h
theorem pk_114 : am_prog 114 = some cd_114 := rfl
theorem bk_114_0 : bk_ am_prog 114 0 = some ([true], (bl_114_0, 9999)) := bk_of pk_114 rfl
set_option maxRecDepth 20000 in
theorem To_new_e (h : am_H) (x0 : Int) : To_new h x0 = ck_ (0 ≤ x0) (ck_ (0 ≤ (nn_ h)) (bd_ (Wo_new (nw_ h 10 14) (nn_ h)) fun h1 _ => ck_ (0 ≤ x0) (ck_ (0 ≤ (4 : Int) ∧ (4 : Int) ≤ 1000000) (ck_ (0 ≤ x0) (ck_ (0 ≤ (4 : Int) ∧ (4 : Int) ≤ 1000000) (ck_ (0 ≤ x0) (ck_ (0 ≤ (4 : Int) ∧ (4 : Int) ≤ 1000000) (ck_ (0 ≤ x0) (ck_ (0 ≤ (14 : Int) ∧ (14 : Int) ≤ 1000000) (ck_ (0 ≤ x0) (ck_ (0 ≤ (14 : Int) ∧ (14 : Int) ≤ 1000000) (ck_ (0 ≤ x0) (ck_ (0 ≤ (14 : Int) ∧ (14 : Int) ≤ 1000000) (ck_ (0 ≤ x0) (ck_ (0 ≤ (14 : Int) ∧ (14 : Int) ≤ 1000000) (ck_ (0 ≤ x0) (ck_ (0 ≤ (64 : Int) ∧ (64 : Int) ≤ 1000000) (ck_ (0 ≤ x0) (ck_ (0 ≤ (3 : Int) ∧ (3 : Int) ≤ 1000000) (ck_ (0 ≤ x0) (ck_ (0 ≤ (3 : Int) ∧ (3 : Int) ≤ 1000000) (ck_ (0 ≤ x0) (some (wf_ (nw_ (wf_ (nw_ (wf_ (nw_ (wf_ (nw_ (wf_ (nw_ (wf_ (nw_ (wf_ (nw_ (wf_ (nw_ (wf_ (nw_ (wf_ (nw_ (wf_ h1 x0 6 (nn_ h)) 20 4) x0 7 (nn_ h1)) 20 4) x0 8 (nn_ h1 + 1)) 20 4) x0 9 (nn_ h1 + 1 + 1)) 20 14) x0 10 (nn_ h1 + 1 + 1 + 1)) 20 14) x0 11 (nn_ h1 + 1 + 1 + 1 + 1)) 20 14) x0 12 (nn_ h1 + 1 + 1 + 1 + 1 + 1)) 20 14) x0 13 (nn_ h1 + 1 + 1 + 1 + 1 + 1 + 1)) 20 64) x0 14 (nn_ h1 + 1 + 1 + 1 + 1 + 1 + 1 + 1)) 20 3) x0 15 (nn_ h1 + 1 + 1 + 1 + 1 + 1 + 1 + 1 + 1)) 20 3) x0 16 (nn_ h1 + 1 + 1 + 1 + 1 + 1 + 1 + 1 + 1 + 1), 0)))))))))))))))))))))))) := (ff_of bk_114_0 [(18, x0)] [] h).trans (by
  show (ck_ (0 ≤ x0) (ck_ (0 ≤ (nn_ h)) (bd_ (CC 113 [(20, nn_ h)] (nw_ h 10 14)) fun h1 _ => ck_ (0 ≤ x0) (ck_ (0 ≤ (4 : Int) ∧ (4 : Int) ≤ 1000000) (ck_ (0 ≤ x0) (ck_ (0 ≤ (4 : Int) ∧ (4 : Int) ≤ 1000000) (ck_ (0 ≤ x0) (ck_ (0 ≤ (4 : Int) ∧ (4 : Int) ≤ 1000000) (ck_ (0 ≤ x0) (ck_ (0 ≤ (14 : Int) ∧ (14 : Int) ≤ 1000000) (ck_ (0 ≤ x0) (ck_ (0 ≤ (14 : Int) ∧ (14 : Int) ≤ 1000000) (ck_ (0 ≤ x0) (ck_ (0 ≤ (14 : Int) ∧ (14 : Int) ≤ 1000000) (ck_ (0 ≤ x0) (ck_ (0 ≤ (14 : Int) ∧ (14 : Int) ≤ 1000000) (ck_ (0 ≤ x0) (ck_ (0 ≤ (64 : Int) ∧ (64 : Int) ≤ 1000000) (ck_ (0 ≤ x0) (ck_ (0 ≤ (3 : Int) ∧ (3 : Int) ≤ 1000000) (ck_ (0 ≤ x0) (ck_ (0 ≤ (3 : Int) ∧ (3 : Int) ≤ 1000000) (ck_ (0 ≤ x0) (some (wf_ (nw_ (wf_ (nw_ (wf_ (nw_ (wf_ (nw_ (wf_ (nw_ (wf_ (nw_ (wf_ (nw_ (wf_ (nw_ (wf_ (nw_ (wf_ (nw_ (wf_ h1 x0 6 (nn_ h)) 20 4) x0 7 (nn_ h1)) 20 4) x0 8 (nn_ h1 + 1)) 20 4) x0 9 (nn_ h1 + 1 + 1)) 20 14) x0 10 (nn_ h1 + 1 + 1 + 1)) 20 14) x0 11 (nn_ h1 + 1 + 1 + 1 + 1)) 20 14) x0 12 (nn_ h1 + 1 + 1 + 1 + 1 + 1)) 20 14) x0 13 (nn_ h1 + 1 + 1 + 1 + 1 + 1 + 1)) 20 64) x0 14 (nn_ h1 + 1 + 1 + 1 + 1 + 1 + 1 + 1)) 20 3) x0 15 (nn_ h1 + 1 + 1 + 1 + 1 + 1 + 1 + 1 + 1)) 20 3) x0 16 (nn_ h1 + 1 + 1 + 1 + 1 + 1 + 1 + 1 + 1 + 1), 0))))))))))))))))))))))))) = _
  simp only [cc_113, ck_or1, ck_or2, rf_wr, ln_wr, nn_wr, rf_cp, ln_cp, nn_cp, ln_wf, nn_wf, rd_wf, nn_nw]
  try rfl)
theorem cc_114 (h : am_H) (x0 : Int) : CC 114 [(18, x0)] h = To_new h x0 := cc_of pk_114 _ h
theorem pk_115 : am_prog 115 = some cd_115 := rfl
theorem bk_115_0 : bk_ am_prog 115 0 = some ([true, true, false, false, false, false], (bl_115_0, 1)) := bk_of pk_115 rfl
theorem bk_115_1 : bk_ am_prog 115 1 = some ([true, true, true, true, false, false], (bl_115_1, 9999)) := bk_of pk_115 rfl
theorem bk_115_2 : bk_ am_prog 115 2 = some ([true, true, true, true, false, false], (bl_115_2, 3)) := bk_of pk_115 rfl
theorem bk_115_3 : bk_ am_prog 115 3 = some ([true, true, true, true, true, true], (bl_115_3, 9999)) := bk_of pk_115 rfl
theorem bk_115_4 : bk_ am_prog 115 4 = some ([true, true, true, true, true, true], (bl_115_4, 9999)) := bk_of pk_115 rfl
theorem bk_115_5 : bk_ am_prog 115 5 = some ([true, true, true, true, true, true], (bl_115_5, 6)) := bk_of pk_115 rfl
theorem bk_115_6 : bk_ am_prog 115 6 = some ([true, true, true, true, true, true], (bl_115_6, 9999)) := bk_of pk_115 rfl
theorem bk_115_7 : bk_ am_prog 115 7 = some ([true, true, true, true, true, false], (bl_115_7, 9999)) := bk_of pk_115 rfl
theorem bk_115_8 : bk_ am_prog 115 8 = some ([false, false, true, false, false, false], (bl_115_8, 9999)) := bk_of pk_115 rfl
theorem jt_115_1 (h : am_H) (d4 d5 : am_V) (x0 x1 x2 x3 : Int) : JJ 115 1 [(30, x0), (0, x1), (0, x2), (0, x3), d4, d5] [] h = Pp_orderOf_1 h x0 x1 x2 x3 := jj_of bk_115_1 _ _ h
theorem jt_115_3 (h : am_H) (x0 x1 x2 x3 x4 x5 : Int) : JJ 115 3 [(30, x0), (0, x1), (0, x2), (0, x3), (0, x4), (0, x5)] [] h = Pp_orderOf_3 h x0 x1 x2 x3 x4 x5 := jj_of bk_115_3 _ _ h
theorem Pp_orderOf_e (h : am_H) (x0 x1 : Int) : Pp_orderOf h x0 x1 = Pp_orderOf_1 h x0 x1 0 1 := (ff_of bk_115_0 [(30, x0), (0, x1), (9, 0), (9, 0), (9, 0), (9, 0)] [] h).trans (by
  show (JJ 115 1 [(30, x0), (0, x1), (0, 0), (0, 1), (9, 0), (9, 0)] [] h) = _
  simp only [jt_115_1, ck_or1, ck_or2, rf_wr, ln_wr, nn_wr, rf_cp, ln_cp, nn_cp, ln_wf, nn_wf, rd_wf, nn_nw]
  try rfl)
theorem jt_115_8 (h : am_H) (d0 d1 d3 d4 d5 : am_V) (x2 : Int) : JJ 115 8 [d0, d1, (0, x2), d3, d4, d5] [] h = some (h, x2) := (jj_of bk_115_8 _ _ h).trans (ff_of bk_115_8 [(9, 0), (9, 0), (0, x2), (9, 0), (9, 0), (9, 0)] [] h)
theorem jt_115_2 (h : am_H) (d4 d5 : am_V) (x0 x1 x2 x3 : Int) : JJ 115 2 [(30, x0), (0, x1), (0, x2), (0, x3), d4, d5] [] h = Pp_orderOf_3 h x0 x1 x2 x3 0 0 := (jj_of bk_115_2 _ _ h).trans ((ff_of bk_115_2 [(30, x0), (0, x1), (0, x2), (0, x3), (9, 0), (9, 0)] [] h).trans (by
  show (JJ 115 3 [(30, x0), (0, x1), (0, x2), (0, x3), (0, 0), (0, 0)] [] h) = _
  simp only [jt_115_3, ck_or1, ck_or2, rf_wr, ln_wr, nn_wr, rf_cp, ln_cp, nn_cp, ln_wf, nn_wf, rd_wf, nn_nw]
  try rfl))
theorem Pp_orderOf_1_e (h : am_H) (x0 x1 x2 x3 : Int) : Pp_orderOf_1 h x0 x1 x2 x3 = if x1 ≤ x3 then some (h, x2) else Pp_orderOf_3 h x0 x1 x2 x3 0 0 := (ff_of bk_115_1 [(30, x0), (0, x1), (0, x2), (0, x3), (9, 0), (9, 0)] [] h).trans (by
  show (if x1 ≤ x3 then JJ 115 8 [(30, x0), (0, x1), (0, x2), (0, x3), (9, 0), (9, 0)] [] h else JJ 115 2 [(30, x0), (0, x1), (0, x2), (0, x3), (9, 0), (9, 0)] [] h) = _
  simp only [jt_115_2, jt_115_8, ck_or1, ck_or2, rf_wr, ln_wr, nn_wr, rf_cp, ln_cp, nn_cp, ln_wf, nn_wf, rd_wf, nn_nw]
  try rfl)
theorem jt_115_7 (h : am_H) (d5 : am_V) (x0 x1 x2 x3 x4 : Int) : JJ 115 7 [(30, x0), (0, x1), (0, x2), (0, x3), (0, x4), d5] [] h = ck_ (0 ≤ x3 ∧ x3 < 6) (Pp_orderOf_1 h x0 x1 (w32 (x2 + (w32 (x4 * (fa_.getD (x3 : Int).toNat 0))))) (w32 (x3 + 1))) := (jj_of bk_115_7 _ _ h).trans ((ff_of bk_115_7 [(30, x0), (0, x1), (0, x2), (0, x3), (0, x4), (9, 0)] [] h).trans (by
  show (ck_ (0 ≤ x3 ∧ x3 < 6) (JJ 115 1 [(30, x0), (0, x1), (0, w32 (x2 + (w32 (x4 * (fa_.getD (x3 : Int).toNat 0))))), (0, w32 (x3 + 1)), (0, x4), (9, 0)] [] h)) = _
  simp only [jt_115_1, ck_or1, ck_or2, rf_wr, ln_wr, nn_wr, rf_cp, ln_cp, nn_cp, ln_wf, nn_wf, rd_wf, nn_nw]
  try rfl))
theorem jt_115_6 (h : am_H) (x0 x1 x2 x3 x4 x5 : Int) : JJ 115 6 [(30, x0), (0, x1), (0, x2), (0, x3), (0, x4), (0, x5)] [] h = Pp_orderOf_3 h x0 x1 x2 x3 x4 (w32 (x5 + 1)) := (jj_of bk_115_6 _ _ h).trans ((ff_of bk_115_6 [(30, x0), (0, x1), (0, x2), (0, x3), (0, x4), (0, x5)] [] h).trans (by
  show (JJ 115 3 [(30, x0), (0, x1), (0, x2), (0, x3), (0, x4), (0, w32 (x5 + 1))] [] h) = _
  simp only [jt_115_3, ck_or1, ck_or2, rf_wr, ln_wr, nn_wr, rf_cp, ln_cp, nn_cp, ln_wf, nn_wf, rd_wf, nn_nw]
  try rfl))
theorem jt_115_5 (h : am_H) (x0 x1 x2 x3 x4 x5 : Int) : JJ 115 5 [(30, x0), (0, x1), (0, x2), (0, x3), (0, x4), (0, x5)] [] h = Pp_orderOf_3 h x0 x1 x2 x3 (w32 (x4 + 1)) (w32 (x5 + 1)) := (jj_of bk_115_5 _ _ h).trans ((ff_of bk_115_5 [(30, x0), (0, x1), (0, x2), (0, x3), (0, x4), (0, x5)] [] h).trans (by
  show (JJ 115 6 [(30, x0), (0, x1), (0, x2), (0, x3), (0, w32 (x4 + 1)), (0, x5)] [] h) = _
  simp only [jt_115_6, ck_or1, ck_or2, rf_wr, ln_wr, nn_wr, rf_cp, ln_cp, nn_cp, ln_wf, nn_wf, rd_wf, nn_nw]
  try rfl))
theorem jt_115_4 (h : am_H) (x0 x1 x2 x3 x4 x5 : Int) : JJ 115 4 [(30, x0), (0, x1), (0, x2), (0, x3), (0, x4), (0, x5)] [] h = ck_ (0 ≤ x0) (ck_ (0 ≤ x5 ∧ x5 < ln_ h x0) (ck_ (0 ≤ x0) (ck_ (0 ≤ x3 ∧ x3 < ln_ h x0) (if (rd_ h x0 x5) ≤ (rd_ h x0 x3) then Pp_orderOf_3 h x0 x1 x2 x3 x4 (w32 (x5 + 1)) else Pp_orderOf_3 h x0 x1 x2 x3 (w32 (x4 + 1)) (w32 (x5 + 1)))))) := (jj_of bk_115_4 _ _ h).trans ((ff_of bk_115_4 [(30, x0), (0, x1), (0, x2), (0, x3), (0, x4), (0, x5)] [] h).trans (by
  show (ck_ (0 ≤ x0) (ck_ (0 ≤ x5 ∧ x5 < ln_ h x0) (ck_ (0 ≤ x0) (ck_ (0 ≤ x3 ∧ x3 < ln_ h x0) (if (rd_ h x0 x5) ≤ (rd_ h x0 x3) then JJ 115 6 [(30, x0), (0, x1), (0, x2), (0, x3), (0, x4), (0, x5)] [] h else JJ 115 5 [(30, x0), (0, x1), (0, x2), (0, x3), (0, x4), (0, x5)] [] h))))) = _
  simp only [jt_115_5, jt_115_6, ck_or1, ck_or2, rf_wr, ln_wr, nn_wr, rf_cp, ln_cp, nn_cp, ln_wf, nn_wf, rd_wf, nn_nw]
  try rfl))
theorem Pp_orderOf_3_e (h : am_H) (x0 x1 x2 x3 x4 x5 : Int) : Pp_orderOf_3 h x0 x1 x2 x3 x4 x5 = if x3 ≤ x5 then ck_ (0 ≤ x3 ∧ x3 < 6) (Pp_orderOf_1 h x0 x1 (w32 (x2 + (w32 (x4 * (fa_.getD (x3 : Int).toNat 0))))) (w32 (x3 + 1))) else ck_ (0 ≤ x0) (ck_ (0 ≤ x5 ∧ x5 < ln_ h x0) (ck_ (0 ≤ x0) (ck_ (0 ≤ x3 ∧ x3 < ln_ h x0) (if (rd_ h x0 x5) ≤ (rd_ h x0 x3) then Pp_orderOf_3 h x0 x1 x2 x3 x4 (w32 (x5 + 1)) else Pp_orderOf_3 h x0 x1 x2 x3 (w32 (x4 + 1)) (w32 (x5 + 1)))))) := (ff_of bk_115_3 [(30, x0), (0, x1), (0, x2), (0, x3), (0, x4), (0, x5)] [] h).trans (by
  show (if x3 ≤ x5 then JJ 115 7 [(30, x0), (0, x1), (0, x2), (0, x3), (0, x4), (0, x5)] [] h else JJ 115 4 [(30, x0), (0, x1), (0, x2), (0, x3), (0, x4), (0, x5)] [] h) = _
  simp only [jt_115_4, jt_115_7, ck_or1, ck_or2, rf_wr, ln_wr, nn_wr, rf_cp, ln_cp, nn_cp, ln_wf, nn_wf, rd_wf, nn_nw]
  try rfl)
theorem cc_115 (h : am_H) (x0 x1 : Int) : CC 115 [(30, x0), (0, x1)] h = Pp_orderOf h x0 x1 := cc_of pk_115 _ h
theorem pk_116 : am_prog 116 = some cd_116 := rfl
theorem bk_116_0 : bk_ am_prog 116 0 = some ([true, true, false, false, false], (bl_116_0, 1)) := bk_of pk_116 rfl
theorem bk_116_1 : bk_ am_prog 116 1 = some ([true, false, true, true, false], (bl_116_1, 9999)) := bk_of pk_116 rfl
theorem bk_116_2 : bk_ am_prog 116 2 = some ([true, false, true, true, false], (bl_116_2, 9999)) := bk_of pk_116 rfl
theorem bk_116_3 : bk_ am_prog 116 3 = some ([false, false, false, false, false], (bl_116_3, 9999)) := bk_of pk_116 rfl
theorem jt_116_1 (h : am_H) (d1 d4 : am_V) (x0 x2 x3 : Int) : JJ 116 1 [(30, x0), d1, (0, x2), (0, x3), d4] [] h = Pp_reverse_1 h x0 x2 x3 := jj_of bk_116_1 _ _ h
theorem Pp_reverse_e (h : am_H) (x0 x1 : Int) : Pp_reverse h x0 x1 = Pp_reverse_1 h x0 0 (w32 (x1 - 1)) := (ff_of bk_116_0 [(30, x0), (0, x1), (9, 0), (9, 0), (9, 0)] [] h).trans (by
  show (JJ 116 1 [(30, x0), (0, x1), (0, 0), (0, w32 (x1 - 1)), (9, 0)] [] h) = _
  simp only [jt_116_1, ck_or1, ck_or2, rf_wr, ln_wr, nn_wr, rf_cp, ln_cp, nn_cp, ln_wf, nn_wf, rd_wf, nn_nw]
  try rfl)
theorem jt_116_3 (h : am_H) (d0 d1 d2 d3 d4 : am_V) : JJ 116 3 [d0, d1, d2, d3, d4] [] h = some (h, 0) := (jj_of bk_116_3 _ _ h).trans (ff_of bk_116_3 [(9, 0), (9, 0), (9, 0), (9, 0), (9, 0)] [] h)
theorem jt_116_2 (h : am_H) (d1 d4 : am_V) (x0 x2 x3 : Int) : JJ 116 2 [(30, x0), d1, (0, x2), (0, x3), d4] [] h = ck_ (0 ≤ x0) (ck_ (0 ≤ x2 ∧ x2 < ln_ h x0) (ck_ (0 ≤ x0) (ck_ (0 ≤ x3 ∧ x3 < ln_ h x0) (ck_ (0 ≤ x0) (ck_ (0 ≤ x2 ∧ x2 < ln_ h x0) (ck_ (0 ≤ x0) (ck_ (0 ≤ x3 ∧ x3 < ln_ h x0) (Pp_reverse_1 (wr_ (wr_ h x0 x2 (rd_ h x0 x3)) x0 x3 (rd_ h x0 x2)) x0 (w32 (x2 + 1)) (w32 (x3 + (-1))))))))))) := (jj_of bk_116_2 _ _ h).trans ((ff_of bk_116_2 [(30, x0), (9, 0), (0, x2), (0, x3), (9, 0)] [] h).trans (by
  show (ck_ (0 ≤ x0) (ck_ (0 ≤ x2 ∧ x2 < ln_ h x0) (ck_ (0 ≤ x0) (ck_ (0 ≤ x3 ∧ x3 < ln_ h x0) (ck_ (0 ≤ x0) (ck_ (0 ≤ x2 ∧ x2 < ln_ h x0) (ck_ (0 ≤ x0) (ck_ (0 ≤ x3 ∧ x3 < ln_ h x0) (JJ 116 1 [(30, x0), (9, 0), (0, w32 (x2 + 1)), (0, w32 (x3 + (-1))), (0, rd_ h x0 x2)] [] (wr_ (wr_ h x0 x2 (rd_ h x0 x3)) x0 x3 (rd_ h x0 x2))))))))))) = _
  simp only [jt_116_1, ck_or1, ck_or2, rf_wr, ln_wr, nn_wr, rf_cp, ln_cp, nn_cp, ln_wf, nn_wf, rd_wf, nn_nw]
  try rfl))
theorem Pp_reverse_1_e (h : am_H) (x0 x2 x3 : Int) : Pp_reverse_1 h x0 x2 x3 = if x3 ≤ x2 then some (h, 0) else ck_ (0 ≤ x0) (ck_ (0 ≤ x2 ∧ x2 < ln_ h x0) (ck_ (0 ≤ x0) (ck_ (0 ≤ x3 ∧ x3 < ln_ h x0) (ck_ (0 ≤ x0) (ck_ (0 ≤ x2 ∧ x2 < ln_ h x0) (ck_ (0 ≤ x0) (ck_ (0 ≤ x3 ∧ x3 < ln_ h x0) (Pp_reverse_1 (wr_ (wr_ h x0 x2 (rd_ h x0 x3)) x0 x3 (rd_ h x0 x2)) x0 (w32 (x2 + 1)) (w32 (x3 + (-1))))))))))) := (ff_of bk_116_1 [(30, x0), (9, 0), (0, x2), (0, x3), (9, 0)] [] h).trans (by
  show (if x3 ≤ x2 then JJ 116 3 [(30, x0), (9, 0), (0, x2), (0, x3), (9, 0)] [] h else JJ 116 2 [(30, x0), (9, 0), (0, x2), (0, x3), (9, 0)] [] h) = _
  simp only [jt_116_2, jt_116_3, ck_or1, ck_or2, rf_wr, ln_wr, nn_wr, rf_cp, ln_cp, nn_cp, ln_wf, nn_wf, rd_wf, nn_nw]
  try rfl)
theorem cc_116 (h : am_H) (x0 x1 : Int) : CC 116 [(30, x0), (0, x1)] h = Pp_reverse h x0 x1 := cc_of pk_116 _ h
theorem pk_117 : am_prog 117 = some cd_117 := rfl
theorem bk_117_0 : bk_ am_prog 117 0 = some ([true, true, false, false], (bl_117_0, 1)) := bk_of pk_117 rfl
theorem bk_117_1 : bk_ am_prog 117 1 = some ([true, true, true, true], (bl_117_1, 9999)) := bk_of pk_117 rfl
theorem bk_117_2 : bk_ am_prog 117 2 = some ([true, true, true, true], (bl_117_2, 9999)) := bk_of pk_117 rfl
theorem bk_117_3 : bk_ am_prog 117 3 = some ([true, true, true, true], (bl_117_3, 4)) := bk_of pk_117 rfl
theorem bk_117_4 : bk_ am_prog 117 4 = some ([true, true, true, true], (bl_117_4, 9999)) := bk_of pk_117 rfl
theorem bk_117_5 : bk_ am_prog 117 5 = some ([false, false, true, false], (bl_117_5, 9999)) := bk_of pk_117 rfl
theorem jt_117_1 (h : am_H) (x0 x1 x2 x3 : Int) : JJ 117 1 [(0, x0), (0, x1), (0, x2), (0, x3)] [] h = Tu_flipped_1 h x0 x1 x2 x3 := jj_of bk_117_1 _ _ h
theorem Tu_flipped_e (h : am_H) (x0 x1 : Int) : Tu_flipped h x0 x1 = Tu_flipped_1 h x0 x1 (w32 ((x0 / 2 ^ (x1 % 32 : Int).toNat) * 2 ^ (x1 % 32 : Int).toNat)) 0 := (ff_of bk_117_0 [(0, x0), (0, x1), (9, 0), (9, 0)] [] h).trans (by
  show (JJ 117 1 [(0, x0), (0, x1), (0, w32 ((x0 / 2 ^ (x1 % 32 : Int).toNat) * 2 ^ (x1 % 32 : Int).toNat)), (0, 0)] [] h) = _
  simp only [jt_117_1, ck_or1, ck_or2, rf_wr, ln_wr, nn_wr, rf_cp, ln_cp, nn_cp, ln_wf, nn_wf, rd_wf, nn_nw]
  try rfl)
theorem jt_117_5 (h : am_H) (d0 d1 d3 : am_V) (x2 : Int) : JJ 117 5 [d0, d1, (0, x2), d3] [] h = some (h, x2) := (jj_of bk_117_5 _ _ h).trans (ff_of bk_117_5 [(9, 0), (9, 0), (0, x2), (9, 0)] [] h)
theorem jt_117_4 (h : am_H) (x0 x1 x2 x3 : Int) : JJ 117 4 [(0, x0), (0, x1), (0, x2), (0, x3)] [] h = Tu_flipped_1 h x0 x1 x2 (w32 (x3 + 1)) := (jj_of bk_117_4 _ _ h).trans ((ff_of bk_117_4 [(0, x0), (0, x1), (0, x2), (0, x3)] [] h).trans (by
  show (JJ 117 1 [(0, x0), (0, x1), (0, x2), (0, w32 (x3 + 1))] [] h) = _
  simp only [jt_117_1, ck_or1, ck_or2, rf_wr, ln_wr, nn_wr, rf_cp, ln_cp, nn_cp, ln_wf, nn_wf, rd_wf, nn_nw]
  try rfl))
theorem jt_117_3 (h : am_H) (x0 x1 x2 x3 : Int) : JJ 117 3 [(0, x0), (0, x1), (0, x2), (0, x3)] [] h = Tu_flipped_1 h x0 x1 (or_ x2 (w32 (1 * 2 ^ ((w32 ((w32 (x1 - 1)) - x3)) % 32 : Int).toNat))) (w32 (x3 + 1)) := (jj_of bk_117_3 _ _ h).trans ((ff_of bk_117_3 [(0, x0), (0, x1), (0, x2), (0, x3)] [] h).trans (by
  show (JJ 117 4 [(0, x0), (0, x1), (0, or_ x2 (w32 (1 * 2 ^ ((w32 ((w32 (x1 - 1)) - x3)) % 32 : Int).toNat))), (0, x3)] [] h) = _
  simp only [jt_117_4, ck_or1, ck_or2, rf_wr, ln_wr, nn_wr, rf_cp, ln_cp, nn_cp, ln_wf, nn_wf, rd_wf, nn_nw]
  try rfl))
theorem jt_117_2 (h : am_H) (x0 x1 x2 x3 : Int) : JJ 117 2 [(0, x0), (0, x1), (0, x2), (0, x3)] [] h = if (an_ (x0 / 2 ^ (x3 % 32 : Int).toNat) 1) ≠ 0 then Tu_flipped_1 h x0 x1 x2 (w32 (x3 + 1)) else Tu_flipped_1 h x0 x1 (or_ x2 (w32 (1 * 2 ^ ((w32 ((w32 (x1 - 1)) - x3)) % 32 : Int).toNat))) (w32 (x3 + 1)) := (jj_of bk_117_2 _ _ h).trans ((ff_of bk_117_2 [(0, x0), (0, x1), (0, x2), (0, x3)] [] h).trans (by
  show (if (an_ (x0 / 2 ^ (x3 % 32 : Int).toNat) 1) ≠ 0 then JJ 117 4 [(0, x0), (0, x1), (0, x2), (0, x3)] [] h else JJ 117 3 [(0, x0), (0, x1), (0, x2), (0, x3)] [] h) = _
  simp only [jt_117_3, jt_117_4, ck_or1, ck_or2, rf_wr, ln_wr, nn_wr, rf_cp, ln_cp, nn_cp, ln_wf, nn_wf, rd_wf, nn_nw]
  try rfl))
theorem Tu_flipped_1_e (h : am_H) (x0 x1 x2 x3 : Int) : Tu_flipped_1 h x0 x1 x2 x3 = if x1 ≤ x3 then some (h, x2) else if (an_ (x0 / 2 ^ (x3 % 32 : Int).toNat) 1) ≠ 0 then Tu_flipped_1 h x0 x1 x2 (w32 (x3 + 1)) else Tu_flipped_1 h x0 x1 (or_ x2 (w32 (1 * 2 ^ ((w32 ((w32 (x1 - 1)) - x3)) % 32 : Int).toNat))) (w32 (x3 + 1)) := (ff_of bk_117_1 [(0, x0), (0, x1), (0, x2), (0, x3)] [] h).trans (by
  show (if x1 ≤ x3 then JJ 117 5 [(0, x0), (0, x1), (0, x2), (0, x3)] [] h else JJ 117 2 [(0, x0), (0, x1), (0, x2), (0, x3)] [] h) = _
  simp only [jt_117_2, jt_117_5, ck_or1, ck_or2, rf_wr, ln_wr, nn_wr, rf_cp, ln_cp, nn_cp, ln_wf, nn_wf, rd_wf, nn_nw]
  try rfl)
theorem cc_117 (h : am_H) (x0 x1 : Int) : CC 117 [(0, x0), (0, x1)] h = Tu_flipped h x0 x1 := cc_of pk_117 _ h
theorem pk_118 : am_prog 118 = some cd_118 := rfl
theorem bk_118_0 : bk_ am_prog 118 0 = some ([true, true, false, false, false, false], (bl_118_0, 1)) := bk_of pk_118 rfl
theorem bk_118_1 : bk_ am_prog 118 1 = some ([true, true, true, false, false, false], (bl_118_1, 9999)) := bk_of pk_118 rfl
theorem bk_118_2 : bk_ am_prog 118 2 = some ([true, true, true, false, false, false], (bl_118_2, 3)) := bk_of pk_118 rfl
theorem bk_118_3 : bk_ am_prog 118 3 = some ([true, true, true, false, true, true], (bl_118_3, 9999)) := bk_of pk_118 rfl
theorem bk_118_4 : bk_ am_prog 118 4 = some ([true, true, true, false, true, true], (bl_118_4, 9999)) := bk_of pk_118 rfl
theorem bk_118_5 : bk_ am_prog 118 5 = some ([true, true, true, false, true, true], (bl_118_5, 6)) := bk_of pk_118 rfl
theorem bk_118_6 : bk_ am_prog 118 6 = some ([true, true, true, false, true, true], (bl_118_6, 9999)) := bk_of pk_118 rfl
theorem bk_118_7 : bk_ am_prog 118 7 = some ([true, true, true, false, true, false], (bl_118_7, 9999)) := bk_of pk_118 rfl
theorem bk_118_8 : bk_ am_prog 118 8 = some ([false, false, false, false, false, false], (bl_118_8, 9999)) := bk_of pk_118 rfl
theorem jt_118_1 (h : am_H) (d3 d4 d5 : am_V) (x0 x1 x2 : Int) : JJ 118 1 [(30, x0), (0, x1), (0, x2), d3, d4, d5] [] h = Tu_lay_1 h x0 x1 x2 := jj_of bk_118_1 _ _ h
theorem jt_118_3 (h : am_H) (d3 : am_V) (x0 x1 x2 x4 x5 : Int) : JJ 118 3 [(30, x0), (0, x1), (0, x2), d3, (0, x4), (0, x5)] [] h = Tu_lay_3 h x0 x1 x2 x4 x5 := jj_of bk_118_3 _ _ h
theorem Tu_lay_e (h : am_H) (x0 x1 : Int) : Tu_lay h x0 x1 = Tu_lay_1 h x0 x1 0 := (ff_of bk_118_0 [(30, x0), (0, x1), (9, 0), (9, 0), (9, 0), (9, 0)] [] h).trans (by
  show (JJ 118 1 [(30, x0), (0, x1), (0, 0), (9, 0), (9, 0), (9, 0)] [] h) = _
  simp only [jt_118_1, ck_or1, ck_or2, rf_wr, ln_wr, nn_wr, rf_cp, ln_cp, nn_cp, ln_wf, nn_wf, rd_wf, nn_nw]
  try rfl)
theorem jt_118_8 (h : am_H) (d0 d1 d2 d3 d4 d5 : am_V) : JJ 118 8 [d0, d1, d2, d3, d4, d5] [] h = some (h, 0) := (jj_of bk_118_8 _ _ h).trans (ff_of bk_118_8 [(9, 0), (9, 0), (9, 0), (9, 0), (9, 0), (9, 0)] [] h)
theorem jt_118_2 (h : am_H) (d3 d4 d5 : am_V) (x0 x1 x2 : Int) : JJ 118 2 [(30, x0), (0, x1), (0, x2), d3, d4, d5] [] h = ck_ (0 ≤ x2 ∧ x2 < 6) (ck_ ((fa_.getD (x2 : Int).toNat 0) ≠ 0) (ck_ ((w32 (x2 + 1)) ≠ 0) (Tu_lay_3 h x0 x1 x2 (w32 (x2 - (Int.tmod (w32 (Int.tdiv x1 (fa_.getD (x2 : Int).toNat 0))) (w32 (x2 + 1))))) 0))) := (jj_of bk_118_2 _ _ h).trans ((ff_of bk_118_2 [(30, x0), (0, x1), (0, x2), (9, 0), (9, 0), (9, 0)] [] h).trans (by
  show (ck_ (0 ≤ x2 ∧ x2 < 6) (ck_ ((fa_.getD (x2 : Int).toNat 0) ≠ 0) (ck_ ((w32 (x2 + 1)) ≠ 0) (JJ 118 3 [(30, x0), (0, x1), (0, x2), (0, Int.tmod (w32 (Int.tdiv x1 (fa_.getD (x2 : Int).toNat 0))) (w32 (x2 + 1))), (0, w32 (x2 - (Int.tmod (w32 (Int.tdiv x1 (fa_.getD (x2 : Int).toNat 0))) (w32 (x2 + 1))))), (0, 0)] [] h)))) = _
  simp only [jt_118_3, ck_or1, ck_or2, rf_wr, ln_wr, nn_wr, rf_cp, ln_cp, nn_cp, ln_wf, nn_wf, rd_wf, nn_nw]
  try rfl))
theorem Tu_lay_1_e (h : am_H) (x0 x1 x2 : Int) : Tu_lay_1 h x0 x1 x2 = if 5 ≤ x2 then some (h, 0) else ck_ (0 ≤ x2 ∧ x2 < 6) (ck_ ((fa_.getD (x2 : Int).toNat 0) ≠ 0) (ck_ ((w32 (x2 + 1)) ≠ 0) (Tu_lay_3 h x0 x1 x2 (w32 (x2 - (Int.tmod (w32 (Int.tdiv x1 (fa_.getD (x2 : Int).toNat 0))) (w32 (x2 + 1))))) 0))) := (ff_of bk_118_1 [(30, x0), (0, x1), (0, x2), (9, 0), (9, 0), (9, 0)] [] h).trans (by
  show (if 5 ≤ x2 then JJ 118 8 [(30, x0), (0, x1), (0, x2), (9, 0), (9, 0), (9, 0)] [] h else JJ 118 2 [(30, x0), (0, x1), (0, x2), (9, 0), (9, 0), (9, 0)] [] h) = _
  simp only [jt_118_2, jt_118_8, ck_or1, ck_or2, rf_wr, ln_wr, nn_wr, rf_cp, ln_cp, nn_cp, ln_wf, nn_wf, rd_wf, nn_nw]
  try rfl)
theorem jt_118_7 (h : am_H) (d3 d5 : am_V) (x0 x1 x2 x4 : Int) : JJ 118 7 [(30, x0), (0, x1), (0, x2), d3, (0, x4), d5] [] h = ck_ (0 ≤ x0) (ck_ (0 ≤ x2 ∧ x2 < ln_ h x0) (Tu_lay_1 (wr_ h x0 x2 x4) x0 x1 (w32 (x2 + 1)))) := (jj_of bk_118_7 _ _ h).trans ((ff_of bk_118_7 [(30, x0), (0, x1), (0, x2), (9, 0), (0, x4), (9, 0)] [] h).trans (by
  show (ck_ (0 ≤ x0) (ck_ (0 ≤ x2 ∧ x2 < ln_ h x0) (JJ 118 1 [(30, x0), (0, x1), (0, w32 (x2 + 1)), (9, 0), (0, x4), (9, 0)] [] (wr_ h x0 x2 x4)))) = _
  simp only [jt_118_1, ck_or1, ck_or2, rf_wr, ln_wr, nn_wr, rf_cp, ln_cp, nn_cp, ln_wf, nn_wf, rd_wf, nn_nw]
  try rfl))
theorem jt_118_6 (h : am_H) (d3 : am_V) (x0 x1 x2 x4 x5 : Int) : JJ 118 6 [(30, x0), (0, x1), (0, x2), d3, (0, x4), (0, x5)] [] h = Tu_lay_3 h x0 x1 x2 x4 (w32 (x5 + 1)) := (jj_of bk_118_6 _ _ h).trans ((ff_of bk_118_6 [(30, x0), (0, x1), (0, x2), (9, 0), (0, x4), (0, x5)] [] h).trans (by
  show (JJ 118 3 [(30, x0), (0, x1), (0, x2), (9, 0), (0, x4), (0, w32 (x5 + 1))] [] h) = _
  simp only [jt_118_3, ck_or1, ck_or2, rf_wr, ln_wr, nn_wr, rf_cp, ln_cp, nn_cp, ln_wf, nn_wf, rd_wf, nn_nw]
  try rfl))
theorem jt_118_5 (h : am_H) (d3 : am_V) (x0 x1 x2 x4 x5 : Int) : JJ 118 5 [(30, x0), (0, x1), (0, x2), d3, (0, x4), (0, x5)] [] h = ck_ (0 ≤ x0) (ck_ (0 ≤ x5 ∧ x5 < ln_ h x0) (ck_ (0 ≤ x0) (ck_ (0 ≤ x5 ∧ x5 < ln_ h x0) (Tu_lay_3 (wr_ h x0 x5 (w32 ((rd_ h x0 x5) + 1))) x0 x1 x2 x4 (w32 (x5 + 1)))))) := (jj_of bk_118_5 _ _ h).trans ((ff_of bk_118_5 [(30, x0), (0, x1), (0, x2), (9, 0), (0, x4), (0, x5)] [] h).trans (by
  show (ck_ (0 ≤ x0) (ck_ (0 ≤ x5 ∧ x5 < ln_ h x0) (ck_ (0 ≤ x0) (ck_ (0 ≤ x5 ∧ x5 < ln_ h x0) (JJ 118 6 [(30, x0), (0, x1), (0, x2), (9, 0), (0, x4), (0, x5)] [] (wr_ h x0 x5 (w32 ((rd_ h x0 x5) + 1)))))))) = _
  simp only [jt_118_6, ck_or1, ck_or2, rf_wr, ln_wr, nn_wr, rf_cp, ln_cp, nn_cp, ln_wf, nn_wf, rd_wf, nn_nw]
  try rfl))
theorem jt_118_4 (h : am_H) (d3 : am_V) (x0 x1 x2 x4 x5 : Int) : JJ 118 4 [(30, x0), (0, x1), (0, x2), d3, (0, x4), (0, x5)] [] h = ck_ (0 ≤ x0) (ck_ (0 ≤ x5 ∧ x5 < ln_ h x0) (if (rd_ h x0 x5) < x4 then Tu_lay_3 h x0 x1 x2 x4 (w32 (x5 + 1)) else ck_ (0 ≤ x0) (ck_ (0 ≤ x5 ∧ x5 < ln_ h x0) (ck_ (0 ≤ x0) (ck_ (0 ≤ x5 ∧ x5 < ln_ h x0) (Tu_lay_3 (wr_ h x0 x5 (w32 ((rd_ h x0 x5) + 1))) x0 x1 x2 x4 (w32 (x5 + 1)))))))) := (jj_of bk_118_4 _ _ h).trans ((ff_of bk_118_4 [(30, x0), (0, x1), (0, x2), (9, 0), (0, x4), (0, x5)] [] h).trans (by
  show (ck_ (0 ≤ x0) (ck_ (0 ≤ x5 ∧ x5 < ln_ h x0) (if (rd_ h x0 x5) < x4 then JJ 118 6 [(30, x0), (0, x1), (0, x2), (9, 0), (0, x4), (0, x5)] [] h else JJ 118 5 [(30, x0), (0, x1), (0, x2), (9, 0), (0, x4), (0, x5)] [] h))) = _
  simp only [jt_118_5, jt_118_6, ck_or1, ck_or2, rf_wr, ln_wr, nn_wr, rf_cp, ln_cp, nn_cp, ln_wf, nn_wf, rd_wf, nn_nw]
  try rfl))
theorem Tu_lay_3_e (h : am_H) (x0 x1 x2 x4 x5 : Int) : Tu_lay_3 h x0 x1 x2 x4 x5 = if x2 ≤ x5 then ck_ (0 ≤ x0) (ck_ (0 ≤ x2 ∧ x2 < ln_ h x0) (Tu_lay_1 (wr_ h x0 x2 x4) x0 x1 (w32 (x2 + 1)))) else ck_ (0 ≤ x0) (ck_ (0 ≤ x5 ∧ x5 < ln_ h x0) (if (rd_ h x0 x5) < x4 then Tu_lay_3 h x0 x1 x2 x4 (w32 (x5 + 1)) else ck_ (0 ≤ x0) (ck_ (0 ≤ x5 ∧ x5 < ln_ h x0) (ck_ (0 ≤ x0) (ck_ (0 ≤ x5 ∧ x5 < ln_ h x0) (Tu_lay_3 (wr_ h x0 x5 (w32 ((rd_ h x0 x5) + 1))) x0 x1 x2 x4 (w32 (x5 + 1)))))))) := (ff_of bk_118_3 [(30, x0), (0, x1), (0, x2), (9, 0), (0, x4), (0, x5)] [] h).trans (by
  show (if x2 ≤ x5 then JJ 118 7 [(30, x0), (0, x1), (0, x2), (9, 0), (0, x4), (0, x5)] [] h else JJ 118 4 [(30, x0), (0, x1), (0, x2), (9, 0), (0, x4), (0, x5)] [] h) = _
  simp only [jt_118_4, jt_118_7, ck_or1, ck_or2, rf_wr, ln_wr, nn_wr, rf_cp, ln_cp, nn_cp, ln_wf, nn_wf, rd_wf, nn_nw]
  try rfl)
theorem cc_118 (h : am_H) (x0 x1 : Int) : CC 118 [(30, x0), (0, x1)] h = Tu_lay h x0 x1 := cc_of pk_118 _ h
theorem pk_119 : am_prog 119 = some cd_119 := rfl
theorem bk_119_0 : bk_ am_prog 119 0 = some ([true, false, false, false], (bl_119_0, 1)) := bk_of pk_119 rfl
theorem bk_119_1 : bk_ am_prog 119 1 = some ([true, true, true, false], (bl_119_1, 9999)) := bk_of pk_119 rfl
theorem bk_119_2 : bk_ am_prog 119 2 = some ([true, true, true, false], (bl_119_2, 3)) := bk_of pk_119 rfl
theorem bk_119_3 : bk_ am_prog 119 3 = some ([true, true, true, true], (bl_119_3, 9999)) := bk_of pk_119 rfl
theorem bk_119_4 : bk_ am_prog 119 4 = some ([true, true, true, true], (bl_119_4, 9999)) := bk_of pk_119 rfl
theorem bk_119_5 : bk_ am_prog 119 5 = some ([true, true, true, false], (bl_119_5, 9999)) := bk_of pk_119 rfl
theorem bk_119_6 : bk_ am_prog 119 6 = some ([true, false, false, false], (bl_119_6, 7)) := bk_of pk_119 rfl
theorem bk_119_7 : bk_ am_prog 119 7 = some ([true, false, true, false], (bl_119_7, 9999)) := bk_of pk_119 rfl
theorem bk_119_8 : bk_ am_prog 119 8 = some ([true, false, true, false], (bl_119_8, 9)) := bk_of pk_119 rfl
theorem bk_119_9 : bk_ am_prog 119 9 = some ([true, false, true, true], (bl_119_9, 9999)) := bk_of pk_119 rfl
theorem bk_119_10 : bk_ am_prog 119 10 = some ([true, false, true, true], (bl_119_10, 9999)) := bk_of pk_119 rfl
theorem bk_119_11 : bk_ am_prog 119 11 = some ([true, false, true, false], (bl_119_11, 9999)) := bk_of pk_119 rfl
theorem bk_119_12 : bk_ am_prog 119 12 = some ([false, false, false, false], (bl_119_12, 9999)) := bk_of pk_119 rfl
theorem jt_119_1 (h : am_H) (d3 : am_V) (x0 x1 x2 : Int) : JJ 119 1 [(19, x0), (30, x1), (0, x2), d3] [] h = Tu_new_1 h x0 x1 x2 := jj_of bk_119_1 _ _ h
theorem jt_119_3 (h : am_H) (x0 x1 x2 x3 : Int) : JJ 119 3 [(19, x0), (30, x1), (0, x2), (0, x3)] [] h = Tu_new_3 h x0 x1 x2 x3 := jj_of bk_119_3 _ _ h
theorem jt_119_7 (h : am_H) (d1 d3 : am_V) (x0 x2 : Int) : JJ 119 7 [(19, x0), d1, (0, x2), d3] [] h = Tu_new_7 h x0 x2 := jj_of bk_119_7 _ _ h
theorem jt_119_9 (h : am_H) (d1 : am_V) (x0 x2 x3 : Int) : JJ 119 9 [(19, x0), d1, (0, x2), (0, x3)] [] h = Tu_new_9 h x0 x2 x3 := jj_of bk_119_9 _ _ h
theorem Tu_new_e (h : am_H) (x0 : Int) : Tu_new h x0 = ck_ (0 ≤ x0) (ck_ (0 ≤ (600 : Int) ∧ (600 : Int) ≤ 1000000) (ck_ (0 ≤ x0) (ck_ (0 ≤ (160 : Int) ∧ (160 : Int) ≤ 1000000) (ck_ (0 ≤ x0) (ck_ (0 ≤ (5 : Int) ∧ (5 : Int) ≤ 1000000) (Tu_new_1 (nw_ (wf_ (nw_ (wf_ (nw_ h 20 600) x0 0 (nn_ h)) 20 160) x0 1 (nn_ h + 1)) 20 5) x0 (nn_ h + 1 + 1) 0)))))) := (ff_of bk_119_0 [(19, x0), (9, 0), (9, 0), (9, 0)] [] h).trans (by
  show (ck_ (0 ≤ x0) (ck_ (0 ≤ (600 : Int) ∧ (600 : Int) ≤ 1000000) (ck_ (0 ≤ x0) (ck_ (0 ≤ (160 : Int) ∧ (160 : Int) ≤ 1000000) (ck_ (0 ≤ x0) (ck_ (0 ≤ (5 : Int) ∧ (5 : Int) ≤ 1000000) (JJ 119 1 [(19, x0), (30, nn_ h + 1 + 1), (0, 0), (9, 0)] [] (nw_ (wf_ (nw_ (wf_ (nw_ h 20 600) x0 0 (nn_ h)) 20 160) x0 1 (nn_ h + 1)) 20 5)))))))) = _
  simp only [jt_119_1, ck_or1, ck_or2, rf_wr, ln_wr, nn_wr, rf_cp, ln_cp, nn_cp, ln_wf, nn_wf, rd_wf, nn_nw]
  try rfl)
theorem jt_119_6 (h : am_H) (d1 d2 d3 : am_V) (x0 : Int) : JJ 119 6 [(19, x0), d1, d2, d3] [] h = Tu_new_7 h x0 0 := (jj_of bk_119_6 _ _ h).trans ((ff_of bk_119_6 [(19, x0), (9, 0), (9, 0), (9, 0)] [] h).trans (by
  show (JJ 119 7 [(19, x0), (9, 0), (0, 0), (9, 0)] [] h) = _
  simp only [jt_119_7, ck_or1, ck_or2, rf_wr, ln_wr, nn_wr, rf_cp, ln_cp, nn_cp, ln_wf, nn_wf, rd_wf, nn_nw]
  try rfl))
theorem jt_119_2 (h : am_H) (d3 : am_V) (x0 x1 x2 : Int) : JJ 119 2 [(19, x0), (30, x1), (0, x2), d3] [] h = Tu_new_3 h x0 x1 x2 1 := (jj_of bk_119_2 _ _ h).trans ((ff_of bk_119_2 [(19, x0), (30, x1), (0, x2), (9, 0)] [] h).trans (by
  show (JJ 119 3 [(19, x0), (30, x1), (0, x2), (0, 1)] [] h) = _
  simp only [jt_119_3, ck_or1, ck_or2, rf_wr, ln_wr, nn_wr, rf_cp, ln_cp, nn_cp, ln_wf, nn_wf, rd_wf, nn_nw]
  try rfl))
theorem Tu_new_1_e (h : am_H) (x0 x1 x2 : Int) : Tu_new_1 h x0 x1 x2 = if 120 ≤ x2 then Tu_new_7 h x0 0 else Tu_new_3 h x0 x1 x2 1 := (ff_of bk_119_1 [(19, x0), (30, x1), (0, x2), (9, 0)] [] h).trans (by
  show (if 120 ≤ x2 then JJ 119 6 [(19, x0), (30, x1), (0, x2), (9, 0)] [] h else JJ 119 2 [(19, x0), (30, x1), (0, x2), (9, 0)] [] h) = _
  simp only [jt_119_2, jt_119_6, ck_or1, ck_or2, rf_wr, ln_wr, nn_wr, rf_cp, ln_cp, nn_cp, ln_wf, nn_wf, rd_wf, nn_nw]
  try rfl)
theorem jt_119_5 (h : am_H) (d3 : am_V) (x0 x1 x2 : Int) : JJ 119 5 [(19, x0), (30, x1), (0, x2), d3] [] h = Tu_new_1 h x0 x1 (w32 (x2 + 1)) := (jj_of bk_119_5 _ _ h).trans ((ff_of bk_119_5 [(19, x0), (30, x1), (0, x2), (9, 0)] [] h).trans (by
  show (JJ 119 1 [(19, x0), (30, x1), (0, w32 (x2 + 1)), (9, 0)] [] h) = _
  simp only [jt_119_1, ck_or1, ck_or2, rf_wr, ln_wr, nn_wr, rf_cp, ln_cp, nn_cp, ln_wf, nn_wf, rd_wf, nn_nw]
  try rfl))
theorem jt_119_4 (h : am_H) (x0 x1 x2 x3 : Int) : JJ 119 4 [(19, x0), (30, x1), (0, x2), (0, x3)] [] h = bd_ (Tu_lay h x1 x2) fun h1 _ => bd_ (Pp_reverse h1 x1 x3) fun h3 _ => ck_ (0 ≤ x0) (bd_ (Pp_orderOf h3 x1 5) fun h5 v6 => ck_ (0 ≤ (rf_ h3 x0 0)) (ck_ (0 ≤ (w32 ((w32 ((w32 (x2 * 5)) + x3)) - 1)) ∧ (w32 ((w32 ((w32 (x2 * 5)) + x3)) - 1)) < ln_ h5 (rf_ h3 x0 0)) (Tu_new_3 (wr_ h5 (rf_ h3 x0 0) (w32 ((w32 ((w32 (x2 * 5)) + x3)) - 1)) v6) x0 x1 x2 (w32 (x3 + 1))))) := (jj_of bk_119_4 _ _ h).trans ((ff_of bk_119_4 [(19, x0), (30, x1), (0, x2), (0, x3)] [] h).trans (by
  show (bd_ (CC 118 [(30, x1), (0, x2)] h) fun h1 _ => bd_ (CC 116 [(30, x1), (0, x3)] h1) fun h3 _ => ck_ (0 ≤ x0) (bd_ (CC 115 [(30, x1), (0, 5)] h3) fun h5 v6 => ck_ (0 ≤ (rf_ h3 x0 0)) (ck_ (0 ≤ (w32 ((w32 ((w32 (x2 * 5)) + x3)) - 1)) ∧ (w32 ((w32 ((w32 (x2 * 5)) + x3)) - 1)) < ln_ h5 (rf_ h3 x0 0)) (JJ 119 3 [(19, x0), (30, x1), (0, x2), (0, w32 (x3 + 1))] [] (wr_ h5 (rf_ h3 x0 0) (w32 ((w32 ((w32 (x2 * 5)) + x3)) - 1)) v6))))) = _
  simp only [cc_115, cc_116, cc_118, jt_119_3, ck_or1, ck_or2, rf_wr, ln_wr, nn_wr, rf_cp, ln_cp, nn_cp, ln_wf, nn_wf, rd_wf, nn_nw]
  try rfl))
theorem Tu_new_3_e (h : am_H) (x0 x1 x2 x3 : Int) : Tu_new_3 h x0 x1 x2 x3 = if 5 < x3 then Tu_new_1 h x0 x1 (w32 (x2 + 1)) else bd_ (Tu_lay h x1 x2) fun h1 _ => bd_ (Pp_reverse h1 x1 x3) fun h3 _ => ck_ (0 ≤ x0) (bd_ (Pp_orderOf h3 x1 5) fun h5 v6 => ck_ (0 ≤ (rf_ h3 x0 0)) (ck_ (0 ≤ (w32 ((w32 ((w32 (x2 * 5)) + x3)) - 1)) ∧ (w32 ((w32 ((w32 (x2 * 5)) + x3)) - 1)) < ln_ h5 (rf_ h3 x0 0)) (Tu_new_3 (wr_ h5 (rf_ h3 x0 0) (w32 ((w32 ((w32 (x2 * 5)) + x3)) - 1)) v6) x0 x1 x2 (w32 (x3 + 1))))) := (ff_of bk_119_3 [(19, x0), (30, x1), (0, x2), (0, x3)] [] h).trans (by
  show (if 5 < x3 then JJ 119 5 [(19, x0), (30, x1), (0, x2), (0, x3)] [] h else JJ 119 4 [(19, x0), (30, x1), (0, x2), (0, x3)] [] h) = _
  simp only [jt_119_4, jt_119_5, ck_or1, ck_or2, rf_wr, ln_wr, nn_wr, rf_cp, ln_cp, nn_cp, ln_wf, nn_wf, rd_wf, nn_nw]
  try rfl)
theorem jt_119_12 (h : am_H) (d0 d1 d2 d3 : am_V) : JJ 119 12 [d0, d1, d2, d3] [] h = some (h, 0) := (jj_of bk_119_12 _ _ h).trans (ff_of bk_119_12 [(9, 0), (9, 0), (9, 0), (9, 0)] [] h)
theorem jt_119_8 (h : am_H) (d1 d3 : am_V) (x0 x2 : Int) : JJ 119 8 [(19, x0), d1, (0, x2), d3] [] h = Tu_new_9 h x0 x2 1 := (jj_of bk_119_8 _ _ h).trans ((ff_of bk_119_8 [(19, x0), (9, 0), (0, x2), (9, 0)] [] h).trans (by
  show (JJ 119 9 [(19, x0), (9, 0), (0, x2), (0, 1)] [] h) = _
  simp only [jt_119_9, ck_or1, ck_or2, rf_wr, ln_wr, nn_wr, rf_cp, ln_cp, nn_cp, ln_wf, nn_wf, rd_wf, nn_nw]
  try rfl))
theorem Tu_new_7_e (h : am_H) (x0 x2 : Int) : Tu_new_7 h x0 x2 = if 32 ≤ x2 then some (h, 0) else Tu_new_9 h x0 x2 1 := (ff_of bk_119_7 [(19, x0), (9, 0), (0, x2), (9, 0)] [] h).trans (by
  show (if 32 ≤ x2 then JJ 119 12 [(19, x0), (9, 0), (0, x2), (9, 0)] [] h else JJ 119 8 [(19, x0), (9, 0), (0, x2), (9, 0)] [] h) = _
  simp only [jt_119_12, jt_119_8, ck_or1, ck_or2, rf_wr, ln_wr, nn_wr, rf_cp, ln_cp, nn_cp, ln_wf, nn_wf, rd_wf, nn_nw]
  try rfl)
theorem jt_119_11 (h : am_H) (d1 d3 : am_V) (x0 x2 : Int) : JJ 119 11 [(19, x0), d1, (0, x2), d3] [] h = Tu_new_7 h x0 (w32 (x2 + 1)) := (jj_of bk_119_11 _ _ h).trans ((ff_of bk_119_11 [(19, x0), (9, 0), (0, x2), (9, 0)] [] h).trans (by
  show (JJ 119 7 [(19, x0), (9, 0), (0, w32 (x2 + 1)), (9, 0)] [] h) = _
  simp only [jt_119_7, ck_or1, ck_or2, rf_wr, ln_wr, nn_wr, rf_cp, ln_cp, nn_cp, ln_wf, nn_wf, rd_wf, nn_nw]
  try rfl))
theorem jt_119_10 (h : am_H) (d1 : am_V) (x0 x2 x3 : Int) : JJ 119 10 [(19, x0), d1, (0, x2), (0, x3)] [] h = ck_ (0 ≤ x0) (bd_ (Tu_flipped h x2 x3) fun h1 v2 => ck_ (0 ≤ (rf_ h x0 1)) (ck_ (0 ≤ (w32 ((w32 ((w32 (x2 * 5)) + x3)) - 1)) ∧ (w32 ((w32 ((w32 (x2 * 5)) + x3)) - 1)) < ln_ h1 (rf_ h x0 1)) (Tu_new_9 (wr_ h1 (rf_ h x0 1) (w32 ((w32 ((w32 (x2 * 5)) + x3)) - 1)) v2) x0 x2 (w32 (x3 + 1))))) := (jj_of bk_119_10 _ _ h).trans ((ff_of bk_119_10 [(19, x0), (9, 0), (0, x2), (0, x3)] [] h).trans (by
  show (ck_ (0 ≤ x0) (bd_ (CC 117 [(0, x2), (0, x3)] h) fun h1 v2 => ck_ (0 ≤ (rf_ h x0 1)) (ck_ (0 ≤ (w32 ((w32 ((w32 (x2 * 5)) + x3)) - 1)) ∧ (w32 ((w32 ((w32 (x2 * 5)) + x3)) - 1)) < ln_ h1 (rf_ h x0 1)) (JJ 119 9 [(19, x0), (9, 0), (0, x2), (0, w32 (x3 + 1))] [] (wr_ h1 (rf_ h x0 1) (w32 ((w32 ((w32 (x2 * 5)) + x3)) - 1)) v2))))) = _
  simp only [cc_117, jt_119_9, ck_or1, ck_or2, rf_wr, ln_wr, nn_wr, rf_cp, ln_cp, nn_cp, ln_wf, nn_wf, rd_wf, nn_nw]
  try rfl))
theorem Tu_new_9_e (h : am_H) (x0 x2 x3 : Int) : Tu_new_9 h x0 x2 x3 = if 5 < x3 then Tu_new_7 h x0 (w32 (x2 + 1)) else ck_ (0 ≤ x0) (bd_ (Tu_flipped h x2 x3) fun h1 v2 => ck_ (0 ≤ (rf_ h x0 1)) (ck_ (0 ≤ (w32 ((w32 ((w32 (x2 * 5)) + x3)) - 1)) ∧ (w32 ((w32 ((w32 (x2 * 5)) + x3)) - 1)) < ln_ h1 (rf_ h x0 1)) (Tu_new_9 (wr_ h1 (rf_ h x0 1) (w32 ((w32 ((w32 (x2 * 5)) + x3)) - 1)) v2) x0 x2 (w32 (x3 + 1))))) := (ff_of bk_119_9 [(19, x0), (9, 0), (0, x2), (0, x3)] [] h).trans (by
  show (if 5 < x3 then JJ 119 11 [(19, x0), (9, 0), (0, x2), (0, x3)] [] h else JJ 119 10 [(19, x0), (9, 0), (0, x2), (0, x3)] [] h) = _
  simp only [jt_119_10, jt_119_11, ck_or1, ck_or2, rf_wr, ln_wr, nn_wr, rf_cp, ln_cp, nn_cp, ln_wf, nn_wf, rd_wf, nn_nw]
  try rfl)
theorem cc_119 (h : am_H) (x0 : Int) : CC 119 [(19, x0)] h = Tu_new h x0 := cc_of pk_119 _ h
theorem pk_120 : am_prog 120 = some cd_120 := rfl
theorem bk_120_0 : bk_ am_prog 120 0 = some ([true, true], (bl_120_0, 1)) := bk_of pk_120 rfl
theorem bk_120_1 : bk_ am_prog 120 1 = some ([true, true], (bl_120_1, 9999)) := bk_of pk_120 rfl
set_option maxRecDepth 20000 in
theorem jt_120_1 (h : am_H) (x0 x1 : Int) : JJ 120 1 [(20, x0), (20, x1)] [] h = ck_ (0 ≤ x1) (ck_ (0 ≤ x0) (ck_ (0 ≤ (rf_ h x1 9) ∧ 0 ≤ (rf_ h x0 9)) (ck_ (0 ≤ (0 : Int) ∧ 0 ≤ (0 : Int) ∧ 0 ≤ (20 : Int) ∧ (0 : Int) + (20 : Int) ≤ ln_ h (rf_ h x1 9) ∧ (0 : Int) + (20 : Int) ≤ ln_ h (rf_ h x0 9)) (ck_ (0 ≤ x1) (ck_ (0 ≤ x0) (ck_ (0 ≤ (rf_ h x1 10) ∧ 0 ≤ (rf_ h x0 10)) (ck_ (0 ≤ (0 : Int) ∧ 0 ≤ (0 : Int) ∧ 0 ≤ (20 : Int) ∧ (0 : Int) + (20 : Int) ≤ ln_ h (rf_ h x1 10) ∧ (0 : Int) + (20 : Int) ≤ ln_ h (rf_ h x0 10)) (ck_ (0 ≤ x1) (ck_ (0 ≤ x0) (ck_ (0 ≤ (rf_ h x1 11) ∧ 0 ≤ (rf_ h x0 11)) (ck_ (0 ≤ (0 : Int) ∧ 0 ≤ (0 : Int) ∧ 0 ≤ (20 : Int) ∧ (0 : Int) + (20 : Int) ≤ ln_ h (rf_ h x1 11) ∧ (0 : Int) + (20 : Int) ≤ ln_ h (rf_ h x0 11)) (ck_ (0 ≤ x1) (ck_ (0 ≤ x0) (ck_ (0 ≤ (rf_ h x1 12) ∧ 0 ≤ (rf_ h x0 12)) (ck_ (0 ≤ (0 : Int) ∧ 0 ≤ (0 : Int) ∧ 0 ≤ (20 : Int) ∧ (0 : Int) + (20 : Int) ≤ ln_ h (rf_ h x1 12) ∧ (0 : Int) + (20 : Int) ≤ ln_ h (rf_ h x0 12)) (some (cp_ (cp_ (cp_ (cp_ h (rf_ h x1 9) (0 : Int) (rf_ h x0 9) (0 : Int) (20 : Int)) (rf_ h x1 10) (0 : Int) (rf_ h x0 10) (0 : Int) (20 : Int)) (rf_ h x1 11) (0 : Int) (rf_ h x0 11) (0 : Int) (20 : Int)) (rf_ h x1 12) (0 : Int) (rf_ h x0 12) (0 : Int) (20 : Int), 0))))))))))))))))) := (jj_of bk_120_1 _ _ h).trans (ff_of bk_120_1 [(20, x0), (20, x1)] [] h)
set_option maxRecDepth 20000 in
theorem Wo_copy_e (h : am_H) (x0 x1 : Int) : Wo_copy h x0 x1 = ck_ (0 ≤ x1) (ck_ (0 ≤ x0) (ck_ (0 ≤ x1) (ck_ (0 ≤ x0) (ck_ (0 ≤ x1) (ck_ (0 ≤ x0) (ck_ (0 ≤ x1) (ck_ (0 ≤ x0) (ck_ (0 ≤ x1) (ck_ (0 ≤ x0) (ck_ (0 ≤ x1) (ck_ (0 ≤ x0) (ck_ (0 ≤ x1) (ck_ (0 ≤ x0) (ck_ (0 ≤ (rf_ h x1 6) ∧ 0 ≤ (rf_ h x0 6)) (ck_ (0 ≤ (0 : Int) ∧ 0 ≤ (0 : Int) ∧ 0 ≤ (4 : Int) ∧ (0 : Int) + (4 : Int) ≤ ln_ h (rf_ h x1 6) ∧ (0 : Int) + (4 : Int) ≤ ln_ h (rf_ h x0 6)) (ck_ (0 ≤ x1) (ck_ (0 ≤ x0) (ck_ (0 ≤ (rf_ h x1 7) ∧ 0 ≤ (rf_ h x0 7)) (ck_ (0 ≤ (0 : Int) ∧ 0 ≤ (0 : Int) ∧ 0 ≤ (4 : Int) ∧ (0 : Int) + (4 : Int) ≤ ln_ h (rf_ h x1 7) ∧ (0 : Int) + (4 : Int) ≤ ln_ h (rf_ h x0 7)) (ck_ (0 ≤ x1) (ck_ (0 ≤ x0) (ck_ (0 ≤ (rf_ h x1 8) ∧ 0 ≤ (rf_ h x0 8)) (ck_ (0 ≤ (0 : Int) ∧ 0 ≤ (0 : Int) ∧ 0 ≤ (4 : Int) ∧ (0 : Int) + (4 : Int) ≤ ln_ h (rf_ h x1 8) ∧ (0 : Int) + (4 : Int) ≤ ln_ h (rf_ h x0 8)) (ck_ (0 ≤ x1) (ck_ (0 ≤ x0) (ck_ (0 ≤ (rf_ h x1 9) ∧ 0 ≤ (rf_ h x0 9)) (ck_ (0 ≤ (0 : Int) ∧ 0 ≤ (0 : Int) ∧ 0 ≤ (20 : Int) ∧ (0 : Int) + (20 : Int) ≤ ln_ h (rf_ h x1 9) ∧ (0 : Int) + (20 : Int) ≤ ln_ h (rf_ h x0 9)) (ck_ (0 ≤ x1) (ck_ (0 ≤ x0) (ck_ (0 ≤ (rf_ h x1 10) ∧ 0 ≤ (rf_ h x0 10)) (ck_ (0 ≤ (0 : Int) ∧ 0 ≤ (0 : Int) ∧ 0 ≤ (20 : Int) ∧ (0 : Int) + (20 : Int) ≤ ln_ h (rf_ h x1 10) ∧ (0 : Int) + (20 : Int) ≤ ln_ h (rf_ h x0 10)) (ck_ (0 ≤ x1) (ck_ (0 ≤ x0) (ck_ (0 ≤ (rf_ h x1 11) ∧ 0 ≤ (rf_ h x0 11)) (ck_ (0 ≤ (0 : Int) ∧ 0 ≤ (0 : Int) ∧ 0 ≤ (20 : Int) ∧ (0 : Int) + (20 : Int) ≤ ln_ h (rf_ h x1 11) ∧ (0 : Int) + (20 : Int) ≤ ln_ h (rf_ h x0 11)) (ck_ (0 ≤ x1) (ck_ (0 ≤ x0) (ck_ (0 ≤ (rf_ h x1 12) ∧ 0 ≤ (rf_ h x0 12)) (ck_ (0 ≤ (0 : Int) ∧ 0 ≤ (0 : Int) ∧ 0 ≤ (20 : Int) ∧ (0 : Int) + (20 : Int) ≤ ln_ h (rf_ h x1 12) ∧ (0 : Int) + (20 : Int) ≤ ln_ h (rf_ h x0 12)) (some (cp_ (cp_ (cp_ (cp_ (cp_ (cp_ (cp_ (wr_ (wr_ (wr_ (wr_ (wr_ (wr_ h x0 0 (rd_ h x1 0)) x0 1 (rd_ (wr_ h x0 0 (rd_ h x1 0)) x1 1)) x0 2 (rd_ (wr_ (wr_ h x0 0 (rd_ h x1 0)) x0 1 (rd_ (wr_ h x0 0 (rd_ h x1 0)) x1 1)) x1 2)) x0 3 (rd_ (wr_ (wr_ (wr_ h x0 0 (rd_ h x1 0)) x0 1 (rd_ (wr_ h x0 0 (rd_ h x1 0)) x1 1)) x0 2 (rd_ (wr_ (wr_ h x0 0 (rd_ h x1 0)) x0 1 (rd_ (wr_ h x0 0 (rd_ h x1 0)) x1 1)) x1 2)) x1 3)) x0 4 (rd_ (wr_ (wr_ (wr_ (wr_ h x0 0 (rd_ h x1 0)) x0 1 (rd_ (wr_ h x0 0 (rd_ h x1 0)) x1 1)) x0 2 (rd_ (wr_ (wr_ h x0 0 (rd_ h x1 0)) x0 1 (rd_ (wr_ h x0 0 (rd_ h x1 0)) x1 1)) x1 2)) x0 3 (rd_ (wr_ (wr_ (wr_ h x0 0 (rd_ h x1 0)) x0 1 (rd_ (wr_ h x0 0 (rd_ h x1 0)) x1 1)) x0 2 (rd_ (wr_ (wr_ h x0 0 (rd_ h x1 0)) x0 1 (rd_ (wr_ h x0 0 (rd_ h x1 0)) x1 1)) x1 2)) x1 3)) x1 4)) x0 5 (rd_ (wr_ (wr_ (wr_ (wr_ (wr_ h x0 0 (rd_ h x1 0)) x0 1 (rd_ (wr_ h x0 0 (rd_ h x1 0)) x1 1)) x0 2 (rd_ (wr_ (wr_ h x0 0 (rd_ h x1 0)) x0 1 (rd_ (wr_ h x0 0 (rd_ h x1 0)) x1 1)) x1 2)) x0 3 (rd_ (wr_ (wr_ (wr_ h x0 0 (rd_ h x1 0)) x0 1 (rd_ (wr_ h x0 0 (rd_ h x1 0)) x1 1)) x0 2 (rd_ (wr_ (wr_ h x0 0 (rd_ h x1 0)) x0 1 (rd_ (wr_ h x0 0 (rd_ h x1 0)) x1 1)) x1 2)) x1 3)) x0 4 (rd_ (wr_ (wr_ (wr_ (wr_ h x0 0 (rd_ h x1 0)) x0 1 (rd_ (wr_ h x0 0 (rd_ h x1 0)) x1 1)) x0 2 (rd_ (wr_ (wr_ h x0 0 (rd_ h x1 0)) x0 1 (rd_ (wr_ h x0 0 (rd_ h x1 0)) x1 1)) x1 2)) x0 3 (rd_ (wr_ (wr_ (wr_ h x0 0 (rd_ h x1 0)) x0 1 (rd_ (wr_ h x0 0 (rd_ h x1 0)) x1 1)) x0 2 (rd_ (wr_ (wr_ h x0 0 (rd_ h x1 0)) x0 1 (rd_ (wr_ h x0 0 (rd_ h x1 0)) x1 1)) x1 2)) x1 3)) x1 4)) x1 5)) (rf_ h x1 6) (0 : Int) (rf_ h x0 6) (0 : Int) (4 : Int)) (rf_ h x1 7) (0 : Int) (rf_ h x0 7) (0 : Int) (4 : Int)) (rf_ h x1 8) (0 : Int) (rf_ h x0 8) (0 : Int) (4 : Int)) (rf_ h x1 9) (0 : Int) (rf_ h x0 9) (0 : Int) (20 : Int)) (rf_ h x1 10) (0 : Int) (rf_ h x0 10) (0 : Int) (20 : Int)) (rf_ h x1 11) (0 : Int) (rf_ h x0 11) (0 : Int) (20 : Int)) (rf_ h x1 12) (0 : Int) (rf_ h x0 12) (0 : Int) (20 : Int), 0))))))))))))))))))))))))))))))))))))))))) := (ff_of bk_120_0 [(20, x0), (20, x1)] [] h).trans (by
  show (ck_ (0 ≤ x1) (ck_ (0 ≤ x0) (ck_ (0 ≤ x1) (ck_ (0 ≤ x0) (ck_ (0 ≤ x1) (ck_ (0 ≤ x0) (ck_ (0 ≤ x1) (ck_ (0 ≤ x0) (ck_ (0 ≤ x1) (ck_ (0 ≤ x0) (ck_ (0 ≤ x1) (ck_ (0 ≤ x0) (ck_ (0 ≤ x1) (ck_ (0 ≤ x0) (ck_ (0 ≤ (rf_ h x1 6) ∧ 0 ≤ (rf_ h x0 6)) (ck_ (0 ≤ (0 : Int) ∧ 0 ≤ (0 : Int) ∧ 0 ≤ (4 : Int) ∧ (0 : Int) + (4 : Int) ≤ ln_ h (rf_ h x1 6) ∧ (0 : Int) + (4 : Int) ≤ ln_ h (rf_ h x0 6)) (ck_ (0 ≤ x1) (ck_ (0 ≤ x0) (ck_ (0 ≤ (rf_ h x1 7) ∧ 0 ≤ (rf_ h x0 7)) (ck_ (0 ≤ (0 : Int) ∧ 0 ≤ (0 : Int) ∧ 0 ≤ (4 : Int) ∧ (0 : Int) + (4 : Int) ≤ ln_ h (rf_ h x1 7) ∧ (0 : Int) + (4 : Int) ≤ ln_ h (rf_ h x0 7)) (ck_ (0 ≤ x1) (ck_ (0 ≤ x0) (ck_ (0 ≤ (rf_ h x1 8) ∧ 0 ≤ (rf_ h x0 8)) (ck_ (0 ≤ (0 : Int) ∧ 0 ≤ (0 : Int) ∧ 0 ≤ (4 : Int) ∧ (0 : Int) + (4 : Int) ≤ ln_ h (rf_ h x1 8) ∧ (0 : Int) + (4 : Int) ≤ ln_ h (rf_ h x0 8)) (JJ 120 1 [(20, x0), (20, x1)] [] (cp_ (cp_ (cp_ (wr_ (wr_ (wr_ (wr_ (wr_ (wr_ h x0 0 (rd_ h x1 0)) x0 1 (rd_ (wr_ h x0 0 (rd_ h x1 0)) x1 1)) x0 2 (rd_ (wr_ (wr_ h x0 0 (rd_ h x1 0)) x0 1 (rd_ (wr_ h x0 0 (rd_ h x1 0)) x1 1)) x1 2)) x0 3 (rd_ (wr_ (wr_ (wr_ h x0 0 (rd_ h x1 0)) x0 1 (rd_ (wr_ h x0 0 (rd_ h x1 0)) x1 1)) x0 2 (rd_ (wr_ (wr_ h x0 0 (rd_ h x1 0)) x0 1 (rd_ (wr_ h x0 0 (rd_ h x1 0)) x1 1)) x1 2)) x1 3)) x0 4 (rd_ (wr_ (wr_ (wr_ (wr_ h x0 0 (rd_ h x1 0)) x0 1 (rd_ (wr_ h x0 0 (rd_ h x1 0)) x1 1)) x0 2 (rd_ (wr_ (wr_ h x0 0 (rd_ h x1 0)) x0 1 (rd_ (wr_ h x0 0 (rd_ h x1 0)) x1 1)) x1 2)) x0 3 (rd_ (wr_ (wr_ (wr_ h x0 0 (rd_ h x1 0)) x0 1 (rd_ (wr_ h x0 0 (rd_ h x1 0)) x1 1)) x0 2 (rd_ (wr_ (wr_ h x0 0 (rd_ h x1 0)) x0 1 (rd_ (wr_ h x0 0 (rd_ h x1 0)) x1 1)) x1 2)) x1 3)) x1 4)) x0 5 (rd_ (wr_ (wr_ (wr_ (wr_ (wr_ h x0 0 (rd_ h x1 0)) x0 1 (rd_ (wr_ h x0 0 (rd_ h x1 0)) x1 1)) x0 2 (rd_ (wr_ (wr_ h x0 0 (rd_ h x1 0)) x0 1 (rd_ (wr_ h x0 0 (rd_ h x1 0)) x1 1)) x1 2)) x0 3 (rd_ (wr_ (wr_ (wr_ h x0 0 (rd_ h x1 0)) x0 1 (rd_ (wr_ h x0 0 (rd_ h x1 0)) x1 1)) x0 2 (rd_ (wr_ (wr_ h x0 0 (rd_ h x1 0)) x0 1 (rd_ (wr_ h x0 0 (rd_ h x1 0)) x1 1)) x1 2)) x1 3)) x0 4 (rd_ (wr_ (wr_ (wr_ (wr_ h x0 0 (rd_ h x1 0)) x0 1 (rd_ (wr_ h x0 0 (rd_ h x1 0)) x1 1)) x0 2 (rd_ (wr_ (wr_ h x0 0 (rd_ h x1 0)) x0 1 (rd_ (wr_ h x0 0 (rd_ h x1 0)) x1 1)) x1 2)) x0 3 (rd_ (wr_ (wr_ (wr_ h x0 0 (rd_ h x1 0)) x0 1 (rd_ (wr_ h x0 0 (rd_ h x1 0)) x1 1)) x0 2 (rd_ (wr_ (wr_ h x0 0 (rd_ h x1 0)) x0 1 (rd_ (wr_ h x0 0 (rd_ h x1 0)) x1 1)) x1 2)) x1 3)) x1 4)) x1 5)) (rf_ h x1 6) (0 : Int) (rf_ h x0 6) (0 : Int) (4 : Int)) (rf_ h x1 7) (0 : Int) (rf_ h x0 7) (0 : Int) (4 : Int)) (rf_ h x1 8) (0 : Int) (rf_ h x0 8) (0 : Int) (4 : Int))))))))))))))))))))))))))) = _
  simp only [jt_120_1, ck_or1, ck_or2, rf_wr, ln_wr, nn_wr, rf_cp, ln_cp, nn_cp, ln_wf, nn_wf, rd_wf, nn_nw]
  try rfl)
theorem cc_120 (h : am_H) (x0 x1 : Int) : CC 120 [(20, x0), (20, x1)] h = Wo_copy h x0 x1 := cc_of pk_120 _ h
theorem pk_121 : am_prog 121 = some cd_121 := rfl
theorem bk_121_0 : bk_ am_prog 121 0 = some ([true, true, true, false], (bl_121_0, 9999)) := bk_of pk_121 rfl
theorem bk_121_1 : bk_ am_prog 121 1 = some ([false, false, false, false], (bl_121_1, 9999)) := bk_of pk_121 rfl
theorem bk_121_2 : bk_ am_prog 121 2 = some ([true, false, false, true], (bl_121_2, 3)) := bk_of pk_121 rfl
theorem bk_121_3 : bk_ am_prog 121 3 = some ([false, false, false, false], (bl_121_3, 9999)) := bk_of pk_121 rfl
theorem jt_121_3 (h : am_H) (d0 d1 d2 d3 : am_V) (s0 : Int) : JJ 121 3 [d0, d1, d2, d3] [(0, s0)] h = some (h, s0) := (jj_of bk_121_3 _ _ h).trans (ff_of bk_121_3 [(9, 0), (9, 0), (9, 0), (9, 0)] [(0, s0)] h)
theorem jt_121_2 (h : am_H) (d1 d2 : am_V) (x0 x3 : Int) : JJ 121 2 [(20, x0), d1, d2, (0, x3)] [] h = ck_ (0 ≤ x0) (ck_ (0 ≤ (rf_ h x0 11)) (ck_ (0 ≤ x3 ∧ x3 < ln_ h (rf_ h x0 11)) (some (h, rd_ h (rf_ h x0 11) x3)))) := (jj_of bk_121_2 _ _ h).trans ((ff_of bk_121_2 [(20, x0), (9, 0), (9, 0), (0, x3)] [] h).trans (by
  show (ck_ (0 ≤ x0) (ck_ (0 ≤ (rf_ h x0 11)) (ck_ (0 ≤ x3 ∧ x3 < ln_ h (rf_ h x0 11)) (JJ 121 3 [(20, x0), (9, 0), (9, 0), (0, x3)] [(0, rd_ h (rf_ h x0 11) x3)] h)))) = _
  simp only [jt_121_3, ck_or1, ck_or2, rf_wr, ln_wr, nn_wr, rf_cp, ln_cp, nn_cp, ln_wf, nn_wf, rd_wf, nn_nw]
  try rfl))
theorem jt_121_1 (h : am_H) (d0 d1 d2 d3 : am_V) : JJ 121 1 [d0, d1, d2, d3] [] h = some (h, 0) := (jj_of bk_121_1 _ _ h).trans ((ff_of bk_121_1 [(9, 0), (9, 0), (9, 0), (9, 0)] [] h).trans (by
  show (JJ 121 3 [(9, 0), (9, 0), (9, 0), (9, 0)] [(0, 0)] h) = _
  simp only [jt_121_3, ck_or1, ck_or2, rf_wr, ln_wr, nn_wr, rf_cp, ln_cp, nn_cp, ln_wf, nn_wf, rd_wf, nn_nw]
  try rfl))
theorem Wo_faceAt_e (h : am_H) (x0 x1 x2 : Int) : Wo_faceAt h x0 x1 x2 = ck_ (0 ≤ x0) (bd_ (Wo_plateAt h x0 x1 x2) fun h1 v2 => if 0 ≤ v2 then ck_ (0 ≤ x0) (ck_ (0 ≤ (rf_ h1 x0 11)) (ck_ (0 ≤ v2 ∧ v2 < ln_ h1 (rf_ h1 x0 11)) (some (h1, rd_ h1 (rf_ h1 x0 11) v2)))) else some (h1, 0)) := (ff_of bk_121_0 [(20, x0), (0, x1), (0, x2), (9, 0)] [] h).trans (by
  show (ck_ (0 ≤ x0) (bd_ (CC 55 [(20, x0), (0, x1), (0, x2)] h) fun h1 v2 => if 0 ≤ v2 then JJ 121 2 [(20, x0), (0, x1), (0, x2), (0, v2)] [] h1 else JJ 121 1 [(20, x0), (0, x1), (0, x2), (0, v2)] [] h1)) = _
  simp only [cc_55, jt_121_1, jt_121_2, ck_or1, ck_or2, rf_wr, ln_wr, nn_wr, rf_cp, ln_cp, nn_cp, ln_wf, nn_wf, rd_wf, nn_nw]
  try rfl)
theorem cc_121 (h : am_H) (x0 x1 x2 : Int) : CC 121 [(20, x0), (0, x1), (0, x2)] h = Wo_faceAt h x0 x1 x2 := cc_of pk_121 _ h
theorem pk_122 : am_prog 122 = some cd_122 := rfl
theorem bk_122_0 : bk_ am_prog 122 0 = some ([true, true, true, false, false], (bl_122_0, 1)) := bk_of pk_122 rfl
theorem bk_122_1 : bk_ am_prog 122 1 = some ([true, true, true, true, true], (bl_122_1, 9999)) := bk_of pk_122 rfl
theorem bk_122_2 : bk_ am_prog 122 2 = some ([true, true, true, true, true], (bl_122_2, 9999)) := bk_of pk_122 rfl
theorem bk_122_3 : bk_ am_prog 122 3 = some ([true, true, true, true, true], (bl_122_3, 4)) := bk_of pk_122 rfl
theorem bk_122_4 : bk_ am_prog 122 4 = some ([true, true, true, true, true], (bl_122_4, 9999)) := bk_of pk_122 rfl
theorem bk_122_5 : bk_ am_prog 122 5 = some ([false, false, false, true, false], (bl_122_5, 9999)) := bk_of pk_122 rfl
theorem jt_122_1 (h : am_H) (x0 x1 x2 x3 x4 : Int) : JJ 122 1 [(20, x0), (0, x1), (0, x2), (0, x3), (0, x4)] [] h = Wo_rankAt_1 h x0 x1 x2 x3 x4 := jj_of bk_122_1 _ _ h
theorem Wo_rankAt_e (h : am_H) (x0 x1 x2 : Int) : Wo_rankAt h x0 x1 x2 = Wo_rankAt_1 h x0 x1 x2 0 0 := (ff_of bk_122_0 [(20, x0), (0, x1), (0, x2), (9, 0), (9, 0)] [] h).trans (by
  show (JJ 122 1 [(20, x0), (0, x1), (0, x2), (0, 0), (0, 0)] [] h) = _
  simp only [jt_122_1, ck_or1, ck_or2, rf_wr, ln_wr, nn_wr, rf_cp, ln_cp, nn_cp, ln_wf, nn_wf, rd_wf, nn_nw]
  try rfl)
theorem jt_122_5 (h : am_H) (d0 d1 d2 d4 : am_V) (x3 : Int) : JJ 122 5 [d0, d1, d2, (0, x3), d4] [] h = some (h, x3) := (jj_of bk_122_5 _ _ h).trans (ff_of bk_122_5 [(9, 0), (9, 0), (9, 0), (0, x3), (9, 0)] [] h)
theorem jt_122_4 (h : am_H) (x0 x1 x2 x3 x4 : Int) : JJ 122 4 [(20, x0), (0, x1), (0, x2), (0, x3), (0, x4)] [] h = Wo_rankAt_1 h x0 x1 x2 x3 (w32 (x4 + 1)) := (jj_of bk_122_4 _ _ h).trans ((ff_of bk_122_4 [(20, x0), (0, x1), (0, x2), (0, x3), (0, x4)] [] h).trans (by
  show (JJ 122 1 [(20, x0), (0, x1), (0, x2), (0, x3), (0, w32 (x4 + 1))] [] h) = _
  simp only [jt_122_1, ck_or1, ck_or2, rf_wr, ln_wr, nn_wr, rf_cp, ln_cp, nn_cp, ln_wf, nn_wf, rd_wf, nn_nw]
  try rfl))
theorem jt_122_3 (h : am_H) (x0 x1 x2 x3 x4 : Int) : JJ 122 3 [(20, x0), (0, x1), (0, x2), (0, x3), (0, x4)] [] h = Wo_rankAt_1 h x0 x1 x2 (w32 (x3 + 1)) (w32 (x4 + 1)) := (jj_of bk_122_3 _ _ h).trans ((ff_of bk_122_3 [(20, x0), (0, x1), (0, x2), (0, x3), (0, x4)] [] h).trans (by
  show (JJ 122 4 [(20, x0), (0, x1), (0, x2), (0, w32 (x3 + 1)), (0, x4)] [] h) = _
  simp only [jt_122_4, ck_or1, ck_or2, rf_wr, ln_wr, nn_wr, rf_cp, ln_cp, nn_cp, ln_wf, nn_wf, rd_wf, nn_nw]
  try rfl))
theorem jt_122_2 (h : am_H) (x0 x1 x2 x3 x4 : Int) : JJ 122 2 [(20, x0), (0, x1), (0, x2), (0, x3), (0, x4)] [] h = ck_ (0 ≤ x0) (bd_ (Wo_sizeAt h x0 x1 x4) fun h1 v2 => ck_ (0 ≤ x0) (bd_ (Wo_sizeAt h1 x0 x1 x2) fun h3 v4 => if v4 ≤ v2 then Wo_rankAt_1 h3 x0 x1 x2 x3 (w32 (x4 + 1)) else Wo_rankAt_1 h3 x0 x1 x2 (w32 (x3 + 1)) (w32 (x4 + 1)))) := (jj_of bk_122_2 _ _ h).trans ((ff_of bk_122_2 [(20, x0), (0, x1), (0, x2), (0, x3), (0, x4)] [] h).trans (by
  show (ck_ (0 ≤ x0) (bd_ (CC 56 [(20, x0), (0, x1), (0, x4)] h) fun h1 v2 => ck_ (0 ≤ x0) (bd_ (CC 56 [(20, x0), (0, x1), (0, x2)] h1) fun h3 v4 => if v4 ≤ v2 then JJ 122 4 [(20, x0), (0, x1), (0, x2), (0, x3), (0, x4)] [] h3 else JJ 122 3 [(20, x0), (0, x1), (0, x2), (0, x3), (0, x4)] [] h3))) = _
  simp only [cc_56, jt_122_3, jt_122_4, ck_or1, ck_or2, rf_wr, ln_wr, nn_wr, rf_cp, ln_cp, nn_cp, ln_wf, nn_wf, rd_wf, nn_nw]
  try rfl))
theorem Wo_rankAt_1_e (h : am_H) (x0 x1 x2 x3 x4 : Int) : Wo_rankAt_1 h x0 x1 x2 x3 x4 = ck_ (0 ≤ x0) (ck_ (0 ≤ (rf_ h x0 6)) (ck_ (0 ≤ x1 ∧ x1 < ln_ h (rf_ h x0 6)) (if (rd_ h (rf_ h x0 6) x1) ≤ x4 then some (h, x3) else ck_ (0 ≤ x0) (bd_ (Wo_sizeAt h x0 x1 x4) fun h1 v2 => ck_ (0 ≤ x0) (bd_ (Wo_sizeAt h1 x0 x1 x2) fun h3 v4 => if v4 ≤ v2 then Wo_rankAt_1 h3 x0 x1 x2 x3 (w32 (x4 + 1)) else Wo_rankAt_1 h3 x0 x1 x2 (w32 (x3 + 1)) (w32 (x4 + 1))))))) := (ff_of bk_122_1 [(20, x0), (0, x1), (0, x2), (0, x3), (0, x4)] [] h).trans (by
  show (ck_ (0 ≤ x0) (ck_ (0 ≤ (rf_ h x0 6)) (ck_ (0 ≤ x1 ∧ x1 < ln_ h (rf_ h x0 6)) (if (rd_ h (rf_ h x0 6) x1) ≤ x4 then JJ 122 5 [(20, x0), (0, x1), (0, x2), (0, x3), (0, x4)] [] h else JJ 122 2 [(20, x0), (0, x1), (0, x2), (0, x3), (0, x4)] [] h)))) = _
  simp only [jt_122_2, jt_122_5, ck_or1, ck_or2, rf_wr, ln_wr, nn_wr, rf_cp, ln_cp, nn_cp, ln_wf, nn_wf, rd_wf, nn_nw]
  try rfl)
theorem cc_122 (h : am_H) (x0 x1 x2 : Int) : CC 122 [(20, x0), (0, x1), (0, x2)] h = Wo_rankAt h x0 x1 x2 := cc_of pk_122 _ h
theorem pk_123 : am_prog 123 = some cd_123 := rfl
theorem bk_123_0 : bk_ am_prog 123 0 = some ([true, true, true, false], (bl_123_0, 1)) := bk_of pk_123 rfl
theorem bk_123_1 : bk_ am_prog 123 1 = some ([true, true, true, true], (bl_123_1, 9999)) := bk_of pk_123 rfl
theorem bk_123_2 : bk_ am_prog 123 2 = some ([true, true, true, true], (bl_123_2, 9999)) := bk_of pk_123 rfl
theorem bk_123_3 : bk_ am_prog 123 3 = some ([false, false, false, true], (bl_123_3, 9999)) := bk_of pk_123 rfl
theorem bk_123_4 : bk_ am_prog 123 4 = some ([true, true, true, true], (bl_123_4, 9999)) := bk_of pk_123 rfl
theorem bk_123_5 : bk_ am_prog 123 5 = some ([false, false, false, false], (bl_123_5, 9999)) := bk_of pk_123 rfl
theorem jt_123_1 (h : am_H) (x0 x1 x2 x3 : Int) : JJ 123 1 [(20, x0), (0, x1), (0, x2), (0, x3)] [] h = Wo_placeOfRank_1 h x0 x1 x2 x3 := jj_of bk_123_1 _ _ h
theorem Wo_placeOfRank_e (h : am_H) (x0 x1 x2 : Int) : Wo_placeOfRank h x0 x1 x2 = Wo_placeOfRank_1 h x0 x1 x2 0 := (ff_of bk_123_0 [(20, x0), (0, x1), (0, x2), (9, 0)] [] h).trans (by
  show (JJ 123 1 [(20, x0), (0, x1), (0, x2), (0, 0)] [] h) = _
  simp only [jt_123_1, ck_or1, ck_or2, rf_wr, ln_wr, nn_wr, rf_cp, ln_cp, nn_cp, ln_wf, nn_wf, rd_wf, nn_nw]
  try rfl)
theorem jt_123_5 (h : am_H) (d0 d1 d2 d3 : am_V) : JJ 123 5 [d0, d1, d2, d3] [] h = some (h, 0) := (jj_of bk_123_5 _ _ h).trans (ff_of bk_123_5 [(9, 0), (9, 0), (9, 0), (9, 0)] [] h)
theorem jt_123_4 (h : am_H) (x0 x1 x2 x3 : Int) : JJ 123 4 [(20, x0), (0, x1), (0, x2), (0, x3)] [] h = Wo_placeOfRank_1 h x0 x1 x2 (w32 (x3 + 1)) := (jj_of bk_123_4 _ _ h).trans ((ff_of bk_123_4 [(20, x0), (0, x1), (0, x2), (0, x3)] [] h).trans (by
  show (JJ 123 1 [(20, x0), (0, x1), (0, x2), (0, w32 (x3 + 1))] [] h) = _
  simp only [jt_123_1, ck_or1, ck_or2, rf_wr, ln_wr, nn_wr, rf_cp, ln_cp, nn_cp, ln_wf, nn_wf, rd_wf, nn_nw]
  try rfl))
theorem jt_123_3 (h : am_H) (d0 d1 d2 : am_V) (x3 : Int) : JJ 123 3 [d0, d1, d2, (0, x3)] [] h = some (h, x3) := (jj_of bk_123_3 _ _ h).trans (ff_of bk_123_3 [(9, 0), (9, 0), (9, 0), (0, x3)] [] h)
theorem jt_123_2 (h : am_H) (x0 x1 x2 x3 : Int) : JJ 123 2 [(20, x0), (0, x1), (0, x2), (0, x3)] [] h = ck_ (0 ≤ x0) (bd_ (Wo_rankAt h x0 x1 x3) fun h1 v2 => if v2 ≠ x2 then Wo_placeOfRank_1 h1 x0 x1 x2 (w32 (x3 + 1)) else some (h1, x3)) := (jj_of bk_123_2 _ _ h).trans ((ff_of bk_123_2 [(20, x0), (0, x1), (0, x2), (0, x3)] [] h).trans (by
  show (ck_ (0 ≤ x0) (bd_ (CC 122 [(20, x0), (0, x1), (0, x3)] h) fun h1 v2 => if v2 ≠ x2 then JJ 123 4 [(20, x0), (0, x1), (0, x2), (0, x3)] [] h1 else JJ 123 3 [(20, x0), (0, x1), (0, x2), (0, x3)] [] h1)) = _
  simp only [cc_122, jt_123_3, jt_123_4, ck_or1, ck_or2, rf_wr, ln_wr, nn_wr, rf_cp, ln_cp, nn_cp, ln_wf, nn_wf, rd_wf, nn_nw]
  try rfl))
theorem Wo_placeOfRank_1_e (h : am_H) (x0 x1 x2 x3 : Int) : Wo_placeOfRank_1 h x0 x1 x2 x3 = ck_ (0 ≤ x0) (ck_ (0 ≤ (rf_ h x0 6)) (ck_ (0 ≤ x1 ∧ x1 < ln_ h (rf_ h x0 6)) (if (rd_ h (rf_ h x0 6) x1) ≤ x3 then some (h, 0) else ck_ (0 ≤ x0) (bd_ (Wo_rankAt h x0 x1 x3) fun h1 v2 => if v2 ≠ x2 then Wo_placeOfRank_1 h1 x0 x1 x2 (w32 (x3 + 1)) else some (h1, x3))))) := (ff_of bk_123_1 [(20, x0), (0, x1), (0, x2), (0, x3)] [] h).trans (by
  show (ck_ (0 ≤ x0) (ck_ (0 ≤ (rf_ h x0 6)) (ck_ (0 ≤ x1 ∧ x1 < ln_ h (rf_ h x0 6)) (if (rd_ h (rf_ h x0 6) x1) ≤ x3 then JJ 123 5 [(20, x0), (0, x1), (0, x2), (0, x3)] [] h else JJ 123 2 [(20, x0), (0, x1), (0, x2), (0, x3)] [] h)))) = _
  simp only [jt_123_2, jt_123_5, ck_or1, ck_or2, rf_wr, ln_wr, nn_wr, rf_cp, ln_cp, nn_cp, ln_wf, nn_wf, rd_wf, nn_nw]
  try rfl)
theorem cc_123 (h : am_H) (x0 x1 x2 : Int) : CC 123 [(20, x0), (0, x1), (0, x2)] h = Wo_placeOfRank h x0 x1 x2 := cc_of pk_123 _ h
theorem pk_124 : am_prog 124 = some cd_124 := rfl
theorem bk_124_0 : bk_ am_prog 124 0 = some ([true, true, true, false, false], (bl_124_0, 1)) := bk_of pk_124 rfl
theorem bk_124_1 : bk_ am_prog 124 1 = some ([true, true, true, true, true], (bl_124_1, 9999)) := bk_of pk_124 rfl
theorem bk_124_2 : bk_ am_prog 124 2 = some ([true, true, true, true, true], (bl_124_2, 9999)) := bk_of pk_124 rfl
theorem bk_124_3 : bk_ am_prog 124 3 = some ([true, true, true, true, false], (bl_124_3, 9999)) := bk_of pk_124 rfl
theorem bk_124_4 : bk_ am_prog 124 4 = some ([false, false, false, false, true], (bl_124_4, 9999)) := bk_of pk_124 rfl
theorem bk_124_5 : bk_ am_prog 124 5 = some ([true, true, false, true, true], (bl_124_5, 6)) := bk_of pk_124 rfl
theorem bk_124_6 : bk_ am_prog 124 6 = some ([false, false, false, false, false], (bl_124_6, 9999)) := bk_of pk_124 rfl
theorem jt_124_1 (h : am_H) (x0 x1 x2 x3 x4 : Int) : JJ 124 1 [(20, x0), (0, x1), (0, x2), (0, x3), (0, x4)] [] h = Wo_state_1 h x0 x1 x2 x3 x4 := jj_of bk_124_1 _ _ h
theorem Wo_state_e (h : am_H) (x0 x1 x2 : Int) : Wo_state h x0 x1 x2 = Wo_state_1 h x0 x1 x2 0 0 := (ff_of bk_124_0 [(20, x0), (0, x1), (0, x2), (9, 0), (9, 0)] [] h).trans (by
  show (JJ 124 1 [(20, x0), (0, x1), (0, x2), (0, 0), (0, 0)] [] h) = _
  simp only [jt_124_1, ck_or1, ck_or2, rf_wr, ln_wr, nn_wr, rf_cp, ln_cp, nn_cp, ln_wf, nn_wf, rd_wf, nn_nw]
  try rfl)
theorem jt_124_6 (h : am_H) (d0 d1 d2 d3 d4 : am_V) (s0 : Int) : JJ 124 6 [d0, d1, d2, d3, d4] [(0, s0)] h = some (h, s0) := (jj_of bk_124_6 _ _ h).trans (ff_of bk_124_6 [(9, 0), (9, 0), (9, 0), (9, 0), (9, 0)] [(0, s0)] h)
theorem jt_124_5 (h : am_H) (d2 : am_V) (x0 x1 x3 x4 : Int) : JJ 124 5 [(20, x0), (0, x1), d2, (0, x3), (0, x4)] [] h = ck_ (0 ≤ x0) (ck_ (0 ≤ (rf_ h x0 6)) (ck_ (0 ≤ x1 ∧ x1 < ln_ h (rf_ h x0 6)) (some (h, or_ (w32 (x4 * 2 ^ ((rd_ h (rf_ h x0 6) x1) % 32 : Int).toNat)) x3)))) := (jj_of bk_124_5 _ _ h).trans ((ff_of bk_124_5 [(20, x0), (0, x1), (9, 0), (0, x3), (0, x4)] [] h).trans (by
  show (ck_ (0 ≤ x0) (ck_ (0 ≤ (rf_ h x0 6)) (ck_ (0 ≤ x1 ∧ x1 < ln_ h (rf_ h x0 6)) (JJ 124 6 [(20, x0), (0, x1), (9, 0), (0, x3), (0, x4)] [(0, or_ (w32 (x4 * 2 ^ ((rd_ h (rf_ h x0 6) x1) % 32 : Int).toNat)) x3)] h)))) = _
  simp only [jt_124_6, ck_or1, ck_or2, rf_wr, ln_wr, nn_wr, rf_cp, ln_cp, nn_cp, ln_wf, nn_wf, rd_wf, nn_nw]
  try rfl))
theorem jt_124_4 (h : am_H) (d0 d1 d2 d3 : am_V) (x4 : Int) : JJ 124 4 [d0, d1, d2, d3, (0, x4)] [] h = some (h, x4) := (jj_of bk_124_4 _ _ h).trans ((ff_of bk_124_4 [(9, 0), (9, 0), (9, 0), (9, 0), (0, x4)] [] h).trans (by
  show (JJ 124 6 [(9, 0), (9, 0), (9, 0), (9, 0), (0, x4)] [(0, x4)] h) = _
  simp only [jt_124_6, ck_or1, ck_or2, rf_wr, ln_wr, nn_wr, rf_cp, ln_cp, nn_cp, ln_wf, nn_wf, rd_wf, nn_nw]
  try rfl))
theorem jt_124_3 (h : am_H) (d4 : am_V) (x0 x1 x2 x3 : Int) : JJ 124 3 [(20, x0), (0, x1), (0, x2), (0, x3), d4] [] h = ck_ (0 ≤ x0) (ck_ (0 ≤ x0) (ck_ (0 ≤ (rf_ h x0 6)) (ck_ (0 ≤ x1 ∧ x1 < ln_ h (rf_ h x0 6)) (bd_ (Pp_orderOf h (rf_ h x0 13) (rd_ h (rf_ h x0 6) x1)) fun h1 v2 => if x2 ≠ 0 then ck_ (0 ≤ x0) (ck_ (0 ≤ (rf_ h1 x0 6)) (ck_ (0 ≤ x1 ∧ x1 < ln_ h1 (rf_ h1 x0 6)) (some (h1, or_ (w32 (v2 * 2 ^ ((rd_ h1 (rf_ h1 x0 6) x1) % 32 : Int).toNat)) x3)))) else some (h1, v2))))) := (jj_of bk_124_3 _ _ h).trans ((ff_of bk_124_3 [(20, x0), (0, x1), (0, x2), (0, x3), (9, 0)] [] h).trans (by
  show (ck_ (0 ≤ x0) (ck_ (0 ≤ x0) (ck_ (0 ≤ (rf_ h x0 6)) (ck_ (0 ≤ x1 ∧ x1 < ln_ h (rf_ h x0 6)) (bd_ (CC 115 [(30, rf_ h x0 13), (0, rd_ h (rf_ h x0 6) x1)] h) fun h1 v2 => if x2 ≠ 0 then JJ 124 5 [(20, x0), (0, x1), (0, x2), (0, x3), (0, v2)] [] h1 else JJ 124 4 [(20, x0), (0, x1), (0, x2), (0, x3), (0, v2)] [] h1))))) = _
  simp only [cc_115, jt_124_4, jt_124_5, ck_or1, ck_or2, rf_wr, ln_wr, nn_wr, rf_cp, ln_cp, nn_cp, ln_wf, nn_wf, rd_wf, nn_nw]
  try rfl))
theorem jt_124_2 (h : am_H) (x0 x1 x2 x3 x4 : Int) : JJ 124 2 [(20, x0), (0, x1), (0, x2), (0, x3), (0, x4)] [] h = ck_ (0 ≤ x0) (ck_ (0 ≤ x0) (bd_ (Wo_sizeAt h x0 x1 x4) fun h1 v2 => ck_ (0 ≤ (rf_ h x0 13)) (ck_ (0 ≤ x4 ∧ x4 < ln_ h1 (rf_ h x0 13)) (ck_ (0 ≤ x0) (bd_ (Wo_faceAt (wr_ h1 (rf_ h x0 13) x4 v2) x0 x1 x4) fun h3 v4 => Wo_state_1 h3 x0 x1 x2 (or_ x3 (w32 (v4 * 2 ^ (x4 % 32 : Int).toNat))) (w32 (x4 + 1))))))) := (jj_of bk_124_2 _ _ h).trans ((ff_of bk_124_2 [(20, x0), (0, x1), (0, x2), (0, x3), (0, x4)] [] h).trans (by
  show (ck_ (0 ≤ x0) (ck_ (0 ≤ x0) (bd_ (CC 56 [(20, x0), (0, x1), (0, x4)] h) fun h1 v2 => ck_ (0 ≤ (rf_ h x0 13)) (ck_ (0 ≤ x4 ∧ x4 < ln_ h1 (rf_ h x0 13)) (ck_ (0 ≤ x0) (bd_ (CC 121 [(20, x0), (0, x1), (0, x4)] (wr_ h1 (rf_ h x0 13) x4 v2)) fun h3 v4 => JJ 124 1 [(20, x0), (0, x1), (0, x2), (0, or_ x3 (w32 (v4 * 2 ^ (x4 % 32 : Int).toNat))), (0, w32 (x4 + 1))] [] h3)))))) = _
  simp only [cc_121, cc_56, jt_124_1, ck_or1, ck_or2, rf_wr, ln_wr, nn_wr, rf_cp, ln_cp, nn_cp, ln_wf, nn_wf, rd_wf, nn_nw]
  try rfl))
set_option maxRecDepth 20000 in
theorem Wo_state_1_e (h : am_H) (x0 x1 x2 x3 x4 : Int) : Wo_state_1 h x0 x1 x2 x3 x4 = ck_ (0 ≤ x0) (ck_ (0 ≤ (rf_ h x0 6)) (ck_ (0 ≤ x1 ∧ x1 < ln_ h (rf_ h x0 6)) (if (rd_ h (rf_ h x0 6) x1) ≤ x4 then ck_ (0 ≤ x0) (ck_ (0 ≤ x0) (ck_ (0 ≤ (rf_ h x0 6)) (ck_ (0 ≤ x1 ∧ x1 < ln_ h (rf_ h x0 6)) (bd_ (Pp_orderOf h (rf_ h x0 13) (rd_ h (rf_ h x0 6) x1)) fun h1 v2 => if x2 ≠ 0 then ck_ (0 ≤ x0) (ck_ (0 ≤ (rf_ h1 x0 6)) (ck_ (0 ≤ x1 ∧ x1 < ln_ h1 (rf_ h1 x0 6)) (some (h1, or_ (w32 (v2 * 2 ^ ((rd_ h1 (rf_ h1 x0 6) x1) % 32 : Int).toNat)) x3)))) else some (h1, v2))))) else ck_ (0 ≤ x0) (ck_ (0 ≤ x0) (bd_ (Wo_sizeAt h x0 x1 x4) fun h3 v4 => ck_ (0 ≤ (rf_ h x0 13)) (ck_ (0 ≤ x4 ∧ x4 < ln_ h3 (rf_ h x0 13)) (ck_ (0 ≤ x0) (bd_ (Wo_faceAt (wr_ h3 (rf_ h x0 13) x4 v4) x0 x1 x4) fun h5 v6 => Wo_state_1 h5 x0 x1 x2 (or_ x3 (w32 (v6 * 2 ^ (x4 % 32 : Int).toNat))) (w32 (x4 + 1)))))))))) := (ff_of bk_124_1 [(20, x0), (0, x1), (0, x2), (0, x3), (0, x4)] [] h).trans (by
  show (ck_ (0 ≤ x0) (ck_ (0 ≤ (rf_ h x0 6)) (ck_ (0 ≤ x1 ∧ x1 < ln_ h (rf_ h x0 6)) (if (rd_ h (rf_ h x0 6) x1) ≤ x4 then JJ 124 3 [(20, x0), (0, x1), (0, x2), (0, x3), (0, x4)] [] h else JJ 124 2 [(20, x0), (0, x1), (0, x2), (0, x3), (0, x4)] [] h)))) = _
  simp only [jt_124_2, jt_124_3, ck_or1, ck_or2, rf_wr, ln_wr, nn_wr, rf_cp, ln_cp, nn_cp, ln_wf, nn_wf, rd_wf, nn_nw]
  try rfl)
theorem cc_124 (h : am_H) (x0 x1 x2 : Int) : CC 124 [(20, x0), (0, x1), (0, x2)] h = Wo_state h x0 x1 x2 := cc_of pk_124 _ h
theorem pk_125 : am_prog 125 = some cd_125 := rfl
theorem bk_125_0 : bk_ am_prog 125 0 = some ([true, true, false], (bl_125_0, 1)) := bk_of pk_125 rfl
theorem bk_125_1 : bk_ am_prog 125 1 = some ([true, true, true], (bl_125_1, 9999)) := bk_of pk_125 rfl
theorem bk_125_2 : bk_ am_prog 125 2 = some ([true, true, true], (bl_125_2, 9999)) := bk_of pk_125 rfl
theorem bk_125_3 : bk_ am_prog 125 3 = some ([false, false, false], (bl_125_3, 9999)) := bk_of pk_125 rfl
theorem bk_125_4 : bk_ am_prog 125 4 = some ([true, true, true], (bl_125_4, 9999)) := bk_of pk_125 rfl
theorem bk_125_5 : bk_ am_prog 125 5 = some ([false, false, false], (bl_125_5, 9999)) := bk_of pk_125 rfl
theorem jt_125_1 (h : am_H) (x0 x1 x2 : Int) : JJ 125 1 [(20, x0), (0, x1), (0, x2)] [] h = Wo_isRight_1 h x0 x1 x2 := jj_of bk_125_1 _ _ h
theorem Wo_isRight_e (h : am_H) (x0 x1 : Int) : Wo_isRight h x0 x1 = Wo_isRight_1 h x0 x1 1 := (ff_of bk_125_0 [(20, x0), (0, x1), (9, 0)] [] h).trans (by
  show (JJ 125 1 [(20, x0), (0, x1), (0, 1)] [] h) = _
  simp only [jt_125_1, ck_or1, ck_or2, rf_wr, ln_wr, nn_wr, rf_cp, ln_cp, nn_cp, ln_wf, nn_wf, rd_wf, nn_nw]
  try rfl)
theorem jt_125_5 (h : am_H) (d0 d1 d2 : am_V) : JJ 125 5 [d0, d1, d2] [] h = some (h, 1) := (jj_of bk_125_5 _ _ h).trans (ff_of bk_125_5 [(9, 0), (9, 0), (9, 0)] [] h)
theorem jt_125_4 (h : am_H) (x0 x1 x2 : Int) : JJ 125 4 [(20, x0), (0, x1), (0, x2)] [] h = Wo_isRight_1 h x0 x1 (w32 (x2 + 1)) := (jj_of bk_125_4 _ _ h).trans ((ff_of bk_125_4 [(20, x0), (0, x1), (0, x2)] [] h).trans (by
  show (JJ 125 1 [(20, x0), (0, x1), (0, w32 (x2 + 1))] [] h) = _
  simp only [jt_125_1, ck_or1, ck_or2, rf_wr, ln_wr, nn_wr, rf_cp, ln_cp, nn_cp, ln_wf, nn_wf, rd_wf, nn_nw]
  try rfl))
theorem jt_125_3 (h : am_H) (d0 d1 d2 : am_V) : JJ 125 3 [d0, d1, d2] [] h = some (h, 0) := (jj_of bk_125_3 _ _ h).trans (ff_of bk_125_3 [(9, 0), (9, 0), (9, 0)] [] h)
theorem jt_125_2 (h : am_H) (x0 x1 x2 : Int) : JJ 125 2 [(20, x0), (0, x1), (0, x2)] [] h = ck_ (0 ≤ x0) (bd_ (Wo_sizeAt h x0 x1 (w32 (x2 - 1))) fun h1 v2 => ck_ (0 ≤ x0) (bd_ (Wo_sizeAt h1 x0 x1 x2) fun h3 v4 => if v2 < v4 then Wo_isRight_1 h3 x0 x1 (w32 (x2 + 1)) else some (h3, 0))) := (jj_of bk_125_2 _ _ h).trans ((ff_of bk_125_2 [(20, x0), (0, x1), (0, x2)] [] h).trans (by
  show (ck_ (0 ≤ x0) (bd_ (CC 56 [(20, x0), (0, x1), (0, w32 (x2 - 1))] h) fun h1 v2 => ck_ (0 ≤ x0) (bd_ (CC 56 [(20, x0), (0, x1), (0, x2)] h1) fun h3 v4 => if v2 < v4 then JJ 125 4 [(20, x0), (0, x1), (0, x2)] [] h3 else JJ 125 3 [(20, x0), (0, x1), (0, x2)] [] h3))) = _
  simp only [cc_56, jt_125_3, jt_125_4, ck_or1, ck_or2, rf_wr, ln_wr, nn_wr, rf_cp, ln_cp, nn_cp, ln_wf, nn_wf, rd_wf, nn_nw]
  try rfl))
theorem Wo_isRight_1_e (h : am_H) (x0 x1 x2 : Int) : Wo_isRight_1 h x0 x1 x2 = ck_ (0 ≤ x0) (ck_ (0 ≤ (rf_ h x0 6)) (ck_ (0 ≤ x1 ∧ x1 < ln_ h (rf_ h x0 6)) (if (rd_ h (rf_ h x0 6) x1) ≤ x2 then some (h, 1) else ck_ (0 ≤ x0) (bd_ (Wo_sizeAt h x0 x1 (w32 (x2 - 1))) fun h1 v2 => ck_ (0 ≤ x0) (bd_ (Wo_sizeAt h1 x0 x1 x2) fun h3 v4 => if v2 < v4 then Wo_isRight_1 h3 x0 x1 (w32 (x2 + 1)) else some (h3, 0)))))) := (ff_of bk_125_1 [(20, x0), (0, x1), (0, x2)] [] h).trans (by
  show (ck_ (0 ≤ x0) (ck_ (0 ≤ (rf_ h x0 6)) (ck_ (0 ≤ x1 ∧ x1 < ln_ h (rf_ h x0 6)) (if (rd_ h (rf_ h x0 6) x1) ≤ x2 then JJ 125 5 [(20, x0), (0, x1), (0, x2)] [] h else JJ 125 2 [(20, x0), (0, x1), (0, x2)] [] h)))) = _
  simp only [jt_125_2, jt_125_5, ck_or1, ck_or2, rf_wr, ln_wr, nn_wr, rf_cp, ln_cp, nn_cp, ln_wf, nn_wf, rd_wf, nn_nw]
  try rfl)
theorem cc_125 (h : am_H) (x0 x1 : Int) : CC 125 [(20, x0), (0, x1)] h = Wo_isRight h x0 x1 := cc_of pk_125 _ h
theorem pk_126 : am_prog 126 = some cd_126 := rfl
theorem bk_126_0 : bk_ am_prog 126 0 = some ([true, true, false], (bl_126_0, 1)) := bk_of pk_126 rfl
theorem bk_126_1 : bk_ am_prog 126 1 = some ([true, true, true], (bl_126_1, 9999)) := bk_of pk_126 rfl
theorem bk_126_2 : bk_ am_prog 126 2 = some ([true, true, true], (bl_126_2, 9999)) := bk_of pk_126 rfl
theorem bk_126_3 : bk_ am_prog 126 3 = some ([false, false, false], (bl_126_3, 9999)) := bk_of pk_126 rfl
theorem bk_126_4 : bk_ am_prog 126 4 = some ([true, true, true], (bl_126_4, 9999)) := bk_of pk_126 rfl
theorem bk_126_5 : bk_ am_prog 126 5 = some ([true, true, false], (bl_126_5, 9999)) := bk_of pk_126 rfl
theorem jt_126_1 (h : am_H) (x0 x1 x2 : Int) : JJ 126 1 [(20, x0), (0, x1), (0, x2)] [] h = Wo_isProper_1 h x0 x1 x2 := jj_of bk_126_1 _ _ h
theorem Wo_isProper_e (h : am_H) (x0 x1 : Int) : Wo_isProper h x0 x1 = Wo_isProper_1 h x0 x1 0 := (ff_of bk_126_0 [(20, x0), (0, x1), (9, 0)] [] h).trans (by
  show (JJ 126 1 [(20, x0), (0, x1), (0, 0)] [] h) = _
  simp only [jt_126_1, ck_or1, ck_or2, rf_wr, ln_wr, nn_wr, rf_cp, ln_cp, nn_cp, ln_wf, nn_wf, rd_wf, nn_nw]
  try rfl)
theorem jt_126_5 (h : am_H) (d2 : am_V) (x0 x1 : Int) : JJ 126 5 [(20, x0), (0, x1), d2] [] h = ck_ (0 ≤ x0) (bd_ (Wo_isRight h x0 x1) fun h1 v2 => ck_ (v2 = 0 ∨ v2 = 1) (some (h1, v2))) := (jj_of bk_126_5 _ _ h).trans ((ff_of bk_126_5 [(20, x0), (0, x1), (9, 0)] [] h).trans (by
  show (ck_ (0 ≤ x0) (bd_ (CC 125 [(20, x0), (0, x1)] h) fun h1 v2 => ck_ (v2 = 0 ∨ v2 = 1) (some (h1, v2)))) = _
  simp only [cc_125, ck_or1, ck_or2, rf_wr, ln_wr, nn_wr, rf_cp, ln_cp, nn_cp, ln_wf, nn_wf, rd_wf, nn_nw]
  try rfl))
theorem jt_126_4 (h : am_H) (x0 x1 x2 : Int) : JJ 126 4 [(20, x0), (0, x1), (0, x2)] [] h = Wo_isProper_1 h x0 x1 (w32 (x2 + 1)) := (jj_of bk_126_4 _ _ h).trans ((ff_of bk_126_4 [(20, x0), (0, x1), (0, x2)] [] h).trans (by
  show (JJ 126 1 [(20, x0), (0, x1), (0, w32 (x2 + 1))] [] h) = _
  simp only [jt_126_1, ck_or1, ck_or2, rf_wr, ln_wr, nn_wr, rf_cp, ln_cp, nn_cp, ln_wf, nn_wf, rd_wf, nn_nw]
  try rfl))
theorem jt_126_3 (h : am_H) (d0 d1 d2 : am_V) : JJ 126 3 [d0, d1, d2] [] h = some (h, 0) := (jj_of bk_126_3 _ _ h).trans (ff_of bk_126_3 [(9, 0), (9, 0), (9, 0)] [] h)
theorem jt_126_2 (h : am_H) (x0 x1 x2 : Int) : JJ 126 2 [(20, x0), (0, x1), (0, x2)] [] h = ck_ (0 ≤ x0) (bd_ (Wo_faceAt h x0 x1 x2) fun h1 v2 => if v2 = 0 then Wo_isProper_1 h1 x0 x1 (w32 (x2 + 1)) else some (h1, 0)) := (jj_of bk_126_2 _ _ h).trans ((ff_of bk_126_2 [(20, x0), (0, x1), (0, x2)] [] h).trans (by
  show (ck_ (0 ≤ x0) (bd_ (CC 121 [(20, x0), (0, x1), (0, x2)] h) fun h1 v2 => if v2 = 0 then JJ 126 4 [(20, x0), (0, x1), (0, x2)] [] h1 else JJ 126 3 [(20, x0), (0, x1), (0, x2)] [] h1)) = _
  simp only [cc_121, jt_126_3, jt_126_4, ck_or1, ck_or2, rf_wr, ln_wr, nn_wr, rf_cp, ln_cp, nn_cp, ln_wf, nn_wf, rd_wf, nn_nw]
  try rfl))
theorem Wo_isProper_1_e (h : am_H) (x0 x1 x2 : Int) : Wo_isProper_1 h x0 x1 x2 = ck_ (0 ≤ x0) (ck_ (0 ≤ (rf_ h x0 6)) (ck_ (0 ≤ x1 ∧ x1 < ln_ h (rf_ h x0 6)) (if (rd_ h (rf_ h x0 6) x1) ≤ x2 then ck_ (0 ≤ x0) (bd_ (Wo_isRight h x0 x1) fun h1 v2 => ck_ (v2 = 0 ∨ v2 = 1) (some (h1, v2))) else ck_ (0 ≤ x0) (bd_ (Wo_faceAt h x0 x1 x2) fun h3 v4 => if v4 = 0 then Wo_isProper_1 h3 x0 x1 (w32 (x2 + 1)) else some (h3, 0))))) := (ff_of bk_126_1 [(20, x0), (0, x1), (0, x2)] [] h).trans (by
  show (ck_ (0 ≤ x0) (ck_ (0 ≤ (rf_ h x0 6)) (ck_ (0 ≤ x1 ∧ x1 < ln_ h (rf_ h x0 6)) (if (rd_ h (rf_ h x0 6) x1) ≤ x2 then JJ 126 5 [(20, x0), (0, x1), (0, x2)] [] h else JJ 126 2 [(20, x0), (0, x1), (0, x2)] [] h)))) = _
  simp only [jt_126_2, jt_126_5, ck_or1, ck_or2, rf_wr, ln_wr, nn_wr, rf_cp, ln_cp, nn_cp, ln_wf, nn_wf, rd_wf, nn_nw]
  try rfl)
theorem cc_126 (h : am_H) (x0 x1 : Int) : CC 126 [(20, x0), (0, x1)] h = Wo_isProper h x0 x1 := cc_of pk_126 _ h
theorem pk_127 : am_prog 127 = some cd_127 := rfl
theorem bk_127_0 : bk_ am_prog 127 0 = some ([true, false, false], (bl_127_0, 1)) := bk_of pk_127 rfl
theorem bk_127_1 : bk_ am_prog 127 1 = some ([true, true, true], (bl_127_1, 9999)) := bk_of pk_127 rfl
theorem bk_127_2 : bk_ am_prog 127 2 = some ([true, true, true], (bl_127_2, 9999)) := bk_of pk_127 rfl
theorem bk_127_3 : bk_ am_prog 127 3 = some ([false, true, false], (bl_127_3, 9999)) := bk_of pk_127 rfl
theorem jt_127_1 (h : am_H) (x0 x1 x2 : Int) : JJ 127 1 [(20, x0), (0, x1), (0, x2)] [] h = Wo_gapsOfAll_1 h x0 x1 x2 := jj_of bk_127_1 _ _ h
theorem Wo_gapsOfAll_e (h : am_H) (x0 : Int) : Wo_gapsOfAll h x0 = Wo_gapsOfAll_1 h x0 0 0 := (ff_of bk_127_0 [(20, x0), (9, 0), (9, 0)] [] h).trans (by
  show (JJ 127 1 [(20, x0), (0, 0), (0, 0)] [] h) = _
  simp only [jt_127_1, ck_or1, ck_or2, rf_wr, ln_wr, nn_wr, rf_cp, ln_cp, nn_cp, ln_wf, nn_wf, rd_wf, nn_nw]
  try rfl)
theorem jt_127_3 (h : am_H) (d0 d2 : am_V) (x1 : Int) : JJ 127 3 [d0, (0, x1), d2] [] h = some (h, x1) := (jj_of bk_127_3 _ _ h).trans (ff_of bk_127_3 [(9, 0), (0, x1), (9, 0)] [] h)
theorem jt_127_2 (h : am_H) (x0 x1 x2 : Int) : JJ 127 2 [(20, x0), (0, x1), (0, x2)] [] h = ck_ (0 ≤ x0) (bd_ (Wo_gaps h x0 x2) fun h1 v2 => Wo_gapsOfAll_1 h1 x0 (w32 (x1 + v2)) (w32 (x2 + 1))) := (jj_of bk_127_2 _ _ h).trans ((ff_of bk_127_2 [(20, x0), (0, x1), (0, x2)] [] h).trans (by
  show (ck_ (0 ≤ x0) (bd_ (CC 52 [(20, x0), (0, x2)] h) fun h1 v2 => JJ 127 1 [(20, x0), (0, w32 (x1 + v2)), (0, w32 (x2 + 1))] [] h1)) = _
  simp only [cc_52, jt_127_1, ck_or1, ck_or2, rf_wr, ln_wr, nn_wr, rf_cp, ln_cp, nn_cp, ln_wf, nn_wf, rd_wf, nn_nw]
  try rfl))
theorem Wo_gapsOfAll_1_e (h : am_H) (x0 x1 x2 : Int) : Wo_gapsOfAll_1 h x0 x1 x2 = ck_ (0 ≤ x0) (if (rd_ h x0 1) ≤ x2 then some (h, x1) else ck_ (0 ≤ x0) (bd_ (Wo_gaps h x0 x2) fun h1 v2 => Wo_gapsOfAll_1 h1 x0 (w32 (x1 + v2)) (w32 (x2 + 1)))) := (ff_of bk_127_1 [(20, x0), (0, x1), (0, x2)] [] h).trans (by
  show (ck_ (0 ≤ x0) (if (rd_ h x0 1) ≤ x2 then JJ 127 3 [(20, x0), (0, x1), (0, x2)] [] h else JJ 127 2 [(20, x0), (0, x1), (0, x2)] [] h)) = _
  simp only [jt_127_2, jt_127_3, ck_or1, ck_or2, rf_wr, ln_wr, nn_wr, rf_cp, ln_cp, nn_cp, ln_wf, nn_wf, rd_wf, nn_nw]
  try rfl)
theorem cc_127 (h : am_H) (x0 : Int) : CC 127 [(20, x0)] h = Wo_gapsOfAll h x0 := cc_of pk_127 _ h
theorem pk_128 : am_prog 128 = some cd_128 := rfl
theorem bk_128_0 : bk_ am_prog 128 0 = some ([true, false, false], (bl_128_0, 1)) := bk_of pk_128 rfl
theorem bk_128_1 : bk_ am_prog 128 1 = some ([true, true, true], (bl_128_1, 9999)) := bk_of pk_128 rfl
theorem bk_128_2 : bk_ am_prog 128 2 = some ([true, true, true], (bl_128_2, 9999)) := bk_of pk_128 rfl
theorem bk_128_3 : bk_ am_prog 128 3 = some ([true, true, true], (bl_128_3, 4)) := bk_of pk_128 rfl
theorem bk_128_4 : bk_ am_prog 128 4 = some ([true, true, true], (bl_128_4, 9999)) := bk_of pk_128 rfl
theorem bk_128_5 : bk_ am_prog 128 5 = some ([false, true, false], (bl_128_5, 9999)) := bk_of pk_128 rfl
theorem jt_128_1 (h : am_H) (x0 x1 x2 : Int) : JJ 128 1 [(20, x0), (0, x1), (0, x2)] [] h = Wo_rightPiles_1 h x0 x1 x2 := jj_of bk_128_1 _ _ h
theorem Wo_rightPiles_e (h : am_H) (x0 : Int) : Wo_rightPiles h x0 = Wo_rightPiles_1 h x0 0 0 := (ff_of bk_128_0 [(20, x0), (9, 0), (9, 0)] [] h).trans (by
  show (JJ 128 1 [(20, x0), (0, 0), (0, 0)] [] h) = _
  simp only [jt_128_1, ck_or1, ck_or2, rf_wr, ln_wr, nn_wr, rf_cp, ln_cp, nn_cp, ln_wf, nn_wf, rd_wf, nn_nw]
  try rfl)
theorem jt_128_5 (h : am_H) (d0 d2 : am_V) (x1 : Int) : JJ 128 5 [d0, (0, x1), d2] [] h = some (h, x1) := (jj_of bk_128_5 _ _ h).trans (ff_of bk_128_5 [(9, 0), (0, x1), (9, 0)] [] h)
theorem jt_128_4 (h : am_H) (x0 x1 x2 : Int) : JJ 128 4 [(20, x0), (0, x1), (0, x2)] [] h = Wo_rightPiles_1 h x0 x1 (w32 (x2 + 1)) := (jj_of bk_128_4 _ _ h).trans ((ff_of bk_128_4 [(20, x0), (0, x1), (0, x2)] [] h).trans (by
  show (JJ 128 1 [(20, x0), (0, x1), (0, w32 (x2 + 1))] [] h) = _
  simp only [jt_128_1, ck_or1, ck_or2, rf_wr, ln_wr, nn_wr, rf_cp, ln_cp, nn_cp, ln_wf, nn_wf, rd_wf, nn_nw]
  try rfl))
theorem jt_128_3 (h : am_H) (x0 x1 x2 : Int) : JJ 128 3 [(20, x0), (0, x1), (0, x2)] [] h = Wo_rightPiles_1 h x0 (w32 (x1 + 1)) (w32 (x2 + 1)) := (jj_of bk_128_3 _ _ h).trans ((ff_of bk_128_3 [(20, x0), (0, x1), (0, x2)] [] h).trans (by
  show (JJ 128 4 [(20, x0), (0, w32 (x1 + 1)), (0, x2)] [] h) = _
  simp only [jt_128_4, ck_or1, ck_or2, rf_wr, ln_wr, nn_wr, rf_cp, ln_cp, nn_cp, ln_wf, nn_wf, rd_wf, nn_nw]
  try rfl))
theorem jt_128_2 (h : am_H) (x0 x1 x2 : Int) : JJ 128 2 [(20, x0), (0, x1), (0, x2)] [] h = ck_ (0 ≤ x0) (bd_ (Wo_isRight h x0 x2) fun h1 v2 => if v2 = 0 then Wo_rightPiles_1 h1 x0 x1 (w32 (x2 + 1)) else Wo_rightPiles_1 h1 x0 (w32 (x1 + 1)) (w32 (x2 + 1))) := (jj_of bk_128_2 _ _ h).trans ((ff_of bk_128_2 [(20, x0), (0, x1), (0, x2)] [] h).trans (by
  show (ck_ (0 ≤ x0) (bd_ (CC 125 [(20, x0), (0, x2)] h) fun h1 v2 => if v2 = 0 then JJ 128 4 [(20, x0), (0, x1), (0, x2)] [] h1 else JJ 128 3 [(20, x0), (0, x1), (0, x2)] [] h1)) = _
  simp only [cc_125, jt_128_3, jt_128_4, ck_or1, ck_or2, rf_wr, ln_wr, nn_wr, rf_cp, ln_cp, nn_cp, ln_wf, nn_wf, rd_wf, nn_nw]
  try rfl))
theorem Wo_rightPiles_1_e (h : am_H) (x0 x1 x2 : Int) : Wo_rightPiles_1 h x0 x1 x2 = ck_ (0 ≤ x0) (if (rd_ h x0 1) ≤ x2 then some (h, x1) else ck_ (0 ≤ x0) (bd_ (Wo_isRight h x0 x2) fun h1 v2 => if v2 = 0 then Wo_rightPiles_1 h1 x0 x1 (w32 (x2 + 1)) else Wo_rightPiles_1 h1 x0 (w32 (x1 + 1)) (w32 (x2 + 1)))) := (ff_of bk_128_1 [(20, x0), (0, x1), (0, x2)] [] h).trans (by
  show (ck_ (0 ≤ x0) (if (rd_ h x0 1) ≤ x2 then JJ 128 5 [(20, x0), (0, x1), (0, x2)] [] h else JJ 128 2 [(20, x0), (0, x1), (0, x2)] [] h)) = _
  simp only [jt_128_2, jt_128_5, ck_or1, ck_or2, rf_wr, ln_wr, nn_wr, rf_cp, ln_cp, nn_cp, ln_wf, nn_wf, rd_wf, nn_nw]
  try rfl)
theorem cc_128 (h : am_H) (x0 : Int) : CC 128 [(20, x0)] h = Wo_rightPiles h x0 := cc_of pk_128 _ h
theorem pk_129 : am_prog 129 = some cd_129 := rfl
theorem bk_129_0 : bk_ am_prog 129 0 = some ([true, false, false], (bl_129_0, 1)) := bk_of pk_129 rfl
theorem bk_129_1 : bk_ am_prog 129 1 = some ([true, true, true], (bl_129_1, 9999)) := bk_of pk_129 rfl
theorem bk_129_2 : bk_ am_prog 129 2 = some ([true, true, true], (bl_129_2, 9999)) := bk_of pk_129 rfl
theorem bk_129_3 : bk_ am_prog 129 3 = some ([true, true, true], (bl_129_3, 4)) := bk_of pk_129 rfl
theorem bk_129_4 : bk_ am_prog 129 4 = some ([true, true, true], (bl_129_4, 9999)) := bk_of pk_129 rfl
theorem bk_129_5 : bk_ am_prog 129 5 = some ([false, true, false], (bl_129_5, 9999)) := bk_of pk_129 rfl
theorem jt_129_1 (h : am_H) (x0 x1 x2 : Int) : JJ 129 1 [(20, x0), (0, x1), (0, x2)] [] h = Wo_properPiles_1 h x0 x1 x2 := jj_of bk_129_1 _ _ h
theorem Wo_properPiles_e (h : am_H) (x0 : Int) : Wo_properPiles h x0 = Wo_properPiles_1 h x0 0 0 := (ff_of bk_129_0 [(20, x0), (9, 0), (9, 0)] [] h).trans (by
  show (JJ 129 1 [(20, x0), (0, 0), (0, 0)] [] h) = _
  simp only [jt_129_1, ck_or1, ck_or2, rf_wr, ln_wr, nn_wr, rf_cp, ln_cp, nn_cp, ln_wf, nn_wf, rd_wf, nn_nw]
  try rfl)
theorem jt_129_5 (h : am_H) (d0 d2 : am_V) (x1 : Int) : JJ 129 5 [d0, (0, x1), d2] [] h = some (h, x1) := (jj_of bk_129_5 _ _ h).trans (ff_of bk_129_5 [(9, 0), (0, x1), (9, 0)] [] h)
theorem jt_129_4 (h : am_H) (x0 x1 x2 : Int) : JJ 129 4 [(20, x0), (0, x1), (0, x2)] [] h = Wo_properPiles_1 h x0 x1 (w32 (x2 + 1)) := (jj_of bk_129_4 _ _ h).trans ((ff_of bk_129_4 [(20, x0), (0, x1), (0, x2)] [] h).trans (by
  show (JJ 129 1 [(20, x0), (0, x1), (0, w32 (x2 + 1))] [] h) = _
  simp only [jt_129_1, ck_or1, ck_or2, rf_wr, ln_wr, nn_wr, rf_cp, ln_cp, nn_cp, ln_wf, nn_wf, rd_wf, nn_nw]
  try rfl))
theorem jt_129_3 (h : am_H) (x0 x1 x2 : Int) : JJ 129 3 [(20, x0), (0, x1), (0, x2)] [] h = Wo_properPiles_1 h x0 (w32 (x1 + 1)) (w32 (x2 + 1)) := (jj_of bk_129_3 _ _ h).trans ((ff_of bk_129_3 [(20, x0), (0, x1), (0, x2)] [] h).trans (by
  show (JJ 129 4 [(20, x0), (0, w32 (x1 + 1)), (0, x2)] [] h) = _
  simp only [jt_129_4, ck_or1, ck_or2, rf_wr, ln_wr, nn_wr, rf_cp, ln_cp, nn_cp, ln_wf, nn_wf, rd_wf, nn_nw]
  try rfl))
theorem jt_129_2 (h : am_H) (x0 x1 x2 : Int) : JJ 129 2 [(20, x0), (0, x1), (0, x2)] [] h = ck_ (0 ≤ x0) (bd_ (Wo_isProper h x0 x2) fun h1 v2 => if v2 = 0 then Wo_properPiles_1 h1 x0 x1 (w32 (x2 + 1)) else Wo_properPiles_1 h1 x0 (w32 (x1 + 1)) (w32 (x2 + 1))) := (jj_of bk_129_2 _ _ h).trans ((ff_of bk_129_2 [(20, x0), (0, x1), (0, x2)] [] h).trans (by
  show (ck_ (0 ≤ x0) (bd_ (CC 126 [(20, x0), (0, x2)] h) fun h1 v2 => if v2 = 0 then JJ 129 4 [(20, x0), (0, x1), (0, x2)] [] h1 else JJ 129 3 [(20, x0), (0, x1), (0, x2)] [] h1)) = _
  simp only [cc_126, jt_129_3, jt_129_4, ck_or1, ck_or2, rf_wr, ln_wr, nn_wr, rf_cp, ln_cp, nn_cp, ln_wf, nn_wf, rd_wf, nn_nw]
  try rfl))
theorem Wo_properPiles_1_e (h : am_H) (x0 x1 x2 : Int) : Wo_properPiles_1 h x0 x1 x2 = ck_ (0 ≤ x0) (if (rd_ h x0 1) ≤ x2 then some (h, x1) else ck_ (0 ≤ x0) (bd_ (Wo_isProper h x0 x2) fun h1 v2 => if v2 = 0 then Wo_properPiles_1 h1 x0 x1 (w32 (x2 + 1)) else Wo_properPiles_1 h1 x0 (w32 (x1 + 1)) (w32 (x2 + 1)))) := (ff_of bk_129_1 [(20, x0), (0, x1), (0, x2)] [] h).trans (by
  show (ck_ (0 ≤ x0) (if (rd_ h x0 1) ≤ x2 then JJ 129 5 [(20, x0), (0, x1), (0, x2)] [] h else JJ 129 2 [(20, x0), (0, x1), (0, x2)] [] h)) = _
  simp only [jt_129_2, jt_129_5, ck_or1, ck_or2, rf_wr, ln_wr, nn_wr, rf_cp, ln_cp, nn_cp, ln_wf, nn_wf, rd_wf, nn_nw]
  try rfl)
theorem cc_129 (h : am_H) (x0 : Int) : CC 129 [(20, x0)] h = Wo_properPiles h x0 := cc_of pk_129 _ h
theorem pk_130 : am_prog 130 = some cd_130 := rfl
theorem bk_130_0 : bk_ am_prog 130 0 = some ([true, false, false], (bl_130_0, 1)) := bk_of pk_130 rfl
theorem bk_130_1 : bk_ am_prog 130 1 = some ([true, true, true], (bl_130_1, 9999)) := bk_of pk_130 rfl
theorem bk_130_2 : bk_ am_prog 130 2 = some ([true, true, true], (bl_130_2, 9999)) := bk_of pk_130 rfl
theorem bk_130_3 : bk_ am_prog 130 3 = some ([false, true, false], (bl_130_3, 9999)) := bk_of pk_130 rfl
theorem jt_130_1 (h : am_H) (x0 x1 x2 : Int) : JJ 130 1 [(20, x0), (0, x1), (0, x2)] [] h = Wo_chippedPlates_1 h x0 x1 x2 := jj_of bk_130_1 _ _ h
theorem Wo_chippedPlates_e (h : am_H) (x0 : Int) : Wo_chippedPlates h x0 = Wo_chippedPlates_1 h x0 0 0 := (ff_of bk_130_0 [(20, x0), (9, 0), (9, 0)] [] h).trans (by
  show (JJ 130 1 [(20, x0), (0, 0), (0, 0)] [] h) = _
  simp only [jt_130_1, ck_or1, ck_or2, rf_wr, ln_wr, nn_wr, rf_cp, ln_cp, nn_cp, ln_wf, nn_wf, rd_wf, nn_nw]
  try rfl)
theorem jt_130_3 (h : am_H) (d0 d2 : am_V) (x1 : Int) : JJ 130 3 [d0, (0, x1), d2] [] h = some (h, x1) := (jj_of bk_130_3 _ _ h).trans (ff_of bk_130_3 [(9, 0), (0, x1), (9, 0)] [] h)
theorem jt_130_2 (h : am_H) (x0 x1 x2 : Int) : JJ 130 2 [(20, x0), (0, x1), (0, x2)] [] h = ck_ (0 ≤ x0) (ck_ (0 ≤ (rf_ h x0 12)) (ck_ (0 ≤ x2 ∧ x2 < ln_ h (rf_ h x0 12)) (Wo_chippedPlates_1 h x0 (w32 (x1 + (rd_ h (rf_ h x0 12) x2))) (w32 (x2 + 1))))) := (jj_of bk_130_2 _ _ h).trans ((ff_of bk_130_2 [(20, x0), (0, x1), (0, x2)] [] h).trans (by
  show (ck_ (0 ≤ x0) (ck_ (0 ≤ (rf_ h x0 12)) (ck_ (0 ≤ x2 ∧ x2 < ln_ h (rf_ h x0 12)) (JJ 130 1 [(20, x0), (0, w32 (x1 + (rd_ h (rf_ h x0 12) x2))), (0, w32 (x2 + 1))] [] h)))) = _
  simp only [jt_130_1, ck_or1, ck_or2, rf_wr, ln_wr, nn_wr, rf_cp, ln_cp, nn_cp, ln_wf, nn_wf, rd_wf, nn_nw]
  try rfl))
theorem Wo_chippedPlates_1_e (h : am_H) (x0 x1 x2 : Int) : Wo_chippedPlates_1 h x0 x1 x2 = ck_ (0 ≤ x0) (if (rd_ h x0 2) ≤ x2 then some (h, x1) else ck_ (0 ≤ x0) (ck_ (0 ≤ (rf_ h x0 12)) (ck_ (0 ≤ x2 ∧ x2 < ln_ h (rf_ h x0 12)) (Wo_chippedPlates_1 h x0 (w32 (x1 + (rd_ h (rf_ h x0 12) x2))) (w32 (x2 + 1)))))) := (ff_of bk_130_1 [(20, x0), (0, x1), (0, x2)] [] h).trans (by
  show (ck_ (0 ≤ x0) (if (rd_ h x0 2) ≤ x2 then JJ 130 3 [(20, x0), (0, x1), (0, x2)] [] h else JJ 130 2 [(20, x0), (0, x1), (0, x2)] [] h)) = _
  simp only [jt_130_2, jt_130_3, ck_or1, ck_or2, rf_wr, ln_wr, nn_wr, rf_cp, ln_cp, nn_cp, ln_wf, nn_wf, rd_wf, nn_nw]
  try rfl)
theorem cc_130 (h : am_H) (x0 : Int) : CC 130 [(20, x0)] h = Wo_chippedPlates h x0 := cc_of pk_130 _ h
theorem pk_131 : am_prog 131 = some cd_131 := rfl
theorem bk_131_0 : bk_ am_prog 131 0 = some ([true, false, false], (bl_131_0, 1)) := bk_of pk_131 rfl
theorem bk_131_1 : bk_ am_prog 131 1 = some ([true, true, true], (bl_131_1, 9999)) := bk_of pk_131 rfl
theorem bk_131_2 : bk_ am_prog 131 2 = some ([true, true, true], (bl_131_2, 9999)) := bk_of pk_131 rfl
theorem bk_131_3 : bk_ am_prog 131 3 = some ([false, true, false], (bl_131_3, 9999)) := bk_of pk_131 rfl
theorem jt_131_1 (h : am_H) (x0 x1 x2 : Int) : JJ 131 1 [(20, x0), (0, x1), (0, x2)] [] h = Wo_facesDown_1 h x0 x1 x2 := jj_of bk_131_1 _ _ h
theorem Wo_facesDown_e (h : am_H) (x0 : Int) : Wo_facesDown h x0 = Wo_facesDown_1 h x0 0 0 := (ff_of bk_131_0 [(20, x0), (9, 0), (9, 0)] [] h).trans (by
  show (JJ 131 1 [(20, x0), (0, 0), (0, 0)] [] h) = _
  simp only [jt_131_1, ck_or1, ck_or2, rf_wr, ln_wr, nn_wr, rf_cp, ln_cp, nn_cp, ln_wf, nn_wf, rd_wf, nn_nw]
  try rfl)
theorem jt_131_3 (h : am_H) (d0 d2 : am_V) (x1 : Int) : JJ 131 3 [d0, (0, x1), d2] [] h = some (h, x1) := (jj_of bk_131_3 _ _ h).trans (ff_of bk_131_3 [(9, 0), (0, x1), (9, 0)] [] h)
theorem jt_131_2 (h : am_H) (x0 x1 x2 : Int) : JJ 131 2 [(20, x0), (0, x1), (0, x2)] [] h = ck_ (0 ≤ x0) (ck_ (0 ≤ (rf_ h x0 11)) (ck_ (0 ≤ x2 ∧ x2 < ln_ h (rf_ h x0 11)) (Wo_facesDown_1 h x0 (w32 (x1 + (rd_ h (rf_ h x0 11) x2))) (w32 (x2 + 1))))) := (jj_of bk_131_2 _ _ h).trans ((ff_of bk_131_2 [(20, x0), (0, x1), (0, x2)] [] h).trans (by
  show (ck_ (0 ≤ x0) (ck_ (0 ≤ (rf_ h x0 11)) (ck_ (0 ≤ x2 ∧ x2 < ln_ h (rf_ h x0 11)) (JJ 131 1 [(20, x0), (0, w32 (x1 + (rd_ h (rf_ h x0 11) x2))), (0, w32 (x2 + 1))] [] h)))) = _
  simp only [jt_131_1, ck_or1, ck_or2, rf_wr, ln_wr, nn_wr, rf_cp, ln_cp, nn_cp, ln_wf, nn_wf, rd_wf, nn_nw]
  try rfl))
theorem Wo_facesDown_1_e (h : am_H) (x0 x1 x2 : Int) : Wo_facesDown_1 h x0 x1 x2 = ck_ (0 ≤ x0) (if (rd_ h x0 2) ≤ x2 then some (h, x1) else ck_ (0 ≤ x0) (ck_ (0 ≤ (rf_ h x0 11)) (ck_ (0 ≤ x2 ∧ x2 < ln_ h (rf_ h x0 11)) (Wo_facesDown_1 h x0 (w32 (x1 + (rd_ h (rf_ h x0 11) x2))) (w32 (x2 + 1)))))) := (ff_of bk_131_1 [(20, x0), (0, x1), (0, x2)] [] h).trans (by
  show (ck_ (0 ≤ x0) (if (rd_ h x0 2) ≤ x2 then JJ 131 3 [(20, x0), (0, x1), (0, x2)] [] h else JJ 131 2 [(20, x0), (0, x1), (0, x2)] [] h)) = _
  simp only [jt_131_2, jt_131_3, ck_or1, ck_or2, rf_wr, ln_wr, nn_wr, rf_cp, ln_cp, nn_cp, ln_wf, nn_wf, rd_wf, nn_nw]
  try rfl)
theorem cc_131 (h : am_H) (x0 : Int) : CC 131 [(20, x0)] h = Wo_facesDown h x0 := cc_of pk_131 _ h
theorem pk_132 : am_prog 132 = some cd_132 := rfl
theorem bk_132_0 : bk_ am_prog 132 0 = some ([true, false, false], (bl_132_0, 1)) := bk_of pk_132 rfl
theorem bk_132_1 : bk_ am_prog 132 1 = some ([true, true, true], (bl_132_1, 9999)) := bk_of pk_132 rfl
theorem bk_132_2 : bk_ am_prog 132 2 = some ([true, true, true], (bl_132_2, 9999)) := bk_of pk_132 rfl
theorem bk_132_3 : bk_ am_prog 132 3 = some ([false, true, false], (bl_132_3, 9999)) := bk_of pk_132 rfl
theorem jt_132_1 (h : am_H) (x0 x1 x2 : Int) : JJ 132 1 [(20, x0), (0, x1), (0, x2)] [] h = Wo_tiredOfAll_1 h x0 x1 x2 := jj_of bk_132_1 _ _ h
theorem Wo_tiredOfAll_e (h : am_H) (x0 : Int) : Wo_tiredOfAll h x0 = Wo_tiredOfAll_1 h x0 0 0 := (ff_of bk_132_0 [(20, x0), (9, 0), (9, 0)] [] h).trans (by
  show (JJ 132 1 [(20, x0), (0, 0), (0, 0)] [] h) = _
  simp only [jt_132_1, ck_or1, ck_or2, rf_wr, ln_wr, nn_wr, rf_cp, ln_cp, nn_cp, ln_wf, nn_wf, rd_wf, nn_nw]
  try rfl)
theorem jt_132_3 (h : am_H) (d0 d2 : am_V) (x1 : Int) : JJ 132 3 [d0, (0, x1), d2] [] h = some (h, x1) := (jj_of bk_132_3 _ _ h).trans (ff_of bk_132_3 [(9, 0), (0, x1), (9, 0)] [] h)
theorem jt_132_2 (h : am_H) (x0 x1 x2 : Int) : JJ 132 2 [(20, x0), (0, x1), (0, x2)] [] h = ck_ (0 ≤ x0) (ck_ (0 ≤ (rf_ h x0 8)) (ck_ (0 ≤ x2 ∧ x2 < ln_ h (rf_ h x0 8)) (Wo_tiredOfAll_1 h x0 (w32 (x1 + (rd_ h (rf_ h x0 8) x2))) (w32 (x2 + 1))))) := (jj_of bk_132_2 _ _ h).trans ((ff_of bk_132_2 [(20, x0), (0, x1), (0, x2)] [] h).trans (by
  show (ck_ (0 ≤ x0) (ck_ (0 ≤ (rf_ h x0 8)) (ck_ (0 ≤ x2 ∧ x2 < ln_ h (rf_ h x0 8)) (JJ 132 1 [(20, x0), (0, w32 (x1 + (rd_ h (rf_ h x0 8) x2))), (0, w32 (x2 + 1))] [] h)))) = _
  simp only [jt_132_1, ck_or1, ck_or2, rf_wr, ln_wr, nn_wr, rf_cp, ln_cp, nn_cp, ln_wf, nn_wf, rd_wf, nn_nw]
  try rfl))
theorem Wo_tiredOfAll_1_e (h : am_H) (x0 x1 x2 : Int) : Wo_tiredOfAll_1 h x0 x1 x2 = ck_ (0 ≤ x0) (if (rd_ h x0 0) ≤ x2 then some (h, x1) else ck_ (0 ≤ x0) (ck_ (0 ≤ (rf_ h x0 8)) (ck_ (0 ≤ x2 ∧ x2 < ln_ h (rf_ h x0 8)) (Wo_tiredOfAll_1 h x0 (w32 (x1 + (rd_ h (rf_ h x0 8) x2))) (w32 (x2 + 1)))))) := (ff_of bk_132_1 [(20, x0), (0, x1), (0, x2)] [] h).trans (by
  show (ck_ (0 ≤ x0) (if (rd_ h x0 0) ≤ x2 then JJ 132 3 [(20, x0), (0, x1), (0, x2)] [] h else JJ 132 2 [(20, x0), (0, x1), (0, x2)] [] h)) = _
  simp only [jt_132_2, jt_132_3, ck_or1, ck_or2, rf_wr, ln_wr, nn_wr, rf_cp, ln_cp, nn_cp, ln_wf, nn_wf, rd_wf, nn_nw]
  try rfl)
theorem cc_132 (h : am_H) (x0 : Int) : CC 132 [(20, x0)] h = Wo_tiredOfAll h x0 := cc_of pk_132 _ h
theorem pk_133 : am_prog 133 = some cd_133 := rfl
theorem bk_133_0 : bk_ am_prog 133 0 = some ([true, true, true], (bl_133_0, 9999)) := bk_of pk_133 rfl
theorem bk_133_1 : bk_ am_prog 133 1 = some ([true, true, true], (bl_133_1, 2)) := bk_of pk_133 rfl
theorem bk_133_2 : bk_ am_prog 133 2 = some ([false, false, false], (bl_133_2, 9999)) := bk_of pk_133 rfl
theorem jt_133_2 (h : am_H) (d0 d1 d2 : am_V) : JJ 133 2 [d0, d1, d2] [] h = some (h, 0) := (jj_of bk_133_2 _ _ h).trans (ff_of bk_133_2 [(9, 0), (9, 0), (9, 0)] [] h)
theorem jt_133_1 (h : am_H) (x0 x1 x2 : Int) : JJ 133 1 [(20, x0), (0, x1), (0, x2)] [] h = ck_ (0 ≤ x0) (bd_ (Wo_turnOver h x0 x1 x2) fun h1 _ => ck_ (0 ≤ x0) (ck_ (0 ≤ (rf_ h1 x0 7)) (ck_ (0 ≤ x1 ∧ x1 < ln_ h1 (rf_ h1 x0 7)) (ck_ (0 ≤ (rf_ h1 x0 7)) (ck_ (0 ≤ x1 ∧ x1 < ln_ h1 (rf_ h1 x0 7)) (some (wr_ h1 (rf_ h1 x0 7) x1 (w32 ((rd_ h1 (rf_ h1 x0 7) x1) - 2)), 0))))))) := (jj_of bk_133_1 _ _ h).trans ((ff_of bk_133_1 [(20, x0), (0, x1), (0, x2)] [] h).trans (by
  show (ck_ (0 ≤ x0) (bd_ (CC 66 [(20, x0), (0, x1), (0, x2)] h) fun h1 _ => ck_ (0 ≤ x0) (ck_ (0 ≤ (rf_ h1 x0 7)) (ck_ (0 ≤ x1 ∧ x1 < ln_ h1 (rf_ h1 x0 7)) (ck_ (0 ≤ (rf_ h1 x0 7)) (ck_ (0 ≤ x1 ∧ x1 < ln_ h1 (rf_ h1 x0 7)) (JJ 133 2 [(20, x0), (0, x1), (0, x2)] [] (wr_ h1 (rf_ h1 x0 7) x1 (w32 ((rd_ h1 (rf_ h1 x0 7) x1) - 2)))))))))) = _
  simp only [cc_66, jt_133_2, ck_or1, ck_or2, rf_wr, ln_wr, nn_wr, rf_cp, ln_cp, nn_cp, ln_wf, nn_wf, rd_wf, nn_nw]
  try rfl))
theorem Wo_turnBack_e (h : am_H) (x0 x1 x2 : Int) : Wo_turnBack h x0 x1 x2 = ck_ (0 ≤ x0) (bd_ (Wo_hasPile h x0 x1) fun h1 v2 => if v2 = 0 then some (h1, 0) else ck_ (0 ≤ x0) (bd_ (Wo_turnOver h1 x0 x1 x2) fun h3 _ => ck_ (0 ≤ x0) (ck_ (0 ≤ (rf_ h3 x0 7)) (ck_ (0 ≤ x1 ∧ x1 < ln_ h3 (rf_ h3 x0 7)) (ck_ (0 ≤ (rf_ h3 x0 7)) (ck_ (0 ≤ x1 ∧ x1 < ln_ h3 (rf_ h3 x0 7)) (some (wr_ h3 (rf_ h3 x0 7) x1 (w32 ((rd_ h3 (rf_ h3 x0 7) x1) - 2)), 0)))))))) := (ff_of bk_133_0 [(20, x0), (0, x1), (0, x2)] [] h).trans (by
  show (ck_ (0 ≤ x0) (bd_ (CC 54 [(20, x0), (0, x1)] h) fun h1 v2 => if v2 = 0 then JJ 133 2 [(20, x0), (0, x1), (0, x2)] [] h1 else JJ 133 1 [(20, x0), (0, x1), (0, x2)] [] h1)) = _
  simp only [cc_54, jt_133_1, jt_133_2, ck_or1, ck_or2, rf_wr, ln_wr, nn_wr, rf_cp, ln_cp, nn_cp, ln_wf, nn_wf, rd_wf, nn_nw]
  try rfl)
theorem cc_133 (h : am_H) (x0 x1 x2 : Int) : CC 133 [(20, x0), (0, x1), (0, x2)] h = Wo_turnBack h x0 x1 x2 := cc_of pk_133 _ h
theorem pk_134 : am_prog 134 = some cd_134 := rfl
theorem bk_134_0 : bk_ am_prog 134 0 = some ([true, true, true, false, false], (bl_134_0, 9999)) := bk_of pk_134 rfl
theorem bk_134_1 : bk_ am_prog 134 1 = some ([true, true, true, true, false], (bl_134_1, 9999)) := bk_of pk_134 rfl
theorem bk_134_2 : bk_ am_prog 134 2 = some ([true, true, true, true, false], (bl_134_2, 9999)) := bk_of pk_134 rfl
theorem bk_134_3 : bk_ am_prog 134 3 = some ([false, false, false, false, false], (bl_134_3, 9999)) := bk_of pk_134 rfl
theorem bk_134_4 : bk_ am_prog 134 4 = some ([true, true, true, true, false], (bl_134_4, 5)) := bk_of pk_134 rfl
theorem bk_134_5 : bk_ am_prog 134 5 = some ([true, true, true, true, true], (bl_134_5, 9999)) := bk_of pk_134 rfl
theorem bk_134_6 : bk_ am_prog 134 6 = some ([true, true, true, true, true], (bl_134_6, 9999)) := bk_of pk_134 rfl
theorem bk_134_7 : bk_ am_prog 134 7 = some ([true, true, true, true, false], (bl_134_7, 8)) := bk_of pk_134 rfl
theorem bk_134_8 : bk_ am_prog 134 8 = some ([true, false, true, true, true], (bl_134_8, 9999)) := bk_of pk_134 rfl
theorem bk_134_9 : bk_ am_prog 134 9 = some ([true, false, true, true, true], (bl_134_9, 9999)) := bk_of pk_134 rfl
theorem bk_134_10 : bk_ am_prog 134 10 = some ([true, false, true, true, false], (bl_134_10, 9999)) := bk_of pk_134 rfl
theorem jt_134_5 (h : am_H) (x0 x1 x2 x3 x4 : Int) : JJ 134 5 [(20, x0), (0, x1), (0, x2), (0, x3), (0, x4)] [] h = Wo_lift_5 h x0 x1 x2 x3 x4 := jj_of bk_134_5 _ _ h
theorem jt_134_8 (h : am_H) (d1 : am_V) (x0 x2 x3 x4 : Int) : JJ 134 8 [(20, x0), d1, (0, x2), (0, x3), (0, x4)] [] h = Wo_lift_8 h x0 x2 x3 x4 := jj_of bk_134_8 _ _ h
theorem jt_134_3 (h : am_H) (d0 d1 d2 d3 d4 : am_V) : JJ 134 3 [d0, d1, d2, d3, d4] [] h = some (h, 0) := (jj_of bk_134_3 _ _ h).trans (ff_of bk_134_3 [(9, 0), (9, 0), (9, 0), (9, 0), (9, 0)] [] h)
theorem jt_134_4 (h : am_H) (d4 : am_V) (x0 x1 x2 x3 : Int) : JJ 134 4 [(20, x0), (0, x1), (0, x2), (0, x3), d4] [] h = Wo_lift_5 h x0 x1 x2 x3 1 := (jj_of bk_134_4 _ _ h).trans ((ff_of bk_134_4 [(20, x0), (0, x1), (0, x2), (0, x3), (9, 0)] [] h).trans (by
  show (JJ 134 5 [(20, x0), (0, x1), (0, x2), (0, x3), (0, 1)] [] h) = _
  simp only [jt_134_5, ck_or1, ck_or2, rf_wr, ln_wr, nn_wr, rf_cp, ln_cp, nn_cp, ln_wf, nn_wf, rd_wf, nn_nw]
  try rfl))
theorem jt_134_2 (h : am_H) (d4 : am_V) (x0 x1 x2 x3 : Int) : JJ 134 2 [(20, x0), (0, x1), (0, x2), (0, x3), d4] [] h = ck_ (0 ≤ x0) (ck_ (0 ≤ (rf_ h x0 6)) (ck_ (0 ≤ x2 ∧ x2 < ln_ h (rf_ h x0 6)) (if (rd_ h (rf_ h x0 6) x2) < 5 then Wo_lift_5 h x0 x1 x2 x3 1 else some (h, 0)))) := (jj_of bk_134_2 _ _ h).trans ((ff_of bk_134_2 [(20, x0), (0, x1), (0, x2), (0, x3), (9, 0)] [] h).trans (by
  show (ck_ (0 ≤ x0) (ck_ (0 ≤ (rf_ h x0 6)) (ck_ (0 ≤ x2 ∧ x2 < ln_ h (rf_ h x0 6)) (if (rd_ h (rf_ h x0 6) x2) < 5 then JJ 134 4 [(20, x0), (0, x1), (0, x2), (0, x3), (9, 0)] [] h else JJ 134 3 [(20, x0), (0, x1), (0, x2), (0, x3), (9, 0)] [] h)))) = _
  simp only [jt_134_3, jt_134_4, ck_or1, ck_or2, rf_wr, ln_wr, nn_wr, rf_cp, ln_cp, nn_cp, ln_wf, nn_wf, rd_wf, nn_nw]
  try rfl))
theorem jt_134_1 (h : am_H) (d4 : am_V) (x0 x1 x2 x3 : Int) : JJ 134 1 [(20, x0), (0, x1), (0, x2), (0, x3), d4] [] h = ck_ (0 ≤ x0) (bd_ (Wo_hasPile h x0 x2) fun h1 v2 => if v2 = 0 then some (h1, 0) else ck_ (0 ≤ x0) (ck_ (0 ≤ (rf_ h1 x0 6)) (ck_ (0 ≤ x2 ∧ x2 < ln_ h1 (rf_ h1 x0 6)) (if (rd_ h1 (rf_ h1 x0 6) x2) < 5 then Wo_lift_5 h1 x0 x1 x2 x3 1 else some (h1, 0))))) := (jj_of bk_134_1 _ _ h).trans ((ff_of bk_134_1 [(20, x0), (0, x1), (0, x2), (0, x3), (9, 0)] [] h).trans (by
  show (ck_ (0 ≤ x0) (bd_ (CC 54 [(20, x0), (0, x2)] h) fun h1 v2 => if v2 = 0 then JJ 134 3 [(20, x0), (0, x1), (0, x2), (0, x3), (9, 0)] [] h1 else JJ 134 2 [(20, x0), (0, x1), (0, x2), (0, x3), (9, 0)] [] h1)) = _
  simp only [cc_54, jt_134_2, jt_134_3, ck_or1, ck_or2, rf_wr, ln_wr, nn_wr, rf_cp, ln_cp, nn_cp, ln_wf, nn_wf, rd_wf, nn_nw]
  try rfl))
theorem Wo_lift_e (h : am_H) (x0 x1 x2 : Int) : Wo_lift h x0 x1 x2 = ck_ (0 ≤ x0) (bd_ (Wo_plateAt h x0 x1 0) fun h1 v2 => if v2 < 0 then some (h1, 0) else ck_ (0 ≤ x0) (bd_ (Wo_hasPile h1 x0 x2) fun h3 v4 => if v4 = 0 then some (h3, 0) else ck_ (0 ≤ x0) (ck_ (0 ≤ (rf_ h3 x0 6)) (ck_ (0 ≤ x2 ∧ x2 < ln_ h3 (rf_ h3 x0 6)) (if (rd_ h3 (rf_ h3 x0 6) x2) < 5 then Wo_lift_5 h3 x0 x1 x2 v2 1 else some (h3, 0)))))) := (ff_of bk_134_0 [(20, x0), (0, x1), (0, x2), (9, 0), (9, 0)] [] h).trans (by
  show (ck_ (0 ≤ x0) (bd_ (CC 55 [(20, x0), (0, x1), (0, 0)] h) fun h1 v2 => if v2 < 0 then JJ 134 3 [(20, x0), (0, x1), (0, x2), (0, v2), (9, 0)] [] h1 else JJ 134 1 [(20, x0), (0, x1), (0, x2), (0, v2), (9, 0)] [] h1)) = _
  simp only [cc_55, jt_134_1, jt_134_3, ck_or1, ck_or2, rf_wr, ln_wr, nn_wr, rf_cp, ln_cp, nn_cp, ln_wf, nn_wf, rd_wf, nn_nw]
  try rfl)
theorem jt_134_7 (h : am_H) (d4 : am_V) (x0 x1 x2 x3 : Int) : JJ 134 7 [(20, x0), (0, x1), (0, x2), (0, x3), d4] [] h = ck_ (0 ≤ x0) (ck_ (0 ≤ (rf_ h x0 6)) (ck_ (0 ≤ x1 ∧ x1 < ln_ h (rf_ h x0 6)) (ck_ (0 ≤ (rf_ h x0 6)) (ck_ (0 ≤ x1 ∧ x1 < ln_ h (rf_ h x0 6)) (ck_ (0 ≤ x0) (ck_ (0 ≤ (rf_ h x0 6)) (ck_ (0 ≤ x2 ∧ x2 < ln_ h (rf_ h x0 6)) (Wo_lift_8 (wr_ h (rf_ h x0 6) x1 (w32 ((rd_ h (rf_ h x0 6) x1) - 1))) x0 x2 x3 (rd_ (wr_ h (rf_ h x0 6) x1 (w32 ((rd_ h (rf_ h x0 6) x1) - 1))) (rf_ h x0 6) x2))))))))) := (jj_of bk_134_7 _ _ h).trans ((ff_of bk_134_7 [(20, x0), (0, x1), (0, x2), (0, x3), (9, 0)] [] h).trans (by
  show (ck_ (0 ≤ x0) (ck_ (0 ≤ (rf_ h x0 6)) (ck_ (0 ≤ x1 ∧ x1 < ln_ h (rf_ h x0 6)) (ck_ (0 ≤ (rf_ h x0 6)) (ck_ (0 ≤ x1 ∧ x1 < ln_ h (rf_ h x0 6)) (ck_ (0 ≤ x0) (ck_ (0 ≤ (rf_ h x0 6)) (ck_ (0 ≤ x2 ∧ x2 < ln_ h (rf_ h x0 6)) (JJ 134 8 [(20, x0), (0, x1), (0, x2), (0, x3), (0, rd_ (wr_ h (rf_ h x0 6) x1 (w32 ((rd_ h (rf_ h x0 6) x1) - 1))) (rf_ h x0 6) x2)] [] (wr_ h (rf_ h x0 6) x1 (w32 ((rd_ h (rf_ h x0 6) x1) - 1)))))))))))) = _
  simp only [jt_134_8, ck_or1, ck_or2, rf_wr, ln_wr, nn_wr, rf_cp, ln_cp, nn_cp, ln_wf, nn_wf, rd_wf, nn_nw]
  try rfl))
set_option maxRecDepth 20000 in
theorem jt_134_6 (h : am_H) (x0 x1 x2 x3 x4 : Int) : JJ 134 6 [(20, x0), (0, x1), (0, x2), (0, x3), (0, x4)] [] h = ck_ (0 ≤ x0) (ck_ (0 ≤ x0) (ck_ (0 ≤ (rf_ h x0 9)) (ck_ (0 ≤ (w32 ((w32 (x1 * 5)) + x4)) ∧ (w32 ((w32 (x1 * 5)) + x4)) < ln_ h (rf_ h x0 9)) (ck_ (0 ≤ (rf_ h x0 9)) (ck_ (0 ≤ (w32 ((w32 ((w32 (x1 * 5)) + x4)) - 1)) ∧ (w32 ((w32 ((w32 (x1 * 5)) + x4)) - 1)) < ln_ h (rf_ h x0 9)) (Wo_lift_5 (wr_ h (rf_ h x0 9) (w32 ((w32 ((w32 (x1 * 5)) + x4)) - 1)) (rd_ h (rf_ h x0 9) (w32 ((w32 (x1 * 5)) + x4)))) x0 x1 x2 x3 (w32 (x4 + 1)))))))) := (jj_of bk_134_6 _ _ h).trans ((ff_of bk_134_6 [(20, x0), (0, x1), (0, x2), (0, x3), (0, x4)] [] h).trans (by
  show (ck_ (0 ≤ x0) (ck_ (0 ≤ x0) (ck_ (0 ≤ (rf_ h x0 9)) (ck_ (0 ≤ (w32 ((w32 (x1 * 5)) + x4)) ∧ (w32 ((w32 (x1 * 5)) + x4)) < ln_ h (rf_ h x0 9)) (ck_ (0 ≤ (rf_ h x0 9)) (ck_ (0 ≤ (w32 ((w32 ((w32 (x1 * 5)) + x4)) - 1)) ∧ (w32 ((w32 ((w32 (x1 * 5)) + x4)) - 1)) < ln_ h (rf_ h x0 9)) (JJ 134 5 [(20, x0), (0, x1), (0, x2), (0, x3), (0, w32 (x4 + 1))] [] (wr_ h (rf_ h x0 9) (w32 ((w32 ((w32 (x1 * 5)) + x4)) - 1)) (rd_ h (rf_ h x0 9) (w32 ((w32 (x1 * 5)) + x4))))))))))) = _
  simp only [jt_134_5, ck_or1, ck_or2, rf_wr, ln_wr, nn_wr, rf_cp, ln_cp, nn_cp, ln_wf, nn_wf, rd_wf, nn_nw]
  try rfl))
set_option maxRecDepth 20000 in
theorem Wo_lift_5_e (h : am_H) (x0 x1 x2 x3 x4 : Int) : Wo_lift_5 h x0 x1 x2 x3 x4 = ck_ (0 ≤ x0) (ck_ (0 ≤ (rf_ h x0 6)) (ck_ (0 ≤ x1 ∧ x1 < ln_ h (rf_ h x0 6)) (if (rd_ h (rf_ h x0 6) x1) ≤ x4 then ck_ (0 ≤ x0) (ck_ (0 ≤ (rf_ h x0 6)) (ck_ (0 ≤ x1 ∧ x1 < ln_ h (rf_ h x0 6)) (ck_ (0 ≤ (rf_ h x0 6)) (ck_ (0 ≤ x1 ∧ x1 < ln_ h (rf_ h x0 6)) (ck_ (0 ≤ x0) (ck_ (0 ≤ (rf_ h x0 6)) (ck_ (0 ≤ x2 ∧ x2 < ln_ h (rf_ h x0 6)) (Wo_lift_8 (wr_ h (rf_ h x0 6) x1 (w32 ((rd_ h (rf_ h x0 6) x1) - 1))) x0 x2 x3 (rd_ (wr_ h (rf_ h x0 6) x1 (w32 ((rd_ h (rf_ h x0 6) x1) - 1))) (rf_ h x0 6) x2))))))))) else ck_ (0 ≤ x0) (ck_ (0 ≤ x0) (ck_ (0 ≤ (rf_ h x0 9)) (ck_ (0 ≤ (w32 ((w32 (x1 * 5)) + x4)) ∧ (w32 ((w32 (x1 * 5)) + x4)) < ln_ h (rf_ h x0 9)) (ck_ (0 ≤ (rf_ h x0 9)) (ck_ (0 ≤ (w32 ((w32 ((w32 (x1 * 5)) + x4)) - 1)) ∧ (w32 ((w32 ((w32 (x1 * 5)) + x4)) - 1)) < ln_ h (rf_ h x0 9)) (Wo_lift_5 (wr_ h (rf_ h x0 9) (w32 ((w32 ((w32 (x1 * 5)) + x4)) - 1)) (rd_ h (rf_ h x0 9) (w32 ((w32 (x1 * 5)) + x4)))) x0 x1 x2 x3 (w32 (x4 + 1))))))))))) := (ff_of bk_134_5 [(20, x0), (0, x1), (0, x2), (0, x3), (0, x4)] [] h).trans (by
  show (ck_ (0 ≤ x0) (ck_ (0 ≤ (rf_ h x0 6)) (ck_ (0 ≤ x1 ∧ x1 < ln_ h (rf_ h x0 6)) (if (rd_ h (rf_ h x0 6) x1) ≤ x4 then JJ 134 7 [(20, x0), (0, x1), (0, x2), (0, x3), (0, x4)] [] h else JJ 134 6 [(20, x0), (0, x1), (0, x2), (0, x3), (0, x4)] [] h)))) = _
  simp only [jt_134_6, jt_134_7, ck_or1, ck_or2, rf_wr, ln_wr, nn_wr, rf_cp, ln_cp, nn_cp, ln_wf, nn_wf, rd_wf, nn_nw]
  try rfl)
theorem jt_134_10 (h : am_H) (d1 d4 : am_V) (x0 x2 x3 : Int) : JJ 134 10 [(20, x0), d1, (0, x2), (0, x3), d4] [] h = ck_ (0 ≤ x0) (ck_ (0 ≤ (rf_ h x0 9)) (ck_ (0 ≤ (w32 (x2 * 5)) ∧ (w32 (x2 * 5)) < ln_ h (rf_ h x0 9)) (ck_ (0 ≤ x0) (ck_ (0 ≤ (rf_ h x0 6)) (ck_ (0 ≤ x2 ∧ x2 < ln_ h (rf_ h x0 6)) (ck_ (0 ≤ (rf_ h x0 6)) (ck_ (0 ≤ x2 ∧ x2 < ln_ h (rf_ h x0 6)) (some (wr_ (wr_ h (rf_ h x0 9) (w32 (x2 * 5)) x3) (rf_ h x0 6) x2 (w32 ((rd_ (wr_ h (rf_ h x0 9) (w32 (x2 * 5)) x3) (rf_ h x0 6) x2) + 1)), 0))))))))) := (jj_of bk_134_10 _ _ h).trans (ff_of bk_134_10 [(20, x0), (9, 0), (0, x2), (0, x3), (9, 0)] [] h)
set_option maxRecDepth 20000 in
theorem jt_134_9 (h : am_H) (d1 : am_V) (x0 x2 x3 x4 : Int) : JJ 134 9 [(20, x0), d1, (0, x2), (0, x3), (0, x4)] [] h = ck_ (0 ≤ x0) (ck_ (0 ≤ x0) (ck_ (0 ≤ (rf_ h x0 9)) (ck_ (0 ≤ (w32 ((w32 ((w32 (x2 * 5)) + x4)) - 1)) ∧ (w32 ((w32 ((w32 (x2 * 5)) + x4)) - 1)) < ln_ h (rf_ h x0 9)) (ck_ (0 ≤ (rf_ h x0 9)) (ck_ (0 ≤ (w32 ((w32 (x2 * 5)) + x4)) ∧ (w32 ((w32 (x2 * 5)) + x4)) < ln_ h (rf_ h x0 9)) (Wo_lift_8 (wr_ h (rf_ h x0 9) (w32 ((w32 (x2 * 5)) + x4)) (rd_ h (rf_ h x0 9) (w32 ((w32 ((w32 (x2 * 5)) + x4)) - 1)))) x0 x2 x3 (w32 (x4 + (-1))))))))) := (jj_of bk_134_9 _ _ h).trans ((ff_of bk_134_9 [(20, x0), (9, 0), (0, x2), (0, x3), (0, x4)] [] h).trans (by
  show (ck_ (0 ≤ x0) (ck_ (0 ≤ x0) (ck_ (0 ≤ (rf_ h x0 9)) (ck_ (0 ≤ (w32 ((w32 ((w32 (x2 * 5)) + x4)) - 1)) ∧ (w32 ((w32 ((w32 (x2 * 5)) + x4)) - 1)) < ln_ h (rf_ h x0 9)) (ck_ (0 ≤ (rf_ h x0 9)) (ck_ (0 ≤ (w32 ((w32 (x2 * 5)) + x4)) ∧ (w32 ((w32 (x2 * 5)) + x4)) < ln_ h (rf_ h x0 9)) (JJ 134 8 [(20, x0), (9, 0), (0, x2), (0, x3), (0, w32 (x4 + (-1)))] [] (wr_ h (rf_ h x0 9) (w32 ((w32 (x2 * 5)) + x4)) (rd_ h (rf_ h x0 9) (w32 ((w32 ((w32 (x2 * 5)) + x4)) - 1))))))))))) = _
  simp only [jt_134_8, ck_or1, ck_or2, rf_wr, ln_wr, nn_wr, rf_cp, ln_cp, nn_cp, ln_wf, nn_wf, rd_wf, nn_nw]
  try rfl))
set_option maxRecDepth 20000 in
theorem Wo_lift_8_e (h : am_H) (x0 x2 x3 x4 : Int) : Wo_lift_8 h x0 x2 x3 x4 = if x4 ≤ 0 then ck_ (0 ≤ x0) (ck_ (0 ≤ (rf_ h x0 9)) (ck_ (0 ≤ (w32 (x2 * 5)) ∧ (w32 (x2 * 5)) < ln_ h (rf_ h x0 9)) (ck_ (0 ≤ x0) (ck_ (0 ≤ (rf_ h x0 6)) (ck_ (0 ≤ x2 ∧ x2 < ln_ h (rf_ h x0 6)) (ck_ (0 ≤ (rf_ h x0 6)) (ck_ (0 ≤ x2 ∧ x2 < ln_ h (rf_ h x0 6)) (some (wr_ (wr_ h (rf_ h x0 9) (w32 (x2 * 5)) x3) (rf_ h x0 6) x2 (w32 ((rd_ (wr_ h (rf_ h x0 9) (w32 (x2 * 5)) x3) (rf_ h x0 6) x2) + 1)), 0))))))))) else ck_ (0 ≤ x0) (ck_ (0 ≤ x0) (ck_ (0 ≤ (rf_ h x0 9)) (ck_ (0 ≤ (w32 ((w32 ((w32 (x2 * 5)) + x4)) - 1)) ∧ (w32 ((w32 ((w32 (x2 * 5)) + x4)) - 1)) < ln_ h (rf_ h x0 9)) (ck_ (0 ≤ (rf_ h x0 9)) (ck_ (0 ≤ (w32 ((w32 (x2 * 5)) + x4)) ∧ (w32 ((w32 (x2 * 5)) + x4)) < ln_ h (rf_ h x0 9)) (Wo_lift_8 (wr_ h (rf_ h x0 9) (w32 ((w32 (x2 * 5)) + x4)) (rd_ h (rf_ h x0 9) (w32 ((w32 ((w32 (x2 * 5)) + x4)) - 1)))) x0 x2 x3 (w32 (x4 + (-1))))))))) := (ff_of bk_134_8 [(20, x0), (9, 0), (0, x2), (0, x3), (0, x4)] [] h).trans (by
  show (if x4 ≤ 0 then JJ 134 10 [(20, x0), (9, 0), (0, x2), (0, x3), (0, x4)] [] h else JJ 134 9 [(20, x0), (9, 0), (0, x2), (0, x3), (0, x4)] [] h) = _
  simp only [jt_134_10, jt_134_9, ck_or1, ck_or2, rf_wr, ln_wr, nn_wr, rf_cp, ln_cp, nn_cp, ln_wf, nn_wf, rd_wf, nn_nw]
  try rfl)
theorem cc_134 (h : am_H) (x0 x1 x2 : Int) : CC 134 [(20, x0), (0, x1), (0, x2)] h = Wo_lift h x0 x1 x2 := cc_of pk_134 _ h
theorem pk_135 : am_prog 135 = some cd_135 := rfl
theorem bk_135_0 : bk_ am_prog 135 0 = some ([true, true], (bl_135_0, 9999)) := bk_of pk_135 rfl
theorem bk_135_1 : bk_ am_prog 135 1 = some ([true, true], (bl_135_1, 9999)) := bk_of pk_135 rfl
theorem bk_135_2 : bk_ am_prog 135 2 = some ([true, true], (bl_135_2, 3)) := bk_of pk_135 rfl
theorem bk_135_3 : bk_ am_prog 135 3 = some ([false, false], (bl_135_3, 9999)) := bk_of pk_135 rfl
theorem jt_135_3 (h : am_H) (d0 d1 : am_V) : JJ 135 3 [d0, d1] [] h = some (h, 0) := (jj_of bk_135_3 _ _ h).trans (ff_of bk_135_3 [(9, 0), (9, 0)] [] h)
theorem jt_135_2 (h : am_H) (x0 x1 : Int) : JJ 135 2 [(20, x0), (0, x1)] [] h = ck_ (0 ≤ x0) (ck_ (0 ≤ (rf_ h x0 12)) (ck_ (0 ≤ x1 ∧ x1 < ln_ h (rf_ h x0 12)) (some (wr_ h (rf_ h x0 12) x1 0, 0)))) := (jj_of bk_135_2 _ _ h).trans ((ff_of bk_135_2 [(20, x0), (0, x1)] [] h).trans (by
  show (ck_ (0 ≤ x0) (ck_ (0 ≤ (rf_ h x0 12)) (ck_ (0 ≤ x1 ∧ x1 < ln_ h (rf_ h x0 12)) (JJ 135 3 [(20, x0), (0, x1)] [] (wr_ h (rf_ h x0 12) x1 0))))) = _
  simp only [jt_135_3, ck_or1, ck_or2, rf_wr, ln_wr, nn_wr, rf_cp, ln_cp, nn_cp, ln_wf, nn_wf, rd_wf, nn_nw]
  try rfl))
theorem jt_135_1 (h : am_H) (x0 x1 : Int) : JJ 135 1 [(20, x0), (0, x1)] [] h = ck_ (0 ≤ x0) (if (rd_ h x0 2) ≤ x1 then some (h, 0) else ck_ (0 ≤ x0) (ck_ (0 ≤ (rf_ h x0 12)) (ck_ (0 ≤ x1 ∧ x1 < ln_ h (rf_ h x0 12)) (some (wr_ h (rf_ h x0 12) x1 0, 0))))) := (jj_of bk_135_1 _ _ h).trans ((ff_of bk_135_1 [(20, x0), (0, x1)] [] h).trans (by
  show (ck_ (0 ≤ x0) (if (rd_ h x0 2) ≤ x1 then JJ 135 3 [(20, x0), (0, x1)] [] h else JJ 135 2 [(20, x0), (0, x1)] [] h)) = _
  simp only [jt_135_2, jt_135_3, ck_or1, ck_or2, rf_wr, ln_wr, nn_wr, rf_cp, ln_cp, nn_cp, ln_wf, nn_wf, rd_wf, nn_nw]
  try rfl))
theorem Wo_mend_e (h : am_H) (x0 x1 : Int) : Wo_mend h x0 x1 = if x1 < 0 then some (h, 0) else ck_ (0 ≤ x0) (if (rd_ h x0 2) ≤ x1 then some (h, 0) else ck_ (0 ≤ x0) (ck_ (0 ≤ (rf_ h x0 12)) (ck_ (0 ≤ x1 ∧ x1 < ln_ h (rf_ h x0 12)) (some (wr_ h (rf_ h x0 12) x1 0, 0))))) := (ff_of bk_135_0 [(20, x0), (0, x1)] [] h).trans (by
  show (if x1 < 0 then JJ 135 3 [(20, x0), (0, x1)] [] h else JJ 135 1 [(20, x0), (0, x1)] [] h) = _
  simp only [jt_135_1, jt_135_3, ck_or1, ck_or2, rf_wr, ln_wr, nn_wr, rf_cp, ln_cp, nn_cp, ln_wf, nn_wf, rd_wf, nn_nw]
  try rfl)
theorem cc_135 (h : am_H) (x0 x1 : Int) : CC 135 [(20, x0), (0, x1)] h = Wo_mend h x0 x1 := cc_of pk_135 _ h
theorem pk_136 : am_prog 136 = some cd_136 := rfl
theorem bk_136_0 : bk_ am_prog 136 0 = some ([true], (bl_136_0, 1)) := bk_of pk_136 rfl
theorem bk_136_1 : bk_ am_prog 136 1 = some ([true], (bl_136_1, 9999)) := bk_of pk_136 rfl
set_option maxRecDepth 20000 in
theorem jt_136_1 (h : am_H) (x0 : Int) : JJ 136 1 [(21, x0)] [] h = ck_ (0 ≤ (nn_ h)) (bd_ (La_new (nw_ h 3 7) (nn_ h)) fun h1 _ => ck_ (0 ≤ x0) (ck_ (0 ≤ (nn_ h1)) (bd_ (Mi_new (nw_ (wf_ h1 x0 11 (nn_ h)) 4 8) (nn_ h1)) fun h3 _ => ck_ (0 ≤ x0) (ck_ (0 ≤ (nn_ h3)) (bd_ (Do_new (nw_ (wf_ h3 x0 12 (nn_ h1)) 1 5) (nn_ h3)) fun h5 _ => ck_ (0 ≤ x0) (ck_ (0 ≤ (nn_ h5)) (bd_ (Se_new (nw_ (wf_ h5 x0 13 (nn_ h3)) 6 8) (nn_ h5)) fun h7 _ => ck_ (0 ≤ x0) (ck_ (0 ≤ (12 : Int) ∧ (12 : Int) ≤ 1000000) (ck_ (0 ≤ x0) (ck_ (0 ≤ x0) (ck_ (0 ≤ (5 : Int) ∧ (5 : Int) ≤ 1000000) (ck_ (0 ≤ x0) (ck_ (0 ≤ (25 : Int) ∧ (25 : Int) ≤ 1000000) (ck_ (0 ≤ x0) (ck_ (0 ≤ (4 : Int) ∧ (4 : Int) ≤ 1000000) (ck_ (0 ≤ x0) (some (wf_ (nw_ (wf_ (nw_ (wf_ (nw_ (wf_ (wf_ (nw_ (wf_ h7 x0 14 (nn_ h5)) 24 12) x0 15 (nn_ h7)) x0 16 (-1)) 20 5) x0 17 (nn_ h7 + 1)) 20 25) x0 18 (nn_ h7 + 1 + 1)) 20 4) x0 19 (nn_ h7 + 1 + 1 + 1), 0)))))))))))))))))) := (jj_of bk_136_1 _ _ h).trans ((ff_of bk_136_1 [(21, x0)] [] h).trans (by
  show (ck_ (0 ≤ (nn_ h)) (bd_ (CC 45 [(13, nn_ h)] (nw_ h 3 7)) fun h1 _ => ck_ (0 ≤ x0) (ck_ (0 ≤ (nn_ h1)) (bd_ (CC 60 [(14, nn_ h1)] (nw_ (wf_ h1 x0 11 (nn_ h)) 4 8)) fun h3 _ => ck_ (0 ≤ x0) (ck_ (0 ≤ (nn_ h3)) (bd_ (CC 21 [(11, nn_ h3)] (nw_ (wf_ h3 x0 12 (nn_ h1)) 1 5)) fun h5 _ => ck_ (0 ≤ x0) (ck_ (0 ≤ (nn_ h5)) (bd_ (CC 103 [(16, nn_ h5)] (nw_ (wf_ h5 x0 13 (nn_ h3)) 6 8)) fun h7 _ => ck_ (0 ≤ x0) (ck_ (0 ≤ (12 : Int) ∧ (12 : Int) ≤ 1000000) (ck_ (0 ≤ x0) (ck_ (0 ≤ x0) (ck_ (0 ≤ (5 : Int) ∧ (5 : Int) ≤ 1000000) (ck_ (0 ≤ x0) (ck_ (0 ≤ (25 : Int) ∧ (25 : Int) ≤ 1000000) (ck_ (0 ≤ x0) (ck_ (0 ≤ (4 : Int) ∧ (4 : Int) ≤ 1000000) (ck_ (0 ≤ x0) (some (wf_ (nw_ (wf_ (nw_ (wf_ (nw_ (wf_ (wf_ (nw_ (wf_ h7 x0 14 (nn_ h5)) 24 12) x0 15 (nn_ h7)) x0 16 (-1)) 20 5) x0 17 (nn_ h7 + 1)) 20 25) x0 18 (nn_ h7 + 1 + 1)) 20 4) x0 19 (nn_ h7 + 1 + 1 + 1), 0))))))))))))))))))) = _
  simp only [cc_21, cc_45, cc_60, cc_103, ck_or1, ck_or2, rf_wr, ln_wr, nn_wr, rf_cp, ln_cp, nn_cp, ln_wf, nn_wf, rd_wf, nn_nw]
  try rfl))
set_option maxRecDepth 20000 in
theorem Pp_new_e (h : am_H) (x0 : Int) : Pp_new h x0 = ck_ (0 ≤ x0) (ck_ (0 ≤ (700 : Int) ∧ (700 : Int) ≤ 1000000) (ck_ (0 ≤ x0) (ck_ (0 ≤ x0) (ck_ (0 ≤ x0) (ck_ (0 ≤ x0) (ck_ (0 ≤ (nn_ h + 1)) (bd_ (Re_new (nw_ (wr_ (wr_ (wr_ (wf_ (nw_ h 21 700) x0 0 (nn_ h)) x0 1 0) x0 2 0) x0 3 (-1)) 5 3) (nn_ h + 1)) fun h1 _ => ck_ (0 ≤ x0) (ck_ (0 ≤ (nn_ h1)) (bd_ (To_new (nw_ (wf_ h1 x0 4 (nn_ h + 1)) 8 17) (nn_ h1)) fun h3 _ => ck_ (0 ≤ x0) (ck_ (0 ≤ (nn_ h3)) (bd_ (To_new (nw_ (wf_ h3 x0 5 (nn_ h1)) 8 17) (nn_ h3)) fun h5 _ => ck_ (0 ≤ x0) (ck_ (0 ≤ (nn_ h5)) (bd_ (Wo_new (nw_ (wf_ h5 x0 6 (nn_ h3)) 10 14) (nn_ h5)) fun h7 _ => ck_ (0 ≤ x0) (ck_ (0 ≤ (nn_ h7)) (bd_ (Wo_new (nw_ (wf_ h7 x0 7 (nn_ h5)) 10 14) (nn_ h7)) fun h9 _ => ck_ (0 ≤ x0) (ck_ (0 ≤ (nn_ h9)) (bd_ (Wo_new (nw_ (wf_ h9 x0 8 (nn_ h7)) 10 14) (nn_ h9)) fun h11 _ => ck_ (0 ≤ x0) (ck_ (0 ≤ x0) (ck_ (0 ≤ (nn_ h11)) (bd_ (La_new (nw_ (wr_ (wf_ h11 x0 9 (nn_ h9)) x0 10 0) 3 7) (nn_ h11)) fun h13 _ => ck_ (0 ≤ x0) (ck_ (0 ≤ (nn_ h13)) (bd_ (Mi_new (nw_ (wf_ h13 x0 11 (nn_ h11)) 4 8) (nn_ h13)) fun h15 _ => ck_ (0 ≤ x0) (ck_ (0 ≤ (nn_ h15)) (bd_ (Do_new (nw_ (wf_ h15 x0 12 (nn_ h13)) 1 5) (nn_ h15)) fun h17 _ => ck_ (0 ≤ x0) (ck_ (0 ≤ (nn_ h17)) (bd_ (Se_new (nw_ (wf_ h17 x0 13 (nn_ h15)) 6 8) (nn_ h17)) fun h19 _ => ck_ (0 ≤ x0) (ck_ (0 ≤ (12 : Int) ∧ (12 : Int) ≤ 1000000) (ck_ (0 ≤ x0) (ck_ (0 ≤ x0) (ck_ (0 ≤ (5 : Int) ∧ (5 : Int) ≤ 1000000) (ck_ (0 ≤ x0) (ck_ (0 ≤ (25 : Int) ∧ (25 : Int) ≤ 1000000) (ck_ (0 ≤ x0) (ck_ (0 ≤ (4 : Int) ∧ (4 : Int) ≤ 1000000) (ck_ (0 ≤ x0) (some (wf_ (nw_ (wf_ (nw_ (wf_ (nw_ (wf_ (wf_ (nw_ (wf_ h19 x0 14 (nn_ h17)) 24 12) x0 15 (nn_ h19)) x0 16 (-1)) 20 5) x0 17 (nn_ h19 + 1)) 20 25) x0 18 (nn_ h19 + 1 + 1)) 20 4) x0 19 (nn_ h19 + 1 + 1 + 1), 0))))))))))))))))))))))))))))))))))))) := (ff_of bk_136_0 [(21, x0)] [] h).trans (by
  show (ck_ (0 ≤ x0) (ck_ (0 ≤ (700 : Int) ∧ (700 : Int) ≤ 1000000) (ck_ (0 ≤ x0) (ck_ (0 ≤ x0) (ck_ (0 ≤ x0) (ck_ (0 ≤ x0) (ck_ (0 ≤ (nn_ h + 1)) (bd_ (CC 81 [(15, nn_ h + 1)] (nw_ (wr_ (wr_ (wr_ (wf_ (nw_ h 21 700) x0 0 (nn_ h)) x0 1 0) x0 2 0) x0 3 (-1)) 5 3)) fun h1 _ => ck_ (0 ≤ x0) (ck_ (0 ≤ (nn_ h1)) (bd_ (CC 114 [(18, nn_ h1)] (nw_ (wf_ h1 x0 4 (nn_ h + 1)) 8 17)) fun h3 _ => ck_ (0 ≤ x0) (ck_ (0 ≤ (nn_ h3)) (bd_ (CC 114 [(18, nn_ h3)] (nw_ (wf_ h3 x0 5 (nn_ h1)) 8 17)) fun h5 _ => ck_ (0 ≤ x0) (ck_ (0 ≤ (nn_ h5)) (bd_ (CC 113 [(20, nn_ h5)] (nw_ (wf_ h5 x0 6 (nn_ h3)) 10 14)) fun h7 _ => ck_ (0 ≤ x0) (ck_ (0 ≤ (nn_ h7)) (bd_ (CC 113 [(20, nn_ h7)] (nw_ (wf_ h7 x0 7 (nn_ h5)) 10 14)) fun h9 _ => ck_ (0 ≤ x0) (ck_ (0 ≤ (nn_ h9)) (bd_ (CC 113 [(20, nn_ h9)] (nw_ (wf_ h9 x0 8 (nn_ h7)) 10 14)) fun h11 _ => ck_ (0 ≤ x0) (ck_ (0 ≤ x0) (JJ 136 1 [(21, x0)] [] (wr_ (wf_ h11 x0 9 (nn_ h9)) x0 10 0))))))))))))))))))))) = _
  simp only [cc_113, cc_81, cc_114, jt_136_1, ck_or1, ck_or2, rf_wr, ln_wr, nn_wr, rf_cp, ln_cp, nn_cp, ln_wf, nn_wf, rd_wf, nn_nw]
  try rfl)
theorem cc_136 (h : am_H) (x0 : Int) : CC 136 [(21, x0)] h = Pp_new h x0 := cc_of pk_136 _ h
theorem pk_137 : am_prog 137 = some cd_137 := rfl
theorem bk_137_0 : bk_ am_prog 137 0 = some ([true, true, false], (bl_137_0, 1)) := bk_of pk_137 rfl
theorem bk_137_1 : bk_ am_prog 137 1 = some ([true, true, true], (bl_137_1, 9999)) := bk_of pk_137 rfl
theorem bk_137_2 : bk_ am_prog 137 2 = some ([true, true, true], (bl_137_2, 9999)) := bk_of pk_137 rfl
theorem bk_137_3 : bk_ am_prog 137 3 = some ([true, true, true], (bl_137_3, 9999)) := bk_of pk_137 rfl
theorem bk_137_4 : bk_ am_prog 137 4 = some ([false, false, false], (bl_137_4, 9999)) := bk_of pk_137 rfl
theorem jt_137_1 (h : am_H) (x0 x1 x2 : Int) : JJ 137 1 [(21, x0), (0, x1), (0, x2)] [] h = Pp_putOnTape_1 h x0 x1 x2 := jj_of bk_137_1 _ _ h
theorem Pp_putOnTape_e (h : am_H) (x0 x1 : Int) : Pp_putOnTape h x0 x1 = Pp_putOnTape_1 h x0 x1 24 := (ff_of bk_137_0 [(21, x0), (0, x1), (9, 0)] [] h).trans (by
  show (JJ 137 1 [(21, x0), (0, x1), (0, 24)] [] h) = _
  simp only [jt_137_1, ck_or1, ck_or2, rf_wr, ln_wr, nn_wr, rf_cp, ln_cp, nn_cp, ln_wf, nn_wf, rd_wf, nn_nw]
  try rfl)
theorem jt_137_4 (h : am_H) (d0 d1 d2 : am_V) : JJ 137 4 [d0, d1, d2] [] h = some (h, 0) := (jj_of bk_137_4 _ _ h).trans (ff_of bk_137_4 [(9, 0), (9, 0), (9, 0)] [] h)
theorem jt_137_3 (h : am_H) (x0 x1 x2 : Int) : JJ 137 3 [(21, x0), (0, x1), (0, x2)] [] h = ck_ (0 ≤ x0) (ck_ (0 ≤ x0) (ck_ (0 ≤ (rf_ h x0 0)) (ck_ (0 ≤ (rd_ h x0 1) ∧ (rd_ h x0 1) < ln_ h (rf_ h x0 0)) (ck_ (0 ≤ x0) (ck_ (0 ≤ x0) (Pp_putOnTape_1 (wr_ (wr_ h (rf_ h x0 0) (rd_ h x0 1) (w8_ (w8_ (x1 / 2 ^ (x2 % 32 : Int).toNat)))) x0 1 (w32 ((rd_ (wr_ h (rf_ h x0 0) (rd_ h x0 1) (w8_ (w8_ (x1 / 2 ^ (x2 % 32 : Int).toNat)))) x0 1) + 1))) x0 x1 (w32 (x2 + (-8))))))))) := (jj_of bk_137_3 _ _ h).trans ((ff_of bk_137_3 [(21, x0), (0, x1), (0, x2)] [] h).trans (by
  show (ck_ (0 ≤ x0) (ck_ (0 ≤ x0) (ck_ (0 ≤ (rf_ h x0 0)) (ck_ (0 ≤ (rd_ h x0 1) ∧ (rd_ h x0 1) < ln_ h (rf_ h x0 0)) (ck_ (0 ≤ x0) (ck_ (0 ≤ x0) (JJ 137 1 [(21, x0), (0, x1), (0, w32 (x2 + (-8)))] [] (wr_ (wr_ h (rf_ h x0 0) (rd_ h x0 1) (w8_ (w8_ (x1 / 2 ^ (x2 % 32 : Int).toNat)))) x0 1 (w32 ((rd_ (wr_ h (rf_ h x0 0) (rd_ h x0 1) (w8_ (w8_ (x1 / 2 ^ (x2 % 32 : Int).toNat)))) x0 1) + 1)))))))))) = _
  simp only [jt_137_1, ck_or1, ck_or2, rf_wr, ln_wr, nn_wr, rf_cp, ln_cp, nn_cp, ln_wf, nn_wf, rd_wf, nn_nw]
  try rfl))
theorem jt_137_2 (h : am_H) (x0 x1 x2 : Int) : JJ 137 2 [(21, x0), (0, x1), (0, x2)] [] h = ck_ (0 ≤ x0) (if 700 ≤ (rd_ h x0 1) then some (h, 0) else ck_ (0 ≤ x0) (ck_ (0 ≤ x0) (ck_ (0 ≤ (rf_ h x0 0)) (ck_ (0 ≤ (rd_ h x0 1) ∧ (rd_ h x0 1) < ln_ h (rf_ h x0 0)) (ck_ (0 ≤ x0) (ck_ (0 ≤ x0) (Pp_putOnTape_1 (wr_ (wr_ h (rf_ h x0 0) (rd_ h x0 1) (w8_ (w8_ (x1 / 2 ^ (x2 % 32 : Int).toNat)))) x0 1 (w32 ((rd_ (wr_ h (rf_ h x0 0) (rd_ h x0 1) (w8_ (w8_ (x1 / 2 ^ (x2 % 32 : Int).toNat)))) x0 1) + 1))) x0 x1 (w32 (x2 + (-8)))))))))) := (jj_of bk_137_2 _ _ h).trans ((ff_of bk_137_2 [(21, x0), (0, x1), (0, x2)] [] h).trans (by
  show (ck_ (0 ≤ x0) (if 700 ≤ (rd_ h x0 1) then JJ 137 4 [(21, x0), (0, x1), (0, x2)] [] h else JJ 137 3 [(21, x0), (0, x1), (0, x2)] [] h)) = _
  simp only [jt_137_3, jt_137_4, ck_or1, ck_or2, rf_wr, ln_wr, nn_wr, rf_cp, ln_cp, nn_cp, ln_wf, nn_wf, rd_wf, nn_nw]
  try rfl))
theorem Pp_putOnTape_1_e (h : am_H) (x0 x1 x2 : Int) : Pp_putOnTape_1 h x0 x1 x2 = if x2 < 0 then some (h, 0) else ck_ (0 ≤ x0) (if 700 ≤ (rd_ h x0 1) then some (h, 0) else ck_ (0 ≤ x0) (ck_ (0 ≤ x0) (ck_ (0 ≤ (rf_ h x0 0)) (ck_ (0 ≤ (rd_ h x0 1) ∧ (rd_ h x0 1) < ln_ h (rf_ h x0 0)) (ck_ (0 ≤ x0) (ck_ (0 ≤ x0) (Pp_putOnTape_1 (wr_ (wr_ h (rf_ h x0 0) (rd_ h x0 1) (w8_ (w8_ (x1 / 2 ^ (x2 % 32 : Int).toNat)))) x0 1 (w32 ((rd_ (wr_ h (rf_ h x0 0) (rd_ h x0 1) (w8_ (w8_ (x1 / 2 ^ (x2 % 32 : Int).toNat)))) x0 1) + 1))) x0 x1 (w32 (x2 + (-8)))))))))) := (ff_of bk_137_1 [(21, x0), (0, x1), (0, x2)] [] h).trans (by
  show (if x2 < 0 then JJ 137 4 [(21, x0), (0, x1), (0, x2)] [] h else JJ 137 2 [(21, x0), (0, x1), (0, x2)] [] h) = _
  simp only [jt_137_2, jt_137_4, ck_or1, ck_or2, rf_wr, ln_wr, nn_wr, rf_cp, ln_cp, nn_cp, ln_wf, nn_wf, rd_wf, nn_nw]
  try rfl)
theorem cc_137 (h : am_H) (x0 x1 : Int) : CC 137 [(21, x0), (0, x1)] h = Pp_putOnTape h x0 x1 := cc_of pk_137 _ h
theorem pk_138 : am_prog 138 = some cd_138 := rfl
theorem bk_138_0 : bk_ am_prog 138 0 = some ([true, true, true, true, true, true], (bl_138_0, 9999)) := bk_of pk_138 rfl
theorem bk_138_1 : bk_ am_prog 138 1 = some ([false, false, false, false, false, false], (bl_138_1, 9999)) := bk_of pk_138 rfl
theorem bk_138_2 : bk_ am_prog 138 2 = some ([true, true, true, true, true, true], (bl_138_2, 9999)) := bk_of pk_138 rfl
theorem jt_138_2 (h : am_H) (x0 x1 x2 x3 x4 x5 : Int) : JJ 138 2 [(21, x0), (0, x1), (0, x2), (0, x3), (0, x4), (0, x5)] [] h = ck_ (0 ≤ x0) (bd_ (Pp_putOnTape h x0 x1) fun h1 _ => ck_ (0 ≤ x0) (bd_ (Pp_putOnTape h1 x0 x2) fun h3 _ => ck_ (0 ≤ x0) (bd_ (Pp_putOnTape h3 x0 x3) fun h5 _ => ck_ (0 ≤ x0) (bd_ (Pp_putOnTape h5 x0 x4) fun h7 _ => ck_ (0 ≤ x0) (bd_ (Pp_putOnTape h7 x0 x5) fun h9 _ => ck_ (0 ≤ x0) (some (h9, rd_ h9 x0 1))))))) := (jj_of bk_138_2 _ _ h).trans ((ff_of bk_138_2 [(21, x0), (0, x1), (0, x2), (0, x3), (0, x4), (0, x5)] [] h).trans (by
  show (ck_ (0 ≤ x0) (bd_ (CC 137 [(21, x0), (0, x1)] h) fun h1 _ => ck_ (0 ≤ x0) (bd_ (CC 137 [(21, x0), (0, x2)] h1) fun h3 _ => ck_ (0 ≤ x0) (bd_ (CC 137 [(21, x0), (0, x3)] h3) fun h5 _ => ck_ (0 ≤ x0) (bd_ (CC 137 [(21, x0), (0, x4)] h5) fun h7 _ => ck_ (0 ≤ x0) (bd_ (CC 137 [(21, x0), (0, x5)] h7) fun h9 _ => ck_ (0 ≤ x0) (some (h9, rd_ h9 x0 1)))))))) = _
  simp only [cc_137, ck_or1, ck_or2, rf_wr, ln_wr, nn_wr, rf_cp, ln_cp, nn_cp, ln_wf, nn_wf, rd_wf, nn_nw]
  try rfl))
theorem jt_138_1 (h : am_H) (d0 d1 d2 d3 d4 d5 : am_V) : JJ 138 1 [d0, d1, d2, d3, d4, d5] [] h = some (h, (-1)) := (jj_of bk_138_1 _ _ h).trans (ff_of bk_138_1 [(9, 0), (9, 0), (9, 0), (9, 0), (9, 0), (9, 0)] [] h)
theorem Pp_feed_e (h : am_H) (x0 x1 x2 x3 x4 x5 : Int) : Pp_feed h x0 x1 x2 x3 x4 x5 = ck_ (0 ≤ x0) (if (w32 ((rd_ h x0 1) + 20)) ≤ 700 then ck_ (0 ≤ x0) (bd_ (Pp_putOnTape h x0 x1) fun h1 _ => ck_ (0 ≤ x0) (bd_ (Pp_putOnTape h1 x0 x2) fun h3 _ => ck_ (0 ≤ x0) (bd_ (Pp_putOnTape h3 x0 x3) fun h5 _ => ck_ (0 ≤ x0) (bd_ (Pp_putOnTape h5 x0 x4) fun h7 _ => ck_ (0 ≤ x0) (bd_ (Pp_putOnTape h7 x0 x5) fun h9 _ => ck_ (0 ≤ x0) (some (h9, rd_ h9 x0 1))))))) else some (h, (-1))) := (ff_of bk_138_0 [(21, x0), (0, x1), (0, x2), (0, x3), (0, x4), (0, x5)] [] h).trans (by
  show (ck_ (0 ≤ x0) (if (w32 ((rd_ h x0 1) + 20)) ≤ 700 then JJ 138 2 [(21, x0), (0, x1), (0, x2), (0, x3), (0, x4), (0, x5)] [] h else JJ 138 1 [(21, x0), (0, x1), (0, x2), (0, x3), (0, x4), (0, x5)] [] h)) = _
  simp only [jt_138_1, jt_138_2, ck_or1, ck_or2, rf_wr, ln_wr, nn_wr, rf_cp, ln_cp, nn_cp, ln_wf, nn_wf, rd_wf, nn_nw]
  try rfl)
theorem cc_138 (h : am_H) (x0 x1 x2 x3 x4 x5 : Int) : CC 138 [(21, x0), (0, x1), (0, x2), (0, x3), (0, x4), (0, x5)] h = Pp_feed h x0 x1 x2 x3 x4 x5 := cc_of pk_138 _ h
theorem pk_139 : am_prog 139 = some cd_139 := rfl
theorem bk_139_0 : bk_ am_prog 139 0 = some ([true, true, false], (bl_139_0, 9999)) := bk_of pk_139 rfl
theorem bk_139_1 : bk_ am_prog 139 1 = some ([true, true, false], (bl_139_1, 9999)) := bk_of pk_139 rfl
theorem bk_139_2 : bk_ am_prog 139 2 = some ([false, false, false], (bl_139_2, 9999)) := bk_of pk_139 rfl
theorem bk_139_3 : bk_ am_prog 139 3 = some ([true, true, false], (bl_139_3, 9999)) := bk_of pk_139 rfl
theorem bk_139_4 : bk_ am_prog 139 4 = some ([true, false, false], (bl_139_4, 9999)) := bk_of pk_139 rfl
theorem bk_139_5 : bk_ am_prog 139 5 = some ([true, false, false], (bl_139_5, 6)) := bk_of pk_139 rfl
theorem bk_139_6 : bk_ am_prog 139 6 = some ([true, false, false], (bl_139_6, 9999)) := bk_of pk_139 rfl
theorem bk_139_7 : bk_ am_prog 139 7 = some ([false, false, false], (bl_139_7, 9999)) := bk_of pk_139 rfl
theorem bk_139_8 : bk_ am_prog 139 8 = some ([true, false, false], (bl_139_8, 9999)) := bk_of pk_139 rfl
theorem jt_139_6 (h : am_H) (d1 d2 : am_V) (x0 s0 s1 : Int) : JJ 139 6 [(21, x0), d1, d2] [(0, s0), (21, s1)] h = Pp_text_6 h x0 s0 s1 := jj_of bk_139_6 _ _ h
theorem jt_139_2 (h : am_H) (d0 d1 d2 : am_V) : JJ 139 2 [d0, d1, d2] [] h = some (h, (-2)) := (jj_of bk_139_2 _ _ h).trans (ff_of bk_139_2 [(9, 0), (9, 0), (9, 0)] [] h)
theorem jt_139_5 (h : am_H) (d1 d2 : am_V) (x0 s0 : Int) : JJ 139 5 [(21, x0), d1, d2] [(21, s0)] h = ck_ (0 ≤ x0) (ck_ (0 ≤ (rf_ h x0 4)) (bd_ (Re_place h (rf_ h x0 4)) fun h1 v2 => Pp_text_6 h1 x0 v2 s0)) := (jj_of bk_139_5 _ _ h).trans ((ff_of bk_139_5 [(21, x0), (9, 0), (9, 0)] [(21, s0)] h).trans (by
  show (ck_ (0 ≤ x0) (ck_ (0 ≤ (rf_ h x0 4)) (bd_ (CC 82 [(15, rf_ h x0 4)] h) fun h1 v2 => JJ 139 6 [(21, x0), (9, 0), (9, 0)] [(0, v2), (21, s0)] h1))) = _
  simp only [cc_82, jt_139_6, ck_or1, ck_or2, rf_wr, ln_wr, nn_wr, rf_cp, ln_cp, nn_cp, ln_wf, nn_wf, rd_wf, nn_nw]
  try rfl))
theorem jt_139_4 (h : am_H) (d1 d2 : am_V) (x0 s0 : Int) : JJ 139 4 [(21, x0), d1, d2] [(21, s0)] h = Pp_text_6 h x0 (-1) s0 := (jj_of bk_139_4 _ _ h).trans ((ff_of bk_139_4 [(21, x0), (9, 0), (9, 0)] [(21, s0)] h).trans (by
  show (JJ 139 6 [(21, x0), (9, 0), (9, 0)] [(0, (-1)), (21, s0)] h) = _
  simp only [jt_139_6, ck_or1, ck_or2, rf_wr, ln_wr, nn_wr, rf_cp, ln_cp, nn_cp, ln_wf, nn_wf, rd_wf, nn_nw]
  try rfl))
theorem jt_139_3 (h : am_H) (d2 : am_V) (x0 x1 : Int) : JJ 139 3 [(21, x0), (0, x1), d2] [] h = ck_ (0 ≤ x0) (ck_ (0 ≤ x0) (ck_ (0 ≤ x0) (ck_ (0 ≤ x0) (ck_ (0 ≤ (rf_ h x0 4)) (bd_ (Re_read (wr_ h x0 1 0) (rf_ h x0 4) (rf_ h x0 0) x1 (rf_ h x0 6)) fun h1 v2 => ck_ (0 ≤ x0) (ck_ (0 ≤ x0) (if (rd_ (wr_ h1 x0 2 v2) x0 2) ≠ 0 then ck_ (0 ≤ x0) (ck_ (0 ≤ (rf_ h1 x0 4)) (bd_ (Re_place (wr_ h1 x0 2 v2) (rf_ h1 x0 4)) fun h3 v4 => Pp_text_6 h3 x0 v4 x0)) else Pp_text_6 (wr_ h1 x0 2 v2) x0 (-1) x0))))))) := (jj_of bk_139_3 _ _ h).trans ((ff_of bk_139_3 [(21, x0), (0, x1), (9, 0)] [] h).trans (by
  show (ck_ (0 ≤ x0) (ck_ (0 ≤ x0) (ck_ (0 ≤ x0) (ck_ (0 ≤ x0) (ck_ (0 ≤ (rf_ h x0 4)) (bd_ (CC 102 [(15, rf_ h x0 4), (31, rf_ h x0 0), (0, x1), (18, rf_ h x0 6)] (wr_ h x0 1 0)) fun h1 v2 => ck_ (0 ≤ x0) (ck_ (0 ≤ x0) (if (rd_ (wr_ h1 x0 2 v2) x0 2) ≠ 0 then JJ 139 5 [(21, x0), (0, x1), (9, 0)] [(21, x0)] (wr_ h1 x0 2 v2) else JJ 139 4 [(21, x0), (0, x1), (9, 0)] [(21, x0)] (wr_ h1 x0 2 v2))))))))) = _
  simp only [cc_102, jt_139_4, jt_139_5, ck_or1, ck_or2, rf_wr, ln_wr, nn_wr, rf_cp, ln_cp, nn_cp, ln_wf, nn_wf, rd_wf, nn_nw]
  try rfl))
theorem jt_139_1 (h : am_H) (d2 : am_V) (x0 x1 : Int) : JJ 139 1 [(21, x0), (0, x1), d2] [] h = ck_ (0 ≤ x0) (if x1 ≤ (rd_ h x0 1) then ck_ (0 ≤ x0) (ck_ (0 ≤ x0) (ck_ (0 ≤ x0) (ck_ (0 ≤ x0) (ck_ (0 ≤ (rf_ h x0 4)) (bd_ (Re_read (wr_ h x0 1 0) (rf_ h x0 4) (rf_ h x0 0) x1 (rf_ h x0 6)) fun h1 v2 => ck_ (0 ≤ x0) (ck_ (0 ≤ x0) (if (rd_ (wr_ h1 x0 2 v2) x0 2) ≠ 0 then ck_ (0 ≤ x0) (ck_ (0 ≤ (rf_ h1 x0 4)) (bd_ (Re_place (wr_ h1 x0 2 v2) (rf_ h1 x0 4)) fun h3 v4 => Pp_text_6 h3 x0 v4 x0)) else Pp_text_6 (wr_ h1 x0 2 v2) x0 (-1) x0))))))) else some (h, (-2))) := (jj_of bk_139_1 _ _ h).trans ((ff_of bk_139_1 [(21, x0), (0, x1), (9, 0)] [] h).trans (by
  show (ck_ (0 ≤ x0) (if x1 ≤ (rd_ h x0 1) then JJ 139 3 [(21, x0), (0, x1), (9, 0)] [] h else JJ 139 2 [(21, x0), (0, x1), (9, 0)] [] h)) = _
  simp only [jt_139_2, jt_139_3, ck_or1, ck_or2, rf_wr, ln_wr, nn_wr, rf_cp, ln_cp, nn_cp, ln_wf, nn_wf, rd_wf, nn_nw]
  try rfl))
theorem Pp_text_e (h : am_H) (x0 x1 : Int) : Pp_text h x0 x1 = if x1 < 0 then some (h, (-2)) else ck_ (0 ≤ x0) (if x1 ≤ (rd_ h x0 1) then ck_ (0 ≤ x0) (ck_ (0 ≤ x0) (ck_ (0 ≤ x0) (ck_ (0 ≤ x0) (ck_ (0 ≤ (rf_ h x0 4)) (bd_ (Re_read (wr_ h x0 1 0) (rf_ h x0 4) (rf_ h x0 0) x1 (rf_ h x0 6)) fun h1 v2 => ck_ (0 ≤ x0) (ck_ (0 ≤ x0) (if (rd_ (wr_ h1 x0 2 v2) x0 2) ≠ 0 then ck_ (0 ≤ x0) (ck_ (0 ≤ (rf_ h1 x0 4)) (bd_ (Re_place (wr_ h1 x0 2 v2) (rf_ h1 x0 4)) fun h3 v4 => Pp_text_6 h3 x0 v4 x0)) else Pp_text_6 (wr_ h1 x0 2 v2) x0 (-1) x0))))))) else some (h, (-2))) := (ff_of bk_139_0 [(21, x0), (0, x1), (9, 0)] [] h).trans (by
  show (if x1 < 0 then JJ 139 2 [(21, x0), (0, x1), (9, 0)] [] h else JJ 139 1 [(21, x0), (0, x1), (9, 0)] [] h) = _
  simp only [jt_139_1, jt_139_2, ck_or1, ck_or2, rf_wr, ln_wr, nn_wr, rf_cp, ln_cp, nn_cp, ln_wf, nn_wf, rd_wf, nn_nw]
  try rfl)
set_option maxRecDepth 20000 in
theorem jt_139_8 (h : am_H) (d1 d2 : am_V) (x0 : Int) : JJ 139 8 [(21, x0), d1, d2] [] h = ck_ (0 ≤ x0) (ck_ (0 ≤ x0) (ck_ (0 ≤ x0) (ck_ (0 ≤ x0) (ck_ (0 ≤ x0) (ck_ (0 ≤ x0) (ck_ (0 ≤ (rf_ (wf_ (wf_ h x0 5 (rf_ h x0 6)) x0 6 (rf_ h x0 5)) x0 5)) (ck_ (0 ≤ (rf_ (wf_ (wf_ h x0 5 (rf_ h x0 6)) x0 6 (rf_ h x0 5)) x0 7)) (bd_ (Wo_copy (wf_ (wf_ h x0 5 (rf_ h x0 6)) x0 6 (rf_ h x0 5)) (rf_ (wf_ (wf_ h x0 5 (rf_ h x0 6)) x0 6 (rf_ h x0 5)) x0 7) (rf_ (wf_ (wf_ h x0 5 (rf_ h x0 6)) x0 6 (rf_ h x0 5)) (rf_ (wf_ (wf_ h x0 5 (rf_ h x0 6)) x0 6 (rf_ h x0 5)) x0 5) 6)) fun h1 _ => ck_ (0 ≤ x0) (ck_ (0 ≤ x0) (ck_ (0 ≤ (rf_ h1 x0 13)) (bd_ (Do_forget (wr_ h1 x0 10 0) (rf_ h1 x0 13)) fun h3 _ => ck_ (0 ≤ x0) (ck_ (0 ≤ (rf_ h3 x0 14)) (bd_ (Se_forget h3 (rf_ h3 x0 14)) fun h5 _ => ck_ (0 ≤ x0) (ck_ (0 ≤ (rf_ h5 x0 5)) (some (h5, rd_ h5 (rf_ h5 x0 5) 0)))))))))))))))) := (jj_of bk_139_8 _ _ h).trans ((ff_of bk_139_8 [(21, x0), (9, 0), (9, 0)] [] h).trans (by
  show (ck_ (0 ≤ x0) (ck_ (0 ≤ x0) (ck_ (0 ≤ x0) (ck_ (0 ≤ x0) (ck_ (0 ≤ x0) (ck_ (0 ≤ x0) (ck_ (0 ≤ (rf_ (wf_ (wf_ h x0 5 (rf_ h x0 6)) x0 6 (rf_ h x0 5)) x0 5)) (ck_ (0 ≤ (rf_ (wf_ (wf_ h x0 5 (rf_ h x0 6)) x0 6 (rf_ h x0 5)) x0 7)) (bd_ (CC 120 [(20, rf_ (wf_ (wf_ h x0 5 (rf_ h x0 6)) x0 6 (rf_ h x0 5)) x0 7), (20, rf_ (wf_ (wf_ h x0 5 (rf_ h x0 6)) x0 6 (rf_ h x0 5)) (rf_ (wf_ (wf_ h x0 5 (rf_ h x0 6)) x0 6 (rf_ h x0 5)) x0 5) 6)] (wf_ (wf_ h x0 5 (rf_ h x0 6)) x0 6 (rf_ h x0 5))) fun h1 _ => ck_ (0 ≤ x0) (ck_ (0 ≤ x0) (ck_ (0 ≤ (rf_ h1 x0 13)) (bd_ (CC 22 [(11, rf_ h1 x0 13)] (wr_ h1 x0 10 0)) fun h3 _ => ck_ (0 ≤ x0) (ck_ (0 ≤ (rf_ h3 x0 14)) (bd_ (CC 104 [(16, rf_ h3 x0 14)] h3) fun h5 _ => ck_ (0 ≤ x0) (ck_ (0 ≤ (rf_ h5 x0 5)) (some (h5, rd_ h5 (rf_ h5 x0 5) 0))))))))))))))))) = _
  simp only [cc_120, cc_22, cc_104, ck_or1, ck_or2, rf_wr, ln_wr, nn_wr, rf_cp, ln_cp, nn_cp, ln_wf, nn_wf, rd_wf, nn_nw]
  try rfl))
theorem jt_139_7 (h : am_H) (d0 d1 d2 : am_V) : JJ 139 7 [d0, d1, d2] [] h = some (h, (-1)) := (jj_of bk_139_7 _ _ h).trans (ff_of bk_139_7 [(9, 0), (9, 0), (9, 0)] [] h)
set_option maxRecDepth 20000 in
theorem Pp_text_6_e (h : am_H) (x0 s0 s1 : Int) : Pp_text_6 h x0 s0 s1 = ck_ (0 ≤ s1) (ck_ (0 ≤ x0) (if (rd_ (wr_ h s1 3 s0) x0 2) = 0 then ck_ (0 ≤ x0) (ck_ (0 ≤ x0) (ck_ (0 ≤ x0) (ck_ (0 ≤ x0) (ck_ (0 ≤ x0) (ck_ (0 ≤ x0) (ck_ (0 ≤ (rf_ (wf_ (wf_ (wr_ h s1 3 s0) x0 5 (rf_ h x0 6)) x0 6 (rf_ h x0 5)) x0 5)) (ck_ (0 ≤ (rf_ (wf_ (wf_ (wr_ h s1 3 s0) x0 5 (rf_ h x0 6)) x0 6 (rf_ h x0 5)) x0 7)) (bd_ (Wo_copy (wf_ (wf_ (wr_ h s1 3 s0) x0 5 (rf_ h x0 6)) x0 6 (rf_ h x0 5)) (rf_ (wf_ (wf_ (wr_ h s1 3 s0) x0 5 (rf_ h x0 6)) x0 6 (rf_ h x0 5)) x0 7) (rf_ (wf_ (wf_ (wr_ h s1 3 s0) x0 5 (rf_ h x0 6)) x0 6 (rf_ h x0 5)) (rf_ (wf_ (wf_ (wr_ h s1 3 s0) x0 5 (rf_ h x0 6)) x0 6 (rf_ h x0 5)) x0 5) 6)) fun h1 _ => ck_ (0 ≤ x0) (ck_ (0 ≤ x0) (ck_ (0 ≤ (rf_ h1 x0 13)) (bd_ (Do_forget (wr_ h1 x0 10 0) (rf_ h1 x0 13)) fun h3 _ => ck_ (0 ≤ x0) (ck_ (0 ≤ (rf_ h3 x0 14)) (bd_ (Se_forget h3 (rf_ h3 x0 14)) fun h5 _ => ck_ (0 ≤ x0) (ck_ (0 ≤ (rf_ h5 x0 5)) (some (h5, rd_ h5 (rf_ h5 x0 5) 0)))))))))))))))) else some (wr_ h s1 3 s0, (-1)))) := (ff_of bk_139_6 [(21, x0), (9, 0), (9, 0)] [(0, s0), (21, s1)] h).trans (by
  show (ck_ (0 ≤ s1) (ck_ (0 ≤ x0) (if (rd_ (wr_ h s1 3 s0) x0 2) = 0 then JJ 139 8 [(21, x0), (9, 0), (9, 0)] [] (wr_ h s1 3 s0) else JJ 139 7 [(21, x0), (9, 0), (9, 0)] [] (wr_ h s1 3 s0)))) = _
  simp only [jt_139_7, jt_139_8, ck_or1, ck_or2, rf_wr, ln_wr, nn_wr, rf_cp, ln_cp, nn_cp, ln_wf, nn_wf, rd_wf, nn_nw]
  try rfl)
theorem cc_139 (h : am_H) (x0 x1 : Int) : CC 139 [(21, x0), (0, x1)] h = Pp_text h x0 x1 := cc_of pk_139 _ h
theorem pk_140 : am_prog 140 = some cd_140 := rfl
theorem bk_140_0 : bk_ am_prog 140 0 = some ([true, true], (bl_140_0, 9999)) := bk_of pk_140 rfl
theorem bk_140_1 : bk_ am_prog 140 1 = some ([true, false], (bl_140_1, 9999)) := bk_of pk_140 rfl
theorem bk_140_2 : bk_ am_prog 140 2 = some ([true, true], (bl_140_2, 9999)) := bk_of pk_140 rfl
theorem bk_140_3 : bk_ am_prog 140 3 = some ([true, false], (bl_140_3, 9999)) := bk_of pk_140 rfl
theorem bk_140_4 : bk_ am_prog 140 4 = some ([false, false], (bl_140_4, 5)) := bk_of pk_140 rfl
theorem bk_140_5 : bk_ am_prog 140 5 = some ([false, false], (bl_140_5, 9999)) := bk_of pk_140 rfl
theorem jt_140_5 (h : am_H) (d0 d1 : am_V) (s0 : Int) : JJ 140 5 [d0, d1] [(0, s0)] h = some (h, s0) := (jj_of bk_140_5 _ _ h).trans (ff_of bk_140_5 [(9, 0), (9, 0)] [(0, s0)] h)
theorem jt_140_4 (h : am_H) (d0 d1 : am_V) : JJ 140 4 [d0, d1] [] h = some (h, (-1)) := (jj_of bk_140_4 _ _ h).trans ((ff_of bk_140_4 [(9, 0), (9, 0)] [] h).trans (by
  show (JJ 140 5 [(9, 0), (9, 0)] [(0, (-1))] h) = _
  simp only [jt_140_5, ck_or1, ck_or2, rf_wr, ln_wr, nn_wr, rf_cp, ln_cp, nn_cp, ln_wf, nn_wf, rd_wf, nn_nw]
  try rfl))
theorem jt_140_3 (h : am_H) (d1 : am_V) (x0 : Int) : JJ 140 3 [(21, x0), d1] [] h = ck_ (0 ≤ x0) (some (h, rd_ h x0 3)) := (jj_of bk_140_3 _ _ h).trans ((ff_of bk_140_3 [(21, x0), (9, 0)] [] h).trans (by
  show (ck_ (0 ≤ x0) (JJ 140 5 [(21, x0), (9, 0)] [(0, rd_ h x0 3)] h)) = _
  simp only [jt_140_5, ck_or1, ck_or2, rf_wr, ln_wr, nn_wr, rf_cp, ln_cp, nn_cp, ln_wf, nn_wf, rd_wf, nn_nw]
  try rfl))
theorem jt_140_2 (h : am_H) (x0 x1 : Int) : JJ 140 2 [(21, x0), (0, x1)] [] h = if x1 ≠ 1 then some (h, (-1)) else ck_ (0 ≤ x0) (some (h, rd_ h x0 3)) := (jj_of bk_140_2 _ _ h).trans ((ff_of bk_140_2 [(21, x0), (0, x1)] [] h).trans (by
  show (if x1 ≠ 1 then JJ 140 4 [(21, x0), (0, x1)] [] h else JJ 140 3 [(21, x0), (0, x1)] [] h) = _
  simp only [jt_140_3, jt_140_4, ck_or1, ck_or2, rf_wr, ln_wr, nn_wr, rf_cp, ln_cp, nn_cp, ln_wf, nn_wf, rd_wf, nn_nw]
  try rfl))
theorem jt_140_1 (h : am_H) (d1 : am_V) (x0 : Int) : JJ 140 1 [(21, x0), d1] [] h = ck_ (0 ≤ x0) (some (h, rd_ h x0 2)) := (jj_of bk_140_1 _ _ h).trans (ff_of bk_140_1 [(21, x0), (9, 0)] [] h)
theorem Pp_fault_e (h : am_H) (x0 x1 : Int) : Pp_fault h x0 x1 = if x1 ≠ 0 then (if x1 ≠ 1 then some (h, (-1)) else ck_ (0 ≤ x0) (some (h, rd_ h x0 3))) else ck_ (0 ≤ x0) (some (h, rd_ h x0 2)) := (ff_of bk_140_0 [(21, x0), (0, x1)] [] h).trans (by
  show (if x1 ≠ 0 then JJ 140 2 [(21, x0), (0, x1)] [] h else JJ 140 1 [(21, x0), (0, x1)] [] h) = _
  simp only [jt_140_1, jt_140_2, ck_or1, ck_or2, rf_wr, ln_wr, nn_wr, rf_cp, ln_cp, nn_cp, ln_wf, nn_wf, rd_wf, nn_nw]
  try rfl)
theorem cc_140 (h : am_H) (x0 x1 : Int) : CC 140 [(21, x0), (0, x1)] h = Pp_fault h x0 x1 := cc_of pk_140 _ h
theorem pk_141 : am_prog 141 = some cd_141 := rfl
theorem bk_141_0 : bk_ am_prog 141 0 = some ([true, true, true], (bl_141_0, 9999)) := bk_of pk_141 rfl
theorem bk_141_1 : bk_ am_prog 141 1 = some ([true, false, true], (bl_141_1, 9999)) := bk_of pk_141 rfl
theorem bk_141_2 : bk_ am_prog 141 2 = some ([true, true, true], (bl_141_2, 9999)) := bk_of pk_141 rfl
theorem bk_141_3 : bk_ am_prog 141 3 = some ([true, false, true], (bl_141_3, 9999)) := bk_of pk_141 rfl
theorem bk_141_4 : bk_ am_prog 141 4 = some ([false, false, false], (bl_141_4, 5)) := bk_of pk_141 rfl
theorem bk_141_5 : bk_ am_prog 141 5 = some ([false, false, false], (bl_141_5, 9999)) := bk_of pk_141 rfl
theorem jt_141_5 (h : am_H) (d0 d1 d2 : am_V) (s0 : Int) : JJ 141 5 [d0, d1, d2] [(0, s0)] h = some (h, s0) := (jj_of bk_141_5 _ _ h).trans (ff_of bk_141_5 [(9, 0), (9, 0), (9, 0)] [(0, s0)] h)
theorem jt_141_4 (h : am_H) (d0 d1 d2 : am_V) : JJ 141 4 [d0, d1, d2] [] h = some (h, (-1)) := (jj_of bk_141_4 _ _ h).trans ((ff_of bk_141_4 [(9, 0), (9, 0), (9, 0)] [] h).trans (by
  show (JJ 141 5 [(9, 0), (9, 0), (9, 0)] [(0, (-1))] h) = _
  simp only [jt_141_5, ck_or1, ck_or2, rf_wr, ln_wr, nn_wr, rf_cp, ln_cp, nn_cp, ln_wf, nn_wf, rd_wf, nn_nw]
  try rfl))
theorem jt_141_3 (h : am_H) (d1 : am_V) (x0 x2 : Int) : JJ 141 3 [(21, x0), d1, (0, x2)] [] h = ck_ (0 ≤ x0) (ck_ (0 ≤ (rf_ h x0 5)) (ck_ (0 ≤ x0) (ck_ (0 ≤ (rf_ h x0 7)) (bd_ (Pp_indexOf h (rf_ h (rf_ h x0 5) 9) (rd_ h (rf_ h x0 7) 1) x2) fun h1 v2 => some (h1, v2))))) := (jj_of bk_141_3 _ _ h).trans ((ff_of bk_141_3 [(21, x0), (9, 0), (0, x2)] [] h).trans (by
  show (ck_ (0 ≤ x0) (ck_ (0 ≤ (rf_ h x0 5)) (ck_ (0 ≤ x0) (ck_ (0 ≤ (rf_ h x0 7)) (bd_ (CC 41 [(30, rf_ h (rf_ h x0 5) 9), (0, rd_ h (rf_ h x0 7) 1), (0, x2)] h) fun h1 v2 => JJ 141 5 [(21, x0), (9, 0), (0, x2)] [(0, v2)] h1))))) = _
  simp only [cc_41, jt_141_5, ck_or1, ck_or2, rf_wr, ln_wr, nn_wr, rf_cp, ln_cp, nn_cp, ln_wf, nn_wf, rd_wf, nn_nw]
  try rfl))
theorem jt_141_2 (h : am_H) (x0 x1 x2 : Int) : JJ 141 2 [(21, x0), (0, x1), (0, x2)] [] h = if x1 ≠ 1 then some (h, (-1)) else ck_ (0 ≤ x0) (ck_ (0 ≤ (rf_ h x0 5)) (ck_ (0 ≤ x0) (ck_ (0 ≤ (rf_ h x0 7)) (bd_ (Pp_indexOf h (rf_ h (rf_ h x0 5) 9) (rd_ h (rf_ h x0 7) 1) x2) fun h1 v2 => some (h1, v2))))) := (jj_of bk_141_2 _ _ h).trans ((ff_of bk_141_2 [(21, x0), (0, x1), (0, x2)] [] h).trans (by
  show (if x1 ≠ 1 then JJ 141 4 [(21, x0), (0, x1), (0, x2)] [] h else JJ 141 3 [(21, x0), (0, x1), (0, x2)] [] h) = _
  simp only [jt_141_3, jt_141_4, ck_or1, ck_or2, rf_wr, ln_wr, nn_wr, rf_cp, ln_cp, nn_cp, ln_wf, nn_wf, rd_wf, nn_nw]
  try rfl))
theorem jt_141_1 (h : am_H) (d1 : am_V) (x0 x2 : Int) : JJ 141 1 [(21, x0), d1, (0, x2)] [] h = ck_ (0 ≤ x0) (ck_ (0 ≤ (rf_ h x0 5)) (ck_ (0 ≤ x0) (ck_ (0 ≤ (rf_ h x0 7)) (bd_ (Pp_indexOf h (rf_ h (rf_ h x0 5) 7) (rd_ h (rf_ h x0 7) 0) x2) fun h1 v2 => some (h1, v2))))) := (jj_of bk_141_1 _ _ h).trans ((ff_of bk_141_1 [(21, x0), (9, 0), (0, x2)] [] h).trans (by
  show (ck_ (0 ≤ x0) (ck_ (0 ≤ (rf_ h x0 5)) (ck_ (0 ≤ x0) (ck_ (0 ≤ (rf_ h x0 7)) (bd_ (CC 41 [(30, rf_ h (rf_ h x0 5) 7), (0, rd_ h (rf_ h x0 7) 0), (0, x2)] h) fun h1 v2 => some (h1, v2)))))) = _
  simp only [cc_41, ck_or1, ck_or2, rf_wr, ln_wr, nn_wr, rf_cp, ln_cp, nn_cp, ln_wf, nn_wf, rd_wf, nn_nw]
  try rfl))
theorem Pp_named_e (h : am_H) (x0 x1 x2 : Int) : Pp_named h x0 x1 x2 = if x1 ≠ 0 then (if x1 ≠ 1 then some (h, (-1)) else ck_ (0 ≤ x0) (ck_ (0 ≤ (rf_ h x0 5)) (ck_ (0 ≤ x0) (ck_ (0 ≤ (rf_ h x0 7)) (bd_ (Pp_indexOf h (rf_ h (rf_ h x0 5) 9) (rd_ h (rf_ h x0 7) 1) x2) fun h1 v2 => some (h1, v2)))))) else ck_ (0 ≤ x0) (ck_ (0 ≤ (rf_ h x0 5)) (ck_ (0 ≤ x0) (ck_ (0 ≤ (rf_ h x0 7)) (bd_ (Pp_indexOf h (rf_ h (rf_ h x0 5) 7) (rd_ h (rf_ h x0 7) 0) x2) fun h3 v4 => some (h3, v4))))) := (ff_of bk_141_0 [(21, x0), (0, x1), (0, x2)] [] h).trans (by
  show (if x1 ≠ 0 then JJ 141 2 [(21, x0), (0, x1), (0, x2)] [] h else JJ 141 1 [(21, x0), (0, x1), (0, x2)] [] h) = _
  simp only [jt_141_1, jt_141_2, ck_or1, ck_or2, rf_wr, ln_wr, nn_wr, rf_cp, ln_cp, nn_cp, ln_wf, nn_wf, rd_wf, nn_nw]
  try rfl)
theorem cc_141 (h : am_H) (x0 x1 x2 : Int) : CC 141 [(21, x0), (0, x1), (0, x2)] h = Pp_named h x0 x1 x2 := cc_of pk_141 _ h
theorem pk_142 : am_prog 142 = some cd_142 := rfl
theorem bk_142_0 : bk_ am_prog 142 0 = some ([true, true, true], (bl_142_0, 9999)) := bk_of pk_142 rfl
theorem bk_142_1 : bk_ am_prog 142 1 = some ([false, false, false], (bl_142_1, 9999)) := bk_of pk_142 rfl
theorem bk_142_2 : bk_ am_prog 142 2 = some ([true, true, true], (bl_142_2, 9999)) := bk_of pk_142 rfl
theorem bk_142_3 : bk_ am_prog 142 3 = some ([true, true, false], (bl_142_3, 9999)) := bk_of pk_142 rfl
theorem bk_142_4 : bk_ am_prog 142 4 = some ([true, true, false], (bl_142_4, 9999)) := bk_of pk_142 rfl
theorem bk_142_5 : bk_ am_prog 142 5 = some ([false, false, false], (bl_142_5, 9999)) := bk_of pk_142 rfl
theorem bk_142_6 : bk_ am_prog 142 6 = some ([false, false, false], (bl_142_6, 7)) := bk_of pk_142 rfl
theorem bk_142_7 : bk_ am_prog 142 7 = some ([false, false, false], (bl_142_7, 9999)) := bk_of pk_142 rfl
theorem bk_142_8 : bk_ am_prog 142 8 = some ([true, true, false], (bl_142_8, 9999)) := bk_of pk_142 rfl
theorem bk_142_9 : bk_ am_prog 142 9 = some ([false, false, false], (bl_142_9, 9999)) := bk_of pk_142 rfl
theorem bk_142_10 : bk_ am_prog 142 10 = some ([false, false, false], (bl_142_10, 11)) := bk_of pk_142 rfl
theorem bk_142_11 : bk_ am_prog 142 11 = some ([false, false, false], (bl_142_11, 9999)) := bk_of pk_142 rfl
theorem bk_142_12 : bk_ am_prog 142 12 = some ([true, true, false], (bl_142_12, 9999)) := bk_of pk_142 rfl
theorem bk_142_13 : bk_ am_prog 142 13 = some ([true, true, false], (bl_142_13, 9999)) := bk_of pk_142 rfl
theorem bk_142_14 : bk_ am_prog 142 14 = some ([false, false, false], (bl_142_14, 9999)) := bk_of pk_142 rfl
theorem jt_142_14 (h : am_H) (d0 d1 d2 : am_V) : JJ 142 14 [d0, d1, d2] [] h = none := (jj_of bk_142_14 _ _ h).trans (ff_of bk_142_14 [(9, 0), (9, 0), (9, 0)] [] h)
theorem jt_142_3 (h : am_H) (d2 : am_V) (x0 x1 : Int) : JJ 142 3 [(21, x0), (0, x1), d2] [] h = ck_ (0 ≤ x0) (ck_ (0 ≤ (rf_ h x0 7)) (ck_ (0 ≤ (rf_ h (rf_ h x0 7) 6)) (ck_ (0 ≤ x1 ∧ x1 < ln_ h (rf_ h (rf_ h x0 7) 6)) (some (h, rd_ h (rf_ h (rf_ h x0 7) 6) x1))))) := (jj_of bk_142_3 _ _ h).trans (ff_of bk_142_3 [(21, x0), (0, x1), (9, 0)] [] h)
theorem jt_142_7 (h : am_H) (d0 d1 d2 : am_V) (s0 : Int) : JJ 142 7 [d0, d1, d2] [(0, s0)] h = some (h, s0) := (jj_of bk_142_7 _ _ h).trans (ff_of bk_142_7 [(9, 0), (9, 0), (9, 0)] [(0, s0)] h)
theorem jt_142_6 (h : am_H) (d0 d1 d2 : am_V) : JJ 142 6 [d0, d1, d2] [] h = some (h, 0) := (jj_of bk_142_6 _ _ h).trans ((ff_of bk_142_6 [(9, 0), (9, 0), (9, 0)] [] h).trans (by
  show (JJ 142 7 [(9, 0), (9, 0), (9, 0)] [(0, 0)] h) = _
  simp only [jt_142_7, ck_or1, ck_or2, rf_wr, ln_wr, nn_wr, rf_cp, ln_cp, nn_cp, ln_wf, nn_wf, rd_wf, nn_nw]
  try rfl))
theorem jt_142_5 (h : am_H) (d0 d1 d2 : am_V) : JJ 142 5 [d0, d1, d2] [] h = some (h, 1) := (jj_of bk_142_5 _ _ h).trans ((ff_of bk_142_5 [(9, 0), (9, 0), (9, 0)] [] h).trans (by
  show (JJ 142 7 [(9, 0), (9, 0), (9, 0)] [(0, 1)] h) = _
  simp only [jt_142_7, ck_or1, ck_or2, rf_wr, ln_wr, nn_wr, rf_cp, ln_cp, nn_cp, ln_wf, nn_wf, rd_wf, nn_nw]
  try rfl))
theorem jt_142_4 (h : am_H) (d2 : am_V) (x0 x1 : Int) : JJ 142 4 [(21, x0), (0, x1), d2] [] h = ck_ (0 ≤ x0) (ck_ (0 ≤ (rf_ h x0 7)) (bd_ (Wo_isRight h (rf_ h x0 7) x1) fun h1 v2 => if v2 = 0 then some (h1, 0) else some (h1, 1))) := (jj_of bk_142_4 _ _ h).trans ((ff_of bk_142_4 [(21, x0), (0, x1), (9, 0)] [] h).trans (by
  show (ck_ (0 ≤ x0) (ck_ (0 ≤ (rf_ h x0 7)) (bd_ (CC 125 [(20, rf_ h x0 7), (0, x1)] h) fun h1 v2 => if v2 = 0 then JJ 142 6 [(21, x0), (0, x1), (9, 0)] [] h1 else JJ 142 5 [(21, x0), (0, x1), (9, 0)] [] h1))) = _
  simp only [cc_125, jt_142_5, jt_142_6, ck_or1, ck_or2, rf_wr, ln_wr, nn_wr, rf_cp, ln_cp, nn_cp, ln_wf, nn_wf, rd_wf, nn_nw]
  try rfl))
theorem jt_142_11 (h : am_H) (d0 d1 d2 : am_V) (s0 : Int) : JJ 142 11 [d0, d1, d2] [(0, s0)] h = some (h, s0) := (jj_of bk_142_11 _ _ h).trans (ff_of bk_142_11 [(9, 0), (9, 0), (9, 0)] [(0, s0)] h)
theorem jt_142_10 (h : am_H) (d0 d1 d2 : am_V) : JJ 142 10 [d0, d1, d2] [] h = some (h, 0) := (jj_of bk_142_10 _ _ h).trans ((ff_of bk_142_10 [(9, 0), (9, 0), (9, 0)] [] h).trans (by
  show (JJ 142 11 [(9, 0), (9, 0), (9, 0)] [(0, 0)] h) = _
  simp only [jt_142_11, ck_or1, ck_or2, rf_wr, ln_wr, nn_wr, rf_cp, ln_cp, nn_cp, ln_wf, nn_wf, rd_wf, nn_nw]
  try rfl))
theorem jt_142_9 (h : am_H) (d0 d1 d2 : am_V) : JJ 142 9 [d0, d1, d2] [] h = some (h, 1) := (jj_of bk_142_9 _ _ h).trans ((ff_of bk_142_9 [(9, 0), (9, 0), (9, 0)] [] h).trans (by
  show (JJ 142 11 [(9, 0), (9, 0), (9, 0)] [(0, 1)] h) = _
  simp only [jt_142_11, ck_or1, ck_or2, rf_wr, ln_wr, nn_wr, rf_cp, ln_cp, nn_cp, ln_wf, nn_wf, rd_wf, nn_nw]
  try rfl))
theorem jt_142_8 (h : am_H) (d2 : am_V) (x0 x1 : Int) : JJ 142 8 [(21, x0), (0, x1), d2] [] h = ck_ (0 ≤ x0) (ck_ (0 ≤ (rf_ h x0 7)) (bd_ (Wo_isProper h (rf_ h x0 7) x1) fun h1 v2 => if v2 = 0 then some (h1, 0) else some (h1, 1))) := (jj_of bk_142_8 _ _ h).trans ((ff_of bk_142_8 [(21, x0), (0, x1), (9, 0)] [] h).trans (by
  show (ck_ (0 ≤ x0) (ck_ (0 ≤ (rf_ h x0 7)) (bd_ (CC 126 [(20, rf_ h x0 7), (0, x1)] h) fun h1 v2 => if v2 = 0 then JJ 142 10 [(21, x0), (0, x1), (9, 0)] [] h1 else JJ 142 9 [(21, x0), (0, x1), (9, 0)] [] h1))) = _
  simp only [cc_126, jt_142_10, jt_142_9, ck_or1, ck_or2, rf_wr, ln_wr, nn_wr, rf_cp, ln_cp, nn_cp, ln_wf, nn_wf, rd_wf, nn_nw]
  try rfl))
theorem jt_142_12 (h : am_H) (d2 : am_V) (x0 x1 : Int) : JJ 142 12 [(21, x0), (0, x1), d2] [] h = ck_ (0 ≤ x0) (ck_ (0 ≤ (rf_ h x0 7)) (bd_ (Wo_gaps h (rf_ h x0 7) x1) fun h1 v2 => some (h1, v2))) := (jj_of bk_142_12 _ _ h).trans ((ff_of bk_142_12 [(21, x0), (0, x1), (9, 0)] [] h).trans (by
  show (ck_ (0 ≤ x0) (ck_ (0 ≤ (rf_ h x0 7)) (bd_ (CC 52 [(20, rf_ h x0 7), (0, x1)] h) fun h1 v2 => some (h1, v2)))) = _
  simp only [cc_52, ck_or1, ck_or2, rf_wr, ln_wr, nn_wr, rf_cp, ln_cp, nn_cp, ln_wf, nn_wf, rd_wf, nn_nw]
  try rfl))
theorem jt_142_13 (h : am_H) (d2 : am_V) (x0 x1 : Int) : JJ 142 13 [(21, x0), (0, x1), d2] [] h = ck_ (0 ≤ x0) (ck_ (0 ≤ (rf_ h x0 7)) (ck_ (0 ≤ (rf_ h (rf_ h x0 7) 7)) (ck_ (0 ≤ x1 ∧ x1 < ln_ h (rf_ h (rf_ h x0 7) 7)) (some (h, rd_ h (rf_ h (rf_ h x0 7) 7) x1))))) := (jj_of bk_142_13 _ _ h).trans (ff_of bk_142_13 [(21, x0), (0, x1), (9, 0)] [] h)
set_option maxRecDepth 20000 in
theorem jt_142_2 (h : am_H) (x0 x1 x2 : Int) : JJ 142 2 [(21, x0), (0, x1), (0, x2)] [] h = if x2 = 0 then ck_ (0 ≤ x0) (ck_ (0 ≤ (rf_ h x0 7)) (ck_ (0 ≤ (rf_ h (rf_ h x0 7) 6)) (ck_ (0 ≤ x1 ∧ x1 < ln_ h (rf_ h (rf_ h x0 7) 6)) (some (h, rd_ h (rf_ h (rf_ h x0 7) 6) x1))))) else if x2 = 1 then ck_ (0 ≤ x0) (ck_ (0 ≤ (rf_ h x0 7)) (bd_ (Wo_isRight h (rf_ h x0 7) x1) fun h5 v6 => if v6 = 0 then some (h5, 0) else some (h5, 1))) else if x2 = 2 then ck_ (0 ≤ x0) (ck_ (0 ≤ (rf_ h x0 7)) (bd_ (Wo_isProper h (rf_ h x0 7) x1) fun h3 v4 => if v4 = 0 then some (h3, 0) else some (h3, 1))) else if x2 = 3 then ck_ (0 ≤ x0) (ck_ (0 ≤ (rf_ h x0 7)) (bd_ (Wo_gaps h (rf_ h x0 7) x1) fun h1 v2 => some (h1, v2))) else if x2 = 4 then ck_ (0 ≤ x0) (ck_ (0 ≤ (rf_ h x0 7)) (ck_ (0 ≤ (rf_ h (rf_ h x0 7) 7)) (ck_ (0 ≤ x1 ∧ x1 < ln_ h (rf_ h (rf_ h x0 7) 7)) (some (h, rd_ h (rf_ h (rf_ h x0 7) 7) x1))))) else none := (jj_of bk_142_2 _ _ h).trans ((ff_of bk_142_2 [(21, x0), (0, x1), (0, x2)] [] h).trans (by
  show (if x2 = 0 then JJ 142 3 [(21, x0), (0, x1), (0, x2)] [] h else if x2 = 1 then JJ 142 4 [(21, x0), (0, x1), (0, x2)] [] h else if x2 = 2 then JJ 142 8 [(21, x0), (0, x1), (0, x2)] [] h else if x2 = 3 then JJ 142 12 [(21, x0), (0, x1), (0, x2)] [] h else if x2 = 4 then JJ 142 13 [(21, x0), (0, x1), (0, x2)] [] h else JJ 142 14 [(21, x0), (0, x1), (0, x2)] [] h) = _
  simp only [jt_142_12, jt_142_13, jt_142_14, jt_142_3, jt_142_4, jt_142_8, ck_or1, ck_or2, rf_wr, ln_wr, nn_wr, rf_cp, ln_cp, nn_cp, ln_wf, nn_wf, rd_wf, nn_nw]
  try rfl))
theorem jt_142_1 (h : am_H) (d0 d1 d2 : am_V) : JJ 142 1 [d0, d1, d2] [] h = none := (jj_of bk_142_1 _ _ h).trans (ff_of bk_142_1 [(9, 0), (9, 0), (9, 0)] [] h)
set_option maxRecDepth 20000 in
theorem Pp_pile_e (h : am_H) (x0 x1 x2 : Int) : Pp_pile h x0 x1 x2 = ck_ (0 ≤ x0) (ck_ (0 ≤ (rf_ h x0 7)) (bd_ (Wo_hasPile h (rf_ h x0 7) x1) fun h1 v2 => if v2 ≠ 0 then (if x2 = 0 then ck_ (0 ≤ x0) (ck_ (0 ≤ (rf_ h1 x0 7)) (ck_ (0 ≤ (rf_ h1 (rf_ h1 x0 7) 6)) (ck_ (0 ≤ x1 ∧ x1 < ln_ h1 (rf_ h1 (rf_ h1 x0 7) 6)) (some (h1, rd_ h1 (rf_ h1 (rf_ h1 x0 7) 6) x1))))) else if x2 = 1 then ck_ (0 ≤ x0) (ck_ (0 ≤ (rf_ h1 x0 7)) (bd_ (Wo_isRight h1 (rf_ h1 x0 7) x1) fun h7 v8 => if v8 = 0 then some (h7, 0) else some (h7, 1))) else if x2 = 2 then ck_ (0 ≤ x0) (ck_ (0 ≤ (rf_ h1 x0 7)) (bd_ (Wo_isProper h1 (rf_ h1 x0 7) x1) fun h5 v6 => if v6 = 0 then some (h5, 0) else some (h5, 1))) else if x2 = 3 then ck_ (0 ≤ x0) (ck_ (0 ≤ (rf_ h1 x0 7)) (bd_ (Wo_gaps h1 (rf_ h1 x0 7) x1) fun h3 v4 => some (h3, v4))) else if x2 = 4 then ck_ (0 ≤ x0) (ck_ (0 ≤ (rf_ h1 x0 7)) (ck_ (0 ≤ (rf_ h1 (rf_ h1 x0 7) 7)) (ck_ (0 ≤ x1 ∧ x1 < ln_ h1 (rf_ h1 (rf_ h1 x0 7) 7)) (some (h1, rd_ h1 (rf_ h1 (rf_ h1 x0 7) 7) x1))))) else none) else none)) := (ff_of bk_142_0 [(21, x0), (0, x1), (0, x2)] [] h).trans (by
  show (ck_ (0 ≤ x0) (ck_ (0 ≤ (rf_ h x0 7)) (bd_ (CC 54 [(20, rf_ h x0 7), (0, x1)] h) fun h1 v2 => if v2 ≠ 0 then JJ 142 2 [(21, x0), (0, x1), (0, x2)] [] h1 else JJ 142 1 [(21, x0), (0, x1), (0, x2)] [] h1))) = _
  simp only [cc_54, jt_142_1, jt_142_2, ck_or1, ck_or2, rf_wr, ln_wr, nn_wr, rf_cp, ln_cp, nn_cp, ln_wf, nn_wf, rd_wf, nn_nw]
  try rfl)
theorem cc_142 (h : am_H) (x0 x1 x2 : Int) : CC 142 [(21, x0), (0, x1), (0, x2)] h = Pp_pile h x0 x1 x2 := cc_of pk_142 _ h
theorem pk_143 : am_prog 143 = some cd_143 := rfl
theorem bk_143_0 : bk_ am_prog 143 0 = some ([true, true, true, true, false], (bl_143_0, 9999)) := bk_of pk_143 rfl
theorem bk_143_1 : bk_ am_prog 143 1 = some ([true, true, true, true, false], (bl_143_1, 9999)) := bk_of pk_143 rfl
theorem bk_143_2 : bk_ am_prog 143 2 = some ([true, true, true, true, false], (bl_143_2, 9999)) := bk_of pk_143 rfl
theorem bk_143_3 : bk_ am_prog 143 3 = some ([true, true, true, true, false], (bl_143_3, 9999)) := bk_of pk_143 rfl
theorem bk_143_4 : bk_ am_prog 143 4 = some ([true, true, true, true, false], (bl_143_4, 9999)) := bk_of pk_143 rfl
theorem bk_143_5 : bk_ am_prog 143 5 = some ([false, false, false, false, false], (bl_143_5, 9999)) := bk_of pk_143 rfl
theorem bk_143_6 : bk_ am_prog 143 6 = some ([true, true, true, true, false], (bl_143_6, 9999)) := bk_of pk_143 rfl
theorem bk_143_7 : bk_ am_prog 143 7 = some ([false, false, false, false, false], (bl_143_7, 9999)) := bk_of pk_143 rfl
theorem bk_143_8 : bk_ am_prog 143 8 = some ([true, false, false, true, true], (bl_143_8, 9999)) := bk_of pk_143 rfl
theorem bk_143_9 : bk_ am_prog 143 9 = some ([false, false, false, false, true], (bl_143_9, 9999)) := bk_of pk_143 rfl
theorem bk_143_10 : bk_ am_prog 143 10 = some ([true, false, false, false, true], (bl_143_10, 9999)) := bk_of pk_143 rfl
theorem bk_143_11 : bk_ am_prog 143 11 = some ([true, false, false, false, true], (bl_143_11, 9999)) := bk_of pk_143 rfl
theorem bk_143_12 : bk_ am_prog 143 12 = some ([true, false, false, false, true], (bl_143_12, 9999)) := bk_of pk_143 rfl
theorem jt_143_5 (h : am_H) (d0 d1 d2 d3 d4 : am_V) : JJ 143 5 [d0, d1, d2, d3, d4] [] h = some (h, (-1)) := (jj_of bk_143_5 _ _ h).trans (ff_of bk_143_5 [(9, 0), (9, 0), (9, 0), (9, 0), (9, 0)] [] h)
theorem jt_143_12 (h : am_H) (d1 d2 d3 : am_V) (x0 x4 : Int) : JJ 143 12 [(21, x0), d1, d2, d3, (0, x4)] [] h = ck_ (0 ≤ x0) (ck_ (0 ≤ (rf_ h x0 7)) (ck_ (0 ≤ (rf_ h (rf_ h x0 7) 12)) (ck_ (0 ≤ x4 ∧ x4 < ln_ h (rf_ h (rf_ h x0 7) 12)) (some (h, rd_ h (rf_ h (rf_ h x0 7) 12) x4))))) := (jj_of bk_143_12 _ _ h).trans (ff_of bk_143_12 [(21, x0), (9, 0), (9, 0), (9, 0), (0, x4)] [] h)
theorem jt_143_9 (h : am_H) (d0 d1 d2 d3 : am_V) (x4 : Int) : JJ 143 9 [d0, d1, d2, d3, (0, x4)] [] h = some (h, x4) := (jj_of bk_143_9 _ _ h).trans (ff_of bk_143_9 [(9, 0), (9, 0), (9, 0), (9, 0), (0, x4)] [] h)
theorem jt_143_10 (h : am_H) (d1 d2 d3 : am_V) (x0 x4 : Int) : JJ 143 10 [(21, x0), d1, d2, d3, (0, x4)] [] h = ck_ (0 ≤ x0) (ck_ (0 ≤ (rf_ h x0 7)) (ck_ (0 ≤ (rf_ h (rf_ h x0 7) 10)) (ck_ (0 ≤ x4 ∧ x4 < ln_ h (rf_ h (rf_ h x0 7) 10)) (some (h, rd_ h (rf_ h (rf_ h x0 7) 10) x4))))) := (jj_of bk_143_10 _ _ h).trans (ff_of bk_143_10 [(21, x0), (9, 0), (9, 0), (9, 0), (0, x4)] [] h)
theorem jt_143_11 (h : am_H) (d1 d2 d3 : am_V) (x0 x4 : Int) : JJ 143 11 [(21, x0), d1, d2, d3, (0, x4)] [] h = ck_ (0 ≤ x0) (ck_ (0 ≤ (rf_ h x0 7)) (ck_ (0 ≤ (rf_ h (rf_ h x0 7) 11)) (ck_ (0 ≤ x4 ∧ x4 < ln_ h (rf_ h (rf_ h x0 7) 11)) (some (h, rd_ h (rf_ h (rf_ h x0 7) 11) x4))))) := (jj_of bk_143_11 _ _ h).trans (ff_of bk_143_11 [(21, x0), (9, 0), (9, 0), (9, 0), (0, x4)] [] h)
set_option maxRecDepth 20000 in
theorem jt_143_8 (h : am_H) (d1 d2 : am_V) (x0 x3 x4 : Int) : JJ 143 8 [(21, x0), d1, d2, (0, x3), (0, x4)] [] h = if x3 = 0 then some (h, x4) else if x3 = 1 then ck_ (0 ≤ x0) (ck_ (0 ≤ (rf_ h x0 7)) (ck_ (0 ≤ (rf_ h (rf_ h x0 7) 10)) (ck_ (0 ≤ x4 ∧ x4 < ln_ h (rf_ h (rf_ h x0 7) 10)) (some (h, rd_ h (rf_ h (rf_ h x0 7) 10) x4))))) else if x3 = 2 then ck_ (0 ≤ x0) (ck_ (0 ≤ (rf_ h x0 7)) (ck_ (0 ≤ (rf_ h (rf_ h x0 7) 11)) (ck_ (0 ≤ x4 ∧ x4 < ln_ h (rf_ h (rf_ h x0 7) 11)) (some (h, rd_ h (rf_ h (rf_ h x0 7) 11) x4))))) else ck_ (0 ≤ x0) (ck_ (0 ≤ (rf_ h x0 7)) (ck_ (0 ≤ (rf_ h (rf_ h x0 7) 12)) (ck_ (0 ≤ x4 ∧ x4 < ln_ h (rf_ h (rf_ h x0 7) 12)) (some (h, rd_ h (rf_ h (rf_ h x0 7) 12) x4))))) := (jj_of bk_143_8 _ _ h).trans ((ff_of bk_143_8 [(21, x0), (9, 0), (9, 0), (0, x3), (0, x4)] [] h).trans (by
  show (if x3 = 0 then JJ 143 9 [(21, x0), (9, 0), (9, 0), (0, x3), (0, x4)] [] h else if x3 = 1 then JJ 143 10 [(21, x0), (9, 0), (9, 0), (0, x3), (0, x4)] [] h else if x3 = 2 then JJ 143 11 [(21, x0), (9, 0), (9, 0), (0, x3), (0, x4)] [] h else JJ 143 12 [(21, x0), (9, 0), (9, 0), (0, x3), (0, x4)] [] h) = _
  simp only [jt_143_10, jt_143_11, jt_143_12, jt_143_9, ck_or1, ck_or2, rf_wr, ln_wr, nn_wr, rf_cp, ln_cp, nn_cp, ln_wf, nn_wf, rd_wf, nn_nw]
  try rfl))
theorem jt_143_7 (h : am_H) (d0 d1 d2 d3 d4 : am_V) : JJ 143 7 [d0, d1, d2, d3, d4] [] h = some (h, (-2)) := (jj_of bk_143_7 _ _ h).trans (ff_of bk_143_7 [(9, 0), (9, 0), (9, 0), (9, 0), (9, 0)] [] h)
set_option maxRecDepth 20000 in
theorem jt_143_6 (h : am_H) (d4 : am_V) (x0 x1 x2 x3 : Int) : JJ 143 6 [(21, x0), (0, x1), (0, x2), (0, x3), d4] [] h = ck_ (0 ≤ x0) (ck_ (0 ≤ (rf_ h x0 7)) (bd_ (Wo_plateAt h (rf_ h x0 7) x1 x2) fun h1 v2 => if 0 ≤ v2 then (if x3 = 0 then some (h1, v2) else if x3 = 1 then ck_ (0 ≤ x0) (ck_ (0 ≤ (rf_ h1 x0 7)) (ck_ (0 ≤ (rf_ h1 (rf_ h1 x0 7) 10)) (ck_ (0 ≤ v2 ∧ v2 < ln_ h1 (rf_ h1 (rf_ h1 x0 7) 10)) (some (h1, rd_ h1 (rf_ h1 (rf_ h1 x0 7) 10) v2))))) else if x3 = 2 then ck_ (0 ≤ x0) (ck_ (0 ≤ (rf_ h1 x0 7)) (ck_ (0 ≤ (rf_ h1 (rf_ h1 x0 7) 11)) (ck_ (0 ≤ v2 ∧ v2 < ln_ h1 (rf_ h1 (rf_ h1 x0 7) 11)) (some (h1, rd_ h1 (rf_ h1 (rf_ h1 x0 7) 11) v2))))) else ck_ (0 ≤ x0) (ck_ (0 ≤ (rf_ h1 x0 7)) (ck_ (0 ≤ (rf_ h1 (rf_ h1 x0 7) 12)) (ck_ (0 ≤ v2 ∧ v2 < ln_ h1 (rf_ h1 (rf_ h1 x0 7) 12)) (some (h1, rd_ h1 (rf_ h1 (rf_ h1 x0 7) 12) v2)))))) else some (h1, (-2)))) := (jj_of bk_143_6 _ _ h).trans ((ff_of bk_143_6 [(21, x0), (0, x1), (0, x2), (0, x3), (9, 0)] [] h).trans (by
  show (ck_ (0 ≤ x0) (ck_ (0 ≤ (rf_ h x0 7)) (bd_ (CC 55 [(20, rf_ h x0 7), (0, x1), (0, x2)] h) fun h1 v2 => if 0 ≤ v2 then JJ 143 8 [(21, x0), (0, x1), (0, x2), (0, x3), (0, v2)] [] h1 else JJ 143 7 [(21, x0), (0, x1), (0, x2), (0, x3), (0, v2)] [] h1))) = _
  simp only [cc_55, jt_143_7, jt_143_8, ck_or1, ck_or2, rf_wr, ln_wr, nn_wr, rf_cp, ln_cp, nn_cp, ln_wf, nn_wf, rd_wf, nn_nw]
  try rfl))
set_option maxRecDepth 20000 in
theorem jt_143_4 (h : am_H) (d4 : am_V) (x0 x1 x2 x3 : Int) : JJ 143 4 [(21, x0), (0, x1), (0, x2), (0, x3), d4] [] h = if x3 ≤ 3 then ck_ (0 ≤ x0) (ck_ (0 ≤ (rf_ h x0 7)) (bd_ (Wo_plateAt h (rf_ h x0 7) x1 x2) fun h1 v2 => if 0 ≤ v2 then (if x3 = 0 then some (h1, v2) else if x3 = 1 then ck_ (0 ≤ x0) (ck_ (0 ≤ (rf_ h1 x0 7)) (ck_ (0 ≤ (rf_ h1 (rf_ h1 x0 7) 10)) (ck_ (0 ≤ v2 ∧ v2 < ln_ h1 (rf_ h1 (rf_ h1 x0 7) 10)) (some (h1, rd_ h1 (rf_ h1 (rf_ h1 x0 7) 10) v2))))) else if x3 = 2 then ck_ (0 ≤ x0) (ck_ (0 ≤ (rf_ h1 x0 7)) (ck_ (0 ≤ (rf_ h1 (rf_ h1 x0 7) 11)) (ck_ (0 ≤ v2 ∧ v2 < ln_ h1 (rf_ h1 (rf_ h1 x0 7) 11)) (some (h1, rd_ h1 (rf_ h1 (rf_ h1 x0 7) 11) v2))))) else ck_ (0 ≤ x0) (ck_ (0 ≤ (rf_ h1 x0 7)) (ck_ (0 ≤ (rf_ h1 (rf_ h1 x0 7) 12)) (ck_ (0 ≤ v2 ∧ v2 < ln_ h1 (rf_ h1 (rf_ h1 x0 7) 12)) (some (h1, rd_ h1 (rf_ h1 (rf_ h1 x0 7) 12) v2)))))) else some (h1, (-2)))) else some (h, (-1)) := (jj_of bk_143_4 _ _ h).trans ((ff_of bk_143_4 [(21, x0), (0, x1), (0, x2), (0, x3), (9, 0)] [] h).trans (by
  show (if x3 ≤ 3 then JJ 143 6 [(21, x0), (0, x1), (0, x2), (0, x3), (9, 0)] [] h else JJ 143 5 [(21, x0), (0, x1), (0, x2), (0, x3), (9, 0)] [] h) = _
  simp only [jt_143_5, jt_143_6, ck_or1, ck_or2, rf_wr, ln_wr, nn_wr, rf_cp, ln_cp, nn_cp, ln_wf, nn_wf, rd_wf, nn_nw]
  try rfl))
set_option maxRecDepth 20000 in
theorem jt_143_3 (h : am_H) (d4 : am_V) (x0 x1 x2 x3 : Int) : JJ 143 3 [(21, x0), (0, x1), (0, x2), (0, x3), d4] [] h = if x3 < 0 then some (h, (-1)) else if x3 ≤ 3 then ck_ (0 ≤ x0) (ck_ (0 ≤ (rf_ h x0 7)) (bd_ (Wo_plateAt h (rf_ h x0 7) x1 x2) fun h1 v2 => if 0 ≤ v2 then (if x3 = 0 then some (h1, v2) else if x3 = 1 then ck_ (0 ≤ x0) (ck_ (0 ≤ (rf_ h1 x0 7)) (ck_ (0 ≤ (rf_ h1 (rf_ h1 x0 7) 10)) (ck_ (0 ≤ v2 ∧ v2 < ln_ h1 (rf_ h1 (rf_ h1 x0 7) 10)) (some (h1, rd_ h1 (rf_ h1 (rf_ h1 x0 7) 10) v2))))) else if x3 = 2 then ck_ (0 ≤ x0) (ck_ (0 ≤ (rf_ h1 x0 7)) (ck_ (0 ≤ (rf_ h1 (rf_ h1 x0 7) 11)) (ck_ (0 ≤ v2 ∧ v2 < ln_ h1 (rf_ h1 (rf_ h1 x0 7) 11)) (some (h1, rd_ h1 (rf_ h1 (rf_ h1 x0 7) 11) v2))))) else ck_ (0 ≤ x0) (ck_ (0 ≤ (rf_ h1 x0 7)) (ck_ (0 ≤ (rf_ h1 (rf_ h1 x0 7) 12)) (ck_ (0 ≤ v2 ∧ v2 < ln_ h1 (rf_ h1 (rf_ h1 x0 7) 12)) (some (h1, rd_ h1 (rf_ h1 (rf_ h1 x0 7) 12) v2)))))) else some (h1, (-2)))) else some (h, (-1)) := (jj_of bk_143_3 _ _ h).trans ((ff_of bk_143_3 [(21, x0), (0, x1), (0, x2), (0, x3), (9, 0)] [] h).trans (by
  show (if x3 < 0 then JJ 143 5 [(21, x0), (0, x1), (0, x2), (0, x3), (9, 0)] [] h else JJ 143 4 [(21, x0), (0, x1), (0, x2), (0, x3), (9, 0)] [] h) = _
  simp only [jt_143_4, jt_143_5, ck_or1, ck_or2, rf_wr, ln_wr, nn_wr, rf_cp, ln_cp, nn_cp, ln_wf, nn_wf, rd_wf, nn_nw]
  try rfl))
set_option maxRecDepth 20000 in
theorem jt_143_2 (h : am_H) (d4 : am_V) (x0 x1 x2 x3 : Int) : JJ 143 2 [(21, x0), (0, x1), (0, x2), (0, x3), d4] [] h = if 5 ≤ x2 then some (h, (-1)) else if x3 < 0 then some (h, (-1)) else if x3 ≤ 3 then ck_ (0 ≤ x0) (ck_ (0 ≤ (rf_ h x0 7)) (bd_ (Wo_plateAt h (rf_ h x0 7) x1 x2) fun h1 v2 => if 0 ≤ v2 then (if x3 = 0 then some (h1, v2) else if x3 = 1 then ck_ (0 ≤ x0) (ck_ (0 ≤ (rf_ h1 x0 7)) (ck_ (0 ≤ (rf_ h1 (rf_ h1 x0 7) 10)) (ck_ (0 ≤ v2 ∧ v2 < ln_ h1 (rf_ h1 (rf_ h1 x0 7) 10)) (some (h1, rd_ h1 (rf_ h1 (rf_ h1 x0 7) 10) v2))))) else if x3 = 2 then ck_ (0 ≤ x0) (ck_ (0 ≤ (rf_ h1 x0 7)) (ck_ (0 ≤ (rf_ h1 (rf_ h1 x0 7) 11)) (ck_ (0 ≤ v2 ∧ v2 < ln_ h1 (rf_ h1 (rf_ h1 x0 7) 11)) (some (h1, rd_ h1 (rf_ h1 (rf_ h1 x0 7) 11) v2))))) else ck_ (0 ≤ x0) (ck_ (0 ≤ (rf_ h1 x0 7)) (ck_ (0 ≤ (rf_ h1 (rf_ h1 x0 7) 12)) (ck_ (0 ≤ v2 ∧ v2 < ln_ h1 (rf_ h1 (rf_ h1 x0 7) 12)) (some (h1, rd_ h1 (rf_ h1 (rf_ h1 x0 7) 12) v2)))))) else some (h1, (-2)))) else some (h, (-1)) := (jj_of bk_143_2 _ _ h).trans ((ff_of bk_143_2 [(21, x0), (0, x1), (0, x2), (0, x3), (9, 0)] [] h).trans (by
  show (if 5 ≤ x2 then JJ 143 5 [(21, x0), (0, x1), (0, x2), (0, x3), (9, 0)] [] h else JJ 143 3 [(21, x0), (0, x1), (0, x2), (0, x3), (9, 0)] [] h) = _
  simp only [jt_143_3, jt_143_5, ck_or1, ck_or2, rf_wr, ln_wr, nn_wr, rf_cp, ln_cp, nn_cp, ln_wf, nn_wf, rd_wf, nn_nw]
  try rfl))
set_option maxRecDepth 20000 in
theorem jt_143_1 (h : am_H) (d4 : am_V) (x0 x1 x2 x3 : Int) : JJ 143 1 [(21, x0), (0, x1), (0, x2), (0, x3), d4] [] h = if x2 < 0 then some (h, (-1)) else if 5 ≤ x2 then some (h, (-1)) else if x3 < 0 then some (h, (-1)) else if x3 ≤ 3 then ck_ (0 ≤ x0) (ck_ (0 ≤ (rf_ h x0 7)) (bd_ (Wo_plateAt h (rf_ h x0 7) x1 x2) fun h1 v2 => if 0 ≤ v2 then (if x3 = 0 then some (h1, v2) else if x3 = 1 then ck_ (0 ≤ x0) (ck_ (0 ≤ (rf_ h1 x0 7)) (ck_ (0 ≤ (rf_ h1 (rf_ h1 x0 7) 10)) (ck_ (0 ≤ v2 ∧ v2 < ln_ h1 (rf_ h1 (rf_ h1 x0 7) 10)) (some (h1, rd_ h1 (rf_ h1 (rf_ h1 x0 7) 10) v2))))) else if x3 = 2 then ck_ (0 ≤ x0) (ck_ (0 ≤ (rf_ h1 x0 7)) (ck_ (0 ≤ (rf_ h1 (rf_ h1 x0 7) 11)) (ck_ (0 ≤ v2 ∧ v2 < ln_ h1 (rf_ h1 (rf_ h1 x0 7) 11)) (some (h1, rd_ h1 (rf_ h1 (rf_ h1 x0 7) 11) v2))))) else ck_ (0 ≤ x0) (ck_ (0 ≤ (rf_ h1 x0 7)) (ck_ (0 ≤ (rf_ h1 (rf_ h1 x0 7) 12)) (ck_ (0 ≤ v2 ∧ v2 < ln_ h1 (rf_ h1 (rf_ h1 x0 7) 12)) (some (h1, rd_ h1 (rf_ h1 (rf_ h1 x0 7) 12) v2)))))) else some (h1, (-2)))) else some (h, (-1)) := (jj_of bk_143_1 _ _ h).trans ((ff_of bk_143_1 [(21, x0), (0, x1), (0, x2), (0, x3), (9, 0)] [] h).trans (by
  show (if x2 < 0 then JJ 143 5 [(21, x0), (0, x1), (0, x2), (0, x3), (9, 0)] [] h else JJ 143 2 [(21, x0), (0, x1), (0, x2), (0, x3), (9, 0)] [] h) = _
  simp only [jt_143_2, jt_143_5, ck_or1, ck_or2, rf_wr, ln_wr, nn_wr, rf_cp, ln_cp, nn_cp, ln_wf, nn_wf, rd_wf, nn_nw]
  try rfl))
set_option maxRecDepth 20000 in
theorem Pp_plate_e (h : am_H) (x0 x1 x2 x3 : Int) : Pp_plate h x0 x1 x2 x3 = ck_ (0 ≤ x0) (ck_ (0 ≤ (rf_ h x0 7)) (bd_ (Wo_hasPile h (rf_ h x0 7) x1) fun h1 v2 => if v2 = 0 then some (h1, (-1)) else if x2 < 0 then some (h1, (-1)) else if 5 ≤ x2 then some (h1, (-1)) else if x3 < 0 then some (h1, (-1)) else if x3 ≤ 3 then ck_ (0 ≤ x0) (ck_ (0 ≤ (rf_ h1 x0 7)) (bd_ (Wo_plateAt h1 (rf_ h1 x0 7) x1 x2) fun h3 v4 => if 0 ≤ v4 then (if x3 = 0 then some (h3, v4) else if x3 = 1 then ck_ (0 ≤ x0) (ck_ (0 ≤ (rf_ h3 x0 7)) (ck_ (0 ≤ (rf_ h3 (rf_ h3 x0 7) 10)) (ck_ (0 ≤ v4 ∧ v4 < ln_ h3 (rf_ h3 (rf_ h3 x0 7) 10)) (some (h3, rd_ h3 (rf_ h3 (rf_ h3 x0 7) 10) v4))))) else if x3 = 2 then ck_ (0 ≤ x0) (ck_ (0 ≤ (rf_ h3 x0 7)) (ck_ (0 ≤ (rf_ h3 (rf_ h3 x0 7) 11)) (ck_ (0 ≤ v4 ∧ v4 < ln_ h3 (rf_ h3 (rf_ h3 x0 7) 11)) (some (h3, rd_ h3 (rf_ h3 (rf_ h3 x0 7) 11) v4))))) else ck_ (0 ≤ x0) (ck_ (0 ≤ (rf_ h3 x0 7)) (ck_ (0 ≤ (rf_ h3 (rf_ h3 x0 7) 12)) (ck_ (0 ≤ v4 ∧ v4 < ln_ h3 (rf_ h3 (rf_ h3 x0 7) 12)) (some (h3, rd_ h3 (rf_ h3 (rf_ h3 x0 7) 12) v4)))))) else some (h3, (-2)))) else some (h1, (-1)))) := (ff_of bk_143_0 [(21, x0), (0, x1), (0, x2), (0, x3), (9, 0)] [] h).trans (by
  show (ck_ (0 ≤ x0) (ck_ (0 ≤ (rf_ h x0 7)) (bd_ (CC 54 [(20, rf_ h x0 7), (0, x1)] h) fun h1 v2 => if v2 = 0 then JJ 143 5 [(21, x0), (0, x1), (0, x2), (0, x3), (9, 0)] [] h1 else JJ 143 1 [(21, x0), (0, x1), (0, x2), (0, x3), (9, 0)] [] h1))) = _
  simp only [cc_54, jt_143_1, jt_143_5, ck_or1, ck_or2, rf_wr, ln_wr, nn_wr, rf_cp, ln_cp, nn_cp, ln_wf, nn_wf, rd_wf, nn_nw]
  try rfl)
theorem cc_143 (h : am_H) (x0 x1 x2 x3 : Int) : CC 143 [(21, x0), (0, x1), (0, x2), (0, x3)] h = Pp_plate h x0 x1 x2 x3 := cc_of pk_143 _ h
theorem pk_144 : am_prog 144 = some cd_144 := rfl
theorem bk_144_0 : bk_ am_prog 144 0 = some ([true, true, true], (bl_144_0, 9999)) := bk_of pk_144 rfl
theorem bk_144_1 : bk_ am_prog 144 1 = some ([true, true, true], (bl_144_1, 9999)) := bk_of pk_144 rfl
theorem bk_144_2 : bk_ am_prog 144 2 = some ([true, true, true], (bl_144_2, 9999)) := bk_of pk_144 rfl
theorem bk_144_3 : bk_ am_prog 144 3 = some ([false, false, false], (bl_144_3, 9999)) := bk_of pk_144 rfl
theorem bk_144_4 : bk_ am_prog 144 4 = some ([true, true, true], (bl_144_4, 9999)) := bk_of pk_144 rfl
theorem bk_144_5 : bk_ am_prog 144 5 = some ([true, true, false], (bl_144_5, 9999)) := bk_of pk_144 rfl
theorem bk_144_6 : bk_ am_prog 144 6 = some ([true, true, false], (bl_144_6, 7)) := bk_of pk_144 rfl
theorem bk_144_7 : bk_ am_prog 144 7 = some ([false, false, false], (bl_144_7, 9999)) := bk_of pk_144 rfl
theorem jt_144_3 (h : am_H) (d0 d1 d2 : am_V) : JJ 144 3 [d0, d1, d2] [] h = some (h, (-1)) := (jj_of bk_144_3 _ _ h).trans (ff_of bk_144_3 [(9, 0), (9, 0), (9, 0)] [] h)
theorem jt_144_7 (h : am_H) (d0 d1 d2 : am_V) (s0 : Int) : JJ 144 7 [d0, d1, d2] [(0, s0)] h = some (h, s0) := (jj_of bk_144_7 _ _ h).trans (ff_of bk_144_7 [(9, 0), (9, 0), (9, 0)] [(0, s0)] h)
theorem jt_144_6 (h : am_H) (d2 : am_V) (x0 x1 : Int) : JJ 144 6 [(21, x0), (0, x1), d2] [] h = ck_ (0 ≤ x0) (ck_ (0 ≤ (rf_ h x0 7)) (ck_ (0 ≤ (rf_ h (rf_ h x0 7) 8)) (ck_ (0 ≤ x1 ∧ x1 < ln_ h (rf_ h (rf_ h x0 7) 8)) (some (h, rd_ h (rf_ h (rf_ h x0 7) 8) x1))))) := (jj_of bk_144_6 _ _ h).trans ((ff_of bk_144_6 [(21, x0), (0, x1), (9, 0)] [] h).trans (by
  show (ck_ (0 ≤ x0) (ck_ (0 ≤ (rf_ h x0 7)) (ck_ (0 ≤ (rf_ h (rf_ h x0 7) 8)) (ck_ (0 ≤ x1 ∧ x1 < ln_ h (rf_ h (rf_ h x0 7) 8)) (JJ 144 7 [(21, x0), (0, x1), (9, 0)] [(0, rd_ h (rf_ h (rf_ h x0 7) 8) x1)] h))))) = _
  simp only [jt_144_7, ck_or1, ck_or2, rf_wr, ln_wr, nn_wr, rf_cp, ln_cp, nn_cp, ln_wf, nn_wf, rd_wf, nn_nw]
  try rfl))
theorem jt_144_5 (h : am_H) (d2 : am_V) (x0 x1 : Int) : JJ 144 5 [(21, x0), (0, x1), d2] [] h = ck_ (0 ≤ x0) (ck_ (0 ≤ (rf_ h x0 5)) (ck_ (0 ≤ (rf_ h (rf_ h x0 5) 8)) (ck_ (0 ≤ x1 ∧ x1 < ln_ h (rf_ h (rf_ h x0 5) 8)) (some (h, rd_ h (rf_ h (rf_ h x0 5) 8) x1))))) := (jj_of bk_144_5 _ _ h).trans ((ff_of bk_144_5 [(21, x0), (0, x1), (9, 0)] [] h).trans (by
  show (ck_ (0 ≤ x0) (ck_ (0 ≤ (rf_ h x0 5)) (ck_ (0 ≤ (rf_ h (rf_ h x0 5) 8)) (ck_ (0 ≤ x1 ∧ x1 < ln_ h (rf_ h (rf_ h x0 5) 8)) (JJ 144 7 [(21, x0), (0, x1), (9, 0)] [(0, rd_ h (rf_ h (rf_ h x0 5) 8) x1)] h))))) = _
  simp only [jt_144_7, ck_or1, ck_or2, rf_wr, ln_wr, nn_wr, rf_cp, ln_cp, nn_cp, ln_wf, nn_wf, rd_wf, nn_nw]
  try rfl))
theorem jt_144_4 (h : am_H) (x0 x1 x2 : Int) : JJ 144 4 [(21, x0), (0, x1), (0, x2)] [] h = if x2 ≠ 0 then ck_ (0 ≤ x0) (ck_ (0 ≤ (rf_ h x0 7)) (ck_ (0 ≤ (rf_ h (rf_ h x0 7) 8)) (ck_ (0 ≤ x1 ∧ x1 < ln_ h (rf_ h (rf_ h x0 7) 8)) (some (h, rd_ h (rf_ h (rf_ h x0 7) 8) x1))))) else ck_ (0 ≤ x0) (ck_ (0 ≤ (rf_ h x0 5)) (ck_ (0 ≤ (rf_ h (rf_ h x0 5) 8)) (ck_ (0 ≤ x1 ∧ x1 < ln_ h (rf_ h (rf_ h x0 5) 8)) (some (h, rd_ h (rf_ h (rf_ h x0 5) 8) x1))))) := (jj_of bk_144_4 _ _ h).trans ((ff_of bk_144_4 [(21, x0), (0, x1), (0, x2)] [] h).trans (by
  show (if x2 ≠ 0 then JJ 144 6 [(21, x0), (0, x1), (0, x2)] [] h else JJ 144 5 [(21, x0), (0, x1), (0, x2)] [] h) = _
  simp only [jt_144_5, jt_144_6, ck_or1, ck_or2, rf_wr, ln_wr, nn_wr, rf_cp, ln_cp, nn_cp, ln_wf, nn_wf, rd_wf, nn_nw]
  try rfl))
theorem jt_144_2 (h : am_H) (x0 x1 x2 : Int) : JJ 144 2 [(21, x0), (0, x1), (0, x2)] [] h = if x2 ≤ 1 then (if x2 ≠ 0 then ck_ (0 ≤ x0) (ck_ (0 ≤ (rf_ h x0 7)) (ck_ (0 ≤ (rf_ h (rf_ h x0 7) 8)) (ck_ (0 ≤ x1 ∧ x1 < ln_ h (rf_ h (rf_ h x0 7) 8)) (some (h, rd_ h (rf_ h (rf_ h x0 7) 8) x1))))) else ck_ (0 ≤ x0) (ck_ (0 ≤ (rf_ h x0 5)) (ck_ (0 ≤ (rf_ h (rf_ h x0 5) 8)) (ck_ (0 ≤ x1 ∧ x1 < ln_ h (rf_ h (rf_ h x0 5) 8)) (some (h, rd_ h (rf_ h (rf_ h x0 5) 8) x1)))))) else some (h, (-1)) := (jj_of bk_144_2 _ _ h).trans ((ff_of bk_144_2 [(21, x0), (0, x1), (0, x2)] [] h).trans (by
  show (if x2 ≤ 1 then JJ 144 4 [(21, x0), (0, x1), (0, x2)] [] h else JJ 144 3 [(21, x0), (0, x1), (0, x2)] [] h) = _
  simp only [jt_144_3, jt_144_4, ck_or1, ck_or2, rf_wr, ln_wr, nn_wr, rf_cp, ln_cp, nn_cp, ln_wf, nn_wf, rd_wf, nn_nw]
  try rfl))
theorem jt_144_1 (h : am_H) (x0 x1 x2 : Int) : JJ 144 1 [(21, x0), (0, x1), (0, x2)] [] h = if x2 < 0 then some (h, (-1)) else if x2 ≤ 1 then (if x2 ≠ 0 then ck_ (0 ≤ x0) (ck_ (0 ≤ (rf_ h x0 7)) (ck_ (0 ≤ (rf_ h (rf_ h x0 7) 8)) (ck_ (0 ≤ x1 ∧ x1 < ln_ h (rf_ h (rf_ h x0 7) 8)) (some (h, rd_ h (rf_ h (rf_ h x0 7) 8) x1))))) else ck_ (0 ≤ x0) (ck_ (0 ≤ (rf_ h x0 5)) (ck_ (0 ≤ (rf_ h (rf_ h x0 5) 8)) (ck_ (0 ≤ x1 ∧ x1 < ln_ h (rf_ h (rf_ h x0 5) 8)) (some (h, rd_ h (rf_ h (rf_ h x0 5) 8) x1)))))) else some (h, (-1)) := (jj_of bk_144_1 _ _ h).trans ((ff_of bk_144_1 [(21, x0), (0, x1), (0, x2)] [] h).trans (by
  show (if x2 < 0 then JJ 144 3 [(21, x0), (0, x1), (0, x2)] [] h else JJ 144 2 [(21, x0), (0, x1), (0, x2)] [] h) = _
  simp only [jt_144_2, jt_144_3, ck_or1, ck_or2, rf_wr, ln_wr, nn_wr, rf_cp, ln_cp, nn_cp, ln_wf, nn_wf, rd_wf, nn_nw]
  try rfl))
theorem Pp_maid_e (h : am_H) (x0 x1 x2 : Int) : Pp_maid h x0 x1 x2 = ck_ (0 ≤ x0) (ck_ (0 ≤ (rf_ h x0 7)) (bd_ (Wo_hasMaid h (rf_ h x0 7) x1) fun h1 v2 => if v2 = 0 then some (h1, (-1)) else if x2 < 0 then some (h1, (-1)) else if x2 ≤ 1 then (if x2 ≠ 0 then ck_ (0 ≤ x0) (ck_ (0 ≤ (rf_ h1 x0 7)) (ck_ (0 ≤ (rf_ h1 (rf_ h1 x0 7) 8)) (ck_ (0 ≤ x1 ∧ x1 < ln_ h1 (rf_ h1 (rf_ h1 x0 7) 8)) (some (h1, rd_ h1 (rf_ h1 (rf_ h1 x0 7) 8) x1))))) else ck_ (0 ≤ x0) (ck_ (0 ≤ (rf_ h1 x0 5)) (ck_ (0 ≤ (rf_ h1 (rf_ h1 x0 5) 8)) (ck_ (0 ≤ x1 ∧ x1 < ln_ h1 (rf_ h1 (rf_ h1 x0 5) 8)) (some (h1, rd_ h1 (rf_ h1 (rf_ h1 x0 5) 8) x1)))))) else some (h1, (-1)))) := (ff_of bk_144_0 [(21, x0), (0, x1), (0, x2)] [] h).trans (by
  show (ck_ (0 ≤ x0) (ck_ (0 ≤ (rf_ h x0 7)) (bd_ (CC 53 [(20, rf_ h x0 7), (0, x1)] h) fun h1 v2 => if v2 = 0 then JJ 144 3 [(21, x0), (0, x1), (0, x2)] [] h1 else JJ 144 1 [(21, x0), (0, x1), (0, x2)] [] h1))) = _
  simp only [cc_53, jt_144_1, jt_144_3, ck_or1, ck_or2, rf_wr, ln_wr, nn_wr, rf_cp, ln_cp, nn_cp, ln_wf, nn_wf, rd_wf, nn_nw]
  try rfl)
theorem cc_144 (h : am_H) (x0 x1 x2 : Int) : CC 144 [(21, x0), (0, x1), (0, x2)] h = Pp_maid h x0 x1 x2 := cc_of pk_144 _ h
theorem pk_145 : am_prog 145 = some cd_145 := rfl
theorem bk_145_0 : bk_ am_prog 145 0 = some ([true, true, true, true, true], (bl_145_0, 9999)) := bk_of pk_145 rfl
theorem bk_145_1 : bk_ am_prog 145 1 = some ([true, true, true, true, true], (bl_145_1, 9999)) := bk_of pk_145 rfl
theorem bk_145_2 : bk_ am_prog 145 2 = some ([true, true, true, true, true], (bl_145_2, 9999)) := bk_of pk_145 rfl
theorem bk_145_3 : bk_ am_prog 145 3 = some ([true, true, true, true, true], (bl_145_3, 9999)) := bk_of pk_145 rfl
theorem bk_145_4 : bk_ am_prog 145 4 = some ([true, true, true, true, true], (bl_145_4, 9999)) := bk_of pk_145 rfl
theorem bk_145_5 : bk_ am_prog 145 5 = some ([true, true, true, true, true], (bl_145_5, 9999)) := bk_of pk_145 rfl
theorem bk_145_6 : bk_ am_prog 145 6 = some ([false, false, false, false, false], (bl_145_6, 9999)) := bk_of pk_145 rfl
theorem bk_145_7 : bk_ am_prog 145 7 = some ([true, true, true, true, true], (bl_145_7, 9999)) := bk_of pk_145 rfl
theorem jt_145_6 (h : am_H) (d0 d1 d2 d3 d4 : am_V) : JJ 145 6 [d0, d1, d2, d3, d4] [] h = some (h, (-9223372036854775808)) := (jj_of bk_145_6 _ _ h).trans (ff_of bk_145_6 [(9, 0), (9, 0), (9, 0), (9, 0), (9, 0)] [] h)
theorem jt_145_7 (h : am_H) (x0 x1 x2 x3 x4 : Int) : JJ 145 7 [(21, x0), (0, x1), (0, x2), (0, x3), (0, x4)] [] h = ck_ (0 ≤ x0) (ck_ (0 ≤ x0) (ck_ (0 ≤ x0) (ck_ (0 ≤ (rf_ h x0 11)) (bd_ (La_lookAt h (rf_ h x0 11) (rf_ h x0 5) (rf_ h x0 7) x2 x3 x4) fun h1 _ => ck_ (0 ≤ x0) (ck_ (0 ≤ (rf_ h1 x0 11)) (bd_ (La_value h1 (rf_ h1 x0 11) x1 (-9223372036854775808)) fun h3 v4 => some (h3, v4))))))) := (jj_of bk_145_7 _ _ h).trans ((ff_of bk_145_7 [(21, x0), (0, x1), (0, x2), (0, x3), (0, x4)] [] h).trans (by
  show (ck_ (0 ≤ x0) (ck_ (0 ≤ x0) (ck_ (0 ≤ x0) (ck_ (0 ≤ (rf_ h x0 11)) (bd_ (CC 46 [(13, rf_ h x0 11), (18, rf_ h x0 5), (20, rf_ h x0 7), (0, x2), (0, x3), (0, x4)] h) fun h1 _ => ck_ (0 ≤ x0) (ck_ (0 ≤ (rf_ h1 x0 11)) (bd_ (CC 59 [(13, rf_ h1 x0 11), (0, x1), (1, (-9223372036854775808))] h1) fun h3 v4 => some (h3, v4)))))))) = _
  simp only [cc_46, cc_59, ck_or1, ck_or2, rf_wr, ln_wr, nn_wr, rf_cp, ln_cp, nn_cp, ln_wf, nn_wf, rd_wf, nn_nw]
  try rfl))
theorem jt_145_5 (h : am_H) (x0 x1 x2 x3 x4 : Int) : JJ 145 5 [(21, x0), (0, x1), (0, x2), (0, x3), (0, x4)] [] h = if x4 ≤ 5 then ck_ (0 ≤ x0) (ck_ (0 ≤ x0) (ck_ (0 ≤ x0) (ck_ (0 ≤ (rf_ h x0 11)) (bd_ (La_lookAt h (rf_ h x0 11) (rf_ h x0 5) (rf_ h x0 7) x2 x3 x4) fun h1 _ => ck_ (0 ≤ x0) (ck_ (0 ≤ (rf_ h1 x0 11)) (bd_ (La_value h1 (rf_ h1 x0 11) x1 (-9223372036854775808)) fun h3 v4 => some (h3, v4))))))) else some (h, (-9223372036854775808)) := (jj_of bk_145_5 _ _ h).trans ((ff_of bk_145_5 [(21, x0), (0, x1), (0, x2), (0, x3), (0, x4)] [] h).trans (by
  show (if x4 ≤ 5 then JJ 145 7 [(21, x0), (0, x1), (0, x2), (0, x3), (0, x4)] [] h else JJ 145 6 [(21, x0), (0, x1), (0, x2), (0, x3), (0, x4)] [] h) = _
  simp only [jt_145_6, jt_145_7, ck_or1, ck_or2, rf_wr, ln_wr, nn_wr, rf_cp, ln_cp, nn_cp, ln_wf, nn_wf, rd_wf, nn_nw]
  try rfl))
theorem jt_145_4 (h : am_H) (x0 x1 x2 x3 x4 : Int) : JJ 145 4 [(21, x0), (0, x1), (0, x2), (0, x3), (0, x4)] [] h = if x4 < 1 then some (h, (-9223372036854775808)) else if x4 ≤ 5 then ck_ (0 ≤ x0) (ck_ (0 ≤ x0) (ck_ (0 ≤ x0) (ck_ (0 ≤ (rf_ h x0 11)) (bd_ (La_lookAt h (rf_ h x0 11) (rf_ h x0 5) (rf_ h x0 7) x2 x3 x4) fun h1 _ => ck_ (0 ≤ x0) (ck_ (0 ≤ (rf_ h1 x0 11)) (bd_ (La_value h1 (rf_ h1 x0 11) x1 (-9223372036854775808)) fun h3 v4 => some (h3, v4))))))) else some (h, (-9223372036854775808)) := (jj_of bk_145_4 _ _ h).trans ((ff_of bk_145_4 [(21, x0), (0, x1), (0, x2), (0, x3), (0, x4)] [] h).trans (by
  show (if x4 < 1 then JJ 145 6 [(21, x0), (0, x1), (0, x2), (0, x3), (0, x4)] [] h else JJ 145 5 [(21, x0), (0, x1), (0, x2), (0, x3), (0, x4)] [] h) = _
  simp only [jt_145_5, jt_145_6, ck_or1, ck_or2, rf_wr, ln_wr, nn_wr, rf_cp, ln_cp, nn_cp, ln_wf, nn_wf, rd_wf, nn_nw]
  try rfl))
theorem jt_145_3 (h : am_H) (x0 x1 x2 x3 x4 : Int) : JJ 145 3 [(21, x0), (0, x1), (0, x2), (0, x3), (0, x4)] [] h = ck_ (0 ≤ x0) (ck_ (0 ≤ (rf_ h x0 7)) (bd_ (Wo_hasPile h (rf_ h x0 7) x3) fun h1 v2 => if v2 = 0 then some (h1, (-9223372036854775808)) else if x4 < 1 then some (h1, (-9223372036854775808)) else if x4 ≤ 5 then ck_ (0 ≤ x0) (ck_ (0 ≤ x0) (ck_ (0 ≤ x0) (ck_ (0 ≤ (rf_ h1 x0 11)) (bd_ (La_lookAt h1 (rf_ h1 x0 11) (rf_ h1 x0 5) (rf_ h1 x0 7) x2 x3 x4) fun h3 _ => ck_ (0 ≤ x0) (ck_ (0 ≤ (rf_ h3 x0 11)) (bd_ (La_value h3 (rf_ h3 x0 11) x1 (-9223372036854775808)) fun h5 v6 => some (h5, v6))))))) else some (h1, (-9223372036854775808)))) := (jj_of bk_145_3 _ _ h).trans ((ff_of bk_145_3 [(21, x0), (0, x1), (0, x2), (0, x3), (0, x4)] [] h).trans (by
  show (ck_ (0 ≤ x0) (ck_ (0 ≤ (rf_ h x0 7)) (bd_ (CC 54 [(20, rf_ h x0 7), (0, x3)] h) fun h1 v2 => if v2 = 0 then JJ 145 6 [(21, x0), (0, x1), (0, x2), (0, x3), (0, x4)] [] h1 else JJ 145 4 [(21, x0), (0, x1), (0, x2), (0, x3), (0, x4)] [] h1))) = _
  simp only [cc_54, jt_145_4, jt_145_6, ck_or1, ck_or2, rf_wr, ln_wr, nn_wr, rf_cp, ln_cp, nn_cp, ln_wf, nn_wf, rd_wf, nn_nw]
  try rfl))
set_option maxRecDepth 20000 in
theorem jt_145_2 (h : am_H) (x0 x1 x2 x3 x4 : Int) : JJ 145 2 [(21, x0), (0, x1), (0, x2), (0, x3), (0, x4)] [] h = ck_ (0 ≤ x0) (ck_ (0 ≤ (rf_ h x0 7)) (bd_ (Wo_hasMaid h (rf_ h x0 7) x2) fun h1 v2 => if v2 = 0 then some (h1, (-9223372036854775808)) else ck_ (0 ≤ x0) (ck_ (0 ≤ (rf_ h1 x0 7)) (bd_ (Wo_hasPile h1 (rf_ h1 x0 7) x3) fun h3 v4 => if v4 = 0 then some (h3, (-9223372036854775808)) else if x4 < 1 then some (h3, (-9223372036854775808)) else if x4 ≤ 5 then ck_ (0 ≤ x0) (ck_ (0 ≤ x0) (ck_ (0 ≤ x0) (ck_ (0 ≤ (rf_ h3 x0 11)) (bd_ (La_lookAt h3 (rf_ h3 x0 11) (rf_ h3 x0 5) (rf_ h3 x0 7) x2 x3 x4) fun h5 _ => ck_ (0 ≤ x0) (ck_ (0 ≤ (rf_ h5 x0 11)) (bd_ (La_value h5 (rf_ h5 x0 11) x1 (-9223372036854775808)) fun h7 v8 => some (h7, v8))))))) else some (h3, (-9223372036854775808)))))) := (jj_of bk_145_2 _ _ h).trans ((ff_of bk_145_2 [(21, x0), (0, x1), (0, x2), (0, x3), (0, x4)] [] h).trans (by
  show (ck_ (0 ≤ x0) (ck_ (0 ≤ (rf_ h x0 7)) (bd_ (CC 53 [(20, rf_ h x0 7), (0, x2)] h) fun h1 v2 => if v2 = 0 then JJ 145 6 [(21, x0), (0, x1), (0, x2), (0, x3), (0, x4)] [] h1 else JJ 145 3 [(21, x0), (0, x1), (0, x2), (0, x3), (0, x4)] [] h1))) = _
  simp only [cc_53, jt_145_3, jt_145_6, ck_or1, ck_or2, rf_wr, ln_wr, nn_wr, rf_cp, ln_cp, nn_cp, ln_wf, nn_wf, rd_wf, nn_nw]
  try rfl))
set_option maxRecDepth 20000 in
theorem jt_145_1 (h : am_H) (x0 x1 x2 x3 x4 : Int) : JJ 145 1 [(21, x0), (0, x1), (0, x2), (0, x3), (0, x4)] [] h = if 3 ≤ x1 then some (h, (-9223372036854775808)) else ck_ (0 ≤ x0) (ck_ (0 ≤ (rf_ h x0 7)) (bd_ (Wo_hasMaid h (rf_ h x0 7) x2) fun h1 v2 => if v2 = 0 then some (h1, (-9223372036854775808)) else ck_ (0 ≤ x0) (ck_ (0 ≤ (rf_ h1 x0 7)) (bd_ (Wo_hasPile h1 (rf_ h1 x0 7) x3) fun h3 v4 => if v4 = 0 then some (h3, (-9223372036854775808)) else if x4 < 1 then some (h3, (-9223372036854775808)) else if x4 ≤ 5 then ck_ (0 ≤ x0) (ck_ (0 ≤ x0) (ck_ (0 ≤ x0) (ck_ (0 ≤ (rf_ h3 x0 11)) (bd_ (La_lookAt h3 (rf_ h3 x0 11) (rf_ h3 x0 5) (rf_ h3 x0 7) x2 x3 x4) fun h5 _ => ck_ (0 ≤ x0) (ck_ (0 ≤ (rf_ h5 x0 11)) (bd_ (La_value h5 (rf_ h5 x0 11) x1 (-9223372036854775808)) fun h7 v8 => some (h7, v8))))))) else some (h3, (-9223372036854775808)))))) := (jj_of bk_145_1 _ _ h).trans ((ff_of bk_145_1 [(21, x0), (0, x1), (0, x2), (0, x3), (0, x4)] [] h).trans (by
  show (if 3 ≤ x1 then JJ 145 6 [(21, x0), (0, x1), (0, x2), (0, x3), (0, x4)] [] h else JJ 145 2 [(21, x0), (0, x1), (0, x2), (0, x3), (0, x4)] [] h) = _
  simp only [jt_145_2, jt_145_6, ck_or1, ck_or2, rf_wr, ln_wr, nn_wr, rf_cp, ln_cp, nn_cp, ln_wf, nn_wf, rd_wf, nn_nw]
  try rfl))
set_option maxRecDepth 20000 in
theorem Pp_law_e (h : am_H) (x0 x1 x2 x3 x4 : Int) : Pp_law h x0 x1 x2 x3 x4 = if x1 < 0 then some (h, (-9223372036854775808)) else if 3 ≤ x1 then some (h, (-9223372036854775808)) else ck_ (0 ≤ x0) (ck_ (0 ≤ (rf_ h x0 7)) (bd_ (Wo_hasMaid h (rf_ h x0 7) x2) fun h1 v2 => if v2 = 0 then some (h1, (-9223372036854775808)) else ck_ (0 ≤ x0) (ck_ (0 ≤ (rf_ h1 x0 7)) (bd_ (Wo_hasPile h1 (rf_ h1 x0 7) x3) fun h3 v4 => if v4 = 0 then some (h3, (-9223372036854775808)) else if x4 < 1 then some (h3, (-9223372036854775808)) else if x4 ≤ 5 then ck_ (0 ≤ x0) (ck_ (0 ≤ x0) (ck_ (0 ≤ x0) (ck_ (0 ≤ (rf_ h3 x0 11)) (bd_ (La_lookAt h3 (rf_ h3 x0 11) (rf_ h3 x0 5) (rf_ h3 x0 7) x2 x3 x4) fun h5 _ => ck_ (0 ≤ x0) (ck_ (0 ≤ (rf_ h5 x0 11)) (bd_ (La_value h5 (rf_ h5 x0 11) x1 (-9223372036854775808)) fun h7 v8 => some (h7, v8))))))) else some (h3, (-9223372036854775808)))))) := (ff_of bk_145_0 [(21, x0), (0, x1), (0, x2), (0, x3), (0, x4)] [] h).trans (by
  show (if x1 < 0 then JJ 145 6 [(21, x0), (0, x1), (0, x2), (0, x3), (0, x4)] [] h else JJ 145 1 [(21, x0), (0, x1), (0, x2), (0, x3), (0, x4)] [] h) = _
  simp only [jt_145_1, jt_145_6, ck_or1, ck_or2, rf_wr, ln_wr, nn_wr, rf_cp, ln_cp, nn_cp, ln_wf, nn_wf, rd_wf, nn_nw]
  try rfl)
theorem cc_145 (h : am_H) (x0 x1 x2 x3 x4 : Int) : CC 145 [(21, x0), (0, x1), (0, x2), (0, x3), (0, x4)] h = Pp_law h x0 x1 x2 x3 x4 := cc_of pk_145 _ h
theorem pk_146 : am_prog 146 = some cd_146 := rfl
theorem bk_146_0 : bk_ am_prog 146 0 = some ([true, true, true], (bl_146_0, 9999)) := bk_of pk_146 rfl
theorem bk_146_1 : bk_ am_prog 146 1 = some ([true, true, true], (bl_146_1, 9999)) := bk_of pk_146 rfl
theorem bk_146_2 : bk_ am_prog 146 2 = some ([true, true, true], (bl_146_2, 9999)) := bk_of pk_146 rfl
theorem bk_146_3 : bk_ am_prog 146 3 = some ([false, false, false], (bl_146_3, 9999)) := bk_of pk_146 rfl
theorem bk_146_4 : bk_ am_prog 146 4 = some ([true, true, true], (bl_146_4, 9999)) := bk_of pk_146 rfl
theorem jt_146_3 (h : am_H) (d0 d1 d2 : am_V) : JJ 146 3 [d0, d1, d2] [] h = some (h, (-1)) := (jj_of bk_146_3 _ _ h).trans (ff_of bk_146_3 [(9, 0), (9, 0), (9, 0)] [] h)
theorem jt_146_4 (h : am_H) (x0 x1 x2 : Int) : JJ 146 4 [(21, x0), (0, x1), (0, x2)] [] h = ck_ (0 ≤ x0) (ck_ (0 ≤ (rf_ h x0 7)) (bd_ (Wo_turnOver h (rf_ h x0 7) x1 x2) fun h1 _ => ck_ (0 ≤ x0) (ck_ (0 ≤ (rf_ h1 x0 13)) (bd_ (Do_note h1 (rf_ h1 x0 13) 0 x1 x2) fun h3 _ => ck_ (0 ≤ x0) (ck_ (0 ≤ (rf_ h3 x0 7)) (bd_ (Wo_gaps h3 (rf_ h3 x0 7) x1) fun h5 v6 => some (h5, v6))))))) := (jj_of bk_146_4 _ _ h).trans ((ff_of bk_146_4 [(21, x0), (0, x1), (0, x2)] [] h).trans (by
  show (ck_ (0 ≤ x0) (ck_ (0 ≤ (rf_ h x0 7)) (bd_ (CC 66 [(20, rf_ h x0 7), (0, x1), (0, x2)] h) fun h1 _ => ck_ (0 ≤ x0) (ck_ (0 ≤ (rf_ h1 x0 13)) (bd_ (CC 24 [(11, rf_ h1 x0 13), (0, 0), (0, x1), (0, x2)] h1) fun h3 _ => ck_ (0 ≤ x0) (ck_ (0 ≤ (rf_ h3 x0 7)) (bd_ (CC 52 [(20, rf_ h3 x0 7), (0, x1)] h3) fun h5 v6 => some (h5, v6)))))))) = _
  simp only [cc_52, cc_66, cc_24, ck_or1, ck_or2, rf_wr, ln_wr, nn_wr, rf_cp, ln_cp, nn_cp, ln_wf, nn_wf, rd_wf, nn_nw]
  try rfl))
theorem jt_146_2 (h : am_H) (x0 x1 x2 : Int) : JJ 146 2 [(21, x0), (0, x1), (0, x2)] [] h = ck_ (0 ≤ x0) (ck_ (0 ≤ (rf_ h x0 7)) (ck_ (0 ≤ (rf_ h (rf_ h x0 7) 6)) (ck_ (0 ≤ x1 ∧ x1 < ln_ h (rf_ h (rf_ h x0 7) 6)) (if x2 ≤ (rd_ h (rf_ h (rf_ h x0 7) 6) x1) then ck_ (0 ≤ x0) (ck_ (0 ≤ (rf_ h x0 7)) (bd_ (Wo_turnOver h (rf_ h x0 7) x1 x2) fun h1 _ => ck_ (0 ≤ x0) (ck_ (0 ≤ (rf_ h1 x0 13)) (bd_ (Do_note h1 (rf_ h1 x0 13) 0 x1 x2) fun h3 _ => ck_ (0 ≤ x0) (ck_ (0 ≤ (rf_ h3 x0 7)) (bd_ (Wo_gaps h3 (rf_ h3 x0 7) x1) fun h5 v6 => some (h5, v6))))))) else some (h, (-1)))))) := (jj_of bk_146_2 _ _ h).trans ((ff_of bk_146_2 [(21, x0), (0, x1), (0, x2)] [] h).trans (by
  show (ck_ (0 ≤ x0) (ck_ (0 ≤ (rf_ h x0 7)) (ck_ (0 ≤ (rf_ h (rf_ h x0 7) 6)) (ck_ (0 ≤ x1 ∧ x1 < ln_ h (rf_ h (rf_ h x0 7) 6)) (if x2 ≤ (rd_ h (rf_ h (rf_ h x0 7) 6) x1) then JJ 146 4 [(21, x0), (0, x1), (0, x2)] [] h else JJ 146 3 [(21, x0), (0, x1), (0, x2)] [] h))))) = _
  simp only [jt_146_3, jt_146_4, ck_or1, ck_or2, rf_wr, ln_wr, nn_wr, rf_cp, ln_cp, nn_cp, ln_wf, nn_wf, rd_wf, nn_nw]
  try rfl))
theorem jt_146_1 (h : am_H) (x0 x1 x2 : Int) : JJ 146 1 [(21, x0), (0, x1), (0, x2)] [] h = if x2 < 1 then some (h, (-1)) else ck_ (0 ≤ x0) (ck_ (0 ≤ (rf_ h x0 7)) (ck_ (0 ≤ (rf_ h (rf_ h x0 7) 6)) (ck_ (0 ≤ x1 ∧ x1 < ln_ h (rf_ h (rf_ h x0 7) 6)) (if x2 ≤ (rd_ h (rf_ h (rf_ h x0 7) 6) x1) then ck_ (0 ≤ x0) (ck_ (0 ≤ (rf_ h x0 7)) (bd_ (Wo_turnOver h (rf_ h x0 7) x1 x2) fun h1 _ => ck_ (0 ≤ x0) (ck_ (0 ≤ (rf_ h1 x0 13)) (bd_ (Do_note h1 (rf_ h1 x0 13) 0 x1 x2) fun h3 _ => ck_ (0 ≤ x0) (ck_ (0 ≤ (rf_ h3 x0 7)) (bd_ (Wo_gaps h3 (rf_ h3 x0 7) x1) fun h5 v6 => some (h5, v6))))))) else some (h, (-1)))))) := (jj_of bk_146_1 _ _ h).trans ((ff_of bk_146_1 [(21, x0), (0, x1), (0, x2)] [] h).trans (by
  show (if x2 < 1 then JJ 146 3 [(21, x0), (0, x1), (0, x2)] [] h else JJ 146 2 [(21, x0), (0, x1), (0, x2)] [] h) = _
  simp only [jt_146_2, jt_146_3, ck_or1, ck_or2, rf_wr, ln_wr, nn_wr, rf_cp, ln_cp, nn_cp, ln_wf, nn_wf, rd_wf, nn_nw]
  try rfl))
theorem Pp_turn_e (h : am_H) (x0 x1 x2 : Int) : Pp_turn h x0 x1 x2 = ck_ (0 ≤ x0) (ck_ (0 ≤ (rf_ h x0 7)) (bd_ (Wo_hasPile h (rf_ h x0 7) x1) fun h1 v2 => if v2 = 0 then some (h1, (-1)) else if x2 < 1 then some (h1, (-1)) else ck_ (0 ≤ x0) (ck_ (0 ≤ (rf_ h1 x0 7)) (ck_ (0 ≤ (rf_ h1 (rf_ h1 x0 7) 6)) (ck_ (0 ≤ x1 ∧ x1 < ln_ h1 (rf_ h1 (rf_ h1 x0 7) 6)) (if x2 ≤ (rd_ h1 (rf_ h1 (rf_ h1 x0 7) 6) x1) then ck_ (0 ≤ x0) (ck_ (0 ≤ (rf_ h1 x0 7)) (bd_ (Wo_turnOver h1 (rf_ h1 x0 7) x1 x2) fun h3 _ => ck_ (0 ≤ x0) (ck_ (0 ≤ (rf_ h3 x0 13)) (bd_ (Do_note h3 (rf_ h3 x0 13) 0 x1 x2) fun h5 _ => ck_ (0 ≤ x0) (ck_ (0 ≤ (rf_ h5 x0 7)) (bd_ (Wo_gaps h5 (rf_ h5 x0 7) x1) fun h7 v8 => some (h7, v8))))))) else some (h1, (-1)))))))) := (ff_of bk_146_0 [(21, x0), (0, x1), (0, x2)] [] h).trans (by
  show (ck_ (0 ≤ x0) (ck_ (0 ≤ (rf_ h x0 7)) (bd_ (CC 54 [(20, rf_ h x0 7), (0, x1)] h) fun h1 v2 => if v2 = 0 then JJ 146 3 [(21, x0), (0, x1), (0, x2)] [] h1 else JJ 146 1 [(21, x0), (0, x1), (0, x2)] [] h1))) = _
  simp only [cc_54, jt_146_1, jt_146_3, ck_or1, ck_or2, rf_wr, ln_wr, nn_wr, rf_cp, ln_cp, nn_cp, ln_wf, nn_wf, rd_wf, nn_nw]
  try rfl)
theorem cc_146 (h : am_H) (x0 x1 x2 : Int) : CC 146 [(21, x0), (0, x1), (0, x2)] h = Pp_turn h x0 x1 x2 := cc_of pk_146 _ h
theorem pk_147 : am_prog 147 = some cd_147 := rfl
theorem bk_147_0 : bk_ am_prog 147 0 = some ([true, true, true], (bl_147_0, 9999)) := bk_of pk_147 rfl
theorem bk_147_1 : bk_ am_prog 147 1 = some ([true, true, true], (bl_147_1, 9999)) := bk_of pk_147 rfl
theorem bk_147_2 : bk_ am_prog 147 2 = some ([true, true, true], (bl_147_2, 9999)) := bk_of pk_147 rfl
theorem bk_147_3 : bk_ am_prog 147 3 = some ([false, false, false], (bl_147_3, 9999)) := bk_of pk_147 rfl
theorem bk_147_4 : bk_ am_prog 147 4 = some ([true, true, true], (bl_147_4, 9999)) := bk_of pk_147 rfl
theorem bk_147_5 : bk_ am_prog 147 5 = some ([true, true, true], (bl_147_5, 9999)) := bk_of pk_147 rfl
theorem bk_147_6 : bk_ am_prog 147 6 = some ([true, true, true], (bl_147_6, 9999)) := bk_of pk_147 rfl
theorem bk_147_7 : bk_ am_prog 147 7 = some ([false, false, false], (bl_147_7, 9999)) := bk_of pk_147 rfl
theorem bk_147_8 : bk_ am_prog 147 8 = some ([true, true, true], (bl_147_8, 9999)) := bk_of pk_147 rfl
theorem jt_147_3 (h : am_H) (d0 d1 d2 : am_V) : JJ 147 3 [d0, d1, d2] [] h = some (h, (-1)) := (jj_of bk_147_3 _ _ h).trans (ff_of bk_147_3 [(9, 0), (9, 0), (9, 0)] [] h)
theorem jt_147_7 (h : am_H) (d0 d1 d2 : am_V) : JJ 147 7 [d0, d1, d2] [] h = some (h, (-2)) := (jj_of bk_147_7 _ _ h).trans (ff_of bk_147_7 [(9, 0), (9, 0), (9, 0)] [] h)
theorem jt_147_8 (h : am_H) (x0 x1 x2 : Int) : JJ 147 8 [(21, x0), (0, x1), (0, x2)] [] h = ck_ (0 ≤ x0) (ck_ (0 ≤ (rf_ h x0 7)) (bd_ (Wo_lift h (rf_ h x0 7) x1 x2) fun h1 _ => ck_ (0 ≤ x0) (ck_ (0 ≤ (rf_ h1 x0 13)) (bd_ (Do_note h1 (rf_ h1 x0 13) 1 x1 x2) fun h3 _ => ck_ (0 ≤ x0) (ck_ (0 ≤ (rf_ h3 x0 7)) (ck_ (0 ≤ (rf_ h3 (rf_ h3 x0 7) 6)) (ck_ (0 ≤ x2 ∧ x2 < ln_ h3 (rf_ h3 (rf_ h3 x0 7) 6)) (some (h3, rd_ h3 (rf_ h3 (rf_ h3 x0 7) 6) x2))))))))) := (jj_of bk_147_8 _ _ h).trans ((ff_of bk_147_8 [(21, x0), (0, x1), (0, x2)] [] h).trans (by
  show (ck_ (0 ≤ x0) (ck_ (0 ≤ (rf_ h x0 7)) (bd_ (CC 134 [(20, rf_ h x0 7), (0, x1), (0, x2)] h) fun h1 _ => ck_ (0 ≤ x0) (ck_ (0 ≤ (rf_ h1 x0 13)) (bd_ (CC 24 [(11, rf_ h1 x0 13), (0, 1), (0, x1), (0, x2)] h1) fun h3 _ => ck_ (0 ≤ x0) (ck_ (0 ≤ (rf_ h3 x0 7)) (ck_ (0 ≤ (rf_ h3 (rf_ h3 x0 7) 6)) (ck_ (0 ≤ x2 ∧ x2 < ln_ h3 (rf_ h3 (rf_ h3 x0 7) 6)) (some (h3, rd_ h3 (rf_ h3 (rf_ h3 x0 7) 6) x2)))))))))) = _
  simp only [cc_134, cc_24, ck_or1, ck_or2, rf_wr, ln_wr, nn_wr, rf_cp, ln_cp, nn_cp, ln_wf, nn_wf, rd_wf, nn_nw]
  try rfl))
set_option maxRecDepth 20000 in
theorem jt_147_6 (h : am_H) (x0 x1 x2 : Int) : JJ 147 6 [(21, x0), (0, x1), (0, x2)] [] h = ck_ (0 ≤ x0) (ck_ (0 ≤ x0) (ck_ (0 ≤ (rf_ h x0 7)) (bd_ (Wo_sizeAt h (rf_ h x0 7) x1 0) fun h1 v2 => ck_ (0 ≤ (rf_ h x0 7)) (bd_ (Wo_hasSize h1 (rf_ h x0 7) x2 v2) fun h3 v4 => if v4 = 0 then ck_ (0 ≤ x0) (ck_ (0 ≤ (rf_ h3 x0 7)) (bd_ (Wo_lift h3 (rf_ h3 x0 7) x1 x2) fun h5 _ => ck_ (0 ≤ x0) (ck_ (0 ≤ (rf_ h5 x0 13)) (bd_ (Do_note h5 (rf_ h5 x0 13) 1 x1 x2) fun h7 _ => ck_ (0 ≤ x0) (ck_ (0 ≤ (rf_ h7 x0 7)) (ck_ (0 ≤ (rf_ h7 (rf_ h7 x0 7) 6)) (ck_ (0 ≤ x2 ∧ x2 < ln_ h7 (rf_ h7 (rf_ h7 x0 7) 6)) (some (h7, rd_ h7 (rf_ h7 (rf_ h7 x0 7) 6) x2))))))))) else some (h3, (-2)))))) := (jj_of bk_147_6 _ _ h).trans ((ff_of bk_147_6 [(21, x0), (0, x1), (0, x2)] [] h).trans (by
  show (ck_ (0 ≤ x0) (ck_ (0 ≤ x0) (ck_ (0 ≤ (rf_ h x0 7)) (bd_ (CC 56 [(20, rf_ h x0 7), (0, x1), (0, 0)] h) fun h1 v2 => ck_ (0 ≤ (rf_ h x0 7)) (bd_ (CC 93 [(20, rf_ h x0 7), (0, x2), (0, v2)] h1) fun h3 v4 => if v4 = 0 then JJ 147 8 [(21, x0), (0, x1), (0, x2)] [] h3 else JJ 147 7 [(21, x0), (0, x1), (0, x2)] [] h3))))) = _
  simp only [cc_93, cc_56, jt_147_7, jt_147_8, ck_or1, ck_or2, rf_wr, ln_wr, nn_wr, rf_cp, ln_cp, nn_cp, ln_wf, nn_wf, rd_wf, nn_nw]
  try rfl))
set_option maxRecDepth 20000 in
theorem jt_147_5 (h : am_H) (x0 x1 x2 : Int) : JJ 147 5 [(21, x0), (0, x1), (0, x2)] [] h = ck_ (0 ≤ x0) (ck_ (0 ≤ (rf_ h x0 7)) (ck_ (0 ≤ (rf_ h (rf_ h x0 7) 6)) (ck_ (0 ≤ x2 ∧ x2 < ln_ h (rf_ h (rf_ h x0 7) 6)) (if 5 ≤ (rd_ h (rf_ h (rf_ h x0 7) 6) x2) then some (h, (-2)) else ck_ (0 ≤ x0) (ck_ (0 ≤ x0) (ck_ (0 ≤ (rf_ h x0 7)) (bd_ (Wo_sizeAt h (rf_ h x0 7) x1 0) fun h1 v2 => ck_ (0 ≤ (rf_ h x0 7)) (bd_ (Wo_hasSize h1 (rf_ h x0 7) x2 v2) fun h3 v4 => if v4 = 0 then ck_ (0 ≤ x0) (ck_ (0 ≤ (rf_ h3 x0 7)) (bd_ (Wo_lift h3 (rf_ h3 x0 7) x1 x2) fun h5 _ => ck_ (0 ≤ x0) (ck_ (0 ≤ (rf_ h5 x0 13)) (bd_ (Do_note h5 (rf_ h5 x0 13) 1 x1 x2) fun h7 _ => ck_ (0 ≤ x0) (ck_ (0 ≤ (rf_ h7 x0 7)) (ck_ (0 ≤ (rf_ h7 (rf_ h7 x0 7) 6)) (ck_ (0 ≤ x2 ∧ x2 < ln_ h7 (rf_ h7 (rf_ h7 x0 7) 6)) (some (h7, rd_ h7 (rf_ h7 (rf_ h7 x0 7) 6) x2))))))))) else some (h3, (-2)))))))))) := (jj_of bk_147_5 _ _ h).trans ((ff_of bk_147_5 [(21, x0), (0, x1), (0, x2)] [] h).trans (by
  show (ck_ (0 ≤ x0) (ck_ (0 ≤ (rf_ h x0 7)) (ck_ (0 ≤ (rf_ h (rf_ h x0 7) 6)) (ck_ (0 ≤ x2 ∧ x2 < ln_ h (rf_ h (rf_ h x0 7) 6)) (if 5 ≤ (rd_ h (rf_ h (rf_ h x0 7) 6) x2) then JJ 147 7 [(21, x0), (0, x1), (0, x2)] [] h else JJ 147 6 [(21, x0), (0, x1), (0, x2)] [] h))))) = _
  simp only [jt_147_6, jt_147_7, ck_or1, ck_or2, rf_wr, ln_wr, nn_wr, rf_cp, ln_cp, nn_cp, ln_wf, nn_wf, rd_wf, nn_nw]
  try rfl))
set_option maxRecDepth 20000 in
theorem jt_147_4 (h : am_H) (x0 x1 x2 : Int) : JJ 147 4 [(21, x0), (0, x1), (0, x2)] [] h = ck_ (0 ≤ x0) (ck_ (0 ≤ (rf_ h x0 7)) (ck_ (0 ≤ (rf_ h (rf_ h x0 7) 6)) (ck_ (0 ≤ x1 ∧ x1 < ln_ h (rf_ h (rf_ h x0 7) 6)) (if (rd_ h (rf_ h (rf_ h x0 7) 6) x1) = 0 then some (h, (-2)) else ck_ (0 ≤ x0) (ck_ (0 ≤ (rf_ h x0 7)) (ck_ (0 ≤ (rf_ h (rf_ h x0 7) 6)) (ck_ (0 ≤ x2 ∧ x2 < ln_ h (rf_ h (rf_ h x0 7) 6)) (if 5 ≤ (rd_ h (rf_ h (rf_ h x0 7) 6) x2) then some (h, (-2)) else ck_ (0 ≤ x0) (ck_ (0 ≤ x0) (ck_ (0 ≤ (rf_ h x0 7)) (bd_ (Wo_sizeAt h (rf_ h x0 7) x1 0) fun h1 v2 => ck_ (0 ≤ (rf_ h x0 7)) (bd_ (Wo_hasSize h1 (rf_ h x0 7) x2 v2) fun h3 v4 => if v4 = 0 then ck_ (0 ≤ x0) (ck_ (0 ≤ (rf_ h3 x0 7)) (bd_ (Wo_lift h3 (rf_ h3 x0 7) x1 x2) fun h5 _ => ck_ (0 ≤ x0) (ck_ (0 ≤ (rf_ h5 x0 13)) (bd_ (Do_note h5 (rf_ h5 x0 13) 1 x1 x2) fun h7 _ => ck_ (0 ≤ x0) (ck_ (0 ≤ (rf_ h7 x0 7)) (ck_ (0 ≤ (rf_ h7 (rf_ h7 x0 7) 6)) (ck_ (0 ≤ x2 ∧ x2 < ln_ h7 (rf_ h7 (rf_ h7 x0 7) 6)) (some (h7, rd_ h7 (rf_ h7 (rf_ h7 x0 7) 6) x2))))))))) else some (h3, (-2)))))))))))))) := (jj_of bk_147_4 _ _ h).trans ((ff_of bk_147_4 [(21, x0), (0, x1), (0, x2)] [] h).trans (by
  show (ck_ (0 ≤ x0) (ck_ (0 ≤ (rf_ h x0 7)) (ck_ (0 ≤ (rf_ h (rf_ h x0 7) 6)) (ck_ (0 ≤ x1 ∧ x1 < ln_ h (rf_ h (rf_ h x0 7) 6)) (if (rd_ h (rf_ h (rf_ h x0 7) 6) x1) = 0 then JJ 147 7 [(21, x0), (0, x1), (0, x2)] [] h else JJ 147 5 [(21, x0), (0, x1), (0, x2)] [] h))))) = _
  simp only [jt_147_5, jt_147_7, ck_or1, ck_or2, rf_wr, ln_wr, nn_wr, rf_cp, ln_cp, nn_cp, ln_wf, nn_wf, rd_wf, nn_nw]
  try rfl))
set_option maxRecDepth 20000 in
theorem jt_147_2 (h : am_H) (x0 x1 x2 : Int) : JJ 147 2 [(21, x0), (0, x1), (0, x2)] [] h = if x1 ≠ x2 then ck_ (0 ≤ x0) (ck_ (0 ≤ (rf_ h x0 7)) (ck_ (0 ≤ (rf_ h (rf_ h x0 7) 6)) (ck_ (0 ≤ x1 ∧ x1 < ln_ h (rf_ h (rf_ h x0 7) 6)) (if (rd_ h (rf_ h (rf_ h x0 7) 6) x1) = 0 then some (h, (-2)) else ck_ (0 ≤ x0) (ck_ (0 ≤ (rf_ h x0 7)) (ck_ (0 ≤ (rf_ h (rf_ h x0 7) 6)) (ck_ (0 ≤ x2 ∧ x2 < ln_ h (rf_ h (rf_ h x0 7) 6)) (if 5 ≤ (rd_ h (rf_ h (rf_ h x0 7) 6) x2) then some (h, (-2)) else ck_ (0 ≤ x0) (ck_ (0 ≤ x0) (ck_ (0 ≤ (rf_ h x0 7)) (bd_ (Wo_sizeAt h (rf_ h x0 7) x1 0) fun h1 v2 => ck_ (0 ≤ (rf_ h x0 7)) (bd_ (Wo_hasSize h1 (rf_ h x0 7) x2 v2) fun h3 v4 => if v4 = 0 then ck_ (0 ≤ x0) (ck_ (0 ≤ (rf_ h3 x0 7)) (bd_ (Wo_lift h3 (rf_ h3 x0 7) x1 x2) fun h5 _ => ck_ (0 ≤ x0) (ck_ (0 ≤ (rf_ h5 x0 13)) (bd_ (Do_note h5 (rf_ h5 x0 13) 1 x1 x2) fun h7 _ => ck_ (0 ≤ x0) (ck_ (0 ≤ (rf_ h7 x0 7)) (ck_ (0 ≤ (rf_ h7 (rf_ h7 x0 7) 6)) (ck_ (0 ≤ x2 ∧ x2 < ln_ h7 (rf_ h7 (rf_ h7 x0 7) 6)) (some (h7, rd_ h7 (rf_ h7 (rf_ h7 x0 7) 6) x2))))))))) else some (h3, (-2)))))))))))))) else some (h, (-1)) := (jj_of bk_147_2 _ _ h).trans ((ff_of bk_147_2 [(21, x0), (0, x1), (0, x2)] [] h).trans (by
  show (if x1 ≠ x2 then JJ 147 4 [(21, x0), (0, x1), (0, x2)] [] h else JJ 147 3 [(21, x0), (0, x1), (0, x2)] [] h) = _
  simp only [jt_147_3, jt_147_4, ck_or1, ck_or2, rf_wr, ln_wr, nn_wr, rf_cp, ln_cp, nn_cp, ln_wf, nn_wf, rd_wf, nn_nw]
  try rfl))
set_option maxRecDepth 20000 in
theorem jt_147_1 (h : am_H) (x0 x1 x2 : Int) : JJ 147 1 [(21, x0), (0, x1), (0, x2)] [] h = ck_ (0 ≤ x0) (ck_ (0 ≤ (rf_ h x0 7)) (bd_ (Wo_hasPile h (rf_ h x0 7) x2) fun h1 v2 => if v2 = 0 then some (h1, (-1)) else if x1 ≠ x2 then ck_ (0 ≤ x0) (ck_ (0 ≤ (rf_ h1 x0 7)) (ck_ (0 ≤ (rf_ h1 (rf_ h1 x0 7) 6)) (ck_ (0 ≤ x1 ∧ x1 < ln_ h1 (rf_ h1 (rf_ h1 x0 7) 6)) (if (rd_ h1 (rf_ h1 (rf_ h1 x0 7) 6) x1) = 0 then some (h1, (-2)) else ck_ (0 ≤ x0) (ck_ (0 ≤ (rf_ h1 x0 7)) (ck_ (0 ≤ (rf_ h1 (rf_ h1 x0 7) 6)) (ck_ (0 ≤ x2 ∧ x2 < ln_ h1 (rf_ h1 (rf_ h1 x0 7) 6)) (if 5 ≤ (rd_ h1 (rf_ h1 (rf_ h1 x0 7) 6) x2) then some (h1, (-2)) else ck_ (0 ≤ x0) (ck_ (0 ≤ x0) (ck_ (0 ≤ (rf_ h1 x0 7)) (bd_ (Wo_sizeAt h1 (rf_ h1 x0 7) x1 0) fun h3 v4 => ck_ (0 ≤ (rf_ h1 x0 7)) (bd_ (Wo_hasSize h3 (rf_ h1 x0 7) x2 v4) fun h5 v6 => if v6 = 0 then ck_ (0 ≤ x0) (ck_ (0 ≤ (rf_ h5 x0 7)) (bd_ (Wo_lift h5 (rf_ h5 x0 7) x1 x2) fun h7 _ => ck_ (0 ≤ x0) (ck_ (0 ≤ (rf_ h7 x0 13)) (bd_ (Do_note h7 (rf_ h7 x0 13) 1 x1 x2) fun h9 _ => ck_ (0 ≤ x0) (ck_ (0 ≤ (rf_ h9 x0 7)) (ck_ (0 ≤ (rf_ h9 (rf_ h9 x0 7) 6)) (ck_ (0 ≤ x2 ∧ x2 < ln_ h9 (rf_ h9 (rf_ h9 x0 7) 6)) (some (h9, rd_ h9 (rf_ h9 (rf_ h9 x0 7) 6) x2))))))))) else some (h5, (-2)))))))))))))) else some (h1, (-1)))) := (jj_of bk_147_1 _ _ h).trans ((ff_of bk_147_1 [(21, x0), (0, x1), (0, x2)] [] h).trans (by
  show (ck_ (0 ≤ x0) (ck_ (0 ≤ (rf_ h x0 7)) (bd_ (CC 54 [(20, rf_ h x0 7), (0, x2)] h) fun h1 v2 => if v2 = 0 then JJ 147 3 [(21, x0), (0, x1), (0, x2)] [] h1 else JJ 147 2 [(21, x0), (0, x1), (0, x2)] [] h1))) = _
  simp only [cc_54, jt_147_2, jt_147_3, ck_or1, ck_or2, rf_wr, ln_wr, nn_wr, rf_cp, ln_cp, nn_cp, ln_wf, nn_wf, rd_wf, nn_nw]
  try rfl))
set_option maxRecDepth 20000 in
theorem Pp_move_e (h : am_H) (x0 x1 x2 : Int) : Pp_move h x0 x1 x2 = ck_ (0 ≤ x0) (ck_ (0 ≤ (rf_ h x0 7)) (bd_ (Wo_hasPile h (rf_ h x0 7) x1) fun h1 v2 => if v2 = 0 then some (h1, (-1)) else ck_ (0 ≤ x0) (ck_ (0 ≤ (rf_ h1 x0 7)) (bd_ (Wo_hasPile h1 (rf_ h1 x0 7) x2) fun h3 v4 => if v4 = 0 then some (h3, (-1)) else if x1 ≠ x2 then ck_ (0 ≤ x0) (ck_ (0 ≤ (rf_ h3 x0 7)) (ck_ (0 ≤ (rf_ h3 (rf_ h3 x0 7) 6)) (ck_ (0 ≤ x1 ∧ x1 < ln_ h3 (rf_ h3 (rf_ h3 x0 7) 6)) (if (rd_ h3 (rf_ h3 (rf_ h3 x0 7) 6) x1) = 0 then some (h3, (-2)) else ck_ (0 ≤ x0) (ck_ (0 ≤ (rf_ h3 x0 7)) (ck_ (0 ≤ (rf_ h3 (rf_ h3 x0 7) 6)) (ck_ (0 ≤ x2 ∧ x2 < ln_ h3 (rf_ h3 (rf_ h3 x0 7) 6)) (if 5 ≤ (rd_ h3 (rf_ h3 (rf_ h3 x0 7) 6) x2) then some (h3, (-2)) else ck_ (0 ≤ x0) (ck_ (0 ≤ x0) (ck_ (0 ≤ (rf_ h3 x0 7)) (bd_ (Wo_sizeAt h3 (rf_ h3 x0 7) x1 0) fun h5 v6 => ck_ (0 ≤ (rf_ h3 x0 7)) (bd_ (Wo_hasSize h5 (rf_ h3 x0 7) x2 v6) fun h7 v8 => if v8 = 0 then ck_ (0 ≤ x0) (ck_ (0 ≤ (rf_ h7 x0 7)) (bd_ (Wo_lift h7 (rf_ h7 x0 7) x1 x2) fun h9 _ => ck_ (0 ≤ x0) (ck_ (0 ≤ (rf_ h9 x0 13)) (bd_ (Do_note h9 (rf_ h9 x0 13) 1 x1 x2) fun h11 _ => ck_ (0 ≤ x0) (ck_ (0 ≤ (rf_ h11 x0 7)) (ck_ (0 ≤ (rf_ h11 (rf_ h11 x0 7) 6)) (ck_ (0 ≤ x2 ∧ x2 < ln_ h11 (rf_ h11 (rf_ h11 x0 7) 6)) (some (h11, rd_ h11 (rf_ h11 (rf_ h11 x0 7) 6) x2))))))))) else some (h7, (-2)))))))))))))) else some (h3, (-1)))))) := (ff_of bk_147_0 [(21, x0), (0, x1), (0, x2)] [] h).trans (by
  show (ck_ (0 ≤ x0) (ck_ (0 ≤ (rf_ h x0 7)) (bd_ (CC 54 [(20, rf_ h x0 7), (0, x1)] h) fun h1 v2 => if v2 = 0 then JJ 147 3 [(21, x0), (0, x1), (0, x2)] [] h1 else JJ 147 1 [(21, x0), (0, x1), (0, x2)] [] h1))) = _
  simp only [cc_54, jt_147_1, jt_147_3, ck_or1, ck_or2, rf_wr, ln_wr, nn_wr, rf_cp, ln_cp, nn_cp, ln_wf, nn_wf, rd_wf, nn_nw]
  try rfl)
theorem cc_147 (h : am_H) (x0 x1 x2 : Int) : CC 147 [(21, x0), (0, x1), (0, x2)] h = Pp_move h x0 x1 x2 := cc_of pk_147 _ h
theorem pk_148 : am_prog 148 = some cd_148 := rfl
theorem bk_148_0 : bk_ am_prog 148 0 = some ([true, true, true, false], (bl_148_0, 9999)) := bk_of pk_148 rfl
theorem bk_148_1 : bk_ am_prog 148 1 = some ([true, false, false, true], (bl_148_1, 9999)) := bk_of pk_148 rfl
theorem bk_148_2 : bk_ am_prog 148 2 = some ([false, false, false, false], (bl_148_2, 9999)) := bk_of pk_148 rfl
theorem bk_148_3 : bk_ am_prog 148 3 = some ([true, false, false, true], (bl_148_3, 9999)) := bk_of pk_148 rfl
theorem jt_148_2 (h : am_H) (d0 d1 d2 d3 : am_V) : JJ 148 2 [d0, d1, d2, d3] [] h = some (h, 0) := (jj_of bk_148_2 _ _ h).trans (ff_of bk_148_2 [(9, 0), (9, 0), (9, 0), (9, 0)] [] h)
theorem jt_148_3 (h : am_H) (d1 d2 : am_V) (x0 x3 : Int) : JJ 148 3 [(21, x0), d1, d2, (0, x3)] [] h = ck_ (0 ≤ x0) (ck_ (0 ≤ (rf_ h x0 7)) (ck_ (0 ≤ (rf_ h (rf_ h x0 7) 12)) (ck_ (0 ≤ x3 ∧ x3 < ln_ h (rf_ h (rf_ h x0 7) 12)) (ck_ (0 ≤ x0) (ck_ (0 ≤ (rf_ h x0 13)) (bd_ (Do_note (wr_ h (rf_ h (rf_ h x0 7) 12) x3 1) (rf_ h x0 13) 2 x3 0) fun h1 _ => some (h1, 1))))))) := (jj_of bk_148_3 _ _ h).trans ((ff_of bk_148_3 [(21, x0), (9, 0), (9, 0), (0, x3)] [] h).trans (by
  show (ck_ (0 ≤ x0) (ck_ (0 ≤ (rf_ h x0 7)) (ck_ (0 ≤ (rf_ h (rf_ h x0 7) 12)) (ck_ (0 ≤ x3 ∧ x3 < ln_ h (rf_ h (rf_ h x0 7) 12)) (ck_ (0 ≤ x0) (ck_ (0 ≤ (rf_ h x0 13)) (bd_ (CC 24 [(11, rf_ h x0 13), (0, 2), (0, x3), (0, 0)] (wr_ h (rf_ h (rf_ h x0 7) 12) x3 1)) fun h1 _ => some (h1, 1)))))))) = _
  simp only [cc_24, ck_or1, ck_or2, rf_wr, ln_wr, nn_wr, rf_cp, ln_cp, nn_cp, ln_wf, nn_wf, rd_wf, nn_nw]
  try rfl))
theorem jt_148_1 (h : am_H) (d1 d2 : am_V) (x0 x3 : Int) : JJ 148 1 [(21, x0), d1, d2, (0, x3)] [] h = ck_ (0 ≤ x0) (ck_ (0 ≤ (rf_ h x0 7)) (ck_ (0 ≤ (rf_ h (rf_ h x0 7) 12)) (ck_ (0 ≤ x3 ∧ x3 < ln_ h (rf_ h (rf_ h x0 7) 12)) (if (rd_ h (rf_ h (rf_ h x0 7) 12) x3) = 0 then ck_ (0 ≤ x0) (ck_ (0 ≤ (rf_ h x0 7)) (ck_ (0 ≤ (rf_ h (rf_ h x0 7) 12)) (ck_ (0 ≤ x3 ∧ x3 < ln_ h (rf_ h (rf_ h x0 7) 12)) (ck_ (0 ≤ x0) (ck_ (0 ≤ (rf_ h x0 13)) (bd_ (Do_note (wr_ h (rf_ h (rf_ h x0 7) 12) x3 1) (rf_ h x0 13) 2 x3 0) fun h1 _ => some (h1, 1))))))) else some (h, 0))))) := (jj_of bk_148_1 _ _ h).trans ((ff_of bk_148_1 [(21, x0), (9, 0), (9, 0), (0, x3)] [] h).trans (by
  show (ck_ (0 ≤ x0) (ck_ (0 ≤ (rf_ h x0 7)) (ck_ (0 ≤ (rf_ h (rf_ h x0 7) 12)) (ck_ (0 ≤ x3 ∧ x3 < ln_ h (rf_ h (rf_ h x0 7) 12)) (if (rd_ h (rf_ h (rf_ h x0 7) 12) x3) = 0 then JJ 148 3 [(21, x0), (9, 0), (9, 0), (0, x3)] [] h else JJ 148 2 [(21, x0), (9, 0), (9, 0), (0, x3)] [] h))))) = _
  simp only [jt_148_2, jt_148_3, ck_or1, ck_or2, rf_wr, ln_wr, nn_wr, rf_cp, ln_cp, nn_cp, ln_wf, nn_wf, rd_wf, nn_nw]
  try rfl))
theorem Pp_crack_e (h : am_H) (x0 x1 x2 : Int) : Pp_crack h x0 x1 x2 = ck_ (0 ≤ x0) (ck_ (0 ≤ (rf_ h x0 7)) (bd_ (Wo_plateAt h (rf_ h x0 7) x1 x2) fun h1 v2 => if v2 < 0 then some (h1, 0) else ck_ (0 ≤ x0) (ck_ (0 ≤ (rf_ h1 x0 7)) (ck_ (0 ≤ (rf_ h1 (rf_ h1 x0 7) 12)) (ck_ (0 ≤ v2 ∧ v2 < ln_ h1 (rf_ h1 (rf_ h1 x0 7) 12)) (if (rd_ h1 (rf_ h1 (rf_ h1 x0 7) 12) v2) = 0 then ck_ (0 ≤ x0) (ck_ (0 ≤ (rf_ h1 x0 7)) (ck_ (0 ≤ (rf_ h1 (rf_ h1 x0 7) 12)) (ck_ (0 ≤ v2 ∧ v2 < ln_ h1 (rf_ h1 (rf_ h1 x0 7) 12)) (ck_ (0 ≤ x0) (ck_ (0 ≤ (rf_ h1 x0 13)) (bd_ (Do_note (wr_ h1 (rf_ h1 (rf_ h1 x0 7) 12) v2 1) (rf_ h1 x0 13) 2 v2 0) fun h3 _ => some (h3, 1))))))) else some (h1, 0))))))) := (ff_of bk_148_0 [(21, x0), (0, x1), (0, x2), (9, 0)] [] h).trans (by
  show (ck_ (0 ≤ x0) (ck_ (0 ≤ (rf_ h x0 7)) (bd_ (CC 55 [(20, rf_ h x0 7), (0, x1), (0, x2)] h) fun h1 v2 => if v2 < 0 then JJ 148 2 [(21, x0), (0, x1), (0, x2), (0, v2)] [] h1 else JJ 148 1 [(21, x0), (0, x1), (0, x2), (0, v2)] [] h1))) = _
  simp only [cc_55, jt_148_1, jt_148_2, ck_or1, ck_or2, rf_wr, ln_wr, nn_wr, rf_cp, ln_cp, nn_cp, ln_wf, nn_wf, rd_wf, nn_nw]
  try rfl)
theorem cc_148 (h : am_H) (x0 x1 x2 : Int) : CC 148 [(21, x0), (0, x1), (0, x2)] h = Pp_crack h x0 x1 x2 := cc_of pk_148 _ h
theorem pk_149 : am_prog 149 = some cd_149 := rfl
theorem bk_149_0 : bk_ am_prog 149 0 = some ([true, true], (bl_149_0, 9999)) := bk_of pk_149 rfl
theorem bk_149_1 : bk_ am_prog 149 1 = some ([true, true], (bl_149_1, 9999)) := bk_of pk_149 rfl
theorem bk_149_2 : bk_ am_prog 149 2 = some ([true, true], (bl_149_2, 9999)) := bk_of pk_149 rfl
theorem bk_149_3 : bk_ am_prog 149 3 = some ([false, false], (bl_149_3, 9999)) := bk_of pk_149 rfl
theorem bk_149_4 : bk_ am_prog 149 4 = some ([true, true], (bl_149_4, 9999)) := bk_of pk_149 rfl
theorem bk_149_5 : bk_ am_prog 149 5 = some ([true, true], (bl_149_5, 6)) := bk_of pk_149 rfl
theorem bk_149_6 : bk_ am_prog 149 6 = some ([true, true], (bl_149_6, 9999)) := bk_of pk_149 rfl
theorem jt_149_6 (h : am_H) (x0 x1 : Int) : JJ 149 6 [(21, x0), (0, x1)] [] h = Pp_go_6 h x0 x1 := jj_of bk_149_6 _ _ h
theorem jt_149_3 (h : am_H) (d0 d1 : am_V) : JJ 149 3 [d0, d1] [] h = some (h, (-1)) := (jj_of bk_149_3 _ _ h).trans (ff_of bk_149_3 [(9, 0), (9, 0)] [] h)
theorem jt_149_5 (h : am_H) (x0 x1 : Int) : JJ 149 5 [(21, x0), (0, x1)] [] h = ck_ (0 ≤ x0) (ck_ (0 ≤ (rf_ h x0 13)) (bd_ (Do_forget h (rf_ h x0 13)) fun h1 _ => Pp_go_6 h1 x0 x1)) := (jj_of bk_149_5 _ _ h).trans ((ff_of bk_149_5 [(21, x0), (0, x1)] [] h).trans (by
  show (ck_ (0 ≤ x0) (ck_ (0 ≤ (rf_ h x0 13)) (bd_ (CC 22 [(11, rf_ h x0 13)] h) fun h1 _ => JJ 149 6 [(21, x0), (0, x1)] [] h1))) = _
  simp only [cc_22, jt_149_6, ck_or1, ck_or2, rf_wr, ln_wr, nn_wr, rf_cp, ln_cp, nn_cp, ln_wf, nn_wf, rd_wf, nn_nw]
  try rfl))
theorem jt_149_4 (h : am_H) (x0 x1 : Int) : JJ 149 4 [(21, x0), (0, x1)] [] h = if x1 ≤ 0 then Pp_go_6 h x0 x1 else ck_ (0 ≤ x0) (ck_ (0 ≤ (rf_ h x0 13)) (bd_ (Do_forget h (rf_ h x0 13)) fun h1 _ => Pp_go_6 h1 x0 x1)) := (jj_of bk_149_4 _ _ h).trans ((ff_of bk_149_4 [(21, x0), (0, x1)] [] h).trans (by
  show (if x1 ≤ 0 then JJ 149 6 [(21, x0), (0, x1)] [] h else JJ 149 5 [(21, x0), (0, x1)] [] h) = _
  simp only [jt_149_5, jt_149_6, ck_or1, ck_or2, rf_wr, ln_wr, nn_wr, rf_cp, ln_cp, nn_cp, ln_wf, nn_wf, rd_wf, nn_nw]
  try rfl))
theorem jt_149_2 (h : am_H) (x0 x1 : Int) : JJ 149 2 [(21, x0), (0, x1)] [] h = ck_ (0 ≤ x0) (ck_ (0 ≤ (rf_ h x0 7)) (if (w32 ((rd_ h (rf_ h x0 7) 3) + x1)) ≤ 9000 then (if x1 ≤ 0 then Pp_go_6 h x0 x1 else ck_ (0 ≤ x0) (ck_ (0 ≤ (rf_ h x0 13)) (bd_ (Do_forget h (rf_ h x0 13)) fun h1 _ => Pp_go_6 h1 x0 x1))) else some (h, (-1)))) := (jj_of bk_149_2 _ _ h).trans ((ff_of bk_149_2 [(21, x0), (0, x1)] [] h).trans (by
  show (ck_ (0 ≤ x0) (ck_ (0 ≤ (rf_ h x0 7)) (if (w32 ((rd_ h (rf_ h x0 7) 3) + x1)) ≤ 9000 then JJ 149 4 [(21, x0), (0, x1)] [] h else JJ 149 3 [(21, x0), (0, x1)] [] h))) = _
  simp only [jt_149_3, jt_149_4, ck_or1, ck_or2, rf_wr, ln_wr, nn_wr, rf_cp, ln_cp, nn_cp, ln_wf, nn_wf, rd_wf, nn_nw]
  try rfl))
theorem jt_149_1 (h : am_H) (x0 x1 : Int) : JJ 149 1 [(21, x0), (0, x1)] [] h = if 200 < x1 then some (h, (-1)) else ck_ (0 ≤ x0) (ck_ (0 ≤ (rf_ h x0 7)) (if (w32 ((rd_ h (rf_ h x0 7) 3) + x1)) ≤ 9000 then (if x1 ≤ 0 then Pp_go_6 h x0 x1 else ck_ (0 ≤ x0) (ck_ (0 ≤ (rf_ h x0 13)) (bd_ (Do_forget h (rf_ h x0 13)) fun h1 _ => Pp_go_6 h1 x0 x1))) else some (h, (-1)))) := (jj_of bk_149_1 _ _ h).trans ((ff_of bk_149_1 [(21, x0), (0, x1)] [] h).trans (by
  show (if 200 < x1 then JJ 149 3 [(21, x0), (0, x1)] [] h else JJ 149 2 [(21, x0), (0, x1)] [] h) = _
  simp only [jt_149_2, jt_149_3, ck_or1, ck_or2, rf_wr, ln_wr, nn_wr, rf_cp, ln_cp, nn_cp, ln_wf, nn_wf, rd_wf, nn_nw]
  try rfl))
theorem Pp_go_e (h : am_H) (x0 x1 : Int) : Pp_go h x0 x1 = if x1 < 0 then some (h, (-1)) else if 200 < x1 then some (h, (-1)) else ck_ (0 ≤ x0) (ck_ (0 ≤ (rf_ h x0 7)) (if (w32 ((rd_ h (rf_ h x0 7) 3) + x1)) ≤ 9000 then (if x1 ≤ 0 then Pp_go_6 h x0 x1 else ck_ (0 ≤ x0) (ck_ (0 ≤ (rf_ h x0 13)) (bd_ (Do_forget h (rf_ h x0 13)) fun h1 _ => Pp_go_6 h1 x0 x1))) else some (h, (-1)))) := (ff_of bk_149_0 [(21, x0), (0, x1)] [] h).trans (by
  show (if x1 < 0 then JJ 149 3 [(21, x0), (0, x1)] [] h else JJ 149 1 [(21, x0), (0, x1)] [] h) = _
  simp only [jt_149_1, jt_149_3, ck_or1, ck_or2, rf_wr, ln_wr, nn_wr, rf_cp, ln_cp, nn_cp, ln_wf, nn_wf, rd_wf, nn_nw]
  try rfl)
theorem Pp_go_6_e (h : am_H) (x0 x1 : Int) : Pp_go_6 h x0 x1 = ck_ (0 ≤ x0) (ck_ (0 ≤ x0) (ck_ (0 ≤ x0) (ck_ (0 ≤ (rf_ h x0 12)) (bd_ (Mi_begin h (rf_ h x0 12) (rf_ h x0 5) (rf_ h x0 7)) fun h1 _ => ck_ (0 ≤ x0) (ck_ (0 ≤ (rf_ h1 x0 12)) (bd_ (Mi_byNumbers h1 (rf_ h1 x0 12)) fun h3 _ => ck_ (0 ≤ x0) (ck_ (0 ≤ (rf_ h3 x0 12)) (bd_ (Mi_passAll h3 (rf_ h3 x0 12) x1) fun h5 _ => ck_ (0 ≤ x0) (ck_ (0 ≤ (rf_ h5 x0 7)) (some (h5, rd_ h5 (rf_ h5 x0 7) 3))))))))))) := (ff_of bk_149_6 [(21, x0), (0, x1)] [] h).trans (by
  show (ck_ (0 ≤ x0) (ck_ (0 ≤ x0) (ck_ (0 ≤ x0) (ck_ (0 ≤ (rf_ h x0 12)) (bd_ (CC 61 [(14, rf_ h x0 12), (18, rf_ h x0 5), (20, rf_ h x0 7)] h) fun h1 _ => ck_ (0 ≤ x0) (ck_ (0 ≤ (rf_ h1 x0 12)) (bd_ (CC 62 [(14, rf_ h1 x0 12)] h1) fun h3 _ => ck_ (0 ≤ x0) (ck_ (0 ≤ (rf_ h3 x0 12)) (bd_ (CC 72 [(14, rf_ h3 x0 12), (0, x1)] h3) fun h5 _ => ck_ (0 ≤ x0) (ck_ (0 ≤ (rf_ h5 x0 7)) (some (h5, rd_ h5 (rf_ h5 x0 7) 3)))))))))))) = _
  simp only [cc_61, cc_62, cc_72, ck_or1, ck_or2, rf_wr, ln_wr, nn_wr, rf_cp, ln_cp, nn_cp, ln_wf, nn_wf, rd_wf, nn_nw]
  try rfl)
theorem cc_149 (h : am_H) (x0 x1 : Int) : CC 149 [(21, x0), (0, x1)] h = Pp_go h x0 x1 := cc_of pk_149 _ h
theorem pk_150 : am_prog 150 = some cd_150 := rfl
theorem bk_150_0 : bk_ am_prog 150 0 = some ([true, true, true, true, false], (bl_150_0, 9999)) := bk_of pk_150 rfl
theorem bk_150_1 : bk_ am_prog 150 1 = some ([true, true, true, true, false], (bl_150_1, 9999)) := bk_of pk_150 rfl
theorem bk_150_2 : bk_ am_prog 150 2 = some ([true, true, true, true, false], (bl_150_2, 9999)) := bk_of pk_150 rfl
theorem bk_150_3 : bk_ am_prog 150 3 = some ([true, true, true, true, false], (bl_150_3, 9999)) := bk_of pk_150 rfl
theorem bk_150_4 : bk_ am_prog 150 4 = some ([true, true, true, true, false], (bl_150_4, 9999)) := bk_of pk_150 rfl
theorem bk_150_5 : bk_ am_prog 150 5 = some ([true, true, true, true, false], (bl_150_5, 6)) := bk_of pk_150 rfl
theorem bk_150_6 : bk_ am_prog 150 6 = some ([true, true, true, true, false], (bl_150_6, 9999)) := bk_of pk_150 rfl
theorem bk_150_7 : bk_ am_prog 150 7 = some ([true, true, true, true, false], (bl_150_7, 9999)) := bk_of pk_150 rfl
theorem bk_150_8 : bk_ am_prog 150 8 = some ([true, true, true, true, false], (bl_150_8, 9999)) := bk_of pk_150 rfl
theorem bk_150_9 : bk_ am_prog 150 9 = some ([true, true, true, true, false], (bl_150_9, 9999)) := bk_of pk_150 rfl
theorem bk_150_10 : bk_ am_prog 150 10 = some ([true, true, true, true, false], (bl_150_10, 9999)) := bk_of pk_150 rfl
theorem bk_150_11 : bk_ am_prog 150 11 = some ([false, false, false, false, false], (bl_150_11, 9999)) := bk_of pk_150 rfl
theorem bk_150_12 : bk_ am_prog 150 12 = some ([true, true, true, true, false], (bl_150_12, 9999)) := bk_of pk_150 rfl
theorem bk_150_13 : bk_ am_prog 150 13 = some ([true, false, false, false, false], (bl_150_13, 9999)) := bk_of pk_150 rfl
theorem bk_150_14 : bk_ am_prog 150 14 = some ([true, false, false, false, false], (bl_150_14, 9999)) := bk_of pk_150 rfl
theorem bk_150_15 : bk_ am_prog 150 15 = some ([true, false, false, true, false], (bl_150_15, 9999)) := bk_of pk_150 rfl
theorem bk_150_16 : bk_ am_prog 150 16 = some ([true, false, false, false, false], (bl_150_16, 9999)) := bk_of pk_150 rfl
theorem bk_150_17 : bk_ am_prog 150 17 = some ([true, false, false, false, false], (bl_150_17, 9999)) := bk_of pk_150 rfl
theorem bk_150_18 : bk_ am_prog 150 18 = some ([true, false, false, true, false], (bl_150_18, 9999)) := bk_of pk_150 rfl
theorem jt_150_6 (h : am_H) (d4 : am_V) (x0 x1 x2 x3 s0 : Int) : JJ 150 6 [(21, x0), (0, x1), (0, x2), (0, x3), d4] [(0, s0)] h = Pp_ahead_6 h x0 x1 x2 x3 s0 := jj_of bk_150_6 _ _ h
theorem jt_150_12 (h : am_H) (d4 : am_V) (x0 x1 x2 x3 : Int) : JJ 150 12 [(21, x0), (0, x1), (0, x2), (0, x3), d4] [] h = Pp_ahead_12 h x0 x1 x2 x3 := jj_of bk_150_12 _ _ h
theorem jt_150_5 (h : am_H) (d4 : am_V) (x0 x1 x2 x3 : Int) : JJ 150 5 [(21, x0), (0, x1), (0, x2), (0, x3), d4] [] h = Pp_ahead_6 h x0 x1 x2 x3 0 := (jj_of bk_150_5 _ _ h).trans ((ff_of bk_150_5 [(21, x0), (0, x1), (0, x2), (0, x3), (9, 0)] [] h).trans (by
  show (JJ 150 6 [(21, x0), (0, x1), (0, x2), (0, x3), (9, 0)] [(0, 0)] h) = _
  simp only [jt_150_6, ck_or1, ck_or2, rf_wr, ln_wr, nn_wr, rf_cp, ln_cp, nn_cp, ln_wf, nn_wf, rd_wf, nn_nw]
  try rfl))
theorem jt_150_4 (h : am_H) (d4 : am_V) (x0 x1 x2 x3 : Int) : JJ 150 4 [(21, x0), (0, x1), (0, x2), (0, x3), d4] [] h = Pp_ahead_6 h x0 x1 x2 x3 1 := (jj_of bk_150_4 _ _ h).trans ((ff_of bk_150_4 [(21, x0), (0, x1), (0, x2), (0, x3), (9, 0)] [] h).trans (by
  show (JJ 150 6 [(21, x0), (0, x1), (0, x2), (0, x3), (9, 0)] [(0, 1)] h) = _
  simp only [jt_150_6, ck_or1, ck_or2, rf_wr, ln_wr, nn_wr, rf_cp, ln_cp, nn_cp, ln_wf, nn_wf, rd_wf, nn_nw]
  try rfl))
theorem jt_150_3 (h : am_H) (d4 : am_V) (x0 x1 x2 x3 : Int) : JJ 150 3 [(21, x0), (0, x1), (0, x2), (0, x3), d4] [] h = if 5 < x2 then Pp_ahead_6 h x0 x1 x2 x3 0 else Pp_ahead_6 h x0 x1 x2 x3 1 := (jj_of bk_150_3 _ _ h).trans ((ff_of bk_150_3 [(21, x0), (0, x1), (0, x2), (0, x3), (9, 0)] [] h).trans (by
  show (if 5 < x2 then JJ 150 5 [(21, x0), (0, x1), (0, x2), (0, x3), (9, 0)] [] h else JJ 150 4 [(21, x0), (0, x1), (0, x2), (0, x3), (9, 0)] [] h) = _
  simp only [jt_150_4, jt_150_5, ck_or1, ck_or2, rf_wr, ln_wr, nn_wr, rf_cp, ln_cp, nn_cp, ln_wf, nn_wf, rd_wf, nn_nw]
  try rfl))
theorem jt_150_2 (h : am_H) (d4 : am_V) (x0 x1 x2 x3 : Int) : JJ 150 2 [(21, x0), (0, x1), (0, x2), (0, x3), d4] [] h = if x2 < 0 then Pp_ahead_6 h x0 x1 x2 x3 0 else if 5 < x2 then Pp_ahead_6 h x0 x1 x2 x3 0 else Pp_ahead_6 h x0 x1 x2 x3 1 := (jj_of bk_150_2 _ _ h).trans ((ff_of bk_150_2 [(21, x0), (0, x1), (0, x2), (0, x3), (9, 0)] [] h).trans (by
  show (if x2 < 0 then JJ 150 5 [(21, x0), (0, x1), (0, x2), (0, x3), (9, 0)] [] h else JJ 150 3 [(21, x0), (0, x1), (0, x2), (0, x3), (9, 0)] [] h) = _
  simp only [jt_150_3, jt_150_5, ck_or1, ck_or2, rf_wr, ln_wr, nn_wr, rf_cp, ln_cp, nn_cp, ln_wf, nn_wf, rd_wf, nn_nw]
  try rfl))
theorem jt_150_1 (h : am_H) (d4 : am_V) (x0 x1 x2 x3 : Int) : JJ 150 1 [(21, x0), (0, x1), (0, x2), (0, x3), d4] [] h = if 200 < x1 then Pp_ahead_6 h x0 x1 x2 x3 0 else if x2 < 0 then Pp_ahead_6 h x0 x1 x2 x3 0 else if 5 < x2 then Pp_ahead_6 h x0 x1 x2 x3 0 else Pp_ahead_6 h x0 x1 x2 x3 1 := (jj_of bk_150_1 _ _ h).trans ((ff_of bk_150_1 [(21, x0), (0, x1), (0, x2), (0, x3), (9, 0)] [] h).trans (by
  show (if 200 < x1 then JJ 150 5 [(21, x0), (0, x1), (0, x2), (0, x3), (9, 0)] [] h else JJ 150 2 [(21, x0), (0, x1), (0, x2), (0, x3), (9, 0)] [] h) = _
  simp only [jt_150_2, jt_150_5, ck_or1, ck_or2, rf_wr, ln_wr, nn_wr, rf_cp, ln_cp, nn_cp, ln_wf, nn_wf, rd_wf, nn_nw]
  try rfl))
theorem Pp_ahead_e (h : am_H) (x0 x1 x2 x3 : Int) : Pp_ahead h x0 x1 x2 x3 = if x1 < 0 then Pp_ahead_6 h x0 x1 x2 x3 0 else if 200 < x1 then Pp_ahead_6 h x0 x1 x2 x3 0 else if x2 < 0 then Pp_ahead_6 h x0 x1 x2 x3 0 else if 5 < x2 then Pp_ahead_6 h x0 x1 x2 x3 0 else Pp_ahead_6 h x0 x1 x2 x3 1 := (ff_of bk_150_0 [(21, x0), (0, x1), (0, x2), (0, x3), (9, 0)] [] h).trans (by
  show (if x1 < 0 then JJ 150 5 [(21, x0), (0, x1), (0, x2), (0, x3), (9, 0)] [] h else JJ 150 1 [(21, x0), (0, x1), (0, x2), (0, x3), (9, 0)] [] h) = _
  simp only [jt_150_1, jt_150_5, ck_or1, ck_or2, rf_wr, ln_wr, nn_wr, rf_cp, ln_cp, nn_cp, ln_wf, nn_wf, rd_wf, nn_nw]
  try rfl)
theorem jt_150_11 (h : am_H) (d0 d1 d2 d3 d4 : am_V) : JJ 150 11 [d0, d1, d2, d3, d4] [] h = some (h, (-1)) := (jj_of bk_150_11 _ _ h).trans (ff_of bk_150_11 [(9, 0), (9, 0), (9, 0), (9, 0), (9, 0)] [] h)
theorem jt_150_10 (h : am_H) (d4 : am_V) (x0 x1 x2 x3 : Int) : JJ 150 10 [(21, x0), (0, x1), (0, x2), (0, x3), d4] [] h = ck_ (0 ≤ x0) (ck_ (0 ≤ (rf_ h x0 7)) (bd_ (Wo_hasPile h (rf_ h x0 7) x3) fun h1 v2 => if v2 ≠ 0 then Pp_ahead_12 h1 x0 x1 x2 x3 else some (h1, (-1)))) := (jj_of bk_150_10 _ _ h).trans ((ff_of bk_150_10 [(21, x0), (0, x1), (0, x2), (0, x3), (9, 0)] [] h).trans (by
  show (ck_ (0 ≤ x0) (ck_ (0 ≤ (rf_ h x0 7)) (bd_ (CC 54 [(20, rf_ h x0 7), (0, x3)] h) fun h1 v2 => if v2 ≠ 0 then JJ 150 12 [(21, x0), (0, x1), (0, x2), (0, x3), (9, 0)] [] h1 else JJ 150 11 [(21, x0), (0, x1), (0, x2), (0, x3), (9, 0)] [] h1))) = _
  simp only [cc_54, jt_150_11, jt_150_12, ck_or1, ck_or2, rf_wr, ln_wr, nn_wr, rf_cp, ln_cp, nn_cp, ln_wf, nn_wf, rd_wf, nn_nw]
  try rfl))
theorem jt_150_9 (h : am_H) (d4 : am_V) (x0 x1 x2 x3 : Int) : JJ 150 9 [(21, x0), (0, x1), (0, x2), (0, x3), d4] [] h = if x2 ≠ 5 then Pp_ahead_12 h x0 x1 x2 x3 else ck_ (0 ≤ x0) (ck_ (0 ≤ (rf_ h x0 7)) (bd_ (Wo_hasPile h (rf_ h x0 7) x3) fun h1 v2 => if v2 ≠ 0 then Pp_ahead_12 h1 x0 x1 x2 x3 else some (h1, (-1)))) := (jj_of bk_150_9 _ _ h).trans ((ff_of bk_150_9 [(21, x0), (0, x1), (0, x2), (0, x3), (9, 0)] [] h).trans (by
  show (if x2 ≠ 5 then JJ 150 12 [(21, x0), (0, x1), (0, x2), (0, x3), (9, 0)] [] h else JJ 150 10 [(21, x0), (0, x1), (0, x2), (0, x3), (9, 0)] [] h) = _
  simp only [jt_150_10, jt_150_12, ck_or1, ck_or2, rf_wr, ln_wr, nn_wr, rf_cp, ln_cp, nn_cp, ln_wf, nn_wf, rd_wf, nn_nw]
  try rfl))
theorem jt_150_8 (h : am_H) (d4 : am_V) (x0 x1 x2 x3 : Int) : JJ 150 8 [(21, x0), (0, x1), (0, x2), (0, x3), d4] [] h = ck_ (0 ≤ x0) (ck_ (0 ≤ (rf_ h x0 7)) (bd_ (Wo_hasMaid h (rf_ h x0 7) x3) fun h1 v2 => if v2 = 0 then some (h1, (-1)) else if x2 ≠ 5 then Pp_ahead_12 h1 x0 x1 x2 x3 else ck_ (0 ≤ x0) (ck_ (0 ≤ (rf_ h1 x0 7)) (bd_ (Wo_hasPile h1 (rf_ h1 x0 7) x3) fun h3 v4 => if v4 ≠ 0 then Pp_ahead_12 h3 x0 x1 x2 x3 else some (h3, (-1)))))) := (jj_of bk_150_8 _ _ h).trans ((ff_of bk_150_8 [(21, x0), (0, x1), (0, x2), (0, x3), (9, 0)] [] h).trans (by
  show (ck_ (0 ≤ x0) (ck_ (0 ≤ (rf_ h x0 7)) (bd_ (CC 53 [(20, rf_ h x0 7), (0, x3)] h) fun h1 v2 => if v2 = 0 then JJ 150 11 [(21, x0), (0, x1), (0, x2), (0, x3), (9, 0)] [] h1 else JJ 150 9 [(21, x0), (0, x1), (0, x2), (0, x3), (9, 0)] [] h1))) = _
  simp only [cc_53, jt_150_11, jt_150_9, ck_or1, ck_or2, rf_wr, ln_wr, nn_wr, rf_cp, ln_cp, nn_cp, ln_wf, nn_wf, rd_wf, nn_nw]
  try rfl))
theorem jt_150_7 (h : am_H) (d4 : am_V) (x0 x1 x2 x3 : Int) : JJ 150 7 [(21, x0), (0, x1), (0, x2), (0, x3), d4] [] h = if x2 ≠ 2 then (if x2 ≠ 5 then Pp_ahead_12 h x0 x1 x2 x3 else ck_ (0 ≤ x0) (ck_ (0 ≤ (rf_ h x0 7)) (bd_ (Wo_hasPile h (rf_ h x0 7) x3) fun h1 v2 => if v2 ≠ 0 then Pp_ahead_12 h1 x0 x1 x2 x3 else some (h1, (-1))))) else ck_ (0 ≤ x0) (ck_ (0 ≤ (rf_ h x0 7)) (bd_ (Wo_hasMaid h (rf_ h x0 7) x3) fun h3 v4 => if v4 = 0 then some (h3, (-1)) else if x2 ≠ 5 then Pp_ahead_12 h3 x0 x1 x2 x3 else ck_ (0 ≤ x0) (ck_ (0 ≤ (rf_ h3 x0 7)) (bd_ (Wo_hasPile h3 (rf_ h3 x0 7) x3) fun h5 v6 => if v6 ≠ 0 then Pp_ahead_12 h5 x0 x1 x2 x3 else some (h5, (-1)))))) := (jj_of bk_150_7 _ _ h).trans ((ff_of bk_150_7 [(21, x0), (0, x1), (0, x2), (0, x3), (9, 0)] [] h).trans (by
  show (if x2 ≠ 2 then JJ 150 9 [(21, x0), (0, x1), (0, x2), (0, x3), (9, 0)] [] h else JJ 150 8 [(21, x0), (0, x1), (0, x2), (0, x3), (9, 0)] [] h) = _
  simp only [jt_150_8, jt_150_9, ck_or1, ck_or2, rf_wr, ln_wr, nn_wr, rf_cp, ln_cp, nn_cp, ln_wf, nn_wf, rd_wf, nn_nw]
  try rfl))
theorem Pp_ahead_6_e (h : am_H) (x0 x1 x2 x3 s0 : Int) : Pp_ahead_6 h x0 x1 x2 x3 s0 = if s0 = 0 then some (h, (-1)) else if x2 ≠ 2 then (if x2 ≠ 5 then Pp_ahead_12 h x0 x1 x2 x3 else ck_ (0 ≤ x0) (ck_ (0 ≤ (rf_ h x0 7)) (bd_ (Wo_hasPile h (rf_ h x0 7) x3) fun h1 v2 => if v2 ≠ 0 then Pp_ahead_12 h1 x0 x1 x2 x3 else some (h1, (-1))))) else ck_ (0 ≤ x0) (ck_ (0 ≤ (rf_ h x0 7)) (bd_ (Wo_hasMaid h (rf_ h x0 7) x3) fun h3 v4 => if v4 = 0 then some (h3, (-1)) else if x2 ≠ 5 then Pp_ahead_12 h3 x0 x1 x2 x3 else ck_ (0 ≤ x0) (ck_ (0 ≤ (rf_ h3 x0 7)) (bd_ (Wo_hasPile h3 (rf_ h3 x0 7) x3) fun h5 v6 => if v6 ≠ 0 then Pp_ahead_12 h5 x0 x1 x2 x3 else some (h5, (-1)))))) := (ff_of bk_150_6 [(21, x0), (0, x1), (0, x2), (0, x3), (9, 0)] [(0, s0)] h).trans (by
  show (if s0 = 0 then JJ 150 11 [(21, x0), (0, x1), (0, x2), (0, x3), (0, s0)] [] h else JJ 150 7 [(21, x0), (0, x1), (0, x2), (0, x3), (0, s0)] [] h) = _
  simp only [jt_150_11, jt_150_7, ck_or1, ck_or2, rf_wr, ln_wr, nn_wr, rf_cp, ln_cp, nn_cp, ln_wf, nn_wf, rd_wf, nn_nw]
  try rfl)
theorem jt_150_18 (h : am_H) (d1 d2 d4 : am_V) (x0 x3 : Int) : JJ 150 18 [(21, x0), d1, d2, (0, x3), d4] [] h = ck_ (0 ≤ x0) (ck_ (0 ≤ (rf_ h x0 8)) (bd_ (Wo_gaps h (rf_ h x0 8) x3) fun h1 v2 => some (h1, v2))) := (jj_of bk_150_18 _ _ h).trans ((ff_of bk_150_18 [(21, x0), (9, 0), (9, 0), (0, x3), (9, 0)] [] h).trans (by
  show (ck_ (0 ≤ x0) (ck_ (0 ≤ (rf_ h x0 8)) (bd_ (CC 52 [(20, rf_ h x0 8), (0, x3)] h) fun h1 v2 => some (h1, v2)))) = _
  simp only [cc_52, ck_or1, ck_or2, rf_wr, ln_wr, nn_wr, rf_cp, ln_cp, nn_cp, ln_wf, nn_wf, rd_wf, nn_nw]
  try rfl))
theorem jt_150_13 (h : am_H) (d1 d2 d3 d4 : am_V) (x0 : Int) : JJ 150 13 [(21, x0), d1, d2, d3, d4] [] h = ck_ (0 ≤ x0) (ck_ (0 ≤ (rf_ h x0 8)) (bd_ (Wo_rightPiles h (rf_ h x0 8)) fun h1 v2 => some (h1, v2))) := (jj_of bk_150_13 _ _ h).trans ((ff_of bk_150_13 [(21, x0), (9, 0), (9, 0), (9, 0), (9, 0)] [] h).trans (by
  show (ck_ (0 ≤ x0) (ck_ (0 ≤ (rf_ h x0 8)) (bd_ (CC 128 [(20, rf_ h x0 8)] h) fun h1 v2 => some (h1, v2)))) = _
  simp only [cc_128, ck_or1, ck_or2, rf_wr, ln_wr, nn_wr, rf_cp, ln_cp, nn_cp, ln_wf, nn_wf, rd_wf, nn_nw]
  try rfl))
theorem jt_150_14 (h : am_H) (d1 d2 d3 d4 : am_V) (x0 : Int) : JJ 150 14 [(21, x0), d1, d2, d3, d4] [] h = ck_ (0 ≤ x0) (ck_ (0 ≤ (rf_ h x0 8)) (bd_ (Wo_properPiles h (rf_ h x0 8)) fun h1 v2 => some (h1, v2))) := (jj_of bk_150_14 _ _ h).trans ((ff_of bk_150_14 [(21, x0), (9, 0), (9, 0), (9, 0), (9, 0)] [] h).trans (by
  show (ck_ (0 ≤ x0) (ck_ (0 ≤ (rf_ h x0 8)) (bd_ (CC 129 [(20, rf_ h x0 8)] h) fun h1 v2 => some (h1, v2)))) = _
  simp only [cc_129, ck_or1, ck_or2, rf_wr, ln_wr, nn_wr, rf_cp, ln_cp, nn_cp, ln_wf, nn_wf, rd_wf, nn_nw]
  try rfl))
theorem jt_150_15 (h : am_H) (d1 d2 d4 : am_V) (x0 x3 : Int) : JJ 150 15 [(21, x0), d1, d2, (0, x3), d4] [] h = ck_ (0 ≤ x0) (ck_ (0 ≤ (rf_ h x0 8)) (ck_ (0 ≤ (rf_ h (rf_ h x0 8) 8)) (ck_ (0 ≤ x3 ∧ x3 < ln_ h (rf_ h (rf_ h x0 8) 8)) (some (h, rd_ h (rf_ h (rf_ h x0 8) 8) x3))))) := (jj_of bk_150_15 _ _ h).trans (ff_of bk_150_15 [(21, x0), (9, 0), (9, 0), (0, x3), (9, 0)] [] h)
theorem jt_150_16 (h : am_H) (d1 d2 d3 d4 : am_V) (x0 : Int) : JJ 150 16 [(21, x0), d1, d2, d3, d4] [] h = ck_ (0 ≤ x0) (ck_ (0 ≤ (rf_ h x0 8)) (bd_ (Wo_chippedPlates h (rf_ h x0 8)) fun h1 v2 => some (h1, v2))) := (jj_of bk_150_16 _ _ h).trans ((ff_of bk_150_16 [(21, x0), (9, 0), (9, 0), (9, 0), (9, 0)] [] h).trans (by
  show (ck_ (0 ≤ x0) (ck_ (0 ≤ (rf_ h x0 8)) (bd_ (CC 130 [(20, rf_ h x0 8)] h) fun h1 v2 => some (h1, v2)))) = _
  simp only [cc_130, ck_or1, ck_or2, rf_wr, ln_wr, nn_wr, rf_cp, ln_cp, nn_cp, ln_wf, nn_wf, rd_wf, nn_nw]
  try rfl))
theorem jt_150_17 (h : am_H) (d1 d2 d3 d4 : am_V) (x0 : Int) : JJ 150 17 [(21, x0), d1, d2, d3, d4] [] h = ck_ (0 ≤ x0) (ck_ (0 ≤ (rf_ h x0 8)) (ck_ (0 ≤ x0) (ck_ (0 ≤ (rf_ h x0 7)) (some (h, w32 ((rd_ h (rf_ h x0 8) 4) - (rd_ h (rf_ h x0 7) 4))))))) := (jj_of bk_150_17 _ _ h).trans (ff_of bk_150_17 [(21, x0), (9, 0), (9, 0), (9, 0), (9, 0)] [] h)
set_option maxRecDepth 20000 in
theorem Pp_ahead_12_e (h : am_H) (x0 x1 x2 x3 : Int) : Pp_ahead_12 h x0 x1 x2 x3 = ck_ (0 ≤ x0) (ck_ (0 ≤ x0) (ck_ (0 ≤ (rf_ h x0 8)) (bd_ (Wo_copy h (rf_ h x0 8) (rf_ h x0 7)) fun h1 _ => ck_ (0 ≤ x0) (ck_ (0 ≤ x0) (ck_ (0 ≤ x0) (ck_ (0 ≤ (rf_ h1 x0 12)) (bd_ (Mi_begin h1 (rf_ h1 x0 12) (rf_ h1 x0 5) (rf_ h1 x0 8)) fun h3 _ => ck_ (0 ≤ x0) (ck_ (0 ≤ (rf_ h3 x0 12)) (bd_ (Mi_passAll h3 (rf_ h3 x0 12) x1) fun h5 _ => if x2 = 0 then ck_ (0 ≤ x0) (ck_ (0 ≤ (rf_ h5 x0 8)) (bd_ (Wo_rightPiles h5 (rf_ h5 x0 8)) fun h13 v14 => some (h13, v14))) else if x2 = 1 then ck_ (0 ≤ x0) (ck_ (0 ≤ (rf_ h5 x0 8)) (bd_ (Wo_properPiles h5 (rf_ h5 x0 8)) fun h11 v12 => some (h11, v12))) else if x2 = 2 then ck_ (0 ≤ x0) (ck_ (0 ≤ (rf_ h5 x0 8)) (ck_ (0 ≤ (rf_ h5 (rf_ h5 x0 8) 8)) (ck_ (0 ≤ x3 ∧ x3 < ln_ h5 (rf_ h5 (rf_ h5 x0 8) 8)) (some (h5, rd_ h5 (rf_ h5 (rf_ h5 x0 8) 8) x3))))) else if x2 = 3 then ck_ (0 ≤ x0) (ck_ (0 ≤ (rf_ h5 x0 8)) (bd_ (Wo_chippedPlates h5 (rf_ h5 x0 8)) fun h9 v10 => some (h9, v10))) else if x2 = 4 then ck_ (0 ≤ x0) (ck_ (0 ≤ (rf_ h5 x0 8)) (ck_ (0 ≤ x0) (ck_ (0 ≤ (rf_ h5 x0 7)) (some (h5, w32 ((rd_ h5 (rf_ h5 x0 8) 4) - (rd_ h5 (rf_ h5 x0 7) 4))))))) else ck_ (0 ≤ x0) (ck_ (0 ≤ (rf_ h5 x0 8)) (bd_ (Wo_gaps h5 (rf_ h5 x0 8) x3) fun h7 v8 => some (h7, v8)))))))))))) := (ff_of bk_150_12 [(21, x0), (0, x1), (0, x2), (0, x3), (9, 0)] [] h).trans (by
  show (ck_ (0 ≤ x0) (ck_ (0 ≤ x0) (ck_ (0 ≤ (rf_ h x0 8)) (bd_ (CC 120 [(20, rf_ h x0 8), (20, rf_ h x0 7)] h) fun h1 _ => ck_ (0 ≤ x0) (ck_ (0 ≤ x0) (ck_ (0 ≤ x0) (ck_ (0 ≤ (rf_ h1 x0 12)) (bd_ (CC 61 [(14, rf_ h1 x0 12), (18, rf_ h1 x0 5), (20, rf_ h1 x0 8)] h1) fun h3 _ => ck_ (0 ≤ x0) (ck_ (0 ≤ (rf_ h3 x0 12)) (bd_ (CC 72 [(14, rf_ h3 x0 12), (0, x1)] h3) fun h5 _ => if x2 = 0 then JJ 150 13 [(21, x0), (0, x1), (0, x2), (0, x3), (9, 0)] [] h5 else if x2 = 1 then JJ 150 14 [(21, x0), (0, x1), (0, x2), (0, x3), (9, 0)] [] h5 else if x2 = 2 then JJ 150 15 [(21, x0), (0, x1), (0, x2), (0, x3), (9, 0)] [] h5 else if x2 = 3 then JJ 150 16 [(21, x0), (0, x1), (0, x2), (0, x3), (9, 0)] [] h5 else if x2 = 4 then JJ 150 17 [(21, x0), (0, x1), (0, x2), (0, x3), (9, 0)] [] h5 else JJ 150 18 [(21, x0), (0, x1), (0, x2), (0, x3), (9, 0)] [] h5)))))))))) = _
  simp only [cc_120, cc_61, cc_72, jt_150_13, jt_150_14, jt_150_15, jt_150_16, jt_150_17, jt_150_18, ck_or1, ck_or2, rf_wr, ln_wr, nn_wr, rf_cp, ln_cp, nn_cp, ln_wf, nn_wf, rd_wf, nn_nw]
  try rfl)
theorem cc_150 (h : am_H) (x0 x1 x2 x3 : Int) : CC 150 [(21, x0), (0, x1), (0, x2), (0, x3)] h = Pp_ahead h x0 x1 x2 x3 := cc_of pk_150 _ h
theorem pk_151 : am_prog 151 = some cd_151 := rfl
theorem bk_151_0 : bk_ am_prog 151 0 = some ([true, true, false], (bl_151_0, 9999)) := bk_of pk_151 rfl
theorem bk_151_1 : bk_ am_prog 151 1 = some ([false, false, false], (bl_151_1, 9999)) := bk_of pk_151 rfl
theorem bk_151_2 : bk_ am_prog 151 2 = some ([true, true, false], (bl_151_2, 3)) := bk_of pk_151 rfl
theorem bk_151_3 : bk_ am_prog 151 3 = some ([true, true, true], (bl_151_3, 9999)) := bk_of pk_151 rfl
theorem bk_151_4 : bk_ am_prog 151 4 = some ([true, true, true], (bl_151_4, 9999)) := bk_of pk_151 rfl
theorem bk_151_5 : bk_ am_prog 151 5 = some ([false, false, true], (bl_151_5, 9999)) := bk_of pk_151 rfl
theorem bk_151_6 : bk_ am_prog 151 6 = some ([true, true, true], (bl_151_6, 9999)) := bk_of pk_151 rfl
theorem bk_151_7 : bk_ am_prog 151 7 = some ([false, false, false], (bl_151_7, 9999)) := bk_of pk_151 rfl
theorem jt_151_3 (h : am_H) (x0 x1 x2 : Int) : JJ 151 3 [(21, x0), (0, x1), (0, x2)] [] h = Pp_rightWhen_3 h x0 x1 x2 := jj_of bk_151_3 _ _ h
theorem jt_151_2 (h : am_H) (d2 : am_V) (x0 x1 : Int) : JJ 151 2 [(21, x0), (0, x1), d2] [] h = ck_ (0 ≤ x0) (ck_ (0 ≤ x0) (ck_ (0 ≤ (rf_ h x0 8)) (bd_ (Wo_copy h (rf_ h x0 8) (rf_ h x0 7)) fun h1 _ => ck_ (0 ≤ x0) (ck_ (0 ≤ x0) (ck_ (0 ≤ x0) (ck_ (0 ≤ (rf_ h1 x0 12)) (bd_ (Mi_begin h1 (rf_ h1 x0 12) (rf_ h1 x0 5) (rf_ h1 x0 8)) fun h3 _ => Pp_rightWhen_3 h3 x0 x1 0))))))) := (jj_of bk_151_2 _ _ h).trans ((ff_of bk_151_2 [(21, x0), (0, x1), (9, 0)] [] h).trans (by
  show (ck_ (0 ≤ x0) (ck_ (0 ≤ x0) (ck_ (0 ≤ (rf_ h x0 8)) (bd_ (CC 120 [(20, rf_ h x0 8), (20, rf_ h x0 7)] h) fun h1 _ => ck_ (0 ≤ x0) (ck_ (0 ≤ x0) (ck_ (0 ≤ x0) (ck_ (0 ≤ (rf_ h1 x0 12)) (bd_ (CC 61 [(14, rf_ h1 x0 12), (18, rf_ h1 x0 5), (20, rf_ h1 x0 8)] h1) fun h3 _ => JJ 151 3 [(21, x0), (0, x1), (0, 0)] [] h3)))))))) = _
  simp only [cc_120, cc_61, jt_151_3, ck_or1, ck_or2, rf_wr, ln_wr, nn_wr, rf_cp, ln_cp, nn_cp, ln_wf, nn_wf, rd_wf, nn_nw]
  try rfl))
theorem jt_151_1 (h : am_H) (d0 d1 d2 : am_V) : JJ 151 1 [d0, d1, d2] [] h = some (h, (-1)) := (jj_of bk_151_1 _ _ h).trans (ff_of bk_151_1 [(9, 0), (9, 0), (9, 0)] [] h)
theorem Pp_rightWhen_e (h : am_H) (x0 x1 : Int) : Pp_rightWhen h x0 x1 = ck_ (0 ≤ x0) (ck_ (0 ≤ (rf_ h x0 7)) (bd_ (Wo_hasPile h (rf_ h x0 7) x1) fun h1 v2 => if v2 ≠ 0 then ck_ (0 ≤ x0) (ck_ (0 ≤ x0) (ck_ (0 ≤ (rf_ h1 x0 8)) (bd_ (Wo_copy h1 (rf_ h1 x0 8) (rf_ h1 x0 7)) fun h3 _ => ck_ (0 ≤ x0) (ck_ (0 ≤ x0) (ck_ (0 ≤ x0) (ck_ (0 ≤ (rf_ h3 x0 12)) (bd_ (Mi_begin h3 (rf_ h3 x0 12) (rf_ h3 x0 5) (rf_ h3 x0 8)) fun h5 _ => Pp_rightWhen_3 h5 x0 x1 0))))))) else some (h1, (-1)))) := (ff_of bk_151_0 [(21, x0), (0, x1), (9, 0)] [] h).trans (by
  show (ck_ (0 ≤ x0) (ck_ (0 ≤ (rf_ h x0 7)) (bd_ (CC 54 [(20, rf_ h x0 7), (0, x1)] h) fun h1 v2 => if v2 ≠ 0 then JJ 151 2 [(21, x0), (0, x1), (9, 0)] [] h1 else JJ 151 1 [(21, x0), (0, x1), (9, 0)] [] h1))) = _
  simp only [cc_54, jt_151_1, jt_151_2, ck_or1, ck_or2, rf_wr, ln_wr, nn_wr, rf_cp, ln_cp, nn_cp, ln_wf, nn_wf, rd_wf, nn_nw]
  try rfl)
theorem jt_151_7 (h : am_H) (d0 d1 d2 : am_V) : JJ 151 7 [d0, d1, d2] [] h = some (h, (-2)) := (jj_of bk_151_7 _ _ h).trans (ff_of bk_151_7 [(9, 0), (9, 0), (9, 0)] [] h)
theorem jt_151_6 (h : am_H) (x0 x1 x2 : Int) : JJ 151 6 [(21, x0), (0, x1), (0, x2)] [] h = ck_ (0 ≤ x0) (ck_ (0 ≤ (rf_ h x0 12)) (bd_ (Mi_pass h (rf_ h x0 12)) fun h1 _ => Pp_rightWhen_3 h1 x0 x1 (w32 (x2 + 1)))) := (jj_of bk_151_6 _ _ h).trans ((ff_of bk_151_6 [(21, x0), (0, x1), (0, x2)] [] h).trans (by
  show (ck_ (0 ≤ x0) (ck_ (0 ≤ (rf_ h x0 12)) (bd_ (CC 71 [(14, rf_ h x0 12)] h) fun h1 _ => JJ 151 3 [(21, x0), (0, x1), (0, w32 (x2 + 1))] [] h1))) = _
  simp only [cc_71, jt_151_3, ck_or1, ck_or2, rf_wr, ln_wr, nn_wr, rf_cp, ln_cp, nn_cp, ln_wf, nn_wf, rd_wf, nn_nw]
  try rfl))
theorem jt_151_5 (h : am_H) (d0 d1 : am_V) (x2 : Int) : JJ 151 5 [d0, d1, (0, x2)] [] h = some (h, x2) := (jj_of bk_151_5 _ _ h).trans (ff_of bk_151_5 [(9, 0), (9, 0), (0, x2)] [] h)
theorem jt_151_4 (h : am_H) (x0 x1 x2 : Int) : JJ 151 4 [(21, x0), (0, x1), (0, x2)] [] h = ck_ (0 ≤ x0) (ck_ (0 ≤ (rf_ h x0 8)) (bd_ (Wo_isRight h (rf_ h x0 8) x1) fun h1 v2 => if v2 = 0 then ck_ (0 ≤ x0) (ck_ (0 ≤ (rf_ h1 x0 12)) (bd_ (Mi_pass h1 (rf_ h1 x0 12)) fun h3 _ => Pp_rightWhen_3 h3 x0 x1 (w32 (x2 + 1)))) else some (h1, x2))) := (jj_of bk_151_4 _ _ h).trans ((ff_of bk_151_4 [(21, x0), (0, x1), (0, x2)] [] h).trans (by
  show (ck_ (0 ≤ x0) (ck_ (0 ≤ (rf_ h x0 8)) (bd_ (CC 125 [(20, rf_ h x0 8), (0, x1)] h) fun h1 v2 => if v2 = 0 then JJ 151 6 [(21, x0), (0, x1), (0, x2)] [] h1 else JJ 151 5 [(21, x0), (0, x1), (0, x2)] [] h1))) = _
  simp only [cc_125, jt_151_5, jt_151_6, ck_or1, ck_or2, rf_wr, ln_wr, nn_wr, rf_cp, ln_cp, nn_cp, ln_wf, nn_wf, rd_wf, nn_nw]
  try rfl))
theorem Pp_rightWhen_3_e (h : am_H) (x0 x1 x2 : Int) : Pp_rightWhen_3 h x0 x1 x2 = if 199 < x2 then some (h, (-2)) else ck_ (0 ≤ x0) (ck_ (0 ≤ (rf_ h x0 8)) (bd_ (Wo_isRight h (rf_ h x0 8) x1) fun h1 v2 => if v2 = 0 then ck_ (0 ≤ x0) (ck_ (0 ≤ (rf_ h1 x0 12)) (bd_ (Mi_pass h1 (rf_ h1 x0 12)) fun h3 _ => Pp_rightWhen_3 h3 x0 x1 (w32 (x2 + 1)))) else some (h1, x2))) := (ff_of bk_151_3 [(21, x0), (0, x1), (0, x2)] [] h).trans (by
  show (if 199 < x2 then JJ 151 7 [(21, x0), (0, x1), (0, x2)] [] h else JJ 151 4 [(21, x0), (0, x1), (0, x2)] [] h) = _
  simp only [jt_151_4, jt_151_7, ck_or1, ck_or2, rf_wr, ln_wr, nn_wr, rf_cp, ln_cp, nn_cp, ln_wf, nn_wf, rd_wf, nn_nw]
  try rfl)
theorem cc_151 (h : am_H) (x0 x1 : Int) : CC 151 [(21, x0), (0, x1)] h = Pp_rightWhen h x0 x1 := cc_of pk_151 _ h
theorem pk_152 : am_prog 152 = some cd_152 := rfl
theorem bk_152_0 : bk_ am_prog 152 0 = some ([true, true, true, false], (bl_152_0, 9999)) := bk_of pk_152 rfl
theorem bk_152_1 : bk_ am_prog 152 1 = some ([true, true, true, false], (bl_152_1, 2)) := bk_of pk_152 rfl
theorem bk_152_2 : bk_ am_prog 152 2 = some ([true, true, true, false], (bl_152_2, 9999)) := bk_of pk_152 rfl
theorem bk_152_3 : bk_ am_prog 152 3 = some ([true, true, true, true], (bl_152_3, 4)) := bk_of pk_152 rfl
theorem bk_152_4 : bk_ am_prog 152 4 = some ([true, false, false, true], (bl_152_4, 9999)) := bk_of pk_152 rfl
theorem jt_152_2 (h : am_H) (d3 : am_V) (x0 x1 x2 : Int) : JJ 152 2 [(21, x0), (0, x1), (0, x2), d3] [] h = Pp_chartOf_2 h x0 x1 x2 := jj_of bk_152_2 _ _ h
theorem jt_152_1 (h : am_H) (d3 : am_V) (x0 x1 x2 : Int) : JJ 152 1 [(21, x0), (0, x1), (0, x2), d3] [] h = ck_ (0 ≤ (nn_ h)) (bd_ (Tu_new (nw_ h 9 2) (nn_ h)) fun h1 _ => ck_ (0 ≤ x0) (Pp_chartOf_2 (wf_ h1 x0 16 (nn_ h)) x0 x1 x2)) := (jj_of bk_152_1 _ _ h).trans ((ff_of bk_152_1 [(21, x0), (0, x1), (0, x2), (9, 0)] [] h).trans (by
  show (ck_ (0 ≤ (nn_ h)) (bd_ (CC 119 [(19, nn_ h)] (nw_ h 9 2)) fun h1 _ => ck_ (0 ≤ x0) (JJ 152 2 [(21, x0), (0, x1), (0, x2), (9, 0)] [] (wf_ h1 x0 16 (nn_ h))))) = _
  simp only [cc_119, jt_152_2, ck_or1, ck_or2, rf_wr, ln_wr, nn_wr, rf_cp, ln_cp, nn_cp, ln_wf, nn_wf, rd_wf, nn_nw]
  try rfl))
theorem Pp_chartOf_e (h : am_H) (x0 x1 x2 : Int) : Pp_chartOf h x0 x1 x2 = ck_ (0 ≤ x0) (if (rf_ h x0 16) < 0 then ck_ (0 ≤ (nn_ h)) (bd_ (Tu_new (nw_ h 9 2) (nn_ h)) fun h1 _ => ck_ (0 ≤ x0) (Pp_chartOf_2 (wf_ h1 x0 16 (nn_ h)) x0 x1 x2)) else Pp_chartOf_2 h x0 x1 x2) := (ff_of bk_152_0 [(21, x0), (0, x1), (0, x2), (9, 0)] [] h).trans (by
  show (ck_ (0 ≤ x0) (if (rf_ h x0 16) < 0 then JJ 152 1 [(21, x0), (0, x1), (0, x2), (9, 0)] [] h else JJ 152 2 [(21, x0), (0, x1), (0, x2), (9, 0)] [] h)) = _
  simp only [jt_152_1, jt_152_2, ck_or1, ck_or2, rf_wr, ln_wr, nn_wr, rf_cp, ln_cp, nn_cp, ln_wf, nn_wf, rd_wf, nn_nw]
  try rfl)
theorem jt_152_4 (h : am_H) (d1 d2 : am_V) (x0 x3 : Int) : JJ 152 4 [(21, x0), d1, d2, (0, x3)] [] h = ck_ (0 ≤ x0) (ck_ (0 ≤ (rf_ h x0 15)) (ck_ (0 ≤ x3 ∧ x3 < ln_ h (rf_ h x0 15)) (some (h, rf_ h (rf_ h x0 15) x3)))) := (jj_of bk_152_4 _ _ h).trans (ff_of bk_152_4 [(21, x0), (9, 0), (9, 0), (0, x3)] [] h)
set_option maxRecDepth 20000 in
theorem jt_152_3 (h : am_H) (x0 x1 x2 x3 : Int) : JJ 152 3 [(21, x0), (0, x1), (0, x2), (0, x3)] [] h = ck_ (0 ≤ x0) (ck_ (0 ≤ x0) (ck_ (0 ≤ (nn_ h)) (bd_ (Ch_new (nw_ h 0 11) (nn_ h) (rf_ (nw_ h 0 11) x0 16) x1 x2) fun h1 _ => ck_ (0 ≤ (rf_ h x0 15)) (ck_ (0 ≤ (nn_ h)) (ck_ (0 ≤ x3 ∧ x3 < ln_ h1 (rf_ h x0 15)) (ck_ (0 ≤ x0) (ck_ (0 ≤ (rf_ (wf_ h1 (rf_ h x0 15) x3 (nn_ h)) x0 15)) (ck_ (0 ≤ x3 ∧ x3 < ln_ h1 (rf_ (wf_ h1 (rf_ h x0 15) x3 (nn_ h)) x0 15)) (ck_ (0 ≤ (rf_ (wf_ h1 (rf_ h x0 15) x3 (nn_ h)) (rf_ (wf_ h1 (rf_ h x0 15) x3 (nn_ h)) x0 15) x3)) (bd_ (Ch_measure (wf_ h1 (rf_ h x0 15) x3 (nn_ h)) (rf_ (wf_ h1 (rf_ h x0 15) x3 (nn_ h)) (rf_ (wf_ h1 (rf_ h x0 15) x3 (nn_ h)) x0 15) x3)) fun h3 _ => ck_ (0 ≤ x0) (ck_ (0 ≤ (rf_ h3 x0 15)) (ck_ (0 ≤ x3 ∧ x3 < ln_ h3 (rf_ h3 x0 15)) (some (h3, rf_ h3 (rf_ h3 x0 15) x3)))))))))))))) := (jj_of bk_152_3 _ _ h).trans ((ff_of bk_152_3 [(21, x0), (0, x1), (0, x2), (0, x3)] [] h).trans (by
  show (ck_ (0 ≤ x0) (ck_ (0 ≤ x0) (ck_ (0 ≤ (nn_ h)) (bd_ (CC 0 [(10, nn_ h), (19, rf_ (nw_ h 0 11) x0 16), (0, x1), (0, x2)] (nw_ h 0 11)) fun h1 _ => ck_ (0 ≤ (rf_ h x0 15)) (ck_ (0 ≤ (nn_ h)) (ck_ (0 ≤ x3 ∧ x3 < ln_ h1 (rf_ h x0 15)) (ck_ (0 ≤ x0) (ck_ (0 ≤ (rf_ (wf_ h1 (rf_ h x0 15) x3 (nn_ h)) x0 15)) (ck_ (0 ≤ x3 ∧ x3 < ln_ h1 (rf_ (wf_ h1 (rf_ h x0 15) x3 (nn_ h)) x0 15)) (ck_ (0 ≤ (rf_ (wf_ h1 (rf_ h x0 15) x3 (nn_ h)) (rf_ (wf_ h1 (rf_ h x0 15) x3 (nn_ h)) x0 15) x3)) (bd_ (CC 4 [(10, rf_ (wf_ h1 (rf_ h x0 15) x3 (nn_ h)) (rf_ (wf_ h1 (rf_ h x0 15) x3 (nn_ h)) x0 15) x3)] (wf_ h1 (rf_ h x0 15) x3 (nn_ h))) fun h3 _ => JJ 152 4 [(21, x0), (0, x1), (0, x2), (0, x3)] [] h3))))))))))) = _
  simp only [cc_0, cc_4, jt_152_4, ck_or1, ck_or2, rf_wr, ln_wr, nn_wr, rf_cp, ln_cp, nn_cp, ln_wf, nn_wf, rd_wf, nn_nw]
  try rfl))
set_option maxRecDepth 20000 in
theorem Pp_chartOf_2_e (h : am_H) (x0 x1 x2 : Int) : Pp_chartOf_2 h x0 x1 x2 = ck_ (0 ≤ x0) (ck_ (0 ≤ (rf_ h x0 15)) (ck_ (0 ≤ (w32 ((w32 (x2 * 6)) + x1)) ∧ (w32 ((w32 (x2 * 6)) + x1)) < ln_ h (rf_ h x0 15)) (if (rf_ h (rf_ h x0 15) (w32 ((w32 (x2 * 6)) + x1))) < 0 then ck_ (0 ≤ x0) (ck_ (0 ≤ x0) (ck_ (0 ≤ (nn_ h)) (bd_ (Ch_new (nw_ h 0 11) (nn_ h) (rf_ (nw_ h 0 11) x0 16) x1 x2) fun h1 _ => ck_ (0 ≤ (rf_ h x0 15)) (ck_ (0 ≤ (nn_ h)) (ck_ (0 ≤ (w32 ((w32 (x2 * 6)) + x1)) ∧ (w32 ((w32 (x2 * 6)) + x1)) < ln_ h1 (rf_ h x0 15)) (ck_ (0 ≤ x0) (ck_ (0 ≤ (rf_ (wf_ h1 (rf_ h x0 15) (w32 ((w32 (x2 * 6)) + x1)) (nn_ h)) x0 15)) (ck_ (0 ≤ (w32 ((w32 (x2 * 6)) + x1)) ∧ (w32 ((w32 (x2 * 6)) + x1)) < ln_ h1 (rf_ (wf_ h1 (rf_ h x0 15) (w32 ((w32 (x2 * 6)) + x1)) (nn_ h)) x0 15)) (ck_ (0 ≤ (rf_ (wf_ h1 (rf_ h x0 15) (w32 ((w32 (x2 * 6)) + x1)) (nn_ h)) (rf_ (wf_ h1 (rf_ h x0 15) (w32 ((w32 (x2 * 6)) + x1)) (nn_ h)) x0 15) (w32 ((w32 (x2 * 6)) + x1)))) (bd_ (Ch_measure (wf_ h1 (rf_ h x0 15) (w32 ((w32 (x2 * 6)) + x1)) (nn_ h)) (rf_ (wf_ h1 (rf_ h x0 15) (w32 ((w32 (x2 * 6)) + x1)) (nn_ h)) (rf_ (wf_ h1 (rf_ h x0 15) (w32 ((w32 (x2 * 6)) + x1)) (nn_ h)) x0 15) (w32 ((w32 (x2 * 6)) + x1)))) fun h3 _ => ck_ (0 ≤ x0) (ck_ (0 ≤ (rf_ h3 x0 15)) (ck_ (0 ≤ (w32 ((w32 (x2 * 6)) + x1)) ∧ (w32 ((w32 (x2 * 6)) + x1)) < ln_ h3 (rf_ h3 x0 15)) (some (h3, rf_ h3 (rf_ h3 x0 15) (w32 ((w32 (x2 * 6)) + x1)))))))))))))))) else ck_ (0 ≤ x0) (ck_ (0 ≤ (rf_ h x0 15)) (ck_ (0 ≤ (w32 ((w32 (x2 * 6)) + x1)) ∧ (w32 ((w32 (x2 * 6)) + x1)) < ln_ h (rf_ h x0 15)) (some (h, rf_ h (rf_ h x0 15) (w32 ((w32 (x2 * 6)) + x1))))))))) := (ff_of bk_152_2 [(21, x0), (0, x1), (0, x2), (9, 0)] [] h).trans (by
  show (ck_ (0 ≤ x0) (ck_ (0 ≤ (rf_ h x0 15)) (ck_ (0 ≤ (w32 ((w32 (x2 * 6)) + x1)) ∧ (w32 ((w32 (x2 * 6)) + x1)) < ln_ h (rf_ h x0 15)) (if (rf_ h (rf_ h x0 15) (w32 ((w32 (x2 * 6)) + x1))) < 0 then JJ 152 3 [(21, x0), (0, x1), (0, x2), (0, w32 ((w32 (x2 * 6)) + x1))] [] h else JJ 152 4 [(21, x0), (0, x1), (0, x2), (0, w32 ((w32 (x2 * 6)) + x1))] [] h)))) = _
  simp only [jt_152_3, jt_152_4, ck_or1, ck_or2, rf_wr, ln_wr, nn_wr, rf_cp, ln_cp, nn_cp, ln_wf, nn_wf, rd_wf, nn_nw]
  try rfl)
theorem cc_152 (h : am_H) (x0 x1 x2 : Int) : CC 152 [(21, x0), (0, x1), (0, x2)] h = Pp_chartOf h x0 x1 x2 := cc_of pk_152 _ h
theorem pk_153 : am_prog 153 = some cd_153 := rfl
theorem bk_153_0 : bk_ am_prog 153 0 = some ([true, true, true], (bl_153_0, 9999)) := bk_of pk_153 rfl
theorem bk_153_1 : bk_ am_prog 153 1 = some ([true, true, true], (bl_153_1, 9999)) := bk_of pk_153 rfl
theorem bk_153_2 : bk_ am_prog 153 2 = some ([true, true, true], (bl_153_2, 9999)) := bk_of pk_153 rfl
theorem bk_153_3 : bk_ am_prog 153 3 = some ([false, false, false], (bl_153_3, 9999)) := bk_of pk_153 rfl
theorem bk_153_4 : bk_ am_prog 153 4 = some ([true, true, true], (bl_153_4, 9999)) := bk_of pk_153 rfl
theorem jt_153_3 (h : am_H) (d0 d1 d2 : am_V) : JJ 153 3 [d0, d1, d2] [] h = some (h, (-1)) := (jj_of bk_153_3 _ _ h).trans (ff_of bk_153_3 [(9, 0), (9, 0), (9, 0)] [] h)
theorem jt_153_4 (h : am_H) (x0 x1 x2 : Int) : JJ 153 4 [(21, x0), (0, x1), (0, x2)] [] h = ck_ (0 ≤ x0) (ck_ (0 ≤ (rf_ h x0 7)) (ck_ (0 ≤ (rf_ h (rf_ h x0 7) 6)) (ck_ (0 ≤ x1 ∧ x1 < ln_ h (rf_ h (rf_ h x0 7) 6)) (ck_ (0 ≤ x0) (bd_ (Pp_chartOf h x0 (rd_ h (rf_ h (rf_ h x0 7) 6) x1) x2) fun h1 v2 => ck_ (0 ≤ x0) (ck_ (0 ≤ (rf_ h1 x0 7)) (bd_ (Wo_state h1 (rf_ h1 x0 7) x1 x2) fun h3 v4 => ck_ (0 ≤ v2) (bd_ (Ch_leastOf h3 v2 v4) fun h5 v6 => some (h5, v6))))))))) := (jj_of bk_153_4 _ _ h).trans ((ff_of bk_153_4 [(21, x0), (0, x1), (0, x2)] [] h).trans (by
  show (ck_ (0 ≤ x0) (ck_ (0 ≤ (rf_ h x0 7)) (ck_ (0 ≤ (rf_ h (rf_ h x0 7) 6)) (ck_ (0 ≤ x1 ∧ x1 < ln_ h (rf_ h (rf_ h x0 7) 6)) (ck_ (0 ≤ x0) (bd_ (CC 152 [(21, x0), (0, rd_ h (rf_ h (rf_ h x0 7) 6) x1), (0, x2)] h) fun h1 v2 => ck_ (0 ≤ x0) (ck_ (0 ≤ (rf_ h1 x0 7)) (bd_ (CC 124 [(20, rf_ h1 x0 7), (0, x1), (0, x2)] h1) fun h3 v4 => ck_ (0 ≤ v2) (bd_ (CC 6 [(10, v2), (0, v4)] h3) fun h5 v6 => some (h5, v6)))))))))) = _
  simp only [cc_6, cc_124, cc_152, ck_or1, ck_or2, rf_wr, ln_wr, nn_wr, rf_cp, ln_cp, nn_cp, ln_wf, nn_wf, rd_wf, nn_nw]
  try rfl))
theorem jt_153_2 (h : am_H) (x0 x1 x2 : Int) : JJ 153 2 [(21, x0), (0, x1), (0, x2)] [] h = if x2 ≤ 1 then ck_ (0 ≤ x0) (ck_ (0 ≤ (rf_ h x0 7)) (ck_ (0 ≤ (rf_ h (rf_ h x0 7) 6)) (ck_ (0 ≤ x1 ∧ x1 < ln_ h (rf_ h (rf_ h x0 7) 6)) (ck_ (0 ≤ x0) (bd_ (Pp_chartOf h x0 (rd_ h (rf_ h (rf_ h x0 7) 6) x1) x2) fun h1 v2 => ck_ (0 ≤ x0) (ck_ (0 ≤ (rf_ h1 x0 7)) (bd_ (Wo_state h1 (rf_ h1 x0 7) x1 x2) fun h3 v4 => ck_ (0 ≤ v2) (bd_ (Ch_leastOf h3 v2 v4) fun h5 v6 => some (h5, v6))))))))) else some (h, (-1)) := (jj_of bk_153_2 _ _ h).trans ((ff_of bk_153_2 [(21, x0), (0, x1), (0, x2)] [] h).trans (by
  show (if x2 ≤ 1 then JJ 153 4 [(21, x0), (0, x1), (0, x2)] [] h else JJ 153 3 [(21, x0), (0, x1), (0, x2)] [] h) = _
  simp only [jt_153_3, jt_153_4, ck_or1, ck_or2, rf_wr, ln_wr, nn_wr, rf_cp, ln_cp, nn_cp, ln_wf, nn_wf, rd_wf, nn_nw]
  try rfl))
theorem jt_153_1 (h : am_H) (x0 x1 x2 : Int) : JJ 153 1 [(21, x0), (0, x1), (0, x2)] [] h = if x2 < 0 then some (h, (-1)) else if x2 ≤ 1 then ck_ (0 ≤ x0) (ck_ (0 ≤ (rf_ h x0 7)) (ck_ (0 ≤ (rf_ h (rf_ h x0 7) 6)) (ck_ (0 ≤ x1 ∧ x1 < ln_ h (rf_ h (rf_ h x0 7) 6)) (ck_ (0 ≤ x0) (bd_ (Pp_chartOf h x0 (rd_ h (rf_ h (rf_ h x0 7) 6) x1) x2) fun h1 v2 => ck_ (0 ≤ x0) (ck_ (0 ≤ (rf_ h1 x0 7)) (bd_ (Wo_state h1 (rf_ h1 x0 7) x1 x2) fun h3 v4 => ck_ (0 ≤ v2) (bd_ (Ch_leastOf h3 v2 v4) fun h5 v6 => some (h5, v6))))))))) else some (h, (-1)) := (jj_of bk_153_1 _ _ h).trans ((ff_of bk_153_1 [(21, x0), (0, x1), (0, x2)] [] h).trans (by
  show (if x2 < 0 then JJ 153 3 [(21, x0), (0, x1), (0, x2)] [] h else JJ 153 2 [(21, x0), (0, x1), (0, x2)] [] h) = _
  simp only [jt_153_2, jt_153_3, ck_or1, ck_or2, rf_wr, ln_wr, nn_wr, rf_cp, ln_cp, nn_cp, ln_wf, nn_wf, rd_wf, nn_nw]
  try rfl))
theorem Pp_fewest_e (h : am_H) (x0 x1 x2 : Int) : Pp_fewest h x0 x1 x2 = ck_ (0 ≤ x0) (ck_ (0 ≤ (rf_ h x0 7)) (bd_ (Wo_hasPile h (rf_ h x0 7) x1) fun h1 v2 => if v2 = 0 then some (h1, (-1)) else if x2 < 0 then some (h1, (-1)) else if x2 ≤ 1 then ck_ (0 ≤ x0) (ck_ (0 ≤ (rf_ h1 x0 7)) (ck_ (0 ≤ (rf_ h1 (rf_ h1 x0 7) 6)) (ck_ (0 ≤ x1 ∧ x1 < ln_ h1 (rf_ h1 (rf_ h1 x0 7) 6)) (ck_ (0 ≤ x0) (bd_ (Pp_chartOf h1 x0 (rd_ h1 (rf_ h1 (rf_ h1 x0 7) 6) x1) x2) fun h3 v4 => ck_ (0 ≤ x0) (ck_ (0 ≤ (rf_ h3 x0 7)) (bd_ (Wo_state h3 (rf_ h3 x0 7) x1 x2) fun h5 v6 => ck_ (0 ≤ v4) (bd_ (Ch_leastOf h5 v4 v6) fun h7 v8 => some (h7, v8))))))))) else some (h1, (-1)))) := (ff_of bk_153_0 [(21, x0), (0, x1), (0, x2)] [] h).trans (by
  show (ck_ (0 ≤ x0) (ck_ (0 ≤ (rf_ h x0 7)) (bd_ (CC 54 [(20, rf_ h x0 7), (0, x1)] h) fun h1 v2 => if v2 = 0 then JJ 153 3 [(21, x0), (0, x1), (0, x2)] [] h1 else JJ 153 1 [(21, x0), (0, x1), (0, x2)] [] h1))) = _
  simp only [cc_54, jt_153_1, jt_153_3, ck_or1, ck_or2, rf_wr, ln_wr, nn_wr, rf_cp, ln_cp, nn_cp, ln_wf, nn_wf, rd_wf, nn_nw]
  try rfl)
theorem cc_153 (h : am_H) (x0 x1 x2 : Int) : CC 153 [(21, x0), (0, x1), (0, x2)] h = Pp_fewest h x0 x1 x2 := cc_of pk_153 _ h
theorem pk_154 : am_prog 154 = some cd_154 := rfl
theorem bk_154_0 : bk_ am_prog 154 0 = some ([true, true, true], (bl_154_0, 9999)) := bk_of pk_154 rfl
theorem bk_154_1 : bk_ am_prog 154 1 = some ([true, true, true], (bl_154_1, 9999)) := bk_of pk_154 rfl
theorem bk_154_2 : bk_ am_prog 154 2 = some ([true, true, true], (bl_154_2, 9999)) := bk_of pk_154 rfl
theorem bk_154_3 : bk_ am_prog 154 3 = some ([false, false, false], (bl_154_3, 9999)) := bk_of pk_154 rfl
theorem bk_154_4 : bk_ am_prog 154 4 = some ([true, true, true], (bl_154_4, 9999)) := bk_of pk_154 rfl
theorem jt_154_3 (h : am_H) (d0 d1 d2 : am_V) : JJ 154 3 [d0, d1, d2] [] h = some (h, (-1)) := (jj_of bk_154_3 _ _ h).trans (ff_of bk_154_3 [(9, 0), (9, 0), (9, 0)] [] h)
theorem jt_154_4 (h : am_H) (x0 x1 x2 : Int) : JJ 154 4 [(21, x0), (0, x1), (0, x2)] [] h = ck_ (0 ≤ x0) (ck_ (0 ≤ (rf_ h x0 7)) (ck_ (0 ≤ (rf_ h (rf_ h x0 7) 6)) (ck_ (0 ≤ x1 ∧ x1 < ln_ h (rf_ h (rf_ h x0 7) 6)) (ck_ (0 ≤ x0) (bd_ (Pp_chartOf h x0 (rd_ h (rf_ h (rf_ h x0 7) 6) x1) x2) fun h1 v2 => ck_ (0 ≤ x0) (ck_ (0 ≤ (rf_ h1 x0 7)) (bd_ (Wo_state h1 (rf_ h1 x0 7) x1 x2) fun h3 v4 => ck_ (0 ≤ v2) (bd_ (Ch_nearing h3 v2 v4) fun h5 v6 => some (h5, v6))))))))) := (jj_of bk_154_4 _ _ h).trans ((ff_of bk_154_4 [(21, x0), (0, x1), (0, x2)] [] h).trans (by
  show (ck_ (0 ≤ x0) (ck_ (0 ≤ (rf_ h x0 7)) (ck_ (0 ≤ (rf_ h (rf_ h x0 7) 6)) (ck_ (0 ≤ x1 ∧ x1 < ln_ h (rf_ h (rf_ h x0 7) 6)) (ck_ (0 ≤ x0) (bd_ (CC 152 [(21, x0), (0, rd_ h (rf_ h (rf_ h x0 7) 6) x1), (0, x2)] h) fun h1 v2 => ck_ (0 ≤ x0) (ck_ (0 ≤ (rf_ h1 x0 7)) (bd_ (CC 124 [(20, rf_ h1 x0 7), (0, x1), (0, x2)] h1) fun h3 v4 => ck_ (0 ≤ v2) (bd_ (CC 8 [(10, v2), (0, v4)] h3) fun h5 v6 => some (h5, v6)))))))))) = _
  simp only [cc_8, cc_124, cc_152, ck_or1, ck_or2, rf_wr, ln_wr, nn_wr, rf_cp, ln_cp, nn_cp, ln_wf, nn_wf, rd_wf, nn_nw]
  try rfl))
theorem jt_154_2 (h : am_H) (x0 x1 x2 : Int) : JJ 154 2 [(21, x0), (0, x1), (0, x2)] [] h = if x2 ≤ 1 then ck_ (0 ≤ x0) (ck_ (0 ≤ (rf_ h x0 7)) (ck_ (0 ≤ (rf_ h (rf_ h x0 7) 6)) (ck_ (0 ≤ x1 ∧ x1 < ln_ h (rf_ h (rf_ h x0 7) 6)) (ck_ (0 ≤ x0) (bd_ (Pp_chartOf h x0 (rd_ h (rf_ h (rf_ h x0 7) 6) x1) x2) fun h1 v2 => ck_ (0 ≤ x0) (ck_ (0 ≤ (rf_ h1 x0 7)) (bd_ (Wo_state h1 (rf_ h1 x0 7) x1 x2) fun h3 v4 => ck_ (0 ≤ v2) (bd_ (Ch_nearing h3 v2 v4) fun h5 v6 => some (h5, v6))))))))) else some (h, (-1)) := (jj_of bk_154_2 _ _ h).trans ((ff_of bk_154_2 [(21, x0), (0, x1), (0, x2)] [] h).trans (by
  show (if x2 ≤ 1 then JJ 154 4 [(21, x0), (0, x1), (0, x2)] [] h else JJ 154 3 [(21, x0), (0, x1), (0, x2)] [] h) = _
  simp only [jt_154_3, jt_154_4, ck_or1, ck_or2, rf_wr, ln_wr, nn_wr, rf_cp, ln_cp, nn_cp, ln_wf, nn_wf, rd_wf, nn_nw]
  try rfl))
theorem jt_154_1 (h : am_H) (x0 x1 x2 : Int) : JJ 154 1 [(21, x0), (0, x1), (0, x2)] [] h = if x2 < 0 then some (h, (-1)) else if x2 ≤ 1 then ck_ (0 ≤ x0) (ck_ (0 ≤ (rf_ h x0 7)) (ck_ (0 ≤ (rf_ h (rf_ h x0 7) 6)) (ck_ (0 ≤ x1 ∧ x1 < ln_ h (rf_ h (rf_ h x0 7) 6)) (ck_ (0 ≤ x0) (bd_ (Pp_chartOf h x0 (rd_ h (rf_ h (rf_ h x0 7) 6) x1) x2) fun h1 v2 => ck_ (0 ≤ x0) (ck_ (0 ≤ (rf_ h1 x0 7)) (bd_ (Wo_state h1 (rf_ h1 x0 7) x1 x2) fun h3 v4 => ck_ (0 ≤ v2) (bd_ (Ch_nearing h3 v2 v4) fun h5 v6 => some (h5, v6))))))))) else some (h, (-1)) := (jj_of bk_154_1 _ _ h).trans ((ff_of bk_154_1 [(21, x0), (0, x1), (0, x2)] [] h).trans (by
  show (if x2 < 0 then JJ 154 3 [(21, x0), (0, x1), (0, x2)] [] h else JJ 154 2 [(21, x0), (0, x1), (0, x2)] [] h) = _
  simp only [jt_154_2, jt_154_3, ck_or1, ck_or2, rf_wr, ln_wr, nn_wr, rf_cp, ln_cp, nn_cp, ln_wf, nn_wf, rd_wf, nn_nw]
  try rfl))
theorem Pp_first_e (h : am_H) (x0 x1 x2 : Int) : Pp_first h x0 x1 x2 = ck_ (0 ≤ x0) (ck_ (0 ≤ (rf_ h x0 7)) (bd_ (Wo_hasPile h (rf_ h x0 7) x1) fun h1 v2 => if v2 = 0 then some (h1, (-1)) else if x2 < 0 then some (h1, (-1)) else if x2 ≤ 1 then ck_ (0 ≤ x0) (ck_ (0 ≤ (rf_ h1 x0 7)) (ck_ (0 ≤ (rf_ h1 (rf_ h1 x0 7) 6)) (ck_ (0 ≤ x1 ∧ x1 < ln_ h1 (rf_ h1 (rf_ h1 x0 7) 6)) (ck_ (0 ≤ x0) (bd_ (Pp_chartOf h1 x0 (rd_ h1 (rf_ h1 (rf_ h1 x0 7) 6) x1) x2) fun h3 v4 => ck_ (0 ≤ x0) (ck_ (0 ≤ (rf_ h3 x0 7)) (bd_ (Wo_state h3 (rf_ h3 x0 7) x1 x2) fun h5 v6 => ck_ (0 ≤ v4) (bd_ (Ch_nearing h5 v4 v6) fun h7 v8 => some (h7, v8))))))))) else some (h1, (-1)))) := (ff_of bk_154_0 [(21, x0), (0, x1), (0, x2)] [] h).trans (by
  show (ck_ (0 ≤ x0) (ck_ (0 ≤ (rf_ h x0 7)) (bd_ (CC 54 [(20, rf_ h x0 7), (0, x1)] h) fun h1 v2 => if v2 = 0 then JJ 154 3 [(21, x0), (0, x1), (0, x2)] [] h1 else JJ 154 1 [(21, x0), (0, x1), (0, x2)] [] h1))) = _
  simp only [cc_54, jt_154_1, jt_154_3, ck_or1, ck_or2, rf_wr, ln_wr, nn_wr, rf_cp, ln_cp, nn_cp, ln_wf, nn_wf, rd_wf, nn_nw]
  try rfl)
theorem cc_154 (h : am_H) (x0 x1 x2 : Int) : CC 154 [(21, x0), (0, x1), (0, x2)] h = Pp_first h x0 x1 x2 := cc_of pk_154 _ h
theorem pk_155 : am_prog 155 = some cd_155 := rfl
theorem bk_155_0 : bk_ am_prog 155 0 = some ([true, true, true], (bl_155_0, 9999)) := bk_of pk_155 rfl
theorem bk_155_1 : bk_ am_prog 155 1 = some ([true, true, true], (bl_155_1, 9999)) := bk_of pk_155 rfl
theorem bk_155_2 : bk_ am_prog 155 2 = some ([true, true, true], (bl_155_2, 9999)) := bk_of pk_155 rfl
theorem bk_155_3 : bk_ am_prog 155 3 = some ([false, false, false], (bl_155_3, 9999)) := bk_of pk_155 rfl
theorem bk_155_4 : bk_ am_prog 155 4 = some ([true, true, true], (bl_155_4, 9999)) := bk_of pk_155 rfl
theorem jt_155_3 (h : am_H) (d0 d1 d2 : am_V) : JJ 155 3 [d0, d1, d2] [] h = some (h, (-1)) := (jj_of bk_155_3 _ _ h).trans (ff_of bk_155_3 [(9, 0), (9, 0), (9, 0)] [] h)
theorem jt_155_4 (h : am_H) (x0 x1 x2 : Int) : JJ 155 4 [(21, x0), (0, x1), (0, x2)] [] h = ck_ (0 ≤ x0) (ck_ (0 ≤ (rf_ h x0 7)) (ck_ (0 ≤ (rf_ h (rf_ h x0 7) 6)) (ck_ (0 ≤ x1 ∧ x1 < ln_ h (rf_ h (rf_ h x0 7) 6)) (ck_ (0 ≤ x0) (bd_ (Pp_chartOf h x0 (rd_ h (rf_ h (rf_ h x0 7) 6) x1) x2) fun h1 v2 => ck_ (0 ≤ x0) (ck_ (0 ≤ (rf_ h1 x0 7)) (bd_ (Wo_state h1 (rf_ h1 x0 7) x1 x2) fun h3 v4 => ck_ (0 ≤ v2) (bd_ (Ch_rowsOf h3 v2 v4) fun h5 v6 => some (h5, v6))))))))) := (jj_of bk_155_4 _ _ h).trans ((ff_of bk_155_4 [(21, x0), (0, x1), (0, x2)] [] h).trans (by
  show (ck_ (0 ≤ x0) (ck_ (0 ≤ (rf_ h x0 7)) (ck_ (0 ≤ (rf_ h (rf_ h x0 7) 6)) (ck_ (0 ≤ x1 ∧ x1 < ln_ h (rf_ h (rf_ h x0 7) 6)) (ck_ (0 ≤ x0) (bd_ (CC 152 [(21, x0), (0, rd_ h (rf_ h (rf_ h x0 7) 6) x1), (0, x2)] h) fun h1 v2 => ck_ (0 ≤ x0) (ck_ (0 ≤ (rf_ h1 x0 7)) (bd_ (CC 124 [(20, rf_ h1 x0 7), (0, x1), (0, x2)] h1) fun h3 v4 => ck_ (0 ≤ v2) (bd_ (CC 7 [(10, v2), (0, v4)] h3) fun h5 v6 => some (h5, v6)))))))))) = _
  simp only [cc_7, cc_124, cc_152, ck_or1, ck_or2, rf_wr, ln_wr, nn_wr, rf_cp, ln_cp, nn_cp, ln_wf, nn_wf, rd_wf, nn_nw]
  try rfl))
theorem jt_155_2 (h : am_H) (x0 x1 x2 : Int) : JJ 155 2 [(21, x0), (0, x1), (0, x2)] [] h = if x2 ≤ 1 then ck_ (0 ≤ x0) (ck_ (0 ≤ (rf_ h x0 7)) (ck_ (0 ≤ (rf_ h (rf_ h x0 7) 6)) (ck_ (0 ≤ x1 ∧ x1 < ln_ h (rf_ h (rf_ h x0 7) 6)) (ck_ (0 ≤ x0) (bd_ (Pp_chartOf h x0 (rd_ h (rf_ h (rf_ h x0 7) 6) x1) x2) fun h1 v2 => ck_ (0 ≤ x0) (ck_ (0 ≤ (rf_ h1 x0 7)) (bd_ (Wo_state h1 (rf_ h1 x0 7) x1 x2) fun h3 v4 => ck_ (0 ≤ v2) (bd_ (Ch_rowsOf h3 v2 v4) fun h5 v6 => some (h5, v6))))))))) else some (h, (-1)) := (jj_of bk_155_2 _ _ h).trans ((ff_of bk_155_2 [(21, x0), (0, x1), (0, x2)] [] h).trans (by
  show (if x2 ≤ 1 then JJ 155 4 [(21, x0), (0, x1), (0, x2)] [] h else JJ 155 3 [(21, x0), (0, x1), (0, x2)] [] h) = _
  simp only [jt_155_3, jt_155_4, ck_or1, ck_or2, rf_wr, ln_wr, nn_wr, rf_cp, ln_cp, nn_cp, ln_wf, nn_wf, rd_wf, nn_nw]
  try rfl))
theorem jt_155_1 (h : am_H) (x0 x1 x2 : Int) : JJ 155 1 [(21, x0), (0, x1), (0, x2)] [] h = if x2 < 0 then some (h, (-1)) else if x2 ≤ 1 then ck_ (0 ≤ x0) (ck_ (0 ≤ (rf_ h x0 7)) (ck_ (0 ≤ (rf_ h (rf_ h x0 7) 6)) (ck_ (0 ≤ x1 ∧ x1 < ln_ h (rf_ h (rf_ h x0 7) 6)) (ck_ (0 ≤ x0) (bd_ (Pp_chartOf h x0 (rd_ h (rf_ h (rf_ h x0 7) 6) x1) x2) fun h1 v2 => ck_ (0 ≤ x0) (ck_ (0 ≤ (rf_ h1 x0 7)) (bd_ (Wo_state h1 (rf_ h1 x0 7) x1 x2) fun h3 v4 => ck_ (0 ≤ v2) (bd_ (Ch_rowsOf h3 v2 v4) fun h5 v6 => some (h5, v6))))))))) else some (h, (-1)) := (jj_of bk_155_1 _ _ h).trans ((ff_of bk_155_1 [(21, x0), (0, x1), (0, x2)] [] h).trans (by
  show (if x2 < 0 then JJ 155 3 [(21, x0), (0, x1), (0, x2)] [] h else JJ 155 2 [(21, x0), (0, x1), (0, x2)] [] h) = _
  simp only [jt_155_2, jt_155_3, ck_or1, ck_or2, rf_wr, ln_wr, nn_wr, rf_cp, ln_cp, nn_cp, ln_wf, nn_wf, rd_wf, nn_nw]
  try rfl))
theorem Pp_ways_e (h : am_H) (x0 x1 x2 : Int) : Pp_ways h x0 x1 x2 = ck_ (0 ≤ x0) (ck_ (0 ≤ (rf_ h x0 7)) (bd_ (Wo_hasPile h (rf_ h x0 7) x1) fun h1 v2 => if v2 = 0 then some (h1, (-1)) else if x2 < 0 then some (h1, (-1)) else if x2 ≤ 1 then ck_ (0 ≤ x0) (ck_ (0 ≤ (rf_ h1 x0 7)) (ck_ (0 ≤ (rf_ h1 (rf_ h1 x0 7) 6)) (ck_ (0 ≤ x1 ∧ x1 < ln_ h1 (rf_ h1 (rf_ h1 x0 7) 6)) (ck_ (0 ≤ x0) (bd_ (Pp_chartOf h1 x0 (rd_ h1 (rf_ h1 (rf_ h1 x0 7) 6) x1) x2) fun h3 v4 => ck_ (0 ≤ x0) (ck_ (0 ≤ (rf_ h3 x0 7)) (bd_ (Wo_state h3 (rf_ h3 x0 7) x1 x2) fun h5 v6 => ck_ (0 ≤ v4) (bd_ (Ch_rowsOf h5 v4 v6) fun h7 v8 => some (h7, v8))))))))) else some (h1, (-1)))) := (ff_of bk_155_0 [(21, x0), (0, x1), (0, x2)] [] h).trans (by
  show (ck_ (0 ≤ x0) (ck_ (0 ≤ (rf_ h x0 7)) (bd_ (CC 54 [(20, rf_ h x0 7), (0, x1)] h) fun h1 v2 => if v2 = 0 then JJ 155 3 [(21, x0), (0, x1), (0, x2)] [] h1 else JJ 155 1 [(21, x0), (0, x1), (0, x2)] [] h1))) = _
  simp only [cc_54, jt_155_1, jt_155_3, ck_or1, ck_or2, rf_wr, ln_wr, nn_wr, rf_cp, ln_cp, nn_cp, ln_wf, nn_wf, rd_wf, nn_nw]
  try rfl)
theorem cc_155 (h : am_H) (x0 x1 x2 : Int) : CC 155 [(21, x0), (0, x1), (0, x2)] h = Pp_ways h x0 x1 x2 := cc_of pk_155 _ h
theorem pk_156 : am_prog 156 = some cd_156 := rfl
theorem bk_156_0 : bk_ am_prog 156 0 = some ([true, true, true, true, false, false, false], (bl_156_0, 1)) := bk_of pk_156 rfl
theorem bk_156_1 : bk_ am_prog 156 1 = some ([true, true, true, true, true, true, true], (bl_156_1, 9999)) := bk_of pk_156 rfl
theorem bk_156_2 : bk_ am_prog 156 2 = some ([true, true, true, true, true, true, true], (bl_156_2, 9999)) := bk_of pk_156 rfl
theorem bk_156_3 : bk_ am_prog 156 3 = some ([true, true, true, true, true, true, true], (bl_156_3, 4)) := bk_of pk_156 rfl
theorem bk_156_4 : bk_ am_prog 156 4 = some ([true, true, true, true, true, true, true], (bl_156_4, 9999)) := bk_of pk_156 rfl
theorem bk_156_5 : bk_ am_prog 156 5 = some ([true, false, false, true, true, true, false], (bl_156_5, 9999)) := bk_of pk_156 rfl
theorem bk_156_6 : bk_ am_prog 156 6 = some ([false, false, false, false, false, false, true], (bl_156_6, 9999)) := bk_of pk_156 rfl
theorem bk_156_7 : bk_ am_prog 156 7 = some ([false, false, false, false, true, true, true], (bl_156_7, 8)) := bk_of pk_156 rfl
theorem bk_156_8 : bk_ am_prog 156 8 = some ([false, false, false, false, false, false, false], (bl_156_8, 9999)) := bk_of pk_156 rfl
theorem jt_156_1 (h : am_H) (x0 x1 x2 x3 x4 x5 x6 : Int) : JJ 156 1 [(21, x0), (0, x1), (0, x2), (0, x3), (0, x4), (0, x5), (0, x6)] [] h = Pp_stateAgainst_1 h x0 x1 x2 x3 x4 x5 x6 := jj_of bk_156_1 _ _ h
theorem Pp_stateAgainst_e (h : am_H) (x0 x1 x2 x3 : Int) : Pp_stateAgainst h x0 x1 x2 x3 = ck_ (0 ≤ x0) (ck_ (0 ≤ (rf_ h x0 7)) (ck_ (0 ≤ (rf_ h (rf_ h x0 7) 6)) (ck_ (0 ≤ x1 ∧ x1 < ln_ h (rf_ h (rf_ h x0 7) 6)) (Pp_stateAgainst_1 h x0 x1 x2 x3 (rd_ h (rf_ h (rf_ h x0 7) 6) x1) 0 0)))) := (ff_of bk_156_0 [(21, x0), (0, x1), (0, x2), (0, x3), (9, 0), (9, 0), (9, 0)] [] h).trans (by
  show (ck_ (0 ≤ x0) (ck_ (0 ≤ (rf_ h x0 7)) (ck_ (0 ≤ (rf_ h (rf_ h x0 7) 6)) (ck_ (0 ≤ x1 ∧ x1 < ln_ h (rf_ h (rf_ h x0 7) 6)) (JJ 156 1 [(21, x0), (0, x1), (0, x2), (0, x3), (0, rd_ h (rf_ h (rf_ h x0 7) 6) x1), (0, 0), (0, 0)] [] h))))) = _
  simp only [jt_156_1, ck_or1, ck_or2, rf_wr, ln_wr, nn_wr, rf_cp, ln_cp, nn_cp, ln_wf, nn_wf, rd_wf, nn_nw]
  try rfl)
theorem jt_156_8 (h : am_H) (d0 d1 d2 d3 d4 d5 d6 : am_V) (s0 : Int) : JJ 156 8 [d0, d1, d2, d3, d4, d5, d6] [(0, s0)] h = some (h, s0) := (jj_of bk_156_8 _ _ h).trans (ff_of bk_156_8 [(9, 0), (9, 0), (9, 0), (9, 0), (9, 0), (9, 0), (9, 0)] [(0, s0)] h)
theorem jt_156_7 (h : am_H) (d0 d1 d2 d3 : am_V) (x4 x5 x6 : Int) : JJ 156 7 [d0, d1, d2, d3, (0, x4), (0, x5), (0, x6)] [] h = some (h, or_ (w32 (x6 * 2 ^ (x4 % 32 : Int).toNat)) x5) := (jj_of bk_156_7 _ _ h).trans ((ff_of bk_156_7 [(9, 0), (9, 0), (9, 0), (9, 0), (0, x4), (0, x5), (0, x6)] [] h).trans (by
  show (JJ 156 8 [(9, 0), (9, 0), (9, 0), (9, 0), (0, x4), (0, x5), (0, x6)] [(0, or_ (w32 (x6 * 2 ^ (x4 % 32 : Int).toNat)) x5)] h) = _
  simp only [jt_156_8, ck_or1, ck_or2, rf_wr, ln_wr, nn_wr, rf_cp, ln_cp, nn_cp, ln_wf, nn_wf, rd_wf, nn_nw]
  try rfl))
theorem jt_156_6 (h : am_H) (d0 d1 d2 d3 d4 d5 : am_V) (x6 : Int) : JJ 156 6 [d0, d1, d2, d3, d4, d5, (0, x6)] [] h = some (h, x6) := (jj_of bk_156_6 _ _ h).trans ((ff_of bk_156_6 [(9, 0), (9, 0), (9, 0), (9, 0), (9, 0), (9, 0), (0, x6)] [] h).trans (by
  show (JJ 156 8 [(9, 0), (9, 0), (9, 0), (9, 0), (9, 0), (9, 0), (0, x6)] [(0, x6)] h) = _
  simp only [jt_156_8, ck_or1, ck_or2, rf_wr, ln_wr, nn_wr, rf_cp, ln_cp, nn_cp, ln_wf, nn_wf, rd_wf, nn_nw]
  try rfl))
theorem jt_156_5 (h : am_H) (d1 d2 d6 : am_V) (x0 x3 x4 x5 : Int) : JJ 156 5 [(21, x0), d1, d2, (0, x3), (0, x4), (0, x5), d6] [] h = ck_ (0 ≤ x0) (bd_ (Pp_orderOf h (rf_ h x0 17) x4) fun h1 v2 => if x3 ≠ 0 then some (h1, or_ (w32 (v2 * 2 ^ (x4 % 32 : Int).toNat)) x5) else some (h1, v2)) := (jj_of bk_156_5 _ _ h).trans ((ff_of bk_156_5 [(21, x0), (9, 0), (9, 0), (0, x3), (0, x4), (0, x5), (9, 0)] [] h).trans (by
  show (ck_ (0 ≤ x0) (bd_ (CC 115 [(30, rf_ h x0 17), (0, x4)] h) fun h1 v2 => if x3 ≠ 0 then JJ 156 7 [(21, x0), (9, 0), (9, 0), (0, x3), (0, x4), (0, x5), (0, v2)] [] h1 else JJ 156 6 [(21, x0), (9, 0), (9, 0), (0, x3), (0, x4), (0, x5), (0, v2)] [] h1)) = _
  simp only [cc_115, jt_156_6, jt_156_7, ck_or1, ck_or2, rf_wr, ln_wr, nn_wr, rf_cp, ln_cp, nn_cp, ln_wf, nn_wf, rd_wf, nn_nw]
  try rfl))
theorem jt_156_4 (h : am_H) (x0 x1 x2 x3 x4 x5 x6 : Int) : JJ 156 4 [(21, x0), (0, x1), (0, x2), (0, x3), (0, x4), (0, x5), (0, x6)] [] h = Pp_stateAgainst_1 h x0 x1 x2 x3 x4 x5 (w32 (x6 + 1)) := (jj_of bk_156_4 _ _ h).trans ((ff_of bk_156_4 [(21, x0), (0, x1), (0, x2), (0, x3), (0, x4), (0, x5), (0, x6)] [] h).trans (by
  show (JJ 156 1 [(21, x0), (0, x1), (0, x2), (0, x3), (0, x4), (0, x5), (0, w32 (x6 + 1))] [] h) = _
  simp only [jt_156_1, ck_or1, ck_or2, rf_wr, ln_wr, nn_wr, rf_cp, ln_cp, nn_cp, ln_wf, nn_wf, rd_wf, nn_nw]
  try rfl))
theorem jt_156_3 (h : am_H) (x0 x1 x2 x3 x4 x5 x6 : Int) : JJ 156 3 [(21, x0), (0, x1), (0, x2), (0, x3), (0, x4), (0, x5), (0, x6)] [] h = Pp_stateAgainst_1 h x0 x1 x2 x3 x4 (or_ x5 (w32 (1 * 2 ^ (x6 % 32 : Int).toNat))) (w32 (x6 + 1)) := (jj_of bk_156_3 _ _ h).trans ((ff_of bk_156_3 [(21, x0), (0, x1), (0, x2), (0, x3), (0, x4), (0, x5), (0, x6)] [] h).trans (by
  show (JJ 156 4 [(21, x0), (0, x1), (0, x2), (0, x3), (0, x4), (0, or_ x5 (w32 (1 * 2 ^ (x6 % 32 : Int).toNat))), (0, x6)] [] h) = _
  simp only [jt_156_4, ck_or1, ck_or2, rf_wr, ln_wr, nn_wr, rf_cp, ln_cp, nn_cp, ln_wf, nn_wf, rd_wf, nn_nw]
  try rfl))
set_option maxRecDepth 20000 in
theorem jt_156_2 (h : am_H) (x0 x1 x2 x3 x4 x5 x6 : Int) : JJ 156 2 [(21, x0), (0, x1), (0, x2), (0, x3), (0, x4), (0, x5), (0, x6)] [] h = ck_ (0 ≤ x0) (ck_ (0 ≤ x0) (ck_ (0 ≤ x0) (ck_ (0 ≤ (rf_ h x0 7)) (bd_ (Wo_rankAt h (rf_ h x0 7) x1 x6) fun h1 v2 => ck_ (0 ≤ (rf_ h x0 7)) (bd_ (Wo_placeOfRank h1 (rf_ h x0 7) x2 v2) fun h3 v4 => ck_ (0 ≤ (rf_ h x0 17)) (ck_ (0 ≤ x6 ∧ x6 < ln_ h3 (rf_ h x0 17)) (ck_ (0 ≤ x0) (ck_ (0 ≤ (rf_ h3 x0 7)) (bd_ (Wo_faceAt (wr_ h3 (rf_ h x0 17) x6 v4) (rf_ h3 x0 7) x1 x6) fun h5 v6 => ck_ (0 ≤ x0) (ck_ (0 ≤ x0) (ck_ (0 ≤ (rf_ h5 x0 17)) (ck_ (0 ≤ x6 ∧ x6 < ln_ h5 (rf_ h5 x0 17)) (ck_ (0 ≤ (rf_ h5 x0 7)) (bd_ (Wo_faceAt h5 (rf_ h5 x0 7) x2 (rd_ h5 (rf_ h5 x0 17) x6)) fun h7 v8 => if v6 = v8 then Pp_stateAgainst_1 h7 x0 x1 x2 x3 x4 x5 (w32 (x6 + 1)) else Pp_stateAgainst_1 h7 x0 x1 x2 x3 x4 (or_ x5 (w32 (1 * 2 ^ (x6 % 32 : Int).toNat))) (w32 (x6 + 1)))))))))))))))) := (jj_of bk_156_2 _ _ h).trans ((ff_of bk_156_2 [(21, x0), (0, x1), (0, x2), (0, x3), (0, x4), (0, x5), (0, x6)] [] h).trans (by
  show (ck_ (0 ≤ x0) (ck_ (0 ≤ x0) (ck_ (0 ≤ x0) (ck_ (0 ≤ (rf_ h x0 7)) (bd_ (CC 122 [(20, rf_ h x0 7), (0, x1), (0, x6)] h) fun h1 v2 => ck_ (0 ≤ (rf_ h x0 7)) (bd_ (CC 123 [(20, rf_ h x0 7), (0, x2), (0, v2)] h1) fun h3 v4 => ck_ (0 ≤ (rf_ h x0 17)) (ck_ (0 ≤ x6 ∧ x6 < ln_ h3 (rf_ h x0 17)) (ck_ (0 ≤ x0) (ck_ (0 ≤ (rf_ h3 x0 7)) (bd_ (CC 121 [(20, rf_ h3 x0 7), (0, x1), (0, x6)] (wr_ h3 (rf_ h x0 17) x6 v4)) fun h5 v6 => ck_ (0 ≤ x0) (ck_ (0 ≤ x0) (ck_ (0 ≤ (rf_ h5 x0 17)) (ck_ (0 ≤ x6 ∧ x6 < ln_ h5 (rf_ h5 x0 17)) (ck_ (0 ≤ (rf_ h5 x0 7)) (bd_ (CC 121 [(20, rf_ h5 x0 7), (0, x2), (0, rd_ h5 (rf_ h5 x0 17) x6)] h5) fun h7 v8 => if v6 = v8 then JJ 156 4 [(21, x0), (0, x1), (0, x2), (0, x3), (0, x4), (0, x5), (0, x6)] [] h7 else JJ 156 3 [(21, x0), (0, x1), (0, x2), (0, x3), (0, x4), (0, x5), (0, x6)] [] h7))))))))))))))) = _
  simp only [cc_121, cc_123, cc_122, jt_156_3, jt_156_4, ck_or1, ck_or2, rf_wr, ln_wr, nn_wr, rf_cp, ln_cp, nn_cp, ln_wf, nn_wf, rd_wf, nn_nw]
  try rfl))
set_option maxRecDepth 20000 in
theorem Pp_stateAgainst_1_e (h : am_H) (x0 x1 x2 x3 x4 x5 x6 : Int) : Pp_stateAgainst_1 h x0 x1 x2 x3 x4 x5 x6 = if x4 ≤ x6 then ck_ (0 ≤ x0) (bd_ (Pp_orderOf h (rf_ h x0 17) x4) fun h1 v2 => if x3 ≠ 0 then some (h1, or_ (w32 (v2 * 2 ^ (x4 % 32 : Int).toNat)) x5) else some (h1, v2)) else ck_ (0 ≤ x0) (ck_ (0 ≤ x0) (ck_ (0 ≤ x0) (ck_ (0 ≤ (rf_ h x0 7)) (bd_ (Wo_rankAt h (rf_ h x0 7) x1 x6) fun h3 v4 => ck_ (0 ≤ (rf_ h x0 7)) (bd_ (Wo_placeOfRank h3 (rf_ h x0 7) x2 v4) fun h5 v6 => ck_ (0 ≤ (rf_ h x0 17)) (ck_ (0 ≤ x6 ∧ x6 < ln_ h5 (rf_ h x0 17)) (ck_ (0 ≤ x0) (ck_ (0 ≤ (rf_ h5 x0 7)) (bd_ (Wo_faceAt (wr_ h5 (rf_ h x0 17) x6 v6) (rf_ h5 x0 7) x1 x6) fun h7 v8 => ck_ (0 ≤ x0) (ck_ (0 ≤ x0) (ck_ (0 ≤ (rf_ h7 x0 17)) (ck_ (0 ≤ x6 ∧ x6 < ln_ h7 (rf_ h7 x0 17)) (ck_ (0 ≤ (rf_ h7 x0 7)) (bd_ (Wo_faceAt h7 (rf_ h7 x0 7) x2 (rd_ h7 (rf_ h7 x0 17) x6)) fun h9 v10 => if v8 = v10 then Pp_stateAgainst_1 h9 x0 x1 x2 x3 x4 x5 (w32 (x6 + 1)) else Pp_stateAgainst_1 h9 x0 x1 x2 x3 x4 (or_ x5 (w32 (1 * 2 ^ (x6 % 32 : Int).toNat))) (w32 (x6 + 1)))))))))))))))) := (ff_of bk_156_1 [(21, x0), (0, x1), (0, x2), (0, x3), (0, x4), (0, x5), (0, x6)] [] h).trans (by
  show (if x4 ≤ x6 then JJ 156 5 [(21, x0), (0, x1), (0, x2), (0, x3), (0, x4), (0, x5), (0, x6)] [] h else JJ 156 2 [(21, x0), (0, x1), (0, x2), (0, x3), (0, x4), (0, x5), (0, x6)] [] h) = _
  simp only [jt_156_2, jt_156_5, ck_or1, ck_or2, rf_wr, ln_wr, nn_wr, rf_cp, ln_cp, nn_cp, ln_wf, nn_wf, rd_wf, nn_nw]
  try rfl)
theorem cc_156 (h : am_H) (x0 x1 x2 x3 : Int) : CC 156 [(21, x0), (0, x1), (0, x2), (0, x3)] h = Pp_stateAgainst h x0 x1 x2 x3 := cc_of pk_156 _ h
theorem pk_157 : am_prog 157 = some cd_157 := rfl
theorem bk_157_0 : bk_ am_prog 157 0 = some ([true, true, true, true], (bl_157_0, 9999)) := bk_of pk_157 rfl
theorem bk_157_1 : bk_ am_prog 157 1 = some ([true, true, true, true], (bl_157_1, 9999)) := bk_of pk_157 rfl
theorem bk_157_2 : bk_ am_prog 157 2 = some ([true, true, true, true], (bl_157_2, 9999)) := bk_of pk_157 rfl
theorem bk_157_3 : bk_ am_prog 157 3 = some ([true, true, true, true], (bl_157_3, 9999)) := bk_of pk_157 rfl
theorem bk_157_4 : bk_ am_prog 157 4 = some ([false, false, false, false], (bl_157_4, 9999)) := bk_of pk_157 rfl
theorem bk_157_5 : bk_ am_prog 157 5 = some ([true, true, true, true], (bl_157_5, 9999)) := bk_of pk_157 rfl
theorem bk_157_6 : bk_ am_prog 157 6 = some ([false, false, false, false], (bl_157_6, 9999)) := bk_of pk_157 rfl
theorem bk_157_7 : bk_ am_prog 157 7 = some ([true, true, true, true], (bl_157_7, 9999)) := bk_of pk_157 rfl
theorem jt_157_4 (h : am_H) (d0 d1 d2 d3 : am_V) : JJ 157 4 [d0, d1, d2, d3] [] h = some (h, (-1)) := (jj_of bk_157_4 _ _ h).trans (ff_of bk_157_4 [(9, 0), (9, 0), (9, 0), (9, 0)] [] h)
theorem jt_157_7 (h : am_H) (x0 x1 x2 x3 : Int) : JJ 157 7 [(21, x0), (0, x1), (0, x2), (0, x3)] [] h = ck_ (0 ≤ x0) (ck_ (0 ≤ (rf_ h x0 7)) (ck_ (0 ≤ (rf_ h (rf_ h x0 7) 6)) (ck_ (0 ≤ x1 ∧ x1 < ln_ h (rf_ h (rf_ h x0 7) 6)) (ck_ (0 ≤ x0) (bd_ (Pp_chartOf h x0 (rd_ h (rf_ h (rf_ h x0 7) 6) x1) x3) fun h1 v2 => ck_ (0 ≤ x0) (bd_ (Pp_stateAgainst h1 x0 x1 x2 x3) fun h3 v4 => ck_ (0 ≤ v2) (bd_ (Ch_leastOf h3 v2 v4) fun h5 v6 => some (h5, v6)))))))) := (jj_of bk_157_7 _ _ h).trans ((ff_of bk_157_7 [(21, x0), (0, x1), (0, x2), (0, x3)] [] h).trans (by
  show (ck_ (0 ≤ x0) (ck_ (0 ≤ (rf_ h x0 7)) (ck_ (0 ≤ (rf_ h (rf_ h x0 7) 6)) (ck_ (0 ≤ x1 ∧ x1 < ln_ h (rf_ h (rf_ h x0 7) 6)) (ck_ (0 ≤ x0) (bd_ (CC 152 [(21, x0), (0, rd_ h (rf_ h (rf_ h x0 7) 6) x1), (0, x3)] h) fun h1 v2 => ck_ (0 ≤ x0) (bd_ (CC 156 [(21, x0), (0, x1), (0, x2), (0, x3)] h1) fun h3 v4 => ck_ (0 ≤ v2) (bd_ (CC 6 [(10, v2), (0, v4)] h3) fun h5 v6 => some (h5, v6))))))))) = _
  simp only [cc_6, cc_152, cc_156, ck_or1, ck_or2, rf_wr, ln_wr, nn_wr, rf_cp, ln_cp, nn_cp, ln_wf, nn_wf, rd_wf, nn_nw]
  try rfl))
theorem jt_157_6 (h : am_H) (d0 d1 d2 d3 : am_V) : JJ 157 6 [d0, d1, d2, d3] [] h = some (h, (-2)) := (jj_of bk_157_6 _ _ h).trans (ff_of bk_157_6 [(9, 0), (9, 0), (9, 0), (9, 0)] [] h)
set_option maxRecDepth 20000 in
theorem jt_157_5 (h : am_H) (x0 x1 x2 x3 : Int) : JJ 157 5 [(21, x0), (0, x1), (0, x2), (0, x3)] [] h = ck_ (0 ≤ x0) (ck_ (0 ≤ (rf_ h x0 7)) (ck_ (0 ≤ (rf_ h (rf_ h x0 7) 6)) (ck_ (0 ≤ x1 ∧ x1 < ln_ h (rf_ h (rf_ h x0 7) 6)) (ck_ (0 ≤ x0) (ck_ (0 ≤ (rf_ h x0 7)) (ck_ (0 ≤ (rf_ h (rf_ h x0 7) 6)) (ck_ (0 ≤ x2 ∧ x2 < ln_ h (rf_ h (rf_ h x0 7) 6)) (if (rd_ h (rf_ h (rf_ h x0 7) 6) x1) = (rd_ h (rf_ h (rf_ h x0 7) 6) x2) then ck_ (0 ≤ x0) (ck_ (0 ≤ (rf_ h x0 7)) (ck_ (0 ≤ (rf_ h (rf_ h x0 7) 6)) (ck_ (0 ≤ x1 ∧ x1 < ln_ h (rf_ h (rf_ h x0 7) 6)) (ck_ (0 ≤ x0) (bd_ (Pp_chartOf h x0 (rd_ h (rf_ h (rf_ h x0 7) 6) x1) x3) fun h1 v2 => ck_ (0 ≤ x0) (bd_ (Pp_stateAgainst h1 x0 x1 x2 x3) fun h3 v4 => ck_ (0 ≤ v2) (bd_ (Ch_leastOf h3 v2 v4) fun h5 v6 => some (h5, v6)))))))) else some (h, (-2)))))))))) := (jj_of bk_157_5 _ _ h).trans ((ff_of bk_157_5 [(21, x0), (0, x1), (0, x2), (0, x3)] [] h).trans (by
  show (ck_ (0 ≤ x0) (ck_ (0 ≤ (rf_ h x0 7)) (ck_ (0 ≤ (rf_ h (rf_ h x0 7) 6)) (ck_ (0 ≤ x1 ∧ x1 < ln_ h (rf_ h (rf_ h x0 7) 6)) (ck_ (0 ≤ x0) (ck_ (0 ≤ (rf_ h x0 7)) (ck_ (0 ≤ (rf_ h (rf_ h x0 7) 6)) (ck_ (0 ≤ x2 ∧ x2 < ln_ h (rf_ h (rf_ h x0 7) 6)) (if (rd_ h (rf_ h (rf_ h x0 7) 6) x1) = (rd_ h (rf_ h (rf_ h x0 7) 6) x2) then JJ 157 7 [(21, x0), (0, x1), (0, x2), (0, x3)] [] h else JJ 157 6 [(21, x0), (0, x1), (0, x2), (0, x3)] [] h))))))))) = _
  simp only [jt_157_6, jt_157_7, ck_or1, ck_or2, rf_wr, ln_wr, nn_wr, rf_cp, ln_cp, nn_cp, ln_wf, nn_wf, rd_wf, nn_nw]
  try rfl))
set_option maxRecDepth 20000 in
theorem jt_157_3 (h : am_H) (x0 x1 x2 x3 : Int) : JJ 157 3 [(21, x0), (0, x1), (0, x2), (0, x3)] [] h = if x3 ≤ 1 then ck_ (0 ≤ x0) (ck_ (0 ≤ (rf_ h x0 7)) (ck_ (0 ≤ (rf_ h (rf_ h x0 7) 6)) (ck_ (0 ≤ x1 ∧ x1 < ln_ h (rf_ h (rf_ h x0 7) 6)) (ck_ (0 ≤ x0) (ck_ (0 ≤ (rf_ h x0 7)) (ck_ (0 ≤ (rf_ h (rf_ h x0 7) 6)) (ck_ (0 ≤ x2 ∧ x2 < ln_ h (rf_ h (rf_ h x0 7) 6)) (if (rd_ h (rf_ h (rf_ h x0 7) 6) x1) = (rd_ h (rf_ h (rf_ h x0 7) 6) x2) then ck_ (0 ≤ x0) (ck_ (0 ≤ (rf_ h x0 7)) (ck_ (0 ≤ (rf_ h (rf_ h x0 7) 6)) (ck_ (0 ≤ x1 ∧ x1 < ln_ h (rf_ h (rf_ h x0 7) 6)) (ck_ (0 ≤ x0) (bd_ (Pp_chartOf h x0 (rd_ h (rf_ h (rf_ h x0 7) 6) x1) x3) fun h1 v2 => ck_ (0 ≤ x0) (bd_ (Pp_stateAgainst h1 x0 x1 x2 x3) fun h3 v4 => ck_ (0 ≤ v2) (bd_ (Ch_leastOf h3 v2 v4) fun h5 v6 => some (h5, v6)))))))) else some (h, (-2)))))))))) else some (h, (-1)) := (jj_of bk_157_3 _ _ h).trans ((ff_of bk_157_3 [(21, x0), (0, x1), (0, x2), (0, x3)] [] h).trans (by
  show (if x3 ≤ 1 then JJ 157 5 [(21, x0), (0, x1), (0, x2), (0, x3)] [] h else JJ 157 4 [(21, x0), (0, x1), (0, x2), (0, x3)] [] h) = _
  simp only [jt_157_4, jt_157_5, ck_or1, ck_or2, rf_wr, ln_wr, nn_wr, rf_cp, ln_cp, nn_cp, ln_wf, nn_wf, rd_wf, nn_nw]
  try rfl))
set_option maxRecDepth 20000 in
theorem jt_157_2 (h : am_H) (x0 x1 x2 x3 : Int) : JJ 157 2 [(21, x0), (0, x1), (0, x2), (0, x3)] [] h = if x3 < 0 then some (h, (-1)) else if x3 ≤ 1 then ck_ (0 ≤ x0) (ck_ (0 ≤ (rf_ h x0 7)) (ck_ (0 ≤ (rf_ h (rf_ h x0 7) 6)) (ck_ (0 ≤ x1 ∧ x1 < ln_ h (rf_ h (rf_ h x0 7) 6)) (ck_ (0 ≤ x0) (ck_ (0 ≤ (rf_ h x0 7)) (ck_ (0 ≤ (rf_ h (rf_ h x0 7) 6)) (ck_ (0 ≤ x2 ∧ x2 < ln_ h (rf_ h (rf_ h x0 7) 6)) (if (rd_ h (rf_ h (rf_ h x0 7) 6) x1) = (rd_ h (rf_ h (rf_ h x0 7) 6) x2) then ck_ (0 ≤ x0) (ck_ (0 ≤ (rf_ h x0 7)) (ck_ (0 ≤ (rf_ h (rf_ h x0 7) 6)) (ck_ (0 ≤ x1 ∧ x1 < ln_ h (rf_ h (rf_ h x0 7) 6)) (ck_ (0 ≤ x0) (bd_ (Pp_chartOf h x0 (rd_ h (rf_ h (rf_ h x0 7) 6) x1) x3) fun h1 v2 => ck_ (0 ≤ x0) (bd_ (Pp_stateAgainst h1 x0 x1 x2 x3) fun h3 v4 => ck_ (0 ≤ v2) (bd_ (Ch_leastOf h3 v2 v4) fun h5 v6 => some (h5, v6)))))))) else some (h, (-2)))))))))) else some (h, (-1)) := (jj_of bk_157_2 _ _ h).trans ((ff_of bk_157_2 [(21, x0), (0, x1), (0, x2), (0, x3)] [] h).trans (by
  show (if x3 < 0 then JJ 157 4 [(21, x0), (0, x1), (0, x2), (0, x3)] [] h else JJ 157 3 [(21, x0), (0, x1), (0, x2), (0, x3)] [] h) = _
  simp only [jt_157_3, jt_157_4, ck_or1, ck_or2, rf_wr, ln_wr, nn_wr, rf_cp, ln_cp, nn_cp, ln_wf, nn_wf, rd_wf, nn_nw]
  try rfl))
set_option maxRecDepth 20000 in
theorem jt_157_1 (h : am_H) (x0 x1 x2 x3 : Int) : JJ 157 1 [(21, x0), (0, x1), (0, x2), (0, x3)] [] h = ck_ (0 ≤ x0) (ck_ (0 ≤ (rf_ h x0 7)) (bd_ (Wo_hasPile h (rf_ h x0 7) x2) fun h1 v2 => if v2 = 0 then some (h1, (-1)) else if x3 < 0 then some (h1, (-1)) else if x3 ≤ 1 then ck_ (0 ≤ x0) (ck_ (0 ≤ (rf_ h1 x0 7)) (ck_ (0 ≤ (rf_ h1 (rf_ h1 x0 7) 6)) (ck_ (0 ≤ x1 ∧ x1 < ln_ h1 (rf_ h1 (rf_ h1 x0 7) 6)) (ck_ (0 ≤ x0) (ck_ (0 ≤ (rf_ h1 x0 7)) (ck_ (0 ≤ (rf_ h1 (rf_ h1 x0 7) 6)) (ck_ (0 ≤ x2 ∧ x2 < ln_ h1 (rf_ h1 (rf_ h1 x0 7) 6)) (if (rd_ h1 (rf_ h1 (rf_ h1 x0 7) 6) x1) = (rd_ h1 (rf_ h1 (rf_ h1 x0 7) 6) x2) then ck_ (0 ≤ x0) (ck_ (0 ≤ (rf_ h1 x0 7)) (ck_ (0 ≤ (rf_ h1 (rf_ h1 x0 7) 6)) (ck_ (0 ≤ x1 ∧ x1 < ln_ h1 (rf_ h1 (rf_ h1 x0 7) 6)) (ck_ (0 ≤ x0) (bd_ (Pp_chartOf h1 x0 (rd_ h1 (rf_ h1 (rf_ h1 x0 7) 6) x1) x3) fun h3 v4 => ck_ (0 ≤ x0) (bd_ (Pp_stateAgainst h3 x0 x1 x2 x3) fun h5 v6 => ck_ (0 ≤ v4) (bd_ (Ch_leastOf h5 v4 v6) fun h7 v8 => some (h7, v8)))))))) else some (h1, (-2)))))))))) else some (h1, (-1)))) := (jj_of bk_157_1 _ _ h).trans ((ff_of bk_157_1 [(21, x0), (0, x1), (0, x2), (0, x3)] [] h).trans (by
  show (ck_ (0 ≤ x0) (ck_ (0 ≤ (rf_ h x0 7)) (bd_ (CC 54 [(20, rf_ h x0 7), (0, x2)] h) fun h1 v2 => if v2 = 0 then JJ 157 4 [(21, x0), (0, x1), (0, x2), (0, x3)] [] h1 else JJ 157 2 [(21, x0), (0, x1), (0, x2), (0, x3)] [] h1))) = _
  simp only [cc_54, jt_157_2, jt_157_4, ck_or1, ck_or2, rf_wr, ln_wr, nn_wr, rf_cp, ln_cp, nn_cp, ln_wf, nn_wf, rd_wf, nn_nw]
  try rfl))
set_option maxRecDepth 20000 in
theorem Pp_apart_e (h : am_H) (x0 x1 x2 x3 : Int) : Pp_apart h x0 x1 x2 x3 = ck_ (0 ≤ x0) (ck_ (0 ≤ (rf_ h x0 7)) (bd_ (Wo_hasPile h (rf_ h x0 7) x1) fun h1 v2 => if v2 = 0 then some (h1, (-1)) else ck_ (0 ≤ x0) (ck_ (0 ≤ (rf_ h1 x0 7)) (bd_ (Wo_hasPile h1 (rf_ h1 x0 7) x2) fun h3 v4 => if v4 = 0 then some (h3, (-1)) else if x3 < 0 then some (h3, (-1)) else if x3 ≤ 1 then ck_ (0 ≤ x0) (ck_ (0 ≤ (rf_ h3 x0 7)) (ck_ (0 ≤ (rf_ h3 (rf_ h3 x0 7) 6)) (ck_ (0 ≤ x1 ∧ x1 < ln_ h3 (rf_ h3 (rf_ h3 x0 7) 6)) (ck_ (0 ≤ x0) (ck_ (0 ≤ (rf_ h3 x0 7)) (ck_ (0 ≤ (rf_ h3 (rf_ h3 x0 7) 6)) (ck_ (0 ≤ x2 ∧ x2 < ln_ h3 (rf_ h3 (rf_ h3 x0 7) 6)) (if (rd_ h3 (rf_ h3 (rf_ h3 x0 7) 6) x1) = (rd_ h3 (rf_ h3 (rf_ h3 x0 7) 6) x2) then ck_ (0 ≤ x0) (ck_ (0 ≤ (rf_ h3 x0 7)) (ck_ (0 ≤ (rf_ h3 (rf_ h3 x0 7) 6)) (ck_ (0 ≤ x1 ∧ x1 < ln_ h3 (rf_ h3 (rf_ h3 x0 7) 6)) (ck_ (0 ≤ x0) (bd_ (Pp_chartOf h3 x0 (rd_ h3 (rf_ h3 (rf_ h3 x0 7) 6) x1) x3) fun h5 v6 => ck_ (0 ≤ x0) (bd_ (Pp_stateAgainst h5 x0 x1 x2 x3) fun h7 v8 => ck_ (0 ≤ v6) (bd_ (Ch_leastOf h7 v6 v8) fun h9 v10 => some (h9, v10)))))))) else some (h3, (-2)))))))))) else some (h3, (-1)))))) := (ff_of bk_157_0 [(21, x0), (0, x1), (0, x2), (0, x3)] [] h).trans (by
  show (ck_ (0 ≤ x0) (ck_ (0 ≤ (rf_ h x0 7)) (bd_ (CC 54 [(20, rf_ h x0 7), (0, x1)] h) fun h1 v2 => if v2 = 0 then JJ 157 4 [(21, x0), (0, x1), (0, x2), (0, x3)] [] h1 else JJ 157 1 [(21, x0), (0, x1), (0, x2), (0, x3)] [] h1))) = _
  simp only [cc_54, jt_157_1, jt_157_4, ck_or1, ck_or2, rf_wr, ln_wr, nn_wr, rf_cp, ln_cp, nn_cp, ln_wf, nn_wf, rd_wf, nn_nw]
  try rfl)
theorem cc_157 (h : am_H) (x0 x1 x2 x3 : Int) : CC 157 [(21, x0), (0, x1), (0, x2), (0, x3)] h = Pp_apart h x0 x1 x2 x3 := cc_of pk_157 _ h
theorem pk_158 : am_prog 158 = some cd_158 := rfl
theorem bk_158_0 : bk_ am_prog 158 0 = some ([true, true, true], (bl_158_0, 9999)) := bk_of pk_158 rfl
theorem bk_158_1 : bk_ am_prog 158 1 = some ([true, true, true], (bl_158_1, 9999)) := bk_of pk_158 rfl
theorem bk_158_2 : bk_ am_prog 158 2 = some ([true, true, true], (bl_158_2, 9999)) := bk_of pk_158 rfl
theorem bk_158_3 : bk_ am_prog 158 3 = some ([true, true, true], (bl_158_3, 9999)) := bk_of pk_158 rfl
theorem bk_158_4 : bk_ am_prog 158 4 = some ([false, false, false], (bl_158_4, 9999)) := bk_of pk_158 rfl
theorem bk_158_5 : bk_ am_prog 158 5 = some ([true, true, true], (bl_158_5, 9999)) := bk_of pk_158 rfl
theorem jt_158_4 (h : am_H) (d0 d1 d2 : am_V) : JJ 158 4 [d0, d1, d2] [] h = some (h, (-1)) := (jj_of bk_158_4 _ _ h).trans (ff_of bk_158_4 [(9, 0), (9, 0), (9, 0)] [] h)
theorem jt_158_5 (h : am_H) (x0 x1 x2 : Int) : JJ 158 5 [(21, x0), (0, x1), (0, x2)] [] h = ck_ (0 ≤ x0) (bd_ (Pp_chartOf h x0 x1 x2) fun h1 v2 => ck_ (0 ≤ v2) (bd_ (Ch_furthestLeast h1 v2) fun h3 v4 => some (h3, v4))) := (jj_of bk_158_5 _ _ h).trans ((ff_of bk_158_5 [(21, x0), (0, x1), (0, x2)] [] h).trans (by
  show (ck_ (0 ≤ x0) (bd_ (CC 152 [(21, x0), (0, x1), (0, x2)] h) fun h1 v2 => ck_ (0 ≤ v2) (bd_ (CC 9 [(10, v2)] h1) fun h3 v4 => some (h3, v4)))) = _
  simp only [cc_9, cc_152, ck_or1, ck_or2, rf_wr, ln_wr, nn_wr, rf_cp, ln_cp, nn_cp, ln_wf, nn_wf, rd_wf, nn_nw]
  try rfl))
theorem jt_158_3 (h : am_H) (x0 x1 x2 : Int) : JJ 158 3 [(21, x0), (0, x1), (0, x2)] [] h = if x2 ≤ 1 then ck_ (0 ≤ x0) (bd_ (Pp_chartOf h x0 x1 x2) fun h1 v2 => ck_ (0 ≤ v2) (bd_ (Ch_furthestLeast h1 v2) fun h3 v4 => some (h3, v4))) else some (h, (-1)) := (jj_of bk_158_3 _ _ h).trans ((ff_of bk_158_3 [(21, x0), (0, x1), (0, x2)] [] h).trans (by
  show (if x2 ≤ 1 then JJ 158 5 [(21, x0), (0, x1), (0, x2)] [] h else JJ 158 4 [(21, x0), (0, x1), (0, x2)] [] h) = _
  simp only [jt_158_4, jt_158_5, ck_or1, ck_or2, rf_wr, ln_wr, nn_wr, rf_cp, ln_cp, nn_cp, ln_wf, nn_wf, rd_wf, nn_nw]
  try rfl))
theorem jt_158_2 (h : am_H) (x0 x1 x2 : Int) : JJ 158 2 [(21, x0), (0, x1), (0, x2)] [] h = if x2 < 0 then some (h, (-1)) else if x2 ≤ 1 then ck_ (0 ≤ x0) (bd_ (Pp_chartOf h x0 x1 x2) fun h1 v2 => ck_ (0 ≤ v2) (bd_ (Ch_furthestLeast h1 v2) fun h3 v4 => some (h3, v4))) else some (h, (-1)) := (jj_of bk_158_2 _ _ h).trans ((ff_of bk_158_2 [(21, x0), (0, x1), (0, x2)] [] h).trans (by
  show (if x2 < 0 then JJ 158 4 [(21, x0), (0, x1), (0, x2)] [] h else JJ 158 3 [(21, x0), (0, x1), (0, x2)] [] h) = _
  simp only [jt_158_3, jt_158_4, ck_or1, ck_or2, rf_wr, ln_wr, nn_wr, rf_cp, ln_cp, nn_cp, ln_wf, nn_wf, rd_wf, nn_nw]
  try rfl))
theorem jt_158_1 (h : am_H) (x0 x1 x2 : Int) : JJ 158 1 [(21, x0), (0, x1), (0, x2)] [] h = if 5 < x1 then some (h, (-1)) else if x2 < 0 then some (h, (-1)) else if x2 ≤ 1 then ck_ (0 ≤ x0) (bd_ (Pp_chartOf h x0 x1 x2) fun h1 v2 => ck_ (0 ≤ v2) (bd_ (Ch_furthestLeast h1 v2) fun h3 v4 => some (h3, v4))) else some (h, (-1)) := (jj_of bk_158_1 _ _ h).trans ((ff_of bk_158_1 [(21, x0), (0, x1), (0, x2)] [] h).trans (by
  show (if 5 < x1 then JJ 158 4 [(21, x0), (0, x1), (0, x2)] [] h else JJ 158 2 [(21, x0), (0, x1), (0, x2)] [] h) = _
  simp only [jt_158_2, jt_158_4, ck_or1, ck_or2, rf_wr, ln_wr, nn_wr, rf_cp, ln_cp, nn_cp, ln_wf, nn_wf, rd_wf, nn_nw]
  try rfl))
theorem Pp_furthest_e (h : am_H) (x0 x1 x2 : Int) : Pp_furthest h x0 x1 x2 = if x1 < 0 then some (h, (-1)) else if 5 < x1 then some (h, (-1)) else if x2 < 0 then some (h, (-1)) else if x2 ≤ 1 then ck_ (0 ≤ x0) (bd_ (Pp_chartOf h x0 x1 x2) fun h1 v2 => ck_ (0 ≤ v2) (bd_ (Ch_furthestLeast h1 v2) fun h3 v4 => some (h3, v4))) else some (h, (-1)) := (ff_of bk_158_0 [(21, x0), (0, x1), (0, x2)] [] h).trans (by
  show (if x1 < 0 then JJ 158 4 [(21, x0), (0, x1), (0, x2)] [] h else JJ 158 1 [(21, x0), (0, x1), (0, x2)] [] h) = _
  simp only [jt_158_1, jt_158_4, ck_or1, ck_or2, rf_wr, ln_wr, nn_wr, rf_cp, ln_cp, nn_cp, ln_wf, nn_wf, rd_wf, nn_nw]
  try rfl)
theorem cc_158 (h : am_H) (x0 x1 x2 : Int) : CC 158 [(21, x0), (0, x1), (0, x2)] h = Pp_furthest h x0 x1 x2 := cc_of pk_158 _ h
theorem pk_159 : am_prog 159 = some cd_159 := rfl
theorem bk_159_0 : bk_ am_prog 159 0 = some ([true, true, true, true], (bl_159_0, 9999)) := bk_of pk_159 rfl
theorem bk_159_1 : bk_ am_prog 159 1 = some ([true, true, true, true], (bl_159_1, 9999)) := bk_of pk_159 rfl
theorem bk_159_2 : bk_ am_prog 159 2 = some ([true, true, true, true], (bl_159_2, 9999)) := bk_of pk_159 rfl
theorem bk_159_3 : bk_ am_prog 159 3 = some ([true, true, true, true], (bl_159_3, 9999)) := bk_of pk_159 rfl
theorem bk_159_4 : bk_ am_prog 159 4 = some ([true, true, true, true], (bl_159_4, 9999)) := bk_of pk_159 rfl
theorem bk_159_5 : bk_ am_prog 159 5 = some ([true, true, true, true], (bl_159_5, 9999)) := bk_of pk_159 rfl
theorem bk_159_6 : bk_ am_prog 159 6 = some ([false, false, false, false], (bl_159_6, 9999)) := bk_of pk_159 rfl
theorem bk_159_7 : bk_ am_prog 159 7 = some ([true, true, true, true], (bl_159_7, 9999)) := bk_of pk_159 rfl
theorem jt_159_6 (h : am_H) (d0 d1 d2 d3 : am_V) : JJ 159 6 [d0, d1, d2, d3] [] h = some (h, (-1)) := (jj_of bk_159_6 _ _ h).trans (ff_of bk_159_6 [(9, 0), (9, 0), (9, 0), (9, 0)] [] h)
theorem jt_159_7 (h : am_H) (x0 x1 x2 x3 : Int) : JJ 159 7 [(21, x0), (0, x1), (0, x2), (0, x3)] [] h = ck_ (0 ≤ x0) (bd_ (Pp_chartOf h x0 x1 x2) fun h1 v2 => ck_ (0 ≤ v2) (bd_ (Ch_statesAt h1 v2 x3) fun h3 v4 => some (h3, v4))) := (jj_of bk_159_7 _ _ h).trans ((ff_of bk_159_7 [(21, x0), (0, x1), (0, x2), (0, x3)] [] h).trans (by
  show (ck_ (0 ≤ x0) (bd_ (CC 152 [(21, x0), (0, x1), (0, x2)] h) fun h1 v2 => ck_ (0 ≤ v2) (bd_ (CC 10 [(10, v2), (0, x3)] h1) fun h3 v4 => some (h3, v4)))) = _
  simp only [cc_10, cc_152, ck_or1, ck_or2, rf_wr, ln_wr, nn_wr, rf_cp, ln_cp, nn_cp, ln_wf, nn_wf, rd_wf, nn_nw]
  try rfl))
theorem jt_159_5 (h : am_H) (x0 x1 x2 x3 : Int) : JJ 159 5 [(21, x0), (0, x1), (0, x2), (0, x3)] [] h = if x3 ≤ 20 then ck_ (0 ≤ x0) (bd_ (Pp_chartOf h x0 x1 x2) fun h1 v2 => ck_ (0 ≤ v2) (bd_ (Ch_statesAt h1 v2 x3) fun h3 v4 => some (h3, v4))) else some (h, (-1)) := (jj_of bk_159_5 _ _ h).trans ((ff_of bk_159_5 [(21, x0), (0, x1), (0, x2), (0, x3)] [] h).trans (by
  show (if x3 ≤ 20 then JJ 159 7 [(21, x0), (0, x1), (0, x2), (0, x3)] [] h else JJ 159 6 [(21, x0), (0, x1), (0, x2), (0, x3)] [] h) = _
  simp only [jt_159_6, jt_159_7, ck_or1, ck_or2, rf_wr, ln_wr, nn_wr, rf_cp, ln_cp, nn_cp, ln_wf, nn_wf, rd_wf, nn_nw]
  try rfl))
theorem jt_159_4 (h : am_H) (x0 x1 x2 x3 : Int) : JJ 159 4 [(21, x0), (0, x1), (0, x2), (0, x3)] [] h = if x3 < 0 then some (h, (-1)) else if x3 ≤ 20 then ck_ (0 ≤ x0) (bd_ (Pp_chartOf h x0 x1 x2) fun h1 v2 => ck_ (0 ≤ v2) (bd_ (Ch_statesAt h1 v2 x3) fun h3 v4 => some (h3, v4))) else some (h, (-1)) := (jj_of bk_159_4 _ _ h).trans ((ff_of bk_159_4 [(21, x0), (0, x1), (0, x2), (0, x3)] [] h).trans (by
  show (if x3 < 0 then JJ 159 6 [(21, x0), (0, x1), (0, x2), (0, x3)] [] h else JJ 159 5 [(21, x0), (0, x1), (0, x2), (0, x3)] [] h) = _
  simp only [jt_159_5, jt_159_6, ck_or1, ck_or2, rf_wr, ln_wr, nn_wr, rf_cp, ln_cp, nn_cp, ln_wf, nn_wf, rd_wf, nn_nw]
  try rfl))
theorem jt_159_3 (h : am_H) (x0 x1 x2 x3 : Int) : JJ 159 3 [(21, x0), (0, x1), (0, x2), (0, x3)] [] h = if 1 < x2 then some (h, (-1)) else if x3 < 0 then some (h, (-1)) else if x3 ≤ 20 then ck_ (0 ≤ x0) (bd_ (Pp_chartOf h x0 x1 x2) fun h1 v2 => ck_ (0 ≤ v2) (bd_ (Ch_statesAt h1 v2 x3) fun h3 v4 => some (h3, v4))) else some (h, (-1)) := (jj_of bk_159_3 _ _ h).trans ((ff_of bk_159_3 [(21, x0), (0, x1), (0, x2), (0, x3)] [] h).trans (by
  show (if 1 < x2 then JJ 159 6 [(21, x0), (0, x1), (0, x2), (0, x3)] [] h else JJ 159 4 [(21, x0), (0, x1), (0, x2), (0, x3)] [] h) = _
  simp only [jt_159_4, jt_159_6, ck_or1, ck_or2, rf_wr, ln_wr, nn_wr, rf_cp, ln_cp, nn_cp, ln_wf, nn_wf, rd_wf, nn_nw]
  try rfl))
theorem jt_159_2 (h : am_H) (x0 x1 x2 x3 : Int) : JJ 159 2 [(21, x0), (0, x1), (0, x2), (0, x3)] [] h = if x2 < 0 then some (h, (-1)) else if 1 < x2 then some (h, (-1)) else if x3 < 0 then some (h, (-1)) else if x3 ≤ 20 then ck_ (0 ≤ x0) (bd_ (Pp_chartOf h x0 x1 x2) fun h1 v2 => ck_ (0 ≤ v2) (bd_ (Ch_statesAt h1 v2 x3) fun h3 v4 => some (h3, v4))) else some (h, (-1)) := (jj_of bk_159_2 _ _ h).trans ((ff_of bk_159_2 [(21, x0), (0, x1), (0, x2), (0, x3)] [] h).trans (by
  show (if x2 < 0 then JJ 159 6 [(21, x0), (0, x1), (0, x2), (0, x3)] [] h else JJ 159 3 [(21, x0), (0, x1), (0, x2), (0, x3)] [] h) = _
  simp only [jt_159_3, jt_159_6, ck_or1, ck_or2, rf_wr, ln_wr, nn_wr, rf_cp, ln_cp, nn_cp, ln_wf, nn_wf, rd_wf, nn_nw]
  try rfl))
theorem jt_159_1 (h : am_H) (x0 x1 x2 x3 : Int) : JJ 159 1 [(21, x0), (0, x1), (0, x2), (0, x3)] [] h = if 5 < x1 then some (h, (-1)) else if x2 < 0 then some (h, (-1)) else if 1 < x2 then some (h, (-1)) else if x3 < 0 then some (h, (-1)) else if x3 ≤ 20 then ck_ (0 ≤ x0) (bd_ (Pp_chartOf h x0 x1 x2) fun h1 v2 => ck_ (0 ≤ v2) (bd_ (Ch_statesAt h1 v2 x3) fun h3 v4 => some (h3, v4))) else some (h, (-1)) := (jj_of bk_159_1 _ _ h).trans ((ff_of bk_159_1 [(21, x0), (0, x1), (0, x2), (0, x3)] [] h).trans (by
  show (if 5 < x1 then JJ 159 6 [(21, x0), (0, x1), (0, x2), (0, x3)] [] h else JJ 159 2 [(21, x0), (0, x1), (0, x2), (0, x3)] [] h) = _
  simp only [jt_159_2, jt_159_6, ck_or1, ck_or2, rf_wr, ln_wr, nn_wr, rf_cp, ln_cp, nn_cp, ln_wf, nn_wf, rd_wf, nn_nw]
  try rfl))
theorem Pp_howMany_e (h : am_H) (x0 x1 x2 x3 : Int) : Pp_howMany h x0 x1 x2 x3 = if x1 < 0 then some (h, (-1)) else if 5 < x1 then some (h, (-1)) else if x2 < 0 then some (h, (-1)) else if 1 < x2 then some (h, (-1)) else if x3 < 0 then some (h, (-1)) else if x3 ≤ 20 then ck_ (0 ≤ x0) (bd_ (Pp_chartOf h x0 x1 x2) fun h1 v2 => ck_ (0 ≤ v2) (bd_ (Ch_statesAt h1 v2 x3) fun h3 v4 => some (h3, v4))) else some (h, (-1)) := (ff_of bk_159_0 [(21, x0), (0, x1), (0, x2), (0, x3)] [] h).trans (by
  show (if x1 < 0 then JJ 159 6 [(21, x0), (0, x1), (0, x2), (0, x3)] [] h else JJ 159 1 [(21, x0), (0, x1), (0, x2), (0, x3)] [] h) = _
  simp only [jt_159_1, jt_159_6, ck_or1, ck_or2, rf_wr, ln_wr, nn_wr, rf_cp, ln_cp, nn_cp, ln_wf, nn_wf, rd_wf, nn_nw]
  try rfl)
theorem cc_159 (h : am_H) (x0 x1 x2 x3 : Int) : CC 159 [(21, x0), (0, x1), (0, x2), (0, x3)] h = Pp_howMany h x0 x1 x2 x3 := cc_of pk_159 _ h
