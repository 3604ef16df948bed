/-! what each is -/
set_option maxRecDepth 20000 in
theorem pk_240 : am_prog 240 = some cd_240 := rfl
theorem bk_240_0 : bk_ am_prog 240 0 = some ([true, true, true, true, false], (bl_240_0, 9999)) := bk_of pk_240 rfl
theorem bk_240_1 : bk_ am_prog 240 1 = some ([false, false, false, false, false], (bl_240_1, 9999)) := bk_of pk_240 rfl
theorem bk_240_2 : bk_ am_prog 240 2 = some ([true, false, false, false, true], (bl_240_2, 3)) := bk_of pk_240 rfl
theorem bk_240_3 : bk_ am_prog 240 3 = some ([false, false, false, false, false], (bl_240_3, 9999)) := bk_of pk_240 rfl
theorem jt_240_3 (h : am_H) (d0 d1 d2 d3 d4 : am_V) (s0 : Int) : JJ 240 3 [d0, d1, d2, d3, d4] [(0, s0)] h = some (h, s0) := (jj_of bk_240_3 _ _ h).trans (ff_of bk_240_3 [(9, 0), (9, 0), (9, 0), (9, 0), (9, 0)] [(0, s0)] h)
theorem jt_240_2 (h : am_H) (d1 d2 d3 : am_V) (x0 x4 : Int) : JJ 240 2 [(22, x0), d1, d2, d3, (0, x4)] [] h = ck_ (0 ≤ x0) (ck_ (0 ≤ (rf_ h x0 29)) (ck_ (0 ≤ x4 ∧ x4 < ln_ h (rf_ h x0 29)) (some (h, rd_ h (rf_ h x0 29) x4)))) := (jj_of bk_240_2 _ _ h).trans ((ff_of bk_240_2 [(22, x0), (9, 0), (9, 0), (9, 0), (0, x4)] [] h).trans (by
  show (ck_ (0 ≤ x0) (ck_ (0 ≤ (rf_ h x0 29)) (ck_ (0 ≤ x4 ∧ x4 < ln_ h (rf_ h x0 29)) (JJ 240 3 [(22, x0), (9, 0), (9, 0), (9, 0), (0, x4)] [(0, rd_ h (rf_ h x0 29) x4)] h)))) = _
  simp only [jt_240_3, ck_or1, ck_or2, rf_wr, ln_wr, nn_wr, rf_cp, ln_cp, nn_cp, ln_wf, nn_wf, rd_wf, nn_nw]
  try rfl))
theorem jt_240_1 (h : am_H) (d0 d1 d2 d3 d4 : am_V) : JJ 240 1 [d0, d1, d2, d3, d4] [] h = some (h, 0) := (jj_of bk_240_1 _ _ h).trans ((ff_of bk_240_1 [(9, 0), (9, 0), (9, 0), (9, 0), (9, 0)] [] h).trans (by
  show (JJ 240 3 [(9, 0), (9, 0), (9, 0), (9, 0), (9, 0)] [(0, 0)] h) = _
  simp only [jt_240_3, ck_or1, ck_or2, rf_wr, ln_wr, nn_wr, rf_cp, ln_cp, nn_cp, ln_wf, nn_wf, rd_wf, nn_nw]
  try rfl))
theorem Mo_sizeAt_e (h : am_H) (x0 x1 x2 x3 : Int) : Mo_sizeAt h x0 x1 x2 x3 = ck_ (0 ≤ x0) (bd_ (Mo_plateAt h x0 x1 x2 x3) fun h1 v2 => if 0 ≤ v2 then ck_ (0 ≤ x0) (ck_ (0 ≤ (rf_ h1 x0 29)) (ck_ (0 ≤ v2 ∧ v2 < ln_ h1 (rf_ h1 x0 29)) (some (h1, rd_ h1 (rf_ h1 x0 29) v2)))) else some (h1, 0)) := (ff_of bk_240_0 [(22, x0), (0, x1), (0, x2), (0, x3), (9, 0)] [] h).trans (by
  show (ck_ (0 ≤ x0) (bd_ (CC 239 [(22, x0), (0, x1), (0, x2), (0, x3)] h) fun h1 v2 => if 0 ≤ v2 then JJ 240 2 [(22, x0), (0, x1), (0, x2), (0, x3), (0, v2)] [] h1 else JJ 240 1 [(22, x0), (0, x1), (0, x2), (0, x3), (0, v2)] [] h1)) = _
  simp only [cc_239, jt_240_1, jt_240_2, ck_or1, ck_or2, rf_wr, ln_wr, nn_wr, rf_cp, ln_cp, nn_cp, ln_wf, nn_wf, rd_wf, nn_nw]
  try rfl)
theorem cc_240 (h : am_H) (x0 x1 x2 x3 : Int) : CC 240 [(22, x0), (0, x1), (0, x2), (0, x3)] h = Mo_sizeAt h x0 x1 x2 x3 := cc_of pk_240 _ h
set_option maxRecDepth 20000 in
theorem pk_241 : am_prog 241 = some cd_241 := rfl
theorem bk_241_0 : bk_ am_prog 241 0 = some ([true, true, true, true], (bl_241_0, 9999)) := bk_of pk_241 rfl
theorem Mo_faceAt_e (h : am_H) (x0 x1 x2 x3 : Int) : Mo_faceAt h x0 x1 x2 x3 = ck_ (0 ≤ x0) (ck_ (0 ≤ x0) (bd_ (Mo_plateAt h x0 x1 x2 x3) fun h1 v2 => ck_ (0 ≤ (rf_ h x0 55)) (ck_ (0 ≤ (w32 ((w32 (20 * x1)) + v2)) ∧ (w32 ((w32 (20 * x1)) + v2)) < ln_ h1 (rf_ h x0 55)) (some (h1, rd_ h1 (rf_ h x0 55) (w32 ((w32 (20 * x1)) + v2))))))) := (ff_of bk_241_0 [(22, x0), (0, x1), (0, x2), (0, x3)] [] h).trans (by
  show (ck_ (0 ≤ x0) (ck_ (0 ≤ x0) (bd_ (CC 239 [(22, x0), (0, x1), (0, x2), (0, x3)] h) fun h1 v2 => ck_ (0 ≤ (rf_ h x0 55)) (ck_ (0 ≤ (w32 ((w32 (20 * x1)) + v2)) ∧ (w32 ((w32 (20 * x1)) + v2)) < ln_ h1 (rf_ h x0 55)) (some (h1, rd_ h1 (rf_ h x0 55) (w32 ((w32 (20 * x1)) + v2)))))))) = _
  simp only [cc_239, ck_or1, ck_or2, rf_wr, ln_wr, nn_wr, rf_cp, ln_cp, nn_cp, ln_wf, nn_wf, rd_wf, nn_nw]
  try rfl)
theorem cc_241 (h : am_H) (x0 x1 x2 x3 : Int) : CC 241 [(22, x0), (0, x1), (0, x2), (0, x3)] h = Mo_faceAt h x0 x1 x2 x3 := cc_of pk_241 _ h
set_option maxRecDepth 20000 in
theorem pk_242 : am_prog 242 = some cd_242 := rfl
theorem bk_242_0 : bk_ am_prog 242 0 = some ([true, true, true, false], (bl_242_0, 1)) := bk_of pk_242 rfl
theorem bk_242_1 : bk_ am_prog 242 1 = some ([true, true, true, true], (bl_242_1, 9999)) := bk_of pk_242 rfl
theorem bk_242_2 : bk_ am_prog 242 2 = some ([true, true, true, true], (bl_242_2, 9999)) := bk_of pk_242 rfl
theorem bk_242_3 : bk_ am_prog 242 3 = some ([false, false, false, false], (bl_242_3, 9999)) := bk_of pk_242 rfl
theorem bk_242_4 : bk_ am_prog 242 4 = some ([true, true, true, true], (bl_242_4, 9999)) := bk_of pk_242 rfl
theorem bk_242_5 : bk_ am_prog 242 5 = some ([false, false, false, false], (bl_242_5, 9999)) := bk_of pk_242 rfl
theorem jt_242_1 (h : am_H) (x0 x1 x2 x3 : Int) : JJ 242 1 [(22, x0), (0, x1), (0, x2), (0, x3)] [] h = Mo_isRight_1 h x0 x1 x2 x3 := jj_of bk_242_1 _ _ h
theorem Mo_isRight_e (h : am_H) (x0 x1 x2 : Int) : Mo_isRight h x0 x1 x2 = Mo_isRight_1 h x0 x1 x2 1 := (ff_of bk_242_0 [(22, x0), (0, x1), (0, x2), (9, 0)] [] h).trans (by
  show (JJ 242 1 [(22, x0), (0, x1), (0, x2), (0, 1)] [] h) = _
  simp only [jt_242_1, ck_or1, ck_or2, rf_wr, ln_wr, nn_wr, rf_cp, ln_cp, nn_cp, ln_wf, nn_wf, rd_wf, nn_nw]
  try rfl)
theorem jt_242_5 (h : am_H) (d0 d1 d2 d3 : am_V) : JJ 242 5 [d0, d1, d2, d3] [] h = some (h, 1) := (jj_of bk_242_5 _ _ h).trans (ff_of bk_242_5 [(9, 0), (9, 0), (9, 0), (9, 0)] [] h)
theorem jt_242_4 (h : am_H) (x0 x1 x2 x3 : Int) : JJ 242 4 [(22, x0), (0, x1), (0, x2), (0, x3)] [] h = Mo_isRight_1 h x0 x1 x2 (w32 (x3 + 1)) := (jj_of bk_242_4 _ _ h).trans ((ff_of bk_242_4 [(22, x0), (0, x1), (0, x2), (0, x3)] [] h).trans (by
  show (JJ 242 1 [(22, x0), (0, x1), (0, x2), (0, w32 (x3 + 1))] [] h) = _
  simp only [jt_242_1, ck_or1, ck_or2, rf_wr, ln_wr, nn_wr, rf_cp, ln_cp, nn_cp, ln_wf, nn_wf, rd_wf, nn_nw]
  try rfl))
theorem jt_242_3 (h : am_H) (d0 d1 d2 d3 : am_V) : JJ 242 3 [d0, d1, d2, d3] [] h = some (h, 0) := (jj_of bk_242_3 _ _ h).trans (ff_of bk_242_3 [(9, 0), (9, 0), (9, 0), (9, 0)] [] h)
theorem jt_242_2 (h : am_H) (x0 x1 x2 x3 : Int) : JJ 242 2 [(22, x0), (0, x1), (0, x2), (0, x3)] [] h = ck_ (0 ≤ x0) (bd_ (Mo_sizeAt h x0 x1 x2 x3) fun h1 v2 => ck_ (0 ≤ x0) (bd_ (Mo_sizeAt h1 x0 x1 x2 (w32 (x3 - 1))) fun h3 v4 => if v4 < v2 then Mo_isRight_1 h3 x0 x1 x2 (w32 (x3 + 1)) else some (h3, 0))) := (jj_of bk_242_2 _ _ h).trans ((ff_of bk_242_2 [(22, x0), (0, x1), (0, x2), (0, x3)] [] h).trans (by
  show (ck_ (0 ≤ x0) (bd_ (CC 240 [(22, x0), (0, x1), (0, x2), (0, x3)] h) fun h1 v2 => ck_ (0 ≤ x0) (bd_ (CC 240 [(22, x0), (0, x1), (0, x2), (0, w32 (x3 - 1))] h1) fun h3 v4 => if v4 < v2 then JJ 242 4 [(22, x0), (0, x1), (0, x2), (0, x3)] [] h3 else JJ 242 3 [(22, x0), (0, x1), (0, x2), (0, x3)] [] h3))) = _
  simp only [cc_240, jt_242_3, jt_242_4, ck_or1, ck_or2, rf_wr, ln_wr, nn_wr, rf_cp, ln_cp, nn_cp, ln_wf, nn_wf, rd_wf, nn_nw]
  try rfl))
theorem Mo_isRight_1_e (h : am_H) (x0 x1 x2 x3 : Int) : Mo_isRight_1 h x0 x1 x2 x3 = ck_ (0 ≤ x0) (bd_ (Mo_highOf h x0 x1 x2) fun h1 v2 => if v2 ≤ x3 then some (h1, 1) else ck_ (0 ≤ x0) (bd_ (Mo_sizeAt h1 x0 x1 x2 x3) fun h3 v4 => ck_ (0 ≤ x0) (bd_ (Mo_sizeAt h3 x0 x1 x2 (w32 (x3 - 1))) fun h5 v6 => if v6 < v4 then Mo_isRight_1 h5 x0 x1 x2 (w32 (x3 + 1)) else some (h5, 0)))) := (ff_of bk_242_1 [(22, x0), (0, x1), (0, x2), (0, x3)] [] h).trans (by
  show (ck_ (0 ≤ x0) (bd_ (CC 238 [(22, x0), (0, x1), (0, x2)] h) fun h1 v2 => if v2 ≤ x3 then JJ 242 5 [(22, x0), (0, x1), (0, x2), (0, x3)] [] h1 else JJ 242 2 [(22, x0), (0, x1), (0, x2), (0, x3)] [] h1)) = _
  simp only [cc_238, jt_242_2, jt_242_5, ck_or1, ck_or2, rf_wr, ln_wr, nn_wr, rf_cp, ln_cp, nn_cp, ln_wf, nn_wf, rd_wf, nn_nw]
  try rfl)
theorem cc_242 (h : am_H) (x0 x1 x2 : Int) : CC 242 [(22, x0), (0, x1), (0, x2)] h = Mo_isRight h x0 x1 x2 := cc_of pk_242 _ h
set_option maxRecDepth 20000 in
theorem pk_243 : am_prog 243 = some cd_243 := rfl
theorem bk_243_0 : bk_ am_prog 243 0 = some ([true, true, true, false], (bl_243_0, 1)) := bk_of pk_243 rfl
theorem bk_243_1 : bk_ am_prog 243 1 = some ([true, true, true, true], (bl_243_1, 9999)) := bk_of pk_243 rfl
theorem bk_243_2 : bk_ am_prog 243 2 = some ([true, true, true, true], (bl_243_2, 9999)) := bk_of pk_243 rfl
theorem bk_243_3 : bk_ am_prog 243 3 = some ([false, false, false, false], (bl_243_3, 9999)) := bk_of pk_243 rfl
theorem bk_243_4 : bk_ am_prog 243 4 = some ([true, true, true, true], (bl_243_4, 9999)) := bk_of pk_243 rfl
theorem bk_243_5 : bk_ am_prog 243 5 = some ([true, true, true, false], (bl_243_5, 9999)) := bk_of pk_243 rfl
theorem jt_243_1 (h : am_H) (x0 x1 x2 x3 : Int) : JJ 243 1 [(22, x0), (0, x1), (0, x2), (0, x3)] [] h = Mo_isProper_1 h x0 x1 x2 x3 := jj_of bk_243_1 _ _ h
theorem Mo_isProper_e (h : am_H) (x0 x1 x2 : Int) : Mo_isProper h x0 x1 x2 = Mo_isProper_1 h x0 x1 x2 0 := (ff_of bk_243_0 [(22, x0), (0, x1), (0, x2), (9, 0)] [] h).trans (by
  show (JJ 243 1 [(22, x0), (0, x1), (0, x2), (0, 0)] [] h) = _
  simp only [jt_243_1, ck_or1, ck_or2, rf_wr, ln_wr, nn_wr, rf_cp, ln_cp, nn_cp, ln_wf, nn_wf, rd_wf, nn_nw]
  try rfl)
theorem jt_243_5 (h : am_H) (d3 : am_V) (x0 x1 x2 : Int) : JJ 243 5 [(22, x0), (0, x1), (0, x2), d3] [] h = ck_ (0 ≤ x0) (bd_ (Mo_isRight h x0 x1 x2) fun h1 v2 => ck_ (v2 = 0 ∨ v2 = 1) (some (h1, v2))) := (jj_of bk_243_5 _ _ h).trans ((ff_of bk_243_5 [(22, x0), (0, x1), (0, x2), (9, 0)] [] h).trans (by
  show (ck_ (0 ≤ x0) (bd_ (CC 242 [(22, x0), (0, x1), (0, x2)] h) fun h1 v2 => ck_ (v2 = 0 ∨ v2 = 1) (some (h1, v2)))) = _
  simp only [cc_242, ck_or1, ck_or2, rf_wr, ln_wr, nn_wr, rf_cp, ln_cp, nn_cp, ln_wf, nn_wf, rd_wf, nn_nw]
  try rfl))
theorem jt_243_4 (h : am_H) (x0 x1 x2 x3 : Int) : JJ 243 4 [(22, x0), (0, x1), (0, x2), (0, x3)] [] h = Mo_isProper_1 h x0 x1 x2 (w32 (x3 + 1)) := (jj_of bk_243_4 _ _ h).trans ((ff_of bk_243_4 [(22, x0), (0, x1), (0, x2), (0, x3)] [] h).trans (by
  show (JJ 243 1 [(22, x0), (0, x1), (0, x2), (0, w32 (x3 + 1))] [] h) = _
  simp only [jt_243_1, ck_or1, ck_or2, rf_wr, ln_wr, nn_wr, rf_cp, ln_cp, nn_cp, ln_wf, nn_wf, rd_wf, nn_nw]
  try rfl))
theorem jt_243_3 (h : am_H) (d0 d1 d2 d3 : am_V) : JJ 243 3 [d0, d1, d2, d3] [] h = some (h, 0) := (jj_of bk_243_3 _ _ h).trans (ff_of bk_243_3 [(9, 0), (9, 0), (9, 0), (9, 0)] [] h)
theorem jt_243_2 (h : am_H) (x0 x1 x2 x3 : Int) : JJ 243 2 [(22, x0), (0, x1), (0, x2), (0, x3)] [] h = ck_ (0 ≤ x0) (bd_ (Mo_faceAt h x0 x1 x2 x3) fun h1 v2 => if v2 = 0 then Mo_isProper_1 h1 x0 x1 x2 (w32 (x3 + 1)) else some (h1, 0)) := (jj_of bk_243_2 _ _ h).trans ((ff_of bk_243_2 [(22, x0), (0, x1), (0, x2), (0, x3)] [] h).trans (by
  show (ck_ (0 ≤ x0) (bd_ (CC 241 [(22, x0), (0, x1), (0, x2), (0, x3)] h) fun h1 v2 => if v2 = 0 then JJ 243 4 [(22, x0), (0, x1), (0, x2), (0, x3)] [] h1 else JJ 243 3 [(22, x0), (0, x1), (0, x2), (0, x3)] [] h1)) = _
  simp only [cc_241, jt_243_3, jt_243_4, ck_or1, ck_or2, rf_wr, ln_wr, nn_wr, rf_cp, ln_cp, nn_cp, ln_wf, nn_wf, rd_wf, nn_nw]
  try rfl))
theorem Mo_isProper_1_e (h : am_H) (x0 x1 x2 x3 : Int) : Mo_isProper_1 h x0 x1 x2 x3 = ck_ (0 ≤ x0) (bd_ (Mo_highOf h x0 x1 x2) fun h1 v2 => if v2 ≤ x3 then ck_ (0 ≤ x0) (bd_ (Mo_isRight h1 x0 x1 x2) fun h3 v4 => ck_ (v4 = 0 ∨ v4 = 1) (some (h3, v4))) else ck_ (0 ≤ x0) (bd_ (Mo_faceAt h1 x0 x1 x2 x3) fun h5 v6 => if v6 = 0 then Mo_isProper_1 h5 x0 x1 x2 (w32 (x3 + 1)) else some (h5, 0))) := (ff_of bk_243_1 [(22, x0), (0, x1), (0, x2), (0, x3)] [] h).trans (by
  show (ck_ (0 ≤ x0) (bd_ (CC 238 [(22, x0), (0, x1), (0, x2)] h) fun h1 v2 => if v2 ≤ x3 then JJ 243 5 [(22, x0), (0, x1), (0, x2), (0, x3)] [] h1 else JJ 243 2 [(22, x0), (0, x1), (0, x2), (0, x3)] [] h1)) = _
  simp only [cc_238, jt_243_2, jt_243_5, ck_or1, ck_or2, rf_wr, ln_wr, nn_wr, rf_cp, ln_cp, nn_cp, ln_wf, nn_wf, rd_wf, nn_nw]
  try rfl)
theorem cc_243 (h : am_H) (x0 x1 x2 : Int) : CC 243 [(22, x0), (0, x1), (0, x2)] h = Mo_isProper h x0 x1 x2 := cc_of pk_243 _ h
set_option maxRecDepth 20000 in
theorem pk_244 : am_prog 244 = some cd_244 := rfl
theorem bk_244_0 : bk_ am_prog 244 0 = some ([true, true, true, true, false, false, false], (bl_244_0, 1)) := bk_of pk_244 rfl
theorem bk_244_1 : bk_ am_prog 244 1 = some ([true, true, true, true, true, true, false], (bl_244_1, 9999)) := bk_of pk_244 rfl
theorem bk_244_2 : bk_ am_prog 244 2 = some ([true, true, true, true, true, true, false], (bl_244_2, 9999)) := bk_of pk_244 rfl
theorem bk_244_3 : bk_ am_prog 244 3 = some ([true, true, true, true, true, true, true], (bl_244_3, 9999)) := bk_of pk_244 rfl
theorem bk_244_4 : bk_ am_prog 244 4 = some ([true, true, true, true, true, true, true], (bl_244_4, 9999)) := bk_of pk_244 rfl
theorem bk_244_5 : bk_ am_prog 244 5 = some ([true, true, true, true, false, true, false], (bl_244_5, 6)) := bk_of pk_244 rfl
theorem bk_244_6 : bk_ am_prog 244 6 = some ([true, true, true, true, true, true, false], (bl_244_6, 9999)) := bk_of pk_244 rfl
theorem bk_244_7 : bk_ am_prog 244 7 = some ([false, false, false, false, true, false, false], (bl_244_7, 9999)) := bk_of pk_244 rfl
theorem jt_244_1 (h : am_H) (d6 : am_V) (x0 x1 x2 x3 x4 x5 : Int) : JJ 244 1 [(22, x0), (0, x1), (0, x2), (0, x3), (0, x4), (0, x5), d6] [] h = Mo_greaterAt_1 h x0 x1 x2 x3 x4 x5 := jj_of bk_244_1 _ _ h
theorem Mo_greaterAt_e (h : am_H) (x0 x1 x2 x3 : Int) : Mo_greaterAt h x0 x1 x2 x3 = Mo_greaterAt_1 h x0 x1 x2 x3 (-1) 0 := (ff_of bk_244_0 [(22, x0), (0, x1), (0, x2), (0, x3), (9, 0), (9, 0), (9, 0)] [] h).trans (by
  show (JJ 244 1 [(22, x0), (0, x1), (0, x2), (0, x3), (0, (-1)), (0, 0), (9, 0)] [] h) = _
  simp only [jt_244_1, ck_or1, ck_or2, rf_wr, ln_wr, nn_wr, rf_cp, ln_cp, nn_cp, ln_wf, nn_wf, rd_wf, nn_nw]
  try rfl)
theorem jt_244_7 (h : am_H) (d0 d1 d2 d3 d5 d6 : am_V) (x4 : Int) : JJ 244 7 [d0, d1, d2, d3, (0, x4), d5, d6] [] h = some (h, x4) := (jj_of bk_244_7 _ _ h).trans (ff_of bk_244_7 [(9, 0), (9, 0), (9, 0), (9, 0), (0, x4), (9, 0), (9, 0)] [] h)
theorem jt_244_6 (h : am_H) (d6 : am_V) (x0 x1 x2 x3 x4 x5 : Int) : JJ 244 6 [(22, x0), (0, x1), (0, x2), (0, x3), (0, x4), (0, x5), d6] [] h = Mo_greaterAt_1 h x0 x1 x2 x3 x4 (w32 (x5 + 1)) := (jj_of bk_244_6 _ _ h).trans ((ff_of bk_244_6 [(22, x0), (0, x1), (0, x2), (0, x3), (0, x4), (0, x5), (9, 0)] [] h).trans (by
  show (JJ 244 1 [(22, x0), (0, x1), (0, x2), (0, x3), (0, x4), (0, w32 (x5 + 1)), (9, 0)] [] h) = _
  simp only [jt_244_1, ck_or1, ck_or2, rf_wr, ln_wr, nn_wr, rf_cp, ln_cp, nn_cp, ln_wf, nn_wf, rd_wf, nn_nw]
  try rfl))
theorem jt_244_5 (h : am_H) (d4 d6 : am_V) (x0 x1 x2 x3 x5 : Int) : JJ 244 5 [(22, x0), (0, x1), (0, x2), (0, x3), d4, (0, x5), d6] [] h = Mo_greaterAt_1 h x0 x1 x2 x3 x5 (w32 (x5 + 1)) := (jj_of bk_244_5 _ _ h).trans ((ff_of bk_244_5 [(22, x0), (0, x1), (0, x2), (0, x3), (9, 0), (0, x5), (9, 0)] [] h).trans (by
  show (JJ 244 6 [(22, x0), (0, x1), (0, x2), (0, x3), (0, x5), (0, x5), (9, 0)] [] h) = _
  simp only [jt_244_6, ck_or1, ck_or2, rf_wr, ln_wr, nn_wr, rf_cp, ln_cp, nn_cp, ln_wf, nn_wf, rd_wf, nn_nw]
  try rfl))
theorem jt_244_4 (h : am_H) (x0 x1 x2 x3 x4 x5 x6 : Int) : JJ 244 4 [(22, x0), (0, x1), (0, x2), (0, x3), (0, x4), (0, x5), (0, x6)] [] h = ck_ (0 ≤ x0) (bd_ (Mo_sizeAt h x0 x1 x2 x4) fun h1 v2 => if v2 ≤ x6 then Mo_greaterAt_1 h1 x0 x1 x2 x3 x4 (w32 (x5 + 1)) else Mo_greaterAt_1 h1 x0 x1 x2 x3 x5 (w32 (x5 + 1))) := (jj_of bk_244_4 _ _ h).trans ((ff_of bk_244_4 [(22, x0), (0, x1), (0, x2), (0, x3), (0, x4), (0, x5), (0, x6)] [] h).trans (by
  show (ck_ (0 ≤ x0) (bd_ (CC 240 [(22, x0), (0, x1), (0, x2), (0, x4)] h) fun h1 v2 => if v2 ≤ x6 then JJ 244 6 [(22, x0), (0, x1), (0, x2), (0, x3), (0, x4), (0, x5), (0, x6)] [] h1 else JJ 244 5 [(22, x0), (0, x1), (0, x2), (0, x3), (0, x4), (0, x5), (0, x6)] [] h1)) = _
  simp only [cc_240, jt_244_5, jt_244_6, ck_or1, ck_or2, rf_wr, ln_wr, nn_wr, rf_cp, ln_cp, nn_cp, ln_wf, nn_wf, rd_wf, nn_nw]
  try rfl))
theorem jt_244_3 (h : am_H) (x0 x1 x2 x3 x4 x5 x6 : Int) : JJ 244 3 [(22, x0), (0, x1), (0, x2), (0, x3), (0, x4), (0, x5), (0, x6)] [] h = if x4 < 0 then Mo_greaterAt_1 h x0 x1 x2 x3 x5 (w32 (x5 + 1)) else ck_ (0 ≤ x0) (bd_ (Mo_sizeAt h x0 x1 x2 x4) fun h1 v2 => if v2 ≤ x6 then Mo_greaterAt_1 h1 x0 x1 x2 x3 x4 (w32 (x5 + 1)) else Mo_greaterAt_1 h1 x0 x1 x2 x3 x5 (w32 (x5 + 1))) := (jj_of bk_244_3 _ _ h).trans ((ff_of bk_244_3 [(22, x0), (0, x1), (0, x2), (0, x3), (0, x4), (0, x5), (0, x6)] [] h).trans (by
  show (if x4 < 0 then JJ 244 5 [(22, x0), (0, x1), (0, x2), (0, x3), (0, x4), (0, x5), (0, x6)] [] h else JJ 244 4 [(22, x0), (0, x1), (0, x2), (0, x3), (0, x4), (0, x5), (0, x6)] [] h) = _
  simp only [jt_244_4, jt_244_5, ck_or1, ck_or2, rf_wr, ln_wr, nn_wr, rf_cp, ln_cp, nn_cp, ln_wf, nn_wf, rd_wf, nn_nw]
  try rfl))
theorem jt_244_2 (h : am_H) (d6 : am_V) (x0 x1 x2 x3 x4 x5 : Int) : JJ 244 2 [(22, x0), (0, x1), (0, x2), (0, x3), (0, x4), (0, x5), d6] [] h = ck_ (0 ≤ x0) (bd_ (Mo_sizeAt h x0 x1 x2 x5) fun h1 v2 => ck_ (0 ≤ x0) (bd_ (Mo_sizeAt h1 x0 x1 x2 x3) fun h3 v4 => if v2 ≤ v4 then Mo_greaterAt_1 h3 x0 x1 x2 x3 x4 (w32 (x5 + 1)) else if x4 < 0 then Mo_greaterAt_1 h3 x0 x1 x2 x3 x5 (w32 (x5 + 1)) else ck_ (0 ≤ x0) (bd_ (Mo_sizeAt h3 x0 x1 x2 x4) fun h5 v6 => if v6 ≤ v2 then Mo_greaterAt_1 h5 x0 x1 x2 x3 x4 (w32 (x5 + 1)) else Mo_greaterAt_1 h5 x0 x1 x2 x3 x5 (w32 (x5 + 1))))) := (jj_of bk_244_2 _ _ h).trans ((ff_of bk_244_2 [(22, x0), (0, x1), (0, x2), (0, x3), (0, x4), (0, x5), (9, 0)] [] h).trans (by
  show (ck_ (0 ≤ x0) (bd_ (CC 240 [(22, x0), (0, x1), (0, x2), (0, x5)] h) fun h1 v2 => ck_ (0 ≤ x0) (bd_ (CC 240 [(22, x0), (0, x1), (0, x2), (0, x3)] h1) fun h3 v4 => if v2 ≤ v4 then JJ 244 6 [(22, x0), (0, x1), (0, x2), (0, x3), (0, x4), (0, x5), (0, v2)] [] h3 else JJ 244 3 [(22, x0), (0, x1), (0, x2), (0, x3), (0, x4), (0, x5), (0, v2)] [] h3))) = _
  simp only [cc_240, jt_244_3, jt_244_6, ck_or1, ck_or2, rf_wr, ln_wr, nn_wr, rf_cp, ln_cp, nn_cp, ln_wf, nn_wf, rd_wf, nn_nw]
  try rfl))
theorem Mo_greaterAt_1_e (h : am_H) (x0 x1 x2 x3 x4 x5 : Int) : Mo_greaterAt_1 h x0 x1 x2 x3 x4 x5 = ck_ (0 ≤ x0) (bd_ (Mo_highOf h x0 x1 x2) fun h1 v2 => if v2 ≤ x5 then some (h1, x4) else ck_ (0 ≤ x0) (bd_ (Mo_sizeAt h1 x0 x1 x2 x5) fun h3 v4 => ck_ (0 ≤ x0) (bd_ (Mo_sizeAt h3 x0 x1 x2 x3) fun h5 v6 => if v4 ≤ v6 then Mo_greaterAt_1 h5 x0 x1 x2 x3 x4 (w32 (x5 + 1)) else if x4 < 0 then Mo_greaterAt_1 h5 x0 x1 x2 x3 x5 (w32 (x5 + 1)) else ck_ (0 ≤ x0) (bd_ (Mo_sizeAt h5 x0 x1 x2 x4) fun h7 v8 => if v8 ≤ v4 then Mo_greaterAt_1 h7 x0 x1 x2 x3 x4 (w32 (x5 + 1)) else Mo_greaterAt_1 h7 x0 x1 x2 x3 x5 (w32 (x5 + 1)))))) := (ff_of bk_244_1 [(22, x0), (0, x1), (0, x2), (0, x3), (0, x4), (0, x5), (9, 0)] [] h).trans (by
  show (ck_ (0 ≤ x0) (bd_ (CC 238 [(22, x0), (0, x1), (0, x2)] h) fun h1 v2 => if v2 ≤ x5 then JJ 244 7 [(22, x0), (0, x1), (0, x2), (0, x3), (0, x4), (0, x5), (9, 0)] [] h1 else JJ 244 2 [(22, x0), (0, x1), (0, x2), (0, x3), (0, x4), (0, x5), (9, 0)] [] h1)) = _
  simp only [cc_238, jt_244_2, jt_244_7, ck_or1, ck_or2, rf_wr, ln_wr, nn_wr, rf_cp, ln_cp, nn_cp, ln_wf, nn_wf, rd_wf, nn_nw]
  try rfl)
theorem cc_244 (h : am_H) (x0 x1 x2 x3 : Int) : CC 244 [(22, x0), (0, x1), (0, x2), (0, x3)] h = Mo_greaterAt h x0 x1 x2 x3 := cc_of pk_244 _ h
set_option maxRecDepth 20000 in
theorem pk_245 : am_prog 245 = some cd_245 := rfl
theorem bk_245_0 : bk_ am_prog 245 0 = some ([true, true, true, false, false, false, false], (bl_245_0, 1)) := bk_of pk_245 rfl
theorem bk_245_1 : bk_ am_prog 245 1 = some ([true, true, true, true, true, false, false], (bl_245_1, 9999)) := bk_of pk_245 rfl
theorem bk_245_2 : bk_ am_prog 245 2 = some ([true, true, true, true, true, false, false], (bl_245_2, 9999)) := bk_of pk_245 rfl
theorem bk_245_3 : bk_ am_prog 245 3 = some ([true, true, true, true, true, false, false], (bl_245_3, 9999)) := bk_of pk_245 rfl
theorem bk_245_4 : bk_ am_prog 245 4 = some ([true, true, true, true, true, false, false], (bl_245_4, 9999)) := bk_of pk_245 rfl
theorem bk_245_5 : bk_ am_prog 245 5 = some ([true, true, true, true, true, false, false], (bl_245_5, 9999)) := bk_of pk_245 rfl
theorem bk_245_6 : bk_ am_prog 245 6 = some ([true, true, true, true, true, true, false], (bl_245_6, 9999)) := bk_of pk_245 rfl
theorem bk_245_7 : bk_ am_prog 245 7 = some ([true, true, true, true, true, true, false], (bl_245_7, 9999)) := bk_of pk_245 rfl
theorem bk_245_8 : bk_ am_prog 245 8 = some ([true, true, true, true, true, false, false], (bl_245_8, 9999)) := bk_of pk_245 rfl
theorem bk_245_9 : bk_ am_prog 245 9 = some ([true, true, true, true, true, false, false], (bl_245_9, 10)) := bk_of pk_245 rfl
theorem bk_245_10 : bk_ am_prog 245 10 = some ([true, true, true, true, true, false, false], (bl_245_10, 9999)) := bk_of pk_245 rfl
theorem bk_245_11 : bk_ am_prog 245 11 = some ([true, true, true, false, true, false, false], (bl_245_11, 9999)) := bk_of pk_245 rfl
theorem bk_245_12 : bk_ am_prog 245 12 = some ([true, true, true, false, true, false, false], (bl_245_12, 13)) := bk_of pk_245 rfl
theorem bk_245_13 : bk_ am_prog 245 13 = some ([true, true, true, false, true, false, false], (bl_245_13, 9999)) := bk_of pk_245 rfl
theorem bk_245_14 : bk_ am_prog 245 14 = some ([false, false, false, true, false, false, false], (bl_245_14, 9999)) := bk_of pk_245 rfl
theorem jt_245_1 (h : am_H) (d5 d6 : am_V) (x0 x1 x2 x3 x4 : Int) : JJ 245 1 [(22, x0), (0, x1), (0, x2), (0, x3), (0, x4), d5, d6] [] h = Mo_gapsOf_1 h x0 x1 x2 x3 x4 := jj_of bk_245_1 _ _ h
theorem jt_245_10 (h : am_H) (d5 d6 : am_V) (x0 x1 x2 x3 x4 s0 : Int) : JJ 245 10 [(22, x0), (0, x1), (0, x2), (0, x3), (0, x4), d5, d6] [(0, s0)] h = Mo_gapsOf_10 h x0 x1 x2 x3 x4 s0 := jj_of bk_245_10 _ _ h
theorem Mo_gapsOf_e (h : am_H) (x0 x1 x2 : Int) : Mo_gapsOf h x0 x1 x2 = Mo_gapsOf_1 h x0 x1 x2 0 0 := (ff_of bk_245_0 [(22, x0), (0, x1), (0, x2), (9, 0), (9, 0), (9, 0), (9, 0)] [] h).trans (by
  show (JJ 245 1 [(22, x0), (0, x1), (0, x2), (0, 0), (0, 0), (9, 0), (9, 0)] [] h) = _
  simp only [jt_245_1, ck_or1, ck_or2, rf_wr, ln_wr, nn_wr, rf_cp, ln_cp, nn_cp, ln_wf, nn_wf, rd_wf, nn_nw]
  try rfl)
theorem jt_245_14 (h : am_H) (d0 d1 d2 d4 d5 d6 : am_V) (x3 : Int) : JJ 245 14 [d0, d1, d2, (0, x3), d4, d5, d6] [] h = some (h, x3) := (jj_of bk_245_14 _ _ h).trans (ff_of bk_245_14 [(9, 0), (9, 0), (9, 0), (0, x3), (9, 0), (9, 0), (9, 0)] [] h)
theorem jt_245_9 (h : am_H) (d5 d6 : am_V) (x0 x1 x2 x3 x4 : Int) : JJ 245 9 [(22, x0), (0, x1), (0, x2), (0, x3), (0, x4), d5, d6] [] h = Mo_gapsOf_10 h x0 x1 x2 x3 x4 0 := (jj_of bk_245_9 _ _ h).trans ((ff_of bk_245_9 [(22, x0), (0, x1), (0, x2), (0, x3), (0, x4), (9, 0), (9, 0)] [] h).trans (by
  show (JJ 245 10 [(22, x0), (0, x1), (0, x2), (0, x3), (0, x4), (9, 0), (9, 0)] [(0, 0)] h) = _
  simp only [jt_245_10, ck_or1, ck_or2, rf_wr, ln_wr, nn_wr, rf_cp, ln_cp, nn_cp, ln_wf, nn_wf, rd_wf, nn_nw]
  try rfl))
theorem jt_245_8 (h : am_H) (d5 d6 : am_V) (x0 x1 x2 x3 x4 : Int) : JJ 245 8 [(22, x0), (0, x1), (0, x2), (0, x3), (0, x4), d5, d6] [] h = Mo_gapsOf_10 h x0 x1 x2 x3 x4 1 := (jj_of bk_245_8 _ _ h).trans ((ff_of bk_245_8 [(22, x0), (0, x1), (0, x2), (0, x3), (0, x4), (9, 0), (9, 0)] [] h).trans (by
  show (JJ 245 10 [(22, x0), (0, x1), (0, x2), (0, x3), (0, x4), (9, 0), (9, 0)] [(0, 1)] h) = _
  simp only [jt_245_10, ck_or1, ck_or2, rf_wr, ln_wr, nn_wr, rf_cp, ln_cp, nn_cp, ln_wf, nn_wf, rd_wf, nn_nw]
  try rfl))
theorem jt_245_7 (h : am_H) (d6 : am_V) (x0 x1 x2 x3 x4 x5 : Int) : JJ 245 7 [(22, x0), (0, x1), (0, x2), (0, x3), (0, x4), (0, x5), d6] [] h = if x5 = (w32 (x4 + 1)) then Mo_gapsOf_10 h x0 x1 x2 x3 x4 0 else Mo_gapsOf_10 h x0 x1 x2 x3 x4 1 := (jj_of bk_245_7 _ _ h).trans ((ff_of bk_245_7 [(22, x0), (0, x1), (0, x2), (0, x3), (0, x4), (0, x5), (9, 0)] [] h).trans (by
  show (if x5 = (w32 (x4 + 1)) then JJ 245 9 [(22, x0), (0, x1), (0, x2), (0, x3), (0, x4), (0, x5), (9, 0)] [] h else JJ 245 8 [(22, x0), (0, x1), (0, x2), (0, x3), (0, x4), (0, x5), (9, 0)] [] h) = _
  simp only [jt_245_8, jt_245_9, ck_or1, ck_or2, rf_wr, ln_wr, nn_wr, rf_cp, ln_cp, nn_cp, ln_wf, nn_wf, rd_wf, nn_nw]
  try rfl))
theorem jt_245_6 (h : am_H) (d6 : am_V) (x0 x1 x2 x3 x4 x5 : Int) : JJ 245 6 [(22, x0), (0, x1), (0, x2), (0, x3), (0, x4), (0, x5), d6] [] h = if x5 = (w32 (x4 - 1)) then Mo_gapsOf_10 h x0 x1 x2 x3 x4 0 else if x5 = (w32 (x4 + 1)) then Mo_gapsOf_10 h x0 x1 x2 x3 x4 0 else Mo_gapsOf_10 h x0 x1 x2 x3 x4 1 := (jj_of bk_245_6 _ _ h).trans ((ff_of bk_245_6 [(22, x0), (0, x1), (0, x2), (0, x3), (0, x4), (0, x5), (9, 0)] [] h).trans (by
  show (if x5 = (w32 (x4 - 1)) then JJ 245 9 [(22, x0), (0, x1), (0, x2), (0, x3), (0, x4), (0, x5), (9, 0)] [] h else JJ 245 7 [(22, x0), (0, x1), (0, x2), (0, x3), (0, x4), (0, x5), (9, 0)] [] h) = _
  simp only [jt_245_7, jt_245_9, ck_or1, ck_or2, rf_wr, ln_wr, nn_wr, rf_cp, ln_cp, nn_cp, ln_wf, nn_wf, rd_wf, nn_nw]
  try rfl))
theorem jt_245_5 (h : am_H) (d5 d6 : am_V) (x0 x1 x2 x3 x4 : Int) : JJ 245 5 [(22, x0), (0, x1), (0, x2), (0, x3), (0, x4), d5, d6] [] h = Mo_gapsOf_10 h x0 x1 x2 x3 x4 0 := (jj_of bk_245_5 _ _ h).trans ((ff_of bk_245_5 [(22, x0), (0, x1), (0, x2), (0, x3), (0, x4), (9, 0), (9, 0)] [] h).trans (by
  show (JJ 245 10 [(22, x0), (0, x1), (0, x2), (0, x3), (0, x4), (9, 0), (9, 0)] [(0, 0)] h) = _
  simp only [jt_245_10, ck_or1, ck_or2, rf_wr, ln_wr, nn_wr, rf_cp, ln_cp, nn_cp, ln_wf, nn_wf, rd_wf, nn_nw]
  try rfl))
theorem jt_245_4 (h : am_H) (d5 d6 : am_V) (x0 x1 x2 x3 x4 : Int) : JJ 245 4 [(22, x0), (0, x1), (0, x2), (0, x3), (0, x4), d5, d6] [] h = Mo_gapsOf_10 h x0 x1 x2 x3 x4 1 := (jj_of bk_245_4 _ _ h).trans ((ff_of bk_245_4 [(22, x0), (0, x1), (0, x2), (0, x3), (0, x4), (9, 0), (9, 0)] [] h).trans (by
  show (JJ 245 10 [(22, x0), (0, x1), (0, x2), (0, x3), (0, x4), (9, 0), (9, 0)] [(0, 1)] h) = _
  simp only [jt_245_10, ck_or1, ck_or2, rf_wr, ln_wr, nn_wr, rf_cp, ln_cp, nn_cp, ln_wf, nn_wf, rd_wf, nn_nw]
  try rfl))
theorem jt_245_3 (h : am_H) (d5 d6 : am_V) (x0 x1 x2 x3 x4 : Int) : JJ 245 3 [(22, x0), (0, x1), (0, x2), (0, x3), (0, x4), d5, d6] [] h = ck_ (0 ≤ x0) (bd_ (Mo_highOf h x0 x1 x2) fun h1 v2 => if x4 = (w32 (v2 - 1)) then Mo_gapsOf_10 h1 x0 x1 x2 x3 x4 0 else Mo_gapsOf_10 h1 x0 x1 x2 x3 x4 1) := (jj_of bk_245_3 _ _ h).trans ((ff_of bk_245_3 [(22, x0), (0, x1), (0, x2), (0, x3), (0, x4), (9, 0), (9, 0)] [] h).trans (by
  show (ck_ (0 ≤ x0) (bd_ (CC 238 [(22, x0), (0, x1), (0, x2)] h) fun h1 v2 => if x4 = (w32 (v2 - 1)) then JJ 245 5 [(22, x0), (0, x1), (0, x2), (0, x3), (0, x4), (9, 0), (9, 0)] [] h1 else JJ 245 4 [(22, x0), (0, x1), (0, x2), (0, x3), (0, x4), (9, 0), (9, 0)] [] h1)) = _
  simp only [cc_238, jt_245_4, jt_245_5, ck_or1, ck_or2, rf_wr, ln_wr, nn_wr, rf_cp, ln_cp, nn_cp, ln_wf, nn_wf, rd_wf, nn_nw]
  try rfl))
theorem jt_245_2 (h : am_H) (d5 d6 : am_V) (x0 x1 x2 x3 x4 : Int) : JJ 245 2 [(22, x0), (0, x1), (0, x2), (0, x3), (0, x4), d5, d6] [] h = ck_ (0 ≤ x0) (bd_ (Mo_greaterAt h x0 x1 x2 x4) fun h1 v2 => if 0 ≤ v2 then (if v2 = (w32 (x4 - 1)) then Mo_gapsOf_10 h1 x0 x1 x2 x3 x4 0 else if v2 = (w32 (x4 + 1)) then Mo_gapsOf_10 h1 x0 x1 x2 x3 x4 0 else Mo_gapsOf_10 h1 x0 x1 x2 x3 x4 1) else ck_ (0 ≤ x0) (bd_ (Mo_highOf h1 x0 x1 x2) fun h3 v4 => if x4 = (w32 (v4 - 1)) then Mo_gapsOf_10 h3 x0 x1 x2 x3 x4 0 else Mo_gapsOf_10 h3 x0 x1 x2 x3 x4 1)) := (jj_of bk_245_2 _ _ h).trans ((ff_of bk_245_2 [(22, x0), (0, x1), (0, x2), (0, x3), (0, x4), (9, 0), (9, 0)] [] h).trans (by
  show (ck_ (0 ≤ x0) (bd_ (CC 244 [(22, x0), (0, x1), (0, x2), (0, x4)] h) fun h1 v2 => if 0 ≤ v2 then JJ 245 6 [(22, x0), (0, x1), (0, x2), (0, x3), (0, x4), (0, v2), (9, 0)] [] h1 else JJ 245 3 [(22, x0), (0, x1), (0, x2), (0, x3), (0, x4), (0, v2), (9, 0)] [] h1)) = _
  simp only [cc_244, jt_245_3, jt_245_6, ck_or1, ck_or2, rf_wr, ln_wr, nn_wr, rf_cp, ln_cp, nn_cp, ln_wf, nn_wf, rd_wf, nn_nw]
  try rfl))
theorem Mo_gapsOf_1_e (h : am_H) (x0 x1 x2 x3 x4 : Int) : Mo_gapsOf_1 h x0 x1 x2 x3 x4 = ck_ (0 ≤ x0) (bd_ (Mo_highOf h x0 x1 x2) fun h1 v2 => if v2 ≤ x4 then some (h1, x3) else ck_ (0 ≤ x0) (bd_ (Mo_greaterAt h1 x0 x1 x2 x4) fun h3 v4 => if 0 ≤ v4 then (if v4 = (w32 (x4 - 1)) then Mo_gapsOf_10 h3 x0 x1 x2 x3 x4 0 else if v4 = (w32 (x4 + 1)) then Mo_gapsOf_10 h3 x0 x1 x2 x3 x4 0 else Mo_gapsOf_10 h3 x0 x1 x2 x3 x4 1) else ck_ (0 ≤ x0) (bd_ (Mo_highOf h3 x0 x1 x2) fun h5 v6 => if x4 = (w32 (v6 - 1)) then Mo_gapsOf_10 h5 x0 x1 x2 x3 x4 0 else Mo_gapsOf_10 h5 x0 x1 x2 x3 x4 1))) := (ff_of bk_245_1 [(22, x0), (0, x1), (0, x2), (0, x3), (0, x4), (9, 0), (9, 0)] [] h).trans (by
  show (ck_ (0 ≤ x0) (bd_ (CC 238 [(22, x0), (0, x1), (0, x2)] h) fun h1 v2 => if v2 ≤ x4 then JJ 245 14 [(22, x0), (0, x1), (0, x2), (0, x3), (0, x4), (9, 0), (9, 0)] [] h1 else JJ 245 2 [(22, x0), (0, x1), (0, x2), (0, x3), (0, x4), (9, 0), (9, 0)] [] h1)) = _
  simp only [cc_238, jt_245_14, jt_245_2, ck_or1, ck_or2, rf_wr, ln_wr, nn_wr, rf_cp, ln_cp, nn_cp, ln_wf, nn_wf, rd_wf, nn_nw]
  try rfl)
theorem jt_245_13 (h : am_H) (d3 d5 d6 : am_V) (x0 x1 x2 x4 s0 s1 : Int) : JJ 245 13 [(22, x0), (0, x1), (0, x2), d3, (0, x4), d5, d6] [(0, s0), (0, s1)] h = Mo_gapsOf_1 h x0 x1 x2 (w32 (s1 + s0)) (w32 (x4 + 1)) := (jj_of bk_245_13 _ _ h).trans ((ff_of bk_245_13 [(22, x0), (0, x1), (0, x2), (9, 0), (0, x4), (9, 0), (9, 0)] [(0, s0), (0, s1)] h).trans (by
  show (JJ 245 1 [(22, x0), (0, x1), (0, x2), (0, w32 (s1 + s0)), (0, w32 (x4 + 1)), (9, 0), (9, 0)] [] h) = _
  simp only [jt_245_1, ck_or1, ck_or2, rf_wr, ln_wr, nn_wr, rf_cp, ln_cp, nn_cp, ln_wf, nn_wf, rd_wf, nn_nw]
  try rfl))
theorem jt_245_12 (h : am_H) (d3 d5 d6 : am_V) (x0 x1 x2 x4 s0 : Int) : JJ 245 12 [(22, x0), (0, x1), (0, x2), d3, (0, x4), d5, d6] [(0, s0)] h = Mo_gapsOf_1 h x0 x1 x2 (w32 (s0 + 0)) (w32 (x4 + 1)) := (jj_of bk_245_12 _ _ h).trans ((ff_of bk_245_12 [(22, x0), (0, x1), (0, x2), (9, 0), (0, x4), (9, 0), (9, 0)] [(0, s0)] h).trans (by
  show (JJ 245 13 [(22, x0), (0, x1), (0, x2), (9, 0), (0, x4), (9, 0), (9, 0)] [(0, 0), (0, s0)] h) = _
  simp only [jt_245_13, ck_or1, ck_or2, rf_wr, ln_wr, nn_wr, rf_cp, ln_cp, nn_cp, ln_wf, nn_wf, rd_wf, nn_nw]
  try rfl))
theorem jt_245_11 (h : am_H) (d3 d5 d6 : am_V) (x0 x1 x2 x4 s0 : Int) : JJ 245 11 [(22, x0), (0, x1), (0, x2), d3, (0, x4), d5, d6] [(0, s0)] h = Mo_gapsOf_1 h x0 x1 x2 (w32 (s0 + 1)) (w32 (x4 + 1)) := (jj_of bk_245_11 _ _ h).trans ((ff_of bk_245_11 [(22, x0), (0, x1), (0, x2), (9, 0), (0, x4), (9, 0), (9, 0)] [(0, s0)] h).trans (by
  show (JJ 245 13 [(22, x0), (0, x1), (0, x2), (9, 0), (0, x4), (9, 0), (9, 0)] [(0, 1), (0, s0)] h) = _
  simp only [jt_245_13, ck_or1, ck_or2, rf_wr, ln_wr, nn_wr, rf_cp, ln_cp, nn_cp, ln_wf, nn_wf, rd_wf, nn_nw]
  try rfl))
theorem Mo_gapsOf_10_e (h : am_H) (x0 x1 x2 x3 x4 s0 : Int) : Mo_gapsOf_10 h x0 x1 x2 x3 x4 s0 = if s0 = 0 then Mo_gapsOf_1 h x0 x1 x2 (w32 (x3 + 0)) (w32 (x4 + 1)) else Mo_gapsOf_1 h x0 x1 x2 (w32 (x3 + 1)) (w32 (x4 + 1)) := (ff_of bk_245_10 [(22, x0), (0, x1), (0, x2), (0, x3), (0, x4), (9, 0), (9, 0)] [(0, s0)] h).trans (by
  show (if s0 = 0 then JJ 245 12 [(22, x0), (0, x1), (0, x2), (0, x3), (0, x4), (9, 0), (0, s0)] [(0, x3)] h else JJ 245 11 [(22, x0), (0, x1), (0, x2), (0, x3), (0, x4), (9, 0), (0, s0)] [(0, x3)] h) = _
  simp only [jt_245_11, jt_245_12, ck_or1, ck_or2, rf_wr, ln_wr, nn_wr, rf_cp, ln_cp, nn_cp, ln_wf, nn_wf, rd_wf, nn_nw]
  try rfl)
theorem cc_245 (h : am_H) (x0 x1 x2 : Int) : CC 245 [(22, x0), (0, x1), (0, x2)] h = Mo_gapsOf h x0 x1 x2 := cc_of pk_245 _ h
set_option maxRecDepth 20000 in
theorem pk_246 : am_prog 246 = some cd_246 := rfl
theorem bk_246_0 : bk_ am_prog 246 0 = some ([true, true, true, true, false, false, false], (bl_246_0, 1)) := bk_of pk_246 rfl
theorem bk_246_1 : bk_ am_prog 246 1 = some ([true, true, true, true, true, true, false], (bl_246_1, 9999)) := bk_of pk_246 rfl
theorem bk_246_2 : bk_ am_prog 246 2 = some ([true, true, true, true, true, true, false], (bl_246_2, 9999)) := bk_of pk_246 rfl
theorem bk_246_3 : bk_ am_prog 246 3 = some ([true, true, true, true, true, false, false], (bl_246_3, 4)) := bk_of pk_246 rfl
theorem bk_246_4 : bk_ am_prog 246 4 = some ([true, true, true, true, true, true, false], (bl_246_4, 9999)) := bk_of pk_246 rfl
theorem bk_246_5 : bk_ am_prog 246 5 = some ([true, true, true, true, true, true, false], (bl_246_5, 9999)) := bk_of pk_246 rfl
theorem bk_246_6 : bk_ am_prog 246 6 = some ([true, true, true, false, false, false, false], (bl_246_6, 9999)) := bk_of pk_246 rfl
theorem jt_246_1 (h : am_H) (d6 : am_V) (x0 x1 x2 x3 x4 x5 : Int) : JJ 246 1 [(22, x0), (0, x1), (0, x2), (0, x3), (0, x4), (0, x5), d6] [] h = Mo_turnsBy_1 h x0 x1 x2 x3 x4 x5 := jj_of bk_246_1 _ _ h
theorem jt_246_4 (h : am_H) (d6 : am_V) (x0 x1 x2 x3 x4 x5 : Int) : JJ 246 4 [(22, x0), (0, x1), (0, x2), (0, x3), (0, x4), (0, x5), d6] [] h = Mo_turnsBy_4 h x0 x1 x2 x3 x4 x5 := jj_of bk_246_4 _ _ h
theorem Mo_turnsBy_e (h : am_H) (x0 x1 x2 x3 : Int) : Mo_turnsBy h x0 x1 x2 x3 = Mo_turnsBy_1 h x0 x1 x2 x3 (w32 ((w32 (20 * x1)) + (w32 (5 * x2)))) 0 := (ff_of bk_246_0 [(22, x0), (0, x1), (0, x2), (0, x3), (9, 0), (9, 0), (9, 0)] [] h).trans (by
  show (JJ 246 1 [(22, x0), (0, x1), (0, x2), (0, x3), (0, w32 ((w32 (20 * x1)) + (w32 (5 * x2)))), (0, 0), (9, 0)] [] h) = _
  simp only [jt_246_1, ck_or1, ck_or2, rf_wr, ln_wr, nn_wr, rf_cp, ln_cp, nn_cp, ln_wf, nn_wf, rd_wf, nn_nw]
  try rfl)
theorem jt_246_3 (h : am_H) (d5 d6 : am_V) (x0 x1 x2 x3 x4 : Int) : JJ 246 3 [(22, x0), (0, x1), (0, x2), (0, x3), (0, x4), d5, d6] [] h = Mo_turnsBy_4 h x0 x1 x2 x3 x4 0 := (jj_of bk_246_3 _ _ h).trans ((ff_of bk_246_3 [(22, x0), (0, x1), (0, x2), (0, x3), (0, x4), (9, 0), (9, 0)] [] h).trans (by
  show (JJ 246 4 [(22, x0), (0, x1), (0, x2), (0, x3), (0, x4), (0, 0), (9, 0)] [] h) = _
  simp only [jt_246_4, ck_or1, ck_or2, rf_wr, ln_wr, nn_wr, rf_cp, ln_cp, nn_cp, ln_wf, nn_wf, rd_wf, nn_nw]
  try rfl))
set_option maxRecDepth 20000 in
theorem jt_246_2 (h : am_H) (d6 : am_V) (x0 x1 x2 x3 x4 x5 : Int) : JJ 246 2 [(22, x0), (0, x1), (0, x2), (0, x3), (0, x4), (0, x5), d6] [] h = ck_ (0 ≤ x0) (ck_ (0 ≤ x0) (ck_ (0 ≤ (rf_ h x0 53)) (ck_ (0 ≤ (w32 (x4 + x5)) ∧ (w32 (x4 + x5)) < ln_ h (rf_ h x0 53)) (ck_ (0 ≤ x0) (ck_ (0 ≤ x0) (ck_ (0 ≤ (rf_ h x0 53)) (ck_ (0 ≤ (w32 (x4 + x5)) ∧ (w32 (x4 + x5)) < ln_ h (rf_ h x0 53)) (ck_ (0 ≤ (rf_ h x0 55)) (ck_ (0 ≤ (w32 ((w32 (20 * x1)) + (rd_ h (rf_ h x0 53) (w32 (x4 + x5))))) ∧ (w32 ((w32 (20 * x1)) + (rd_ h (rf_ h x0 53) (w32 (x4 + x5))))) < ln_ h (rf_ h x0 55)) (ck_ (0 ≤ (rf_ h x0 55)) (ck_ (0 ≤ (w32 ((w32 (20 * x1)) + (rd_ h (rf_ h x0 53) (w32 (x4 + x5))))) ∧ (w32 ((w32 (20 * x1)) + (rd_ h (rf_ h x0 53) (w32 (x4 + x5))))) < ln_ h (rf_ h x0 55)) (Mo_turnsBy_1 (wr_ h (rf_ h x0 55) (w32 ((w32 (20 * x1)) + (rd_ h (rf_ h x0 53) (w32 (x4 + x5))))) (w32 (1 - (rd_ h (rf_ h x0 55) (w32 ((w32 (20 * x1)) + (rd_ h (rf_ h x0 53) (w32 (x4 + x5))))))))) x0 x1 x2 x3 x4 (w32 (x5 + 1)))))))))))))) := (jj_of bk_246_2 _ _ h).trans ((ff_of bk_246_2 [(22, x0), (0, x1), (0, x2), (0, x3), (0, x4), (0, x5), (9, 0)] [] h).trans (by
  show (ck_ (0 ≤ x0) (ck_ (0 ≤ x0) (ck_ (0 ≤ (rf_ h x0 53)) (ck_ (0 ≤ (w32 (x4 + x5)) ∧ (w32 (x4 + x5)) < ln_ h (rf_ h x0 53)) (ck_ (0 ≤ x0) (ck_ (0 ≤ x0) (ck_ (0 ≤ (rf_ h x0 53)) (ck_ (0 ≤ (w32 (x4 + x5)) ∧ (w32 (x4 + x5)) < ln_ h (rf_ h x0 53)) (ck_ (0 ≤ (rf_ h x0 55)) (ck_ (0 ≤ (w32 ((w32 (20 * x1)) + (rd_ h (rf_ h x0 53) (w32 (x4 + x5))))) ∧ (w32 ((w32 (20 * x1)) + (rd_ h (rf_ h x0 53) (w32 (x4 + x5))))) < ln_ h (rf_ h x0 55)) (ck_ (0 ≤ (rf_ h x0 55)) (ck_ (0 ≤ (w32 ((w32 (20 * x1)) + (rd_ h (rf_ h x0 53) (w32 (x4 + x5))))) ∧ (w32 ((w32 (20 * x1)) + (rd_ h (rf_ h x0 53) (w32 (x4 + x5))))) < ln_ h (rf_ h x0 55)) (JJ 246 1 [(22, x0), (0, x1), (0, x2), (0, x3), (0, x4), (0, w32 (x5 + 1)), (9, 0)] [] (wr_ h (rf_ h x0 55) (w32 ((w32 (20 * x1)) + (rd_ h (rf_ h x0 53) (w32 (x4 + x5))))) (w32 (1 - (rd_ h (rf_ h x0 55) (w32 ((w32 (20 * x1)) + (rd_ h (rf_ h x0 53) (w32 (x4 + x5)))))))))))))))))))))) = _
  simp only [jt_246_1, ck_or1, ck_or2, rf_wr, ln_wr, nn_wr, rf_cp, ln_cp, nn_cp, ln_wf, nn_wf, rd_wf, nn_nw]
  try rfl))
set_option maxRecDepth 20000 in
theorem Mo_turnsBy_1_e (h : am_H) (x0 x1 x2 x3 x4 x5 : Int) : Mo_turnsBy_1 h x0 x1 x2 x3 x4 x5 = if x3 ≤ x5 then Mo_turnsBy_4 h x0 x1 x2 x3 x4 0 else ck_ (0 ≤ x0) (ck_ (0 ≤ x0) (ck_ (0 ≤ (rf_ h x0 53)) (ck_ (0 ≤ (w32 (x4 + x5)) ∧ (w32 (x4 + x5)) < ln_ h (rf_ h x0 53)) (ck_ (0 ≤ x0) (ck_ (0 ≤ x0) (ck_ (0 ≤ (rf_ h x0 53)) (ck_ (0 ≤ (w32 (x4 + x5)) ∧ (w32 (x4 + x5)) < ln_ h (rf_ h x0 53)) (ck_ (0 ≤ (rf_ h x0 55)) (ck_ (0 ≤ (w32 ((w32 (20 * x1)) + (rd_ h (rf_ h x0 53) (w32 (x4 + x5))))) ∧ (w32 ((w32 (20 * x1)) + (rd_ h (rf_ h x0 53) (w32 (x4 + x5))))) < ln_ h (rf_ h x0 55)) (ck_ (0 ≤ (rf_ h x0 55)) (ck_ (0 ≤ (w32 ((w32 (20 * x1)) + (rd_ h (rf_ h x0 53) (w32 (x4 + x5))))) ∧ (w32 ((w32 (20 * x1)) + (rd_ h (rf_ h x0 53) (w32 (x4 + x5))))) < ln_ h (rf_ h x0 55)) (Mo_turnsBy_1 (wr_ h (rf_ h x0 55) (w32 ((w32 (20 * x1)) + (rd_ h (rf_ h x0 53) (w32 (x4 + x5))))) (w32 (1 - (rd_ h (rf_ h x0 55) (w32 ((w32 (20 * x1)) + (rd_ h (rf_ h x0 53) (w32 (x4 + x5))))))))) x0 x1 x2 x3 x4 (w32 (x5 + 1)))))))))))))) := (ff_of bk_246_1 [(22, x0), (0, x1), (0, x2), (0, x3), (0, x4), (0, x5), (9, 0)] [] h).trans (by
  show (if x3 ≤ x5 then JJ 246 3 [(22, x0), (0, x1), (0, x2), (0, x3), (0, x4), (0, x5), (9, 0)] [] h else JJ 246 2 [(22, x0), (0, x1), (0, x2), (0, x3), (0, x4), (0, x5), (9, 0)] [] h) = _
  simp only [jt_246_2, jt_246_3, ck_or1, ck_or2, rf_wr, ln_wr, nn_wr, rf_cp, ln_cp, nn_cp, ln_wf, nn_wf, rd_wf, nn_nw]
  try rfl)
theorem jt_246_6 (h : am_H) (d3 d4 d5 d6 : am_V) (x0 x1 x2 : Int) : JJ 246 6 [(22, x0), (0, x1), (0, x2), d3, d4, d5, d6] [] h = ck_ (0 ≤ x0) (ck_ (0 ≤ (rf_ h x0 54)) (ck_ (0 ≤ (w32 ((w32 (4 * x1)) + x2)) ∧ (w32 ((w32 (4 * x1)) + x2)) < ln_ h (rf_ h x0 54)) (ck_ (0 ≤ (rf_ h x0 54)) (ck_ (0 ≤ (w32 ((w32 (4 * x1)) + x2)) ∧ (w32 ((w32 (4 * x1)) + x2)) < ln_ h (rf_ h x0 54)) (some (wr_ h (rf_ h x0 54) (w32 ((w32 (4 * x1)) + x2)) (w32 ((rd_ h (rf_ h x0 54) (w32 ((w32 (4 * x1)) + x2))) + 1)), 0)))))) := (jj_of bk_246_6 _ _ h).trans (ff_of bk_246_6 [(22, x0), (0, x1), (0, x2), (9, 0), (9, 0), (9, 0), (9, 0)] [] h)
set_option maxRecDepth 20000 in
theorem jt_246_5 (h : am_H) (d6 : am_V) (x0 x1 x2 x3 x4 x5 : Int) : JJ 246 5 [(22, x0), (0, x1), (0, x2), (0, x3), (0, x4), (0, x5), d6] [] h = ck_ (0 ≤ x0) (ck_ (0 ≤ (rf_ h x0 53)) (ck_ (0 ≤ (w32 (x4 + x5)) ∧ (w32 (x4 + x5)) < ln_ h (rf_ h x0 53)) (ck_ (0 ≤ x0) (ck_ (0 ≤ x0) (ck_ (0 ≤ (rf_ h x0 53)) (ck_ (0 ≤ (w32 ((w32 ((w32 (x4 + x3)) - 1)) - x5)) ∧ (w32 ((w32 ((w32 (x4 + x3)) - 1)) - x5)) < ln_ h (rf_ h x0 53)) (ck_ (0 ≤ (rf_ h x0 53)) (ck_ (0 ≤ (w32 (x4 + x5)) ∧ (w32 (x4 + x5)) < ln_ h (rf_ h x0 53)) (ck_ (0 ≤ x0) (ck_ (0 ≤ (rf_ h x0 53)) (ck_ (0 ≤ (w32 ((w32 ((w32 (x4 + x3)) - 1)) - x5)) ∧ (w32 ((w32 ((w32 (x4 + x3)) - 1)) - x5)) < ln_ h (rf_ h x0 53)) (Mo_turnsBy_4 (wr_ (wr_ h (rf_ h x0 53) (w32 (x4 + x5)) (rd_ h (rf_ h x0 53) (w32 ((w32 ((w32 (x4 + x3)) - 1)) - x5)))) (rf_ h x0 53) (w32 ((w32 ((w32 (x4 + x3)) - 1)) - x5)) (rd_ h (rf_ h x0 53) (w32 (x4 + x5)))) x0 x1 x2 x3 x4 (w32 (x5 + 1)))))))))))))) := (jj_of bk_246_5 _ _ h).trans ((ff_of bk_246_5 [(22, x0), (0, x1), (0, x2), (0, x3), (0, x4), (0, x5), (9, 0)] [] h).trans (by
  show (ck_ (0 ≤ x0) (ck_ (0 ≤ (rf_ h x0 53)) (ck_ (0 ≤ (w32 (x4 + x5)) ∧ (w32 (x4 + x5)) < ln_ h (rf_ h x0 53)) (ck_ (0 ≤ x0) (ck_ (0 ≤ x0) (ck_ (0 ≤ (rf_ h x0 53)) (ck_ (0 ≤ (w32 ((w32 ((w32 (x4 + x3)) - 1)) - x5)) ∧ (w32 ((w32 ((w32 (x4 + x3)) - 1)) - x5)) < ln_ h (rf_ h x0 53)) (ck_ (0 ≤ (rf_ h x0 53)) (ck_ (0 ≤ (w32 (x4 + x5)) ∧ (w32 (x4 + x5)) < ln_ h (rf_ h x0 53)) (ck_ (0 ≤ x0) (ck_ (0 ≤ (rf_ h x0 53)) (ck_ (0 ≤ (w32 ((w32 ((w32 (x4 + x3)) - 1)) - x5)) ∧ (w32 ((w32 ((w32 (x4 + x3)) - 1)) - x5)) < ln_ h (rf_ h x0 53)) (JJ 246 4 [(22, x0), (0, x1), (0, x2), (0, x3), (0, x4), (0, w32 (x5 + 1)), (0, rd_ h (rf_ h x0 53) (w32 (x4 + x5)))] [] (wr_ (wr_ h (rf_ h x0 53) (w32 (x4 + x5)) (rd_ h (rf_ h x0 53) (w32 ((w32 ((w32 (x4 + x3)) - 1)) - x5)))) (rf_ h x0 53) (w32 ((w32 ((w32 (x4 + x3)) - 1)) - x5)) (rd_ h (rf_ h x0 53) (w32 (x4 + x5))))))))))))))))) = _
  simp only [jt_246_4, ck_or1, ck_or2, rf_wr, ln_wr, nn_wr, rf_cp, ln_cp, nn_cp, ln_wf, nn_wf, rd_wf, nn_nw]
  try rfl))
set_option maxRecDepth 20000 in
theorem Mo_turnsBy_4_e (h : am_H) (x0 x1 x2 x3 x4 x5 : Int) : Mo_turnsBy_4 h x0 x1 x2 x3 x4 x5 = if (w32 ((w32 (x3 - 1)) - x5)) ≤ x5 then ck_ (0 ≤ x0) (ck_ (0 ≤ (rf_ h x0 54)) (ck_ (0 ≤ (w32 ((w32 (4 * x1)) + x2)) ∧ (w32 ((w32 (4 * x1)) + x2)) < ln_ h (rf_ h x0 54)) (ck_ (0 ≤ (rf_ h x0 54)) (ck_ (0 ≤ (w32 ((w32 (4 * x1)) + x2)) ∧ (w32 ((w32 (4 * x1)) + x2)) < ln_ h (rf_ h x0 54)) (some (wr_ h (rf_ h x0 54) (w32 ((w32 (4 * x1)) + x2)) (w32 ((rd_ h (rf_ h x0 54) (w32 ((w32 (4 * x1)) + x2))) + 1)), 0)))))) else ck_ (0 ≤ x0) (ck_ (0 ≤ (rf_ h x0 53)) (ck_ (0 ≤ (w32 (x4 + x5)) ∧ (w32 (x4 + x5)) < ln_ h (rf_ h x0 53)) (ck_ (0 ≤ x0) (ck_ (0 ≤ x0) (ck_ (0 ≤ (rf_ h x0 53)) (ck_ (0 ≤ (w32 ((w32 ((w32 (x4 + x3)) - 1)) - x5)) ∧ (w32 ((w32 ((w32 (x4 + x3)) - 1)) - x5)) < ln_ h (rf_ h x0 53)) (ck_ (0 ≤ (rf_ h x0 53)) (ck_ (0 ≤ (w32 (x4 + x5)) ∧ (w32 (x4 + x5)) < ln_ h (rf_ h x0 53)) (ck_ (0 ≤ x0) (ck_ (0 ≤ (rf_ h x0 53)) (ck_ (0 ≤ (w32 ((w32 ((w32 (x4 + x3)) - 1)) - x5)) ∧ (w32 ((w32 ((w32 (x4 + x3)) - 1)) - x5)) < ln_ h (rf_ h x0 53)) (Mo_turnsBy_4 (wr_ (wr_ h (rf_ h x0 53) (w32 (x4 + x5)) (rd_ h (rf_ h x0 53) (w32 ((w32 ((w32 (x4 + x3)) - 1)) - x5)))) (rf_ h x0 53) (w32 ((w32 ((w32 (x4 + x3)) - 1)) - x5)) (rd_ h (rf_ h x0 53) (w32 (x4 + x5)))) x0 x1 x2 x3 x4 (w32 (x5 + 1)))))))))))))) := (ff_of bk_246_4 [(22, x0), (0, x1), (0, x2), (0, x3), (0, x4), (0, x5), (9, 0)] [] h).trans (by
  show (if (w32 ((w32 (x3 - 1)) - x5)) ≤ x5 then JJ 246 6 [(22, x0), (0, x1), (0, x2), (0, x3), (0, x4), (0, x5), (9, 0)] [] h else JJ 246 5 [(22, x0), (0, x1), (0, x2), (0, x3), (0, x4), (0, x5), (9, 0)] [] h) = _
  simp only [jt_246_5, jt_246_6, ck_or1, ck_or2, rf_wr, ln_wr, nn_wr, rf_cp, ln_cp, nn_cp, ln_wf, nn_wf, rd_wf, nn_nw]
  try rfl)
theorem cc_246 (h : am_H) (x0 x1 x2 x3 : Int) : CC 246 [(22, x0), (0, x1), (0, x2), (0, x3)] h = Mo_turnsBy h x0 x1 x2 x3 := cc_of pk_246 _ h
set_option maxRecDepth 20000 in
theorem pk_247 : am_prog 247 = some cd_247 := rfl
theorem bk_247_0 : bk_ am_prog 247 0 = some ([true, true, true, true, true], (bl_247_0, 1)) := bk_of pk_247 rfl
theorem bk_247_1 : bk_ am_prog 247 1 = some ([true, true, false, true, false], (bl_247_1, 9999)) := bk_of pk_247 rfl
set_option maxRecDepth 20000 in
theorem jt_247_1 (h : am_H) (d2 d4 : am_V) (x0 x1 x3 s0 s1 s2 : Int) : JJ 247 1 [(22, x0), (0, x1), d2, (0, x3), d4] [(1, s0), (0, s1), (33, s2)] h = ck_ (0 ≤ s2) (ck_ (0 ≤ s1 ∧ s1 < ln_ h s2) (ck_ (0 ≤ x0) (ck_ (0 ≤ x0) (bd_ (Mo_gapsOf (wr_ h s2 s1 s0) x0 x1 x3) fun h1 v2 => ck_ (0 ≤ (rf_ h x0 49)) (ck_ (0 ≤ (5 : Int) ∧ (5 : Int) < ln_ h1 (rf_ h x0 49)) (ck_ (0 ≤ x0) (ck_ (0 ≤ x0) (ck_ (0 ≤ (rf_ h1 x0 59)) (ck_ (0 ≤ x1 ∧ x1 < ln_ h1 (rf_ h1 x0 59)) (ck_ (0 ≤ (rf_ h1 x0 49)) (ck_ (0 ≤ (6 : Int) ∧ (6 : Int) < ln_ h1 (rf_ h1 x0 49)) (some (wr_ (wr_ h1 (rf_ h x0 49) 5 v2) (rf_ h1 x0 49) 6 (rd_ (wr_ h1 (rf_ h x0 49) 5 v2) (rf_ h1 x0 59) x1), 0))))))))))))) := (jj_of bk_247_1 _ _ h).trans ((ff_of bk_247_1 [(22, x0), (0, x1), (9, 0), (0, x3), (9, 0)] [(1, s0), (0, s1), (33, s2)] h).trans (by
  show (ck_ (0 ≤ s2) (ck_ (0 ≤ s1 ∧ s1 < ln_ h s2) (ck_ (0 ≤ x0) (ck_ (0 ≤ x0) (bd_ (CC 245 [(22, x0), (0, x1), (0, x3)] (wr_ h s2 s1 s0)) fun h1 v2 => ck_ (0 ≤ (rf_ h x0 49)) (ck_ (0 ≤ (5 : Int) ∧ (5 : Int) < ln_ h1 (rf_ h x0 49)) (ck_ (0 ≤ x0) (ck_ (0 ≤ x0) (ck_ (0 ≤ (rf_ h1 x0 59)) (ck_ (0 ≤ x1 ∧ x1 < ln_ h1 (rf_ h1 x0 59)) (ck_ (0 ≤ (rf_ h1 x0 49)) (ck_ (0 ≤ (6 : Int) ∧ (6 : Int) < ln_ h1 (rf_ h1 x0 49)) (some (wr_ (wr_ h1 (rf_ h x0 49) 5 v2) (rf_ h1 x0 49) 6 (rd_ (wr_ h1 (rf_ h x0 49) 5 v2) (rf_ h1 x0 59) x1), 0)))))))))))))) = _
  simp only [cc_245, ck_or1, ck_or2, rf_wr, ln_wr, nn_wr, rf_cp, ln_cp, nn_cp, ln_wf, nn_wf, rd_wf, nn_nw]
  try rfl))
set_option maxRecDepth 20000 in
theorem Mo_lay_e (h : am_H) (x0 x1 x2 x3 x4 : Int) : Mo_lay h x0 x1 x2 x3 x4 = ck_ (0 ≤ x0) (ck_ (0 ≤ x0) (bd_ (Mo_sizeAt h x0 x1 x3 (w32 (x4 - 1))) fun h1 v2 => ck_ (0 ≤ (rf_ h x0 49)) (ck_ (0 ≤ (0 : Int) ∧ (0 : Int) < ln_ h1 (rf_ h x0 49)) (ck_ (0 ≤ x0) (ck_ (0 ≤ (rf_ h1 x0 49)) (ck_ (0 ≤ (1 : Int) ∧ (1 : Int) < ln_ h1 (rf_ h1 x0 49)) (ck_ (0 ≤ x0) (ck_ (0 ≤ x0) (bd_ (Mo_highOf (wr_ (wr_ h1 (rf_ h x0 49) 0 v2) (rf_ h1 x0 49) 1 x4) x0 x1 x3) fun h3 v4 => ck_ (0 ≤ (rf_ h1 x0 49)) (ck_ (0 ≤ (2 : Int) ∧ (2 : Int) < ln_ h3 (rf_ h1 x0 49)) (ck_ (0 ≤ x0) (ck_ (0 ≤ x0) (ck_ (0 ≤ (rf_ h3 x0 25)) (ck_ (0 ≤ x2 ∧ x2 < ln_ h3 (rf_ h3 x0 25)) (ck_ (0 ≤ (rf_ h3 x0 49)) (ck_ (0 ≤ (3 : Int) ∧ (3 : Int) < ln_ h3 (rf_ h3 x0 49)) (ck_ (0 ≤ x0) (ck_ (0 ≤ x0) (ck_ (0 ≤ (rf_ h3 x0 57)) (ck_ (0 ≤ (w32 ((w32 (4 * x1)) + x2)) ∧ (w32 ((w32 (4 * x1)) + x2)) < ln_ h3 (rf_ h3 x0 57)) (ck_ (0 ≤ (rf_ h3 x0 49)) (ck_ (0 ≤ (4 : Int) ∧ (4 : Int) < ln_ h3 (rf_ h3 x0 49)) (ck_ (0 ≤ x0) (ck_ (0 ≤ x0) (bd_ (Mo_gapsOf (wr_ (wr_ (wr_ h3 (rf_ h1 x0 49) 2 v4) (rf_ h3 x0 49) 3 (rd_ (wr_ h3 (rf_ h1 x0 49) 2 v4) (rf_ h3 x0 25) x2)) (rf_ h3 x0 49) 4 (rd_ (wr_ (wr_ h3 (rf_ h1 x0 49) 2 v4) (rf_ h3 x0 49) 3 (rd_ (wr_ h3 (rf_ h1 x0 49) 2 v4) (rf_ h3 x0 25) x2)) (rf_ h3 x0 57) (w32 ((w32 (4 * x1)) + x2)))) x0 x1 x3) fun h5 v6 => ck_ (0 ≤ (rf_ h3 x0 49)) (ck_ (0 ≤ (5 : Int) ∧ (5 : Int) < ln_ h5 (rf_ h3 x0 49)) (ck_ (0 ≤ x0) (ck_ (0 ≤ x0) (ck_ (0 ≤ (rf_ h5 x0 59)) (ck_ (0 ≤ x1 ∧ x1 < ln_ h5 (rf_ h5 x0 59)) (ck_ (0 ≤ (rf_ h5 x0 49)) (ck_ (0 ≤ (6 : Int) ∧ (6 : Int) < ln_ h5 (rf_ h5 x0 49)) (some (wr_ (wr_ h5 (rf_ h3 x0 49) 5 v6) (rf_ h5 x0 49) 6 (rd_ (wr_ h5 (rf_ h3 x0 49) 5 v6) (rf_ h5 x0 59) x1), 0)))))))))))))))))))))))))))))))))) := (ff_of bk_247_0 [(22, x0), (0, x1), (0, x2), (0, x3), (0, x4)] [] h).trans (by
  show (ck_ (0 ≤ x0) (ck_ (0 ≤ x0) (bd_ (CC 240 [(22, x0), (0, x1), (0, x3), (0, w32 (x4 - 1))] h) fun h1 v2 => ck_ (0 ≤ (rf_ h x0 49)) (ck_ (0 ≤ (0 : Int) ∧ (0 : Int) < ln_ h1 (rf_ h x0 49)) (ck_ (0 ≤ x0) (ck_ (0 ≤ (rf_ h1 x0 49)) (ck_ (0 ≤ (1 : Int) ∧ (1 : Int) < ln_ h1 (rf_ h1 x0 49)) (ck_ (0 ≤ x0) (ck_ (0 ≤ x0) (bd_ (CC 238 [(22, x0), (0, x1), (0, x3)] (wr_ (wr_ h1 (rf_ h x0 49) 0 v2) (rf_ h1 x0 49) 1 x4)) fun h3 v4 => ck_ (0 ≤ (rf_ h1 x0 49)) (ck_ (0 ≤ (2 : Int) ∧ (2 : Int) < ln_ h3 (rf_ h1 x0 49)) (ck_ (0 ≤ x0) (ck_ (0 ≤ x0) (ck_ (0 ≤ (rf_ h3 x0 25)) (ck_ (0 ≤ x2 ∧ x2 < ln_ h3 (rf_ h3 x0 25)) (ck_ (0 ≤ (rf_ h3 x0 49)) (ck_ (0 ≤ (3 : Int) ∧ (3 : Int) < ln_ h3 (rf_ h3 x0 49)) (ck_ (0 ≤ x0) (ck_ (0 ≤ x0) (ck_ (0 ≤ (rf_ h3 x0 57)) (ck_ (0 ≤ (w32 ((w32 (4 * x1)) + x2)) ∧ (w32 ((w32 (4 * x1)) + x2)) < ln_ h3 (rf_ h3 x0 57)) (JJ 247 1 [(22, x0), (0, x1), (0, x2), (0, x3), (0, x4)] [(1, rd_ (wr_ (wr_ h3 (rf_ h1 x0 49) 2 v4) (rf_ h3 x0 49) 3 (rd_ (wr_ h3 (rf_ h1 x0 49) 2 v4) (rf_ h3 x0 25) x2)) (rf_ h3 x0 57) (w32 ((w32 (4 * x1)) + x2))), (0, 4), (33, rf_ h3 x0 49)] (wr_ (wr_ h3 (rf_ h1 x0 49) 2 v4) (rf_ h3 x0 49) 3 (rd_ (wr_ h3 (rf_ h1 x0 49) 2 v4) (rf_ h3 x0 25) x2)))))))))))))))))))))))) = _
  simp only [cc_238, cc_240, jt_247_1, ck_or1, ck_or2, rf_wr, ln_wr, nn_wr, rf_cp, ln_cp, nn_cp, ln_wf, nn_wf, rd_wf, nn_nw]
  try rfl)
theorem cc_247 (h : am_H) (x0 x1 x2 x3 x4 : Int) : CC 247 [(22, x0), (0, x1), (0, x2), (0, x3), (0, x4)] h = Mo_lay h x0 x1 x2 x3 x4 := cc_of pk_247 _ h
set_option maxRecDepth 20000 in
theorem pk_248 : am_prog 248 = some cd_248 := rfl
theorem bk_248_0 : bk_ am_prog 248 0 = some ([true, true, false], (bl_248_0, 1)) := bk_of pk_248 rfl
theorem bk_248_1 : bk_ am_prog 248 1 = some ([true, true, true], (bl_248_1, 9999)) := bk_of pk_248 rfl
theorem bk_248_2 : bk_ am_prog 248 2 = some ([true, true, true], (bl_248_2, 9999)) := bk_of pk_248 rfl
theorem bk_248_3 : bk_ am_prog 248 3 = some ([true, true, false], (bl_248_3, 9999)) := bk_of pk_248 rfl
theorem bk_248_4 : bk_ am_prog 248 4 = some ([false, false, false], (bl_248_4, 9999)) := bk_of pk_248 rfl
theorem bk_248_5 : bk_ am_prog 248 5 = some ([true, true, false], (bl_248_5, 6)) := bk_of pk_248 rfl
theorem bk_248_6 : bk_ am_prog 248 6 = some ([false, false, false], (bl_248_6, 9999)) := bk_of pk_248 rfl
theorem jt_248_1 (h : am_H) (x0 x1 x2 : Int) : JJ 248 1 [(22, x0), (0, x1), (0, x2)] [] h = Mo_lawOf_1 h x0 x1 x2 := jj_of bk_248_1 _ _ h
theorem Mo_lawOf_e (h : am_H) (x0 x1 : Int) : Mo_lawOf h x0 x1 = ck_ (0 ≤ x0) (ck_ (0 ≤ x0) (ck_ (0 ≤ (rf_ h x0 36)) (ck_ (0 ≤ x1 ∧ x1 < ln_ h (rf_ h x0 36)) (Mo_lawOf_1 (wr_ h x0 51 0) x0 x1 (rd_ (wr_ h x0 51 0) (rf_ h x0 36) x1))))) := (ff_of bk_248_0 [(22, x0), (0, x1), (9, 0)] [] h).trans (by
  show (ck_ (0 ≤ x0) (ck_ (0 ≤ x0) (ck_ (0 ≤ (rf_ h x0 36)) (ck_ (0 ≤ x1 ∧ x1 < ln_ h (rf_ h x0 36)) (JJ 248 1 [(22, x0), (0, x1), (0, rd_ (wr_ h x0 51 0) (rf_ h x0 36) x1)] [] (wr_ h x0 51 0)))))) = _
  simp only [jt_248_1, ck_or1, ck_or2, rf_wr, ln_wr, nn_wr, rf_cp, ln_cp, nn_cp, ln_wf, nn_wf, rd_wf, nn_nw]
  try rfl)
theorem jt_248_6 (h : am_H) (d0 d1 d2 : am_V) (s0 : Int) : JJ 248 6 [d0, d1, d2] [(1, s0)] h = some (h, s0) := (jj_of bk_248_6 _ _ h).trans (ff_of bk_248_6 [(9, 0), (9, 0), (9, 0)] [(1, s0)] h)
theorem jt_248_5 (h : am_H) (d2 : am_V) (x0 x1 : Int) : JJ 248 5 [(22, x0), (0, x1), d2] [] h = ck_ (0 ≤ x0) (ck_ (0 ≤ x0) (ck_ (0 ≤ (rf_ h x0 37)) (ck_ (0 ≤ x1 ∧ x1 < ln_ h (rf_ h x0 37)) (ck_ (0 ≤ (rf_ h x0 50)) (ck_ (0 ≤ (w32 ((rd_ h (rf_ h x0 37) x1) - 1)) ∧ (w32 ((rd_ h (rf_ h x0 37) x1) - 1)) < ln_ h (rf_ h x0 50)) (some (h, rd_ h (rf_ h x0 50) (w32 ((rd_ h (rf_ h x0 37) x1) - 1))))))))) := (jj_of bk_248_5 _ _ h).trans ((ff_of bk_248_5 [(22, x0), (0, x1), (9, 0)] [] h).trans (by
  show (ck_ (0 ≤ x0) (ck_ (0 ≤ x0) (ck_ (0 ≤ (rf_ h x0 37)) (ck_ (0 ≤ x1 ∧ x1 < ln_ h (rf_ h x0 37)) (ck_ (0 ≤ (rf_ h x0 50)) (ck_ (0 ≤ (w32 ((rd_ h (rf_ h x0 37) x1) - 1)) ∧ (w32 ((rd_ h (rf_ h x0 37) x1) - 1)) < ln_ h (rf_ h x0 50)) (JJ 248 6 [(22, x0), (0, x1), (9, 0)] [(1, rd_ h (rf_ h x0 50) (w32 ((rd_ h (rf_ h x0 37) x1) - 1)))] h))))))) = _
  simp only [jt_248_6, ck_or1, ck_or2, rf_wr, ln_wr, nn_wr, rf_cp, ln_cp, nn_cp, ln_wf, nn_wf, rd_wf, nn_nw]
  try rfl))
theorem jt_248_4 (h : am_H) (d0 d1 d2 : am_V) : JJ 248 4 [d0, d1, d2] [] h = some (h, 0) := (jj_of bk_248_4 _ _ h).trans ((ff_of bk_248_4 [(9, 0), (9, 0), (9, 0)] [] h).trans (by
  show (JJ 248 6 [(9, 0), (9, 0), (9, 0)] [(1, 0)] h) = _
  simp only [jt_248_6, ck_or1, ck_or2, rf_wr, ln_wr, nn_wr, rf_cp, ln_cp, nn_cp, ln_wf, nn_wf, rd_wf, nn_nw]
  try rfl))
theorem jt_248_3 (h : am_H) (d2 : am_V) (x0 x1 : Int) : JJ 248 3 [(22, x0), (0, x1), d2] [] h = ck_ (0 ≤ x0) (if (rd_ h x0 51) = 0 then ck_ (0 ≤ x0) (ck_ (0 ≤ x0) (ck_ (0 ≤ (rf_ h x0 37)) (ck_ (0 ≤ x1 ∧ x1 < ln_ h (rf_ h x0 37)) (ck_ (0 ≤ (rf_ h x0 50)) (ck_ (0 ≤ (w32 ((rd_ h (rf_ h x0 37) x1) - 1)) ∧ (w32 ((rd_ h (rf_ h x0 37) x1) - 1)) < ln_ h (rf_ h x0 50)) (some (h, rd_ h (rf_ h x0 50) (w32 ((rd_ h (rf_ h x0 37) x1) - 1))))))))) else some (h, 0)) := (jj_of bk_248_3 _ _ h).trans ((ff_of bk_248_3 [(22, x0), (0, x1), (9, 0)] [] h).trans (by
  show (ck_ (0 ≤ x0) (if (rd_ h x0 51) = 0 then JJ 248 5 [(22, x0), (0, x1), (9, 0)] [] h else JJ 248 4 [(22, x0), (0, x1), (9, 0)] [] h)) = _
  simp only [jt_248_4, jt_248_5, ck_or1, ck_or2, rf_wr, ln_wr, nn_wr, rf_cp, ln_cp, nn_cp, ln_wf, nn_wf, rd_wf, nn_nw]
  try rfl))
theorem jt_248_2 (h : am_H) (x0 x1 x2 : Int) : JJ 248 2 [(22, x0), (0, x1), (0, x2)] [] h = ck_ (0 ≤ x0) (ck_ (0 ≤ x0) (bd_ (Mo_valueOf h x0 x2) fun h1 v2 => ck_ (0 ≤ (rf_ h x0 50)) (ck_ (0 ≤ x2 ∧ x2 < ln_ h1 (rf_ h x0 50)) (Mo_lawOf_1 (wr_ h1 (rf_ h x0 50) x2 v2) x0 x1 (w32 (x2 + 1)))))) := (jj_of bk_248_2 _ _ h).trans ((ff_of bk_248_2 [(22, x0), (0, x1), (0, x2)] [] h).trans (by
  show (ck_ (0 ≤ x0) (ck_ (0 ≤ x0) (bd_ (CC 233 [(22, x0), (0, x2)] h) fun h1 v2 => ck_ (0 ≤ (rf_ h x0 50)) (ck_ (0 ≤ x2 ∧ x2 < ln_ h1 (rf_ h x0 50)) (JJ 248 1 [(22, x0), (0, x1), (0, w32 (x2 + 1))] [] (wr_ h1 (rf_ h x0 50) x2 v2)))))) = _
  simp only [cc_233, jt_248_1, ck_or1, ck_or2, rf_wr, ln_wr, nn_wr, rf_cp, ln_cp, nn_cp, ln_wf, nn_wf, rd_wf, nn_nw]
  try rfl))
theorem Mo_lawOf_1_e (h : am_H) (x0 x1 x2 : Int) : Mo_lawOf_1 h x0 x1 x2 = ck_ (0 ≤ x0) (ck_ (0 ≤ (rf_ h x0 37)) (ck_ (0 ≤ x1 ∧ x1 < ln_ h (rf_ h x0 37)) (if (rd_ h (rf_ h x0 37) x1) ≤ x2 then ck_ (0 ≤ x0) (if (rd_ h x0 51) = 0 then ck_ (0 ≤ x0) (ck_ (0 ≤ x0) (ck_ (0 ≤ (rf_ h x0 37)) (ck_ (0 ≤ x1 ∧ x1 < ln_ h (rf_ h x0 37)) (ck_ (0 ≤ (rf_ h x0 50)) (ck_ (0 ≤ (w32 ((rd_ h (rf_ h x0 37) x1) - 1)) ∧ (w32 ((rd_ h (rf_ h x0 37) x1) - 1)) < ln_ h (rf_ h x0 50)) (some (h, rd_ h (rf_ h x0 50) (w32 ((rd_ h (rf_ h x0 37) x1) - 1))))))))) else some (h, 0)) else ck_ (0 ≤ x0) (ck_ (0 ≤ x0) (bd_ (Mo_valueOf h x0 x2) fun h1 v2 => ck_ (0 ≤ (rf_ h x0 50)) (ck_ (0 ≤ x2 ∧ x2 < ln_ h1 (rf_ h x0 50)) (Mo_lawOf_1 (wr_ h1 (rf_ h x0 50) x2 v2) x0 x1 (w32 (x2 + 1))))))))) := (ff_of bk_248_1 [(22, x0), (0, x1), (0, x2)] [] h).trans (by
  show (ck_ (0 ≤ x0) (ck_ (0 ≤ (rf_ h x0 37)) (ck_ (0 ≤ x1 ∧ x1 < ln_ h (rf_ h x0 37)) (if (rd_ h (rf_ h x0 37) x1) ≤ x2 then JJ 248 3 [(22, x0), (0, x1), (0, x2)] [] h else JJ 248 2 [(22, x0), (0, x1), (0, x2)] [] h)))) = _
  simp only [jt_248_2, jt_248_3, ck_or1, ck_or2, rf_wr, ln_wr, nn_wr, rf_cp, ln_cp, nn_cp, ln_wf, nn_wf, rd_wf, nn_nw]
  try rfl)
theorem cc_248 (h : am_H) (x0 x1 : Int) : CC 248 [(22, x0), (0, x1)] h = Mo_lawOf h x0 x1 := cc_of pk_248 _ h
set_option maxRecDepth 20000 in
theorem pk_249 : am_prog 249 = some cd_249 := rfl
theorem bk_249_0 : bk_ am_prog 249 0 = some ([true, true, true, true, false, false], (bl_249_0, 9999)) := bk_of pk_249 rfl
theorem bk_249_1 : bk_ am_prog 249 1 = some ([false, false, true, false, false, false], (bl_249_1, 9999)) := bk_of pk_249 rfl
theorem bk_249_2 : bk_ am_prog 249 2 = some ([true, true, true, true, false, false], (bl_249_2, 9999)) := bk_of pk_249 rfl
theorem bk_249_3 : bk_ am_prog 249 3 = some ([false, false, true, false, false, false], (bl_249_3, 9999)) := bk_of pk_249 rfl
theorem bk_249_4 : bk_ am_prog 249 4 = some ([false, false, false, true, true, false], (bl_249_4, 9999)) := bk_of pk_249 rfl
theorem bk_249_5 : bk_ am_prog 249 5 = some ([false, false, false, false, false, false], (bl_249_5, 9999)) := bk_of pk_249 rfl
theorem bk_249_6 : bk_ am_prog 249 6 = some ([false, false, false, true, true, false], (bl_249_6, 9999)) := bk_of pk_249 rfl
theorem bk_249_7 : bk_ am_prog 249 7 = some ([false, false, false, true, false, false], (bl_249_7, 9999)) := bk_of pk_249 rfl
theorem bk_249_8 : bk_ am_prog 249 8 = some ([false, false, false, false, true, false], (bl_249_8, 9)) := bk_of pk_249 rfl
theorem bk_249_9 : bk_ am_prog 249 9 = some ([false, false, false, false, false, false], (bl_249_9, 9999)) := bk_of pk_249 rfl
theorem jt_249_9 (h : am_H) (d0 d1 d2 d3 d4 d5 : am_V) (s0 : Int) : JJ 249 9 [d0, d1, d2, d3, d4, d5] [(0, s0)] h = some (h, s0) := (jj_of bk_249_9 _ _ h).trans (ff_of bk_249_9 [(9, 0), (9, 0), (9, 0), (9, 0), (9, 0), (9, 0)] [(0, s0)] h)
theorem jt_249_8 (h : am_H) (d0 d1 d2 d3 d5 : am_V) (x4 : Int) : JJ 249 8 [d0, d1, d2, d3, (1, x4), d5] [] h = some (h, w32 x4) := (jj_of bk_249_8 _ _ h).trans ((ff_of bk_249_8 [(9, 0), (9, 0), (9, 0), (9, 0), (1, x4), (9, 0)] [] h).trans (by
  show (JJ 249 9 [(9, 0), (9, 0), (9, 0), (9, 0), (1, x4), (9, 0)] [(0, w32 x4)] h) = _
  simp only [jt_249_9, ck_or1, ck_or2, rf_wr, ln_wr, nn_wr, rf_cp, ln_cp, nn_cp, ln_wf, nn_wf, rd_wf, nn_nw]
  try rfl))
theorem jt_249_7 (h : am_H) (d0 d1 d2 d4 d5 : am_V) (x3 : Int) : JJ 249 7 [d0, d1, d2, (0, x3), d4, d5] [] h = some (h, x3) := (jj_of bk_249_7 _ _ h).trans ((ff_of bk_249_7 [(9, 0), (9, 0), (9, 0), (0, x3), (9, 0), (9, 0)] [] h).trans (by
  show (JJ 249 9 [(9, 0), (9, 0), (9, 0), (0, x3), (9, 0), (9, 0)] [(0, x3)] h) = _
  simp only [jt_249_9, ck_or1, ck_or2, rf_wr, ln_wr, nn_wr, rf_cp, ln_cp, nn_cp, ln_wf, nn_wf, rd_wf, nn_nw]
  try rfl))
theorem jt_249_6 (h : am_H) (d0 d1 d2 d5 : am_V) (x3 x4 : Int) : JJ 249 6 [d0, d1, d2, (0, x3), (1, x4), d5] [] h = if (lcm_ x4 x3) ≤ 0 then some (h, w32 x4) else some (h, x3) := (jj_of bk_249_6 _ _ h).trans ((ff_of bk_249_6 [(9, 0), (9, 0), (9, 0), (0, x3), (1, x4), (9, 0)] [] h).trans (by
  show (if (lcm_ x4 x3) ≤ 0 then JJ 249 8 [(9, 0), (9, 0), (9, 0), (0, x3), (1, x4), (9, 0)] [] h else JJ 249 7 [(9, 0), (9, 0), (9, 0), (0, x3), (1, x4), (9, 0)] [] h) = _
  simp only [jt_249_7, jt_249_8, ck_or1, ck_or2, rf_wr, ln_wr, nn_wr, rf_cp, ln_cp, nn_cp, ln_wf, nn_wf, rd_wf, nn_nw]
  try rfl))
theorem jt_249_5 (h : am_H) (d0 d1 d2 d3 d4 d5 : am_V) : JJ 249 5 [d0, d1, d2, d3, d4, d5] [] h = some (h, 0) := (jj_of bk_249_5 _ _ h).trans ((ff_of bk_249_5 [(9, 0), (9, 0), (9, 0), (9, 0), (9, 0), (9, 0)] [] h).trans (by
  show (JJ 249 9 [(9, 0), (9, 0), (9, 0), (9, 0), (9, 0), (9, 0)] [(0, 0)] h) = _
  simp only [jt_249_9, ck_or1, ck_or2, rf_wr, ln_wr, nn_wr, rf_cp, ln_cp, nn_cp, ln_wf, nn_wf, rd_wf, nn_nw]
  try rfl))
theorem jt_249_4 (h : am_H) (d0 d1 d2 d5 : am_V) (x3 x4 : Int) : JJ 249 4 [d0, d1, d2, (0, x3), (1, x4), d5] [] h = if 0 ≤ (lcm_ x4 0) then (if (lcm_ x4 x3) ≤ 0 then some (h, w32 x4) else some (h, x3)) else some (h, 0) := (jj_of bk_249_4 _ _ h).trans ((ff_of bk_249_4 [(9, 0), (9, 0), (9, 0), (0, x3), (1, x4), (9, 0)] [] h).trans (by
  show (if 0 ≤ (lcm_ x4 0) then JJ 249 6 [(9, 0), (9, 0), (9, 0), (0, x3), (1, x4), (9, 0)] [] h else JJ 249 5 [(9, 0), (9, 0), (9, 0), (0, x3), (1, x4), (9, 0)] [] h) = _
  simp only [jt_249_5, jt_249_6, ck_or1, ck_or2, rf_wr, ln_wr, nn_wr, rf_cp, ln_cp, nn_cp, ln_wf, nn_wf, rd_wf, nn_nw]
  try rfl))
theorem jt_249_3 (h : am_H) (d0 d1 d3 d4 d5 : am_V) (x2 : Int) : JJ 249 3 [d0, d1, (0, x2), d3, d4, d5] [] h = some (h, x2) := (jj_of bk_249_3 _ _ h).trans (ff_of bk_249_3 [(9, 0), (9, 0), (0, x2), (9, 0), (9, 0), (9, 0)] [] h)
theorem jt_249_2 (h : am_H) (d4 d5 : am_V) (x0 x1 x2 x3 : Int) : JJ 249 2 [(22, x0), (0, x1), (0, x2), (0, x3), d4, d5] [] h = ck_ (0 ≤ x0) (bd_ (Mo_lawOf h x0 x1) fun h1 v2 => ck_ (0 ≤ x0) (if (rd_ h1 x0 51) = 0 then (if 0 ≤ (lcm_ v2 0) then (if (lcm_ v2 x3) ≤ 0 then some (h1, w32 v2) else some (h1, x3)) else some (h1, 0)) else some (h1, x2))) := (jj_of bk_249_2 _ _ h).trans ((ff_of bk_249_2 [(22, x0), (0, x1), (0, x2), (0, x3), (9, 0), (9, 0)] [] h).trans (by
  show (ck_ (0 ≤ x0) (bd_ (CC 248 [(22, x0), (0, x1)] h) fun h1 v2 => ck_ (0 ≤ x0) (if (rd_ h1 x0 51) = 0 then JJ 249 4 [(22, x0), (0, x1), (0, x2), (0, x3), (1, v2), (9, 0)] [] h1 else JJ 249 3 [(22, x0), (0, x1), (0, x2), (0, x3), (1, v2), (9, 0)] [] h1))) = _
  simp only [cc_248, jt_249_3, jt_249_4, ck_or1, ck_or2, rf_wr, ln_wr, nn_wr, rf_cp, ln_cp, nn_cp, ln_wf, nn_wf, rd_wf, nn_nw]
  try rfl))
theorem jt_249_1 (h : am_H) (d0 d1 d3 d4 d5 : am_V) (x2 : Int) : JJ 249 1 [d0, d1, (0, x2), d3, d4, d5] [] h = some (h, x2) := (jj_of bk_249_1 _ _ h).trans (ff_of bk_249_1 [(9, 0), (9, 0), (0, x2), (9, 0), (9, 0), (9, 0)] [] h)
theorem Mo_boundLaw_e (h : am_H) (x0 x1 x2 x3 : Int) : Mo_boundLaw h x0 x1 x2 x3 = ck_ (0 ≤ x0) (ck_ (0 ≤ (rf_ h x0 35)) (ck_ (0 ≤ x1 ∧ x1 < ln_ h (rf_ h x0 35)) (if (rd_ h (rf_ h x0 35) x1) ≠ 0 then ck_ (0 ≤ x0) (bd_ (Mo_lawOf h x0 x1) fun h1 v2 => ck_ (0 ≤ x0) (if (rd_ h1 x0 51) = 0 then (if 0 ≤ (lcm_ v2 0) then (if (lcm_ v2 x3) ≤ 0 then some (h1, w32 v2) else some (h1, x3)) else some (h1, 0)) else some (h1, x2))) else some (h, x2)))) := (ff_of bk_249_0 [(22, x0), (0, x1), (0, x2), (0, x3), (9, 0), (9, 0)] [] h).trans (by
  show (ck_ (0 ≤ x0) (ck_ (0 ≤ (rf_ h x0 35)) (ck_ (0 ≤ x1 ∧ x1 < ln_ h (rf_ h x0 35)) (if (rd_ h (rf_ h x0 35) x1) ≠ 0 then JJ 249 2 [(22, x0), (0, x1), (0, x2), (0, x3), (9, 0), (9, 0)] [] h else JJ 249 1 [(22, x0), (0, x1), (0, x2), (0, x3), (9, 0), (9, 0)] [] h)))) = _
  simp only [jt_249_1, jt_249_2, ck_or1, ck_or2, rf_wr, ln_wr, nn_wr, rf_cp, ln_cp, nn_cp, ln_wf, nn_wf, rd_wf, nn_nw]
  try rfl)
theorem cc_249 (h : am_H) (x0 x1 x2 x3 : Int) : CC 249 [(22, x0), (0, x1), (0, x2), (0, x3)] h = Mo_boundLaw h x0 x1 x2 x3 := cc_of pk_249 _ h
set_option maxRecDepth 20000 in
theorem pk_250 : am_prog 250 = some cd_250 := rfl
theorem bk_250_0 : bk_ am_prog 250 0 = some ([true, false, false], (bl_250_0, 9999)) := bk_of pk_250 rfl
theorem bk_250_1 : bk_ am_prog 250 1 = some ([true, false, false], (bl_250_1, 9999)) := bk_of pk_250 rfl
theorem bk_250_2 : bk_ am_prog 250 2 = some ([false, false, false], (bl_250_2, 9999)) := bk_of pk_250 rfl
theorem bk_250_3 : bk_ am_prog 250 3 = some ([true, false, false], (bl_250_3, 9999)) := bk_of pk_250 rfl
theorem bk_250_4 : bk_ am_prog 250 4 = some ([false, true, false], (bl_250_4, 9999)) := bk_of pk_250 rfl
theorem bk_250_5 : bk_ am_prog 250 5 = some ([false, false, false], (bl_250_5, 9999)) := bk_of pk_250 rfl
theorem bk_250_6 : bk_ am_prog 250 6 = some ([false, false, false], (bl_250_6, 7)) := bk_of pk_250 rfl
theorem bk_250_7 : bk_ am_prog 250 7 = some ([false, false, false], (bl_250_7, 9999)) := bk_of pk_250 rfl
theorem jt_250_2 (h : am_H) (d0 d1 d2 : am_V) : JJ 250 2 [d0, d1, d2] [] h = some (h, 1) := (jj_of bk_250_2 _ _ h).trans (ff_of bk_250_2 [(9, 0), (9, 0), (9, 0)] [] h)
theorem jt_250_7 (h : am_H) (d0 d1 d2 : am_V) (s0 : Int) : JJ 250 7 [d0, d1, d2] [(0, s0)] h = ck_ (s0 = 0 ∨ s0 = 1) (some (h, s0)) := (jj_of bk_250_7 _ _ h).trans (ff_of bk_250_7 [(9, 0), (9, 0), (9, 0)] [(0, s0)] h)
theorem jt_250_5 (h : am_H) (d0 d1 d2 : am_V) : JJ 250 5 [d0, d1, d2] [] h = some (h, 1) := (jj_of bk_250_5 _ _ h).trans ((ff_of bk_250_5 [(9, 0), (9, 0), (9, 0)] [] h).trans (by
  show (JJ 250 7 [(9, 0), (9, 0), (9, 0)] [(0, 1)] h) = _
  simp only [jt_250_7, ck_or1, ck_or2, rf_wr, ln_wr, nn_wr, rf_cp, ln_cp, nn_cp, ln_wf, nn_wf, rd_wf, nn_nw]
  try rfl))
theorem jt_250_6 (h : am_H) (d0 d1 d2 : am_V) : JJ 250 6 [d0, d1, d2] [] h = some (h, 0) := (jj_of bk_250_6 _ _ h).trans ((ff_of bk_250_6 [(9, 0), (9, 0), (9, 0)] [] h).trans (by
  show (JJ 250 7 [(9, 0), (9, 0), (9, 0)] [(0, 0)] h) = _
  simp only [jt_250_7, ck_or1, ck_or2, rf_wr, ln_wr, nn_wr, rf_cp, ln_cp, nn_cp, ln_wf, nn_wf, rd_wf, nn_nw]
  try rfl))
theorem jt_250_4 (h : am_H) (d0 d2 : am_V) (x1 : Int) : JJ 250 4 [d0, (1, x1), d2] [] h = if (lcm_ x1 0) = 0 then some (h, 0) else some (h, 1) := (jj_of bk_250_4 _ _ h).trans ((ff_of bk_250_4 [(9, 0), (1, x1), (9, 0)] [] h).trans (by
  show (if (lcm_ x1 0) = 0 then JJ 250 6 [(9, 0), (1, x1), (9, 0)] [] h else JJ 250 5 [(9, 0), (1, x1), (9, 0)] [] h) = _
  simp only [jt_250_5, jt_250_6, ck_or1, ck_or2, rf_wr, ln_wr, nn_wr, rf_cp, ln_cp, nn_cp, ln_wf, nn_wf, rd_wf, nn_nw]
  try rfl))
theorem jt_250_3 (h : am_H) (d1 d2 : am_V) (x0 : Int) : JJ 250 3 [(22, x0), d1, d2] [] h = ck_ (0 ≤ x0) (bd_ (Mo_lawOf h x0 2) fun h1 v2 => ck_ (0 ≤ x0) (if (rd_ h1 x0 51) ≠ 0 then some (h1, 1) else if (lcm_ v2 0) = 0 then some (h1, 0) else some (h1, 1))) := (jj_of bk_250_3 _ _ h).trans ((ff_of bk_250_3 [(22, x0), (9, 0), (9, 0)] [] h).trans (by
  show (ck_ (0 ≤ x0) (bd_ (CC 248 [(22, x0), (0, 2)] h) fun h1 v2 => ck_ (0 ≤ x0) (if (rd_ h1 x0 51) ≠ 0 then JJ 250 5 [(22, x0), (1, v2), (9, 0)] [] h1 else JJ 250 4 [(22, x0), (1, v2), (9, 0)] [] h1))) = _
  simp only [cc_248, jt_250_4, jt_250_5, ck_or1, ck_or2, rf_wr, ln_wr, nn_wr, rf_cp, ln_cp, nn_cp, ln_wf, nn_wf, rd_wf, nn_nw]
  try rfl))
theorem jt_250_1 (h : am_H) (d1 d2 : am_V) (x0 : Int) : JJ 250 1 [(22, x0), d1, d2] [] h = ck_ (0 ≤ x0) (ck_ (0 ≤ (rf_ h x0 35)) (ck_ (0 ≤ (2 : Int) ∧ (2 : Int) < ln_ h (rf_ h x0 35)) (if (rd_ h (rf_ h x0 35) 2) ≠ 0 then ck_ (0 ≤ x0) (bd_ (Mo_lawOf h x0 2) fun h1 v2 => ck_ (0 ≤ x0) (if (rd_ h1 x0 51) ≠ 0 then some (h1, 1) else if (lcm_ v2 0) = 0 then some (h1, 0) else some (h1, 1))) else some (h, 1)))) := (jj_of bk_250_1 _ _ h).trans ((ff_of bk_250_1 [(22, x0), (9, 0), (9, 0)] [] h).trans (by
  show (ck_ (0 ≤ x0) (ck_ (0 ≤ (rf_ h x0 35)) (ck_ (0 ≤ (2 : Int) ∧ (2 : Int) < ln_ h (rf_ h x0 35)) (if (rd_ h (rf_ h x0 35) 2) ≠ 0 then JJ 250 3 [(22, x0), (9, 0), (9, 0)] [] h else JJ 250 2 [(22, x0), (9, 0), (9, 0)] [] h)))) = _
  simp only [jt_250_2, jt_250_3, ck_or1, ck_or2, rf_wr, ln_wr, nn_wr, rf_cp, ln_cp, nn_cp, ln_wf, nn_wf, rd_wf, nn_nw]
  try rfl))
theorem Mo_isHeeded_e (h : am_H) (x0 : Int) : Mo_isHeeded h x0 = ck_ (0 ≤ x0) (if (rd_ h x0 62) ≠ 0 then some (h, 1) else ck_ (0 ≤ x0) (ck_ (0 ≤ (rf_ h x0 35)) (ck_ (0 ≤ (2 : Int) ∧ (2 : Int) < ln_ h (rf_ h x0 35)) (if (rd_ h (rf_ h x0 35) 2) ≠ 0 then ck_ (0 ≤ x0) (bd_ (Mo_lawOf h x0 2) fun h1 v2 => ck_ (0 ≤ x0) (if (rd_ h1 x0 51) ≠ 0 then some (h1, 1) else if (lcm_ v2 0) = 0 then some (h1, 0) else some (h1, 1))) else some (h, 1))))) := (ff_of bk_250_0 [(22, x0), (9, 0), (9, 0)] [] h).trans (by
  show (ck_ (0 ≤ x0) (if (rd_ h x0 62) ≠ 0 then JJ 250 2 [(22, x0), (9, 0), (9, 0)] [] h else JJ 250 1 [(22, x0), (9, 0), (9, 0)] [] h)) = _
  simp only [jt_250_1, jt_250_2, ck_or1, ck_or2, rf_wr, ln_wr, nn_wr, rf_cp, ln_cp, nn_cp, ln_wf, nn_wf, rd_wf, nn_nw]
  try rfl)
theorem cc_250 (h : am_H) (x0 : Int) : CC 250 [(22, x0)] h = Mo_isHeeded h x0 := cc_of pk_250 _ h
set_option maxRecDepth 20000 in
theorem pk_251 : am_prog 251 = some cd_251 := rfl
theorem bk_251_0 : bk_ am_prog 251 0 = some ([true, true], (bl_251_0, 9999)) := bk_of pk_251 rfl
theorem Mo_number1_e (h : am_H) (x0 x1 : Int) : Mo_number1 h x0 x1 = ck_ (0 ≤ x0) (ck_ (0 ≤ x0) (ck_ (0 ≤ x0) (ck_ ((65536 : Int) ≠ 0) (ck_ (x1 ≠ 0) (some (wr_ h x0 60 (al_ (w64 ((w64 ((rd_ h x0 60) * 1103515245)) + 12345)) 2147483647), w32 (Int.tmod (w64 (Int.tdiv (rd_ (wr_ h x0 60 (al_ (w64 ((w64 ((rd_ h x0 60) * 1103515245)) + 12345)) 2147483647)) x0 60) 65536)) x1))))))) := ff_of bk_251_0 [(22, x0), (0, x1)] [] h
theorem cc_251 (h : am_H) (x0 x1 : Int) : CC 251 [(22, x0), (0, x1)] h = Mo_number1 h x0 x1 := cc_of pk_251 _ h
set_option maxRecDepth 20000 in
theorem pk_252 : am_prog 252 = some cd_252 := rfl
theorem bk_252_0 : bk_ am_prog 252 0 = some ([true, true, true, true, true, false, false, false, false], (bl_252_0, 9999)) := bk_of pk_252 rfl
theorem bk_252_1 : bk_ am_prog 252 1 = some ([true, true, true, true, true, false, false, false, false], (bl_252_1, 9999)) := bk_of pk_252 rfl
theorem bk_252_2 : bk_ am_prog 252 2 = some ([true, true, true, true, true, false, false, false, false], (bl_252_2, 9999)) := bk_of pk_252 rfl
theorem bk_252_3 : bk_ am_prog 252 3 = some ([true, true, false, false, false, false, false, false, false], (bl_252_3, 9999)) := bk_of pk_252 rfl
theorem bk_252_4 : bk_ am_prog 252 4 = some ([true, true, true, true, true, false, false, false, false], (bl_252_4, 9999)) := bk_of pk_252 rfl
theorem bk_252_5 : bk_ am_prog 252 5 = some ([true, true, true, true, true, true, true, false, false], (bl_252_5, 9999)) := bk_of pk_252 rfl
theorem bk_252_6 : bk_ am_prog 252 6 = some ([true, true, true, true, true, false, false, false, false], (bl_252_6, 7)) := bk_of pk_252 rfl
theorem bk_252_7 : bk_ am_prog 252 7 = some ([true, true, true, true, true, false, false, false, false], (bl_252_7, 9999)) := bk_of pk_252 rfl
theorem bk_252_8 : bk_ am_prog 252 8 = some ([true, true, false, true, false, false, false, true, false], (bl_252_8, 9999)) := bk_of pk_252 rfl
theorem bk_252_9 : bk_ am_prog 252 9 = some ([true, true, false, true, false, false, false, true, false], (bl_252_9, 9999)) := bk_of pk_252 rfl
theorem bk_252_10 : bk_ am_prog 252 10 = some ([true, true, false, true, false, false, false, true, false], (bl_252_10, 9999)) := bk_of pk_252 rfl
theorem bk_252_11 : bk_ am_prog 252 11 = some ([true, true, false, true, false, false, false, false, false], (bl_252_11, 9999)) := bk_of pk_252 rfl
theorem bk_252_12 : bk_ am_prog 252 12 = some ([true, true, false, true, false, false, false, true, false], (bl_252_12, 9999)) := bk_of pk_252 rfl
theorem bk_252_13 : bk_ am_prog 252 13 = some ([true, true, false, true, false, false, false, false, false], (bl_252_13, 9999)) := bk_of pk_252 rfl
theorem bk_252_14 : bk_ am_prog 252 14 = some ([true, true, false, true, false, false, false, false, false], (bl_252_14, 15)) := bk_of pk_252 rfl
theorem bk_252_15 : bk_ am_prog 252 15 = some ([true, true, false, true, false, false, false, false, false], (bl_252_15, 9999)) := bk_of pk_252 rfl
theorem bk_252_16 : bk_ am_prog 252 16 = some ([true, true, false, true, false, false, false, false, false], (bl_252_16, 17)) := bk_of pk_252 rfl
theorem bk_252_17 : bk_ am_prog 252 17 = some ([false, false, false, false, false, false, false, false, false], (bl_252_17, 9999)) := bk_of pk_252 rfl
theorem jt_252_7 (h : am_H) (d5 d6 d7 d8 : am_V) (x0 x1 x2 x3 x4 s0 s1 s2 : Int) : JJ 252 7 [(22, x0), (0, x1), (0, x2), (0, x3), (0, x4), d5, d6, d7, d8] [(0, s0), (0, s1), (30, s2)] h = Mo_turnsOne_7 h x0 x1 x2 x3 x4 s0 s1 s2 := jj_of bk_252_7 _ _ h
theorem jt_252_15 (h : am_H) (d2 d4 d5 d6 d7 d8 : am_V) (x0 x1 x3 s0 : Int) : JJ 252 15 [(22, x0), (0, x1), d2, (0, x3), d4, d5, d6, d7, d8] [(0, s0)] h = Mo_turnsOne_15 h x0 x1 x3 s0 := jj_of bk_252_15 _ _ h
theorem jt_252_3 (h : am_H) (d2 d3 d4 d5 d6 d7 d8 : am_V) (x0 x1 : Int) : JJ 252 3 [(22, x0), (0, x1), d2, d3, d4, d5, d6, d7, d8] [] h = ck_ (0 ≤ x0) (ck_ (0 ≤ (rf_ h x0 58)) (ck_ (0 ≤ x1 ∧ x1 < ln_ h (rf_ h x0 58)) (ck_ (0 ≤ (rf_ h x0 58)) (ck_ (0 ≤ x1 ∧ x1 < ln_ h (rf_ h x0 58)) (some (wr_ h (rf_ h x0 58) x1 (w32 ((rd_ h (rf_ h x0 58) x1) + 1)), 0)))))) := (jj_of bk_252_3 _ _ h).trans (ff_of bk_252_3 [(22, x0), (0, x1), (9, 0), (9, 0), (9, 0), (9, 0), (9, 0), (9, 0), (9, 0)] [] h)
theorem jt_252_6 (h : am_H) (d5 d6 d7 d8 : am_V) (x0 x1 x2 x3 x4 s0 s1 : Int) : JJ 252 6 [(22, x0), (0, x1), (0, x2), (0, x3), (0, x4), d5, d6, d7, d8] [(0, s0), (30, s1)] h = Mo_turnsOne_7 h x0 x1 x2 x3 x4 99999 s0 s1 := (jj_of bk_252_6 _ _ h).trans ((ff_of bk_252_6 [(22, x0), (0, x1), (0, x2), (0, x3), (0, x4), (9, 0), (9, 0), (9, 0), (9, 0)] [(0, s0), (30, s1)] h).trans (by
  show (JJ 252 7 [(22, x0), (0, x1), (0, x2), (0, x3), (0, x4), (9, 0), (9, 0), (9, 0), (9, 0)] [(0, 99999), (0, s0), (30, s1)] h) = _
  simp only [jt_252_7, ck_or1, ck_or2, rf_wr, ln_wr, nn_wr, rf_cp, ln_cp, nn_cp, ln_wf, nn_wf, rd_wf, nn_nw]
  try rfl))
theorem jt_252_5 (h : am_H) (d7 d8 : am_V) (x0 x1 x2 x3 x4 x5 x6 s0 s1 : Int) : JJ 252 5 [(22, x0), (0, x1), (0, x2), (0, x3), (0, x4), (0, x5), (0, x6), d7, d8] [(0, s0), (30, s1)] h = ck_ (0 ≤ x0) (ck_ (0 ≤ (rf_ h x0 57)) (ck_ (0 ≤ x5 ∧ x5 < ln_ h (rf_ h x0 57)) (Mo_turnsOne_7 h x0 x1 x2 x3 x4 (w32 ((rd_ h (rf_ h x0 57) x5) + x6)) s0 s1))) := (jj_of bk_252_5 _ _ h).trans ((ff_of bk_252_5 [(22, x0), (0, x1), (0, x2), (0, x3), (0, x4), (0, x5), (0, x6), (9, 0), (9, 0)] [(0, s0), (30, s1)] h).trans (by
  show (ck_ (0 ≤ x0) (ck_ (0 ≤ (rf_ h x0 57)) (ck_ (0 ≤ x5 ∧ x5 < ln_ h (rf_ h x0 57)) (JJ 252 7 [(22, x0), (0, x1), (0, x2), (0, x3), (0, x4), (0, x5), (0, x6), (9, 0), (9, 0)] [(0, w32 ((rd_ h (rf_ h x0 57) x5) + x6)), (0, s0), (30, s1)] h)))) = _
  simp only [jt_252_7, ck_or1, ck_or2, rf_wr, ln_wr, nn_wr, rf_cp, ln_cp, nn_cp, ln_wf, nn_wf, rd_wf, nn_nw]
  try rfl))
set_option maxRecDepth 20000 in
theorem jt_252_4 (h : am_H) (d5 d6 d7 d8 : am_V) (x0 x1 x2 x3 x4 : Int) : JJ 252 4 [(22, x0), (0, x1), (0, x2), (0, x3), (0, x4), d5, d6, d7, d8] [] h = ck_ (0 ≤ x0) (bd_ (Mo_boundLaw h x0 0 x4 999) fun h1 v2 => ck_ (0 ≤ x0) (bd_ (Mo_turnsBy h1 x0 x1 x3 x4) fun h3 _ => ck_ (0 ≤ x0) (ck_ (0 ≤ x0) (ck_ (0 ≤ (rf_ h3 x0 57)) (ck_ (0 ≤ (w32 ((w32 (4 * x1)) + x2)) ∧ (w32 ((w32 (4 * x1)) + x2)) < ln_ h3 (rf_ h3 x0 57)) (if 99999 ≤ (w32 ((rd_ h3 (rf_ h3 x0 57) (w32 ((w32 (4 * x1)) + x2))) + v2)) then Mo_turnsOne_7 h3 x0 x1 x2 x3 x4 99999 (w32 ((w32 (4 * x1)) + x2)) (rf_ h3 x0 57) else ck_ (0 ≤ x0) (ck_ (0 ≤ (rf_ h3 x0 57)) (ck_ (0 ≤ (w32 ((w32 (4 * x1)) + x2)) ∧ (w32 ((w32 (4 * x1)) + x2)) < ln_ h3 (rf_ h3 x0 57)) (Mo_turnsOne_7 h3 x0 x1 x2 x3 x4 (w32 ((rd_ h3 (rf_ h3 x0 57) (w32 ((w32 (4 * x1)) + x2))) + v2)) (w32 ((w32 (4 * x1)) + x2)) (rf_ h3 x0 57)))))))))) := (jj_of bk_252_4 _ _ h).trans ((ff_of bk_252_4 [(22, x0), (0, x1), (0, x2), (0, x3), (0, x4), (9, 0), (9, 0), (9, 0), (9, 0)] [] h).trans (by
  show (ck_ (0 ≤ x0) (bd_ (CC 249 [(22, x0), (0, 0), (0, x4), (0, 999)] h) fun h1 v2 => ck_ (0 ≤ x0) (bd_ (CC 246 [(22, x0), (0, x1), (0, x3), (0, x4)] h1) fun h3 _ => ck_ (0 ≤ x0) (ck_ (0 ≤ x0) (ck_ (0 ≤ (rf_ h3 x0 57)) (ck_ (0 ≤ (w32 ((w32 (4 * x1)) + x2)) ∧ (w32 ((w32 (4 * x1)) + x2)) < ln_ h3 (rf_ h3 x0 57)) (if 99999 ≤ (w32 ((rd_ h3 (rf_ h3 x0 57) (w32 ((w32 (4 * x1)) + x2))) + v2)) then JJ 252 6 [(22, x0), (0, x1), (0, x2), (0, x3), (0, x4), (0, w32 ((w32 (4 * x1)) + x2)), (0, v2), (9, 0), (9, 0)] [(0, w32 ((w32 (4 * x1)) + x2)), (30, rf_ h3 x0 57)] h3 else JJ 252 5 [(22, x0), (0, x1), (0, x2), (0, x3), (0, x4), (0, w32 ((w32 (4 * x1)) + x2)), (0, v2), (9, 0), (9, 0)] [(0, w32 ((w32 (4 * x1)) + x2)), (30, rf_ h3 x0 57)] h3))))))) = _
  simp only [cc_249, cc_246, jt_252_5, jt_252_6, ck_or1, ck_or2, rf_wr, ln_wr, nn_wr, rf_cp, ln_cp, nn_cp, ln_wf, nn_wf, rd_wf, nn_nw]
  try rfl))
set_option maxRecDepth 20000 in
theorem jt_252_2 (h : am_H) (d5 d6 d7 d8 : am_V) (x0 x1 x2 x3 x4 : Int) : JJ 252 2 [(22, x0), (0, x1), (0, x2), (0, x3), (0, x4), d5, d6, d7, d8] [] h = if 1 ≤ x4 then ck_ (0 ≤ x0) (bd_ (Mo_boundLaw h x0 0 x4 999) fun h1 v2 => ck_ (0 ≤ x0) (bd_ (Mo_turnsBy h1 x0 x1 x3 x4) fun h3 _ => ck_ (0 ≤ x0) (ck_ (0 ≤ x0) (ck_ (0 ≤ (rf_ h3 x0 57)) (ck_ (0 ≤ (w32 ((w32 (4 * x1)) + x2)) ∧ (w32 ((w32 (4 * x1)) + x2)) < ln_ h3 (rf_ h3 x0 57)) (if 99999 ≤ (w32 ((rd_ h3 (rf_ h3 x0 57) (w32 ((w32 (4 * x1)) + x2))) + v2)) then Mo_turnsOne_7 h3 x0 x1 x2 x3 x4 99999 (w32 ((w32 (4 * x1)) + x2)) (rf_ h3 x0 57) else ck_ (0 ≤ x0) (ck_ (0 ≤ (rf_ h3 x0 57)) (ck_ (0 ≤ (w32 ((w32 (4 * x1)) + x2)) ∧ (w32 ((w32 (4 * x1)) + x2)) < ln_ h3 (rf_ h3 x0 57)) (Mo_turnsOne_7 h3 x0 x1 x2 x3 x4 (w32 ((rd_ h3 (rf_ h3 x0 57) (w32 ((w32 (4 * x1)) + x2))) + v2)) (w32 ((w32 (4 * x1)) + x2)) (rf_ h3 x0 57)))))))))) else ck_ (0 ≤ x0) (ck_ (0 ≤ (rf_ h x0 58)) (ck_ (0 ≤ x1 ∧ x1 < ln_ h (rf_ h x0 58)) (ck_ (0 ≤ (rf_ h x0 58)) (ck_ (0 ≤ x1 ∧ x1 < ln_ h (rf_ h x0 58)) (some (wr_ h (rf_ h x0 58) x1 (w32 ((rd_ h (rf_ h x0 58) x1) + 1)), 0)))))) := (jj_of bk_252_2 _ _ h).trans ((ff_of bk_252_2 [(22, x0), (0, x1), (0, x2), (0, x3), (0, x4), (9, 0), (9, 0), (9, 0), (9, 0)] [] h).trans (by
  show (if 1 ≤ x4 then JJ 252 4 [(22, x0), (0, x1), (0, x2), (0, x3), (0, x4), (9, 0), (9, 0), (9, 0), (9, 0)] [] h else JJ 252 3 [(22, x0), (0, x1), (0, x2), (0, x3), (0, x4), (9, 0), (9, 0), (9, 0), (9, 0)] [] h) = _
  simp only [jt_252_3, jt_252_4, ck_or1, ck_or2, rf_wr, ln_wr, nn_wr, rf_cp, ln_cp, nn_cp, ln_wf, nn_wf, rd_wf, nn_nw]
  try rfl))
set_option maxRecDepth 20000 in
theorem jt_252_1 (h : am_H) (d5 d6 d7 d8 : am_V) (x0 x1 x2 x3 x4 : Int) : JJ 252 1 [(22, x0), (0, x1), (0, x2), (0, x3), (0, x4), d5, d6, d7, d8] [] h = ck_ (0 ≤ x0) (bd_ (Mo_highOf h x0 x1 x3) fun h1 v2 => if v2 < x4 then ck_ (0 ≤ x0) (ck_ (0 ≤ (rf_ h1 x0 58)) (ck_ (0 ≤ x1 ∧ x1 < ln_ h1 (rf_ h1 x0 58)) (ck_ (0 ≤ (rf_ h1 x0 58)) (ck_ (0 ≤ x1 ∧ x1 < ln_ h1 (rf_ h1 x0 58)) (some (wr_ h1 (rf_ h1 x0 58) x1 (w32 ((rd_ h1 (rf_ h1 x0 58) x1) + 1)), 0)))))) else if 1 ≤ x4 then ck_ (0 ≤ x0) (bd_ (Mo_boundLaw h1 x0 0 x4 999) fun h3 v4 => ck_ (0 ≤ x0) (bd_ (Mo_turnsBy h3 x0 x1 x3 x4) fun h5 _ => ck_ (0 ≤ x0) (ck_ (0 ≤ x0) (ck_ (0 ≤ (rf_ h5 x0 57)) (ck_ (0 ≤ (w32 ((w32 (4 * x1)) + x2)) ∧ (w32 ((w32 (4 * x1)) + x2)) < ln_ h5 (rf_ h5 x0 57)) (if 99999 ≤ (w32 ((rd_ h5 (rf_ h5 x0 57) (w32 ((w32 (4 * x1)) + x2))) + v4)) then Mo_turnsOne_7 h5 x0 x1 x2 x3 x4 99999 (w32 ((w32 (4 * x1)) + x2)) (rf_ h5 x0 57) else ck_ (0 ≤ x0) (ck_ (0 ≤ (rf_ h5 x0 57)) (ck_ (0 ≤ (w32 ((w32 (4 * x1)) + x2)) ∧ (w32 ((w32 (4 * x1)) + x2)) < ln_ h5 (rf_ h5 x0 57)) (Mo_turnsOne_7 h5 x0 x1 x2 x3 x4 (w32 ((rd_ h5 (rf_ h5 x0 57) (w32 ((w32 (4 * x1)) + x2))) + v4)) (w32 ((w32 (4 * x1)) + x2)) (rf_ h5 x0 57)))))))))) else ck_ (0 ≤ x0) (ck_ (0 ≤ (rf_ h1 x0 58)) (ck_ (0 ≤ x1 ∧ x1 < ln_ h1 (rf_ h1 x0 58)) (ck_ (0 ≤ (rf_ h1 x0 58)) (ck_ (0 ≤ x1 ∧ x1 < ln_ h1 (rf_ h1 x0 58)) (some (wr_ h1 (rf_ h1 x0 58) x1 (w32 ((rd_ h1 (rf_ h1 x0 58) x1) + 1)), 0))))))) := (jj_of bk_252_1 _ _ h).trans ((ff_of bk_252_1 [(22, x0), (0, x1), (0, x2), (0, x3), (0, x4), (9, 0), (9, 0), (9, 0), (9, 0)] [] h).trans (by
  show (ck_ (0 ≤ x0) (bd_ (CC 238 [(22, x0), (0, x1), (0, x3)] h) fun h1 v2 => if v2 < x4 then JJ 252 3 [(22, x0), (0, x1), (0, x2), (0, x3), (0, x4), (9, 0), (9, 0), (9, 0), (9, 0)] [] h1 else JJ 252 2 [(22, x0), (0, x1), (0, x2), (0, x3), (0, x4), (9, 0), (9, 0), (9, 0), (9, 0)] [] h1)) = _
  simp only [cc_238, jt_252_2, jt_252_3, ck_or1, ck_or2, rf_wr, ln_wr, nn_wr, rf_cp, ln_cp, nn_cp, ln_wf, nn_wf, rd_wf, nn_nw]
  try rfl))
set_option maxRecDepth 20000 in
theorem Mo_turnsOne_e (h : am_H) (x0 x1 x2 x3 x4 : Int) : Mo_turnsOne h x0 x1 x2 x3 x4 = ck_ (0 ≤ x0) (bd_ (Mo_lay h x0 x1 x2 x3 x4) fun h1 _ => ck_ (0 ≤ x0) (bd_ (Mo_isHeeded h1 x0) fun h3 v4 => if v4 = 0 then ck_ (0 ≤ x0) (ck_ (0 ≤ (rf_ h3 x0 58)) (ck_ (0 ≤ x1 ∧ x1 < ln_ h3 (rf_ h3 x0 58)) (ck_ (0 ≤ (rf_ h3 x0 58)) (ck_ (0 ≤ x1 ∧ x1 < ln_ h3 (rf_ h3 x0 58)) (some (wr_ h3 (rf_ h3 x0 58) x1 (w32 ((rd_ h3 (rf_ h3 x0 58) x1) + 1)), 0)))))) else ck_ (0 ≤ x0) (bd_ (Mo_highOf h3 x0 x1 x3) fun h5 v6 => if v6 < x4 then ck_ (0 ≤ x0) (ck_ (0 ≤ (rf_ h5 x0 58)) (ck_ (0 ≤ x1 ∧ x1 < ln_ h5 (rf_ h5 x0 58)) (ck_ (0 ≤ (rf_ h5 x0 58)) (ck_ (0 ≤ x1 ∧ x1 < ln_ h5 (rf_ h5 x0 58)) (some (wr_ h5 (rf_ h5 x0 58) x1 (w32 ((rd_ h5 (rf_ h5 x0 58) x1) + 1)), 0)))))) else if 1 ≤ x4 then ck_ (0 ≤ x0) (bd_ (Mo_boundLaw h5 x0 0 x4 999) fun h7 v8 => ck_ (0 ≤ x0) (bd_ (Mo_turnsBy h7 x0 x1 x3 x4) fun h9 _ => ck_ (0 ≤ x0) (ck_ (0 ≤ x0) (ck_ (0 ≤ (rf_ h9 x0 57)) (ck_ (0 ≤ (w32 ((w32 (4 * x1)) + x2)) ∧ (w32 ((w32 (4 * x1)) + x2)) < ln_ h9 (rf_ h9 x0 57)) (if 99999 ≤ (w32 ((rd_ h9 (rf_ h9 x0 57) (w32 ((w32 (4 * x1)) + x2))) + v8)) then Mo_turnsOne_7 h9 x0 x1 x2 x3 x4 99999 (w32 ((w32 (4 * x1)) + x2)) (rf_ h9 x0 57) else ck_ (0 ≤ x0) (ck_ (0 ≤ (rf_ h9 x0 57)) (ck_ (0 ≤ (w32 ((w32 (4 * x1)) + x2)) ∧ (w32 ((w32 (4 * x1)) + x2)) < ln_ h9 (rf_ h9 x0 57)) (Mo_turnsOne_7 h9 x0 x1 x2 x3 x4 (w32 ((rd_ h9 (rf_ h9 x0 57) (w32 ((w32 (4 * x1)) + x2))) + v8)) (w32 ((w32 (4 * x1)) + x2)) (rf_ h9 x0 57)))))))))) else ck_ (0 ≤ x0) (ck_ (0 ≤ (rf_ h5 x0 58)) (ck_ (0 ≤ x1 ∧ x1 < ln_ h5 (rf_ h5 x0 58)) (ck_ (0 ≤ (rf_ h5 x0 58)) (ck_ (0 ≤ x1 ∧ x1 < ln_ h5 (rf_ h5 x0 58)) (some (wr_ h5 (rf_ h5 x0 58) x1 (w32 ((rd_ h5 (rf_ h5 x0 58) x1) + 1)), 0))))))))) := (ff_of bk_252_0 [(22, x0), (0, x1), (0, x2), (0, x3), (0, x4), (9, 0), (9, 0), (9, 0), (9, 0)] [] h).trans (by
  show (ck_ (0 ≤ x0) (bd_ (CC 247 [(22, x0), (0, x1), (0, x2), (0, x3), (0, x4)] h) fun h1 _ => ck_ (0 ≤ x0) (bd_ (CC 250 [(22, x0)] h1) fun h3 v4 => if v4 = 0 then JJ 252 3 [(22, x0), (0, x1), (0, x2), (0, x3), (0, x4), (9, 0), (9, 0), (9, 0), (9, 0)] [] h3 else JJ 252 1 [(22, x0), (0, x1), (0, x2), (0, x3), (0, x4), (9, 0), (9, 0), (9, 0), (9, 0)] [] h3))) = _
  simp only [cc_250, cc_247, jt_252_1, jt_252_3, ck_or1, ck_or2, rf_wr, ln_wr, nn_wr, rf_cp, ln_cp, nn_cp, ln_wf, nn_wf, rd_wf, nn_nw]
  try rfl)
theorem jt_252_13 (h : am_H) (d2 d4 d5 d6 d7 d8 : am_V) (x0 x1 x3 : Int) : JJ 252 13 [(22, x0), (0, x1), d2, (0, x3), d4, d5, d6, d7, d8] [] h = Mo_turnsOne_15 h x0 x1 x3 1 := (jj_of bk_252_13 _ _ h).trans ((ff_of bk_252_13 [(22, x0), (0, x1), (9, 0), (0, x3), (9, 0), (9, 0), (9, 0), (9, 0), (9, 0)] [] h).trans (by
  show (JJ 252 15 [(22, x0), (0, x1), (9, 0), (0, x3), (9, 0), (9, 0), (9, 0), (9, 0), (9, 0)] [(0, 1)] h) = _
  simp only [jt_252_15, ck_or1, ck_or2, rf_wr, ln_wr, nn_wr, rf_cp, ln_cp, nn_cp, ln_wf, nn_wf, rd_wf, nn_nw]
  try rfl))
theorem jt_252_14 (h : am_H) (d2 d4 d5 d6 d7 d8 : am_V) (x0 x1 x3 : Int) : JJ 252 14 [(22, x0), (0, x1), d2, (0, x3), d4, d5, d6, d7, d8] [] h = Mo_turnsOne_15 h x0 x1 x3 0 := (jj_of bk_252_14 _ _ h).trans ((ff_of bk_252_14 [(22, x0), (0, x1), (9, 0), (0, x3), (9, 0), (9, 0), (9, 0), (9, 0), (9, 0)] [] h).trans (by
  show (JJ 252 15 [(22, x0), (0, x1), (9, 0), (0, x3), (9, 0), (9, 0), (9, 0), (9, 0), (9, 0)] [(0, 0)] h) = _
  simp only [jt_252_15, ck_or1, ck_or2, rf_wr, ln_wr, nn_wr, rf_cp, ln_cp, nn_cp, ln_wf, nn_wf, rd_wf, nn_nw]
  try rfl))
theorem jt_252_12 (h : am_H) (d2 d4 d5 d6 d8 : am_V) (x0 x1 x3 x7 : Int) : JJ 252 12 [(22, x0), (0, x1), d2, (0, x3), d4, d5, d6, (0, x7), d8] [] h = if x7 < 50 then Mo_turnsOne_15 h x0 x1 x3 0 else Mo_turnsOne_15 h x0 x1 x3 1 := (jj_of bk_252_12 _ _ h).trans ((ff_of bk_252_12 [(22, x0), (0, x1), (9, 0), (0, x3), (9, 0), (9, 0), (9, 0), (0, x7), (9, 0)] [] h).trans (by
  show (if x7 < 50 then JJ 252 14 [(22, x0), (0, x1), (9, 0), (0, x3), (9, 0), (9, 0), (9, 0), (0, x7), (9, 0)] [] h else JJ 252 13 [(22, x0), (0, x1), (9, 0), (0, x3), (9, 0), (9, 0), (9, 0), (0, x7), (9, 0)] [] h) = _
  simp only [jt_252_13, jt_252_14, ck_or1, ck_or2, rf_wr, ln_wr, nn_wr, rf_cp, ln_cp, nn_cp, ln_wf, nn_wf, rd_wf, nn_nw]
  try rfl))
theorem jt_252_11 (h : am_H) (d2 d4 d5 d6 d7 d8 : am_V) (x0 x1 x3 : Int) : JJ 252 11 [(22, x0), (0, x1), d2, (0, x3), d4, d5, d6, d7, d8] [] h = Mo_turnsOne_15 h x0 x1 x3 1 := (jj_of bk_252_11 _ _ h).trans ((ff_of bk_252_11 [(22, x0), (0, x1), (9, 0), (0, x3), (9, 0), (9, 0), (9, 0), (9, 0), (9, 0)] [] h).trans (by
  show (JJ 252 13 [(22, x0), (0, x1), (9, 0), (0, x3), (9, 0), (9, 0), (9, 0), (9, 0), (9, 0)] [] h) = _
  simp only [jt_252_13, ck_or1, ck_or2, rf_wr, ln_wr, nn_wr, rf_cp, ln_cp, nn_cp, ln_wf, nn_wf, rd_wf, nn_nw]
  try rfl))
theorem jt_252_10 (h : am_H) (d2 d4 d5 d6 d8 : am_V) (x0 x1 x3 x7 : Int) : JJ 252 10 [(22, x0), (0, x1), d2, (0, x3), d4, d5, d6, (0, x7), d8] [] h = ck_ (0 ≤ x0) (bd_ (Mo_number1 h x0 100) fun h1 v2 => if x7 ≤ v2 then Mo_turnsOne_15 h1 x0 x1 x3 0 else Mo_turnsOne_15 h1 x0 x1 x3 1) := (jj_of bk_252_10 _ _ h).trans ((ff_of bk_252_10 [(22, x0), (0, x1), (9, 0), (0, x3), (9, 0), (9, 0), (9, 0), (0, x7), (9, 0)] [] h).trans (by
  show (ck_ (0 ≤ x0) (bd_ (CC 251 [(22, x0), (0, 100)] h) fun h1 v2 => if x7 ≤ v2 then JJ 252 14 [(22, x0), (0, x1), (9, 0), (0, x3), (9, 0), (9, 0), (9, 0), (0, x7), (9, 0)] [] h1 else JJ 252 11 [(22, x0), (0, x1), (9, 0), (0, x3), (9, 0), (9, 0), (9, 0), (0, x7), (9, 0)] [] h1)) = _
  simp only [cc_251, jt_252_11, jt_252_14, ck_or1, ck_or2, rf_wr, ln_wr, nn_wr, rf_cp, ln_cp, nn_cp, ln_wf, nn_wf, rd_wf, nn_nw]
  try rfl))
theorem jt_252_9 (h : am_H) (d2 d4 d5 d6 d8 : am_V) (x0 x1 x3 x7 : Int) : JJ 252 9 [(22, x0), (0, x1), d2, (0, x3), d4, d5, d6, (0, x7), d8] [] h = ck_ (0 ≤ x0) (if (rd_ h x0 61) = 0 then (if x7 < 50 then Mo_turnsOne_15 h x0 x1 x3 0 else Mo_turnsOne_15 h x0 x1 x3 1) else ck_ (0 ≤ x0) (bd_ (Mo_number1 h x0 100) fun h1 v2 => if x7 ≤ v2 then Mo_turnsOne_15 h1 x0 x1 x3 0 else Mo_turnsOne_15 h1 x0 x1 x3 1)) := (jj_of bk_252_9 _ _ h).trans ((ff_of bk_252_9 [(22, x0), (0, x1), (9, 0), (0, x3), (9, 0), (9, 0), (9, 0), (0, x7), (9, 0)] [] h).trans (by
  show (ck_ (0 ≤ x0) (if (rd_ h x0 61) = 0 then JJ 252 12 [(22, x0), (0, x1), (9, 0), (0, x3), (9, 0), (9, 0), (9, 0), (0, x7), (9, 0)] [] h else JJ 252 10 [(22, x0), (0, x1), (9, 0), (0, x3), (9, 0), (9, 0), (9, 0), (0, x7), (9, 0)] [] h)) = _
  simp only [jt_252_10, jt_252_12, ck_or1, ck_or2, rf_wr, ln_wr, nn_wr, rf_cp, ln_cp, nn_cp, ln_wf, nn_wf, rd_wf, nn_nw]
  try rfl))
theorem jt_252_8 (h : am_H) (d2 d4 d5 d6 d8 : am_V) (x0 x1 x3 x7 : Int) : JJ 252 8 [(22, x0), (0, x1), d2, (0, x3), d4, d5, d6, (0, x7), d8] [] h = if x7 ≤ 0 then Mo_turnsOne_15 h x0 x1 x3 0 else ck_ (0 ≤ x0) (if (rd_ h x0 61) = 0 then (if x7 < 50 then Mo_turnsOne_15 h x0 x1 x3 0 else Mo_turnsOne_15 h x0 x1 x3 1) else ck_ (0 ≤ x0) (bd_ (Mo_number1 h x0 100) fun h1 v2 => if x7 ≤ v2 then Mo_turnsOne_15 h1 x0 x1 x3 0 else Mo_turnsOne_15 h1 x0 x1 x3 1)) := (jj_of bk_252_8 _ _ h).trans ((ff_of bk_252_8 [(22, x0), (0, x1), (9, 0), (0, x3), (9, 0), (9, 0), (9, 0), (0, x7), (9, 0)] [] h).trans (by
  show (if x7 ≤ 0 then JJ 252 14 [(22, x0), (0, x1), (9, 0), (0, x3), (9, 0), (9, 0), (9, 0), (0, x7), (9, 0)] [] h else JJ 252 9 [(22, x0), (0, x1), (9, 0), (0, x3), (9, 0), (9, 0), (9, 0), (0, x7), (9, 0)] [] h) = _
  simp only [jt_252_14, jt_252_9, ck_or1, ck_or2, rf_wr, ln_wr, nn_wr, rf_cp, ln_cp, nn_cp, ln_wf, nn_wf, rd_wf, nn_nw]
  try rfl))
set_option maxRecDepth 20000 in
theorem Mo_turnsOne_7_e (h : am_H) (x0 x1 x2 x3 x4 s0 s1 s2 : Int) : Mo_turnsOne_7 h x0 x1 x2 x3 x4 s0 s1 s2 = ck_ (0 ≤ s2) (ck_ (0 ≤ s1 ∧ s1 < ln_ h s2) (ck_ (0 ≤ x0) (bd_ (Mo_lay (wr_ h s2 s1 s0) x0 x1 x2 x3 x4) fun h1 _ => ck_ (0 ≤ x0) (ck_ (0 ≤ x0) (bd_ (Mo_sizeAt h1 x0 x1 x3 0) fun h3 v4 => ck_ (0 ≤ (rf_ h1 x0 49)) (ck_ (0 ≤ (0 : Int) ∧ (0 : Int) < ln_ h3 (rf_ h1 x0 49)) (ck_ (0 ≤ x0) (ck_ (0 ≤ (rf_ h3 x0 23)) (ck_ (0 ≤ (0 : Int) ∧ (0 : Int) < ln_ h3 (rf_ h3 x0 23)) (ck_ (0 ≤ x0) (bd_ (Mo_boundLaw (wr_ h3 (rf_ h1 x0 49) 0 v4) x0 1 (rd_ (wr_ h3 (rf_ h1 x0 49) 0 v4) (rf_ h3 x0 23) 0) 100) fun h5 v6 => if v6 = 100 then Mo_turnsOne_15 h5 x0 x1 x3 1 else if v6 ≤ 0 then Mo_turnsOne_15 h5 x0 x1 x3 0 else ck_ (0 ≤ x0) (if (rd_ h5 x0 61) = 0 then (if v6 < 50 then Mo_turnsOne_15 h5 x0 x1 x3 0 else Mo_turnsOne_15 h5 x0 x1 x3 1) else ck_ (0 ≤ x0) (bd_ (Mo_number1 h5 x0 100) fun h7 v8 => if v6 ≤ v8 then Mo_turnsOne_15 h7 x0 x1 x3 0 else Mo_turnsOne_15 h7 x0 x1 x3 1))))))))))))) := (ff_of bk_252_7 [(22, x0), (0, x1), (0, x2), (0, x3), (0, x4), (9, 0), (9, 0), (9, 0), (9, 0)] [(0, s0), (0, s1), (30, s2)] h).trans (by
  show (ck_ (0 ≤ s2) (ck_ (0 ≤ s1 ∧ s1 < ln_ h s2) (ck_ (0 ≤ x0) (bd_ (CC 247 [(22, x0), (0, x1), (0, x2), (0, x3), (0, x4)] (wr_ h s2 s1 s0)) fun h1 _ => ck_ (0 ≤ x0) (ck_ (0 ≤ x0) (bd_ (CC 240 [(22, x0), (0, x1), (0, x3), (0, 0)] h1) fun h3 v4 => ck_ (0 ≤ (rf_ h1 x0 49)) (ck_ (0 ≤ (0 : Int) ∧ (0 : Int) < ln_ h3 (rf_ h1 x0 49)) (ck_ (0 ≤ x0) (ck_ (0 ≤ (rf_ h3 x0 23)) (ck_ (0 ≤ (0 : Int) ∧ (0 : Int) < ln_ h3 (rf_ h3 x0 23)) (ck_ (0 ≤ x0) (bd_ (CC 249 [(22, x0), (0, 1), (0, rd_ (wr_ h3 (rf_ h1 x0 49) 0 v4) (rf_ h3 x0 23) 0), (0, 100)] (wr_ h3 (rf_ h1 x0 49) 0 v4)) fun h5 v6 => if v6 = 100 then JJ 252 13 [(22, x0), (0, x1), (0, x2), (0, x3), (0, x4), (9, 0), (9, 0), (0, v6), (9, 0)] [] h5 else JJ 252 8 [(22, x0), (0, x1), (0, x2), (0, x3), (0, x4), (9, 0), (9, 0), (0, v6), (9, 0)] [] h5)))))))))))) = _
  simp only [cc_249, cc_247, cc_240, jt_252_13, jt_252_8, ck_or1, ck_or2, rf_wr, ln_wr, nn_wr, rf_cp, ln_cp, nn_cp, ln_wf, nn_wf, rd_wf, nn_nw]
  try rfl)
theorem jt_252_17 (h : am_H) (d0 d1 d2 d3 d4 d5 d6 d7 d8 : am_V) : JJ 252 17 [d0, d1, d2, d3, d4, d5, d6, d7, d8] [] h = some (h, 0) := (jj_of bk_252_17 _ _ h).trans (ff_of bk_252_17 [(9, 0), (9, 0), (9, 0), (9, 0), (9, 0), (9, 0), (9, 0), (9, 0), (9, 0)] [] h)
theorem jt_252_16 (h : am_H) (d2 d4 d5 d6 d7 d8 : am_V) (x0 x1 x3 : Int) : JJ 252 16 [(22, x0), (0, x1), d2, (0, x3), d4, d5, d6, d7, d8] [] h = ck_ (0 ≤ x0) (ck_ (0 ≤ x0) (bd_ (Mo_plateAt h x0 x1 x3 0) fun h1 v2 => ck_ (0 ≤ (rf_ h x0 56)) (ck_ (0 ≤ (w32 ((w32 (20 * x1)) + v2)) ∧ (w32 ((w32 (20 * x1)) + v2)) < ln_ h1 (rf_ h x0 56)) (some (wr_ h1 (rf_ h x0 56) (w32 ((w32 (20 * x1)) + v2)) 1, 0))))) := (jj_of bk_252_16 _ _ h).trans ((ff_of bk_252_16 [(22, x0), (0, x1), (9, 0), (0, x3), (9, 0), (9, 0), (9, 0), (9, 0), (9, 0)] [] h).trans (by
  show (ck_ (0 ≤ x0) (ck_ (0 ≤ x0) (bd_ (CC 239 [(22, x0), (0, x1), (0, x3), (0, 0)] h) fun h1 v2 => ck_ (0 ≤ (rf_ h x0 56)) (ck_ (0 ≤ (w32 ((w32 (20 * x1)) + v2)) ∧ (w32 ((w32 (20 * x1)) + v2)) < ln_ h1 (rf_ h x0 56)) (JJ 252 17 [(22, x0), (0, x1), (9, 0), (0, x3), (9, 0), (9, 0), (9, 0), (9, 0), (9, 0)] [] (wr_ h1 (rf_ h x0 56) (w32 ((w32 (20 * x1)) + v2)) 1)))))) = _
  simp only [cc_239, jt_252_17, ck_or1, ck_or2, rf_wr, ln_wr, nn_wr, rf_cp, ln_cp, nn_cp, ln_wf, nn_wf, rd_wf, nn_nw]
  try rfl))
theorem Mo_turnsOne_15_e (h : am_H) (x0 x1 x3 s0 : Int) : Mo_turnsOne_15 h x0 x1 x3 s0 = if s0 = 0 then some (h, 0) else ck_ (0 ≤ x0) (ck_ (0 ≤ x0) (bd_ (Mo_plateAt h x0 x1 x3 0) fun h1 v2 => ck_ (0 ≤ (rf_ h x0 56)) (ck_ (0 ≤ (w32 ((w32 (20 * x1)) + v2)) ∧ (w32 ((w32 (20 * x1)) + v2)) < ln_ h1 (rf_ h x0 56)) (some (wr_ h1 (rf_ h x0 56) (w32 ((w32 (20 * x1)) + v2)) 1, 0))))) := (ff_of bk_252_15 [(22, x0), (0, x1), (9, 0), (0, x3), (9, 0), (9, 0), (9, 0), (9, 0), (9, 0)] [(0, s0)] h).trans (by
  show (if s0 = 0 then JJ 252 17 [(22, x0), (0, x1), (9, 0), (0, x3), (9, 0), (9, 0), (9, 0), (9, 0), (0, s0)] [] h else JJ 252 16 [(22, x0), (0, x1), (9, 0), (0, x3), (9, 0), (9, 0), (9, 0), (9, 0), (0, s0)] [] h) = _
  simp only [jt_252_16, jt_252_17, ck_or1, ck_or2, rf_wr, ln_wr, nn_wr, rf_cp, ln_cp, nn_cp, ln_wf, nn_wf, rd_wf, nn_nw]
  try rfl)
theorem cc_252 (h : am_H) (x0 x1 x2 x3 x4 : Int) : CC 252 [(22, x0), (0, x1), (0, x2), (0, x3), (0, x4)] h = Mo_turnsOne h x0 x1 x2 x3 x4 := cc_of pk_252 _ h
set_option maxRecDepth 20000 in
theorem pk_253 : am_prog 253 = some cd_253 := rfl
theorem bk_253_0 : bk_ am_prog 253 0 = some ([true, true, false, false, false, false], (bl_253_0, 1)) := bk_of pk_253 rfl
theorem bk_253_1 : bk_ am_prog 253 1 = some ([true, true, true, false, false, false], (bl_253_1, 9999)) := bk_of pk_253 rfl
theorem bk_253_2 : bk_ am_prog 253 2 = some ([true, true, true, false, false, false], (bl_253_2, 9999)) := bk_of pk_253 rfl
theorem bk_253_3 : bk_ am_prog 253 3 = some ([true, true, true, false, false, false], (bl_253_3, 9999)) := bk_of pk_253 rfl
theorem bk_253_4 : bk_ am_prog 253 4 = some ([true, true, true, false, false, false], (bl_253_4, 9999)) := bk_of pk_253 rfl
theorem bk_253_5 : bk_ am_prog 253 5 = some ([true, true, true, false, false, false], (bl_253_5, 6)) := bk_of pk_253 rfl
theorem bk_253_6 : bk_ am_prog 253 6 = some ([true, true, true, true, true, false], (bl_253_6, 9999)) := bk_of pk_253 rfl
theorem bk_253_7 : bk_ am_prog 253 7 = some ([true, true, true, true, true, false], (bl_253_7, 9999)) := bk_of pk_253 rfl
theorem bk_253_8 : bk_ am_prog 253 8 = some ([true, true, true, true, true, false], (bl_253_8, 9)) := bk_of pk_253 rfl
theorem bk_253_9 : bk_ am_prog 253 9 = some ([true, true, true, true, true, false], (bl_253_9, 9999)) := bk_of pk_253 rfl
theorem bk_253_10 : bk_ am_prog 253 10 = some ([true, true, true, true, true, false], (bl_253_10, 9999)) := bk_of pk_253 rfl
theorem bk_253_11 : bk_ am_prog 253 11 = some ([true, true, true, true, true, false], (bl_253_11, 9999)) := bk_of pk_253 rfl
theorem bk_253_12 : bk_ am_prog 253 12 = some ([true, true, true, true, true, false], (bl_253_12, 13)) := bk_of pk_253 rfl
theorem bk_253_13 : bk_ am_prog 253 13 = some ([true, true, true, true, true, false], (bl_253_13, 9999)) := bk_of pk_253 rfl
theorem bk_253_14 : bk_ am_prog 253 14 = some ([true, true, true, true, true, false], (bl_253_14, 9999)) := bk_of pk_253 rfl
theorem bk_253_15 : bk_ am_prog 253 15 = some ([true, true, true, true, true, true], (bl_253_15, 9999)) := bk_of pk_253 rfl
theorem bk_253_16 : bk_ am_prog 253 16 = some ([true, true, true, true, true, true], (bl_253_16, 9999)) := bk_of pk_253 rfl
theorem bk_253_17 : bk_ am_prog 253 17 = some ([true, true, true, true, true, true], (bl_253_17, 18)) := bk_of pk_253 rfl
theorem bk_253_18 : bk_ am_prog 253 18 = some ([true, true, true, true, true, false], (bl_253_18, 9999)) := bk_of pk_253 rfl
theorem bk_253_19 : bk_ am_prog 253 19 = some ([true, true, true, false, false, false], (bl_253_19, 9999)) := bk_of pk_253 rfl
theorem bk_253_20 : bk_ am_prog 253 20 = some ([true, true, false, false, false, false], (bl_253_20, 9999)) := bk_of pk_253 rfl
theorem jt_253_1 (h : am_H) (d3 d4 d5 : am_V) (x0 x1 x2 : Int) : JJ 253 1 [(22, x0), (0, x1), (0, x2), d3, d4, d5] [] h = Mo_minuteGoes_1 h x0 x1 x2 := jj_of bk_253_1 _ _ h
theorem jt_253_6 (h : am_H) (d5 : am_V) (x0 x1 x2 x3 x4 : Int) : JJ 253 6 [(22, x0), (0, x1), (0, x2), (0, x3), (0, x4), d5] [] h = Mo_minuteGoes_6 h x0 x1 x2 x3 x4 := jj_of bk_253_6 _ _ h
theorem jt_253_9 (h : am_H) (d5 : am_V) (x0 x1 x2 x3 x4 s0 s1 : Int) : JJ 253 9 [(22, x0), (0, x1), (0, x2), (0, x3), (0, x4), d5] [(0, s0), (0, s1)] h = Mo_minuteGoes_9 h x0 x1 x2 x3 x4 s0 s1 := jj_of bk_253_9 _ _ h
theorem jt_253_13 (h : am_H) (d5 : am_V) (x0 x1 x2 x3 x4 s0 : Int) : JJ 253 13 [(22, x0), (0, x1), (0, x2), (0, x3), (0, x4), d5] [(0, s0)] h = Mo_minuteGoes_13 h x0 x1 x2 x3 x4 s0 := jj_of bk_253_13 _ _ h
theorem Mo_minuteGoes_e (h : am_H) (x0 x1 : Int) : Mo_minuteGoes h x0 x1 = Mo_minuteGoes_1 h x0 x1 0 := (ff_of bk_253_0 [(22, x0), (0, x1), (9, 0), (9, 0), (9, 0), (9, 0)] [] h).trans (by
  show (JJ 253 1 [(22, x0), (0, x1), (0, 0), (9, 0), (9, 0), (9, 0)] [] h) = _
  simp only [jt_253_1, ck_or1, ck_or2, rf_wr, ln_wr, nn_wr, rf_cp, ln_cp, nn_cp, ln_wf, nn_wf, rd_wf, nn_nw]
  try rfl)
theorem jt_253_20 (h : am_H) (d2 d3 d4 d5 : am_V) (x0 x1 : Int) : JJ 253 20 [(22, x0), (0, x1), d2, d3, d4, d5] [] h = ck_ (0 ≤ x0) (ck_ (0 ≤ (rf_ h x0 59)) (ck_ (0 ≤ x1 ∧ x1 < ln_ h (rf_ h x0 59)) (ck_ (0 ≤ (rf_ h x0 59)) (ck_ (0 ≤ x1 ∧ x1 < ln_ h (rf_ h x0 59)) (some (wr_ h (rf_ h x0 59) x1 (w32 ((rd_ h (rf_ h x0 59) x1) + 1)), 0)))))) := (jj_of bk_253_20 _ _ h).trans (ff_of bk_253_20 [(22, x0), (0, x1), (9, 0), (9, 0), (9, 0), (9, 0)] [] h)
theorem jt_253_19 (h : am_H) (d3 d4 d5 : am_V) (x0 x1 x2 : Int) : JJ 253 19 [(22, x0), (0, x1), (0, x2), d3, d4, d5] [] h = Mo_minuteGoes_1 h x0 x1 (w32 (x2 + 1)) := (jj_of bk_253_19 _ _ h).trans ((ff_of bk_253_19 [(22, x0), (0, x1), (0, x2), (9, 0), (9, 0), (9, 0)] [] h).trans (by
  show (JJ 253 1 [(22, x0), (0, x1), (0, w32 (x2 + 1)), (9, 0), (9, 0), (9, 0)] [] h) = _
  simp only [jt_253_1, ck_or1, ck_or2, rf_wr, ln_wr, nn_wr, rf_cp, ln_cp, nn_cp, ln_wf, nn_wf, rd_wf, nn_nw]
  try rfl))
theorem jt_253_5 (h : am_H) (d3 d4 d5 : am_V) (x0 x1 x2 : Int) : JJ 253 5 [(22, x0), (0, x1), (0, x2), d3, d4, d5] [] h = ck_ (0 ≤ x0) (ck_ (0 ≤ (rf_ h x0 32)) (ck_ (0 ≤ x2 ∧ x2 < ln_ h (rf_ h x0 32)) (Mo_minuteGoes_6 h x0 x1 x2 (rd_ h (rf_ h x0 32) x2) 0))) := (jj_of bk_253_5 _ _ h).trans ((ff_of bk_253_5 [(22, x0), (0, x1), (0, x2), (9, 0), (9, 0), (9, 0)] [] h).trans (by
  show (ck_ (0 ≤ x0) (ck_ (0 ≤ (rf_ h x0 32)) (ck_ (0 ≤ x2 ∧ x2 < ln_ h (rf_ h x0 32)) (JJ 253 6 [(22, x0), (0, x1), (0, x2), (0, rd_ h (rf_ h x0 32) x2), (0, 0), (9, 0)] [] h)))) = _
  simp only [jt_253_6, ck_or1, ck_or2, rf_wr, ln_wr, nn_wr, rf_cp, ln_cp, nn_cp, ln_wf, nn_wf, rd_wf, nn_nw]
  try rfl))
theorem jt_253_4 (h : am_H) (d3 d4 d5 : am_V) (x0 x1 x2 : Int) : JJ 253 4 [(22, x0), (0, x1), (0, x2), d3, d4, d5] [] h = Mo_minuteGoes_1 h x0 x1 (w32 (x2 + 1)) := (jj_of bk_253_4 _ _ h).trans ((ff_of bk_253_4 [(22, x0), (0, x1), (0, x2), (9, 0), (9, 0), (9, 0)] [] h).trans (by
  show (JJ 253 19 [(22, x0), (0, x1), (0, x2), (9, 0), (9, 0), (9, 0)] [] h) = _
  simp only [jt_253_19, ck_or1, ck_or2, rf_wr, ln_wr, nn_wr, rf_cp, ln_cp, nn_cp, ln_wf, nn_wf, rd_wf, nn_nw]
  try rfl))
theorem jt_253_3 (h : am_H) (d3 d4 d5 : am_V) (x0 x1 x2 : Int) : JJ 253 3 [(22, x0), (0, x1), (0, x2), d3, d4, d5] [] h = ck_ (0 ≤ x0) (ck_ (0 ≤ (rf_ h x0 31)) (ck_ (0 ≤ x2 ∧ x2 < ln_ h (rf_ h x0 31)) (ck_ (0 ≤ x0) (if (rd_ h (rf_ h x0 31) x2) ≠ (rd_ h x0 66) then ck_ (0 ≤ x0) (ck_ (0 ≤ (rf_ h x0 32)) (ck_ (0 ≤ x2 ∧ x2 < ln_ h (rf_ h x0 32)) (Mo_minuteGoes_6 h x0 x1 x2 (rd_ h (rf_ h x0 32) x2) 0))) else Mo_minuteGoes_1 h x0 x1 (w32 (x2 + 1)))))) := (jj_of bk_253_3 _ _ h).trans ((ff_of bk_253_3 [(22, x0), (0, x1), (0, x2), (9, 0), (9, 0), (9, 0)] [] h).trans (by
  show (ck_ (0 ≤ x0) (ck_ (0 ≤ (rf_ h x0 31)) (ck_ (0 ≤ x2 ∧ x2 < ln_ h (rf_ h x0 31)) (ck_ (0 ≤ x0) (if (rd_ h (rf_ h x0 31) x2) ≠ (rd_ h x0 66) then JJ 253 5 [(22, x0), (0, x1), (0, x2), (9, 0), (9, 0), (9, 0)] [] h else JJ 253 4 [(22, x0), (0, x1), (0, x2), (9, 0), (9, 0), (9, 0)] [] h))))) = _
  simp only [jt_253_4, jt_253_5, ck_or1, ck_or2, rf_wr, ln_wr, nn_wr, rf_cp, ln_cp, nn_cp, ln_wf, nn_wf, rd_wf, nn_nw]
  try rfl))
set_option maxRecDepth 20000 in
theorem jt_253_2 (h : am_H) (d3 d4 d5 : am_V) (x0 x1 x2 : Int) : JJ 253 2 [(22, x0), (0, x1), (0, x2), d3, d4, d5] [] h = ck_ (0 ≤ x0) (ck_ (0 ≤ (rf_ h x0 34)) (ck_ (0 ≤ x2 ∧ x2 < ln_ h (rf_ h x0 34)) (ck_ (0 ≤ x0) (ck_ (0 ≤ (rf_ h x0 59)) (ck_ (0 ≤ x1 ∧ x1 < ln_ h (rf_ h x0 59)) (if (rd_ h (rf_ h x0 34) x2) ≠ (rd_ h (rf_ h x0 59) x1) then Mo_minuteGoes_1 h x0 x1 (w32 (x2 + 1)) else ck_ (0 ≤ x0) (ck_ (0 ≤ (rf_ h x0 31)) (ck_ (0 ≤ x2 ∧ x2 < ln_ h (rf_ h x0 31)) (ck_ (0 ≤ x0) (if (rd_ h (rf_ h x0 31) x2) ≠ (rd_ h x0 66) then ck_ (0 ≤ x0) (ck_ (0 ≤ (rf_ h x0 32)) (ck_ (0 ≤ x2 ∧ x2 < ln_ h (rf_ h x0 32)) (Mo_minuteGoes_6 h x0 x1 x2 (rd_ h (rf_ h x0 32) x2) 0))) else Mo_minuteGoes_1 h x0 x1 (w32 (x2 + 1)))))))))))) := (jj_of bk_253_2 _ _ h).trans ((ff_of bk_253_2 [(22, x0), (0, x1), (0, x2), (9, 0), (9, 0), (9, 0)] [] h).trans (by
  show (ck_ (0 ≤ x0) (ck_ (0 ≤ (rf_ h x0 34)) (ck_ (0 ≤ x2 ∧ x2 < ln_ h (rf_ h x0 34)) (ck_ (0 ≤ x0) (ck_ (0 ≤ (rf_ h x0 59)) (ck_ (0 ≤ x1 ∧ x1 < ln_ h (rf_ h x0 59)) (if (rd_ h (rf_ h x0 34) x2) ≠ (rd_ h (rf_ h x0 59) x1) then JJ 253 19 [(22, x0), (0, x1), (0, x2), (9, 0), (9, 0), (9, 0)] [] h else JJ 253 3 [(22, x0), (0, x1), (0, x2), (9, 0), (9, 0), (9, 0)] [] h))))))) = _
  simp only [jt_253_19, jt_253_3, ck_or1, ck_or2, rf_wr, ln_wr, nn_wr, rf_cp, ln_cp, nn_cp, ln_wf, nn_wf, rd_wf, nn_nw]
  try rfl))
set_option maxRecDepth 20000 in
theorem Mo_minuteGoes_1_e (h : am_H) (x0 x1 x2 : Int) : Mo_minuteGoes_1 h x0 x1 x2 = ck_ (0 ≤ x0) (if (rd_ h x0 15) ≤ x2 then ck_ (0 ≤ x0) (ck_ (0 ≤ (rf_ h x0 59)) (ck_ (0 ≤ x1 ∧ x1 < ln_ h (rf_ h x0 59)) (ck_ (0 ≤ (rf_ h x0 59)) (ck_ (0 ≤ x1 ∧ x1 < ln_ h (rf_ h x0 59)) (some (wr_ h (rf_ h x0 59) x1 (w32 ((rd_ h (rf_ h x0 59) x1) + 1)), 0)))))) else ck_ (0 ≤ x0) (ck_ (0 ≤ (rf_ h x0 34)) (ck_ (0 ≤ x2 ∧ x2 < ln_ h (rf_ h x0 34)) (ck_ (0 ≤ x0) (ck_ (0 ≤ (rf_ h x0 59)) (ck_ (0 ≤ x1 ∧ x1 < ln_ h (rf_ h x0 59)) (if (rd_ h (rf_ h x0 34) x2) ≠ (rd_ h (rf_ h x0 59) x1) then Mo_minuteGoes_1 h x0 x1 (w32 (x2 + 1)) else ck_ (0 ≤ x0) (ck_ (0 ≤ (rf_ h x0 31)) (ck_ (0 ≤ x2 ∧ x2 < ln_ h (rf_ h x0 31)) (ck_ (0 ≤ x0) (if (rd_ h (rf_ h x0 31) x2) ≠ (rd_ h x0 66) then ck_ (0 ≤ x0) (ck_ (0 ≤ (rf_ h x0 32)) (ck_ (0 ≤ x2 ∧ x2 < ln_ h (rf_ h x0 32)) (Mo_minuteGoes_6 h x0 x1 x2 (rd_ h (rf_ h x0 32) x2) 0))) else Mo_minuteGoes_1 h x0 x1 (w32 (x2 + 1))))))))))))) := (ff_of bk_253_1 [(22, x0), (0, x1), (0, x2), (9, 0), (9, 0), (9, 0)] [] h).trans (by
  show (ck_ (0 ≤ x0) (if (rd_ h x0 15) ≤ x2 then JJ 253 20 [(22, x0), (0, x1), (0, x2), (9, 0), (9, 0), (9, 0)] [] h else JJ 253 2 [(22, x0), (0, x1), (0, x2), (9, 0), (9, 0), (9, 0)] [] h)) = _
  simp only [jt_253_2, jt_253_20, ck_or1, ck_or2, rf_wr, ln_wr, nn_wr, rf_cp, ln_cp, nn_cp, ln_wf, nn_wf, rd_wf, nn_nw]
  try rfl)
theorem jt_253_8 (h : am_H) (d5 : am_V) (x0 x1 x2 x3 x4 s0 : Int) : JJ 253 8 [(22, x0), (0, x1), (0, x2), (0, x3), (0, x4), d5] [(0, s0)] h = Mo_minuteGoes_9 h x0 x1 x2 x3 x4 1 s0 := (jj_of bk_253_8 _ _ h).trans ((ff_of bk_253_8 [(22, x0), (0, x1), (0, x2), (0, x3), (0, x4), (9, 0)] [(0, s0)] h).trans (by
  show (JJ 253 9 [(22, x0), (0, x1), (0, x2), (0, x3), (0, x4), (9, 0)] [(0, 1), (0, s0)] h) = _
  simp only [jt_253_9, ck_or1, ck_or2, rf_wr, ln_wr, nn_wr, rf_cp, ln_cp, nn_cp, ln_wf, nn_wf, rd_wf, nn_nw]
  try rfl))
theorem jt_253_7 (h : am_H) (d5 : am_V) (x0 x1 x2 x3 x4 s0 : Int) : JJ 253 7 [(22, x0), (0, x1), (0, x2), (0, x3), (0, x4), d5] [(0, s0)] h = Mo_minuteGoes_9 h x0 x1 x2 x3 x4 2 s0 := (jj_of bk_253_7 _ _ h).trans ((ff_of bk_253_7 [(22, x0), (0, x1), (0, x2), (0, x3), (0, x4), (9, 0)] [(0, s0)] h).trans (by
  show (JJ 253 9 [(22, x0), (0, x1), (0, x2), (0, x3), (0, x4), (9, 0)] [(0, 2), (0, s0)] h) = _
  simp only [jt_253_9, ck_or1, ck_or2, rf_wr, ln_wr, nn_wr, rf_cp, ln_cp, nn_cp, ln_wf, nn_wf, rd_wf, nn_nw]
  try rfl))
theorem Mo_minuteGoes_6_e (h : am_H) (x0 x1 x2 x3 x4 : Int) : Mo_minuteGoes_6 h x0 x1 x2 x3 x4 = ck_ (0 ≤ x0) (if (rd_ h x0 64) = 0 then Mo_minuteGoes_9 h x0 x1 x2 x3 x4 1 x4 else Mo_minuteGoes_9 h x0 x1 x2 x3 x4 2 x4) := (ff_of bk_253_6 [(22, x0), (0, x1), (0, x2), (0, x3), (0, x4), (9, 0)] [] h).trans (by
  show (ck_ (0 ≤ x0) (if (rd_ h x0 64) = 0 then JJ 253 8 [(22, x0), (0, x1), (0, x2), (0, x3), (0, x4), (9, 0)] [(0, x4)] h else JJ 253 7 [(22, x0), (0, x1), (0, x2), (0, x3), (0, x4), (9, 0)] [(0, x4)] h)) = _
  simp only [jt_253_7, jt_253_8, ck_or1, ck_or2, rf_wr, ln_wr, nn_wr, rf_cp, ln_cp, nn_cp, ln_wf, nn_wf, rd_wf, nn_nw]
  try rfl)
theorem jt_253_12 (h : am_H) (d5 : am_V) (x0 x1 x2 x3 x4 : Int) : JJ 253 12 [(22, x0), (0, x1), (0, x2), (0, x3), (0, x4), d5] [] h = ck_ (0 ≤ x0) (ck_ (0 ≤ (rf_ h x0 33)) (ck_ (0 ≤ x2 ∧ x2 < ln_ h (rf_ h x0 33)) (Mo_minuteGoes_13 h x0 x1 x2 x3 x4 (rd_ h (rf_ h x0 33) x2)))) := (jj_of bk_253_12 _ _ h).trans ((ff_of bk_253_12 [(22, x0), (0, x1), (0, x2), (0, x3), (0, x4), (9, 0)] [] h).trans (by
  show (ck_ (0 ≤ x0) (ck_ (0 ≤ (rf_ h x0 33)) (ck_ (0 ≤ x2 ∧ x2 < ln_ h (rf_ h x0 33)) (JJ 253 13 [(22, x0), (0, x1), (0, x2), (0, x3), (0, x4), (9, 0)] [(0, rd_ h (rf_ h x0 33) x2)] h)))) = _
  simp only [jt_253_13, ck_or1, ck_or2, rf_wr, ln_wr, nn_wr, rf_cp, ln_cp, nn_cp, ln_wf, nn_wf, rd_wf, nn_nw]
  try rfl))
theorem jt_253_11 (h : am_H) (d5 : am_V) (x0 x1 x2 x3 x4 : Int) : JJ 253 11 [(22, x0), (0, x1), (0, x2), (0, x3), (0, x4), d5] [] h = ck_ (0 ≤ x0) (Mo_minuteGoes_13 h x0 x1 x2 x3 x4 (rd_ h x0 68)) := (jj_of bk_253_11 _ _ h).trans ((ff_of bk_253_11 [(22, x0), (0, x1), (0, x2), (0, x3), (0, x4), (9, 0)] [] h).trans (by
  show (ck_ (0 ≤ x0) (JJ 253 13 [(22, x0), (0, x1), (0, x2), (0, x3), (0, x4), (9, 0)] [(0, rd_ h x0 68)] h)) = _
  simp only [jt_253_13, ck_or1, ck_or2, rf_wr, ln_wr, nn_wr, rf_cp, ln_cp, nn_cp, ln_wf, nn_wf, rd_wf, nn_nw]
  try rfl))
theorem jt_253_10 (h : am_H) (d5 : am_V) (x0 x1 x2 x3 x4 : Int) : JJ 253 10 [(22, x0), (0, x1), (0, x2), (0, x3), (0, x4), d5] [] h = ck_ (0 ≤ x0) (if x2 ≠ (rd_ h x0 67) then ck_ (0 ≤ x0) (ck_ (0 ≤ (rf_ h x0 33)) (ck_ (0 ≤ x2 ∧ x2 < ln_ h (rf_ h x0 33)) (Mo_minuteGoes_13 h x0 x1 x2 x3 x4 (rd_ h (rf_ h x0 33) x2)))) else ck_ (0 ≤ x0) (Mo_minuteGoes_13 h x0 x1 x2 x3 x4 (rd_ h x0 68))) := (jj_of bk_253_10 _ _ h).trans ((ff_of bk_253_10 [(22, x0), (0, x1), (0, x2), (0, x3), (0, x4), (9, 0)] [] h).trans (by
  show (ck_ (0 ≤ x0) (if x2 ≠ (rd_ h x0 67) then JJ 253 12 [(22, x0), (0, x1), (0, x2), (0, x3), (0, x4), (9, 0)] [] h else JJ 253 11 [(22, x0), (0, x1), (0, x2), (0, x3), (0, x4), (9, 0)] [] h)) = _
  simp only [jt_253_11, jt_253_12, ck_or1, ck_or2, rf_wr, ln_wr, nn_wr, rf_cp, ln_cp, nn_cp, ln_wf, nn_wf, rd_wf, nn_nw]
  try rfl))
theorem Mo_minuteGoes_9_e (h : am_H) (x0 x1 x2 x3 x4 s0 s1 : Int) : Mo_minuteGoes_9 h x0 x1 x2 x3 x4 s0 s1 = if s0 ≤ s1 then Mo_minuteGoes_1 h x0 x1 (w32 (x2 + 1)) else ck_ (0 ≤ x0) (if x2 ≠ (rd_ h x0 67) then ck_ (0 ≤ x0) (ck_ (0 ≤ (rf_ h x0 33)) (ck_ (0 ≤ x2 ∧ x2 < ln_ h (rf_ h x0 33)) (Mo_minuteGoes_13 h x0 x1 x2 x3 x4 (rd_ h (rf_ h x0 33) x2)))) else ck_ (0 ≤ x0) (Mo_minuteGoes_13 h x0 x1 x2 x3 x4 (rd_ h x0 68))) := (ff_of bk_253_9 [(22, x0), (0, x1), (0, x2), (0, x3), (0, x4), (9, 0)] [(0, s0), (0, s1)] h).trans (by
  show (if s0 ≤ s1 then JJ 253 19 [(22, x0), (0, x1), (0, x2), (0, x3), (0, x4), (9, 0)] [] h else JJ 253 10 [(22, x0), (0, x1), (0, x2), (0, x3), (0, x4), (9, 0)] [] h) = _
  simp only [jt_253_10, jt_253_19, ck_or1, ck_or2, rf_wr, ln_wr, nn_wr, rf_cp, ln_cp, nn_cp, ln_wf, nn_wf, rd_wf, nn_nw]
  try rfl)
theorem jt_253_18 (h : am_H) (d5 : am_V) (x0 x1 x2 x3 x4 s0 s1 s2 s3 s4 : Int) : JJ 253 18 [(22, x0), (0, x1), (0, x2), (0, x3), (0, x4), d5] [(0, s0), (0, s1), (0, s2), (0, s3), (22, s4)] h = ck_ (0 ≤ s4) (bd_ (Mo_turnsOne h s4 s3 s2 s1 s0) fun h1 _ => Mo_minuteGoes_6 h1 x0 x1 x2 x3 (w32 (x4 + 1))) := (jj_of bk_253_18 _ _ h).trans ((ff_of bk_253_18 [(22, x0), (0, x1), (0, x2), (0, x3), (0, x4), (9, 0)] [(0, s0), (0, s1), (0, s2), (0, s3), (22, s4)] h).trans (by
  show (ck_ (0 ≤ s4) (bd_ (CC 252 [(22, s4), (0, s3), (0, s2), (0, s1), (0, s0)] h) fun h1 _ => JJ 253 6 [(22, x0), (0, x1), (0, x2), (0, x3), (0, w32 (x4 + 1)), (9, 0)] [] h1)) = _
  simp only [cc_252, jt_253_6, ck_or1, ck_or2, rf_wr, ln_wr, nn_wr, rf_cp, ln_cp, nn_cp, ln_wf, nn_wf, rd_wf, nn_nw]
  try rfl))
theorem jt_253_17 (h : am_H) (x0 x1 x2 x3 x4 x5 s0 s1 s2 s3 : Int) : JJ 253 17 [(22, x0), (0, x1), (0, x2), (0, x3), (0, x4), (0, x5)] [(0, s0), (0, s1), (0, s2), (22, s3)] h = ck_ (0 ≤ s3) (bd_ (Mo_turnsOne h s3 s2 s1 s0 x5) fun h1 _ => Mo_minuteGoes_6 h1 x0 x1 x2 x3 (w32 (x4 + 1))) := (jj_of bk_253_17 _ _ h).trans ((ff_of bk_253_17 [(22, x0), (0, x1), (0, x2), (0, x3), (0, x4), (0, x5)] [(0, s0), (0, s1), (0, s2), (22, s3)] h).trans (by
  show (JJ 253 18 [(22, x0), (0, x1), (0, x2), (0, x3), (0, x4), (0, x5)] [(0, x5), (0, s0), (0, s1), (0, s2), (22, s3)] h) = _
  simp only [jt_253_18, ck_or1, ck_or2, rf_wr, ln_wr, nn_wr, rf_cp, ln_cp, nn_cp, ln_wf, nn_wf, rd_wf, nn_nw]
  try rfl))
theorem jt_253_16 (h : am_H) (x0 x1 x2 x3 x4 x5 s0 s1 s2 s3 : Int) : JJ 253 16 [(22, x0), (0, x1), (0, x2), (0, x3), (0, x4), (0, x5)] [(0, s0), (0, s1), (0, s2), (22, s3)] h = ck_ (0 ≤ s3) (bd_ (Mo_turnsOne h s3 s2 s1 s0 (w32 (x5 + 1))) fun h1 _ => Mo_minuteGoes_6 h1 x0 x1 x2 x3 (w32 (x4 + 1))) := (jj_of bk_253_16 _ _ h).trans ((ff_of bk_253_16 [(22, x0), (0, x1), (0, x2), (0, x3), (0, x4), (0, x5)] [(0, s0), (0, s1), (0, s2), (22, s3)] h).trans (by
  show (JJ 253 18 [(22, x0), (0, x1), (0, x2), (0, x3), (0, x4), (0, x5)] [(0, w32 (x5 + 1)), (0, s0), (0, s1), (0, s2), (22, s3)] h) = _
  simp only [jt_253_18, ck_or1, ck_or2, rf_wr, ln_wr, nn_wr, rf_cp, ln_cp, nn_cp, ln_wf, nn_wf, rd_wf, nn_nw]
  try rfl))
theorem jt_253_15 (h : am_H) (x0 x1 x2 x3 x4 x5 s0 s1 s2 s3 : Int) : JJ 253 15 [(22, x0), (0, x1), (0, x2), (0, x3), (0, x4), (0, x5)] [(0, s0), (0, s1), (0, s2), (22, s3)] h = ck_ (0 ≤ x0) (if (rd_ h x0 63) = 0 then ck_ (0 ≤ s3) (bd_ (Mo_turnsOne h s3 s2 s1 s0 x5) fun h1 _ => Mo_minuteGoes_6 h1 x0 x1 x2 x3 (w32 (x4 + 1))) else ck_ (0 ≤ s3) (bd_ (Mo_turnsOne h s3 s2 s1 s0 (w32 (x5 + 1))) fun h3 _ => Mo_minuteGoes_6 h3 x0 x1 x2 x3 (w32 (x4 + 1)))) := (jj_of bk_253_15 _ _ h).trans ((ff_of bk_253_15 [(22, x0), (0, x1), (0, x2), (0, x3), (0, x4), (0, x5)] [(0, s0), (0, s1), (0, s2), (22, s3)] h).trans (by
  show (ck_ (0 ≤ x0) (if (rd_ h x0 63) = 0 then JJ 253 17 [(22, x0), (0, x1), (0, x2), (0, x3), (0, x4), (0, x5)] [(0, s0), (0, s1), (0, s2), (22, s3)] h else JJ 253 16 [(22, x0), (0, x1), (0, x2), (0, x3), (0, x4), (0, x5)] [(0, s0), (0, s1), (0, s2), (22, s3)] h)) = _
  simp only [jt_253_16, jt_253_17, ck_or1, ck_or2, rf_wr, ln_wr, nn_wr, rf_cp, ln_cp, nn_cp, ln_wf, nn_wf, rd_wf, nn_nw]
  try rfl))
theorem jt_253_14 (h : am_H) (d5 : am_V) (x0 x1 x2 x3 x4 s0 s1 s2 s3 : Int) : JJ 253 14 [(22, x0), (0, x1), (0, x2), (0, x3), (0, x4), d5] [(0, s0), (0, s1), (0, s2), (22, s3)] h = ck_ (0 ≤ x0) (bd_ (Mo_highOf h x0 x1 x3) fun h1 v2 => ck_ (0 ≤ s3) (bd_ (Mo_turnsOne h1 s3 s2 s1 s0 v2) fun h3 _ => Mo_minuteGoes_6 h3 x0 x1 x2 x3 (w32 (x4 + 1)))) := (jj_of bk_253_14 _ _ h).trans ((ff_of bk_253_14 [(22, x0), (0, x1), (0, x2), (0, x3), (0, x4), (9, 0)] [(0, s0), (0, s1), (0, s2), (22, s3)] h).trans (by
  show (ck_ (0 ≤ x0) (bd_ (CC 238 [(22, x0), (0, x1), (0, x3)] h) fun h1 v2 => JJ 253 18 [(22, x0), (0, x1), (0, x2), (0, x3), (0, x4), (9, 0)] [(0, v2), (0, s0), (0, s1), (0, s2), (22, s3)] h1)) = _
  simp only [cc_238, jt_253_18, ck_or1, ck_or2, rf_wr, ln_wr, nn_wr, rf_cp, ln_cp, nn_cp, ln_wf, nn_wf, rd_wf, nn_nw]
  try rfl))
set_option maxRecDepth 20000 in
theorem Mo_minuteGoes_13_e (h : am_H) (x0 x1 x2 x3 x4 s0 : Int) : Mo_minuteGoes_13 h x0 x1 x2 x3 x4 s0 = ck_ (0 ≤ x0) (ck_ (0 ≤ (rf_ h x0 31)) (ck_ (0 ≤ x2 ∧ x2 < ln_ h (rf_ h x0 31)) (ck_ (0 ≤ x0) (if (rd_ h x0 65) = 0 then ck_ (0 ≤ x0) (if (rd_ h x0 63) = 0 then ck_ (0 ≤ x0) (bd_ (Mo_turnsOne h x0 x1 (rd_ h (rf_ h x0 31) x2) x3 s0) fun h1 _ => Mo_minuteGoes_6 h1 x0 x1 x2 x3 (w32 (x4 + 1))) else ck_ (0 ≤ x0) (bd_ (Mo_turnsOne h x0 x1 (rd_ h (rf_ h x0 31) x2) x3 (w32 (s0 + 1))) fun h3 _ => Mo_minuteGoes_6 h3 x0 x1 x2 x3 (w32 (x4 + 1)))) else ck_ (0 ≤ x0) (bd_ (Mo_highOf h x0 x1 x3) fun h5 v6 => ck_ (0 ≤ x0) (bd_ (Mo_turnsOne h5 x0 x1 (rd_ h (rf_ h x0 31) x2) x3 v6) fun h7 _ => Mo_minuteGoes_6 h7 x0 x1 x2 x3 (w32 (x4 + 1)))))))) := (ff_of bk_253_13 [(22, x0), (0, x1), (0, x2), (0, x3), (0, x4), (9, 0)] [(0, s0)] h).trans (by
  show (ck_ (0 ≤ x0) (ck_ (0 ≤ (rf_ h x0 31)) (ck_ (0 ≤ x2 ∧ x2 < ln_ h (rf_ h x0 31)) (ck_ (0 ≤ x0) (if (rd_ h x0 65) = 0 then JJ 253 15 [(22, x0), (0, x1), (0, x2), (0, x3), (0, x4), (0, s0)] [(0, x3), (0, rd_ h (rf_ h x0 31) x2), (0, x1), (22, x0)] h else JJ 253 14 [(22, x0), (0, x1), (0, x2), (0, x3), (0, x4), (0, s0)] [(0, x3), (0, rd_ h (rf_ h x0 31) x2), (0, x1), (22, x0)] h))))) = _
  simp only [jt_253_14, jt_253_15, ck_or1, ck_or2, rf_wr, ln_wr, nn_wr, rf_cp, ln_cp, nn_cp, ln_wf, nn_wf, rd_wf, nn_nw]
  try rfl)
theorem cc_253 (h : am_H) (x0 x1 : Int) : CC 253 [(22, x0), (0, x1)] h = Mo_minuteGoes h x0 x1 := cc_of pk_253 _ h
set_option maxRecDepth 20000 in
theorem pk_254 : am_prog 254 = some cd_254 := rfl
theorem bk_254_0 : bk_ am_prog 254 0 = some ([true, true, false], (bl_254_0, 1)) := bk_of pk_254 rfl
theorem bk_254_1 : bk_ am_prog 254 1 = some ([true, true, true], (bl_254_1, 9999)) := bk_of pk_254 rfl
theorem bk_254_2 : bk_ am_prog 254 2 = some ([true, true, true], (bl_254_2, 9999)) := bk_of pk_254 rfl
theorem bk_254_3 : bk_ am_prog 254 3 = some ([false, false, false], (bl_254_3, 9999)) := bk_of pk_254 rfl
theorem jt_254_1 (h : am_H) (x0 x1 x2 : Int) : JJ 254 1 [(22, x0), (0, x1), (0, x2)] [] h = Mo_goMany_1 h x0 x1 x2 := jj_of bk_254_1 _ _ h
theorem Mo_goMany_e (h : am_H) (x0 x1 : Int) : Mo_goMany h x0 x1 = Mo_goMany_1 h x0 x1 0 := (ff_of bk_254_0 [(22, x0), (0, x1), (9, 0)] [] h).trans (by
  show (JJ 254 1 [(22, x0), (0, x1), (0, 0)] [] h) = _
  simp only [jt_254_1, ck_or1, ck_or2, rf_wr, ln_wr, nn_wr, rf_cp, ln_cp, nn_cp, ln_wf, nn_wf, rd_wf, nn_nw]
  try rfl)
theorem jt_254_3 (h : am_H) (d0 d1 d2 : am_V) : JJ 254 3 [d0, d1, d2] [] h = some (h, 0) := (jj_of bk_254_3 _ _ h).trans (ff_of bk_254_3 [(9, 0), (9, 0), (9, 0)] [] h)
theorem jt_254_2 (h : am_H) (x0 x1 x2 : Int) : JJ 254 2 [(22, x0), (0, x1), (0, x2)] [] h = ck_ (0 ≤ x0) (bd_ (Mo_minuteGoes h x0 1) fun h1 _ => Mo_goMany_1 h1 x0 x1 (w32 (x2 + 1))) := (jj_of bk_254_2 _ _ h).trans ((ff_of bk_254_2 [(22, x0), (0, x1), (0, x2)] [] h).trans (by
  show (ck_ (0 ≤ x0) (bd_ (CC 253 [(22, x0), (0, 1)] h) fun h1 _ => JJ 254 1 [(22, x0), (0, x1), (0, w32 (x2 + 1))] [] h1)) = _
  simp only [cc_253, jt_254_1, ck_or1, ck_or2, rf_wr, ln_wr, nn_wr, rf_cp, ln_cp, nn_cp, ln_wf, nn_wf, rd_wf, nn_nw]
  try rfl))
theorem Mo_goMany_1_e (h : am_H) (x0 x1 x2 : Int) : Mo_goMany_1 h x0 x1 x2 = if x1 ≤ x2 then some (h, 0) else ck_ (0 ≤ x0) (bd_ (Mo_minuteGoes h x0 1) fun h1 _ => Mo_goMany_1 h1 x0 x1 (w32 (x2 + 1))) := (ff_of bk_254_1 [(22, x0), (0, x1), (0, x2)] [] h).trans (by
  show (if x1 ≤ x2 then JJ 254 3 [(22, x0), (0, x1), (0, x2)] [] h else JJ 254 2 [(22, x0), (0, x1), (0, x2)] [] h) = _
  simp only [jt_254_2, jt_254_3, ck_or1, ck_or2, rf_wr, ln_wr, nn_wr, rf_cp, ln_cp, nn_cp, ln_wf, nn_wf, rd_wf, nn_nw]
  try rfl)
theorem cc_254 (h : am_H) (x0 x1 : Int) : CC 254 [(22, x0), (0, x1)] h = Mo_goMany h x0 x1 := cc_of pk_254 _ h
set_option maxRecDepth 20000 in
theorem pk_255 : am_prog 255 = some cd_255 := rfl
theorem bk_255_0 : bk_ am_prog 255 0 = some ([true, true, false, false], (bl_255_0, 1)) := bk_of pk_255 rfl
theorem bk_255_1 : bk_ am_prog 255 1 = some ([true, true, true, true], (bl_255_1, 9999)) := bk_of pk_255 rfl
theorem bk_255_2 : bk_ am_prog 255 2 = some ([true, true, true, true], (bl_255_2, 9999)) := bk_of pk_255 rfl
theorem bk_255_3 : bk_ am_prog 255 3 = some ([true, true, false, true], (bl_255_3, 9999)) := bk_of pk_255 rfl
theorem bk_255_4 : bk_ am_prog 255 4 = some ([true, true, false, true], (bl_255_4, 5)) := bk_of pk_255 rfl
theorem bk_255_5 : bk_ am_prog 255 5 = some ([true, true, false, true], (bl_255_5, 9999)) := bk_of pk_255 rfl
theorem bk_255_6 : bk_ am_prog 255 6 = some ([false, false, true, false], (bl_255_6, 9999)) := bk_of pk_255 rfl
theorem jt_255_1 (h : am_H) (x0 x1 x2 x3 : Int) : JJ 255 1 [(22, x0), (0, x1), (0, x2), (0, x3)] [] h = Mo_rightMany_1 h x0 x1 x2 x3 := jj_of bk_255_1 _ _ h
theorem Mo_rightMany_e (h : am_H) (x0 x1 : Int) : Mo_rightMany h x0 x1 = Mo_rightMany_1 h x0 x1 0 0 := (ff_of bk_255_0 [(22, x0), (0, x1), (9, 0), (9, 0)] [] h).trans (by
  show (JJ 255 1 [(22, x0), (0, x1), (0, 0), (0, 0)] [] h) = _
  simp only [jt_255_1, ck_or1, ck_or2, rf_wr, ln_wr, nn_wr, rf_cp, ln_cp, nn_cp, ln_wf, nn_wf, rd_wf, nn_nw]
  try rfl)
theorem jt_255_6 (h : am_H) (d0 d1 d3 : am_V) (x2 : Int) : JJ 255 6 [d0, d1, (0, x2), d3] [] h = some (h, x2) := (jj_of bk_255_6 _ _ h).trans (ff_of bk_255_6 [(9, 0), (9, 0), (0, x2), (9, 0)] [] h)
theorem jt_255_5 (h : am_H) (d2 : am_V) (x0 x1 x3 s0 s1 : Int) : JJ 255 5 [(22, x0), (0, x1), d2, (0, x3)] [(0, s0), (0, s1)] h = Mo_rightMany_1 h x0 x1 (w32 (s1 + s0)) (w32 (x3 + 1)) := (jj_of bk_255_5 _ _ h).trans ((ff_of bk_255_5 [(22, x0), (0, x1), (9, 0), (0, x3)] [(0, s0), (0, s1)] h).trans (by
  show (JJ 255 1 [(22, x0), (0, x1), (0, w32 (s1 + s0)), (0, w32 (x3 + 1))] [] h) = _
  simp only [jt_255_1, ck_or1, ck_or2, rf_wr, ln_wr, nn_wr, rf_cp, ln_cp, nn_cp, ln_wf, nn_wf, rd_wf, nn_nw]
  try rfl))
theorem jt_255_4 (h : am_H) (d2 : am_V) (x0 x1 x3 s0 : Int) : JJ 255 4 [(22, x0), (0, x1), d2, (0, x3)] [(0, s0)] h = Mo_rightMany_1 h x0 x1 (w32 (s0 + 0)) (w32 (x3 + 1)) := (jj_of bk_255_4 _ _ h).trans ((ff_of bk_255_4 [(22, x0), (0, x1), (9, 0), (0, x3)] [(0, s0)] h).trans (by
  show (JJ 255 5 [(22, x0), (0, x1), (9, 0), (0, x3)] [(0, 0), (0, s0)] h) = _
  simp only [jt_255_5, ck_or1, ck_or2, rf_wr, ln_wr, nn_wr, rf_cp, ln_cp, nn_cp, ln_wf, nn_wf, rd_wf, nn_nw]
  try rfl))
theorem jt_255_3 (h : am_H) (d2 : am_V) (x0 x1 x3 s0 : Int) : JJ 255 3 [(22, x0), (0, x1), d2, (0, x3)] [(0, s0)] h = Mo_rightMany_1 h x0 x1 (w32 (s0 + 1)) (w32 (x3 + 1)) := (jj_of bk_255_3 _ _ h).trans ((ff_of bk_255_3 [(22, x0), (0, x1), (9, 0), (0, x3)] [(0, s0)] h).trans (by
  show (JJ 255 5 [(22, x0), (0, x1), (9, 0), (0, x3)] [(0, 1), (0, s0)] h) = _
  simp only [jt_255_5, ck_or1, ck_or2, rf_wr, ln_wr, nn_wr, rf_cp, ln_cp, nn_cp, ln_wf, nn_wf, rd_wf, nn_nw]
  try rfl))
theorem jt_255_2 (h : am_H) (x0 x1 x2 x3 : Int) : JJ 255 2 [(22, x0), (0, x1), (0, x2), (0, x3)] [] h = ck_ (0 ≤ x0) (bd_ (Mo_isRight h x0 x1 x3) fun h1 v2 => if v2 = 0 then Mo_rightMany_1 h1 x0 x1 (w32 (x2 + 0)) (w32 (x3 + 1)) else Mo_rightMany_1 h1 x0 x1 (w32 (x2 + 1)) (w32 (x3 + 1))) := (jj_of bk_255_2 _ _ h).trans ((ff_of bk_255_2 [(22, x0), (0, x1), (0, x2), (0, x3)] [] h).trans (by
  show (ck_ (0 ≤ x0) (bd_ (CC 242 [(22, x0), (0, x1), (0, x3)] h) fun h1 v2 => if v2 = 0 then JJ 255 4 [(22, x0), (0, x1), (0, x2), (0, x3)] [(0, x2)] h1 else JJ 255 3 [(22, x0), (0, x1), (0, x2), (0, x3)] [(0, x2)] h1)) = _
  simp only [cc_242, jt_255_3, jt_255_4, ck_or1, ck_or2, rf_wr, ln_wr, nn_wr, rf_cp, ln_cp, nn_cp, ln_wf, nn_wf, rd_wf, nn_nw]
  try rfl))
theorem Mo_rightMany_1_e (h : am_H) (x0 x1 x2 x3 : Int) : Mo_rightMany_1 h x0 x1 x2 x3 = ck_ (0 ≤ x0) (if (rd_ h x0 13) ≤ x3 then some (h, x2) else ck_ (0 ≤ x0) (bd_ (Mo_isRight h x0 x1 x3) fun h1 v2 => if v2 = 0 then Mo_rightMany_1 h1 x0 x1 (w32 (x2 + 0)) (w32 (x3 + 1)) else Mo_rightMany_1 h1 x0 x1 (w32 (x2 + 1)) (w32 (x3 + 1)))) := (ff_of bk_255_1 [(22, x0), (0, x1), (0, x2), (0, x3)] [] h).trans (by
  show (ck_ (0 ≤ x0) (if (rd_ h x0 13) ≤ x3 then JJ 255 6 [(22, x0), (0, x1), (0, x2), (0, x3)] [] h else JJ 255 2 [(22, x0), (0, x1), (0, x2), (0, x3)] [] h)) = _
  simp only [jt_255_2, jt_255_6, ck_or1, ck_or2, rf_wr, ln_wr, nn_wr, rf_cp, ln_cp, nn_cp, ln_wf, nn_wf, rd_wf, nn_nw]
  try rfl)
theorem cc_255 (h : am_H) (x0 x1 : Int) : CC 255 [(22, x0), (0, x1)] h = Mo_rightMany h x0 x1 := cc_of pk_255 _ h
set_option maxRecDepth 20000 in
theorem pk_256 : am_prog 256 = some cd_256 := rfl
theorem bk_256_0 : bk_ am_prog 256 0 = some ([true, true, false, false], (bl_256_0, 1)) := bk_of pk_256 rfl
theorem bk_256_1 : bk_ am_prog 256 1 = some ([true, true, true, true], (bl_256_1, 9999)) := bk_of pk_256 rfl
theorem bk_256_2 : bk_ am_prog 256 2 = some ([true, true, true, true], (bl_256_2, 9999)) := bk_of pk_256 rfl
theorem bk_256_3 : bk_ am_prog 256 3 = some ([true, true, false, true], (bl_256_3, 9999)) := bk_of pk_256 rfl
theorem bk_256_4 : bk_ am_prog 256 4 = some ([true, true, false, true], (bl_256_4, 5)) := bk_of pk_256 rfl
theorem bk_256_5 : bk_ am_prog 256 5 = some ([true, true, false, true], (bl_256_5, 9999)) := bk_of pk_256 rfl
theorem bk_256_6 : bk_ am_prog 256 6 = some ([false, false, true, false], (bl_256_6, 9999)) := bk_of pk_256 rfl
theorem jt_256_1 (h : am_H) (x0 x1 x2 x3 : Int) : JJ 256 1 [(22, x0), (0, x1), (0, x2), (0, x3)] [] h = Mo_properMany_1 h x0 x1 x2 x3 := jj_of bk_256_1 _ _ h
theorem Mo_properMany_e (h : am_H) (x0 x1 : Int) : Mo_properMany h x0 x1 = Mo_properMany_1 h x0 x1 0 0 := (ff_of bk_256_0 [(22, x0), (0, x1), (9, 0), (9, 0)] [] h).trans (by
  show (JJ 256 1 [(22, x0), (0, x1), (0, 0), (0, 0)] [] h) = _
  simp only [jt_256_1, ck_or1, ck_or2, rf_wr, ln_wr, nn_wr, rf_cp, ln_cp, nn_cp, ln_wf, nn_wf, rd_wf, nn_nw]
  try rfl)
theorem jt_256_6 (h : am_H) (d0 d1 d3 : am_V) (x2 : Int) : JJ 256 6 [d0, d1, (0, x2), d3] [] h = some (h, x2) := (jj_of bk_256_6 _ _ h).trans (ff_of bk_256_6 [(9, 0), (9, 0), (0, x2), (9, 0)] [] h)
theorem jt_256_5 (h : am_H) (d2 : am_V) (x0 x1 x3 s0 s1 : Int) : JJ 256 5 [(22, x0), (0, x1), d2, (0, x3)] [(0, s0), (0, s1)] h = Mo_properMany_1 h x0 x1 (w32 (s1 + s0)) (w32 (x3 + 1)) := (jj_of bk_256_5 _ _ h).trans ((ff_of bk_256_5 [(22, x0), (0, x1), (9, 0), (0, x3)] [(0, s0), (0, s1)] h).trans (by
  show (JJ 256 1 [(22, x0), (0, x1), (0, w32 (s1 + s0)), (0, w32 (x3 + 1))] [] h) = _
  simp only [jt_256_1, ck_or1, ck_or2, rf_wr, ln_wr, nn_wr, rf_cp, ln_cp, nn_cp, ln_wf, nn_wf, rd_wf, nn_nw]
  try rfl))
theorem jt_256_4 (h : am_H) (d2 : am_V) (x0 x1 x3 s0 : Int) : JJ 256 4 [(22, x0), (0, x1), d2, (0, x3)] [(0, s0)] h = Mo_properMany_1 h x0 x1 (w32 (s0 + 0)) (w32 (x3 + 1)) := (jj_of bk_256_4 _ _ h).trans ((ff_of bk_256_4 [(22, x0), (0, x1), (9, 0), (0, x3)] [(0, s0)] h).trans (by
  show (JJ 256 5 [(22, x0), (0, x1), (9, 0), (0, x3)] [(0, 0), (0, s0)] h) = _
  simp only [jt_256_5, ck_or1, ck_or2, rf_wr, ln_wr, nn_wr, rf_cp, ln_cp, nn_cp, ln_wf, nn_wf, rd_wf, nn_nw]
  try rfl))
theorem jt_256_3 (h : am_H) (d2 : am_V) (x0 x1 x3 s0 : Int) : JJ 256 3 [(22, x0), (0, x1), d2, (0, x3)] [(0, s0)] h = Mo_properMany_1 h x0 x1 (w32 (s0 + 1)) (w32 (x3 + 1)) := (jj_of bk_256_3 _ _ h).trans ((ff_of bk_256_3 [(22, x0), (0, x1), (9, 0), (0, x3)] [(0, s0)] h).trans (by
  show (JJ 256 5 [(22, x0), (0, x1), (9, 0), (0, x3)] [(0, 1), (0, s0)] h) = _
  simp only [jt_256_5, ck_or1, ck_or2, rf_wr, ln_wr, nn_wr, rf_cp, ln_cp, nn_cp, ln_wf, nn_wf, rd_wf, nn_nw]
  try rfl))
theorem jt_256_2 (h : am_H) (x0 x1 x2 x3 : Int) : JJ 256 2 [(22, x0), (0, x1), (0, x2), (0, x3)] [] h = ck_ (0 ≤ x0) (bd_ (Mo_isProper h x0 x1 x3) fun h1 v2 => if v2 = 0 then Mo_properMany_1 h1 x0 x1 (w32 (x2 + 0)) (w32 (x3 + 1)) else Mo_properMany_1 h1 x0 x1 (w32 (x2 + 1)) (w32 (x3 + 1))) := (jj_of bk_256_2 _ _ h).trans ((ff_of bk_256_2 [(22, x0), (0, x1), (0, x2), (0, x3)] [] h).trans (by
  show (ck_ (0 ≤ x0) (bd_ (CC 243 [(22, x0), (0, x1), (0, x3)] h) fun h1 v2 => if v2 = 0 then JJ 256 4 [(22, x0), (0, x1), (0, x2), (0, x3)] [(0, x2)] h1 else JJ 256 3 [(22, x0), (0, x1), (0, x2), (0, x3)] [(0, x2)] h1)) = _
  simp only [cc_243, jt_256_3, jt_256_4, ck_or1, ck_or2, rf_wr, ln_wr, nn_wr, rf_cp, ln_cp, nn_cp, ln_wf, nn_wf, rd_wf, nn_nw]
  try rfl))
theorem Mo_properMany_1_e (h : am_H) (x0 x1 x2 x3 : Int) : Mo_properMany_1 h x0 x1 x2 x3 = ck_ (0 ≤ x0) (if (rd_ h x0 13) ≤ x3 then some (h, x2) else ck_ (0 ≤ x0) (bd_ (Mo_isProper h x0 x1 x3) fun h1 v2 => if v2 = 0 then Mo_properMany_1 h1 x0 x1 (w32 (x2 + 0)) (w32 (x3 + 1)) else Mo_properMany_1 h1 x0 x1 (w32 (x2 + 1)) (w32 (x3 + 1)))) := (ff_of bk_256_1 [(22, x0), (0, x1), (0, x2), (0, x3)] [] h).trans (by
  show (ck_ (0 ≤ x0) (if (rd_ h x0 13) ≤ x3 then JJ 256 6 [(22, x0), (0, x1), (0, x2), (0, x3)] [] h else JJ 256 2 [(22, x0), (0, x1), (0, x2), (0, x3)] [] h)) = _
  simp only [jt_256_2, jt_256_6, ck_or1, ck_or2, rf_wr, ln_wr, nn_wr, rf_cp, ln_cp, nn_cp, ln_wf, nn_wf, rd_wf, nn_nw]
  try rfl)
theorem cc_256 (h : am_H) (x0 x1 : Int) : CC 256 [(22, x0), (0, x1)] h = Mo_properMany h x0 x1 := cc_of pk_256 _ h
set_option maxRecDepth 20000 in
theorem pk_257 : am_prog 257 = some cd_257 := rfl
theorem bk_257_0 : bk_ am_prog 257 0 = some ([true, true, false, false], (bl_257_0, 1)) := bk_of pk_257 rfl
theorem bk_257_1 : bk_ am_prog 257 1 = some ([true, true, true, true], (bl_257_1, 9999)) := bk_of pk_257 rfl
theorem bk_257_2 : bk_ am_prog 257 2 = some ([true, true, true, true], (bl_257_2, 9999)) := bk_of pk_257 rfl
theorem bk_257_3 : bk_ am_prog 257 3 = some ([true, true, false, true], (bl_257_3, 9999)) := bk_of pk_257 rfl
theorem bk_257_4 : bk_ am_prog 257 4 = some ([true, true, false, true], (bl_257_4, 5)) := bk_of pk_257 rfl
theorem bk_257_5 : bk_ am_prog 257 5 = some ([true, true, false, true], (bl_257_5, 9999)) := bk_of pk_257 rfl
theorem bk_257_6 : bk_ am_prog 257 6 = some ([false, false, true, false], (bl_257_6, 9999)) := bk_of pk_257 rfl
theorem jt_257_1 (h : am_H) (x0 x1 x2 x3 : Int) : JJ 257 1 [(22, x0), (0, x1), (0, x2), (0, x3)] [] h = Mo_chippedMany_1 h x0 x1 x2 x3 := jj_of bk_257_1 _ _ h
theorem Mo_chippedMany_e (h : am_H) (x0 x1 : Int) : Mo_chippedMany h x0 x1 = Mo_chippedMany_1 h x0 x1 0 0 := (ff_of bk_257_0 [(22, x0), (0, x1), (9, 0), (9, 0)] [] h).trans (by
  show (JJ 257 1 [(22, x0), (0, x1), (0, 0), (0, 0)] [] h) = _
  simp only [jt_257_1, ck_or1, ck_or2, rf_wr, ln_wr, nn_wr, rf_cp, ln_cp, nn_cp, ln_wf, nn_wf, rd_wf, nn_nw]
  try rfl)
theorem jt_257_6 (h : am_H) (d0 d1 d3 : am_V) (x2 : Int) : JJ 257 6 [d0, d1, (0, x2), d3] [] h = some (h, x2) := (jj_of bk_257_6 _ _ h).trans (ff_of bk_257_6 [(9, 0), (9, 0), (0, x2), (9, 0)] [] h)
theorem jt_257_5 (h : am_H) (d2 : am_V) (x0 x1 x3 s0 s1 : Int) : JJ 257 5 [(22, x0), (0, x1), d2, (0, x3)] [(0, s0), (0, s1)] h = Mo_chippedMany_1 h x0 x1 (w32 (s1 + s0)) (w32 (x3 + 1)) := (jj_of bk_257_5 _ _ h).trans ((ff_of bk_257_5 [(22, x0), (0, x1), (9, 0), (0, x3)] [(0, s0), (0, s1)] h).trans (by
  show (JJ 257 1 [(22, x0), (0, x1), (0, w32 (s1 + s0)), (0, w32 (x3 + 1))] [] h) = _
  simp only [jt_257_1, ck_or1, ck_or2, rf_wr, ln_wr, nn_wr, rf_cp, ln_cp, nn_cp, ln_wf, nn_wf, rd_wf, nn_nw]
  try rfl))
theorem jt_257_4 (h : am_H) (d2 : am_V) (x0 x1 x3 s0 : Int) : JJ 257 4 [(22, x0), (0, x1), d2, (0, x3)] [(0, s0)] h = Mo_chippedMany_1 h x0 x1 (w32 (s0 + 0)) (w32 (x3 + 1)) := (jj_of bk_257_4 _ _ h).trans ((ff_of bk_257_4 [(22, x0), (0, x1), (9, 0), (0, x3)] [(0, s0)] h).trans (by
  show (JJ 257 5 [(22, x0), (0, x1), (9, 0), (0, x3)] [(0, 0), (0, s0)] h) = _
  simp only [jt_257_5, ck_or1, ck_or2, rf_wr, ln_wr, nn_wr, rf_cp, ln_cp, nn_cp, ln_wf, nn_wf, rd_wf, nn_nw]
  try rfl))
theorem jt_257_3 (h : am_H) (d2 : am_V) (x0 x1 x3 s0 : Int) : JJ 257 3 [(22, x0), (0, x1), d2, (0, x3)] [(0, s0)] h = Mo_chippedMany_1 h x0 x1 (w32 (s0 + 1)) (w32 (x3 + 1)) := (jj_of bk_257_3 _ _ h).trans ((ff_of bk_257_3 [(22, x0), (0, x1), (9, 0), (0, x3)] [(0, s0)] h).trans (by
  show (JJ 257 5 [(22, x0), (0, x1), (9, 0), (0, x3)] [(0, 1), (0, s0)] h) = _
  simp only [jt_257_5, ck_or1, ck_or2, rf_wr, ln_wr, nn_wr, rf_cp, ln_cp, nn_cp, ln_wf, nn_wf, rd_wf, nn_nw]
  try rfl))
theorem jt_257_2 (h : am_H) (x0 x1 x2 x3 : Int) : JJ 257 2 [(22, x0), (0, x1), (0, x2), (0, x3)] [] h = ck_ (0 ≤ x0) (ck_ (0 ≤ (rf_ h x0 56)) (ck_ (0 ≤ (w32 ((w32 (20 * x1)) + x3)) ∧ (w32 ((w32 (20 * x1)) + x3)) < ln_ h (rf_ h x0 56)) (if (rd_ h (rf_ h x0 56) (w32 ((w32 (20 * x1)) + x3))) = 0 then Mo_chippedMany_1 h x0 x1 (w32 (x2 + 0)) (w32 (x3 + 1)) else Mo_chippedMany_1 h x0 x1 (w32 (x2 + 1)) (w32 (x3 + 1))))) := (jj_of bk_257_2 _ _ h).trans ((ff_of bk_257_2 [(22, x0), (0, x1), (0, x2), (0, x3)] [] h).trans (by
  show (ck_ (0 ≤ x0) (ck_ (0 ≤ (rf_ h x0 56)) (ck_ (0 ≤ (w32 ((w32 (20 * x1)) + x3)) ∧ (w32 ((w32 (20 * x1)) + x3)) < ln_ h (rf_ h x0 56)) (if (rd_ h (rf_ h x0 56) (w32 ((w32 (20 * x1)) + x3))) = 0 then JJ 257 4 [(22, x0), (0, x1), (0, x2), (0, x3)] [(0, x2)] h else JJ 257 3 [(22, x0), (0, x1), (0, x2), (0, x3)] [(0, x2)] h)))) = _
  simp only [jt_257_3, jt_257_4, ck_or1, ck_or2, rf_wr, ln_wr, nn_wr, rf_cp, ln_cp, nn_cp, ln_wf, nn_wf, rd_wf, nn_nw]
  try rfl))
theorem Mo_chippedMany_1_e (h : am_H) (x0 x1 x2 x3 : Int) : Mo_chippedMany_1 h x0 x1 x2 x3 = ck_ (0 ≤ x0) (if (rd_ h x0 14) ≤ x3 then some (h, x2) else ck_ (0 ≤ x0) (ck_ (0 ≤ (rf_ h x0 56)) (ck_ (0 ≤ (w32 ((w32 (20 * x1)) + x3)) ∧ (w32 ((w32 (20 * x1)) + x3)) < ln_ h (rf_ h x0 56)) (if (rd_ h (rf_ h x0 56) (w32 ((w32 (20 * x1)) + x3))) = 0 then Mo_chippedMany_1 h x0 x1 (w32 (x2 + 0)) (w32 (x3 + 1)) else Mo_chippedMany_1 h x0 x1 (w32 (x2 + 1)) (w32 (x3 + 1)))))) := (ff_of bk_257_1 [(22, x0), (0, x1), (0, x2), (0, x3)] [] h).trans (by
  show (ck_ (0 ≤ x0) (if (rd_ h x0 14) ≤ x3 then JJ 257 6 [(22, x0), (0, x1), (0, x2), (0, x3)] [] h else JJ 257 2 [(22, x0), (0, x1), (0, x2), (0, x3)] [] h)) = _
  simp only [jt_257_2, jt_257_6, ck_or1, ck_or2, rf_wr, ln_wr, nn_wr, rf_cp, ln_cp, nn_cp, ln_wf, nn_wf, rd_wf, nn_nw]
  try rfl)
theorem cc_257 (h : am_H) (x0 x1 : Int) : CC 257 [(22, x0), (0, x1)] h = Mo_chippedMany h x0 x1 := cc_of pk_257 _ h
set_option maxRecDepth 20000 in
theorem pk_258 : am_prog 258 = some cd_258 := rfl
theorem bk_258_0 : bk_ am_prog 258 0 = some ([true, true, false, false], (bl_258_0, 1)) := bk_of pk_258 rfl
theorem bk_258_1 : bk_ am_prog 258 1 = some ([true, true, true, true], (bl_258_1, 9999)) := bk_of pk_258 rfl
theorem bk_258_2 : bk_ am_prog 258 2 = some ([true, true, true, true], (bl_258_2, 9999)) := bk_of pk_258 rfl
theorem bk_258_3 : bk_ am_prog 258 3 = some ([false, false, true, false], (bl_258_3, 9999)) := bk_of pk_258 rfl
theorem jt_258_1 (h : am_H) (x0 x1 x2 x3 : Int) : JJ 258 1 [(22, x0), (0, x1), (0, x2), (0, x3)] [] h = Mo_gapsAll_1 h x0 x1 x2 x3 := jj_of bk_258_1 _ _ h
theorem Mo_gapsAll_e (h : am_H) (x0 x1 : Int) : Mo_gapsAll h x0 x1 = Mo_gapsAll_1 h x0 x1 0 0 := (ff_of bk_258_0 [(22, x0), (0, x1), (9, 0), (9, 0)] [] h).trans (by
  show (JJ 258 1 [(22, x0), (0, x1), (0, 0), (0, 0)] [] h) = _
  simp only [jt_258_1, ck_or1, ck_or2, rf_wr, ln_wr, nn_wr, rf_cp, ln_cp, nn_cp, ln_wf, nn_wf, rd_wf, nn_nw]
  try rfl)
theorem jt_258_3 (h : am_H) (d0 d1 d3 : am_V) (x2 : Int) : JJ 258 3 [d0, d1, (0, x2), d3] [] h = some (h, x2) := (jj_of bk_258_3 _ _ h).trans (ff_of bk_258_3 [(9, 0), (9, 0), (0, x2), (9, 0)] [] h)
theorem jt_258_2 (h : am_H) (x0 x1 x2 x3 : Int) : JJ 258 2 [(22, x0), (0, x1), (0, x2), (0, x3)] [] h = ck_ (0 ≤ x0) (bd_ (Mo_gapsOf h x0 x1 x3) fun h1 v2 => Mo_gapsAll_1 h1 x0 x1 (w32 (x2 + v2)) (w32 (x3 + 1))) := (jj_of bk_258_2 _ _ h).trans ((ff_of bk_258_2 [(22, x0), (0, x1), (0, x2), (0, x3)] [] h).trans (by
  show (ck_ (0 ≤ x0) (bd_ (CC 245 [(22, x0), (0, x1), (0, x3)] h) fun h1 v2 => JJ 258 1 [(22, x0), (0, x1), (0, w32 (x2 + v2)), (0, w32 (x3 + 1))] [] h1)) = _
  simp only [cc_245, jt_258_1, ck_or1, ck_or2, rf_wr, ln_wr, nn_wr, rf_cp, ln_cp, nn_cp, ln_wf, nn_wf, rd_wf, nn_nw]
  try rfl))
theorem Mo_gapsAll_1_e (h : am_H) (x0 x1 x2 x3 : Int) : Mo_gapsAll_1 h x0 x1 x2 x3 = ck_ (0 ≤ x0) (if (rd_ h x0 13) ≤ x3 then some (h, x2) else ck_ (0 ≤ x0) (bd_ (Mo_gapsOf h x0 x1 x3) fun h1 v2 => Mo_gapsAll_1 h1 x0 x1 (w32 (x2 + v2)) (w32 (x3 + 1)))) := (ff_of bk_258_1 [(22, x0), (0, x1), (0, x2), (0, x3)] [] h).trans (by
  show (ck_ (0 ≤ x0) (if (rd_ h x0 13) ≤ x3 then JJ 258 3 [(22, x0), (0, x1), (0, x2), (0, x3)] [] h else JJ 258 2 [(22, x0), (0, x1), (0, x2), (0, x3)] [] h)) = _
  simp only [jt_258_2, jt_258_3, ck_or1, ck_or2, rf_wr, ln_wr, nn_wr, rf_cp, ln_cp, nn_cp, ln_wf, nn_wf, rd_wf, nn_nw]
  try rfl)
theorem cc_258 (h : am_H) (x0 x1 : Int) : CC 258 [(22, x0), (0, x1)] h = Mo_gapsAll h x0 x1 := cc_of pk_258 _ h
set_option maxRecDepth 20000 in
theorem pk_259 : am_prog 259 = some cd_259 := rfl
theorem bk_259_0 : bk_ am_prog 259 0 = some ([true, true], (bl_259_0, 9999)) := bk_of pk_259 rfl
theorem Mo_fails_e (h : am_H) (x0 x1 : Int) : Mo_fails h x0 x1 = ck_ (0 ≤ x0) (some (wr_ h x0 2 x1, 0)) := ff_of bk_259_0 [(22, x0), (0, x1)] [] h
theorem cc_259 (h : am_H) (x0 x1 : Int) : CC 259 [(22, x0), (0, x1)] h = Mo_fails h x0 x1 := cc_of pk_259 _ h
set_option maxRecDepth 20000 in
theorem pk_260 : am_prog 260 = some cd_260 := rfl
theorem bk_260_0 : bk_ am_prog 260 0 = some ([true, true, true], (bl_260_0, 9999)) := bk_of pk_260 rfl
theorem bk_260_1 : bk_ am_prog 260 1 = some ([true, false, false], (bl_260_1, 9999)) := bk_of pk_260 rfl
theorem bk_260_2 : bk_ am_prog 260 2 = some ([true, true, true], (bl_260_2, 9999)) := bk_of pk_260 rfl
theorem bk_260_3 : bk_ am_prog 260 3 = some ([true, true, false], (bl_260_3, 9999)) := bk_of pk_260 rfl
theorem bk_260_4 : bk_ am_prog 260 4 = some ([true, true, false], (bl_260_4, 9999)) := bk_of pk_260 rfl
theorem bk_260_5 : bk_ am_prog 260 5 = some ([false, false, false], (bl_260_5, 9999)) := bk_of pk_260 rfl
theorem bk_260_6 : bk_ am_prog 260 6 = some ([false, false, false], (bl_260_6, 7)) := bk_of pk_260 rfl
theorem bk_260_7 : bk_ am_prog 260 7 = some ([false, false, false], (bl_260_7, 9999)) := bk_of pk_260 rfl
theorem bk_260_8 : bk_ am_prog 260 8 = some ([true, true, false], (bl_260_8, 9999)) := bk_of pk_260 rfl
theorem bk_260_9 : bk_ am_prog 260 9 = some ([false, false, false], (bl_260_9, 9999)) := bk_of pk_260 rfl
theorem bk_260_10 : bk_ am_prog 260 10 = some ([false, false, false], (bl_260_10, 11)) := bk_of pk_260 rfl
theorem bk_260_11 : bk_ am_prog 260 11 = some ([false, false, false], (bl_260_11, 9999)) := bk_of pk_260 rfl
theorem bk_260_12 : bk_ am_prog 260 12 = some ([true, true, false], (bl_260_12, 9999)) := bk_of pk_260 rfl
theorem bk_260_13 : bk_ am_prog 260 13 = some ([true, true, false], (bl_260_13, 9999)) := bk_of pk_260 rfl
theorem bk_260_14 : bk_ am_prog 260 14 = some ([true, false, false], (bl_260_14, 9999)) := bk_of pk_260 rfl
theorem jt_260_14 (h : am_H) (d1 d2 : am_V) (x0 : Int) : JJ 260 14 [(22, x0), d1, d2] [] h = ck_ (0 ≤ x0) (bd_ (Mo_fails h x0 2) fun h1 v2 => some (h1, v2)) := (jj_of bk_260_14 _ _ h).trans ((ff_of bk_260_14 [(22, x0), (9, 0), (9, 0)] [] h).trans (by
  show (ck_ (0 ≤ x0) (bd_ (CC 259 [(22, x0), (0, 2)] h) fun h1 v2 => some (h1, v2))) = _
  simp only [cc_259, ck_or1, ck_or2, rf_wr, ln_wr, nn_wr, rf_cp, ln_cp, nn_cp, ln_wf, nn_wf, rd_wf, nn_nw]
  try rfl))
theorem jt_260_3 (h : am_H) (d2 : am_V) (x0 x1 : Int) : JJ 260 3 [(22, x0), (0, x1), d2] [] h = ck_ (0 ≤ x0) (ck_ (0 ≤ (rf_ h x0 52)) (ck_ (0 ≤ x1 ∧ x1 < ln_ h (rf_ h x0 52)) (some (h, rd_ h (rf_ h x0 52) x1)))) := (jj_of bk_260_3 _ _ h).trans (ff_of bk_260_3 [(22, x0), (0, x1), (9, 0)] [] h)
theorem jt_260_7 (h : am_H) (d0 d1 d2 : am_V) (s0 : Int) : JJ 260 7 [d0, d1, d2] [(0, s0)] h = some (h, s0) := (jj_of bk_260_7 _ _ h).trans (ff_of bk_260_7 [(9, 0), (9, 0), (9, 0)] [(0, s0)] h)
theorem jt_260_6 (h : am_H) (d0 d1 d2 : am_V) : JJ 260 6 [d0, d1, d2] [] h = some (h, 0) := (jj_of bk_260_6 _ _ h).trans ((ff_of bk_260_6 [(9, 0), (9, 0), (9, 0)] [] h).trans (by
  show (JJ 260 7 [(9, 0), (9, 0), (9, 0)] [(0, 0)] h) = _
  simp only [jt_260_7, ck_or1, ck_or2, rf_wr, ln_wr, nn_wr, rf_cp, ln_cp, nn_cp, ln_wf, nn_wf, rd_wf, nn_nw]
  try rfl))
theorem jt_260_5 (h : am_H) (d0 d1 d2 : am_V) : JJ 260 5 [d0, d1, d2] [] h = some (h, 1) := (jj_of bk_260_5 _ _ h).trans ((ff_of bk_260_5 [(9, 0), (9, 0), (9, 0)] [] h).trans (by
  show (JJ 260 7 [(9, 0), (9, 0), (9, 0)] [(0, 1)] h) = _
  simp only [jt_260_7, ck_or1, ck_or2, rf_wr, ln_wr, nn_wr, rf_cp, ln_cp, nn_cp, ln_wf, nn_wf, rd_wf, nn_nw]
  try rfl))
theorem jt_260_4 (h : am_H) (d2 : am_V) (x0 x1 : Int) : JJ 260 4 [(22, x0), (0, x1), d2] [] h = ck_ (0 ≤ x0) (bd_ (Mo_isRight h x0 0 x1) fun h1 v2 => if v2 = 0 then some (h1, 0) else some (h1, 1)) := (jj_of bk_260_4 _ _ h).trans ((ff_of bk_260_4 [(22, x0), (0, x1), (9, 0)] [] h).trans (by
  show (ck_ (0 ≤ x0) (bd_ (CC 242 [(22, x0), (0, 0), (0, x1)] h) fun h1 v2 => if v2 = 0 then JJ 260 6 [(22, x0), (0, x1), (9, 0)] [] h1 else JJ 260 5 [(22, x0), (0, x1), (9, 0)] [] h1)) = _
  simp only [cc_242, jt_260_5, jt_260_6, ck_or1, ck_or2, rf_wr, ln_wr, nn_wr, rf_cp, ln_cp, nn_cp, ln_wf, nn_wf, rd_wf, nn_nw]
  try rfl))
theorem jt_260_11 (h : am_H) (d0 d1 d2 : am_V) (s0 : Int) : JJ 260 11 [d0, d1, d2] [(0, s0)] h = some (h, s0) := (jj_of bk_260_11 _ _ h).trans (ff_of bk_260_11 [(9, 0), (9, 0), (9, 0)] [(0, s0)] h)
theorem jt_260_10 (h : am_H) (d0 d1 d2 : am_V) : JJ 260 10 [d0, d1, d2] [] h = some (h, 0) := (jj_of bk_260_10 _ _ h).trans ((ff_of bk_260_10 [(9, 0), (9, 0), (9, 0)] [] h).trans (by
  show (JJ 260 11 [(9, 0), (9, 0), (9, 0)] [(0, 0)] h) = _
  simp only [jt_260_11, ck_or1, ck_or2, rf_wr, ln_wr, nn_wr, rf_cp, ln_cp, nn_cp, ln_wf, nn_wf, rd_wf, nn_nw]
  try rfl))
theorem jt_260_9 (h : am_H) (d0 d1 d2 : am_V) : JJ 260 9 [d0, d1, d2] [] h = some (h, 1) := (jj_of bk_260_9 _ _ h).trans ((ff_of bk_260_9 [(9, 0), (9, 0), (9, 0)] [] h).trans (by
  show (JJ 260 11 [(9, 0), (9, 0), (9, 0)] [(0, 1)] h) = _
  simp only [jt_260_11, ck_or1, ck_or2, rf_wr, ln_wr, nn_wr, rf_cp, ln_cp, nn_cp, ln_wf, nn_wf, rd_wf, nn_nw]
  try rfl))
theorem jt_260_8 (h : am_H) (d2 : am_V) (x0 x1 : Int) : JJ 260 8 [(22, x0), (0, x1), d2] [] h = ck_ (0 ≤ x0) (bd_ (Mo_isProper h x0 0 x1) fun h1 v2 => if v2 = 0 then some (h1, 0) else some (h1, 1)) := (jj_of bk_260_8 _ _ h).trans ((ff_of bk_260_8 [(22, x0), (0, x1), (9, 0)] [] h).trans (by
  show (ck_ (0 ≤ x0) (bd_ (CC 243 [(22, x0), (0, 0), (0, x1)] h) fun h1 v2 => if v2 = 0 then JJ 260 10 [(22, x0), (0, x1), (9, 0)] [] h1 else JJ 260 9 [(22, x0), (0, x1), (9, 0)] [] h1)) = _
  simp only [cc_243, jt_260_10, jt_260_9, ck_or1, ck_or2, rf_wr, ln_wr, nn_wr, rf_cp, ln_cp, nn_cp, ln_wf, nn_wf, rd_wf, nn_nw]
  try rfl))
theorem jt_260_12 (h : am_H) (d2 : am_V) (x0 x1 : Int) : JJ 260 12 [(22, x0), (0, x1), d2] [] h = ck_ (0 ≤ x0) (bd_ (Mo_gapsOf h x0 0 x1) fun h1 v2 => some (h1, v2)) := (jj_of bk_260_12 _ _ h).trans ((ff_of bk_260_12 [(22, x0), (0, x1), (9, 0)] [] h).trans (by
  show (ck_ (0 ≤ x0) (bd_ (CC 245 [(22, x0), (0, 0), (0, x1)] h) fun h1 v2 => some (h1, v2))) = _
  simp only [cc_245, ck_or1, ck_or2, rf_wr, ln_wr, nn_wr, rf_cp, ln_cp, nn_cp, ln_wf, nn_wf, rd_wf, nn_nw]
  try rfl))
theorem jt_260_13 (h : am_H) (d2 : am_V) (x0 x1 : Int) : JJ 260 13 [(22, x0), (0, x1), d2] [] h = ck_ (0 ≤ x0) (ck_ (0 ≤ (rf_ h x0 54)) (ck_ (0 ≤ x1 ∧ x1 < ln_ h (rf_ h x0 54)) (some (h, rd_ h (rf_ h x0 54) x1)))) := (jj_of bk_260_13 _ _ h).trans (ff_of bk_260_13 [(22, x0), (0, x1), (9, 0)] [] h)
set_option maxRecDepth 20000 in
theorem jt_260_2 (h : am_H) (x0 x1 x2 : Int) : JJ 260 2 [(22, x0), (0, x1), (0, x2)] [] h = if x2 = 0 then ck_ (0 ≤ x0) (ck_ (0 ≤ (rf_ h x0 52)) (ck_ (0 ≤ x1 ∧ x1 < ln_ h (rf_ h x0 52)) (some (h, rd_ h (rf_ h x0 52) x1)))) else if x2 = 1 then ck_ (0 ≤ x0) (bd_ (Mo_isRight h x0 0 x1) fun h7 v8 => if v8 = 0 then some (h7, 0) else some (h7, 1)) else if x2 = 2 then ck_ (0 ≤ x0) (bd_ (Mo_isProper h x0 0 x1) fun h5 v6 => if v6 = 0 then some (h5, 0) else some (h5, 1)) else if x2 = 3 then ck_ (0 ≤ x0) (bd_ (Mo_gapsOf h x0 0 x1) fun h3 v4 => some (h3, v4)) else if x2 = 4 then ck_ (0 ≤ x0) (ck_ (0 ≤ (rf_ h x0 54)) (ck_ (0 ≤ x1 ∧ x1 < ln_ h (rf_ h x0 54)) (some (h, rd_ h (rf_ h x0 54) x1)))) else ck_ (0 ≤ x0) (bd_ (Mo_fails h x0 2) fun h1 v2 => some (h1, v2)) := (jj_of bk_260_2 _ _ h).trans ((ff_of bk_260_2 [(22, x0), (0, x1), (0, x2)] [] h).trans (by
  show (if x2 = 0 then JJ 260 3 [(22, x0), (0, x1), (0, x2)] [] h else if x2 = 1 then JJ 260 4 [(22, x0), (0, x1), (0, x2)] [] h else if x2 = 2 then JJ 260 8 [(22, x0), (0, x1), (0, x2)] [] h else if x2 = 3 then JJ 260 12 [(22, x0), (0, x1), (0, x2)] [] h else if x2 = 4 then JJ 260 13 [(22, x0), (0, x1), (0, x2)] [] h else JJ 260 14 [(22, x0), (0, x1), (0, x2)] [] h) = _
  simp only [jt_260_12, jt_260_13, jt_260_14, jt_260_3, jt_260_4, jt_260_8, ck_or1, ck_or2, rf_wr, ln_wr, nn_wr, rf_cp, ln_cp, nn_cp, ln_wf, nn_wf, rd_wf, nn_nw]
  try rfl))
theorem jt_260_1 (h : am_H) (d1 d2 : am_V) (x0 : Int) : JJ 260 1 [(22, x0), d1, d2] [] h = ck_ (0 ≤ x0) (bd_ (Mo_fails h x0 1) fun h1 v2 => some (h1, v2)) := (jj_of bk_260_1 _ _ h).trans ((ff_of bk_260_1 [(22, x0), (9, 0), (9, 0)] [] h).trans (by
  show (ck_ (0 ≤ x0) (bd_ (CC 259 [(22, x0), (0, 1)] h) fun h1 v2 => some (h1, v2))) = _
  simp only [cc_259, ck_or1, ck_or2, rf_wr, ln_wr, nn_wr, rf_cp, ln_cp, nn_cp, ln_wf, nn_wf, rd_wf, nn_nw]
  try rfl))
set_option maxRecDepth 20000 in
theorem Mo_pile_e (h : am_H) (x0 x1 x2 : Int) : Mo_pile h x0 x1 x2 = ck_ (0 ≤ x0) (ck_ (0 ≤ x0) (bd_ (Mo_isPile (wr_ h x0 2 0) x0 x1) fun h1 v2 => if v2 ≠ 0 then (if x2 = 0 then ck_ (0 ≤ x0) (ck_ (0 ≤ (rf_ h1 x0 52)) (ck_ (0 ≤ x1 ∧ x1 < ln_ h1 (rf_ h1 x0 52)) (some (h1, rd_ h1 (rf_ h1 x0 52) x1)))) else if x2 = 1 then ck_ (0 ≤ x0) (bd_ (Mo_isRight h1 x0 0 x1) fun h9 v10 => if v10 = 0 then some (h9, 0) else some (h9, 1)) else if x2 = 2 then ck_ (0 ≤ x0) (bd_ (Mo_isProper h1 x0 0 x1) fun h7 v8 => if v8 = 0 then some (h7, 0) else some (h7, 1)) else if x2 = 3 then ck_ (0 ≤ x0) (bd_ (Mo_gapsOf h1 x0 0 x1) fun h5 v6 => some (h5, v6)) else if x2 = 4 then ck_ (0 ≤ x0) (ck_ (0 ≤ (rf_ h1 x0 54)) (ck_ (0 ≤ x1 ∧ x1 < ln_ h1 (rf_ h1 x0 54)) (some (h1, rd_ h1 (rf_ h1 x0 54) x1)))) else ck_ (0 ≤ x0) (bd_ (Mo_fails h1 x0 2) fun h3 v4 => some (h3, v4))) else ck_ (0 ≤ x0) (bd_ (Mo_fails h1 x0 1) fun h11 v12 => some (h11, v12)))) := (ff_of bk_260_0 [(22, x0), (0, x1), (0, x2)] [] h).trans (by
  show (ck_ (0 ≤ x0) (ck_ (0 ≤ x0) (bd_ (CC 236 [(22, x0), (0, x1)] (wr_ h x0 2 0)) fun h1 v2 => if v2 ≠ 0 then JJ 260 2 [(22, x0), (0, x1), (0, x2)] [] h1 else JJ 260 1 [(22, x0), (0, x1), (0, x2)] [] h1))) = _
  simp only [cc_236, jt_260_1, jt_260_2, ck_or1, ck_or2, rf_wr, ln_wr, nn_wr, rf_cp, ln_cp, nn_cp, ln_wf, nn_wf, rd_wf, nn_nw]
  try rfl)
theorem cc_260 (h : am_H) (x0 x1 x2 : Int) : CC 260 [(22, x0), (0, x1), (0, x2)] h = Mo_pile h x0 x1 x2 := cc_of pk_260 _ h
set_option maxRecDepth 20000 in
theorem pk_261 : am_prog 261 = some cd_261 := rfl
theorem bk_261_0 : bk_ am_prog 261 0 = some ([true, true, true, true, false], (bl_261_0, 9999)) := bk_of pk_261 rfl
theorem bk_261_1 : bk_ am_prog 261 1 = some ([true, true, true, true, false], (bl_261_1, 9999)) := bk_of pk_261 rfl
theorem bk_261_2 : bk_ am_prog 261 2 = some ([true, true, true, true, false], (bl_261_2, 9999)) := bk_of pk_261 rfl
theorem bk_261_3 : bk_ am_prog 261 3 = some ([false, false, false, false, false], (bl_261_3, 9999)) := bk_of pk_261 rfl
theorem bk_261_4 : bk_ am_prog 261 4 = some ([true, true, true, true, false], (bl_261_4, 9999)) := bk_of pk_261 rfl
theorem bk_261_5 : bk_ am_prog 261 5 = some ([false, false, false, false, false], (bl_261_5, 9999)) := bk_of pk_261 rfl
theorem bk_261_6 : bk_ am_prog 261 6 = some ([true, false, false, true, true], (bl_261_6, 9999)) := bk_of pk_261 rfl
theorem bk_261_7 : bk_ am_prog 261 7 = some ([false, false, false, false, true], (bl_261_7, 9999)) := bk_of pk_261 rfl
theorem bk_261_8 : bk_ am_prog 261 8 = some ([true, false, false, false, true], (bl_261_8, 9999)) := bk_of pk_261 rfl
theorem bk_261_9 : bk_ am_prog 261 9 = some ([true, false, false, false, true], (bl_261_9, 9999)) := bk_of pk_261 rfl
theorem bk_261_10 : bk_ am_prog 261 10 = some ([true, false, false, false, true], (bl_261_10, 9999)) := bk_of pk_261 rfl
theorem bk_261_11 : bk_ am_prog 261 11 = some ([false, false, false, false, false], (bl_261_11, 9999)) := bk_of pk_261 rfl
theorem bk_261_12 : bk_ am_prog 261 12 = some ([false, false, false, false, false], (bl_261_12, 13)) := bk_of pk_261 rfl
theorem bk_261_13 : bk_ am_prog 261 13 = some ([false, false, false, false, false], (bl_261_13, 9999)) := bk_of pk_261 rfl
theorem jt_261_3 (h : am_H) (d0 d1 d2 d3 d4 : am_V) : JJ 261 3 [d0, d1, d2, d3, d4] [] h = some (h, (-1)) := (jj_of bk_261_3 _ _ h).trans (ff_of bk_261_3 [(9, 0), (9, 0), (9, 0), (9, 0), (9, 0)] [] h)
theorem jt_261_13 (h : am_H) (d0 d1 d2 d3 d4 : am_V) (s0 : Int) : JJ 261 13 [d0, d1, d2, d3, d4] [(0, s0)] h = some (h, s0) := (jj_of bk_261_13 _ _ h).trans (ff_of bk_261_13 [(9, 0), (9, 0), (9, 0), (9, 0), (9, 0)] [(0, s0)] h)
theorem jt_261_12 (h : am_H) (d0 d1 d2 d3 d4 : am_V) : JJ 261 12 [d0, d1, d2, d3, d4] [] h = some (h, 0) := (jj_of bk_261_12 _ _ h).trans ((ff_of bk_261_12 [(9, 0), (9, 0), (9, 0), (9, 0), (9, 0)] [] h).trans (by
  show (JJ 261 13 [(9, 0), (9, 0), (9, 0), (9, 0), (9, 0)] [(0, 0)] h) = _
  simp only [jt_261_13, ck_or1, ck_or2, rf_wr, ln_wr, nn_wr, rf_cp, ln_cp, nn_cp, ln_wf, nn_wf, rd_wf, nn_nw]
  try rfl))
theorem jt_261_11 (h : am_H) (d0 d1 d2 d3 d4 : am_V) : JJ 261 11 [d0, d1, d2, d3, d4] [] h = some (h, 1) := (jj_of bk_261_11 _ _ h).trans ((ff_of bk_261_11 [(9, 0), (9, 0), (9, 0), (9, 0), (9, 0)] [] h).trans (by
  show (JJ 261 13 [(9, 0), (9, 0), (9, 0), (9, 0), (9, 0)] [(0, 1)] h) = _
  simp only [jt_261_13, ck_or1, ck_or2, rf_wr, ln_wr, nn_wr, rf_cp, ln_cp, nn_cp, ln_wf, nn_wf, rd_wf, nn_nw]
  try rfl))
theorem jt_261_10 (h : am_H) (d1 d2 d3 : am_V) (x0 x4 : Int) : JJ 261 10 [(22, x0), d1, d2, d3, (0, x4)] [] h = ck_ (0 ≤ x0) (ck_ (0 ≤ (rf_ h x0 56)) (ck_ (0 ≤ x4 ∧ x4 < ln_ h (rf_ h x0 56)) (if (rd_ h (rf_ h x0 56) x4) = 0 then some (h, 0) else some (h, 1)))) := (jj_of bk_261_10 _ _ h).trans ((ff_of bk_261_10 [(22, x0), (9, 0), (9, 0), (9, 0), (0, x4)] [] h).trans (by
  show (ck_ (0 ≤ x0) (ck_ (0 ≤ (rf_ h x0 56)) (ck_ (0 ≤ x4 ∧ x4 < ln_ h (rf_ h x0 56)) (if (rd_ h (rf_ h x0 56) x4) = 0 then JJ 261 12 [(22, x0), (9, 0), (9, 0), (9, 0), (0, x4)] [] h else JJ 261 11 [(22, x0), (9, 0), (9, 0), (9, 0), (0, x4)] [] h)))) = _
  simp only [jt_261_11, jt_261_12, ck_or1, ck_or2, rf_wr, ln_wr, nn_wr, rf_cp, ln_cp, nn_cp, ln_wf, nn_wf, rd_wf, nn_nw]
  try rfl))
theorem jt_261_7 (h : am_H) (d0 d1 d2 d3 : am_V) (x4 : Int) : JJ 261 7 [d0, d1, d2, d3, (0, x4)] [] h = some (h, x4) := (jj_of bk_261_7 _ _ h).trans (ff_of bk_261_7 [(9, 0), (9, 0), (9, 0), (9, 0), (0, x4)] [] h)
theorem jt_261_8 (h : am_H) (d1 d2 d3 : am_V) (x0 x4 : Int) : JJ 261 8 [(22, x0), d1, d2, d3, (0, x4)] [] h = ck_ (0 ≤ x0) (ck_ (0 ≤ (rf_ h x0 29)) (ck_ (0 ≤ x4 ∧ x4 < ln_ h (rf_ h x0 29)) (some (h, rd_ h (rf_ h x0 29) x4)))) := (jj_of bk_261_8 _ _ h).trans (ff_of bk_261_8 [(22, x0), (9, 0), (9, 0), (9, 0), (0, x4)] [] h)
theorem jt_261_9 (h : am_H) (d1 d2 d3 : am_V) (x0 x4 : Int) : JJ 261 9 [(22, x0), d1, d2, d3, (0, x4)] [] h = ck_ (0 ≤ x0) (ck_ (0 ≤ (rf_ h x0 55)) (ck_ (0 ≤ x4 ∧ x4 < ln_ h (rf_ h x0 55)) (some (h, rd_ h (rf_ h x0 55) x4)))) := (jj_of bk_261_9 _ _ h).trans (ff_of bk_261_9 [(22, x0), (9, 0), (9, 0), (9, 0), (0, x4)] [] h)
theorem jt_261_6 (h : am_H) (d1 d2 : am_V) (x0 x3 x4 : Int) : JJ 261 6 [(22, x0), d1, d2, (0, x3), (0, x4)] [] h = if x3 = 0 then some (h, x4) else if x3 = 1 then ck_ (0 ≤ x0) (ck_ (0 ≤ (rf_ h x0 29)) (ck_ (0 ≤ x4 ∧ x4 < ln_ h (rf_ h x0 29)) (some (h, rd_ h (rf_ h x0 29) x4)))) else if x3 = 2 then ck_ (0 ≤ x0) (ck_ (0 ≤ (rf_ h x0 55)) (ck_ (0 ≤ x4 ∧ x4 < ln_ h (rf_ h x0 55)) (some (h, rd_ h (rf_ h x0 55) x4)))) else ck_ (0 ≤ x0) (ck_ (0 ≤ (rf_ h x0 56)) (ck_ (0 ≤ x4 ∧ x4 < ln_ h (rf_ h x0 56)) (if (rd_ h (rf_ h x0 56) x4) = 0 then some (h, 0) else some (h, 1)))) := (jj_of bk_261_6 _ _ h).trans ((ff_of bk_261_6 [(22, x0), (9, 0), (9, 0), (0, x3), (0, x4)] [] h).trans (by
  show (if x3 = 0 then JJ 261 7 [(22, x0), (9, 0), (9, 0), (0, x3), (0, x4)] [] h else if x3 = 1 then JJ 261 8 [(22, x0), (9, 0), (9, 0), (0, x3), (0, x4)] [] h else if x3 = 2 then JJ 261 9 [(22, x0), (9, 0), (9, 0), (0, x3), (0, x4)] [] h else JJ 261 10 [(22, x0), (9, 0), (9, 0), (0, x3), (0, x4)] [] h) = _
  simp only [jt_261_10, jt_261_7, jt_261_8, jt_261_9, ck_or1, ck_or2, rf_wr, ln_wr, nn_wr, rf_cp, ln_cp, nn_cp, ln_wf, nn_wf, rd_wf, nn_nw]
  try rfl))
theorem jt_261_5 (h : am_H) (d0 d1 d2 d3 d4 : am_V) : JJ 261 5 [d0, d1, d2, d3, d4] [] h = some (h, (-2)) := (jj_of bk_261_5 _ _ h).trans (ff_of bk_261_5 [(9, 0), (9, 0), (9, 0), (9, 0), (9, 0)] [] h)
theorem jt_261_4 (h : am_H) (d4 : am_V) (x0 x1 x2 x3 : Int) : JJ 261 4 [(22, x0), (0, x1), (0, x2), (0, x3), d4] [] h = ck_ (0 ≤ x0) (bd_ (Mo_plateAt h x0 0 x1 x2) fun h1 v2 => if 0 ≤ v2 then (if x3 = 0 then some (h1, v2) else if x3 = 1 then ck_ (0 ≤ x0) (ck_ (0 ≤ (rf_ h1 x0 29)) (ck_ (0 ≤ v2 ∧ v2 < ln_ h1 (rf_ h1 x0 29)) (some (h1, rd_ h1 (rf_ h1 x0 29) v2)))) else if x3 = 2 then ck_ (0 ≤ x0) (ck_ (0 ≤ (rf_ h1 x0 55)) (ck_ (0 ≤ v2 ∧ v2 < ln_ h1 (rf_ h1 x0 55)) (some (h1, rd_ h1 (rf_ h1 x0 55) v2)))) else ck_ (0 ≤ x0) (ck_ (0 ≤ (rf_ h1 x0 56)) (ck_ (0 ≤ v2 ∧ v2 < ln_ h1 (rf_ h1 x0 56)) (if (rd_ h1 (rf_ h1 x0 56) v2) = 0 then some (h1, 0) else some (h1, 1))))) else some (h1, (-2))) := (jj_of bk_261_4 _ _ h).trans ((ff_of bk_261_4 [(22, x0), (0, x1), (0, x2), (0, x3), (9, 0)] [] h).trans (by
  show (ck_ (0 ≤ x0) (bd_ (CC 239 [(22, x0), (0, 0), (0, x1), (0, x2)] h) fun h1 v2 => if 0 ≤ v2 then JJ 261 6 [(22, x0), (0, x1), (0, x2), (0, x3), (0, v2)] [] h1 else JJ 261 5 [(22, x0), (0, x1), (0, x2), (0, x3), (0, v2)] [] h1)) = _
  simp only [cc_239, jt_261_5, jt_261_6, ck_or1, ck_or2, rf_wr, ln_wr, nn_wr, rf_cp, ln_cp, nn_cp, ln_wf, nn_wf, rd_wf, nn_nw]
  try rfl))
set_option maxRecDepth 20000 in
theorem jt_261_2 (h : am_H) (d4 : am_V) (x0 x1 x2 x3 : Int) : JJ 261 2 [(22, x0), (0, x1), (0, x2), (0, x3), d4] [] h = bd_ (Mo_isIn h x3 0 3) fun h1 v2 => if v2 ≠ 0 then ck_ (0 ≤ x0) (bd_ (Mo_plateAt h1 x0 0 x1 x2) fun h3 v4 => if 0 ≤ v4 then (if x3 = 0 then some (h3, v4) else if x3 = 1 then ck_ (0 ≤ x0) (ck_ (0 ≤ (rf_ h3 x0 29)) (ck_ (0 ≤ v4 ∧ v4 < ln_ h3 (rf_ h3 x0 29)) (some (h3, rd_ h3 (rf_ h3 x0 29) v4)))) else if x3 = 2 then ck_ (0 ≤ x0) (ck_ (0 ≤ (rf_ h3 x0 55)) (ck_ (0 ≤ v4 ∧ v4 < ln_ h3 (rf_ h3 x0 55)) (some (h3, rd_ h3 (rf_ h3 x0 55) v4)))) else ck_ (0 ≤ x0) (ck_ (0 ≤ (rf_ h3 x0 56)) (ck_ (0 ≤ v4 ∧ v4 < ln_ h3 (rf_ h3 x0 56)) (if (rd_ h3 (rf_ h3 x0 56) v4) = 0 then some (h3, 0) else some (h3, 1))))) else some (h3, (-2))) else some (h1, (-1)) := (jj_of bk_261_2 _ _ h).trans ((ff_of bk_261_2 [(22, x0), (0, x1), (0, x2), (0, x3), (9, 0)] [] h).trans (by
  show (bd_ (CC 196 [(0, x3), (0, 0), (0, 3)] h) fun h1 v2 => if v2 ≠ 0 then JJ 261 4 [(22, x0), (0, x1), (0, x2), (0, x3), (9, 0)] [] h1 else JJ 261 3 [(22, x0), (0, x1), (0, x2), (0, x3), (9, 0)] [] h1) = _
  simp only [cc_196, jt_261_3, jt_261_4, ck_or1, ck_or2, rf_wr, ln_wr, nn_wr, rf_cp, ln_cp, nn_cp, ln_wf, nn_wf, rd_wf, nn_nw]
  try rfl))
set_option maxRecDepth 20000 in
theorem jt_261_1 (h : am_H) (d4 : am_V) (x0 x1 x2 x3 : Int) : JJ 261 1 [(22, x0), (0, x1), (0, x2), (0, x3), d4] [] h = bd_ (Mo_isIn h x2 0 4) fun h1 v2 => if v2 = 0 then some (h1, (-1)) else bd_ (Mo_isIn h1 x3 0 3) fun h3 v4 => if v4 ≠ 0 then ck_ (0 ≤ x0) (bd_ (Mo_plateAt h3 x0 0 x1 x2) fun h5 v6 => if 0 ≤ v6 then (if x3 = 0 then some (h5, v6) else if x3 = 1 then ck_ (0 ≤ x0) (ck_ (0 ≤ (rf_ h5 x0 29)) (ck_ (0 ≤ v6 ∧ v6 < ln_ h5 (rf_ h5 x0 29)) (some (h5, rd_ h5 (rf_ h5 x0 29) v6)))) else if x3 = 2 then ck_ (0 ≤ x0) (ck_ (0 ≤ (rf_ h5 x0 55)) (ck_ (0 ≤ v6 ∧ v6 < ln_ h5 (rf_ h5 x0 55)) (some (h5, rd_ h5 (rf_ h5 x0 55) v6)))) else ck_ (0 ≤ x0) (ck_ (0 ≤ (rf_ h5 x0 56)) (ck_ (0 ≤ v6 ∧ v6 < ln_ h5 (rf_ h5 x0 56)) (if (rd_ h5 (rf_ h5 x0 56) v6) = 0 then some (h5, 0) else some (h5, 1))))) else some (h5, (-2))) else some (h3, (-1)) := (jj_of bk_261_1 _ _ h).trans ((ff_of bk_261_1 [(22, x0), (0, x1), (0, x2), (0, x3), (9, 0)] [] h).trans (by
  show (bd_ (CC 196 [(0, x2), (0, 0), (0, 4)] h) fun h1 v2 => if v2 = 0 then JJ 261 3 [(22, x0), (0, x1), (0, x2), (0, x3), (9, 0)] [] h1 else JJ 261 2 [(22, x0), (0, x1), (0, x2), (0, x3), (9, 0)] [] h1) = _
  simp only [cc_196, jt_261_2, jt_261_3, ck_or1, ck_or2, rf_wr, ln_wr, nn_wr, rf_cp, ln_cp, nn_cp, ln_wf, nn_wf, rd_wf, nn_nw]
  try rfl))
set_option maxRecDepth 20000 in
theorem Mo_plate_e (h : am_H) (x0 x1 x2 x3 : Int) : Mo_plate h x0 x1 x2 x3 = ck_ (0 ≤ x0) (ck_ (0 ≤ x0) (bd_ (Mo_isPile (wr_ h x0 2 0) x0 x1) fun h1 v2 => if v2 = 0 then some (h1, (-1)) else bd_ (Mo_isIn h1 x2 0 4) fun h3 v4 => if v4 = 0 then some (h3, (-1)) else bd_ (Mo_isIn h3 x3 0 3) fun h5 v6 => if v6 ≠ 0 then ck_ (0 ≤ x0) (bd_ (Mo_plateAt h5 x0 0 x1 x2) fun h7 v8 => if 0 ≤ v8 then (if x3 = 0 then some (h7, v8) else if x3 = 1 then ck_ (0 ≤ x0) (ck_ (0 ≤ (rf_ h7 x0 29)) (ck_ (0 ≤ v8 ∧ v8 < ln_ h7 (rf_ h7 x0 29)) (some (h7, rd_ h7 (rf_ h7 x0 29) v8)))) else if x3 = 2 then ck_ (0 ≤ x0) (ck_ (0 ≤ (rf_ h7 x0 55)) (ck_ (0 ≤ v8 ∧ v8 < ln_ h7 (rf_ h7 x0 55)) (some (h7, rd_ h7 (rf_ h7 x0 55) v8)))) else ck_ (0 ≤ x0) (ck_ (0 ≤ (rf_ h7 x0 56)) (ck_ (0 ≤ v8 ∧ v8 < ln_ h7 (rf_ h7 x0 56)) (if (rd_ h7 (rf_ h7 x0 56) v8) = 0 then some (h7, 0) else some (h7, 1))))) else some (h7, (-2))) else some (h5, (-1)))) := (ff_of bk_261_0 [(22, x0), (0, x1), (0, x2), (0, x3), (9, 0)] [] h).trans (by
  show (ck_ (0 ≤ x0) (ck_ (0 ≤ x0) (bd_ (CC 236 [(22, x0), (0, x1)] (wr_ h x0 2 0)) fun h1 v2 => if v2 = 0 then JJ 261 3 [(22, x0), (0, x1), (0, x2), (0, x3), (9, 0)] [] h1 else JJ 261 1 [(22, x0), (0, x1), (0, x2), (0, x3), (9, 0)] [] h1))) = _
  simp only [cc_236, jt_261_1, jt_261_3, ck_or1, ck_or2, rf_wr, ln_wr, nn_wr, rf_cp, ln_cp, nn_cp, ln_wf, nn_wf, rd_wf, nn_nw]
  try rfl)
theorem cc_261 (h : am_H) (x0 x1 x2 x3 : Int) : CC 261 [(22, x0), (0, x1), (0, x2), (0, x3)] h = Mo_plate h x0 x1 x2 x3 := cc_of pk_261 _ h
set_option maxRecDepth 20000 in
theorem pk_262 : am_prog 262 = some cd_262 := rfl
theorem bk_262_0 : bk_ am_prog 262 0 = some ([true, true, true], (bl_262_0, 9999)) := bk_of pk_262 rfl
theorem bk_262_1 : bk_ am_prog 262 1 = some ([false, false, false], (bl_262_1, 9999)) := bk_of pk_262 rfl
theorem bk_262_2 : bk_ am_prog 262 2 = some ([true, true, true], (bl_262_2, 9999)) := bk_of pk_262 rfl
theorem bk_262_3 : bk_ am_prog 262 3 = some ([true, true, false], (bl_262_3, 9999)) := bk_of pk_262 rfl
theorem bk_262_4 : bk_ am_prog 262 4 = some ([true, true, true], (bl_262_4, 9999)) := bk_of pk_262 rfl
theorem bk_262_5 : bk_ am_prog 262 5 = some ([true, true, false], (bl_262_5, 9999)) := bk_of pk_262 rfl
theorem bk_262_6 : bk_ am_prog 262 6 = some ([false, false, false], (bl_262_6, 7)) := bk_of pk_262 rfl
theorem bk_262_7 : bk_ am_prog 262 7 = some ([false, false, false], (bl_262_7, 9999)) := bk_of pk_262 rfl
theorem jt_262_7 (h : am_H) (d0 d1 d2 : am_V) (s0 : Int) : JJ 262 7 [d0, d1, d2] [(0, s0)] h = some (h, s0) := (jj_of bk_262_7 _ _ h).trans (ff_of bk_262_7 [(9, 0), (9, 0), (9, 0)] [(0, s0)] h)
theorem jt_262_6 (h : am_H) (d0 d1 d2 : am_V) : JJ 262 6 [d0, d1, d2] [] h = some (h, (-1)) := (jj_of bk_262_6 _ _ h).trans ((ff_of bk_262_6 [(9, 0), (9, 0), (9, 0)] [] h).trans (by
  show (JJ 262 7 [(9, 0), (9, 0), (9, 0)] [(0, (-1))] h) = _
  simp only [jt_262_7, ck_or1, ck_or2, rf_wr, ln_wr, nn_wr, rf_cp, ln_cp, nn_cp, ln_wf, nn_wf, rd_wf, nn_nw]
  try rfl))
theorem jt_262_5 (h : am_H) (d2 : am_V) (x0 x1 : Int) : JJ 262 5 [(22, x0), (0, x1), d2] [] h = ck_ (0 ≤ x0) (ck_ (0 ≤ (rf_ h x0 57)) (ck_ (0 ≤ x1 ∧ x1 < ln_ h (rf_ h x0 57)) (some (h, rd_ h (rf_ h x0 57) x1)))) := (jj_of bk_262_5 _ _ h).trans ((ff_of bk_262_5 [(22, x0), (0, x1), (9, 0)] [] h).trans (by
  show (ck_ (0 ≤ x0) (ck_ (0 ≤ (rf_ h x0 57)) (ck_ (0 ≤ x1 ∧ x1 < ln_ h (rf_ h x0 57)) (JJ 262 7 [(22, x0), (0, x1), (9, 0)] [(0, rd_ h (rf_ h x0 57) x1)] h)))) = _
  simp only [jt_262_7, ck_or1, ck_or2, rf_wr, ln_wr, nn_wr, rf_cp, ln_cp, nn_cp, ln_wf, nn_wf, rd_wf, nn_nw]
  try rfl))
theorem jt_262_4 (h : am_H) (x0 x1 x2 : Int) : JJ 262 4 [(22, x0), (0, x1), (0, x2)] [] h = if x2 ≠ 1 then some (h, (-1)) else ck_ (0 ≤ x0) (ck_ (0 ≤ (rf_ h x0 57)) (ck_ (0 ≤ x1 ∧ x1 < ln_ h (rf_ h x0 57)) (some (h, rd_ h (rf_ h x0 57) x1)))) := (jj_of bk_262_4 _ _ h).trans ((ff_of bk_262_4 [(22, x0), (0, x1), (0, x2)] [] h).trans (by
  show (if x2 ≠ 1 then JJ 262 6 [(22, x0), (0, x1), (0, x2)] [] h else JJ 262 5 [(22, x0), (0, x1), (0, x2)] [] h) = _
  simp only [jt_262_5, jt_262_6, ck_or1, ck_or2, rf_wr, ln_wr, nn_wr, rf_cp, ln_cp, nn_cp, ln_wf, nn_wf, rd_wf, nn_nw]
  try rfl))
theorem jt_262_3 (h : am_H) (d2 : am_V) (x0 x1 : Int) : JJ 262 3 [(22, x0), (0, x1), d2] [] h = ck_ (0 ≤ x0) (ck_ (0 ≤ (rf_ h x0 25)) (ck_ (0 ≤ x1 ∧ x1 < ln_ h (rf_ h x0 25)) (some (h, rd_ h (rf_ h x0 25) x1)))) := (jj_of bk_262_3 _ _ h).trans ((ff_of bk_262_3 [(22, x0), (0, x1), (9, 0)] [] h).trans (by
  show (ck_ (0 ≤ x0) (ck_ (0 ≤ (rf_ h x0 25)) (ck_ (0 ≤ x1 ∧ x1 < ln_ h (rf_ h x0 25)) (JJ 262 7 [(22, x0), (0, x1), (9, 0)] [(0, rd_ h (rf_ h x0 25) x1)] h)))) = _
  simp only [jt_262_7, ck_or1, ck_or2, rf_wr, ln_wr, nn_wr, rf_cp, ln_cp, nn_cp, ln_wf, nn_wf, rd_wf, nn_nw]
  try rfl))
theorem jt_262_2 (h : am_H) (x0 x1 x2 : Int) : JJ 262 2 [(22, x0), (0, x1), (0, x2)] [] h = if x2 ≠ 0 then (if x2 ≠ 1 then some (h, (-1)) else ck_ (0 ≤ x0) (ck_ (0 ≤ (rf_ h x0 57)) (ck_ (0 ≤ x1 ∧ x1 < ln_ h (rf_ h x0 57)) (some (h, rd_ h (rf_ h x0 57) x1))))) else ck_ (0 ≤ x0) (ck_ (0 ≤ (rf_ h x0 25)) (ck_ (0 ≤ x1 ∧ x1 < ln_ h (rf_ h x0 25)) (some (h, rd_ h (rf_ h x0 25) x1)))) := (jj_of bk_262_2 _ _ h).trans ((ff_of bk_262_2 [(22, x0), (0, x1), (0, x2)] [] h).trans (by
  show (if x2 ≠ 0 then JJ 262 4 [(22, x0), (0, x1), (0, x2)] [] h else JJ 262 3 [(22, x0), (0, x1), (0, x2)] [] h) = _
  simp only [jt_262_3, jt_262_4, ck_or1, ck_or2, rf_wr, ln_wr, nn_wr, rf_cp, ln_cp, nn_cp, ln_wf, nn_wf, rd_wf, nn_nw]
  try rfl))
theorem jt_262_1 (h : am_H) (d0 d1 d2 : am_V) : JJ 262 1 [d0, d1, d2] [] h = some (h, (-1)) := (jj_of bk_262_1 _ _ h).trans ((ff_of bk_262_1 [(9, 0), (9, 0), (9, 0)] [] h).trans (by
  show (JJ 262 7 [(9, 0), (9, 0), (9, 0)] [(0, (-1))] h) = _
  simp only [jt_262_7, ck_or1, ck_or2, rf_wr, ln_wr, nn_wr, rf_cp, ln_cp, nn_cp, ln_wf, nn_wf, rd_wf, nn_nw]
  try rfl))
theorem Mo_maid_e (h : am_H) (x0 x1 x2 : Int) : Mo_maid h x0 x1 x2 = ck_ (0 ≤ x0) (ck_ (0 ≤ x0) (bd_ (Mo_isMaid (wr_ h x0 2 0) x0 x1) fun h1 v2 => if v2 ≠ 0 then (if x2 ≠ 0 then (if x2 ≠ 1 then some (h1, (-1)) else ck_ (0 ≤ x0) (ck_ (0 ≤ (rf_ h1 x0 57)) (ck_ (0 ≤ x1 ∧ x1 < ln_ h1 (rf_ h1 x0 57)) (some (h1, rd_ h1 (rf_ h1 x0 57) x1))))) else ck_ (0 ≤ x0) (ck_ (0 ≤ (rf_ h1 x0 25)) (ck_ (0 ≤ x1 ∧ x1 < ln_ h1 (rf_ h1 x0 25)) (some (h1, rd_ h1 (rf_ h1 x0 25) x1))))) else some (h1, (-1)))) := (ff_of bk_262_0 [(22, x0), (0, x1), (0, x2)] [] h).trans (by
  show (ck_ (0 ≤ x0) (ck_ (0 ≤ x0) (bd_ (CC 235 [(22, x0), (0, x1)] (wr_ h x0 2 0)) fun h1 v2 => if v2 ≠ 0 then JJ 262 2 [(22, x0), (0, x1), (0, x2)] [] h1 else JJ 262 1 [(22, x0), (0, x1), (0, x2)] [] h1))) = _
  simp only [cc_235, jt_262_1, jt_262_2, ck_or1, ck_or2, rf_wr, ln_wr, nn_wr, rf_cp, ln_cp, nn_cp, ln_wf, nn_wf, rd_wf, nn_nw]
  try rfl)
theorem cc_262 (h : am_H) (x0 x1 x2 : Int) : CC 262 [(22, x0), (0, x1), (0, x2)] h = Mo_maid h x0 x1 x2 := cc_of pk_262 _ h
set_option maxRecDepth 20000 in
theorem pk_263 : am_prog 263 = some cd_263 := rfl
theorem bk_263_0 : bk_ am_prog 263 0 = some ([true, true, true, true, true, false, false], (bl_263_0, 9999)) := bk_of pk_263 rfl
theorem bk_263_1 : bk_ am_prog 263 1 = some ([true, true, true, true, true, false, false], (bl_263_1, 9999)) := bk_of pk_263 rfl
theorem bk_263_2 : bk_ am_prog 263 2 = some ([true, true, true, true, true, false, false], (bl_263_2, 9999)) := bk_of pk_263 rfl
theorem bk_263_3 : bk_ am_prog 263 3 = some ([true, true, true, true, true, false, false], (bl_263_3, 9999)) := bk_of pk_263 rfl
theorem bk_263_4 : bk_ am_prog 263 4 = some ([true, true, true, true, true, false, false], (bl_263_4, 9999)) := bk_of pk_263 rfl
theorem bk_263_5 : bk_ am_prog 263 5 = some ([false, false, false, false, false, false, false], (bl_263_5, 9999)) := bk_of pk_263 rfl
theorem bk_263_6 : bk_ am_prog 263 6 = some ([true, true, true, true, true, false, false], (bl_263_6, 9999)) := bk_of pk_263 rfl
theorem bk_263_7 : bk_ am_prog 263 7 = some ([true, true, false, true, false, false, false], (bl_263_7, 8)) := bk_of pk_263 rfl
theorem bk_263_8 : bk_ am_prog 263 8 = some ([true, true, false, false, false, false, false], (bl_263_8, 9999)) := bk_of pk_263 rfl
theorem bk_263_9 : bk_ am_prog 263 9 = some ([false, false, false, false, false, false, false], (bl_263_9, 9999)) := bk_of pk_263 rfl
theorem bk_263_10 : bk_ am_prog 263 10 = some ([false, false, false, false, false, true, false], (bl_263_10, 11)) := bk_of pk_263 rfl
theorem bk_263_11 : bk_ am_prog 263 11 = some ([false, false, false, false, false, false, false], (bl_263_11, 9999)) := bk_of pk_263 rfl
theorem jt_263_5 (h : am_H) (d0 d1 d2 d3 d4 d5 d6 : am_V) : JJ 263 5 [d0, d1, d2, d3, d4, d5, d6] [] h = some (h, (-9223372036854775808)) := (jj_of bk_263_5 _ _ h).trans (ff_of bk_263_5 [(9, 0), (9, 0), (9, 0), (9, 0), (9, 0), (9, 0), (9, 0)] [] h)
theorem jt_263_11 (h : am_H) (d0 d1 d2 d3 d4 d5 d6 : am_V) (s0 : Int) : JJ 263 11 [d0, d1, d2, d3, d4, d5, d6] [(1, s0)] h = some (h, s0) := (jj_of bk_263_11 _ _ h).trans (ff_of bk_263_11 [(9, 0), (9, 0), (9, 0), (9, 0), (9, 0), (9, 0), (9, 0)] [(1, s0)] h)
theorem jt_263_10 (h : am_H) (d0 d1 d2 d3 d4 d6 : am_V) (x5 : Int) : JJ 263 10 [d0, d1, d2, d3, d4, (1, x5), d6] [] h = some (h, x5) := (jj_of bk_263_10 _ _ h).trans ((ff_of bk_263_10 [(9, 0), (9, 0), (9, 0), (9, 0), (9, 0), (1, x5), (9, 0)] [] h).trans (by
  show (JJ 263 11 [(9, 0), (9, 0), (9, 0), (9, 0), (9, 0), (1, x5), (9, 0)] [(1, x5)] h) = _
  simp only [jt_263_11, ck_or1, ck_or2, rf_wr, ln_wr, nn_wr, rf_cp, ln_cp, nn_cp, ln_wf, nn_wf, rd_wf, nn_nw]
  try rfl))
theorem jt_263_9 (h : am_H) (d0 d1 d2 d3 d4 d5 d6 : am_V) : JJ 263 9 [d0, d1, d2, d3, d4, d5, d6] [] h = some (h, (-9223372036854775808)) := (jj_of bk_263_9 _ _ h).trans ((ff_of bk_263_9 [(9, 0), (9, 0), (9, 0), (9, 0), (9, 0), (9, 0), (9, 0)] [] h).trans (by
  show (JJ 263 11 [(9, 0), (9, 0), (9, 0), (9, 0), (9, 0), (9, 0), (9, 0)] [(1, (-9223372036854775808))] h) = _
  simp only [jt_263_11, ck_or1, ck_or2, rf_wr, ln_wr, nn_wr, rf_cp, ln_cp, nn_cp, ln_wf, nn_wf, rd_wf, nn_nw]
  try rfl))
theorem jt_263_8 (h : am_H) (d2 d3 d4 d5 d6 : am_V) (x0 x1 : Int) : JJ 263 8 [(22, x0), (0, x1), d2, d3, d4, d5, d6] [] h = ck_ (0 ≤ x0) (bd_ (Mo_lawOf h x0 x1) fun h1 v2 => ck_ (0 ≤ x0) (if (rd_ h1 x0 51) = 0 then some (h1, v2) else some (h1, (-9223372036854775808)))) := (jj_of bk_263_8 _ _ h).trans ((ff_of bk_263_8 [(22, x0), (0, x1), (9, 0), (9, 0), (9, 0), (9, 0), (9, 0)] [] h).trans (by
  show (ck_ (0 ≤ x0) (bd_ (CC 248 [(22, x0), (0, x1)] h) fun h1 v2 => ck_ (0 ≤ x0) (if (rd_ h1 x0 51) = 0 then JJ 263 10 [(22, x0), (0, x1), (9, 0), (9, 0), (9, 0), (1, v2), (9, 0)] [] h1 else JJ 263 9 [(22, x0), (0, x1), (9, 0), (9, 0), (9, 0), (1, v2), (9, 0)] [] h1))) = _
  simp only [cc_248, jt_263_10, jt_263_9, ck_or1, ck_or2, rf_wr, ln_wr, nn_wr, rf_cp, ln_cp, nn_cp, ln_wf, nn_wf, rd_wf, nn_nw]
  try rfl))
theorem jt_263_7 (h : am_H) (d2 d4 d5 d6 : am_V) (x0 x1 x3 : Int) : JJ 263 7 [(22, x0), (0, x1), d2, (0, x3), d4, d5, d6] [] h = ck_ (0 ≤ x0) (ck_ (0 ≤ x0) (bd_ (Mo_sizeAt h x0 0 x3 0) fun h1 v2 => ck_ (0 ≤ (rf_ h x0 49)) (ck_ (0 ≤ (0 : Int) ∧ (0 : Int) < ln_ h1 (rf_ h x0 49)) (ck_ (0 ≤ x0) (bd_ (Mo_lawOf (wr_ h1 (rf_ h x0 49) 0 v2) x0 x1) fun h3 v4 => ck_ (0 ≤ x0) (if (rd_ h3 x0 51) = 0 then some (h3, v4) else some (h3, (-9223372036854775808)))))))) := (jj_of bk_263_7 _ _ h).trans ((ff_of bk_263_7 [(22, x0), (0, x1), (9, 0), (0, x3), (9, 0), (9, 0), (9, 0)] [] h).trans (by
  show (ck_ (0 ≤ x0) (ck_ (0 ≤ x0) (bd_ (CC 240 [(22, x0), (0, 0), (0, x3), (0, 0)] h) fun h1 v2 => ck_ (0 ≤ (rf_ h x0 49)) (ck_ (0 ≤ (0 : Int) ∧ (0 : Int) < ln_ h1 (rf_ h x0 49)) (JJ 263 8 [(22, x0), (0, x1), (9, 0), (0, x3), (9, 0), (9, 0), (9, 0)] [] (wr_ h1 (rf_ h x0 49) 0 v2)))))) = _
  simp only [cc_240, jt_263_8, ck_or1, ck_or2, rf_wr, ln_wr, nn_wr, rf_cp, ln_cp, nn_cp, ln_wf, nn_wf, rd_wf, nn_nw]
  try rfl))
set_option maxRecDepth 20000 in
theorem jt_263_6 (h : am_H) (d5 d6 : am_V) (x0 x1 x2 x3 x4 : Int) : JJ 263 6 [(22, x0), (0, x1), (0, x2), (0, x3), (0, x4), d5, d6] [] h = ck_ (0 ≤ x0) (bd_ (Mo_lay h x0 0 x2 x3 x4) fun h1 _ => if x1 ≠ 1 then ck_ (0 ≤ x0) (bd_ (Mo_lawOf h1 x0 x1) fun h3 v4 => ck_ (0 ≤ x0) (if (rd_ h3 x0 51) = 0 then some (h3, v4) else some (h3, (-9223372036854775808)))) else ck_ (0 ≤ x0) (ck_ (0 ≤ x0) (bd_ (Mo_sizeAt h1 x0 0 x3 0) fun h5 v6 => ck_ (0 ≤ (rf_ h1 x0 49)) (ck_ (0 ≤ (0 : Int) ∧ (0 : Int) < ln_ h5 (rf_ h1 x0 49)) (ck_ (0 ≤ x0) (bd_ (Mo_lawOf (wr_ h5 (rf_ h1 x0 49) 0 v6) x0 x1) fun h7 v8 => ck_ (0 ≤ x0) (if (rd_ h7 x0 51) = 0 then some (h7, v8) else some (h7, (-9223372036854775808))))))))) := (jj_of bk_263_6 _ _ h).trans ((ff_of bk_263_6 [(22, x0), (0, x1), (0, x2), (0, x3), (0, x4), (9, 0), (9, 0)] [] h).trans (by
  show (ck_ (0 ≤ x0) (bd_ (CC 247 [(22, x0), (0, 0), (0, x2), (0, x3), (0, x4)] h) fun h1 _ => if x1 ≠ 1 then JJ 263 8 [(22, x0), (0, x1), (0, x2), (0, x3), (0, x4), (9, 0), (9, 0)] [] h1 else JJ 263 7 [(22, x0), (0, x1), (0, x2), (0, x3), (0, x4), (9, 0), (9, 0)] [] h1)) = _
  simp only [cc_247, jt_263_7, jt_263_8, ck_or1, ck_or2, rf_wr, ln_wr, nn_wr, rf_cp, ln_cp, nn_cp, ln_wf, nn_wf, rd_wf, nn_nw]
  try rfl))
set_option maxRecDepth 20000 in
theorem jt_263_4 (h : am_H) (d5 d6 : am_V) (x0 x1 x2 x3 x4 : Int) : JJ 263 4 [(22, x0), (0, x1), (0, x2), (0, x3), (0, x4), d5, d6] [] h = bd_ (Mo_isIn h x4 1 5) fun h1 v2 => if v2 ≠ 0 then ck_ (0 ≤ x0) (bd_ (Mo_lay h1 x0 0 x2 x3 x4) fun h3 _ => if x1 ≠ 1 then ck_ (0 ≤ x0) (bd_ (Mo_lawOf h3 x0 x1) fun h5 v6 => ck_ (0 ≤ x0) (if (rd_ h5 x0 51) = 0 then some (h5, v6) else some (h5, (-9223372036854775808)))) else ck_ (0 ≤ x0) (ck_ (0 ≤ x0) (bd_ (Mo_sizeAt h3 x0 0 x3 0) fun h7 v8 => ck_ (0 ≤ (rf_ h3 x0 49)) (ck_ (0 ≤ (0 : Int) ∧ (0 : Int) < ln_ h7 (rf_ h3 x0 49)) (ck_ (0 ≤ x0) (bd_ (Mo_lawOf (wr_ h7 (rf_ h3 x0 49) 0 v8) x0 x1) fun h9 v10 => ck_ (0 ≤ x0) (if (rd_ h9 x0 51) = 0 then some (h9, v10) else some (h9, (-9223372036854775808))))))))) else some (h1, (-9223372036854775808)) := (jj_of bk_263_4 _ _ h).trans ((ff_of bk_263_4 [(22, x0), (0, x1), (0, x2), (0, x3), (0, x4), (9, 0), (9, 0)] [] h).trans (by
  show (bd_ (CC 196 [(0, x4), (0, 1), (0, 5)] h) fun h1 v2 => if v2 ≠ 0 then JJ 263 6 [(22, x0), (0, x1), (0, x2), (0, x3), (0, x4), (9, 0), (9, 0)] [] h1 else JJ 263 5 [(22, x0), (0, x1), (0, x2), (0, x3), (0, x4), (9, 0), (9, 0)] [] h1) = _
  simp only [cc_196, jt_263_5, jt_263_6, ck_or1, ck_or2, rf_wr, ln_wr, nn_wr, rf_cp, ln_cp, nn_cp, ln_wf, nn_wf, rd_wf, nn_nw]
  try rfl))
set_option maxRecDepth 20000 in
theorem jt_263_3 (h : am_H) (d5 d6 : am_V) (x0 x1 x2 x3 x4 : Int) : JJ 263 3 [(22, x0), (0, x1), (0, x2), (0, x3), (0, x4), d5, d6] [] h = ck_ (0 ≤ x0) (bd_ (Mo_isPile h x0 x3) fun h1 v2 => if v2 = 0 then some (h1, (-9223372036854775808)) else bd_ (Mo_isIn h1 x4 1 5) fun h3 v4 => if v4 ≠ 0 then ck_ (0 ≤ x0) (bd_ (Mo_lay h3 x0 0 x2 x3 x4) fun h5 _ => if x1 ≠ 1 then ck_ (0 ≤ x0) (bd_ (Mo_lawOf h5 x0 x1) fun h7 v8 => ck_ (0 ≤ x0) (if (rd_ h7 x0 51) = 0 then some (h7, v8) else some (h7, (-9223372036854775808)))) else ck_ (0 ≤ x0) (ck_ (0 ≤ x0) (bd_ (Mo_sizeAt h5 x0 0 x3 0) fun h9 v10 => ck_ (0 ≤ (rf_ h5 x0 49)) (ck_ (0 ≤ (0 : Int) ∧ (0 : Int) < ln_ h9 (rf_ h5 x0 49)) (ck_ (0 ≤ x0) (bd_ (Mo_lawOf (wr_ h9 (rf_ h5 x0 49) 0 v10) x0 x1) fun h11 v12 => ck_ (0 ≤ x0) (if (rd_ h11 x0 51) = 0 then some (h11, v12) else some (h11, (-9223372036854775808))))))))) else some (h3, (-9223372036854775808))) := (jj_of bk_263_3 _ _ h).trans ((ff_of bk_263_3 [(22, x0), (0, x1), (0, x2), (0, x3), (0, x4), (9, 0), (9, 0)] [] h).trans (by
  show (ck_ (0 ≤ x0) (bd_ (CC 236 [(22, x0), (0, x3)] h) fun h1 v2 => if v2 = 0 then JJ 263 5 [(22, x0), (0, x1), (0, x2), (0, x3), (0, x4), (9, 0), (9, 0)] [] h1 else JJ 263 4 [(22, x0), (0, x1), (0, x2), (0, x3), (0, x4), (9, 0), (9, 0)] [] h1)) = _
  simp only [cc_236, jt_263_4, jt_263_5, ck_or1, ck_or2, rf_wr, ln_wr, nn_wr, rf_cp, ln_cp, nn_cp, ln_wf, nn_wf, rd_wf, nn_nw]
  try rfl))
set_option maxRecDepth 20000 in
theorem jt_263_2 (h : am_H) (d5 d6 : am_V) (x0 x1 x2 x3 x4 : Int) : JJ 263 2 [(22, x0), (0, x1), (0, x2), (0, x3), (0, x4), d5, d6] [] h = ck_ (0 ≤ x0) (bd_ (Mo_isMaid h x0 x2) fun h1 v2 => if v2 = 0 then some (h1, (-9223372036854775808)) else ck_ (0 ≤ x0) (bd_ (Mo_isPile h1 x0 x3) fun h3 v4 => if v4 = 0 then some (h3, (-9223372036854775808)) else bd_ (Mo_isIn h3 x4 1 5) fun h5 v6 => if v6 ≠ 0 then ck_ (0 ≤ x0) (bd_ (Mo_lay h5 x0 0 x2 x3 x4) fun h7 _ => if x1 ≠ 1 then ck_ (0 ≤ x0) (bd_ (Mo_lawOf h7 x0 x1) fun h9 v10 => ck_ (0 ≤ x0) (if (rd_ h9 x0 51) = 0 then some (h9, v10) else some (h9, (-9223372036854775808)))) else ck_ (0 ≤ x0) (ck_ (0 ≤ x0) (bd_ (Mo_sizeAt h7 x0 0 x3 0) fun h11 v12 => ck_ (0 ≤ (rf_ h7 x0 49)) (ck_ (0 ≤ (0 : Int) ∧ (0 : Int) < ln_ h11 (rf_ h7 x0 49)) (ck_ (0 ≤ x0) (bd_ (Mo_lawOf (wr_ h11 (rf_ h7 x0 49) 0 v12) x0 x1) fun h13 v14 => ck_ (0 ≤ x0) (if (rd_ h13 x0 51) = 0 then some (h13, v14) else some (h13, (-9223372036854775808))))))))) else some (h5, (-9223372036854775808)))) := (jj_of bk_263_2 _ _ h).trans ((ff_of bk_263_2 [(22, x0), (0, x1), (0, x2), (0, x3), (0, x4), (9, 0), (9, 0)] [] h).trans (by
  show (ck_ (0 ≤ x0) (bd_ (CC 235 [(22, x0), (0, x2)] h) fun h1 v2 => if v2 = 0 then JJ 263 5 [(22, x0), (0, x1), (0, x2), (0, x3), (0, x4), (9, 0), (9, 0)] [] h1 else JJ 263 3 [(22, x0), (0, x1), (0, x2), (0, x3), (0, x4), (9, 0), (9, 0)] [] h1)) = _
  simp only [cc_235, jt_263_3, jt_263_5, ck_or1, ck_or2, rf_wr, ln_wr, nn_wr, rf_cp, ln_cp, nn_cp, ln_wf, nn_wf, rd_wf, nn_nw]
  try rfl))
set_option maxRecDepth 20000 in
theorem jt_263_1 (h : am_H) (d5 d6 : am_V) (x0 x1 x2 x3 x4 : Int) : JJ 263 1 [(22, x0), (0, x1), (0, x2), (0, x3), (0, x4), d5, d6] [] h = ck_ (0 ≤ x0) (ck_ (0 ≤ (rf_ h x0 35)) (ck_ (0 ≤ x1 ∧ x1 < ln_ h (rf_ h x0 35)) (if (rd_ h (rf_ h x0 35) x1) = 0 then some (h, (-9223372036854775808)) else ck_ (0 ≤ x0) (bd_ (Mo_isMaid h x0 x2) fun h1 v2 => if v2 = 0 then some (h1, (-9223372036854775808)) else ck_ (0 ≤ x0) (bd_ (Mo_isPile h1 x0 x3) fun h3 v4 => if v4 = 0 then some (h3, (-9223372036854775808)) else bd_ (Mo_isIn h3 x4 1 5) fun h5 v6 => if v6 ≠ 0 then ck_ (0 ≤ x0) (bd_ (Mo_lay h5 x0 0 x2 x3 x4) fun h7 _ => if x1 ≠ 1 then ck_ (0 ≤ x0) (bd_ (Mo_lawOf h7 x0 x1) fun h9 v10 => ck_ (0 ≤ x0) (if (rd_ h9 x0 51) = 0 then some (h9, v10) else some (h9, (-9223372036854775808)))) else ck_ (0 ≤ x0) (ck_ (0 ≤ x0) (bd_ (Mo_sizeAt h7 x0 0 x3 0) fun h11 v12 => ck_ (0 ≤ (rf_ h7 x0 49)) (ck_ (0 ≤ (0 : Int) ∧ (0 : Int) < ln_ h11 (rf_ h7 x0 49)) (ck_ (0 ≤ x0) (bd_ (Mo_lawOf (wr_ h11 (rf_ h7 x0 49) 0 v12) x0 x1) fun h13 v14 => ck_ (0 ≤ x0) (if (rd_ h13 x0 51) = 0 then some (h13, v14) else some (h13, (-9223372036854775808))))))))) else some (h5, (-9223372036854775808))))))) := (jj_of bk_263_1 _ _ h).trans ((ff_of bk_263_1 [(22, x0), (0, x1), (0, x2), (0, x3), (0, x4), (9, 0), (9, 0)] [] h).trans (by
  show (ck_ (0 ≤ x0) (ck_ (0 ≤ (rf_ h x0 35)) (ck_ (0 ≤ x1 ∧ x1 < ln_ h (rf_ h x0 35)) (if (rd_ h (rf_ h x0 35) x1) = 0 then JJ 263 5 [(22, x0), (0, x1), (0, x2), (0, x3), (0, x4), (9, 0), (9, 0)] [] h else JJ 263 2 [(22, x0), (0, x1), (0, x2), (0, x3), (0, x4), (9, 0), (9, 0)] [] h)))) = _
  simp only [jt_263_2, jt_263_5, ck_or1, ck_or2, rf_wr, ln_wr, nn_wr, rf_cp, ln_cp, nn_cp, ln_wf, nn_wf, rd_wf, nn_nw]
  try rfl))
set_option maxRecDepth 20000 in
theorem Mo_law_e (h : am_H) (x0 x1 x2 x3 x4 : Int) : Mo_law h x0 x1 x2 x3 x4 = ck_ (0 ≤ x0) (bd_ (Mo_isIn (wr_ h x0 2 0) x1 0 2) fun h1 v2 => if v2 = 0 then some (h1, (-9223372036854775808)) else ck_ (0 ≤ x0) (ck_ (0 ≤ (rf_ h1 x0 35)) (ck_ (0 ≤ x1 ∧ x1 < ln_ h1 (rf_ h1 x0 35)) (if (rd_ h1 (rf_ h1 x0 35) x1) = 0 then some (h1, (-9223372036854775808)) else ck_ (0 ≤ x0) (bd_ (Mo_isMaid h1 x0 x2) fun h3 v4 => if v4 = 0 then some (h3, (-9223372036854775808)) else ck_ (0 ≤ x0) (bd_ (Mo_isPile h3 x0 x3) fun h5 v6 => if v6 = 0 then some (h5, (-9223372036854775808)) else bd_ (Mo_isIn h5 x4 1 5) fun h7 v8 => if v8 ≠ 0 then ck_ (0 ≤ x0) (bd_ (Mo_lay h7 x0 0 x2 x3 x4) fun h9 _ => if x1 ≠ 1 then ck_ (0 ≤ x0) (bd_ (Mo_lawOf h9 x0 x1) fun h11 v12 => ck_ (0 ≤ x0) (if (rd_ h11 x0 51) = 0 then some (h11, v12) else some (h11, (-9223372036854775808)))) else ck_ (0 ≤ x0) (ck_ (0 ≤ x0) (bd_ (Mo_sizeAt h9 x0 0 x3 0) fun h13 v14 => ck_ (0 ≤ (rf_ h9 x0 49)) (ck_ (0 ≤ (0 : Int) ∧ (0 : Int) < ln_ h13 (rf_ h9 x0 49)) (ck_ (0 ≤ x0) (bd_ (Mo_lawOf (wr_ h13 (rf_ h9 x0 49) 0 v14) x0 x1) fun h15 v16 => ck_ (0 ≤ x0) (if (rd_ h15 x0 51) = 0 then some (h15, v16) else some (h15, (-9223372036854775808))))))))) else some (h7, (-9223372036854775808)))))))) := (ff_of bk_263_0 [(22, x0), (0, x1), (0, x2), (0, x3), (0, x4), (9, 0), (9, 0)] [] h).trans (by
  show (ck_ (0 ≤ x0) (bd_ (CC 196 [(0, x1), (0, 0), (0, 2)] (wr_ h x0 2 0)) fun h1 v2 => if v2 = 0 then JJ 263 5 [(22, x0), (0, x1), (0, x2), (0, x3), (0, x4), (9, 0), (9, 0)] [] h1 else JJ 263 1 [(22, x0), (0, x1), (0, x2), (0, x3), (0, x4), (9, 0), (9, 0)] [] h1)) = _
  simp only [cc_196, jt_263_1, jt_263_5, ck_or1, ck_or2, rf_wr, ln_wr, nn_wr, rf_cp, ln_cp, nn_cp, ln_wf, nn_wf, rd_wf, nn_nw]
  try rfl)
theorem cc_263 (h : am_H) (x0 x1 x2 x3 x4 : Int) : CC 263 [(22, x0), (0, x1), (0, x2), (0, x3), (0, x4)] h = Mo_law h x0 x1 x2 x3 x4 := cc_of pk_263 _ h
set_option maxRecDepth 20000 in
theorem pk_264 : am_prog 264 = some cd_264 := rfl
theorem bk_264_0 : bk_ am_prog 264 0 = some ([true, true, true, false], (bl_264_0, 1)) := bk_of pk_264 rfl
theorem bk_264_1 : bk_ am_prog 264 1 = some ([true, true, true, true], (bl_264_1, 9999)) := bk_of pk_264 rfl
theorem bk_264_2 : bk_ am_prog 264 2 = some ([true, true, true, true], (bl_264_2, 9999)) := bk_of pk_264 rfl
theorem bk_264_3 : bk_ am_prog 264 3 = some ([true, true, true, false], (bl_264_3, 4)) := bk_of pk_264 rfl
theorem bk_264_4 : bk_ am_prog 264 4 = some ([true, true, true, true], (bl_264_4, 9999)) := bk_of pk_264 rfl
theorem bk_264_5 : bk_ am_prog 264 5 = some ([true, true, true, true], (bl_264_5, 9999)) := bk_of pk_264 rfl
theorem bk_264_6 : bk_ am_prog 264 6 = some ([false, false, false, false], (bl_264_6, 9999)) := bk_of pk_264 rfl
theorem jt_264_1 (h : am_H) (x0 x1 x2 x3 : Int) : JJ 264 1 [(22, x0), (30, x1), (0, x2), (0, x3)] [] h = Mo_put_1 h x0 x1 x2 x3 := jj_of bk_264_1 _ _ h
theorem jt_264_4 (h : am_H) (x0 x1 x2 x3 : Int) : JJ 264 4 [(22, x0), (30, x1), (0, x2), (0, x3)] [] h = Mo_put_4 h x0 x1 x2 x3 := jj_of bk_264_4 _ _ h
theorem Mo_put_e (h : am_H) (x0 x1 x2 : Int) : Mo_put h x0 x1 x2 = Mo_put_1 h x0 x1 x2 0 := (ff_of bk_264_0 [(22, x0), (30, x1), (0, x2), (9, 0)] [] h).trans (by
  show (JJ 264 1 [(22, x0), (30, x1), (0, x2), (0, 0)] [] h) = _
  simp only [jt_264_1, ck_or1, ck_or2, rf_wr, ln_wr, nn_wr, rf_cp, ln_cp, nn_cp, ln_wf, nn_wf, rd_wf, nn_nw]
  try rfl)
theorem jt_264_3 (h : am_H) (d3 : am_V) (x0 x1 x2 : Int) : JJ 264 3 [(22, x0), (30, x1), (0, x2), d3] [] h = Mo_put_4 h x0 x1 x2 0 := (jj_of bk_264_3 _ _ h).trans ((ff_of bk_264_3 [(22, x0), (30, x1), (0, x2), (9, 0)] [] h).trans (by
  show (JJ 264 4 [(22, x0), (30, x1), (0, x2), (0, 0)] [] h) = _
  simp only [jt_264_4, ck_or1, ck_or2, rf_wr, ln_wr, nn_wr, rf_cp, ln_cp, nn_cp, ln_wf, nn_wf, rd_wf, nn_nw]
  try rfl))
set_option maxRecDepth 20000 in
theorem jt_264_2 (h : am_H) (x0 x1 x2 x3 : Int) : JJ 264 2 [(22, x0), (30, x1), (0, x2), (0, x3)] [] h = ck_ (0 ≤ x0) (ck_ (0 ≤ (rf_ h x0 52)) (ck_ (0 ≤ x3 ∧ x3 < ln_ h (rf_ h x0 52)) (ck_ (0 ≤ x1) (ck_ (0 ≤ (w32 (x2 + x3)) ∧ (w32 (x2 + x3)) < ln_ h x1) (ck_ (0 ≤ x0) (ck_ (0 ≤ (rf_ h x0 54)) (ck_ (0 ≤ x3 ∧ x3 < ln_ h (rf_ h x0 54)) (ck_ (0 ≤ x1) (ck_ (0 ≤ (w32 ((w32 (x2 + 4)) + x3)) ∧ (w32 ((w32 (x2 + 4)) + x3)) < ln_ h x1) (Mo_put_1 (wr_ (wr_ h x1 (w32 (x2 + x3)) (rd_ h (rf_ h x0 52) x3)) x1 (w32 ((w32 (x2 + 4)) + x3)) (rd_ (wr_ h x1 (w32 (x2 + x3)) (rd_ h (rf_ h x0 52) x3)) (rf_ h x0 54) x3)) x0 x1 x2 (w32 (x3 + 1)))))))))))) := (jj_of bk_264_2 _ _ h).trans ((ff_of bk_264_2 [(22, x0), (30, x1), (0, x2), (0, x3)] [] h).trans (by
  show (ck_ (0 ≤ x0) (ck_ (0 ≤ (rf_ h x0 52)) (ck_ (0 ≤ x3 ∧ x3 < ln_ h (rf_ h x0 52)) (ck_ (0 ≤ x1) (ck_ (0 ≤ (w32 (x2 + x3)) ∧ (w32 (x2 + x3)) < ln_ h x1) (ck_ (0 ≤ x0) (ck_ (0 ≤ (rf_ h x0 54)) (ck_ (0 ≤ x3 ∧ x3 < ln_ h (rf_ h x0 54)) (ck_ (0 ≤ x1) (ck_ (0 ≤ (w32 ((w32 (x2 + 4)) + x3)) ∧ (w32 ((w32 (x2 + 4)) + x3)) < ln_ h x1) (JJ 264 1 [(22, x0), (30, x1), (0, x2), (0, w32 (x3 + 1))] [] (wr_ (wr_ h x1 (w32 (x2 + x3)) (rd_ h (rf_ h x0 52) x3)) x1 (w32 ((w32 (x2 + 4)) + x3)) (rd_ (wr_ h x1 (w32 (x2 + x3)) (rd_ h (rf_ h x0 52) x3)) (rf_ h x0 54) x3))))))))))))) = _
  simp only [jt_264_1, ck_or1, ck_or2, rf_wr, ln_wr, nn_wr, rf_cp, ln_cp, nn_cp, ln_wf, nn_wf, rd_wf, nn_nw]
  try rfl))
theorem Mo_put_1_e (h : am_H) (x0 x1 x2 x3 : Int) : Mo_put_1 h x0 x1 x2 x3 = if 4 ≤ x3 then Mo_put_4 h x0 x1 x2 0 else ck_ (0 ≤ x0) (ck_ (0 ≤ (rf_ h x0 52)) (ck_ (0 ≤ x3 ∧ x3 < ln_ h (rf_ h x0 52)) (ck_ (0 ≤ x1) (ck_ (0 ≤ (w32 (x2 + x3)) ∧ (w32 (x2 + x3)) < ln_ h x1) (ck_ (0 ≤ x0) (ck_ (0 ≤ (rf_ h x0 54)) (ck_ (0 ≤ x3 ∧ x3 < ln_ h (rf_ h x0 54)) (ck_ (0 ≤ x1) (ck_ (0 ≤ (w32 ((w32 (x2 + 4)) + x3)) ∧ (w32 ((w32 (x2 + 4)) + x3)) < ln_ h x1) (Mo_put_1 (wr_ (wr_ h x1 (w32 (x2 + x3)) (rd_ h (rf_ h x0 52) x3)) x1 (w32 ((w32 (x2 + 4)) + x3)) (rd_ (wr_ h x1 (w32 (x2 + x3)) (rd_ h (rf_ h x0 52) x3)) (rf_ h x0 54) x3)) x0 x1 x2 (w32 (x3 + 1)))))))))))) := (ff_of bk_264_1 [(22, x0), (30, x1), (0, x2), (0, x3)] [] h).trans (by
  show (if 4 ≤ x3 then JJ 264 3 [(22, x0), (30, x1), (0, x2), (0, x3)] [] h else JJ 264 2 [(22, x0), (30, x1), (0, x2), (0, x3)] [] h) = _
  simp only [jt_264_2, jt_264_3, ck_or1, ck_or2, rf_wr, ln_wr, nn_wr, rf_cp, ln_cp, nn_cp, ln_wf, nn_wf, rd_wf, nn_nw]
  try rfl)
theorem jt_264_6 (h : am_H) (d0 d1 d2 d3 : am_V) : JJ 264 6 [d0, d1, d2, d3] [] h = some (h, 0) := (jj_of bk_264_6 _ _ h).trans (ff_of bk_264_6 [(9, 0), (9, 0), (9, 0), (9, 0)] [] h)
set_option maxRecDepth 20000 in
theorem jt_264_5 (h : am_H) (x0 x1 x2 x3 : Int) : JJ 264 5 [(22, x0), (30, x1), (0, x2), (0, x3)] [] h = ck_ (0 ≤ x0) (ck_ (0 ≤ (rf_ h x0 53)) (ck_ (0 ≤ x3 ∧ x3 < ln_ h (rf_ h x0 53)) (ck_ (0 ≤ x1) (ck_ (0 ≤ (w32 ((w32 (x2 + 8)) + x3)) ∧ (w32 ((w32 (x2 + 8)) + x3)) < ln_ h x1) (ck_ (0 ≤ x0) (ck_ (0 ≤ (rf_ h x0 55)) (ck_ (0 ≤ x3 ∧ x3 < ln_ h (rf_ h x0 55)) (ck_ (0 ≤ x1) (ck_ (0 ≤ (w32 ((w32 (x2 + 28)) + x3)) ∧ (w32 ((w32 (x2 + 28)) + x3)) < ln_ h x1) (Mo_put_4 (wr_ (wr_ h x1 (w32 ((w32 (x2 + 8)) + x3)) (rd_ h (rf_ h x0 53) x3)) x1 (w32 ((w32 (x2 + 28)) + x3)) (rd_ (wr_ h x1 (w32 ((w32 (x2 + 8)) + x3)) (rd_ h (rf_ h x0 53) x3)) (rf_ h x0 55) x3)) x0 x1 x2 (w32 (x3 + 1)))))))))))) := (jj_of bk_264_5 _ _ h).trans ((ff_of bk_264_5 [(22, x0), (30, x1), (0, x2), (0, x3)] [] h).trans (by
  show (ck_ (0 ≤ x0) (ck_ (0 ≤ (rf_ h x0 53)) (ck_ (0 ≤ x3 ∧ x3 < ln_ h (rf_ h x0 53)) (ck_ (0 ≤ x1) (ck_ (0 ≤ (w32 ((w32 (x2 + 8)) + x3)) ∧ (w32 ((w32 (x2 + 8)) + x3)) < ln_ h x1) (ck_ (0 ≤ x0) (ck_ (0 ≤ (rf_ h x0 55)) (ck_ (0 ≤ x3 ∧ x3 < ln_ h (rf_ h x0 55)) (ck_ (0 ≤ x1) (ck_ (0 ≤ (w32 ((w32 (x2 + 28)) + x3)) ∧ (w32 ((w32 (x2 + 28)) + x3)) < ln_ h x1) (JJ 264 4 [(22, x0), (30, x1), (0, x2), (0, w32 (x3 + 1))] [] (wr_ (wr_ h x1 (w32 ((w32 (x2 + 8)) + x3)) (rd_ h (rf_ h x0 53) x3)) x1 (w32 ((w32 (x2 + 28)) + x3)) (rd_ (wr_ h x1 (w32 ((w32 (x2 + 8)) + x3)) (rd_ h (rf_ h x0 53) x3)) (rf_ h x0 55) x3))))))))))))) = _
  simp only [jt_264_4, ck_or1, ck_or2, rf_wr, ln_wr, nn_wr, rf_cp, ln_cp, nn_cp, ln_wf, nn_wf, rd_wf, nn_nw]
  try rfl))
theorem Mo_put_4_e (h : am_H) (x0 x1 x2 x3 : Int) : Mo_put_4 h x0 x1 x2 x3 = if 20 ≤ x3 then some (h, 0) else ck_ (0 ≤ x0) (ck_ (0 ≤ (rf_ h x0 53)) (ck_ (0 ≤ x3 ∧ x3 < ln_ h (rf_ h x0 53)) (ck_ (0 ≤ x1) (ck_ (0 ≤ (w32 ((w32 (x2 + 8)) + x3)) ∧ (w32 ((w32 (x2 + 8)) + x3)) < ln_ h x1) (ck_ (0 ≤ x0) (ck_ (0 ≤ (rf_ h x0 55)) (ck_ (0 ≤ x3 ∧ x3 < ln_ h (rf_ h x0 55)) (ck_ (0 ≤ x1) (ck_ (0 ≤ (w32 ((w32 (x2 + 28)) + x3)) ∧ (w32 ((w32 (x2 + 28)) + x3)) < ln_ h x1) (Mo_put_4 (wr_ (wr_ h x1 (w32 ((w32 (x2 + 8)) + x3)) (rd_ h (rf_ h x0 53) x3)) x1 (w32 ((w32 (x2 + 28)) + x3)) (rd_ (wr_ h x1 (w32 ((w32 (x2 + 8)) + x3)) (rd_ h (rf_ h x0 53) x3)) (rf_ h x0 55) x3)) x0 x1 x2 (w32 (x3 + 1)))))))))))) := (ff_of bk_264_4 [(22, x0), (30, x1), (0, x2), (0, x3)] [] h).trans (by
  show (if 20 ≤ x3 then JJ 264 6 [(22, x0), (30, x1), (0, x2), (0, x3)] [] h else JJ 264 5 [(22, x0), (30, x1), (0, x2), (0, x3)] [] h) = _
  simp only [jt_264_5, jt_264_6, ck_or1, ck_or2, rf_wr, ln_wr, nn_wr, rf_cp, ln_cp, nn_cp, ln_wf, nn_wf, rd_wf, nn_nw]
  try rfl)
theorem cc_264 (h : am_H) (x0 x1 x2 : Int) : CC 264 [(22, x0), (30, x1), (0, x2)] h = Mo_put h x0 x1 x2 := cc_of pk_264 _ h
set_option maxRecDepth 20000 in
theorem pk_265 : am_prog 265 = some cd_265 := rfl
theorem bk_265_0 : bk_ am_prog 265 0 = some ([true, false], (bl_265_0, 9999)) := bk_of pk_265 rfl
theorem bk_265_1 : bk_ am_prog 265 1 = some ([true, false], (bl_265_1, 2)) := bk_of pk_265 rfl
theorem bk_265_2 : bk_ am_prog 265 2 = some ([true, true], (bl_265_2, 9999)) := bk_of pk_265 rfl
theorem bk_265_3 : bk_ am_prog 265 3 = some ([true, true], (bl_265_3, 9999)) := bk_of pk_265 rfl
theorem bk_265_4 : bk_ am_prog 265 4 = some ([true, false], (bl_265_4, 5)) := bk_of pk_265 rfl
theorem bk_265_5 : bk_ am_prog 265 5 = some ([true, true], (bl_265_5, 9999)) := bk_of pk_265 rfl
theorem bk_265_6 : bk_ am_prog 265 6 = some ([true, true], (bl_265_6, 9999)) := bk_of pk_265 rfl
theorem bk_265_7 : bk_ am_prog 265 7 = some ([true, false], (bl_265_7, 8)) := bk_of pk_265 rfl
theorem bk_265_8 : bk_ am_prog 265 8 = some ([true, false], (bl_265_8, 9)) := bk_of pk_265 rfl
theorem bk_265_9 : bk_ am_prog 265 9 = some ([true, true], (bl_265_9, 9999)) := bk_of pk_265 rfl
theorem bk_265_10 : bk_ am_prog 265 10 = some ([true, true], (bl_265_10, 9999)) := bk_of pk_265 rfl
theorem bk_265_11 : bk_ am_prog 265 11 = some ([true, false], (bl_265_11, 9999)) := bk_of pk_265 rfl
theorem jt_265_2 (h : am_H) (x0 x1 : Int) : JJ 265 2 [(22, x0), (0, x1)] [] h = Mo_remember_2 h x0 x1 := jj_of bk_265_2 _ _ h
theorem jt_265_5 (h : am_H) (x0 x1 : Int) : JJ 265 5 [(22, x0), (0, x1)] [] h = Mo_remember_5 h x0 x1 := jj_of bk_265_5 _ _ h
theorem jt_265_9 (h : am_H) (x0 x1 : Int) : JJ 265 9 [(22, x0), (0, x1)] [] h = Mo_remember_9 h x0 x1 := jj_of bk_265_9 _ _ h
theorem jt_265_8 (h : am_H) (d1 : am_V) (x0 : Int) : JJ 265 8 [(22, x0), d1] [] h = ck_ (0 ≤ x0) (ck_ (0 ≤ x0) (ck_ (0 ≤ x0) (bd_ (Mo_put h x0 (rf_ h x0 86) (w32 (48 * (rd_ h x0 85)))) fun h1 _ => Mo_remember_9 h1 x0 0))) := (jj_of bk_265_8 _ _ h).trans ((ff_of bk_265_8 [(22, x0), (9, 0)] [] h).trans (by
  show (ck_ (0 ≤ x0) (ck_ (0 ≤ x0) (ck_ (0 ≤ x0) (bd_ (CC 264 [(22, x0), (30, rf_ h x0 86), (0, w32 (48 * (rd_ h x0 85)))] h) fun h1 _ => JJ 265 9 [(22, x0), (0, 0)] [] h1)))) = _
  simp only [cc_264, jt_265_9, ck_or1, ck_or2, rf_wr, ln_wr, nn_wr, rf_cp, ln_cp, nn_cp, ln_wf, nn_wf, rd_wf, nn_nw]
  try rfl))
theorem jt_265_1 (h : am_H) (d1 : am_V) (x0 : Int) : JJ 265 1 [(22, x0), d1] [] h = Mo_remember_2 h x0 0 := (jj_of bk_265_1 _ _ h).trans ((ff_of bk_265_1 [(22, x0), (9, 0)] [] h).trans (by
  show (JJ 265 2 [(22, x0), (0, 0)] [] h) = _
  simp only [jt_265_2, ck_or1, ck_or2, rf_wr, ln_wr, nn_wr, rf_cp, ln_cp, nn_cp, ln_wf, nn_wf, rd_wf, nn_nw]
  try rfl))
theorem Mo_remember_e (h : am_H) (x0 : Int) : Mo_remember h x0 = ck_ (0 ≤ x0) (if (rd_ h x0 85) ≠ 20 then ck_ (0 ≤ x0) (ck_ (0 ≤ x0) (ck_ (0 ≤ x0) (bd_ (Mo_put h x0 (rf_ h x0 86) (w32 (48 * (rd_ h x0 85)))) fun h1 _ => Mo_remember_9 h1 x0 0))) else Mo_remember_2 h x0 0) := (ff_of bk_265_0 [(22, x0), (9, 0)] [] h).trans (by
  show (ck_ (0 ≤ x0) (if (rd_ h x0 85) ≠ 20 then JJ 265 8 [(22, x0), (9, 0)] [] h else JJ 265 1 [(22, x0), (9, 0)] [] h)) = _
  simp only [jt_265_1, jt_265_8, ck_or1, ck_or2, rf_wr, ln_wr, nn_wr, rf_cp, ln_cp, nn_cp, ln_wf, nn_wf, rd_wf, nn_nw]
  try rfl)
theorem jt_265_4 (h : am_H) (d1 : am_V) (x0 : Int) : JJ 265 4 [(22, x0), d1] [] h = Mo_remember_5 h x0 0 := (jj_of bk_265_4 _ _ h).trans ((ff_of bk_265_4 [(22, x0), (9, 0)] [] h).trans (by
  show (JJ 265 5 [(22, x0), (0, 0)] [] h) = _
  simp only [jt_265_5, ck_or1, ck_or2, rf_wr, ln_wr, nn_wr, rf_cp, ln_cp, nn_cp, ln_wf, nn_wf, rd_wf, nn_nw]
  try rfl))
theorem jt_265_3 (h : am_H) (x0 x1 : Int) : JJ 265 3 [(22, x0), (0, x1)] [] h = ck_ (0 ≤ x0) (ck_ (0 ≤ x0) (ck_ (0 ≤ (rf_ h x0 86)) (ck_ (0 ≤ (w32 (x1 + 48)) ∧ (w32 (x1 + 48)) < ln_ h (rf_ h x0 86)) (ck_ (0 ≤ (rf_ h x0 86)) (ck_ (0 ≤ x1 ∧ x1 < ln_ h (rf_ h x0 86)) (Mo_remember_2 (wr_ h (rf_ h x0 86) x1 (rd_ h (rf_ h x0 86) (w32 (x1 + 48)))) x0 (w32 (x1 + 1)))))))) := (jj_of bk_265_3 _ _ h).trans ((ff_of bk_265_3 [(22, x0), (0, x1)] [] h).trans (by
  show (ck_ (0 ≤ x0) (ck_ (0 ≤ x0) (ck_ (0 ≤ (rf_ h x0 86)) (ck_ (0 ≤ (w32 (x1 + 48)) ∧ (w32 (x1 + 48)) < ln_ h (rf_ h x0 86)) (ck_ (0 ≤ (rf_ h x0 86)) (ck_ (0 ≤ x1 ∧ x1 < ln_ h (rf_ h x0 86)) (JJ 265 2 [(22, x0), (0, w32 (x1 + 1))] [] (wr_ h (rf_ h x0 86) x1 (rd_ h (rf_ h x0 86) (w32 (x1 + 48))))))))))) = _
  simp only [jt_265_2, ck_or1, ck_or2, rf_wr, ln_wr, nn_wr, rf_cp, ln_cp, nn_cp, ln_wf, nn_wf, rd_wf, nn_nw]
  try rfl))
theorem Mo_remember_2_e (h : am_H) (x0 x1 : Int) : Mo_remember_2 h x0 x1 = if 912 ≤ x1 then Mo_remember_5 h x0 0 else ck_ (0 ≤ x0) (ck_ (0 ≤ x0) (ck_ (0 ≤ (rf_ h x0 86)) (ck_ (0 ≤ (w32 (x1 + 48)) ∧ (w32 (x1 + 48)) < ln_ h (rf_ h x0 86)) (ck_ (0 ≤ (rf_ h x0 86)) (ck_ (0 ≤ x1 ∧ x1 < ln_ h (rf_ h x0 86)) (Mo_remember_2 (wr_ h (rf_ h x0 86) x1 (rd_ h (rf_ h x0 86) (w32 (x1 + 48)))) x0 (w32 (x1 + 1)))))))) := (ff_of bk_265_2 [(22, x0), (0, x1)] [] h).trans (by
  show (if 912 ≤ x1 then JJ 265 4 [(22, x0), (0, x1)] [] h else JJ 265 3 [(22, x0), (0, x1)] [] h) = _
  simp only [jt_265_3, jt_265_4, ck_or1, ck_or2, rf_wr, ln_wr, nn_wr, rf_cp, ln_cp, nn_cp, ln_wf, nn_wf, rd_wf, nn_nw]
  try rfl)
theorem jt_265_7 (h : am_H) (d1 : am_V) (x0 : Int) : JJ 265 7 [(22, x0), d1] [] h = ck_ (0 ≤ x0) (ck_ (0 ≤ x0) (ck_ (0 ≤ x0) (ck_ (0 ≤ x0) (ck_ (0 ≤ x0) (bd_ (Mo_put (wr_ h x0 85 (w32 ((rd_ h x0 85) - 1))) x0 (rf_ h x0 86) (w32 (48 * (rd_ (wr_ h x0 85 (w32 ((rd_ h x0 85) - 1))) x0 85)))) fun h1 _ => Mo_remember_9 h1 x0 0))))) := (jj_of bk_265_7 _ _ h).trans ((ff_of bk_265_7 [(22, x0), (9, 0)] [] h).trans (by
  show (ck_ (0 ≤ x0) (ck_ (0 ≤ x0) (JJ 265 8 [(22, x0), (9, 0)] [] (wr_ h x0 85 (w32 ((rd_ h x0 85) - 1)))))) = _
  simp only [jt_265_8, ck_or1, ck_or2, rf_wr, ln_wr, nn_wr, rf_cp, ln_cp, nn_cp, ln_wf, nn_wf, rd_wf, nn_nw]
  try rfl))
theorem jt_265_6 (h : am_H) (x0 x1 : Int) : JJ 265 6 [(22, x0), (0, x1)] [] h = ck_ (0 ≤ x0) (ck_ (0 ≤ x0) (ck_ (0 ≤ (rf_ h x0 87)) (ck_ (0 ≤ (w32 (x1 + 20)) ∧ (w32 (x1 + 20)) < ln_ h (rf_ h x0 87)) (ck_ (0 ≤ (rf_ h x0 87)) (ck_ (0 ≤ x1 ∧ x1 < ln_ h (rf_ h x0 87)) (ck_ ((rd_ h (rf_ h x0 87) (w32 (x1 + 20))) = 0 ∨ (rd_ h (rf_ h x0 87) (w32 (x1 + 20))) = 1) (Mo_remember_5 (wr_ h (rf_ h x0 87) x1 (rd_ h (rf_ h x0 87) (w32 (x1 + 20)))) x0 (w32 (x1 + 1))))))))) := (jj_of bk_265_6 _ _ h).trans ((ff_of bk_265_6 [(22, x0), (0, x1)] [] h).trans (by
  show (ck_ (0 ≤ x0) (ck_ (0 ≤ x0) (ck_ (0 ≤ (rf_ h x0 87)) (ck_ (0 ≤ (w32 (x1 + 20)) ∧ (w32 (x1 + 20)) < ln_ h (rf_ h x0 87)) (ck_ (0 ≤ (rf_ h x0 87)) (ck_ (0 ≤ x1 ∧ x1 < ln_ h (rf_ h x0 87)) (ck_ ((rd_ h (rf_ h x0 87) (w32 (x1 + 20))) = 0 ∨ (rd_ h (rf_ h x0 87) (w32 (x1 + 20))) = 1) (JJ 265 5 [(22, x0), (0, w32 (x1 + 1))] [] (wr_ h (rf_ h x0 87) x1 (rd_ h (rf_ h x0 87) (w32 (x1 + 20)))))))))))) = _
  simp only [jt_265_5, ck_or1, ck_or2, rf_wr, ln_wr, nn_wr, rf_cp, ln_cp, nn_cp, ln_wf, nn_wf, rd_wf, nn_nw]
  try rfl))
theorem Mo_remember_5_e (h : am_H) (x0 x1 : Int) : Mo_remember_5 h x0 x1 = if 380 ≤ x1 then ck_ (0 ≤ x0) (ck_ (0 ≤ x0) (ck_ (0 ≤ x0) (ck_ (0 ≤ x0) (ck_ (0 ≤ x0) (bd_ (Mo_put (wr_ h x0 85 (w32 ((rd_ h x0 85) - 1))) x0 (rf_ h x0 86) (w32 (48 * (rd_ (wr_ h x0 85 (w32 ((rd_ h x0 85) - 1))) x0 85)))) fun h1 _ => Mo_remember_9 h1 x0 0))))) else ck_ (0 ≤ x0) (ck_ (0 ≤ x0) (ck_ (0 ≤ (rf_ h x0 87)) (ck_ (0 ≤ (w32 (x1 + 20)) ∧ (w32 (x1 + 20)) < ln_ h (rf_ h x0 87)) (ck_ (0 ≤ (rf_ h x0 87)) (ck_ (0 ≤ x1 ∧ x1 < ln_ h (rf_ h x0 87)) (ck_ ((rd_ h (rf_ h x0 87) (w32 (x1 + 20))) = 0 ∨ (rd_ h (rf_ h x0 87) (w32 (x1 + 20))) = 1) (Mo_remember_5 (wr_ h (rf_ h x0 87) x1 (rd_ h (rf_ h x0 87) (w32 (x1 + 20)))) x0 (w32 (x1 + 1))))))))) := (ff_of bk_265_5 [(22, x0), (0, x1)] [] h).trans (by
  show (if 380 ≤ x1 then JJ 265 7 [(22, x0), (0, x1)] [] h else JJ 265 6 [(22, x0), (0, x1)] [] h) = _
  simp only [jt_265_6, jt_265_7, ck_or1, ck_or2, rf_wr, ln_wr, nn_wr, rf_cp, ln_cp, nn_cp, ln_wf, nn_wf, rd_wf, nn_nw]
  try rfl)
theorem jt_265_11 (h : am_H) (d1 : am_V) (x0 : Int) : JJ 265 11 [(22, x0), d1] [] h = ck_ (0 ≤ x0) (ck_ (0 ≤ x0) (some (wr_ h x0 85 (w32 ((rd_ h x0 85) + 1)), 0))) := (jj_of bk_265_11 _ _ h).trans (ff_of bk_265_11 [(22, x0), (9, 0)] [] h)
theorem jt_265_10 (h : am_H) (x0 x1 : Int) : JJ 265 10 [(22, x0), (0, x1)] [] h = ck_ (0 ≤ x0) (ck_ (0 ≤ x0) (ck_ (0 ≤ x0) (ck_ (0 ≤ (rf_ h x0 56)) (ck_ (0 ≤ x1 ∧ x1 < ln_ h (rf_ h x0 56)) (ck_ (0 ≤ (rf_ h x0 87)) (ck_ (0 ≤ (w32 ((w32 (20 * (rd_ h x0 85))) + x1)) ∧ (w32 ((w32 (20 * (rd_ h x0 85))) + x1)) < ln_ h (rf_ h x0 87)) (ck_ ((rd_ h (rf_ h x0 56) x1) = 0 ∨ (rd_ h (rf_ h x0 56) x1) = 1) (Mo_remember_9 (wr_ h (rf_ h x0 87) (w32 ((w32 (20 * (rd_ h x0 85))) + x1)) (rd_ h (rf_ h x0 56) x1)) x0 (w32 (x1 + 1)))))))))) := (jj_of bk_265_10 _ _ h).trans ((ff_of bk_265_10 [(22, x0), (0, x1)] [] h).trans (by
  show (ck_ (0 ≤ x0) (ck_ (0 ≤ x0) (ck_ (0 ≤ x0) (ck_ (0 ≤ (rf_ h x0 56)) (ck_ (0 ≤ x1 ∧ x1 < ln_ h (rf_ h x0 56)) (ck_ (0 ≤ (rf_ h x0 87)) (ck_ (0 ≤ (w32 ((w32 (20 * (rd_ h x0 85))) + x1)) ∧ (w32 ((w32 (20 * (rd_ h x0 85))) + x1)) < ln_ h (rf_ h x0 87)) (ck_ ((rd_ h (rf_ h x0 56) x1) = 0 ∨ (rd_ h (rf_ h x0 56) x1) = 1) (JJ 265 9 [(22, x0), (0, w32 (x1 + 1))] [] (wr_ h (rf_ h x0 87) (w32 ((w32 (20 * (rd_ h x0 85))) + x1)) (rd_ h (rf_ h x0 56) x1))))))))))) = _
  simp only [jt_265_9, ck_or1, ck_or2, rf_wr, ln_wr, nn_wr, rf_cp, ln_cp, nn_cp, ln_wf, nn_wf, rd_wf, nn_nw]
  try rfl))
theorem Mo_remember_9_e (h : am_H) (x0 x1 : Int) : Mo_remember_9 h x0 x1 = if 20 ≤ x1 then ck_ (0 ≤ x0) (ck_ (0 ≤ x0) (some (wr_ h x0 85 (w32 ((rd_ h x0 85) + 1)), 0))) else ck_ (0 ≤ x0) (ck_ (0 ≤ x0) (ck_ (0 ≤ x0) (ck_ (0 ≤ (rf_ h x0 56)) (ck_ (0 ≤ x1 ∧ x1 < ln_ h (rf_ h x0 56)) (ck_ (0 ≤ (rf_ h x0 87)) (ck_ (0 ≤ (w32 ((w32 (20 * (rd_ h x0 85))) + x1)) ∧ (w32 ((w32 (20 * (rd_ h x0 85))) + x1)) < ln_ h (rf_ h x0 87)) (ck_ ((rd_ h (rf_ h x0 56) x1) = 0 ∨ (rd_ h (rf_ h x0 56) x1) = 1) (Mo_remember_9 (wr_ h (rf_ h x0 87) (w32 ((w32 (20 * (rd_ h x0 85))) + x1)) (rd_ h (rf_ h x0 56) x1)) x0 (w32 (x1 + 1)))))))))) := (ff_of bk_265_9 [(22, x0), (0, x1)] [] h).trans (by
  show (if 20 ≤ x1 then JJ 265 11 [(22, x0), (0, x1)] [] h else JJ 265 10 [(22, x0), (0, x1)] [] h) = _
  simp only [jt_265_10, jt_265_11, ck_or1, ck_or2, rf_wr, ln_wr, nn_wr, rf_cp, ln_cp, nn_cp, ln_wf, nn_wf, rd_wf, nn_nw]
  try rfl)
theorem cc_265 (h : am_H) (x0 : Int) : CC 265 [(22, x0)] h = Mo_remember h x0 := cc_of pk_265 _ h
set_option maxRecDepth 20000 in
theorem pk_266 : am_prog 266 = some cd_266 := rfl
theorem bk_266_0 : bk_ am_prog 266 0 = some ([true, true, true], (bl_266_0, 9999)) := bk_of pk_266 rfl
theorem bk_266_1 : bk_ am_prog 266 1 = some ([true, true, true], (bl_266_1, 9999)) := bk_of pk_266 rfl
theorem bk_266_2 : bk_ am_prog 266 2 = some ([false, false, false], (bl_266_2, 9999)) := bk_of pk_266 rfl
theorem bk_266_3 : bk_ am_prog 266 3 = some ([true, true, true], (bl_266_3, 9999)) := bk_of pk_266 rfl
theorem jt_266_2 (h : am_H) (d0 d1 d2 : am_V) : JJ 266 2 [d0, d1, d2] [] h = some (h, (-1)) := (jj_of bk_266_2 _ _ h).trans (ff_of bk_266_2 [(9, 0), (9, 0), (9, 0)] [] h)
theorem jt_266_3 (h : am_H) (x0 x1 x2 : Int) : JJ 266 3 [(22, x0), (0, x1), (0, x2)] [] h = ck_ (0 ≤ x0) (bd_ (Mo_remember h x0) fun h1 _ => ck_ (0 ≤ x0) (bd_ (Mo_turnsBy h1 x0 0 x1 x2) fun h3 _ => ck_ (0 ≤ x0) (bd_ (Mo_gapsOf h3 x0 0 x1) fun h5 v6 => some (h5, v6)))) := (jj_of bk_266_3 _ _ h).trans ((ff_of bk_266_3 [(22, x0), (0, x1), (0, x2)] [] h).trans (by
  show (ck_ (0 ≤ x0) (bd_ (CC 265 [(22, x0)] h) fun h1 _ => ck_ (0 ≤ x0) (bd_ (CC 246 [(22, x0), (0, 0), (0, x1), (0, x2)] h1) fun h3 _ => ck_ (0 ≤ x0) (bd_ (CC 245 [(22, x0), (0, 0), (0, x1)] h3) fun h5 v6 => some (h5, v6))))) = _
  simp only [cc_245, cc_265, cc_246, ck_or1, ck_or2, rf_wr, ln_wr, nn_wr, rf_cp, ln_cp, nn_cp, ln_wf, nn_wf, rd_wf, nn_nw]
  try rfl))
theorem jt_266_1 (h : am_H) (x0 x1 x2 : Int) : JJ 266 1 [(22, x0), (0, x1), (0, x2)] [] h = ck_ (0 ≤ x0) (ck_ (0 ≤ (rf_ h x0 52)) (ck_ (0 ≤ x1 ∧ x1 < ln_ h (rf_ h x0 52)) (bd_ (Mo_isIn h x2 1 (rd_ h (rf_ h x0 52) x1)) fun h1 v2 => if v2 ≠ 0 then ck_ (0 ≤ x0) (bd_ (Mo_remember h1 x0) fun h3 _ => ck_ (0 ≤ x0) (bd_ (Mo_turnsBy h3 x0 0 x1 x2) fun h5 _ => ck_ (0 ≤ x0) (bd_ (Mo_gapsOf h5 x0 0 x1) fun h7 v8 => some (h7, v8)))) else some (h1, (-1))))) := (jj_of bk_266_1 _ _ h).trans ((ff_of bk_266_1 [(22, x0), (0, x1), (0, x2)] [] h).trans (by
  show (ck_ (0 ≤ x0) (ck_ (0 ≤ (rf_ h x0 52)) (ck_ (0 ≤ x1 ∧ x1 < ln_ h (rf_ h x0 52)) (bd_ (CC 196 [(0, x2), (0, 1), (0, rd_ h (rf_ h x0 52) x1)] h) fun h1 v2 => if v2 ≠ 0 then JJ 266 3 [(22, x0), (0, x1), (0, x2)] [] h1 else JJ 266 2 [(22, x0), (0, x1), (0, x2)] [] h1)))) = _
  simp only [cc_196, jt_266_2, jt_266_3, ck_or1, ck_or2, rf_wr, ln_wr, nn_wr, rf_cp, ln_cp, nn_cp, ln_wf, nn_wf, rd_wf, nn_nw]
  try rfl))
theorem Mo_turn_e (h : am_H) (x0 x1 x2 : Int) : Mo_turn h x0 x1 x2 = ck_ (0 ≤ x0) (ck_ (0 ≤ x0) (bd_ (Mo_isPile (wr_ h x0 2 0) x0 x1) fun h1 v2 => if v2 = 0 then some (h1, (-1)) else ck_ (0 ≤ x0) (ck_ (0 ≤ (rf_ h1 x0 52)) (ck_ (0 ≤ x1 ∧ x1 < ln_ h1 (rf_ h1 x0 52)) (bd_ (Mo_isIn h1 x2 1 (rd_ h1 (rf_ h1 x0 52) x1)) fun h3 v4 => if v4 ≠ 0 then ck_ (0 ≤ x0) (bd_ (Mo_remember h3 x0) fun h5 _ => ck_ (0 ≤ x0) (bd_ (Mo_turnsBy h5 x0 0 x1 x2) fun h7 _ => ck_ (0 ≤ x0) (bd_ (Mo_gapsOf h7 x0 0 x1) fun h9 v10 => some (h9, v10)))) else some (h3, (-1))))))) := (ff_of bk_266_0 [(22, x0), (0, x1), (0, x2)] [] h).trans (by
  show (ck_ (0 ≤ x0) (ck_ (0 ≤ x0) (bd_ (CC 236 [(22, x0), (0, x1)] (wr_ h x0 2 0)) fun h1 v2 => if v2 = 0 then JJ 266 2 [(22, x0), (0, x1), (0, x2)] [] h1 else JJ 266 1 [(22, x0), (0, x1), (0, x2)] [] h1))) = _
  simp only [cc_236, jt_266_1, jt_266_2, ck_or1, ck_or2, rf_wr, ln_wr, nn_wr, rf_cp, ln_cp, nn_cp, ln_wf, nn_wf, rd_wf, nn_nw]
  try rfl)
theorem cc_266 (h : am_H) (x0 x1 x2 : Int) : CC 266 [(22, x0), (0, x1), (0, x2)] h = Mo_turn h x0 x1 x2 := cc_of pk_266 _ h
set_option maxRecDepth 20000 in
theorem pk_267 : am_prog 267 = some cd_267 := rfl
theorem bk_267_0 : bk_ am_prog 267 0 = some ([true, true, true, false, false], (bl_267_0, 9999)) := bk_of pk_267 rfl
theorem bk_267_1 : bk_ am_prog 267 1 = some ([true, true, true, false, false], (bl_267_1, 9999)) := bk_of pk_267 rfl
theorem bk_267_2 : bk_ am_prog 267 2 = some ([true, true, true, false, false], (bl_267_2, 9999)) := bk_of pk_267 rfl
theorem bk_267_3 : bk_ am_prog 267 3 = some ([false, false, false, false, false], (bl_267_3, 9999)) := bk_of pk_267 rfl
theorem bk_267_4 : bk_ am_prog 267 4 = some ([true, true, true, false, false], (bl_267_4, 9999)) := bk_of pk_267 rfl
theorem bk_267_5 : bk_ am_prog 267 5 = some ([true, true, true, false, false], (bl_267_5, 9999)) := bk_of pk_267 rfl
theorem bk_267_6 : bk_ am_prog 267 6 = some ([false, false, false, false, false], (bl_267_6, 9999)) := bk_of pk_267 rfl
theorem bk_267_7 : bk_ am_prog 267 7 = some ([true, true, true, false, false], (bl_267_7, 8)) := bk_of pk_267 rfl
theorem bk_267_8 : bk_ am_prog 267 8 = some ([true, true, true, true, false], (bl_267_8, 9999)) := bk_of pk_267 rfl
theorem bk_267_9 : bk_ am_prog 267 9 = some ([true, true, true, true, false], (bl_267_9, 9999)) := bk_of pk_267 rfl
theorem bk_267_10 : bk_ am_prog 267 10 = some ([false, false, false, false, false], (bl_267_10, 9999)) := bk_of pk_267 rfl
theorem bk_267_11 : bk_ am_prog 267 11 = some ([true, true, true, true, false], (bl_267_11, 9999)) := bk_of pk_267 rfl
theorem bk_267_12 : bk_ am_prog 267 12 = some ([true, true, true, false, false], (bl_267_12, 13)) := bk_of pk_267 rfl
theorem bk_267_13 : bk_ am_prog 267 13 = some ([true, true, true, true, true], (bl_267_13, 9999)) := bk_of pk_267 rfl
theorem bk_267_14 : bk_ am_prog 267 14 = some ([true, true, true, true, true], (bl_267_14, 9999)) := bk_of pk_267 rfl
theorem bk_267_15 : bk_ am_prog 267 15 = some ([true, true, true, true, false], (bl_267_15, 16)) := bk_of pk_267 rfl
theorem bk_267_16 : bk_ am_prog 267 16 = some ([true, false, true, true, true], (bl_267_16, 9999)) := bk_of pk_267 rfl
theorem bk_267_17 : bk_ am_prog 267 17 = some ([true, false, true, true, true], (bl_267_17, 9999)) := bk_of pk_267 rfl
theorem bk_267_18 : bk_ am_prog 267 18 = some ([true, false, true, true, false], (bl_267_18, 9999)) := bk_of pk_267 rfl
theorem jt_267_8 (h : am_H) (d4 : am_V) (x0 x1 x2 x3 : Int) : JJ 267 8 [(22, x0), (0, x1), (0, x2), (0, x3), d4] [] h = Mo_move_8 h x0 x1 x2 x3 := jj_of bk_267_8 _ _ h
theorem jt_267_13 (h : am_H) (x0 x1 x2 x3 x4 : Int) : JJ 267 13 [(22, x0), (0, x1), (0, x2), (0, x3), (0, x4)] [] h = Mo_move_13 h x0 x1 x2 x3 x4 := jj_of bk_267_13 _ _ h
theorem jt_267_16 (h : am_H) (d1 : am_V) (x0 x2 x3 x4 : Int) : JJ 267 16 [(22, x0), d1, (0, x2), (0, x3), (0, x4)] [] h = Mo_move_16 h x0 x2 x3 x4 := jj_of bk_267_16 _ _ h
theorem jt_267_3 (h : am_H) (d0 d1 d2 d3 d4 : am_V) : JJ 267 3 [d0, d1, d2, d3, d4] [] h = some (h, (-1)) := (jj_of bk_267_3 _ _ h).trans (ff_of bk_267_3 [(9, 0), (9, 0), (9, 0), (9, 0), (9, 0)] [] h)
theorem jt_267_6 (h : am_H) (d0 d1 d2 d3 d4 : am_V) : JJ 267 6 [d0, d1, d2, d3, d4] [] h = some (h, (-2)) := (jj_of bk_267_6 _ _ h).trans (ff_of bk_267_6 [(9, 0), (9, 0), (9, 0), (9, 0), (9, 0)] [] h)
theorem jt_267_7 (h : am_H) (d3 d4 : am_V) (x0 x1 x2 : Int) : JJ 267 7 [(22, x0), (0, x1), (0, x2), d3, d4] [] h = Mo_move_8 h x0 x1 x2 0 := (jj_of bk_267_7 _ _ h).trans ((ff_of bk_267_7 [(22, x0), (0, x1), (0, x2), (9, 0), (9, 0)] [] h).trans (by
  show (JJ 267 8 [(22, x0), (0, x1), (0, x2), (0, 0), (9, 0)] [] h) = _
  simp only [jt_267_8, ck_or1, ck_or2, rf_wr, ln_wr, nn_wr, rf_cp, ln_cp, nn_cp, ln_wf, nn_wf, rd_wf, nn_nw]
  try rfl))
theorem jt_267_5 (h : am_H) (d3 d4 : am_V) (x0 x1 x2 : Int) : JJ 267 5 [(22, x0), (0, x1), (0, x2), d3, d4] [] h = ck_ (0 ≤ x0) (ck_ (0 ≤ (rf_ h x0 52)) (ck_ (0 ≤ x2 ∧ x2 < ln_ h (rf_ h x0 52)) (if (rd_ h (rf_ h x0 52) x2) ≠ 5 then Mo_move_8 h x0 x1 x2 0 else some (h, (-2))))) := (jj_of bk_267_5 _ _ h).trans ((ff_of bk_267_5 [(22, x0), (0, x1), (0, x2), (9, 0), (9, 0)] [] h).trans (by
  show (ck_ (0 ≤ x0) (ck_ (0 ≤ (rf_ h x0 52)) (ck_ (0 ≤ x2 ∧ x2 < ln_ h (rf_ h x0 52)) (if (rd_ h (rf_ h x0 52) x2) ≠ 5 then JJ 267 7 [(22, x0), (0, x1), (0, x2), (9, 0), (9, 0)] [] h else JJ 267 6 [(22, x0), (0, x1), (0, x2), (9, 0), (9, 0)] [] h)))) = _
  simp only [jt_267_6, jt_267_7, ck_or1, ck_or2, rf_wr, ln_wr, nn_wr, rf_cp, ln_cp, nn_cp, ln_wf, nn_wf, rd_wf, nn_nw]
  try rfl))
theorem jt_267_4 (h : am_H) (d3 d4 : am_V) (x0 x1 x2 : Int) : JJ 267 4 [(22, x0), (0, x1), (0, x2), d3, d4] [] h = ck_ (0 ≤ x0) (ck_ (0 ≤ (rf_ h x0 52)) (ck_ (0 ≤ x1 ∧ x1 < ln_ h (rf_ h x0 52)) (if (rd_ h (rf_ h x0 52) x1) = 0 then some (h, (-2)) else ck_ (0 ≤ x0) (ck_ (0 ≤ (rf_ h x0 52)) (ck_ (0 ≤ x2 ∧ x2 < ln_ h (rf_ h x0 52)) (if (rd_ h (rf_ h x0 52) x2) ≠ 5 then Mo_move_8 h x0 x1 x2 0 else some (h, (-2)))))))) := (jj_of bk_267_4 _ _ h).trans ((ff_of bk_267_4 [(22, x0), (0, x1), (0, x2), (9, 0), (9, 0)] [] h).trans (by
  show (ck_ (0 ≤ x0) (ck_ (0 ≤ (rf_ h x0 52)) (ck_ (0 ≤ x1 ∧ x1 < ln_ h (rf_ h x0 52)) (if (rd_ h (rf_ h x0 52) x1) = 0 then JJ 267 6 [(22, x0), (0, x1), (0, x2), (9, 0), (9, 0)] [] h else JJ 267 5 [(22, x0), (0, x1), (0, x2), (9, 0), (9, 0)] [] h)))) = _
  simp only [jt_267_5, jt_267_6, ck_or1, ck_or2, rf_wr, ln_wr, nn_wr, rf_cp, ln_cp, nn_cp, ln_wf, nn_wf, rd_wf, nn_nw]
  try rfl))
theorem jt_267_2 (h : am_H) (d3 d4 : am_V) (x0 x1 x2 : Int) : JJ 267 2 [(22, x0), (0, x1), (0, x2), d3, d4] [] h = if x1 ≠ x2 then ck_ (0 ≤ x0) (ck_ (0 ≤ (rf_ h x0 52)) (ck_ (0 ≤ x1 ∧ x1 < ln_ h (rf_ h x0 52)) (if (rd_ h (rf_ h x0 52) x1) = 0 then some (h, (-2)) else ck_ (0 ≤ x0) (ck_ (0 ≤ (rf_ h x0 52)) (ck_ (0 ≤ x2 ∧ x2 < ln_ h (rf_ h x0 52)) (if (rd_ h (rf_ h x0 52) x2) ≠ 5 then Mo_move_8 h x0 x1 x2 0 else some (h, (-2)))))))) else some (h, (-1)) := (jj_of bk_267_2 _ _ h).trans ((ff_of bk_267_2 [(22, x0), (0, x1), (0, x2), (9, 0), (9, 0)] [] h).trans (by
  show (if x1 ≠ x2 then JJ 267 4 [(22, x0), (0, x1), (0, x2), (9, 0), (9, 0)] [] h else JJ 267 3 [(22, x0), (0, x1), (0, x2), (9, 0), (9, 0)] [] h) = _
  simp only [jt_267_3, jt_267_4, ck_or1, ck_or2, rf_wr, ln_wr, nn_wr, rf_cp, ln_cp, nn_cp, ln_wf, nn_wf, rd_wf, nn_nw]
  try rfl))
theorem jt_267_1 (h : am_H) (d3 d4 : am_V) (x0 x1 x2 : Int) : JJ 267 1 [(22, x0), (0, x1), (0, x2), d3, d4] [] h = ck_ (0 ≤ x0) (bd_ (Mo_isPile h x0 x2) fun h1 v2 => if v2 = 0 then some (h1, (-1)) else if x1 ≠ x2 then ck_ (0 ≤ x0) (ck_ (0 ≤ (rf_ h1 x0 52)) (ck_ (0 ≤ x1 ∧ x1 < ln_ h1 (rf_ h1 x0 52)) (if (rd_ h1 (rf_ h1 x0 52) x1) = 0 then some (h1, (-2)) else ck_ (0 ≤ x0) (ck_ (0 ≤ (rf_ h1 x0 52)) (ck_ (0 ≤ x2 ∧ x2 < ln_ h1 (rf_ h1 x0 52)) (if (rd_ h1 (rf_ h1 x0 52) x2) ≠ 5 then Mo_move_8 h1 x0 x1 x2 0 else some (h1, (-2)))))))) else some (h1, (-1))) := (jj_of bk_267_1 _ _ h).trans ((ff_of bk_267_1 [(22, x0), (0, x1), (0, x2), (9, 0), (9, 0)] [] h).trans (by
  show (ck_ (0 ≤ x0) (bd_ (CC 236 [(22, x0), (0, x2)] h) fun h1 v2 => if v2 = 0 then JJ 267 3 [(22, x0), (0, x1), (0, x2), (9, 0), (9, 0)] [] h1 else JJ 267 2 [(22, x0), (0, x1), (0, x2), (9, 0), (9, 0)] [] h1)) = _
  simp only [cc_236, jt_267_2, jt_267_3, ck_or1, ck_or2, rf_wr, ln_wr, nn_wr, rf_cp, ln_cp, nn_cp, ln_wf, nn_wf, rd_wf, nn_nw]
  try rfl))
theorem Mo_move_e (h : am_H) (x0 x1 x2 : Int) : Mo_move h x0 x1 x2 = ck_ (0 ≤ x0) (ck_ (0 ≤ x0) (bd_ (Mo_isPile (wr_ h x0 2 0) x0 x1) fun h1 v2 => if v2 = 0 then some (h1, (-1)) else ck_ (0 ≤ x0) (bd_ (Mo_isPile h1 x0 x2) fun h3 v4 => if v4 = 0 then some (h3, (-1)) else if x1 ≠ x2 then ck_ (0 ≤ x0) (ck_ (0 ≤ (rf_ h3 x0 52)) (ck_ (0 ≤ x1 ∧ x1 < ln_ h3 (rf_ h3 x0 52)) (if (rd_ h3 (rf_ h3 x0 52) x1) = 0 then some (h3, (-2)) else ck_ (0 ≤ x0) (ck_ (0 ≤ (rf_ h3 x0 52)) (ck_ (0 ≤ x2 ∧ x2 < ln_ h3 (rf_ h3 x0 52)) (if (rd_ h3 (rf_ h3 x0 52) x2) ≠ 5 then Mo_move_8 h3 x0 x1 x2 0 else some (h3, (-2)))))))) else some (h3, (-1))))) := (ff_of bk_267_0 [(22, x0), (0, x1), (0, x2), (9, 0), (9, 0)] [] h).trans (by
  show (ck_ (0 ≤ x0) (ck_ (0 ≤ x0) (bd_ (CC 236 [(22, x0), (0, x1)] (wr_ h x0 2 0)) fun h1 v2 => if v2 = 0 then JJ 267 3 [(22, x0), (0, x1), (0, x2), (9, 0), (9, 0)] [] h1 else JJ 267 1 [(22, x0), (0, x1), (0, x2), (9, 0), (9, 0)] [] h1))) = _
  simp only [cc_236, jt_267_1, jt_267_3, ck_or1, ck_or2, rf_wr, ln_wr, nn_wr, rf_cp, ln_cp, nn_cp, ln_wf, nn_wf, rd_wf, nn_nw]
  try rfl)
theorem jt_267_12 (h : am_H) (d3 d4 : am_V) (x0 x1 x2 : Int) : JJ 267 12 [(22, x0), (0, x1), (0, x2), d3, d4] [] h = ck_ (0 ≤ x0) (bd_ (Mo_remember h x0) fun h1 _ => ck_ (0 ≤ x0) (ck_ (0 ≤ (rf_ h1 x0 53)) (ck_ (0 ≤ (w32 (5 * x1)) ∧ (w32 (5 * x1)) < ln_ h1 (rf_ h1 x0 53)) (Mo_move_13 h1 x0 x1 x2 (rd_ h1 (rf_ h1 x0 53) (w32 (5 * x1))) 1)))) := (jj_of bk_267_12 _ _ h).trans ((ff_of bk_267_12 [(22, x0), (0, x1), (0, x2), (9, 0), (9, 0)] [] h).trans (by
  show (ck_ (0 ≤ x0) (bd_ (CC 265 [(22, x0)] h) fun h1 _ => ck_ (0 ≤ x0) (ck_ (0 ≤ (rf_ h1 x0 53)) (ck_ (0 ≤ (w32 (5 * x1)) ∧ (w32 (5 * x1)) < ln_ h1 (rf_ h1 x0 53)) (JJ 267 13 [(22, x0), (0, x1), (0, x2), (0, rd_ h1 (rf_ h1 x0 53) (w32 (5 * x1))), (0, 1)] [] h1))))) = _
  simp only [cc_265, jt_267_13, ck_or1, ck_or2, rf_wr, ln_wr, nn_wr, rf_cp, ln_cp, nn_cp, ln_wf, nn_wf, rd_wf, nn_nw]
  try rfl))
theorem jt_267_11 (h : am_H) (d4 : am_V) (x0 x1 x2 x3 : Int) : JJ 267 11 [(22, x0), (0, x1), (0, x2), (0, x3), d4] [] h = Mo_move_8 h x0 x1 x2 (w32 (x3 + 1)) := (jj_of bk_267_11 _ _ h).trans ((ff_of bk_267_11 [(22, x0), (0, x1), (0, x2), (0, x3), (9, 0)] [] h).trans (by
  show (JJ 267 8 [(22, x0), (0, x1), (0, x2), (0, w32 (x3 + 1)), (9, 0)] [] h) = _
  simp only [jt_267_8, ck_or1, ck_or2, rf_wr, ln_wr, nn_wr, rf_cp, ln_cp, nn_cp, ln_wf, nn_wf, rd_wf, nn_nw]
  try rfl))
theorem jt_267_10 (h : am_H) (d0 d1 d2 d3 d4 : am_V) : JJ 267 10 [d0, d1, d2, d3, d4] [] h = some (h, (-2)) := (jj_of bk_267_10 _ _ h).trans (ff_of bk_267_10 [(9, 0), (9, 0), (9, 0), (9, 0), (9, 0)] [] h)
theorem jt_267_9 (h : am_H) (d4 : am_V) (x0 x1 x2 x3 : Int) : JJ 267 9 [(22, x0), (0, x1), (0, x2), (0, x3), d4] [] h = ck_ (0 ≤ x0) (bd_ (Mo_sizeAt h x0 0 x2 x3) fun h1 v2 => ck_ (0 ≤ x0) (bd_ (Mo_sizeAt h1 x0 0 x1 0) fun h3 v4 => if v2 ≠ v4 then Mo_move_8 h3 x0 x1 x2 (w32 (x3 + 1)) else some (h3, (-2)))) := (jj_of bk_267_9 _ _ h).trans ((ff_of bk_267_9 [(22, x0), (0, x1), (0, x2), (0, x3), (9, 0)] [] h).trans (by
  show (ck_ (0 ≤ x0) (bd_ (CC 240 [(22, x0), (0, 0), (0, x2), (0, x3)] h) fun h1 v2 => ck_ (0 ≤ x0) (bd_ (CC 240 [(22, x0), (0, 0), (0, x1), (0, 0)] h1) fun h3 v4 => if v2 ≠ v4 then JJ 267 11 [(22, x0), (0, x1), (0, x2), (0, x3), (9, 0)] [] h3 else JJ 267 10 [(22, x0), (0, x1), (0, x2), (0, x3), (9, 0)] [] h3))) = _
  simp only [cc_240, jt_267_10, jt_267_11, ck_or1, ck_or2, rf_wr, ln_wr, nn_wr, rf_cp, ln_cp, nn_cp, ln_wf, nn_wf, rd_wf, nn_nw]
  try rfl))
theorem Mo_move_8_e (h : am_H) (x0 x1 x2 x3 : Int) : Mo_move_8 h x0 x1 x2 x3 = ck_ (0 ≤ x0) (ck_ (0 ≤ (rf_ h x0 52)) (ck_ (0 ≤ x2 ∧ x2 < ln_ h (rf_ h x0 52)) (if (rd_ h (rf_ h x0 52) x2) ≤ x3 then ck_ (0 ≤ x0) (bd_ (Mo_remember h x0) fun h1 _ => ck_ (0 ≤ x0) (ck_ (0 ≤ (rf_ h1 x0 53)) (ck_ (0 ≤ (w32 (5 * x1)) ∧ (w32 (5 * x1)) < ln_ h1 (rf_ h1 x0 53)) (Mo_move_13 h1 x0 x1 x2 (rd_ h1 (rf_ h1 x0 53) (w32 (5 * x1))) 1)))) else ck_ (0 ≤ x0) (bd_ (Mo_sizeAt h x0 0 x2 x3) fun h3 v4 => ck_ (0 ≤ x0) (bd_ (Mo_sizeAt h3 x0 0 x1 0) fun h5 v6 => if v4 ≠ v6 then Mo_move_8 h5 x0 x1 x2 (w32 (x3 + 1)) else some (h5, (-2))))))) := (ff_of bk_267_8 [(22, x0), (0, x1), (0, x2), (0, x3), (9, 0)] [] h).trans (by
  show (ck_ (0 ≤ x0) (ck_ (0 ≤ (rf_ h x0 52)) (ck_ (0 ≤ x2 ∧ x2 < ln_ h (rf_ h x0 52)) (if (rd_ h (rf_ h x0 52) x2) ≤ x3 then JJ 267 12 [(22, x0), (0, x1), (0, x2), (0, x3), (9, 0)] [] h else JJ 267 9 [(22, x0), (0, x1), (0, x2), (0, x3), (9, 0)] [] h)))) = _
  simp only [jt_267_12, jt_267_9, ck_or1, ck_or2, rf_wr, ln_wr, nn_wr, rf_cp, ln_cp, nn_cp, ln_wf, nn_wf, rd_wf, nn_nw]
  try rfl)
set_option maxRecDepth 20000 in
theorem jt_267_15 (h : am_H) (d4 : am_V) (x0 x1 x2 x3 : Int) : JJ 267 15 [(22, x0), (0, x1), (0, x2), (0, x3), d4] [] h = ck_ (0 ≤ x0) (ck_ (0 ≤ (rf_ h x0 52)) (ck_ (0 ≤ x1 ∧ x1 < ln_ h (rf_ h x0 52)) (ck_ (0 ≤ (rf_ h x0 52)) (ck_ (0 ≤ x1 ∧ x1 < ln_ h (rf_ h x0 52)) (ck_ (0 ≤ x0) (ck_ (0 ≤ (rf_ h x0 52)) (ck_ (0 ≤ x2 ∧ x2 < ln_ h (rf_ h x0 52)) (Mo_move_16 (wr_ h (rf_ h x0 52) x1 (w32 ((rd_ h (rf_ h x0 52) x1) - 1))) x0 x2 x3 (rd_ (wr_ h (rf_ h x0 52) x1 (w32 ((rd_ h (rf_ h x0 52) x1) - 1))) (rf_ h x0 52) x2))))))))) := (jj_of bk_267_15 _ _ h).trans ((ff_of bk_267_15 [(22, x0), (0, x1), (0, x2), (0, x3), (9, 0)] [] h).trans (by
  show (ck_ (0 ≤ x0) (ck_ (0 ≤ (rf_ h x0 52)) (ck_ (0 ≤ x1 ∧ x1 < ln_ h (rf_ h x0 52)) (ck_ (0 ≤ (rf_ h x0 52)) (ck_ (0 ≤ x1 ∧ x1 < ln_ h (rf_ h x0 52)) (ck_ (0 ≤ x0) (ck_ (0 ≤ (rf_ h x0 52)) (ck_ (0 ≤ x2 ∧ x2 < ln_ h (rf_ h x0 52)) (JJ 267 16 [(22, x0), (0, x1), (0, x2), (0, x3), (0, rd_ (wr_ h (rf_ h x0 52) x1 (w32 ((rd_ h (rf_ h x0 52) x1) - 1))) (rf_ h x0 52) x2)] [] (wr_ h (rf_ h x0 52) x1 (w32 ((rd_ h (rf_ h x0 52) x1) - 1)))))))))))) = _
  simp only [jt_267_16, ck_or1, ck_or2, rf_wr, ln_wr, nn_wr, rf_cp, ln_cp, nn_cp, ln_wf, nn_wf, rd_wf, nn_nw]
  try rfl))
set_option maxRecDepth 20000 in
theorem jt_267_14 (h : am_H) (x0 x1 x2 x3 x4 : Int) : JJ 267 14 [(22, x0), (0, x1), (0, x2), (0, x3), (0, x4)] [] h = ck_ (0 ≤ x0) (ck_ (0 ≤ x0) (ck_ (0 ≤ (rf_ h x0 53)) (ck_ (0 ≤ (w32 ((w32 (5 * x1)) + x4)) ∧ (w32 ((w32 (5 * x1)) + x4)) < ln_ h (rf_ h x0 53)) (ck_ (0 ≤ (rf_ h x0 53)) (ck_ (0 ≤ (w32 ((w32 ((w32 (5 * x1)) + x4)) - 1)) ∧ (w32 ((w32 ((w32 (5 * x1)) + x4)) - 1)) < ln_ h (rf_ h x0 53)) (Mo_move_13 (wr_ h (rf_ h x0 53) (w32 ((w32 ((w32 (5 * x1)) + x4)) - 1)) (rd_ h (rf_ h x0 53) (w32 ((w32 (5 * x1)) + x4)))) x0 x1 x2 x3 (w32 (x4 + 1)))))))) := (jj_of bk_267_14 _ _ h).trans ((ff_of bk_267_14 [(22, x0), (0, x1), (0, x2), (0, x3), (0, x4)] [] h).trans (by
  show (ck_ (0 ≤ x0) (ck_ (0 ≤ x0) (ck_ (0 ≤ (rf_ h x0 53)) (ck_ (0 ≤ (w32 ((w32 (5 * x1)) + x4)) ∧ (w32 ((w32 (5 * x1)) + x4)) < ln_ h (rf_ h x0 53)) (ck_ (0 ≤ (rf_ h x0 53)) (ck_ (0 ≤ (w32 ((w32 ((w32 (5 * x1)) + x4)) - 1)) ∧ (w32 ((w32 ((w32 (5 * x1)) + x4)) - 1)) < ln_ h (rf_ h x0 53)) (JJ 267 13 [(22, x0), (0, x1), (0, x2), (0, x3), (0, w32 (x4 + 1))] [] (wr_ h (rf_ h x0 53) (w32 ((w32 ((w32 (5 * x1)) + x4)) - 1)) (rd_ h (rf_ h x0 53) (w32 ((w32 (5 * x1)) + x4))))))))))) = _
  simp only [jt_267_13, ck_or1, ck_or2, rf_wr, ln_wr, nn_wr, rf_cp, ln_cp, nn_cp, ln_wf, nn_wf, rd_wf, nn_nw]
  try rfl))
set_option maxRecDepth 20000 in
theorem Mo_move_13_e (h : am_H) (x0 x1 x2 x3 x4 : Int) : Mo_move_13 h x0 x1 x2 x3 x4 = ck_ (0 ≤ x0) (ck_ (0 ≤ (rf_ h x0 52)) (ck_ (0 ≤ x1 ∧ x1 < ln_ h (rf_ h x0 52)) (if (rd_ h (rf_ h x0 52) x1) ≤ x4 then ck_ (0 ≤ x0) (ck_ (0 ≤ (rf_ h x0 52)) (ck_ (0 ≤ x1 ∧ x1 < ln_ h (rf_ h x0 52)) (ck_ (0 ≤ (rf_ h x0 52)) (ck_ (0 ≤ x1 ∧ x1 < ln_ h (rf_ h x0 52)) (ck_ (0 ≤ x0) (ck_ (0 ≤ (rf_ h x0 52)) (ck_ (0 ≤ x2 ∧ x2 < ln_ h (rf_ h x0 52)) (Mo_move_16 (wr_ h (rf_ h x0 52) x1 (w32 ((rd_ h (rf_ h x0 52) x1) - 1))) x0 x2 x3 (rd_ (wr_ h (rf_ h x0 52) x1 (w32 ((rd_ h (rf_ h x0 52) x1) - 1))) (rf_ h x0 52) x2))))))))) else ck_ (0 ≤ x0) (ck_ (0 ≤ x0) (ck_ (0 ≤ (rf_ h x0 53)) (ck_ (0 ≤ (w32 ((w32 (5 * x1)) + x4)) ∧ (w32 ((w32 (5 * x1)) + x4)) < ln_ h (rf_ h x0 53)) (ck_ (0 ≤ (rf_ h x0 53)) (ck_ (0 ≤ (w32 ((w32 ((w32 (5 * x1)) + x4)) - 1)) ∧ (w32 ((w32 ((w32 (5 * x1)) + x4)) - 1)) < ln_ h (rf_ h x0 53)) (Mo_move_13 (wr_ h (rf_ h x0 53) (w32 ((w32 ((w32 (5 * x1)) + x4)) - 1)) (rd_ h (rf_ h x0 53) (w32 ((w32 (5 * x1)) + x4)))) x0 x1 x2 x3 (w32 (x4 + 1))))))))))) := (ff_of bk_267_13 [(22, x0), (0, x1), (0, x2), (0, x3), (0, x4)] [] h).trans (by
  show (ck_ (0 ≤ x0) (ck_ (0 ≤ (rf_ h x0 52)) (ck_ (0 ≤ x1 ∧ x1 < ln_ h (rf_ h x0 52)) (if (rd_ h (rf_ h x0 52) x1) ≤ x4 then JJ 267 15 [(22, x0), (0, x1), (0, x2), (0, x3), (0, x4)] [] h else JJ 267 14 [(22, x0), (0, x1), (0, x2), (0, x3), (0, x4)] [] h)))) = _
  simp only [jt_267_14, jt_267_15, ck_or1, ck_or2, rf_wr, ln_wr, nn_wr, rf_cp, ln_cp, nn_cp, ln_wf, nn_wf, rd_wf, nn_nw]
  try rfl)
theorem jt_267_18 (h : am_H) (d1 d4 : am_V) (x0 x2 x3 : Int) : JJ 267 18 [(22, x0), d1, (0, x2), (0, x3), d4] [] h = ck_ (0 ≤ x0) (ck_ (0 ≤ (rf_ h x0 53)) (ck_ (0 ≤ (w32 (5 * x2)) ∧ (w32 (5 * x2)) < ln_ h (rf_ h x0 53)) (ck_ (0 ≤ x0) (ck_ (0 ≤ (rf_ h x0 52)) (ck_ (0 ≤ x2 ∧ x2 < ln_ h (rf_ h x0 52)) (ck_ (0 ≤ (rf_ h x0 52)) (ck_ (0 ≤ x2 ∧ x2 < ln_ h (rf_ h x0 52)) (ck_ (0 ≤ x0) (ck_ (0 ≤ (rf_ h x0 52)) (ck_ (0 ≤ x2 ∧ x2 < ln_ h (rf_ h x0 52)) (some (wr_ (wr_ h (rf_ h x0 53) (w32 (5 * x2)) x3) (rf_ h x0 52) x2 (w32 ((rd_ (wr_ h (rf_ h x0 53) (w32 (5 * x2)) x3) (rf_ h x0 52) x2) + 1)), rd_ (wr_ (wr_ h (rf_ h x0 53) (w32 (5 * x2)) x3) (rf_ h x0 52) x2 (w32 ((rd_ (wr_ h (rf_ h x0 53) (w32 (5 * x2)) x3) (rf_ h x0 52) x2) + 1))) (rf_ h x0 52) x2)))))))))))) := (jj_of bk_267_18 _ _ h).trans (ff_of bk_267_18 [(22, x0), (9, 0), (0, x2), (0, x3), (9, 0)] [] h)
set_option maxRecDepth 20000 in
theorem jt_267_17 (h : am_H) (d1 : am_V) (x0 x2 x3 x4 : Int) : JJ 267 17 [(22, x0), d1, (0, x2), (0, x3), (0, x4)] [] h = ck_ (0 ≤ x0) (ck_ (0 ≤ x0) (ck_ (0 ≤ (rf_ h x0 53)) (ck_ (0 ≤ (w32 ((w32 ((w32 (5 * x2)) + x4)) - 1)) ∧ (w32 ((w32 ((w32 (5 * x2)) + x4)) - 1)) < ln_ h (rf_ h x0 53)) (ck_ (0 ≤ (rf_ h x0 53)) (ck_ (0 ≤ (w32 ((w32 (5 * x2)) + x4)) ∧ (w32 ((w32 (5 * x2)) + x4)) < ln_ h (rf_ h x0 53)) (Mo_move_16 (wr_ h (rf_ h x0 53) (w32 ((w32 (5 * x2)) + x4)) (rd_ h (rf_ h x0 53) (w32 ((w32 ((w32 (5 * x2)) + x4)) - 1)))) x0 x2 x3 (w32 (x4 + (-1))))))))) := (jj_of bk_267_17 _ _ h).trans ((ff_of bk_267_17 [(22, x0), (9, 0), (0, x2), (0, x3), (0, x4)] [] h).trans (by
  show (ck_ (0 ≤ x0) (ck_ (0 ≤ x0) (ck_ (0 ≤ (rf_ h x0 53)) (ck_ (0 ≤ (w32 ((w32 ((w32 (5 * x2)) + x4)) - 1)) ∧ (w32 ((w32 ((w32 (5 * x2)) + x4)) - 1)) < ln_ h (rf_ h x0 53)) (ck_ (0 ≤ (rf_ h x0 53)) (ck_ (0 ≤ (w32 ((w32 (5 * x2)) + x4)) ∧ (w32 ((w32 (5 * x2)) + x4)) < ln_ h (rf_ h x0 53)) (JJ 267 16 [(22, x0), (9, 0), (0, x2), (0, x3), (0, w32 (x4 + (-1)))] [] (wr_ h (rf_ h x0 53) (w32 ((w32 (5 * x2)) + x4)) (rd_ h (rf_ h x0 53) (w32 ((w32 ((w32 (5 * x2)) + x4)) - 1))))))))))) = _
  simp only [jt_267_16, ck_or1, ck_or2, rf_wr, ln_wr, nn_wr, rf_cp, ln_cp, nn_cp, ln_wf, nn_wf, rd_wf, nn_nw]
  try rfl))
set_option maxRecDepth 20000 in
theorem Mo_move_16_e (h : am_H) (x0 x2 x3 x4 : Int) : Mo_move_16 h x0 x2 x3 x4 = if x4 ≤ 0 then ck_ (0 ≤ x0) (ck_ (0 ≤ (rf_ h x0 53)) (ck_ (0 ≤ (w32 (5 * x2)) ∧ (w32 (5 * x2)) < ln_ h (rf_ h x0 53)) (ck_ (0 ≤ x0) (ck_ (0 ≤ (rf_ h x0 52)) (ck_ (0 ≤ x2 ∧ x2 < ln_ h (rf_ h x0 52)) (ck_ (0 ≤ (rf_ h x0 52)) (ck_ (0 ≤ x2 ∧ x2 < ln_ h (rf_ h x0 52)) (ck_ (0 ≤ x0) (ck_ (0 ≤ (rf_ h x0 52)) (ck_ (0 ≤ x2 ∧ x2 < ln_ h (rf_ h x0 52)) (some (wr_ (wr_ h (rf_ h x0 53) (w32 (5 * x2)) x3) (rf_ h x0 52) x2 (w32 ((rd_ (wr_ h (rf_ h x0 53) (w32 (5 * x2)) x3) (rf_ h x0 52) x2) + 1)), rd_ (wr_ (wr_ h (rf_ h x0 53) (w32 (5 * x2)) x3) (rf_ h x0 52) x2 (w32 ((rd_ (wr_ h (rf_ h x0 53) (w32 (5 * x2)) x3) (rf_ h x0 52) x2) + 1))) (rf_ h x0 52) x2)))))))))))) else ck_ (0 ≤ x0) (ck_ (0 ≤ x0) (ck_ (0 ≤ (rf_ h x0 53)) (ck_ (0 ≤ (w32 ((w32 ((w32 (5 * x2)) + x4)) - 1)) ∧ (w32 ((w32 ((w32 (5 * x2)) + x4)) - 1)) < ln_ h (rf_ h x0 53)) (ck_ (0 ≤ (rf_ h x0 53)) (ck_ (0 ≤ (w32 ((w32 (5 * x2)) + x4)) ∧ (w32 ((w32 (5 * x2)) + x4)) < ln_ h (rf_ h x0 53)) (Mo_move_16 (wr_ h (rf_ h x0 53) (w32 ((w32 (5 * x2)) + x4)) (rd_ h (rf_ h x0 53) (w32 ((w32 ((w32 (5 * x2)) + x4)) - 1)))) x0 x2 x3 (w32 (x4 + (-1))))))))) := (ff_of bk_267_16 [(22, x0), (9, 0), (0, x2), (0, x3), (0, x4)] [] h).trans (by
  show (if x4 ≤ 0 then JJ 267 18 [(22, x0), (9, 0), (0, x2), (0, x3), (0, x4)] [] h else JJ 267 17 [(22, x0), (9, 0), (0, x2), (0, x3), (0, x4)] [] h) = _
  simp only [jt_267_17, jt_267_18, ck_or1, ck_or2, rf_wr, ln_wr, nn_wr, rf_cp, ln_cp, nn_cp, ln_wf, nn_wf, rd_wf, nn_nw]
  try rfl)
theorem cc_267 (h : am_H) (x0 x1 x2 : Int) : CC 267 [(22, x0), (0, x1), (0, x2)] h = Mo_move h x0 x1 x2 := cc_of pk_267 _ h
set_option maxRecDepth 20000 in
theorem pk_268 : am_prog 268 = some cd_268 := rfl
theorem bk_268_0 : bk_ am_prog 268 0 = some ([true, true, true, false], (bl_268_0, 9999)) := bk_of pk_268 rfl
theorem bk_268_1 : bk_ am_prog 268 1 = some ([false, false, false, false], (bl_268_1, 9999)) := bk_of pk_268 rfl
theorem bk_268_2 : bk_ am_prog 268 2 = some ([true, true, true, false], (bl_268_2, 9999)) := bk_of pk_268 rfl
theorem bk_268_3 : bk_ am_prog 268 3 = some ([true, false, false, true], (bl_268_3, 9999)) := bk_of pk_268 rfl
theorem bk_268_4 : bk_ am_prog 268 4 = some ([false, false, false, false], (bl_268_4, 9999)) := bk_of pk_268 rfl
theorem bk_268_5 : bk_ am_prog 268 5 = some ([true, false, false, true], (bl_268_5, 9999)) := bk_of pk_268 rfl
theorem jt_268_4 (h : am_H) (d0 d1 d2 d3 : am_V) : JJ 268 4 [d0, d1, d2, d3] [] h = some (h, 0) := (jj_of bk_268_4 _ _ h).trans (ff_of bk_268_4 [(9, 0), (9, 0), (9, 0), (9, 0)] [] h)
theorem jt_268_5 (h : am_H) (d1 d2 : am_V) (x0 x3 : Int) : JJ 268 5 [(22, x0), d1, d2, (0, x3)] [] h = ck_ (0 ≤ x0) (bd_ (Mo_remember h x0) fun h1 _ => ck_ (0 ≤ x0) (ck_ (0 ≤ (rf_ h1 x0 56)) (ck_ (0 ≤ x3 ∧ x3 < ln_ h1 (rf_ h1 x0 56)) (some (wr_ h1 (rf_ h1 x0 56) x3 1, 1))))) := (jj_of bk_268_5 _ _ h).trans ((ff_of bk_268_5 [(22, x0), (9, 0), (9, 0), (0, x3)] [] h).trans (by
  show (ck_ (0 ≤ x0) (bd_ (CC 265 [(22, x0)] h) fun h1 _ => ck_ (0 ≤ x0) (ck_ (0 ≤ (rf_ h1 x0 56)) (ck_ (0 ≤ x3 ∧ x3 < ln_ h1 (rf_ h1 x0 56)) (some (wr_ h1 (rf_ h1 x0 56) x3 1, 1)))))) = _
  simp only [cc_265, ck_or1, ck_or2, rf_wr, ln_wr, nn_wr, rf_cp, ln_cp, nn_cp, ln_wf, nn_wf, rd_wf, nn_nw]
  try rfl))
theorem jt_268_3 (h : am_H) (d1 d2 : am_V) (x0 x3 : Int) : JJ 268 3 [(22, x0), d1, d2, (0, x3)] [] h = ck_ (0 ≤ x0) (ck_ (0 ≤ (rf_ h x0 56)) (ck_ (0 ≤ x3 ∧ x3 < ln_ h (rf_ h x0 56)) (if (rd_ h (rf_ h x0 56) x3) = 0 then ck_ (0 ≤ x0) (bd_ (Mo_remember h x0) fun h1 _ => ck_ (0 ≤ x0) (ck_ (0 ≤ (rf_ h1 x0 56)) (ck_ (0 ≤ x3 ∧ x3 < ln_ h1 (rf_ h1 x0 56)) (some (wr_ h1 (rf_ h1 x0 56) x3 1, 1))))) else some (h, 0)))) := (jj_of bk_268_3 _ _ h).trans ((ff_of bk_268_3 [(22, x0), (9, 0), (9, 0), (0, x3)] [] h).trans (by
  show (ck_ (0 ≤ x0) (ck_ (0 ≤ (rf_ h x0 56)) (ck_ (0 ≤ x3 ∧ x3 < ln_ h (rf_ h x0 56)) (if (rd_ h (rf_ h x0 56) x3) = 0 then JJ 268 5 [(22, x0), (9, 0), (9, 0), (0, x3)] [] h else JJ 268 4 [(22, x0), (9, 0), (9, 0), (0, x3)] [] h)))) = _
  simp only [jt_268_4, jt_268_5, ck_or1, ck_or2, rf_wr, ln_wr, nn_wr, rf_cp, ln_cp, nn_cp, ln_wf, nn_wf, rd_wf, nn_nw]
  try rfl))
theorem jt_268_2 (h : am_H) (d3 : am_V) (x0 x1 x2 : Int) : JJ 268 2 [(22, x0), (0, x1), (0, x2), d3] [] h = ck_ (0 ≤ x0) (bd_ (Mo_plateAt h x0 0 x1 x2) fun h1 v2 => if v2 < 0 then some (h1, 0) else ck_ (0 ≤ x0) (ck_ (0 ≤ (rf_ h1 x0 56)) (ck_ (0 ≤ v2 ∧ v2 < ln_ h1 (rf_ h1 x0 56)) (if (rd_ h1 (rf_ h1 x0 56) v2) = 0 then ck_ (0 ≤ x0) (bd_ (Mo_remember h1 x0) fun h3 _ => ck_ (0 ≤ x0) (ck_ (0 ≤ (rf_ h3 x0 56)) (ck_ (0 ≤ v2 ∧ v2 < ln_ h3 (rf_ h3 x0 56)) (some (wr_ h3 (rf_ h3 x0 56) v2 1, 1))))) else some (h1, 0))))) := (jj_of bk_268_2 _ _ h).trans ((ff_of bk_268_2 [(22, x0), (0, x1), (0, x2), (9, 0)] [] h).trans (by
  show (ck_ (0 ≤ x0) (bd_ (CC 239 [(22, x0), (0, 0), (0, x1), (0, x2)] h) fun h1 v2 => if v2 < 0 then JJ 268 4 [(22, x0), (0, x1), (0, x2), (0, v2)] [] h1 else JJ 268 3 [(22, x0), (0, x1), (0, x2), (0, v2)] [] h1)) = _
  simp only [cc_239, jt_268_3, jt_268_4, ck_or1, ck_or2, rf_wr, ln_wr, nn_wr, rf_cp, ln_cp, nn_cp, ln_wf, nn_wf, rd_wf, nn_nw]
  try rfl))
theorem jt_268_1 (h : am_H) (d0 d1 d2 d3 : am_V) : JJ 268 1 [d0, d1, d2, d3] [] h = some (h, 0) := (jj_of bk_268_1 _ _ h).trans (ff_of bk_268_1 [(9, 0), (9, 0), (9, 0), (9, 0)] [] h)
theorem Mo_crack_e (h : am_H) (x0 x1 x2 : Int) : Mo_crack h x0 x1 x2 = ck_ (0 ≤ x0) (ck_ (0 ≤ x0) (bd_ (Mo_isPile (wr_ h x0 2 0) x0 x1) fun h1 v2 => if v2 ≠ 0 then ck_ (0 ≤ x0) (bd_ (Mo_plateAt h1 x0 0 x1 x2) fun h3 v4 => if v4 < 0 then some (h3, 0) else ck_ (0 ≤ x0) (ck_ (0 ≤ (rf_ h3 x0 56)) (ck_ (0 ≤ v4 ∧ v4 < ln_ h3 (rf_ h3 x0 56)) (if (rd_ h3 (rf_ h3 x0 56) v4) = 0 then ck_ (0 ≤ x0) (bd_ (Mo_remember h3 x0) fun h5 _ => ck_ (0 ≤ x0) (ck_ (0 ≤ (rf_ h5 x0 56)) (ck_ (0 ≤ v4 ∧ v4 < ln_ h5 (rf_ h5 x0 56)) (some (wr_ h5 (rf_ h5 x0 56) v4 1, 1))))) else some (h3, 0))))) else some (h1, 0))) := (ff_of bk_268_0 [(22, x0), (0, x1), (0, x2), (9, 0)] [] h).trans (by
  show (ck_ (0 ≤ x0) (ck_ (0 ≤ x0) (bd_ (CC 236 [(22, x0), (0, x1)] (wr_ h x0 2 0)) fun h1 v2 => if v2 ≠ 0 then JJ 268 2 [(22, x0), (0, x1), (0, x2), (9, 0)] [] h1 else JJ 268 1 [(22, x0), (0, x1), (0, x2), (9, 0)] [] h1))) = _
  simp only [cc_236, jt_268_1, jt_268_2, ck_or1, ck_or2, rf_wr, ln_wr, nn_wr, rf_cp, ln_cp, nn_cp, ln_wf, nn_wf, rd_wf, nn_nw]
  try rfl)
theorem cc_268 (h : am_H) (x0 x1 x2 : Int) : CC 268 [(22, x0), (0, x1), (0, x2)] h = Mo_crack h x0 x1 x2 := cc_of pk_268 _ h
set_option maxRecDepth 20000 in
theorem pk_269 : am_prog 269 = some cd_269 := rfl
theorem bk_269_0 : bk_ am_prog 269 0 = some ([true, true, false], (bl_269_0, 9999)) := bk_of pk_269 rfl
theorem bk_269_1 : bk_ am_prog 269 1 = some ([true, true, false], (bl_269_1, 9999)) := bk_of pk_269 rfl
theorem bk_269_2 : bk_ am_prog 269 2 = some ([false, false, false], (bl_269_2, 9999)) := bk_of pk_269 rfl
theorem bk_269_3 : bk_ am_prog 269 3 = some ([true, true, false], (bl_269_3, 4)) := bk_of pk_269 rfl
theorem bk_269_4 : bk_ am_prog 269 4 = some ([true, true, true], (bl_269_4, 9999)) := bk_of pk_269 rfl
theorem bk_269_5 : bk_ am_prog 269 5 = some ([true, true, true], (bl_269_5, 9999)) := bk_of pk_269 rfl
theorem bk_269_6 : bk_ am_prog 269 6 = some ([true, true, false], (bl_269_6, 9999)) := bk_of pk_269 rfl
theorem bk_269_7 : bk_ am_prog 269 7 = some ([true, false, false], (bl_269_7, 9999)) := bk_of pk_269 rfl
theorem bk_269_8 : bk_ am_prog 269 8 = some ([true, false, false], (bl_269_8, 9)) := bk_of pk_269 rfl
theorem bk_269_9 : bk_ am_prog 269 9 = some ([true, false, false], (bl_269_9, 9999)) := bk_of pk_269 rfl
theorem jt_269_4 (h : am_H) (x0 x1 x2 : Int) : JJ 269 4 [(22, x0), (0, x1), (0, x2)] [] h = Mo_go_4 h x0 x1 x2 := jj_of bk_269_4 _ _ h
theorem jt_269_2 (h : am_H) (d0 d1 d2 : am_V) : JJ 269 2 [d0, d1, d2] [] h = some (h, (-1)) := (jj_of bk_269_2 _ _ h).trans (ff_of bk_269_2 [(9, 0), (9, 0), (9, 0)] [] h)
theorem jt_269_3 (h : am_H) (d2 : am_V) (x0 x1 : Int) : JJ 269 3 [(22, x0), (0, x1), d2] [] h = ck_ (0 ≤ x0) (bd_ (Mo_plainTried h x0) fun h1 _ => ck_ (0 ≤ x0) (Mo_go_4 (wr_ h1 x0 61 1) x0 x1 0)) := (jj_of bk_269_3 _ _ h).trans ((ff_of bk_269_3 [(22, x0), (0, x1), (9, 0)] [] h).trans (by
  show (ck_ (0 ≤ x0) (bd_ (CC 188 [(22, x0)] h) fun h1 _ => ck_ (0 ≤ x0) (JJ 269 4 [(22, x0), (0, x1), (0, 0)] [] (wr_ h1 x0 61 1)))) = _
  simp only [cc_188, jt_269_4, ck_or1, ck_or2, rf_wr, ln_wr, nn_wr, rf_cp, ln_cp, nn_cp, ln_wf, nn_wf, rd_wf, nn_nw]
  try rfl))
theorem jt_269_1 (h : am_H) (d2 : am_V) (x0 x1 : Int) : JJ 269 1 [(22, x0), (0, x1), d2] [] h = ck_ (0 ≤ x0) (ck_ (0 ≤ (rf_ h x0 59)) (ck_ (0 ≤ (0 : Int) ∧ (0 : Int) < ln_ h (rf_ h x0 59)) (if (w32 ((rd_ h (rf_ h x0 59) 0) + x1)) ≤ 9000 then ck_ (0 ≤ x0) (bd_ (Mo_plainTried h x0) fun h1 _ => ck_ (0 ≤ x0) (Mo_go_4 (wr_ h1 x0 61 1) x0 x1 0)) else some (h, (-1))))) := (jj_of bk_269_1 _ _ h).trans ((ff_of bk_269_1 [(22, x0), (0, x1), (9, 0)] [] h).trans (by
  show (ck_ (0 ≤ x0) (ck_ (0 ≤ (rf_ h x0 59)) (ck_ (0 ≤ (0 : Int) ∧ (0 : Int) < ln_ h (rf_ h x0 59)) (if (w32 ((rd_ h (rf_ h x0 59) 0) + x1)) ≤ 9000 then JJ 269 3 [(22, x0), (0, x1), (9, 0)] [] h else JJ 269 2 [(22, x0), (0, x1), (9, 0)] [] h)))) = _
  simp only [jt_269_2, jt_269_3, ck_or1, ck_or2, rf_wr, ln_wr, nn_wr, rf_cp, ln_cp, nn_cp, ln_wf, nn_wf, rd_wf, nn_nw]
  try rfl))
theorem Mo_go_e (h : am_H) (x0 x1 : Int) : Mo_go h x0 x1 = ck_ (0 ≤ x0) (bd_ (Mo_isIn (wr_ h x0 2 0) x1 0 200) fun h1 v2 => if v2 = 0 then some (h1, (-1)) else ck_ (0 ≤ x0) (ck_ (0 ≤ (rf_ h1 x0 59)) (ck_ (0 ≤ (0 : Int) ∧ (0 : Int) < ln_ h1 (rf_ h1 x0 59)) (if (w32 ((rd_ h1 (rf_ h1 x0 59) 0) + x1)) ≤ 9000 then ck_ (0 ≤ x0) (bd_ (Mo_plainTried h1 x0) fun h3 _ => ck_ (0 ≤ x0) (Mo_go_4 (wr_ h3 x0 61 1) x0 x1 0)) else some (h1, (-1)))))) := (ff_of bk_269_0 [(22, x0), (0, x1), (9, 0)] [] h).trans (by
  show (ck_ (0 ≤ x0) (bd_ (CC 196 [(0, x1), (0, 0), (0, 200)] (wr_ h x0 2 0)) fun h1 v2 => if v2 = 0 then JJ 269 2 [(22, x0), (0, x1), (9, 0)] [] h1 else JJ 269 1 [(22, x0), (0, x1), (9, 0)] [] h1)) = _
  simp only [cc_196, jt_269_1, jt_269_2, ck_or1, ck_or2, rf_wr, ln_wr, nn_wr, rf_cp, ln_cp, nn_cp, ln_wf, nn_wf, rd_wf, nn_nw]
  try rfl)
theorem jt_269_9 (h : am_H) (d1 d2 : am_V) (x0 s0 s1 : Int) : JJ 269 9 [(22, x0), d1, d2] [(0, s0), (22, s1)] h = ck_ (0 ≤ s1) (ck_ (0 ≤ x0) (ck_ (0 ≤ (rf_ h x0 59)) (ck_ (0 ≤ (0 : Int) ∧ (0 : Int) < ln_ h (rf_ h x0 59)) (some (wr_ h s1 85 s0, rd_ (wr_ h s1 85 s0) (rf_ h x0 59) 0))))) := (jj_of bk_269_9 _ _ h).trans (ff_of bk_269_9 [(22, x0), (9, 0), (9, 0)] [(0, s0), (22, s1)] h)
theorem jt_269_8 (h : am_H) (d1 d2 : am_V) (x0 s0 : Int) : JJ 269 8 [(22, x0), d1, d2] [(22, s0)] h = ck_ (0 ≤ x0) (ck_ (0 ≤ s0) (ck_ (0 ≤ x0) (ck_ (0 ≤ (rf_ h x0 59)) (ck_ (0 ≤ (0 : Int) ∧ (0 : Int) < ln_ h (rf_ h x0 59)) (some (wr_ h s0 85 (rd_ h x0 85), rd_ (wr_ h s0 85 (rd_ h x0 85)) (rf_ h x0 59) 0)))))) := (jj_of bk_269_8 _ _ h).trans ((ff_of bk_269_8 [(22, x0), (9, 0), (9, 0)] [(22, s0)] h).trans (by
  show (ck_ (0 ≤ x0) (JJ 269 9 [(22, x0), (9, 0), (9, 0)] [(0, rd_ h x0 85), (22, s0)] h)) = _
  simp only [jt_269_9, ck_or1, ck_or2, rf_wr, ln_wr, nn_wr, rf_cp, ln_cp, nn_cp, ln_wf, nn_wf, rd_wf, nn_nw]
  try rfl))
theorem jt_269_7 (h : am_H) (d1 d2 : am_V) (x0 s0 : Int) : JJ 269 7 [(22, x0), d1, d2] [(22, s0)] h = ck_ (0 ≤ s0) (ck_ (0 ≤ x0) (ck_ (0 ≤ (rf_ h x0 59)) (ck_ (0 ≤ (0 : Int) ∧ (0 : Int) < ln_ h (rf_ h x0 59)) (some (wr_ h s0 85 0, rd_ (wr_ h s0 85 0) (rf_ h x0 59) 0))))) := (jj_of bk_269_7 _ _ h).trans ((ff_of bk_269_7 [(22, x0), (9, 0), (9, 0)] [(22, s0)] h).trans (by
  show (JJ 269 9 [(22, x0), (9, 0), (9, 0)] [(0, 0), (22, s0)] h) = _
  simp only [jt_269_9, ck_or1, ck_or2, rf_wr, ln_wr, nn_wr, rf_cp, ln_cp, nn_cp, ln_wf, nn_wf, rd_wf, nn_nw]
  try rfl))
theorem jt_269_6 (h : am_H) (d2 : am_V) (x0 x1 : Int) : JJ 269 6 [(22, x0), (0, x1), d2] [] h = ck_ (0 ≤ x0) (if x1 ≤ 0 then ck_ (0 ≤ x0) (ck_ (0 ≤ x0) (ck_ (0 ≤ x0) (ck_ (0 ≤ (rf_ h x0 59)) (ck_ (0 ≤ (0 : Int) ∧ (0 : Int) < ln_ h (rf_ h x0 59)) (some (wr_ (wr_ h x0 61 0) x0 85 (rd_ (wr_ h x0 61 0) x0 85), rd_ (wr_ (wr_ h x0 61 0) x0 85 (rd_ (wr_ h x0 61 0) x0 85)) (rf_ h x0 59) 0)))))) else ck_ (0 ≤ x0) (ck_ (0 ≤ x0) (ck_ (0 ≤ (rf_ h x0 59)) (ck_ (0 ≤ (0 : Int) ∧ (0 : Int) < ln_ h (rf_ h x0 59)) (some (wr_ (wr_ h x0 61 0) x0 85 0, rd_ (wr_ (wr_ h x0 61 0) x0 85 0) (rf_ h x0 59) 0)))))) := (jj_of bk_269_6 _ _ h).trans ((ff_of bk_269_6 [(22, x0), (0, x1), (9, 0)] [] h).trans (by
  show (ck_ (0 ≤ x0) (if x1 ≤ 0 then JJ 269 8 [(22, x0), (0, x1), (9, 0)] [(22, x0)] (wr_ h x0 61 0) else JJ 269 7 [(22, x0), (0, x1), (9, 0)] [(22, x0)] (wr_ h x0 61 0))) = _
  simp only [jt_269_7, jt_269_8, ck_or1, ck_or2, rf_wr, ln_wr, nn_wr, rf_cp, ln_cp, nn_cp, ln_wf, nn_wf, rd_wf, nn_nw]
  try rfl))
theorem jt_269_5 (h : am_H) (x0 x1 x2 : Int) : JJ 269 5 [(22, x0), (0, x1), (0, x2)] [] h = ck_ (0 ≤ x0) (bd_ (Mo_minuteGoes h x0 0) fun h1 _ => Mo_go_4 h1 x0 x1 (w32 (x2 + 1))) := (jj_of bk_269_5 _ _ h).trans ((ff_of bk_269_5 [(22, x0), (0, x1), (0, x2)] [] h).trans (by
  show (ck_ (0 ≤ x0) (bd_ (CC 253 [(22, x0), (0, 0)] h) fun h1 _ => JJ 269 4 [(22, x0), (0, x1), (0, w32 (x2 + 1))] [] h1)) = _
  simp only [cc_253, jt_269_4, ck_or1, ck_or2, rf_wr, ln_wr, nn_wr, rf_cp, ln_cp, nn_cp, ln_wf, nn_wf, rd_wf, nn_nw]
  try rfl))
theorem Mo_go_4_e (h : am_H) (x0 x1 x2 : Int) : Mo_go_4 h x0 x1 x2 = if x1 ≤ x2 then ck_ (0 ≤ x0) (if x1 ≤ 0 then ck_ (0 ≤ x0) (ck_ (0 ≤ x0) (ck_ (0 ≤ x0) (ck_ (0 ≤ (rf_ h x0 59)) (ck_ (0 ≤ (0 : Int) ∧ (0 : Int) < ln_ h (rf_ h x0 59)) (some (wr_ (wr_ h x0 61 0) x0 85 (rd_ (wr_ h x0 61 0) x0 85), rd_ (wr_ (wr_ h x0 61 0) x0 85 (rd_ (wr_ h x0 61 0) x0 85)) (rf_ h x0 59) 0)))))) else ck_ (0 ≤ x0) (ck_ (0 ≤ x0) (ck_ (0 ≤ (rf_ h x0 59)) (ck_ (0 ≤ (0 : Int) ∧ (0 : Int) < ln_ h (rf_ h x0 59)) (some (wr_ (wr_ h x0 61 0) x0 85 0, rd_ (wr_ (wr_ h x0 61 0) x0 85 0) (rf_ h x0 59) 0)))))) else ck_ (0 ≤ x0) (bd_ (Mo_minuteGoes h x0 0) fun h1 _ => Mo_go_4 h1 x0 x1 (w32 (x2 + 1))) := (ff_of bk_269_4 [(22, x0), (0, x1), (0, x2)] [] h).trans (by
  show (if x1 ≤ x2 then JJ 269 6 [(22, x0), (0, x1), (0, x2)] [] h else JJ 269 5 [(22, x0), (0, x1), (0, x2)] [] h) = _
  simp only [jt_269_5, jt_269_6, ck_or1, ck_or2, rf_wr, ln_wr, nn_wr, rf_cp, ln_cp, nn_cp, ln_wf, nn_wf, rd_wf, nn_nw]
  try rfl)
theorem cc_269 (h : am_H) (x0 x1 : Int) : CC 269 [(22, x0), (0, x1)] h = Mo_go h x0 x1 := cc_of pk_269 _ h
set_option maxRecDepth 20000 in
theorem pk_270 : am_prog 270 = some cd_270 := rfl
theorem bk_270_0 : bk_ am_prog 270 0 = some ([true, true, true, true], (bl_270_0, 9999)) := bk_of pk_270 rfl
theorem bk_270_1 : bk_ am_prog 270 1 = some ([true, true, true, true], (bl_270_1, 9999)) := bk_of pk_270 rfl
theorem bk_270_2 : bk_ am_prog 270 2 = some ([true, true, true, true], (bl_270_2, 9999)) := bk_of pk_270 rfl
theorem bk_270_3 : bk_ am_prog 270 3 = some ([true, true, true, true], (bl_270_3, 9999)) := bk_of pk_270 rfl
theorem bk_270_4 : bk_ am_prog 270 4 = some ([true, true, true, true], (bl_270_4, 9999)) := bk_of pk_270 rfl
theorem bk_270_5 : bk_ am_prog 270 5 = some ([true, true, true, true], (bl_270_5, 9999)) := bk_of pk_270 rfl
theorem bk_270_6 : bk_ am_prog 270 6 = some ([false, false, false, false], (bl_270_6, 9999)) := bk_of pk_270 rfl
theorem bk_270_7 : bk_ am_prog 270 7 = some ([true, true, true, true], (bl_270_7, 9999)) := bk_of pk_270 rfl
theorem bk_270_8 : bk_ am_prog 270 8 = some ([true, false, false, false], (bl_270_8, 9999)) := bk_of pk_270 rfl
theorem bk_270_9 : bk_ am_prog 270 9 = some ([true, false, false, false], (bl_270_9, 9999)) := bk_of pk_270 rfl
theorem bk_270_10 : bk_ am_prog 270 10 = some ([true, false, false, true], (bl_270_10, 9999)) := bk_of pk_270 rfl
theorem bk_270_11 : bk_ am_prog 270 11 = some ([true, false, false, false], (bl_270_11, 9999)) := bk_of pk_270 rfl
theorem bk_270_12 : bk_ am_prog 270 12 = some ([true, false, false, false], (bl_270_12, 9999)) := bk_of pk_270 rfl
theorem bk_270_13 : bk_ am_prog 270 13 = some ([true, false, false, true], (bl_270_13, 9999)) := bk_of pk_270 rfl
theorem jt_270_7 (h : am_H) (x0 x1 x2 x3 : Int) : JJ 270 7 [(22, x0), (0, x1), (0, x2), (0, x3)] [] h = Mo_ahead_7 h x0 x1 x2 x3 := jj_of bk_270_7 _ _ h
theorem jt_270_6 (h : am_H) (d0 d1 d2 d3 : am_V) : JJ 270 6 [d0, d1, d2, d3] [] h = some (h, (-1)) := (jj_of bk_270_6 _ _ h).trans (ff_of bk_270_6 [(9, 0), (9, 0), (9, 0), (9, 0)] [] h)
theorem jt_270_5 (h : am_H) (x0 x1 x2 x3 : Int) : JJ 270 5 [(22, x0), (0, x1), (0, x2), (0, x3)] [] h = ck_ (0 ≤ x0) (bd_ (Mo_isPile h x0 x3) fun h1 v2 => if v2 ≠ 0 then Mo_ahead_7 h1 x0 x1 x2 x3 else some (h1, (-1))) := (jj_of bk_270_5 _ _ h).trans ((ff_of bk_270_5 [(22, x0), (0, x1), (0, x2), (0, x3)] [] h).trans (by
  show (ck_ (0 ≤ x0) (bd_ (CC 236 [(22, x0), (0, x3)] h) fun h1 v2 => if v2 ≠ 0 then JJ 270 7 [(22, x0), (0, x1), (0, x2), (0, x3)] [] h1 else JJ 270 6 [(22, x0), (0, x1), (0, x2), (0, x3)] [] h1)) = _
  simp only [cc_236, jt_270_6, jt_270_7, ck_or1, ck_or2, rf_wr, ln_wr, nn_wr, rf_cp, ln_cp, nn_cp, ln_wf, nn_wf, rd_wf, nn_nw]
  try rfl))
theorem jt_270_4 (h : am_H) (x0 x1 x2 x3 : Int) : JJ 270 4 [(22, x0), (0, x1), (0, x2), (0, x3)] [] h = if x2 ≠ 5 then Mo_ahead_7 h x0 x1 x2 x3 else ck_ (0 ≤ x0) (bd_ (Mo_isPile h x0 x3) fun h1 v2 => if v2 ≠ 0 then Mo_ahead_7 h1 x0 x1 x2 x3 else some (h1, (-1))) := (jj_of bk_270_4 _ _ h).trans ((ff_of bk_270_4 [(22, x0), (0, x1), (0, x2), (0, x3)] [] h).trans (by
  show (if x2 ≠ 5 then JJ 270 7 [(22, x0), (0, x1), (0, x2), (0, x3)] [] h else JJ 270 5 [(22, x0), (0, x1), (0, x2), (0, x3)] [] h) = _
  simp only [jt_270_5, jt_270_7, ck_or1, ck_or2, rf_wr, ln_wr, nn_wr, rf_cp, ln_cp, nn_cp, ln_wf, nn_wf, rd_wf, nn_nw]
  try rfl))
theorem jt_270_3 (h : am_H) (x0 x1 x2 x3 : Int) : JJ 270 3 [(22, x0), (0, x1), (0, x2), (0, x3)] [] h = ck_ (0 ≤ x0) (bd_ (Mo_isMaid h x0 x3) fun h1 v2 => if v2 = 0 then some (h1, (-1)) else if x2 ≠ 5 then Mo_ahead_7 h1 x0 x1 x2 x3 else ck_ (0 ≤ x0) (bd_ (Mo_isPile h1 x0 x3) fun h3 v4 => if v4 ≠ 0 then Mo_ahead_7 h3 x0 x1 x2 x3 else some (h3, (-1)))) := (jj_of bk_270_3 _ _ h).trans ((ff_of bk_270_3 [(22, x0), (0, x1), (0, x2), (0, x3)] [] h).trans (by
  show (ck_ (0 ≤ x0) (bd_ (CC 235 [(22, x0), (0, x3)] h) fun h1 v2 => if v2 = 0 then JJ 270 6 [(22, x0), (0, x1), (0, x2), (0, x3)] [] h1 else JJ 270 4 [(22, x0), (0, x1), (0, x2), (0, x3)] [] h1)) = _
  simp only [cc_235, jt_270_4, jt_270_6, ck_or1, ck_or2, rf_wr, ln_wr, nn_wr, rf_cp, ln_cp, nn_cp, ln_wf, nn_wf, rd_wf, nn_nw]
  try rfl))
theorem jt_270_2 (h : am_H) (x0 x1 x2 x3 : Int) : JJ 270 2 [(22, x0), (0, x1), (0, x2), (0, x3)] [] h = if x2 ≠ 2 then (if x2 ≠ 5 then Mo_ahead_7 h x0 x1 x2 x3 else ck_ (0 ≤ x0) (bd_ (Mo_isPile h x0 x3) fun h1 v2 => if v2 ≠ 0 then Mo_ahead_7 h1 x0 x1 x2 x3 else some (h1, (-1)))) else ck_ (0 ≤ x0) (bd_ (Mo_isMaid h x0 x3) fun h3 v4 => if v4 = 0 then some (h3, (-1)) else if x2 ≠ 5 then Mo_ahead_7 h3 x0 x1 x2 x3 else ck_ (0 ≤ x0) (bd_ (Mo_isPile h3 x0 x3) fun h5 v6 => if v6 ≠ 0 then Mo_ahead_7 h5 x0 x1 x2 x3 else some (h5, (-1)))) := (jj_of bk_270_2 _ _ h).trans ((ff_of bk_270_2 [(22, x0), (0, x1), (0, x2), (0, x3)] [] h).trans (by
  show (if x2 ≠ 2 then JJ 270 4 [(22, x0), (0, x1), (0, x2), (0, x3)] [] h else JJ 270 3 [(22, x0), (0, x1), (0, x2), (0, x3)] [] h) = _
  simp only [jt_270_3, jt_270_4, ck_or1, ck_or2, rf_wr, ln_wr, nn_wr, rf_cp, ln_cp, nn_cp, ln_wf, nn_wf, rd_wf, nn_nw]
  try rfl))
theorem jt_270_1 (h : am_H) (x0 x1 x2 x3 : Int) : JJ 270 1 [(22, x0), (0, x1), (0, x2), (0, x3)] [] h = bd_ (Mo_isIn h x2 0 5) fun h1 v2 => if v2 = 0 then some (h1, (-1)) else if x2 ≠ 2 then (if x2 ≠ 5 then Mo_ahead_7 h1 x0 x1 x2 x3 else ck_ (0 ≤ x0) (bd_ (Mo_isPile h1 x0 x3) fun h3 v4 => if v4 ≠ 0 then Mo_ahead_7 h3 x0 x1 x2 x3 else some (h3, (-1)))) else ck_ (0 ≤ x0) (bd_ (Mo_isMaid h1 x0 x3) fun h5 v6 => if v6 = 0 then some (h5, (-1)) else if x2 ≠ 5 then Mo_ahead_7 h5 x0 x1 x2 x3 else ck_ (0 ≤ x0) (bd_ (Mo_isPile h5 x0 x3) fun h7 v8 => if v8 ≠ 0 then Mo_ahead_7 h7 x0 x1 x2 x3 else some (h7, (-1)))) := (jj_of bk_270_1 _ _ h).trans ((ff_of bk_270_1 [(22, x0), (0, x1), (0, x2), (0, x3)] [] h).trans (by
  show (bd_ (CC 196 [(0, x2), (0, 0), (0, 5)] h) fun h1 v2 => if v2 = 0 then JJ 270 6 [(22, x0), (0, x1), (0, x2), (0, x3)] [] h1 else JJ 270 2 [(22, x0), (0, x1), (0, x2), (0, x3)] [] h1) = _
  simp only [cc_196, jt_270_2, jt_270_6, ck_or1, ck_or2, rf_wr, ln_wr, nn_wr, rf_cp, ln_cp, nn_cp, ln_wf, nn_wf, rd_wf, nn_nw]
  try rfl))
theorem Mo_ahead_e (h : am_H) (x0 x1 x2 x3 : Int) : Mo_ahead h x0 x1 x2 x3 = ck_ (0 ≤ x0) (bd_ (Mo_isIn (wr_ h x0 2 0) x1 0 200) fun h1 v2 => if v2 = 0 then some (h1, (-1)) else bd_ (Mo_isIn h1 x2 0 5) fun h3 v4 => if v4 = 0 then some (h3, (-1)) else if x2 ≠ 2 then (if x2 ≠ 5 then Mo_ahead_7 h3 x0 x1 x2 x3 else ck_ (0 ≤ x0) (bd_ (Mo_isPile h3 x0 x3) fun h5 v6 => if v6 ≠ 0 then Mo_ahead_7 h5 x0 x1 x2 x3 else some (h5, (-1)))) else ck_ (0 ≤ x0) (bd_ (Mo_isMaid h3 x0 x3) fun h7 v8 => if v8 = 0 then some (h7, (-1)) else if x2 ≠ 5 then Mo_ahead_7 h7 x0 x1 x2 x3 else ck_ (0 ≤ x0) (bd_ (Mo_isPile h7 x0 x3) fun h9 v10 => if v10 ≠ 0 then Mo_ahead_7 h9 x0 x1 x2 x3 else some (h9, (-1))))) := (ff_of bk_270_0 [(22, x0), (0, x1), (0, x2), (0, x3)] [] h).trans (by
  show (ck_ (0 ≤ x0) (bd_ (CC 196 [(0, x1), (0, 0), (0, 200)] (wr_ h x0 2 0)) fun h1 v2 => if v2 = 0 then JJ 270 6 [(22, x0), (0, x1), (0, x2), (0, x3)] [] h1 else JJ 270 1 [(22, x0), (0, x1), (0, x2), (0, x3)] [] h1)) = _
  simp only [cc_196, jt_270_1, jt_270_6, ck_or1, ck_or2, rf_wr, ln_wr, nn_wr, rf_cp, ln_cp, nn_cp, ln_wf, nn_wf, rd_wf, nn_nw]
  try rfl)
theorem jt_270_13 (h : am_H) (d1 d2 : am_V) (x0 x3 : Int) : JJ 270 13 [(22, x0), d1, d2, (0, x3)] [] h = ck_ (0 ≤ x0) (bd_ (Mo_gapsOf h x0 1 x3) fun h1 v2 => some (h1, v2)) := (jj_of bk_270_13 _ _ h).trans ((ff_of bk_270_13 [(22, x0), (9, 0), (9, 0), (0, x3)] [] h).trans (by
  show (ck_ (0 ≤ x0) (bd_ (CC 245 [(22, x0), (0, 1), (0, x3)] h) fun h1 v2 => some (h1, v2))) = _
  simp only [cc_245, ck_or1, ck_or2, rf_wr, ln_wr, nn_wr, rf_cp, ln_cp, nn_cp, ln_wf, nn_wf, rd_wf, nn_nw]
  try rfl))
theorem jt_270_8 (h : am_H) (d1 d2 d3 : am_V) (x0 : Int) : JJ 270 8 [(22, x0), d1, d2, d3] [] h = ck_ (0 ≤ x0) (bd_ (Mo_rightMany h x0 1) fun h1 v2 => some (h1, v2)) := (jj_of bk_270_8 _ _ h).trans ((ff_of bk_270_8 [(22, x0), (9, 0), (9, 0), (9, 0)] [] h).trans (by
  show (ck_ (0 ≤ x0) (bd_ (CC 255 [(22, x0), (0, 1)] h) fun h1 v2 => some (h1, v2))) = _
  simp only [cc_255, ck_or1, ck_or2, rf_wr, ln_wr, nn_wr, rf_cp, ln_cp, nn_cp, ln_wf, nn_wf, rd_wf, nn_nw]
  try rfl))
theorem jt_270_9 (h : am_H) (d1 d2 d3 : am_V) (x0 : Int) : JJ 270 9 [(22, x0), d1, d2, d3] [] h = ck_ (0 ≤ x0) (bd_ (Mo_properMany h x0 1) fun h1 v2 => some (h1, v2)) := (jj_of bk_270_9 _ _ h).trans ((ff_of bk_270_9 [(22, x0), (9, 0), (9, 0), (9, 0)] [] h).trans (by
  show (ck_ (0 ≤ x0) (bd_ (CC 256 [(22, x0), (0, 1)] h) fun h1 v2 => some (h1, v2))) = _
  simp only [cc_256, ck_or1, ck_or2, rf_wr, ln_wr, nn_wr, rf_cp, ln_cp, nn_cp, ln_wf, nn_wf, rd_wf, nn_nw]
  try rfl))
theorem jt_270_10 (h : am_H) (d1 d2 : am_V) (x0 x3 : Int) : JJ 270 10 [(22, x0), d1, d2, (0, x3)] [] h = ck_ (0 ≤ x0) (ck_ (0 ≤ (rf_ h x0 57)) (ck_ (0 ≤ (w32 (4 + x3)) ∧ (w32 (4 + x3)) < ln_ h (rf_ h x0 57)) (some (h, rd_ h (rf_ h x0 57) (w32 (4 + x3)))))) := (jj_of bk_270_10 _ _ h).trans (ff_of bk_270_10 [(22, x0), (9, 0), (9, 0), (0, x3)] [] h)
theorem jt_270_11 (h : am_H) (d1 d2 d3 : am_V) (x0 : Int) : JJ 270 11 [(22, x0), d1, d2, d3] [] h = ck_ (0 ≤ x0) (bd_ (Mo_chippedMany h x0 1) fun h1 v2 => some (h1, v2)) := (jj_of bk_270_11 _ _ h).trans ((ff_of bk_270_11 [(22, x0), (9, 0), (9, 0), (9, 0)] [] h).trans (by
  show (ck_ (0 ≤ x0) (bd_ (CC 257 [(22, x0), (0, 1)] h) fun h1 v2 => some (h1, v2))) = _
  simp only [cc_257, ck_or1, ck_or2, rf_wr, ln_wr, nn_wr, rf_cp, ln_cp, nn_cp, ln_wf, nn_wf, rd_wf, nn_nw]
  try rfl))
theorem jt_270_12 (h : am_H) (d1 d2 d3 : am_V) (x0 : Int) : JJ 270 12 [(22, x0), d1, d2, d3] [] h = ck_ (0 ≤ x0) (ck_ (0 ≤ (rf_ h x0 58)) (ck_ (0 ≤ (1 : Int) ∧ (1 : Int) < ln_ h (rf_ h x0 58)) (ck_ (0 ≤ x0) (ck_ (0 ≤ (rf_ h x0 58)) (ck_ (0 ≤ (0 : Int) ∧ (0 : Int) < ln_ h (rf_ h x0 58)) (some (h, w32 ((rd_ h (rf_ h x0 58) 1) - (rd_ h (rf_ h x0 58) 0))))))))) := (jj_of bk_270_12 _ _ h).trans (ff_of bk_270_12 [(22, x0), (9, 0), (9, 0), (9, 0)] [] h)
set_option maxRecDepth 20000 in
theorem Mo_ahead_7_e (h : am_H) (x0 x1 x2 x3 : Int) : Mo_ahead_7 h x0 x1 x2 x3 = ck_ (0 ≤ x0) (bd_ (Mo_layTried h x0) fun h1 _ => ck_ (0 ≤ x0) (bd_ (Mo_goMany h1 x0 x1) fun h3 _ => if x2 = 0 then ck_ (0 ≤ x0) (bd_ (Mo_rightMany h3 x0 1) fun h11 v12 => some (h11, v12)) else if x2 = 1 then ck_ (0 ≤ x0) (bd_ (Mo_properMany h3 x0 1) fun h9 v10 => some (h9, v10)) else if x2 = 2 then ck_ (0 ≤ x0) (ck_ (0 ≤ (rf_ h3 x0 57)) (ck_ (0 ≤ (w32 (4 + x3)) ∧ (w32 (4 + x3)) < ln_ h3 (rf_ h3 x0 57)) (some (h3, rd_ h3 (rf_ h3 x0 57) (w32 (4 + x3)))))) else if x2 = 3 then ck_ (0 ≤ x0) (bd_ (Mo_chippedMany h3 x0 1) fun h7 v8 => some (h7, v8)) else if x2 = 4 then ck_ (0 ≤ x0) (ck_ (0 ≤ (rf_ h3 x0 58)) (ck_ (0 ≤ (1 : Int) ∧ (1 : Int) < ln_ h3 (rf_ h3 x0 58)) (ck_ (0 ≤ x0) (ck_ (0 ≤ (rf_ h3 x0 58)) (ck_ (0 ≤ (0 : Int) ∧ (0 : Int) < ln_ h3 (rf_ h3 x0 58)) (some (h3, w32 ((rd_ h3 (rf_ h3 x0 58) 1) - (rd_ h3 (rf_ h3 x0 58) 0))))))))) else ck_ (0 ≤ x0) (bd_ (Mo_gapsOf h3 x0 1 x3) fun h5 v6 => some (h5, v6)))) := (ff_of bk_270_7 [(22, x0), (0, x1), (0, x2), (0, x3)] [] h).trans (by
  show (ck_ (0 ≤ x0) (bd_ (CC 234 [(22, x0)] h) fun h1 _ => ck_ (0 ≤ x0) (bd_ (CC 254 [(22, x0), (0, x1)] h1) fun h3 _ => if x2 = 0 then JJ 270 8 [(22, x0), (0, x1), (0, x2), (0, x3)] [] h3 else if x2 = 1 then JJ 270 9 [(22, x0), (0, x1), (0, x2), (0, x3)] [] h3 else if x2 = 2 then JJ 270 10 [(22, x0), (0, x1), (0, x2), (0, x3)] [] h3 else if x2 = 3 then JJ 270 11 [(22, x0), (0, x1), (0, x2), (0, x3)] [] h3 else if x2 = 4 then JJ 270 12 [(22, x0), (0, x1), (0, x2), (0, x3)] [] h3 else JJ 270 13 [(22, x0), (0, x1), (0, x2), (0, x3)] [] h3))) = _
  simp only [cc_254, cc_234, jt_270_10, jt_270_11, jt_270_12, jt_270_13, jt_270_8, jt_270_9, ck_or1, ck_or2, rf_wr, ln_wr, nn_wr, rf_cp, ln_cp, nn_cp, ln_wf, nn_wf, rd_wf, nn_nw]
  try rfl)
theorem cc_270 (h : am_H) (x0 x1 x2 x3 : Int) : CC 270 [(22, x0), (0, x1), (0, x2), (0, x3)] h = Mo_ahead h x0 x1 x2 x3 := cc_of pk_270 _ h
set_option maxRecDepth 20000 in
theorem pk_271 : am_prog 271 = some cd_271 := rfl
theorem bk_271_0 : bk_ am_prog 271 0 = some ([true, true, false], (bl_271_0, 9999)) := bk_of pk_271 rfl
theorem bk_271_1 : bk_ am_prog 271 1 = some ([false, false, false], (bl_271_1, 9999)) := bk_of pk_271 rfl
theorem bk_271_2 : bk_ am_prog 271 2 = some ([true, true, false], (bl_271_2, 3)) := bk_of pk_271 rfl
theorem bk_271_3 : bk_ am_prog 271 3 = some ([true, true, true], (bl_271_3, 9999)) := bk_of pk_271 rfl
theorem bk_271_4 : bk_ am_prog 271 4 = some ([true, true, true], (bl_271_4, 9999)) := bk_of pk_271 rfl
theorem bk_271_5 : bk_ am_prog 271 5 = some ([false, false, true], (bl_271_5, 9999)) := bk_of pk_271 rfl
theorem bk_271_6 : bk_ am_prog 271 6 = some ([true, true, true], (bl_271_6, 9999)) := bk_of pk_271 rfl
theorem bk_271_7 : bk_ am_prog 271 7 = some ([false, false, false], (bl_271_7, 9999)) := bk_of pk_271 rfl
theorem jt_271_3 (h : am_H) (x0 x1 x2 : Int) : JJ 271 3 [(22, x0), (0, x1), (0, x2)] [] h = Mo_rightWhen_3 h x0 x1 x2 := jj_of bk_271_3 _ _ h
theorem jt_271_2 (h : am_H) (d2 : am_V) (x0 x1 : Int) : JJ 271 2 [(22, x0), (0, x1), d2] [] h = ck_ (0 ≤ x0) (bd_ (Mo_layTried h x0) fun h1 _ => Mo_rightWhen_3 h1 x0 x1 0) := (jj_of bk_271_2 _ _ h).trans ((ff_of bk_271_2 [(22, x0), (0, x1), (9, 0)] [] h).trans (by
  show (ck_ (0 ≤ x0) (bd_ (CC 234 [(22, x0)] h) fun h1 _ => JJ 271 3 [(22, x0), (0, x1), (0, 0)] [] h1)) = _
  simp only [cc_234, jt_271_3, ck_or1, ck_or2, rf_wr, ln_wr, nn_wr, rf_cp, ln_cp, nn_cp, ln_wf, nn_wf, rd_wf, nn_nw]
  try rfl))
theorem jt_271_1 (h : am_H) (d0 d1 d2 : am_V) : JJ 271 1 [d0, d1, d2] [] h = some (h, (-1)) := (jj_of bk_271_1 _ _ h).trans (ff_of bk_271_1 [(9, 0), (9, 0), (9, 0)] [] h)
theorem Mo_rightWhen_e (h : am_H) (x0 x1 : Int) : Mo_rightWhen h x0 x1 = ck_ (0 ≤ x0) (ck_ (0 ≤ x0) (bd_ (Mo_isPile (wr_ h x0 2 0) x0 x1) fun h1 v2 => if v2 ≠ 0 then ck_ (0 ≤ x0) (bd_ (Mo_layTried h1 x0) fun h3 _ => Mo_rightWhen_3 h3 x0 x1 0) else some (h1, (-1)))) := (ff_of bk_271_0 [(22, x0), (0, x1), (9, 0)] [] h).trans (by
  show (ck_ (0 ≤ x0) (ck_ (0 ≤ x0) (bd_ (CC 236 [(22, x0), (0, x1)] (wr_ h x0 2 0)) fun h1 v2 => if v2 ≠ 0 then JJ 271 2 [(22, x0), (0, x1), (9, 0)] [] h1 else JJ 271 1 [(22, x0), (0, x1), (9, 0)] [] h1))) = _
  simp only [cc_236, jt_271_1, jt_271_2, ck_or1, ck_or2, rf_wr, ln_wr, nn_wr, rf_cp, ln_cp, nn_cp, ln_wf, nn_wf, rd_wf, nn_nw]
  try rfl)
theorem jt_271_7 (h : am_H) (d0 d1 d2 : am_V) : JJ 271 7 [d0, d1, d2] [] h = some (h, (-2)) := (jj_of bk_271_7 _ _ h).trans (ff_of bk_271_7 [(9, 0), (9, 0), (9, 0)] [] h)
theorem jt_271_6 (h : am_H) (x0 x1 x2 : Int) : JJ 271 6 [(22, x0), (0, x1), (0, x2)] [] h = ck_ (0 ≤ x0) (bd_ (Mo_minuteGoes h x0 1) fun h1 _ => Mo_rightWhen_3 h1 x0 x1 (w32 (x2 + 1))) := (jj_of bk_271_6 _ _ h).trans ((ff_of bk_271_6 [(22, x0), (0, x1), (0, x2)] [] h).trans (by
  show (ck_ (0 ≤ x0) (bd_ (CC 253 [(22, x0), (0, 1)] h) fun h1 _ => JJ 271 3 [(22, x0), (0, x1), (0, w32 (x2 + 1))] [] h1)) = _
  simp only [cc_253, jt_271_3, ck_or1, ck_or2, rf_wr, ln_wr, nn_wr, rf_cp, ln_cp, nn_cp, ln_wf, nn_wf, rd_wf, nn_nw]
  try rfl))
theorem jt_271_5 (h : am_H) (d0 d1 : am_V) (x2 : Int) : JJ 271 5 [d0, d1, (0, x2)] [] h = some (h, x2) := (jj_of bk_271_5 _ _ h).trans (ff_of bk_271_5 [(9, 0), (9, 0), (0, x2)] [] h)
theorem jt_271_4 (h : am_H) (x0 x1 x2 : Int) : JJ 271 4 [(22, x0), (0, x1), (0, x2)] [] h = ck_ (0 ≤ x0) (bd_ (Mo_isRight h x0 1 x1) fun h1 v2 => if v2 = 0 then ck_ (0 ≤ x0) (bd_ (Mo_minuteGoes h1 x0 1) fun h3 _ => Mo_rightWhen_3 h3 x0 x1 (w32 (x2 + 1))) else some (h1, x2)) := (jj_of bk_271_4 _ _ h).trans ((ff_of bk_271_4 [(22, x0), (0, x1), (0, x2)] [] h).trans (by
  show (ck_ (0 ≤ x0) (bd_ (CC 242 [(22, x0), (0, 1), (0, x1)] h) fun h1 v2 => if v2 = 0 then JJ 271 6 [(22, x0), (0, x1), (0, x2)] [] h1 else JJ 271 5 [(22, x0), (0, x1), (0, x2)] [] h1)) = _
  simp only [cc_242, jt_271_5, jt_271_6, ck_or1, ck_or2, rf_wr, ln_wr, nn_wr, rf_cp, ln_cp, nn_cp, ln_wf, nn_wf, rd_wf, nn_nw]
  try rfl))
theorem Mo_rightWhen_3_e (h : am_H) (x0 x1 x2 : Int) : Mo_rightWhen_3 h x0 x1 x2 = if 200 ≤ x2 then some (h, (-2)) else ck_ (0 ≤ x0) (bd_ (Mo_isRight h x0 1 x1) fun h1 v2 => if v2 = 0 then ck_ (0 ≤ x0) (bd_ (Mo_minuteGoes h1 x0 1) fun h3 _ => Mo_rightWhen_3 h3 x0 x1 (w32 (x2 + 1))) else some (h1, x2)) := (ff_of bk_271_3 [(22, x0), (0, x1), (0, x2)] [] h).trans (by
  show (if 200 ≤ x2 then JJ 271 7 [(22, x0), (0, x1), (0, x2)] [] h else JJ 271 4 [(22, x0), (0, x1), (0, x2)] [] h) = _
  simp only [jt_271_4, jt_271_7, ck_or1, ck_or2, rf_wr, ln_wr, nn_wr, rf_cp, ln_cp, nn_cp, ln_wf, nn_wf, rd_wf, nn_nw]
  try rfl)
theorem cc_271 (h : am_H) (x0 x1 : Int) : CC 271 [(22, x0), (0, x1)] h = Mo_rightWhen h x0 x1 := cc_of pk_271 _ h
set_option maxRecDepth 20000 in
theorem pk_272 : am_prog 272 = some cd_272 := rfl
theorem bk_272_0 : bk_ am_prog 272 0 = some ([true, true, false, false, false, false], (bl_272_0, 1)) := bk_of pk_272 rfl
theorem bk_272_1 : bk_ am_prog 272 1 = some ([true, true, true, true, false, false], (bl_272_1, 9999)) := bk_of pk_272 rfl
theorem bk_272_2 : bk_ am_prog 272 2 = some ([true, true, true, true, false, false], (bl_272_2, 3)) := bk_of pk_272 rfl
theorem bk_272_3 : bk_ am_prog 272 3 = some ([true, true, true, true, true, true], (bl_272_3, 9999)) := bk_of pk_272 rfl
theorem bk_272_4 : bk_ am_prog 272 4 = some ([true, true, true, true, true, true], (bl_272_4, 9999)) := bk_of pk_272 rfl
theorem bk_272_5 : bk_ am_prog 272 5 = some ([true, true, true, true, false, true], (bl_272_5, 9999)) := bk_of pk_272 rfl
theorem bk_272_6 : bk_ am_prog 272 6 = some ([true, true, true, true, false, true], (bl_272_6, 7)) := bk_of pk_272 rfl
theorem bk_272_7 : bk_ am_prog 272 7 = some ([true, true, true, true, false, true], (bl_272_7, 9999)) := bk_of pk_272 rfl
theorem bk_272_8 : bk_ am_prog 272 8 = some ([true, true, true, true, true, false], (bl_272_8, 9999)) := bk_of pk_272 rfl
theorem bk_272_9 : bk_ am_prog 272 9 = some ([true, true, true, false, false, false], (bl_272_9, 9999)) := bk_of pk_272 rfl
theorem jt_272_1 (h : am_H) (d4 d5 : am_V) (x0 x1 x2 x3 : Int) : JJ 272 1 [(22, x0), (0, x1), (0, x2), (0, x3), d4, d5] [] h = Mo_codeOf_1 h x0 x1 x2 x3 := jj_of bk_272_1 _ _ h
theorem jt_272_3 (h : am_H) (x0 x1 x2 x3 x4 x5 : Int) : JJ 272 3 [(22, x0), (0, x1), (0, x2), (0, x3), (0, x4), (0, x5)] [] h = Mo_codeOf_3 h x0 x1 x2 x3 x4 x5 := jj_of bk_272_3 _ _ h
theorem Mo_codeOf_e (h : am_H) (x0 x1 : Int) : Mo_codeOf h x0 x1 = Mo_codeOf_1 h x0 x1 0 0 := (ff_of bk_272_0 [(22, x0), (0, x1), (9, 0), (9, 0), (9, 0), (9, 0)] [] h).trans (by
  show (JJ 272 1 [(22, x0), (0, x1), (0, 0), (0, 0), (9, 0), (9, 0)] [] h) = _
  simp only [jt_272_1, ck_or1, ck_or2, rf_wr, ln_wr, nn_wr, rf_cp, ln_cp, nn_cp, ln_wf, nn_wf, rd_wf, nn_nw]
  try rfl)
set_option maxRecDepth 20000 in
theorem jt_272_9 (h : am_H) (d3 d4 d5 : am_V) (x0 x1 x2 : Int) : JJ 272 9 [(22, x0), (0, x1), (0, x2), d3, d4, d5] [] h = ck_ (0 ≤ x0) (some (h, w32 ((w32 (x2 * (w32 (1 * 2 ^ (x1 % 32 : Int).toNat)))) + (rd_ h x0 70)))) := (jj_of bk_272_9 _ _ h).trans (ff_of bk_272_9 [(22, x0), (0, x1), (0, x2), (9, 0), (9, 0), (9, 0)] [] h)
theorem jt_272_2 (h : am_H) (d4 d5 : am_V) (x0 x1 x2 x3 : Int) : JJ 272 2 [(22, x0), (0, x1), (0, x2), (0, x3), d4, d5] [] h = Mo_codeOf_3 h x0 x1 x2 x3 0 (w32 (x3 + 1)) := (jj_of bk_272_2 _ _ h).trans ((ff_of bk_272_2 [(22, x0), (0, x1), (0, x2), (0, x3), (9, 0), (9, 0)] [] h).trans (by
  show (JJ 272 3 [(22, x0), (0, x1), (0, x2), (0, x3), (0, 0), (0, w32 (x3 + 1))] [] h) = _
  simp only [jt_272_3, ck_or1, ck_or2, rf_wr, ln_wr, nn_wr, rf_cp, ln_cp, nn_cp, ln_wf, nn_wf, rd_wf, nn_nw]
  try rfl))
set_option maxRecDepth 20000 in
theorem Mo_codeOf_1_e (h : am_H) (x0 x1 x2 x3 : Int) : Mo_codeOf_1 h x0 x1 x2 x3 = if x1 ≤ x3 then ck_ (0 ≤ x0) (some (h, w32 ((w32 (x2 * (w32 (1 * 2 ^ (x1 % 32 : Int).toNat)))) + (rd_ h x0 70)))) else Mo_codeOf_3 h x0 x1 x2 x3 0 (w32 (x3 + 1)) := (ff_of bk_272_1 [(22, x0), (0, x1), (0, x2), (0, x3), (9, 0), (9, 0)] [] h).trans (by
  show (if x1 ≤ x3 then JJ 272 9 [(22, x0), (0, x1), (0, x2), (0, x3), (9, 0), (9, 0)] [] h else JJ 272 2 [(22, x0), (0, x1), (0, x2), (0, x3), (9, 0), (9, 0)] [] h) = _
  simp only [jt_272_2, jt_272_9, ck_or1, ck_or2, rf_wr, ln_wr, nn_wr, rf_cp, ln_cp, nn_cp, ln_wf, nn_wf, rd_wf, nn_nw]
  try rfl)
theorem jt_272_8 (h : am_H) (d5 : am_V) (x0 x1 x2 x3 x4 : Int) : JJ 272 8 [(22, x0), (0, x1), (0, x2), (0, x3), (0, x4), d5] [] h = Mo_codeOf_1 h x0 x1 (w32 ((w32 (x2 * (w32 (x1 - x3)))) + x4)) (w32 (x3 + 1)) := (jj_of bk_272_8 _ _ h).trans ((ff_of bk_272_8 [(22, x0), (0, x1), (0, x2), (0, x3), (0, x4), (9, 0)] [] h).trans (by
  show (JJ 272 1 [(22, x0), (0, x1), (0, w32 ((w32 (x2 * (w32 (x1 - x3)))) + x4)), (0, w32 (x3 + 1)), (0, x4), (9, 0)] [] h) = _
  simp only [jt_272_1, ck_or1, ck_or2, rf_wr, ln_wr, nn_wr, rf_cp, ln_cp, nn_cp, ln_wf, nn_wf, rd_wf, nn_nw]
  try rfl))
theorem jt_272_7 (h : am_H) (d4 : am_V) (x0 x1 x2 x3 x5 s0 s1 : Int) : JJ 272 7 [(22, x0), (0, x1), (0, x2), (0, x3), d4, (0, x5)] [(0, s0), (0, s1)] h = Mo_codeOf_3 h x0 x1 x2 x3 (w32 (s1 + s0)) (w32 (x5 + 1)) := (jj_of bk_272_7 _ _ h).trans ((ff_of bk_272_7 [(22, x0), (0, x1), (0, x2), (0, x3), (9, 0), (0, x5)] [(0, s0), (0, s1)] h).trans (by
  show (JJ 272 3 [(22, x0), (0, x1), (0, x2), (0, x3), (0, w32 (s1 + s0)), (0, w32 (x5 + 1))] [] h) = _
  simp only [jt_272_3, ck_or1, ck_or2, rf_wr, ln_wr, nn_wr, rf_cp, ln_cp, nn_cp, ln_wf, nn_wf, rd_wf, nn_nw]
  try rfl))
theorem jt_272_6 (h : am_H) (d4 : am_V) (x0 x1 x2 x3 x5 s0 : Int) : JJ 272 6 [(22, x0), (0, x1), (0, x2), (0, x3), d4, (0, x5)] [(0, s0)] h = Mo_codeOf_3 h x0 x1 x2 x3 (w32 (s0 + 0)) (w32 (x5 + 1)) := (jj_of bk_272_6 _ _ h).trans ((ff_of bk_272_6 [(22, x0), (0, x1), (0, x2), (0, x3), (9, 0), (0, x5)] [(0, s0)] h).trans (by
  show (JJ 272 7 [(22, x0), (0, x1), (0, x2), (0, x3), (9, 0), (0, x5)] [(0, 0), (0, s0)] h) = _
  simp only [jt_272_7, ck_or1, ck_or2, rf_wr, ln_wr, nn_wr, rf_cp, ln_cp, nn_cp, ln_wf, nn_wf, rd_wf, nn_nw]
  try rfl))
theorem jt_272_5 (h : am_H) (d4 : am_V) (x0 x1 x2 x3 x5 s0 : Int) : JJ 272 5 [(22, x0), (0, x1), (0, x2), (0, x3), d4, (0, x5)] [(0, s0)] h = Mo_codeOf_3 h x0 x1 x2 x3 (w32 (s0 + 1)) (w32 (x5 + 1)) := (jj_of bk_272_5 _ _ h).trans ((ff_of bk_272_5 [(22, x0), (0, x1), (0, x2), (0, x3), (9, 0), (0, x5)] [(0, s0)] h).trans (by
  show (JJ 272 7 [(22, x0), (0, x1), (0, x2), (0, x3), (9, 0), (0, x5)] [(0, 1), (0, s0)] h) = _
  simp only [jt_272_7, ck_or1, ck_or2, rf_wr, ln_wr, nn_wr, rf_cp, ln_cp, nn_cp, ln_wf, nn_wf, rd_wf, nn_nw]
  try rfl))
theorem jt_272_4 (h : am_H) (x0 x1 x2 x3 x4 x5 : Int) : JJ 272 4 [(22, x0), (0, x1), (0, x2), (0, x3), (0, x4), (0, x5)] [] h = ck_ (0 ≤ x0) (ck_ (0 ≤ (rf_ h x0 69)) (ck_ (0 ≤ x5 ∧ x5 < ln_ h (rf_ h x0 69)) (ck_ (0 ≤ x0) (ck_ (0 ≤ (rf_ h x0 69)) (ck_ (0 ≤ x3 ∧ x3 < ln_ h (rf_ h x0 69)) (if (rd_ h (rf_ h x0 69) x3) ≤ (rd_ h (rf_ h x0 69) x5) then Mo_codeOf_3 h x0 x1 x2 x3 (w32 (x4 + 0)) (w32 (x5 + 1)) else Mo_codeOf_3 h x0 x1 x2 x3 (w32 (x4 + 1)) (w32 (x5 + 1)))))))) := (jj_of bk_272_4 _ _ h).trans ((ff_of bk_272_4 [(22, x0), (0, x1), (0, x2), (0, x3), (0, x4), (0, x5)] [] h).trans (by
  show (ck_ (0 ≤ x0) (ck_ (0 ≤ (rf_ h x0 69)) (ck_ (0 ≤ x5 ∧ x5 < ln_ h (rf_ h x0 69)) (ck_ (0 ≤ x0) (ck_ (0 ≤ (rf_ h x0 69)) (ck_ (0 ≤ x3 ∧ x3 < ln_ h (rf_ h x0 69)) (if (rd_ h (rf_ h x0 69) x3) ≤ (rd_ h (rf_ h x0 69) x5) then JJ 272 6 [(22, x0), (0, x1), (0, x2), (0, x3), (0, x4), (0, x5)] [(0, x4)] h else JJ 272 5 [(22, x0), (0, x1), (0, x2), (0, x3), (0, x4), (0, x5)] [(0, x4)] h))))))) = _
  simp only [jt_272_5, jt_272_6, ck_or1, ck_or2, rf_wr, ln_wr, nn_wr, rf_cp, ln_cp, nn_cp, ln_wf, nn_wf, rd_wf, nn_nw]
  try rfl))
theorem Mo_codeOf_3_e (h : am_H) (x0 x1 x2 x3 x4 x5 : Int) : Mo_codeOf_3 h x0 x1 x2 x3 x4 x5 = if x1 ≤ x5 then Mo_codeOf_1 h x0 x1 (w32 ((w32 (x2 * (w32 (x1 - x3)))) + x4)) (w32 (x3 + 1)) else ck_ (0 ≤ x0) (ck_ (0 ≤ (rf_ h x0 69)) (ck_ (0 ≤ x5 ∧ x5 < ln_ h (rf_ h x0 69)) (ck_ (0 ≤ x0) (ck_ (0 ≤ (rf_ h x0 69)) (ck_ (0 ≤ x3 ∧ x3 < ln_ h (rf_ h x0 69)) (if (rd_ h (rf_ h x0 69) x3) ≤ (rd_ h (rf_ h x0 69) x5) then Mo_codeOf_3 h x0 x1 x2 x3 (w32 (x4 + 0)) (w32 (x5 + 1)) else Mo_codeOf_3 h x0 x1 x2 x3 (w32 (x4 + 1)) (w32 (x5 + 1)))))))) := (ff_of bk_272_3 [(22, x0), (0, x1), (0, x2), (0, x3), (0, x4), (0, x5)] [] h).trans (by
  show (if x1 ≤ x5 then JJ 272 8 [(22, x0), (0, x1), (0, x2), (0, x3), (0, x4), (0, x5)] [] h else JJ 272 4 [(22, x0), (0, x1), (0, x2), (0, x3), (0, x4), (0, x5)] [] h) = _
  simp only [jt_272_4, jt_272_8, ck_or1, ck_or2, rf_wr, ln_wr, nn_wr, rf_cp, ln_cp, nn_cp, ln_wf, nn_wf, rd_wf, nn_nw]
  try rfl)
theorem cc_272 (h : am_H) (x0 x1 : Int) : CC 272 [(22, x0), (0, x1)] h = Mo_codeOf h x0 x1 := cc_of pk_272 _ h
set_option maxRecDepth 20000 in
theorem pk_273 : am_prog 273 = some cd_273 := rfl
theorem bk_273_0 : bk_ am_prog 273 0 = some ([true, true, true, false, false, false], (bl_273_0, 1)) := bk_of pk_273 rfl
theorem bk_273_1 : bk_ am_prog 273 1 = some ([true, true, false, true, true, false], (bl_273_1, 9999)) := bk_of pk_273 rfl
theorem bk_273_2 : bk_ am_prog 273 2 = some ([true, true, false, true, true, false], (bl_273_2, 9999)) := bk_of pk_273 rfl
theorem bk_273_3 : bk_ am_prog 273 3 = some ([true, true, false, false, false, false], (bl_273_3, 4)) := bk_of pk_273 rfl
theorem bk_273_4 : bk_ am_prog 273 4 = some ([true, true, false, false, true, false], (bl_273_4, 9999)) := bk_of pk_273 rfl
theorem bk_273_5 : bk_ am_prog 273 5 = some ([true, true, false, false, true, false], (bl_273_5, 6)) := bk_of pk_273 rfl
theorem bk_273_6 : bk_ am_prog 273 6 = some ([true, true, false, false, true, true], (bl_273_6, 9999)) := bk_of pk_273 rfl
theorem bk_273_7 : bk_ am_prog 273 7 = some ([true, true, false, false, true, true], (bl_273_7, 9999)) := bk_of pk_273 rfl
theorem bk_273_8 : bk_ am_prog 273 8 = some ([true, true, false, false, true, true], (bl_273_8, 9999)) := bk_of pk_273 rfl
theorem bk_273_9 : bk_ am_prog 273 9 = some ([true, true, false, false, true, true], (bl_273_9, 10)) := bk_of pk_273 rfl
theorem bk_273_10 : bk_ am_prog 273 10 = some ([true, true, false, false, true, true], (bl_273_10, 9999)) := bk_of pk_273 rfl
theorem bk_273_11 : bk_ am_prog 273 11 = some ([true, true, false, false, true, false], (bl_273_11, 9999)) := bk_of pk_273 rfl
theorem bk_273_12 : bk_ am_prog 273 12 = some ([false, false, false, false, false, false], (bl_273_12, 9999)) := bk_of pk_273 rfl
theorem jt_273_1 (h : am_H) (d2 d5 : am_V) (x0 x1 x3 x4 : Int) : JJ 273 1 [(22, x0), (0, x1), d2, (0, x3), (0, x4), d5] [] h = Mo_layCode_1 h x0 x1 x3 x4 := jj_of bk_273_1 _ _ h
theorem jt_273_4 (h : am_H) (d2 d3 d5 : am_V) (x0 x1 x4 : Int) : JJ 273 4 [(22, x0), (0, x1), d2, d3, (0, x4), d5] [] h = Mo_layCode_4 h x0 x1 x4 := jj_of bk_273_4 _ _ h
theorem jt_273_6 (h : am_H) (d2 d3 : am_V) (x0 x1 x4 x5 : Int) : JJ 273 6 [(22, x0), (0, x1), d2, d3, (0, x4), (0, x5)] [] h = Mo_layCode_6 h x0 x1 x4 x5 := jj_of bk_273_6 _ _ h
theorem ax_273_0 (g1 g2 g3 g4 : Int → Int → Int) (h : am_H) (x0 x1 x2 : Int) : ex_ CC (JJ 273) 1 [(0, .aload_n 0, 1, i_load 0 22), (1, .iload_n 2, 1, i_load 2 0), (2, .iconst 1, 1, i_push 0 1), (3, .iload_n 1, 1, i_load 1 0), (4, .ishl, 1, i_op2 0 g1), (5, .irem, 1, i_dv2 0 g2), (6, .putfield 507, 3, i_putf 22 70 0), (9, .iload_n 2, 1, i_load 2 0), (10, .iconst 1, 1, i_push 0 1), (11, .iload_n 1, 1, i_load 1 0), (12, .ishl, 1, i_op2 0 g1), (13, .idiv, 1, i_dv2 0 g3), (14, .istore_n 3, 1, i_store 3 0), (15, .iload_n 1, 1, i_load 1 0), (16, .iconst 1, 1, i_push 0 1), (17, .isub, 1, i_op2 0 g4), (18, .istore 4, 2, i_store 4 0)] [(22, x0), (0, x1), (0, x2), (9, 0), (9, 0), (9, 0)] [] h = ck_ (g1 1 x1 ≠ 0) (ck_ (0 ≤ x0) (ck_ (g1 1 x1 ≠ 0) (JJ 273 1 [(22, x0), (0, x1), (0, x2), (0, g3 x2 (g1 1 x1)), (0, g4 x1 1), (9, 0)] [] (wr_ h x0 70 (g2 x2 (g1 1 x1)))))) := rfl
set_option maxRecDepth 20000 in
theorem Mo_layCode_e (h : am_H) (x0 x1 x2 : Int) : Mo_layCode h x0 x1 x2 = ck_ ((w32 (1 * 2 ^ (x1 % 32 : Int).toNat)) ≠ 0) (ck_ (0 ≤ x0) (ck_ ((w32 (1 * 2 ^ (x1 % 32 : Int).toNat)) ≠ 0) (Mo_layCode_1 (wr_ h x0 70 (Int.tmod x2 (w32 (1 * 2 ^ (x1 % 32 : Int).toNat)))) x0 x1 (w32 (Int.tdiv x2 (w32 (1 * 2 ^ (x1 % 32 : Int).toNat)))) (w32 (x1 - 1))))) := (ff_of bk_273_0 [(22, x0), (0, x1), (0, x2), (9, 0), (9, 0), (9, 0)] [] h).trans (by
  refine (ax_273_0 (fun a b => w32 (a * 2 ^ (b % 32).toNat)) (fun a b => Int.tmod a b) (fun a b => w32 (Int.tdiv a b)) (fun a b => w32 (a - b)) h x0 x1 x2).trans ?_
  simp only [jt_273_1])
theorem jt_273_3 (h : am_H) (d2 d3 d4 d5 : am_V) (x0 x1 : Int) : JJ 273 3 [(22, x0), (0, x1), d2, d3, d4, d5] [] h = Mo_layCode_4 h x0 x1 (w32 (x1 - 1)) := (jj_of bk_273_3 _ _ h).trans ((ff_of bk_273_3 [(22, x0), (0, x1), (9, 0), (9, 0), (9, 0), (9, 0)] [] h).trans (by
  show (JJ 273 4 [(22, x0), (0, x1), (9, 0), (9, 0), (0, w32 (x1 - 1)), (9, 0)] [] h) = _
  simp only [jt_273_4, ck_or1, ck_or2, rf_wr, ln_wr, nn_wr, rf_cp, ln_cp, nn_cp, ln_wf, nn_wf, rd_wf, nn_nw]
  try rfl))
theorem jt_273_2 (h : am_H) (d2 d5 : am_V) (x0 x1 x3 x4 : Int) : JJ 273 2 [(22, x0), (0, x1), d2, (0, x3), (0, x4), d5] [] h = ck_ (0 ≤ x0) (ck_ ((w32 (x1 - x4)) ≠ 0) (ck_ (0 ≤ (rf_ h x0 69)) (ck_ (0 ≤ x4 ∧ x4 < ln_ h (rf_ h x0 69)) (ck_ ((w32 (x1 - x4)) ≠ 0) (Mo_layCode_1 (wr_ h (rf_ h x0 69) x4 (Int.tmod x3 (w32 (x1 - x4)))) x0 x1 (w32 (Int.tdiv x3 (w32 (x1 - x4)))) (w32 (x4 + (-1)))))))) := (jj_of bk_273_2 _ _ h).trans ((ff_of bk_273_2 [(22, x0), (0, x1), (9, 0), (0, x3), (0, x4), (9, 0)] [] h).trans (by
  show (ck_ (0 ≤ x0) (ck_ ((w32 (x1 - x4)) ≠ 0) (ck_ (0 ≤ (rf_ h x0 69)) (ck_ (0 ≤ x4 ∧ x4 < ln_ h (rf_ h x0 69)) (ck_ ((w32 (x1 - x4)) ≠ 0) (JJ 273 1 [(22, x0), (0, x1), (9, 0), (0, w32 (Int.tdiv x3 (w32 (x1 - x4)))), (0, w32 (x4 + (-1))), (9, 0)] [] (wr_ h (rf_ h x0 69) x4 (Int.tmod x3 (w32 (x1 - x4)))))))))) = _
  simp only [jt_273_1, ck_or1, ck_or2, rf_wr, ln_wr, nn_wr, rf_cp, ln_cp, nn_cp, ln_wf, nn_wf, rd_wf, nn_nw]
  try rfl))
theorem Mo_layCode_1_e (h : am_H) (x0 x1 x3 x4 : Int) : Mo_layCode_1 h x0 x1 x3 x4 = if x4 < 0 then Mo_layCode_4 h x0 x1 (w32 (x1 - 1)) else ck_ (0 ≤ x0) (ck_ ((w32 (x1 - x4)) ≠ 0) (ck_ (0 ≤ (rf_ h x0 69)) (ck_ (0 ≤ x4 ∧ x4 < ln_ h (rf_ h x0 69)) (ck_ ((w32 (x1 - x4)) ≠ 0) (Mo_layCode_1 (wr_ h (rf_ h x0 69) x4 (Int.tmod x3 (w32 (x1 - x4)))) x0 x1 (w32 (Int.tdiv x3 (w32 (x1 - x4)))) (w32 (x4 + (-1)))))))) := (ff_of bk_273_1 [(22, x0), (0, x1), (9, 0), (0, x3), (0, x4), (9, 0)] [] h).trans (by
  show (if x4 < 0 then JJ 273 3 [(22, x0), (0, x1), (9, 0), (0, x3), (0, x4), (9, 0)] [] h else JJ 273 2 [(22, x0), (0, x1), (9, 0), (0, x3), (0, x4), (9, 0)] [] h) = _
  simp only [jt_273_2, jt_273_3, ck_or1, ck_or2, rf_wr, ln_wr, nn_wr, rf_cp, ln_cp, nn_cp, ln_wf, nn_wf, rd_wf, nn_nw]
  try rfl)
theorem jt_273_12 (h : am_H) (d0 d1 d2 d3 d4 d5 : am_V) : JJ 273 12 [d0, d1, d2, d3, d4, d5] [] h = some (h, 0) := (jj_of bk_273_12 _ _ h).trans (ff_of bk_273_12 [(9, 0), (9, 0), (9, 0), (9, 0), (9, 0), (9, 0)] [] h)
theorem jt_273_5 (h : am_H) (d2 d3 d5 : am_V) (x0 x1 x4 : Int) : JJ 273 5 [(22, x0), (0, x1), d2, d3, (0, x4), d5] [] h = Mo_layCode_6 h x0 x1 x4 (w32 (x4 + 1)) := (jj_of bk_273_5 _ _ h).trans ((ff_of bk_273_5 [(22, x0), (0, x1), (9, 0), (9, 0), (0, x4), (9, 0)] [] h).trans (by
  show (JJ 273 6 [(22, x0), (0, x1), (9, 0), (9, 0), (0, x4), (0, w32 (x4 + 1))] [] h) = _
  simp only [jt_273_6, ck_or1, ck_or2, rf_wr, ln_wr, nn_wr, rf_cp, ln_cp, nn_cp, ln_wf, nn_wf, rd_wf, nn_nw]
  try rfl))
theorem Mo_layCode_4_e (h : am_H) (x0 x1 x4 : Int) : Mo_layCode_4 h x0 x1 x4 = if x4 < 0 then some (h, 0) else Mo_layCode_6 h x0 x1 x4 (w32 (x4 + 1)) := (ff_of bk_273_4 [(22, x0), (0, x1), (9, 0), (9, 0), (0, x4), (9, 0)] [] h).trans (by
  show (if x4 < 0 then JJ 273 12 [(22, x0), (0, x1), (9, 0), (9, 0), (0, x4), (9, 0)] [] h else JJ 273 5 [(22, x0), (0, x1), (9, 0), (9, 0), (0, x4), (9, 0)] [] h) = _
  simp only [jt_273_12, jt_273_5, ck_or1, ck_or2, rf_wr, ln_wr, nn_wr, rf_cp, ln_cp, nn_cp, ln_wf, nn_wf, rd_wf, nn_nw]
  try rfl)
theorem jt_273_11 (h : am_H) (d2 d3 d5 : am_V) (x0 x1 x4 : Int) : JJ 273 11 [(22, x0), (0, x1), d2, d3, (0, x4), d5] [] h = Mo_layCode_4 h x0 x1 (w32 (x4 + (-1))) := (jj_of bk_273_11 _ _ h).trans ((ff_of bk_273_11 [(22, x0), (0, x1), (9, 0), (9, 0), (0, x4), (9, 0)] [] h).trans (by
  show (JJ 273 4 [(22, x0), (0, x1), (9, 0), (9, 0), (0, w32 (x4 + (-1))), (9, 0)] [] h) = _
  simp only [jt_273_4, ck_or1, ck_or2, rf_wr, ln_wr, nn_wr, rf_cp, ln_cp, nn_cp, ln_wf, nn_wf, rd_wf, nn_nw]
  try rfl))
theorem jt_273_10 (h : am_H) (d2 d3 : am_V) (x0 x1 x4 x5 s0 s1 s2 s3 : Int) : JJ 273 10 [(22, x0), (0, x1), d2, d3, (0, x4), (0, x5)] [(0, s0), (0, s1), (0, s2), (30, s3)] h = ck_ (0 ≤ s3) (ck_ (0 ≤ s2 ∧ s2 < ln_ h s3) (Mo_layCode_6 (wr_ h s3 s2 (w32 (s1 + s0))) x0 x1 x4 (w32 (x5 + 1)))) := (jj_of bk_273_10 _ _ h).trans ((ff_of bk_273_10 [(22, x0), (0, x1), (9, 0), (9, 0), (0, x4), (0, x5)] [(0, s0), (0, s1), (0, s2), (30, s3)] h).trans (by
  show (ck_ (0 ≤ s3) (ck_ (0 ≤ s2 ∧ s2 < ln_ h s3) (JJ 273 6 [(22, x0), (0, x1), (9, 0), (9, 0), (0, x4), (0, w32 (x5 + 1))] [] (wr_ h s3 s2 (w32 (s1 + s0)))))) = _
  simp only [jt_273_6, ck_or1, ck_or2, rf_wr, ln_wr, nn_wr, rf_cp, ln_cp, nn_cp, ln_wf, nn_wf, rd_wf, nn_nw]
  try rfl))
theorem jt_273_9 (h : am_H) (d2 d3 : am_V) (x0 x1 x4 x5 s0 s1 s2 : Int) : JJ 273 9 [(22, x0), (0, x1), d2, d3, (0, x4), (0, x5)] [(0, s0), (0, s1), (30, s2)] h = ck_ (0 ≤ s2) (ck_ (0 ≤ s1 ∧ s1 < ln_ h s2) (Mo_layCode_6 (wr_ h s2 s1 (w32 (s0 + 0))) x0 x1 x4 (w32 (x5 + 1)))) := (jj_of bk_273_9 _ _ h).trans ((ff_of bk_273_9 [(22, x0), (0, x1), (9, 0), (9, 0), (0, x4), (0, x5)] [(0, s0), (0, s1), (30, s2)] h).trans (by
  show (JJ 273 10 [(22, x0), (0, x1), (9, 0), (9, 0), (0, x4), (0, x5)] [(0, 0), (0, s0), (0, s1), (30, s2)] h) = _
  simp only [jt_273_10, ck_or1, ck_or2, rf_wr, ln_wr, nn_wr, rf_cp, ln_cp, nn_cp, ln_wf, nn_wf, rd_wf, nn_nw]
  try rfl))
theorem jt_273_8 (h : am_H) (d2 d3 : am_V) (x0 x1 x4 x5 s0 s1 s2 : Int) : JJ 273 8 [(22, x0), (0, x1), d2, d3, (0, x4), (0, x5)] [(0, s0), (0, s1), (30, s2)] h = ck_ (0 ≤ s2) (ck_ (0 ≤ s1 ∧ s1 < ln_ h s2) (Mo_layCode_6 (wr_ h s2 s1 (w32 (s0 + 1))) x0 x1 x4 (w32 (x5 + 1)))) := (jj_of bk_273_8 _ _ h).trans ((ff_of bk_273_8 [(22, x0), (0, x1), (9, 0), (9, 0), (0, x4), (0, x5)] [(0, s0), (0, s1), (30, s2)] h).trans (by
  show (JJ 273 10 [(22, x0), (0, x1), (9, 0), (9, 0), (0, x4), (0, x5)] [(0, 1), (0, s0), (0, s1), (30, s2)] h) = _
  simp only [jt_273_10, ck_or1, ck_or2, rf_wr, ln_wr, nn_wr, rf_cp, ln_cp, nn_cp, ln_wf, nn_wf, rd_wf, nn_nw]
  try rfl))
set_option maxRecDepth 20000 in
theorem jt_273_7 (h : am_H) (d2 d3 : am_V) (x0 x1 x4 x5 : Int) : JJ 273 7 [(22, x0), (0, x1), d2, d3, (0, x4), (0, x5)] [] h = ck_ (0 ≤ x0) (ck_ (0 ≤ (rf_ h x0 69)) (ck_ (0 ≤ x5 ∧ x5 < ln_ h (rf_ h x0 69)) (ck_ (0 ≤ x0) (ck_ (0 ≤ (rf_ h x0 69)) (ck_ (0 ≤ x5 ∧ x5 < ln_ h (rf_ h x0 69)) (ck_ (0 ≤ x0) (ck_ (0 ≤ (rf_ h x0 69)) (ck_ (0 ≤ x4 ∧ x4 < ln_ h (rf_ h x0 69)) (if (rd_ h (rf_ h x0 69) x5) < (rd_ h (rf_ h x0 69) x4) then ck_ (0 ≤ (rf_ h x0 69)) (ck_ (0 ≤ x5 ∧ x5 < ln_ h (rf_ h x0 69)) (Mo_layCode_6 (wr_ h (rf_ h x0 69) x5 (w32 ((rd_ h (rf_ h x0 69) x5) + 0))) x0 x1 x4 (w32 (x5 + 1)))) else ck_ (0 ≤ (rf_ h x0 69)) (ck_ (0 ≤ x5 ∧ x5 < ln_ h (rf_ h x0 69)) (Mo_layCode_6 (wr_ h (rf_ h x0 69) x5 (w32 ((rd_ h (rf_ h x0 69) x5) + 1))) x0 x1 x4 (w32 (x5 + 1))))))))))))) := (jj_of bk_273_7 _ _ h).trans ((ff_of bk_273_7 [(22, x0), (0, x1), (9, 0), (9, 0), (0, x4), (0, x5)] [] h).trans (by
  show (ck_ (0 ≤ x0) (ck_ (0 ≤ (rf_ h x0 69)) (ck_ (0 ≤ x5 ∧ x5 < ln_ h (rf_ h x0 69)) (ck_ (0 ≤ x0) (ck_ (0 ≤ (rf_ h x0 69)) (ck_ (0 ≤ x5 ∧ x5 < ln_ h (rf_ h x0 69)) (ck_ (0 ≤ x0) (ck_ (0 ≤ (rf_ h x0 69)) (ck_ (0 ≤ x4 ∧ x4 < ln_ h (rf_ h x0 69)) (if (rd_ h (rf_ h x0 69) x5) < (rd_ h (rf_ h x0 69) x4) then JJ 273 9 [(22, x0), (0, x1), (9, 0), (9, 0), (0, x4), (0, x5)] [(0, rd_ h (rf_ h x0 69) x5), (0, x5), (30, rf_ h x0 69)] h else JJ 273 8 [(22, x0), (0, x1), (9, 0), (9, 0), (0, x4), (0, x5)] [(0, rd_ h (rf_ h x0 69) x5), (0, x5), (30, rf_ h x0 69)] h)))))))))) = _
  simp only [jt_273_8, jt_273_9, ck_or1, ck_or2, rf_wr, ln_wr, nn_wr, rf_cp, ln_cp, nn_cp, ln_wf, nn_wf, rd_wf, nn_nw]
  try rfl))
theorem Mo_layCode_6_e (h : am_H) (x0 x1 x4 x5 : Int) : Mo_layCode_6 h x0 x1 x4 x5 = if x1 ≤ x5 then Mo_layCode_4 h x0 x1 (w32 (x4 + (-1))) else ck_ (0 ≤ x0) (ck_ (0 ≤ (rf_ h x0 69)) (ck_ (0 ≤ x5 ∧ x5 < ln_ h (rf_ h x0 69)) (ck_ (0 ≤ x0) (ck_ (0 ≤ (rf_ h x0 69)) (ck_ (0 ≤ x5 ∧ x5 < ln_ h (rf_ h x0 69)) (ck_ (0 ≤ x0) (ck_ (0 ≤ (rf_ h x0 69)) (ck_ (0 ≤ x4 ∧ x4 < ln_ h (rf_ h x0 69)) (if (rd_ h (rf_ h x0 69) x5) < (rd_ h (rf_ h x0 69) x4) then ck_ (0 ≤ (rf_ h x0 69)) (ck_ (0 ≤ x5 ∧ x5 < ln_ h (rf_ h x0 69)) (Mo_layCode_6 (wr_ h (rf_ h x0 69) x5 (w32 ((rd_ h (rf_ h x0 69) x5) + 0))) x0 x1 x4 (w32 (x5 + 1)))) else ck_ (0 ≤ (rf_ h x0 69)) (ck_ (0 ≤ x5 ∧ x5 < ln_ h (rf_ h x0 69)) (Mo_layCode_6 (wr_ h (rf_ h x0 69) x5 (w32 ((rd_ h (rf_ h x0 69) x5) + 1))) x0 x1 x4 (w32 (x5 + 1))))))))))))) := (ff_of bk_273_6 [(22, x0), (0, x1), (9, 0), (9, 0), (0, x4), (0, x5)] [] h).trans (by
  show (if x1 ≤ x5 then JJ 273 11 [(22, x0), (0, x1), (9, 0), (9, 0), (0, x4), (0, x5)] [] h else JJ 273 7 [(22, x0), (0, x1), (9, 0), (9, 0), (0, x4), (0, x5)] [] h) = _
  simp only [jt_273_11, jt_273_7, ck_or1, ck_or2, rf_wr, ln_wr, nn_wr, rf_cp, ln_cp, nn_cp, ln_wf, nn_wf, rd_wf, nn_nw]
  try rfl)
theorem cc_273 (h : am_H) (x0 x1 x2 : Int) : CC 273 [(22, x0), (0, x1), (0, x2)] h = Mo_layCode h x0 x1 x2 := cc_of pk_273 _ h
set_option maxRecDepth 20000 in
theorem pk_274 : am_prog 274 = some cd_274 := rfl
theorem bk_274_0 : bk_ am_prog 274 0 = some ([true, true, true, false, false, false], (bl_274_0, 1)) := bk_of pk_274 rfl
theorem bk_274_1 : bk_ am_prog 274 1 = some ([true, true, true, true, true, false], (bl_274_1, 9999)) := bk_of pk_274 rfl
theorem bk_274_2 : bk_ am_prog 274 2 = some ([true, true, true, true, true, false], (bl_274_2, 9999)) := bk_of pk_274 rfl
theorem bk_274_3 : bk_ am_prog 274 3 = some ([true, true, true, true, true, false], (bl_274_3, 9999)) := bk_of pk_274 rfl
theorem bk_274_4 : bk_ am_prog 274 4 = some ([true, true, false, false, false, false], (bl_274_4, 5)) := bk_of pk_274 rfl
theorem bk_274_5 : bk_ am_prog 274 5 = some ([true, true, false, false, true, false], (bl_274_5, 9999)) := bk_of pk_274 rfl
theorem bk_274_6 : bk_ am_prog 274 6 = some ([true, true, false, false, true, false], (bl_274_6, 9999)) := bk_of pk_274 rfl
theorem bk_274_7 : bk_ am_prog 274 7 = some ([false, false, false, false, false, false], (bl_274_7, 9999)) := bk_of pk_274 rfl
theorem jt_274_1 (h : am_H) (d5 : am_V) (x0 x1 x2 x3 x4 : Int) : JJ 274 1 [(22, x0), (0, x1), (0, x2), (0, x3), (0, x4), d5] [] h = Mo_turnsRow_1 h x0 x1 x2 x3 x4 := jj_of bk_274_1 _ _ h
theorem jt_274_5 (h : am_H) (d2 d3 d5 : am_V) (x0 x1 x4 : Int) : JJ 274 5 [(22, x0), (0, x1), d2, d3, (0, x4), d5] [] h = Mo_turnsRow_5 h x0 x1 x4 := jj_of bk_274_5 _ _ h
theorem Mo_turnsRow_e (h : am_H) (x0 x1 x2 : Int) : Mo_turnsRow h x0 x1 x2 = ck_ (0 ≤ x0) (Mo_turnsRow_1 h x0 x1 x2 (rd_ h x0 70) 0) := (ff_of bk_274_0 [(22, x0), (0, x1), (0, x2), (9, 0), (9, 0), (9, 0)] [] h).trans (by
  show (ck_ (0 ≤ x0) (JJ 274 1 [(22, x0), (0, x1), (0, x2), (0, rd_ h x0 70), (0, 0), (9, 0)] [] h)) = _
  simp only [jt_274_1, ck_or1, ck_or2, rf_wr, ln_wr, nn_wr, rf_cp, ln_cp, nn_cp, ln_wf, nn_wf, rd_wf, nn_nw]
  try rfl)
theorem jt_274_4 (h : am_H) (d2 d3 d4 d5 : am_V) (x0 x1 : Int) : JJ 274 4 [(22, x0), (0, x1), d2, d3, d4, d5] [] h = Mo_turnsRow_5 h x0 x1 0 := (jj_of bk_274_4 _ _ h).trans ((ff_of bk_274_4 [(22, x0), (0, x1), (9, 0), (9, 0), (9, 0), (9, 0)] [] h).trans (by
  show (JJ 274 5 [(22, x0), (0, x1), (9, 0), (9, 0), (0, 0), (9, 0)] [] h) = _
  simp only [jt_274_5, ck_or1, ck_or2, rf_wr, ln_wr, nn_wr, rf_cp, ln_cp, nn_cp, ln_wf, nn_wf, rd_wf, nn_nw]
  try rfl))
set_option maxRecDepth 20000 in
theorem jt_274_3 (h : am_H) (d5 : am_V) (x0 x1 x2 x3 x4 : Int) : JJ 274 3 [(22, x0), (0, x1), (0, x2), (0, x3), (0, x4), d5] [] h = ck_ (0 ≤ x0) (ck_ (0 ≤ x0) (Mo_turnsRow_1 (wr_ h x0 70 (or_ (an_ (rd_ h x0 70) (xo_ (w32 (1 * 2 ^ (x4 % 32 : Int).toNat)) (-1))) (w32 ((xo_ (an_ (x3 / 2 ^ ((w32 ((w32 (x1 - 1)) - x4)) % 32 : Int).toNat) 1) 1) * 2 ^ (x4 % 32 : Int).toNat)))) x0 x1 x2 x3 (w32 (x4 + 1)))) := (jj_of bk_274_3 _ _ h).trans ((ff_of bk_274_3 [(22, x0), (0, x1), (0, x2), (0, x3), (0, x4), (9, 0)] [] h).trans (by
  show (ck_ (0 ≤ x0) (ck_ (0 ≤ x0) (JJ 274 1 [(22, x0), (0, x1), (0, x2), (0, x3), (0, w32 (x4 + 1)), (0, xo_ (an_ (x3 / 2 ^ ((w32 ((w32 (x1 - 1)) - x4)) % 32 : Int).toNat) 1) 1)] [] (wr_ h x0 70 (or_ (an_ (rd_ h x0 70) (xo_ (w32 (1 * 2 ^ (x4 % 32 : Int).toNat)) (-1))) (w32 ((xo_ (an_ (x3 / 2 ^ ((w32 ((w32 (x1 - 1)) - x4)) % 32 : Int).toNat) 1) 1) * 2 ^ (x4 % 32 : Int).toNat))))))) = _
  simp only [jt_274_1, ck_or1, ck_or2, rf_wr, ln_wr, nn_wr, rf_cp, ln_cp, nn_cp, ln_wf, nn_wf, rd_wf, nn_nw]
  try rfl))
set_option maxRecDepth 20000 in
theorem jt_274_2 (h : am_H) (d5 : am_V) (x0 x1 x2 x3 x4 : Int) : JJ 274 2 [(22, x0), (0, x1), (0, x2), (0, x3), (0, x4), d5] [] h = if x2 ≠ 1 then Mo_turnsRow_5 h x0 x1 0 else ck_ (0 ≤ x0) (ck_ (0 ≤ x0) (Mo_turnsRow_1 (wr_ h x0 70 (or_ (an_ (rd_ h x0 70) (xo_ (w32 (1 * 2 ^ (x4 % 32 : Int).toNat)) (-1))) (w32 ((xo_ (an_ (x3 / 2 ^ ((w32 ((w32 (x1 - 1)) - x4)) % 32 : Int).toNat) 1) 1) * 2 ^ (x4 % 32 : Int).toNat)))) x0 x1 x2 x3 (w32 (x4 + 1)))) := (jj_of bk_274_2 _ _ h).trans ((ff_of bk_274_2 [(22, x0), (0, x1), (0, x2), (0, x3), (0, x4), (9, 0)] [] h).trans (by
  show (if x2 ≠ 1 then JJ 274 4 [(22, x0), (0, x1), (0, x2), (0, x3), (0, x4), (9, 0)] [] h else JJ 274 3 [(22, x0), (0, x1), (0, x2), (0, x3), (0, x4), (9, 0)] [] h) = _
  simp only [jt_274_3, jt_274_4, ck_or1, ck_or2, rf_wr, ln_wr, nn_wr, rf_cp, ln_cp, nn_cp, ln_wf, nn_wf, rd_wf, nn_nw]
  try rfl))
set_option maxRecDepth 20000 in
theorem Mo_turnsRow_1_e (h : am_H) (x0 x1 x2 x3 x4 : Int) : Mo_turnsRow_1 h x0 x1 x2 x3 x4 = if x1 ≤ x4 then Mo_turnsRow_5 h x0 x1 0 else if x2 ≠ 1 then Mo_turnsRow_5 h x0 x1 0 else ck_ (0 ≤ x0) (ck_ (0 ≤ x0) (Mo_turnsRow_1 (wr_ h x0 70 (or_ (an_ (rd_ h x0 70) (xo_ (w32 (1 * 2 ^ (x4 % 32 : Int).toNat)) (-1))) (w32 ((xo_ (an_ (x3 / 2 ^ ((w32 ((w32 (x1 - 1)) - x4)) % 32 : Int).toNat) 1) 1) * 2 ^ (x4 % 32 : Int).toNat)))) x0 x1 x2 x3 (w32 (x4 + 1)))) := (ff_of bk_274_1 [(22, x0), (0, x1), (0, x2), (0, x3), (0, x4), (9, 0)] [] h).trans (by
  show (if x1 ≤ x4 then JJ 274 4 [(22, x0), (0, x1), (0, x2), (0, x3), (0, x4), (9, 0)] [] h else JJ 274 2 [(22, x0), (0, x1), (0, x2), (0, x3), (0, x4), (9, 0)] [] h) = _
  simp only [jt_274_2, jt_274_4, ck_or1, ck_or2, rf_wr, ln_wr, nn_wr, rf_cp, ln_cp, nn_cp, ln_wf, nn_wf, rd_wf, nn_nw]
  try rfl)
theorem jt_274_7 (h : am_H) (d0 d1 d2 d3 d4 d5 : am_V) : JJ 274 7 [d0, d1, d2, d3, d4, d5] [] h = some (h, 0) := (jj_of bk_274_7 _ _ h).trans (ff_of bk_274_7 [(9, 0), (9, 0), (9, 0), (9, 0), (9, 0), (9, 0)] [] h)
set_option maxRecDepth 20000 in
theorem jt_274_6 (h : am_H) (d2 d3 d5 : am_V) (x0 x1 x4 : Int) : JJ 274 6 [(22, x0), (0, x1), d2, d3, (0, x4), d5] [] h = ck_ (0 ≤ x0) (ck_ (0 ≤ (rf_ h x0 69)) (ck_ (0 ≤ x4 ∧ x4 < ln_ h (rf_ h x0 69)) (ck_ (0 ≤ x0) (ck_ (0 ≤ x0) (ck_ (0 ≤ (rf_ h x0 69)) (ck_ (0 ≤ (w32 ((w32 (x1 - 1)) - x4)) ∧ (w32 ((w32 (x1 - 1)) - x4)) < ln_ h (rf_ h x0 69)) (ck_ (0 ≤ (rf_ h x0 69)) (ck_ (0 ≤ x4 ∧ x4 < ln_ h (rf_ h x0 69)) (ck_ (0 ≤ x0) (ck_ (0 ≤ (rf_ h x0 69)) (ck_ (0 ≤ (w32 ((w32 (x1 - 1)) - x4)) ∧ (w32 ((w32 (x1 - 1)) - x4)) < ln_ h (rf_ h x0 69)) (Mo_turnsRow_5 (wr_ (wr_ h (rf_ h x0 69) x4 (rd_ h (rf_ h x0 69) (w32 ((w32 (x1 - 1)) - x4)))) (rf_ h x0 69) (w32 ((w32 (x1 - 1)) - x4)) (rd_ h (rf_ h x0 69) x4)) x0 x1 (w32 (x4 + 1)))))))))))))) := (jj_of bk_274_6 _ _ h).trans ((ff_of bk_274_6 [(22, x0), (0, x1), (9, 0), (9, 0), (0, x4), (9, 0)] [] h).trans (by
  show (ck_ (0 ≤ x0) (ck_ (0 ≤ (rf_ h x0 69)) (ck_ (0 ≤ x4 ∧ x4 < ln_ h (rf_ h x0 69)) (ck_ (0 ≤ x0) (ck_ (0 ≤ x0) (ck_ (0 ≤ (rf_ h x0 69)) (ck_ (0 ≤ (w32 ((w32 (x1 - 1)) - x4)) ∧ (w32 ((w32 (x1 - 1)) - x4)) < ln_ h (rf_ h x0 69)) (ck_ (0 ≤ (rf_ h x0 69)) (ck_ (0 ≤ x4 ∧ x4 < ln_ h (rf_ h x0 69)) (ck_ (0 ≤ x0) (ck_ (0 ≤ (rf_ h x0 69)) (ck_ (0 ≤ (w32 ((w32 (x1 - 1)) - x4)) ∧ (w32 ((w32 (x1 - 1)) - x4)) < ln_ h (rf_ h x0 69)) (JJ 274 5 [(22, x0), (0, x1), (9, 0), (9, 0), (0, w32 (x4 + 1)), (0, rd_ h (rf_ h x0 69) x4)] [] (wr_ (wr_ h (rf_ h x0 69) x4 (rd_ h (rf_ h x0 69) (w32 ((w32 (x1 - 1)) - x4)))) (rf_ h x0 69) (w32 ((w32 (x1 - 1)) - x4)) (rd_ h (rf_ h x0 69) x4))))))))))))))) = _
  simp only [jt_274_5, ck_or1, ck_or2, rf_wr, ln_wr, nn_wr, rf_cp, ln_cp, nn_cp, ln_wf, nn_wf, rd_wf, nn_nw]
  try rfl))
theorem Mo_turnsRow_5_e (h : am_H) (x0 x1 x4 : Int) : Mo_turnsRow_5 h x0 x1 x4 = if (w32 ((w32 (x1 - 1)) - x4)) ≤ x4 then some (h, 0) else ck_ (0 ≤ x0) (ck_ (0 ≤ (rf_ h x0 69)) (ck_ (0 ≤ x4 ∧ x4 < ln_ h (rf_ h x0 69)) (ck_ (0 ≤ x0) (ck_ (0 ≤ x0) (ck_ (0 ≤ (rf_ h x0 69)) (ck_ (0 ≤ (w32 ((w32 (x1 - 1)) - x4)) ∧ (w32 ((w32 (x1 - 1)) - x4)) < ln_ h (rf_ h x0 69)) (ck_ (0 ≤ (rf_ h x0 69)) (ck_ (0 ≤ x4 ∧ x4 < ln_ h (rf_ h x0 69)) (ck_ (0 ≤ x0) (ck_ (0 ≤ (rf_ h x0 69)) (ck_ (0 ≤ (w32 ((w32 (x1 - 1)) - x4)) ∧ (w32 ((w32 (x1 - 1)) - x4)) < ln_ h (rf_ h x0 69)) (Mo_turnsRow_5 (wr_ (wr_ h (rf_ h x0 69) x4 (rd_ h (rf_ h x0 69) (w32 ((w32 (x1 - 1)) - x4)))) (rf_ h x0 69) (w32 ((w32 (x1 - 1)) - x4)) (rd_ h (rf_ h x0 69) x4)) x0 x1 (w32 (x4 + 1)))))))))))))) := (ff_of bk_274_5 [(22, x0), (0, x1), (9, 0), (9, 0), (0, x4), (9, 0)] [] h).trans (by
  show (if (w32 ((w32 (x1 - 1)) - x4)) ≤ x4 then JJ 274 7 [(22, x0), (0, x1), (9, 0), (9, 0), (0, x4), (9, 0)] [] h else JJ 274 6 [(22, x0), (0, x1), (9, 0), (9, 0), (0, x4), (9, 0)] [] h) = _
  simp only [jt_274_6, jt_274_7, ck_or1, ck_or2, rf_wr, ln_wr, nn_wr, rf_cp, ln_cp, nn_cp, ln_wf, nn_wf, rd_wf, nn_nw]
  try rfl)
theorem cc_274 (h : am_H) (x0 x1 x2 : Int) : CC 274 [(22, x0), (0, x1), (0, x2)] h = Mo_turnsRow h x0 x1 x2 := cc_of pk_274 _ h
set_option maxRecDepth 20000 in
theorem pk_275 : am_prog 275 = some cd_275 := rfl
theorem bk_275_0 : bk_ am_prog 275 0 = some ([true, true, true, false, false, false], (bl_275_0, 1)) := bk_of pk_275 rfl
theorem bk_275_1 : bk_ am_prog 275 1 = some ([true, true, true, true, true, false], (bl_275_1, 9999)) := bk_of pk_275 rfl
theorem bk_275_2 : bk_ am_prog 275 2 = some ([true, true, true, true, true, false], (bl_275_2, 3)) := bk_of pk_275 rfl
theorem bk_275_3 : bk_ am_prog 275 3 = some ([true, true, true, true, true, true], (bl_275_3, 9999)) := bk_of pk_275 rfl
theorem bk_275_4 : bk_ am_prog 275 4 = some ([true, true, true, true, true, true], (bl_275_4, 9999)) := bk_of pk_275 rfl
theorem bk_275_5 : bk_ am_prog 275 5 = some ([true, true, true, true, true, true], (bl_275_5, 9999)) := bk_of pk_275 rfl
theorem bk_275_6 : bk_ am_prog 275 6 = some ([true, true, true, true, true, true], (bl_275_6, 7)) := bk_of pk_275 rfl
theorem bk_275_7 : bk_ am_prog 275 7 = some ([true, true, true, true, true, true], (bl_275_7, 9999)) := bk_of pk_275 rfl
theorem bk_275_8 : bk_ am_prog 275 8 = some ([true, true, true, true, true, false], (bl_275_8, 9999)) := bk_of pk_275 rfl
theorem bk_275_9 : bk_ am_prog 275 9 = some ([true, false, false, true, false, false], (bl_275_9, 9999)) := bk_of pk_275 rfl
theorem jt_275_1 (h : am_H) (d5 : am_V) (x0 x1 x2 x3 x4 : Int) : JJ 275 1 [(22, x0), (0, x1), (0, x2), (0, x3), (0, x4), d5] [] h = Mo_codeOfPile_1 h x0 x1 x2 x3 x4 := jj_of bk_275_1 _ _ h
theorem jt_275_3 (h : am_H) (x0 x1 x2 x3 x4 x5 : Int) : JJ 275 3 [(22, x0), (0, x1), (0, x2), (0, x3), (0, x4), (0, x5)] [] h = Mo_codeOfPile_3 h x0 x1 x2 x3 x4 x5 := jj_of bk_275_3 _ _ h
theorem Mo_codeOfPile_e (h : am_H) (x0 x1 x2 : Int) : Mo_codeOfPile h x0 x1 x2 = ck_ (0 ≤ x0) (ck_ (0 ≤ (rf_ h x0 52)) (ck_ (0 ≤ x1 ∧ x1 < ln_ h (rf_ h x0 52)) (ck_ (0 ≤ x0) (Mo_codeOfPile_1 (wr_ h x0 70 0) x0 x1 x2 (rd_ h (rf_ h x0 52) x1) 0)))) := (ff_of bk_275_0 [(22, x0), (0, x1), (0, x2), (9, 0), (9, 0), (9, 0)] [] h).trans (by
  show (ck_ (0 ≤ x0) (ck_ (0 ≤ (rf_ h x0 52)) (ck_ (0 ≤ x1 ∧ x1 < ln_ h (rf_ h x0 52)) (ck_ (0 ≤ x0) (JJ 275 1 [(22, x0), (0, x1), (0, x2), (0, rd_ h (rf_ h x0 52) x1), (0, 0), (9, 0)] [] (wr_ h x0 70 0)))))) = _
  simp only [jt_275_1, ck_or1, ck_or2, rf_wr, ln_wr, nn_wr, rf_cp, ln_cp, nn_cp, ln_wf, nn_wf, rd_wf, nn_nw]
  try rfl)
theorem jt_275_9 (h : am_H) (d1 d2 d4 d5 : am_V) (x0 x3 : Int) : JJ 275 9 [(22, x0), d1, d2, (0, x3), d4, d5] [] h = ck_ (0 ≤ x0) (bd_ (Mo_codeOf h x0 x3) fun h1 v2 => some (h1, v2)) := (jj_of bk_275_9 _ _ h).trans ((ff_of bk_275_9 [(22, x0), (9, 0), (9, 0), (0, x3), (9, 0), (9, 0)] [] h).trans (by
  show (ck_ (0 ≤ x0) (bd_ (CC 272 [(22, x0), (0, x3)] h) fun h1 v2 => some (h1, v2))) = _
  simp only [cc_272, ck_or1, ck_or2, rf_wr, ln_wr, nn_wr, rf_cp, ln_cp, nn_cp, ln_wf, nn_wf, rd_wf, nn_nw]
  try rfl))
theorem jt_275_2 (h : am_H) (d5 : am_V) (x0 x1 x2 x3 x4 : Int) : JJ 275 2 [(22, x0), (0, x1), (0, x2), (0, x3), (0, x4), d5] [] h = ck_ (0 ≤ x0) (ck_ (0 ≤ (rf_ h x0 69)) (ck_ (0 ≤ x4 ∧ x4 < ln_ h (rf_ h x0 69)) (Mo_codeOfPile_3 (wr_ h (rf_ h x0 69) x4 0) x0 x1 x2 x3 x4 0))) := (jj_of bk_275_2 _ _ h).trans ((ff_of bk_275_2 [(22, x0), (0, x1), (0, x2), (0, x3), (0, x4), (9, 0)] [] h).trans (by
  show (ck_ (0 ≤ x0) (ck_ (0 ≤ (rf_ h x0 69)) (ck_ (0 ≤ x4 ∧ x4 < ln_ h (rf_ h x0 69)) (JJ 275 3 [(22, x0), (0, x1), (0, x2), (0, x3), (0, x4), (0, 0)] [] (wr_ h (rf_ h x0 69) x4 0))))) = _
  simp only [jt_275_3, ck_or1, ck_or2, rf_wr, ln_wr, nn_wr, rf_cp, ln_cp, nn_cp, ln_wf, nn_wf, rd_wf, nn_nw]
  try rfl))
theorem Mo_codeOfPile_1_e (h : am_H) (x0 x1 x2 x3 x4 : Int) : Mo_codeOfPile_1 h x0 x1 x2 x3 x4 = if x3 ≤ x4 then ck_ (0 ≤ x0) (bd_ (Mo_codeOf h x0 x3) fun h1 v2 => some (h1, v2)) else ck_ (0 ≤ x0) (ck_ (0 ≤ (rf_ h x0 69)) (ck_ (0 ≤ x4 ∧ x4 < ln_ h (rf_ h x0 69)) (Mo_codeOfPile_3 (wr_ h (rf_ h x0 69) x4 0) x0 x1 x2 x3 x4 0))) := (ff_of bk_275_1 [(22, x0), (0, x1), (0, x2), (0, x3), (0, x4), (9, 0)] [] h).trans (by
  show (if x3 ≤ x4 then JJ 275 9 [(22, x0), (0, x1), (0, x2), (0, x3), (0, x4), (9, 0)] [] h else JJ 275 2 [(22, x0), (0, x1), (0, x2), (0, x3), (0, x4), (9, 0)] [] h) = _
  simp only [jt_275_2, jt_275_9, ck_or1, ck_or2, rf_wr, ln_wr, nn_wr, rf_cp, ln_cp, nn_cp, ln_wf, nn_wf, rd_wf, nn_nw]
  try rfl)
set_option maxRecDepth 20000 in
theorem jt_275_8 (h : am_H) (d5 : am_V) (x0 x1 x2 x3 x4 : Int) : JJ 275 8 [(22, x0), (0, x1), (0, x2), (0, x3), (0, x4), d5] [] h = ck_ (0 ≤ x0) (ck_ (0 ≤ x0) (bd_ (Mo_faceAt h x0 0 x1 x4) fun h1 v2 => ck_ (0 ≤ x0) (Mo_codeOfPile_1 (wr_ h1 x0 70 (or_ (rd_ h x0 70) (w32 ((w32 (x2 * v2)) * 2 ^ (x4 % 32 : Int).toNat)))) x0 x1 x2 x3 (w32 (x4 + 1))))) := (jj_of bk_275_8 _ _ h).trans ((ff_of bk_275_8 [(22, x0), (0, x1), (0, x2), (0, x3), (0, x4), (9, 0)] [] h).trans (by
  show (ck_ (0 ≤ x0) (ck_ (0 ≤ x0) (bd_ (CC 241 [(22, x0), (0, 0), (0, x1), (0, x4)] h) fun h1 v2 => ck_ (0 ≤ x0) (JJ 275 1 [(22, x0), (0, x1), (0, x2), (0, x3), (0, w32 (x4 + 1)), (9, 0)] [] (wr_ h1 x0 70 (or_ (rd_ h x0 70) (w32 ((w32 (x2 * v2)) * 2 ^ (x4 % 32 : Int).toNat)))))))) = _
  simp only [cc_241, jt_275_1, ck_or1, ck_or2, rf_wr, ln_wr, nn_wr, rf_cp, ln_cp, nn_cp, ln_wf, nn_wf, rd_wf, nn_nw]
  try rfl))
theorem jt_275_7 (h : am_H) (x0 x1 x2 x3 x4 x5 s0 s1 s2 s3 : Int) : JJ 275 7 [(22, x0), (0, x1), (0, x2), (0, x3), (0, x4), (0, x5)] [(0, s0), (0, s1), (0, s2), (30, s3)] h = ck_ (0 ≤ s3) (ck_ (0 ≤ s2 ∧ s2 < ln_ h s3) (Mo_codeOfPile_3 (wr_ h s3 s2 (w32 (s1 + s0))) x0 x1 x2 x3 x4 (w32 (x5 + 1)))) := (jj_of bk_275_7 _ _ h).trans ((ff_of bk_275_7 [(22, x0), (0, x1), (0, x2), (0, x3), (0, x4), (0, x5)] [(0, s0), (0, s1), (0, s2), (30, s3)] h).trans (by
  show (ck_ (0 ≤ s3) (ck_ (0 ≤ s2 ∧ s2 < ln_ h s3) (JJ 275 3 [(22, x0), (0, x1), (0, x2), (0, x3), (0, x4), (0, w32 (x5 + 1))] [] (wr_ h s3 s2 (w32 (s1 + s0)))))) = _
  simp only [jt_275_3, ck_or1, ck_or2, rf_wr, ln_wr, nn_wr, rf_cp, ln_cp, nn_cp, ln_wf, nn_wf, rd_wf, nn_nw]
  try rfl))
theorem jt_275_6 (h : am_H) (x0 x1 x2 x3 x4 x5 s0 s1 s2 : Int) : JJ 275 6 [(22, x0), (0, x1), (0, x2), (0, x3), (0, x4), (0, x5)] [(0, s0), (0, s1), (30, s2)] h = ck_ (0 ≤ s2) (ck_ (0 ≤ s1 ∧ s1 < ln_ h s2) (Mo_codeOfPile_3 (wr_ h s2 s1 (w32 (s0 + 0))) x0 x1 x2 x3 x4 (w32 (x5 + 1)))) := (jj_of bk_275_6 _ _ h).trans ((ff_of bk_275_6 [(22, x0), (0, x1), (0, x2), (0, x3), (0, x4), (0, x5)] [(0, s0), (0, s1), (30, s2)] h).trans (by
  show (JJ 275 7 [(22, x0), (0, x1), (0, x2), (0, x3), (0, x4), (0, x5)] [(0, 0), (0, s0), (0, s1), (30, s2)] h) = _
  simp only [jt_275_7, ck_or1, ck_or2, rf_wr, ln_wr, nn_wr, rf_cp, ln_cp, nn_cp, ln_wf, nn_wf, rd_wf, nn_nw]
  try rfl))
theorem jt_275_5 (h : am_H) (x0 x1 x2 x3 x4 x5 s0 s1 s2 : Int) : JJ 275 5 [(22, x0), (0, x1), (0, x2), (0, x3), (0, x4), (0, x5)] [(0, s0), (0, s1), (30, s2)] h = ck_ (0 ≤ s2) (ck_ (0 ≤ s1 ∧ s1 < ln_ h s2) (Mo_codeOfPile_3 (wr_ h s2 s1 (w32 (s0 + 1))) x0 x1 x2 x3 x4 (w32 (x5 + 1)))) := (jj_of bk_275_5 _ _ h).trans ((ff_of bk_275_5 [(22, x0), (0, x1), (0, x2), (0, x3), (0, x4), (0, x5)] [(0, s0), (0, s1), (30, s2)] h).trans (by
  show (JJ 275 7 [(22, x0), (0, x1), (0, x2), (0, x3), (0, x4), (0, x5)] [(0, 1), (0, s0), (0, s1), (30, s2)] h) = _
  simp only [jt_275_7, ck_or1, ck_or2, rf_wr, ln_wr, nn_wr, rf_cp, ln_cp, nn_cp, ln_wf, nn_wf, rd_wf, nn_nw]
  try rfl))
set_option maxRecDepth 20000 in
theorem jt_275_4 (h : am_H) (x0 x1 x2 x3 x4 x5 : Int) : JJ 275 4 [(22, x0), (0, x1), (0, x2), (0, x3), (0, x4), (0, x5)] [] h = ck_ (0 ≤ x0) (ck_ (0 ≤ (rf_ h x0 69)) (ck_ (0 ≤ x4 ∧ x4 < ln_ h (rf_ h x0 69)) (ck_ (0 ≤ x0) (bd_ (Mo_sizeAt h x0 0 x1 x5) fun h1 v2 => ck_ (0 ≤ x0) (bd_ (Mo_sizeAt h1 x0 0 x1 x4) fun h3 v4 => if v4 ≤ v2 then ck_ (0 ≤ (rf_ h x0 69)) (ck_ (0 ≤ x4 ∧ x4 < ln_ h3 (rf_ h x0 69)) (Mo_codeOfPile_3 (wr_ h3 (rf_ h x0 69) x4 (w32 ((rd_ h (rf_ h x0 69) x4) + 0))) x0 x1 x2 x3 x4 (w32 (x5 + 1)))) else ck_ (0 ≤ (rf_ h x0 69)) (ck_ (0 ≤ x4 ∧ x4 < ln_ h3 (rf_ h x0 69)) (Mo_codeOfPile_3 (wr_ h3 (rf_ h x0 69) x4 (w32 ((rd_ h (rf_ h x0 69) x4) + 1))) x0 x1 x2 x3 x4 (w32 (x5 + 1))))))))) := (jj_of bk_275_4 _ _ h).trans ((ff_of bk_275_4 [(22, x0), (0, x1), (0, x2), (0, x3), (0, x4), (0, x5)] [] h).trans (by
  show (ck_ (0 ≤ x0) (ck_ (0 ≤ (rf_ h x0 69)) (ck_ (0 ≤ x4 ∧ x4 < ln_ h (rf_ h x0 69)) (ck_ (0 ≤ x0) (bd_ (CC 240 [(22, x0), (0, 0), (0, x1), (0, x5)] h) fun h1 v2 => ck_ (0 ≤ x0) (bd_ (CC 240 [(22, x0), (0, 0), (0, x1), (0, x4)] h1) fun h3 v4 => if v4 ≤ v2 then JJ 275 6 [(22, x0), (0, x1), (0, x2), (0, x3), (0, x4), (0, x5)] [(0, rd_ h (rf_ h x0 69) x4), (0, x4), (30, rf_ h x0 69)] h3 else JJ 275 5 [(22, x0), (0, x1), (0, x2), (0, x3), (0, x4), (0, x5)] [(0, rd_ h (rf_ h x0 69) x4), (0, x4), (30, rf_ h x0 69)] h3)))))) = _
  simp only [cc_240, jt_275_5, jt_275_6, ck_or1, ck_or2, rf_wr, ln_wr, nn_wr, rf_cp, ln_cp, nn_cp, ln_wf, nn_wf, rd_wf, nn_nw]
  try rfl))
set_option maxRecDepth 20000 in
theorem Mo_codeOfPile_3_e (h : am_H) (x0 x1 x2 x3 x4 x5 : Int) : Mo_codeOfPile_3 h x0 x1 x2 x3 x4 x5 = if x3 ≤ x5 then ck_ (0 ≤ x0) (ck_ (0 ≤ x0) (bd_ (Mo_faceAt h x0 0 x1 x4) fun h1 v2 => ck_ (0 ≤ x0) (Mo_codeOfPile_1 (wr_ h1 x0 70 (or_ (rd_ h x0 70) (w32 ((w32 (x2 * v2)) * 2 ^ (x4 % 32 : Int).toNat)))) x0 x1 x2 x3 (w32 (x4 + 1))))) else ck_ (0 ≤ x0) (ck_ (0 ≤ (rf_ h x0 69)) (ck_ (0 ≤ x4 ∧ x4 < ln_ h (rf_ h x0 69)) (ck_ (0 ≤ x0) (bd_ (Mo_sizeAt h x0 0 x1 x5) fun h3 v4 => ck_ (0 ≤ x0) (bd_ (Mo_sizeAt h3 x0 0 x1 x4) fun h5 v6 => if v6 ≤ v4 then ck_ (0 ≤ (rf_ h x0 69)) (ck_ (0 ≤ x4 ∧ x4 < ln_ h5 (rf_ h x0 69)) (Mo_codeOfPile_3 (wr_ h5 (rf_ h x0 69) x4 (w32 ((rd_ h (rf_ h x0 69) x4) + 0))) x0 x1 x2 x3 x4 (w32 (x5 + 1)))) else ck_ (0 ≤ (rf_ h x0 69)) (ck_ (0 ≤ x4 ∧ x4 < ln_ h5 (rf_ h x0 69)) (Mo_codeOfPile_3 (wr_ h5 (rf_ h x0 69) x4 (w32 ((rd_ h (rf_ h x0 69) x4) + 1))) x0 x1 x2 x3 x4 (w32 (x5 + 1))))))))) := (ff_of bk_275_3 [(22, x0), (0, x1), (0, x2), (0, x3), (0, x4), (0, x5)] [] h).trans (by
  show (if x3 ≤ x5 then JJ 275 8 [(22, x0), (0, x1), (0, x2), (0, x3), (0, x4), (0, x5)] [] h else JJ 275 4 [(22, x0), (0, x1), (0, x2), (0, x3), (0, x4), (0, x5)] [] h) = _
  simp only [jt_275_4, jt_275_8, ck_or1, ck_or2, rf_wr, ln_wr, nn_wr, rf_cp, ln_cp, nn_cp, ln_wf, nn_wf, rd_wf, nn_nw]
  try rfl)
theorem cc_275 (h : am_H) (x0 x1 x2 : Int) : CC 275 [(22, x0), (0, x1), (0, x2)] h = Mo_codeOfPile h x0 x1 x2 := cc_of pk_275 _ h
set_option maxRecDepth 20000 in
theorem pk_276 : am_prog 276 = some cd_276 := rfl
theorem bk_276_0 : bk_ am_prog 276 0 = some ([true, true, true, true, true], (bl_276_0, 9999)) := bk_of pk_276 rfl
theorem Mo_turnedCode_e (h : am_H) (x0 x1 x2 x3 x4 : Int) : Mo_turnedCode h x0 x1 x2 x3 x4 = ck_ (0 ≤ x0) (bd_ (Mo_layCode h x0 x1 x2) fun h1 _ => ck_ (0 ≤ x0) (bd_ (Mo_turnsRow h1 x0 x3 x4) fun h3 _ => ck_ (0 ≤ x0) (bd_ (Mo_codeOf h3 x0 x1) fun h5 v6 => some (h5, v6)))) := (ff_of bk_276_0 [(22, x0), (0, x1), (0, x2), (0, x3), (0, x4)] [] h).trans (by
  show (ck_ (0 ≤ x0) (bd_ (CC 273 [(22, x0), (0, x1), (0, x2)] h) fun h1 _ => ck_ (0 ≤ x0) (bd_ (CC 274 [(22, x0), (0, x3), (0, x4)] h1) fun h3 _ => ck_ (0 ≤ x0) (bd_ (CC 272 [(22, x0), (0, x1)] h3) fun h5 v6 => some (h5, v6))))) = _
  simp only [cc_272, cc_273, cc_274, ck_or1, ck_or2, rf_wr, ln_wr, nn_wr, rf_cp, ln_cp, nn_cp, ln_wf, nn_wf, rd_wf, nn_nw]
  try rfl)
theorem cc_276 (h : am_H) (x0 x1 x2 x3 x4 : Int) : CC 276 [(22, x0), (0, x1), (0, x2), (0, x3), (0, x4)] h = Mo_turnedCode h x0 x1 x2 x3 x4 := cc_of pk_276 _ h
set_option maxRecDepth 20000 in
theorem pk_277 : am_prog 277 = some cd_277 := rfl
theorem bk_277_0 : bk_ am_prog 277 0 = some ([true, true, true, true, false, false, false, false], (bl_277_0, 1)) := bk_of pk_277 rfl
theorem bk_277_1 : bk_ am_prog 277 1 = some ([true, true, true, true, true, false, false, false], (bl_277_1, 9999)) := bk_of pk_277 rfl
theorem bk_277_2 : bk_ am_prog 277 2 = some ([true, true, true, true, true, false, false, false], (bl_277_2, 9999)) := bk_of pk_277 rfl
theorem bk_277_3 : bk_ am_prog 277 3 = some ([true, true, true, true, false, false, false, false], (bl_277_3, 4)) := bk_of pk_277 rfl
theorem bk_277_4 : bk_ am_prog 277 4 = some ([true, true, false, true, true, false, false, false], (bl_277_4, 9999)) := bk_of pk_277 rfl
theorem bk_277_5 : bk_ am_prog 277 5 = some ([true, true, false, true, true, false, false, false], (bl_277_5, 6)) := bk_of pk_277 rfl
theorem bk_277_6 : bk_ am_prog 277 6 = some ([true, true, false, true, true, true, true, false], (bl_277_6, 9999)) := bk_of pk_277 rfl
theorem bk_277_7 : bk_ am_prog 277 7 = some ([true, true, false, true, true, true, true, false], (bl_277_7, 9999)) := bk_of pk_277 rfl
theorem bk_277_8 : bk_ am_prog 277 8 = some ([true, true, false, true, true, true, true, true], (bl_277_8, 9)) := bk_of pk_277 rfl
theorem bk_277_9 : bk_ am_prog 277 9 = some ([true, true, false, true, true, true, true, true], (bl_277_9, 9999)) := bk_of pk_277 rfl
theorem bk_277_10 : bk_ am_prog 277 10 = some ([true, true, false, true, true, true, true, true], (bl_277_10, 11)) := bk_of pk_277 rfl
theorem bk_277_11 : bk_ am_prog 277 11 = some ([true, true, false, true, true, true, true, false], (bl_277_11, 9999)) := bk_of pk_277 rfl
theorem bk_277_12 : bk_ am_prog 277 12 = some ([true, true, false, true, true, false, false, false], (bl_277_12, 9999)) := bk_of pk_277 rfl
theorem bk_277_13 : bk_ am_prog 277 13 = some ([false, false, false, false, false, false, false, false], (bl_277_13, 9999)) := bk_of pk_277 rfl
theorem jt_277_1 (h : am_H) (d5 d6 d7 : am_V) (x0 x1 x2 x3 x4 : Int) : JJ 277 1 [(22, x0), (0, x1), (0, x2), (0, x3), (0, x4), d5, d6, d7] [] h = Mo_layFar_1 h x0 x1 x2 x3 x4 := jj_of bk_277_1 _ _ h
theorem jt_277_4 (h : am_H) (d2 d5 d6 d7 : am_V) (x0 x1 x3 x4 : Int) : JJ 277 4 [(22, x0), (0, x1), d2, (0, x3), (0, x4), d5, d6, d7] [] h = Mo_layFar_4 h x0 x1 x3 x4 := jj_of bk_277_4 _ _ h
theorem jt_277_6 (h : am_H) (d2 d7 : am_V) (x0 x1 x3 x4 x5 x6 : Int) : JJ 277 6 [(22, x0), (0, x1), d2, (0, x3), (0, x4), (0, x5), (0, x6), d7] [] h = Mo_layFar_6 h x0 x1 x3 x4 x5 x6 := jj_of bk_277_6 _ _ h
theorem jt_277_9 (h : am_H) (d2 : am_V) (x0 x1 x3 x4 x5 x6 x7 : Int) : JJ 277 9 [(22, x0), (0, x1), d2, (0, x3), (0, x4), (0, x5), (0, x6), (0, x7)] [] h = Mo_layFar_9 h x0 x1 x3 x4 x5 x6 x7 := jj_of bk_277_9 _ _ h
theorem Mo_layFar_e (h : am_H) (x0 x1 x2 x3 : Int) : Mo_layFar h x0 x1 x2 x3 = Mo_layFar_1 h x0 x1 x2 x3 0 := (ff_of bk_277_0 [(22, x0), (0, x1), (0, x2), (0, x3), (9, 0), (9, 0), (9, 0), (9, 0)] [] h).trans (by
  show (JJ 277 1 [(22, x0), (0, x1), (0, x2), (0, x3), (0, 0), (9, 0), (9, 0), (9, 0)] [] h) = _
  simp only [jt_277_1, ck_or1, ck_or2, rf_wr, ln_wr, nn_wr, rf_cp, ln_cp, nn_cp, ln_wf, nn_wf, rd_wf, nn_nw]
  try rfl)
set_option maxRecDepth 20000 in
theorem jt_277_3 (h : am_H) (d4 d5 d6 d7 : am_V) (x0 x1 x2 x3 : Int) : JJ 277 3 [(22, x0), (0, x1), (0, x2), (0, x3), d4, d5, d6, d7] [] h = ck_ (0 ≤ x0) (ck_ (0 ≤ (rf_ h x0 71)) (ck_ (0 ≤ x2 ∧ x2 < ln_ h (rf_ h x0 71)) (ck_ (0 ≤ x0) (ck_ (0 ≤ (rf_ h x0 72)) (ck_ (0 ≤ x2 ∧ x2 < ln_ h (rf_ h x0 72)) (ck_ (0 ≤ x0) (ck_ (0 ≤ (rf_ h x0 73)) (ck_ (0 ≤ (0 : Int) ∧ (0 : Int) < ln_ h (rf_ h x0 73)) (ck_ (0 ≤ x0) (Mo_layFar_4 (wr_ (wr_ (wr_ (wr_ h (rf_ h x0 71) x2 0) (rf_ h x0 72) x2 1) (rf_ h x0 73) 0 x2) x0 74 1) x0 x1 x3 0)))))))))) := (jj_of bk_277_3 _ _ h).trans ((ff_of bk_277_3 [(22, x0), (0, x1), (0, x2), (0, x3), (9, 0), (9, 0), (9, 0), (9, 0)] [] h).trans (by
  show (ck_ (0 ≤ x0) (ck_ (0 ≤ (rf_ h x0 71)) (ck_ (0 ≤ x2 ∧ x2 < ln_ h (rf_ h x0 71)) (ck_ (0 ≤ x0) (ck_ (0 ≤ (rf_ h x0 72)) (ck_ (0 ≤ x2 ∧ x2 < ln_ h (rf_ h x0 72)) (ck_ (0 ≤ x0) (ck_ (0 ≤ (rf_ h x0 73)) (ck_ (0 ≤ (0 : Int) ∧ (0 : Int) < ln_ h (rf_ h x0 73)) (ck_ (0 ≤ x0) (JJ 277 4 [(22, x0), (0, x1), (0, x2), (0, x3), (0, 0), (9, 0), (9, 0), (9, 0)] [] (wr_ (wr_ (wr_ (wr_ h (rf_ h x0 71) x2 0) (rf_ h x0 72) x2 1) (rf_ h x0 73) 0 x2) x0 74 1)))))))))))) = _
  simp only [jt_277_4, ck_or1, ck_or2, rf_wr, ln_wr, nn_wr, rf_cp, ln_cp, nn_cp, ln_wf, nn_wf, rd_wf, nn_nw]
  try rfl))
theorem jt_277_2 (h : am_H) (d5 d6 d7 : am_V) (x0 x1 x2 x3 x4 : Int) : JJ 277 2 [(22, x0), (0, x1), (0, x2), (0, x3), (0, x4), d5, d6, d7] [] h = ck_ (0 ≤ x0) (ck_ (0 ≤ (rf_ h x0 71)) (ck_ (0 ≤ x4 ∧ x4 < ln_ h (rf_ h x0 71)) (Mo_layFar_1 (wr_ h (rf_ h x0 71) x4 (-1)) x0 x1 x2 x3 (w32 (x4 + 1))))) := (jj_of bk_277_2 _ _ h).trans ((ff_of bk_277_2 [(22, x0), (0, x1), (0, x2), (0, x3), (0, x4), (9, 0), (9, 0), (9, 0)] [] h).trans (by
  show (ck_ (0 ≤ x0) (ck_ (0 ≤ (rf_ h x0 71)) (ck_ (0 ≤ x4 ∧ x4 < ln_ h (rf_ h x0 71)) (JJ 277 1 [(22, x0), (0, x1), (0, x2), (0, x3), (0, w32 (x4 + 1)), (9, 0), (9, 0), (9, 0)] [] (wr_ h (rf_ h x0 71) x4 (-1)))))) = _
  simp only [jt_277_1, ck_or1, ck_or2, rf_wr, ln_wr, nn_wr, rf_cp, ln_cp, nn_cp, ln_wf, nn_wf, rd_wf, nn_nw]
  try rfl))
theorem Mo_layFar_1_e (h : am_H) (x0 x1 x2 x3 x4 : Int) : Mo_layFar_1 h x0 x1 x2 x3 x4 = if 3840 ≤ x4 then ck_ (0 ≤ x0) (ck_ (0 ≤ (rf_ h x0 71)) (ck_ (0 ≤ x2 ∧ x2 < ln_ h (rf_ h x0 71)) (ck_ (0 ≤ x0) (ck_ (0 ≤ (rf_ h x0 72)) (ck_ (0 ≤ x2 ∧ x2 < ln_ h (rf_ h x0 72)) (ck_ (0 ≤ x0) (ck_ (0 ≤ (rf_ h x0 73)) (ck_ (0 ≤ (0 : Int) ∧ (0 : Int) < ln_ h (rf_ h x0 73)) (ck_ (0 ≤ x0) (Mo_layFar_4 (wr_ (wr_ (wr_ (wr_ h (rf_ h x0 71) x2 0) (rf_ h x0 72) x2 1) (rf_ h x0 73) 0 x2) x0 74 1) x0 x1 x3 0)))))))))) else ck_ (0 ≤ x0) (ck_ (0 ≤ (rf_ h x0 71)) (ck_ (0 ≤ x4 ∧ x4 < ln_ h (rf_ h x0 71)) (Mo_layFar_1 (wr_ h (rf_ h x0 71) x4 (-1)) x0 x1 x2 x3 (w32 (x4 + 1))))) := (ff_of bk_277_1 [(22, x0), (0, x1), (0, x2), (0, x3), (0, x4), (9, 0), (9, 0), (9, 0)] [] h).trans (by
  show (if 3840 ≤ x4 then JJ 277 3 [(22, x0), (0, x1), (0, x2), (0, x3), (0, x4), (9, 0), (9, 0), (9, 0)] [] h else JJ 277 2 [(22, x0), (0, x1), (0, x2), (0, x3), (0, x4), (9, 0), (9, 0), (9, 0)] [] h) = _
  simp only [jt_277_2, jt_277_3, ck_or1, ck_or2, rf_wr, ln_wr, nn_wr, rf_cp, ln_cp, nn_cp, ln_wf, nn_wf, rd_wf, nn_nw]
  try rfl)
theorem jt_277_13 (h : am_H) (d0 d1 d2 d3 d4 d5 d6 d7 : am_V) : JJ 277 13 [d0, d1, d2, d3, d4, d5, d6, d7] [] h = some (h, 0) := (jj_of bk_277_13 _ _ h).trans (ff_of bk_277_13 [(9, 0), (9, 0), (9, 0), (9, 0), (9, 0), (9, 0), (9, 0), (9, 0)] [] h)
theorem jt_277_5 (h : am_H) (d2 d5 d6 d7 : am_V) (x0 x1 x3 x4 : Int) : JJ 277 5 [(22, x0), (0, x1), d2, (0, x3), (0, x4), d5, d6, d7] [] h = ck_ (0 ≤ x0) (ck_ (0 ≤ (rf_ h x0 73)) (ck_ (0 ≤ x4 ∧ x4 < ln_ h (rf_ h x0 73)) (Mo_layFar_6 h x0 x1 x3 x4 (rd_ h (rf_ h x0 73) x4) 1))) := (jj_of bk_277_5 _ _ h).trans ((ff_of bk_277_5 [(22, x0), (0, x1), (9, 0), (0, x3), (0, x4), (9, 0), (9, 0), (9, 0)] [] h).trans (by
  show (ck_ (0 ≤ x0) (ck_ (0 ≤ (rf_ h x0 73)) (ck_ (0 ≤ x4 ∧ x4 < ln_ h (rf_ h x0 73)) (JJ 277 6 [(22, x0), (0, x1), (9, 0), (0, x3), (0, x4), (0, rd_ h (rf_ h x0 73) x4), (0, 1), (9, 0)] [] h)))) = _
  simp only [jt_277_6, ck_or1, ck_or2, rf_wr, ln_wr, nn_wr, rf_cp, ln_cp, nn_cp, ln_wf, nn_wf, rd_wf, nn_nw]
  try rfl))
theorem Mo_layFar_4_e (h : am_H) (x0 x1 x3 x4 : Int) : Mo_layFar_4 h x0 x1 x3 x4 = ck_ (0 ≤ x0) (if (rd_ h x0 74) ≤ x4 then some (h, 0) else ck_ (0 ≤ x0) (ck_ (0 ≤ (rf_ h x0 73)) (ck_ (0 ≤ x4 ∧ x4 < ln_ h (rf_ h x0 73)) (Mo_layFar_6 h x0 x1 x3 x4 (rd_ h (rf_ h x0 73) x4) 1)))) := (ff_of bk_277_4 [(22, x0), (0, x1), (9, 0), (0, x3), (0, x4), (9, 0), (9, 0), (9, 0)] [] h).trans (by
  show (ck_ (0 ≤ x0) (if (rd_ h x0 74) ≤ x4 then JJ 277 13 [(22, x0), (0, x1), (9, 0), (0, x3), (0, x4), (9, 0), (9, 0), (9, 0)] [] h else JJ 277 5 [(22, x0), (0, x1), (9, 0), (0, x3), (0, x4), (9, 0), (9, 0), (9, 0)] [] h)) = _
  simp only [jt_277_13, jt_277_5, ck_or1, ck_or2, rf_wr, ln_wr, nn_wr, rf_cp, ln_cp, nn_cp, ln_wf, nn_wf, rd_wf, nn_nw]
  try rfl)
theorem jt_277_12 (h : am_H) (d2 d5 d6 d7 : am_V) (x0 x1 x3 x4 : Int) : JJ 277 12 [(22, x0), (0, x1), d2, (0, x3), (0, x4), d5, d6, d7] [] h = Mo_layFar_4 h x0 x1 x3 (w32 (x4 + 1)) := (jj_of bk_277_12 _ _ h).trans ((ff_of bk_277_12 [(22, x0), (0, x1), (9, 0), (0, x3), (0, x4), (9, 0), (9, 0), (9, 0)] [] h).trans (by
  show (JJ 277 4 [(22, x0), (0, x1), (9, 0), (0, x3), (0, w32 (x4 + 1)), (9, 0), (9, 0), (9, 0)] [] h) = _
  simp only [jt_277_4, ck_or1, ck_or2, rf_wr, ln_wr, nn_wr, rf_cp, ln_cp, nn_cp, ln_wf, nn_wf, rd_wf, nn_nw]
  try rfl))
set_option maxRecDepth 20000 in
theorem jt_277_8 (h : am_H) (d2 : am_V) (x0 x1 x3 x4 x5 x6 x7 : Int) : JJ 277 8 [(22, x0), (0, x1), d2, (0, x3), (0, x4), (0, x5), (0, x6), (0, x7)] [] h = ck_ (0 ≤ x0) (ck_ (0 ≤ x0) (ck_ (0 ≤ (rf_ h x0 71)) (ck_ (0 ≤ x5 ∧ x5 < ln_ h (rf_ h x0 71)) (ck_ (0 ≤ (rf_ h x0 71)) (ck_ (0 ≤ x7 ∧ x7 < ln_ h (rf_ h x0 71)) (ck_ (0 ≤ x0) (ck_ (0 ≤ (rf_ h x0 72)) (ck_ (0 ≤ x7 ∧ x7 < ln_ h (rf_ h x0 72)) (ck_ (0 ≤ x0) (ck_ (0 ≤ x0) (ck_ (0 ≤ (rf_ h x0 73)) (ck_ (0 ≤ (rd_ (wr_ (wr_ h (rf_ h x0 71) x7 (w32 ((rd_ h (rf_ h x0 71) x5) + 1))) (rf_ h x0 72) x7 0) x0 74) ∧ (rd_ (wr_ (wr_ h (rf_ h x0 71) x7 (w32 ((rd_ h (rf_ h x0 71) x5) + 1))) (rf_ h x0 72) x7 0) x0 74) < ln_ h (rf_ h x0 73)) (ck_ (0 ≤ x0) (ck_ (0 ≤ x0) (Mo_layFar_9 (wr_ (wr_ (wr_ (wr_ h (rf_ h x0 71) x7 (w32 ((rd_ h (rf_ h x0 71) x5) + 1))) (rf_ h x0 72) x7 0) (rf_ h x0 73) (rd_ (wr_ (wr_ h (rf_ h x0 71) x7 (w32 ((rd_ h (rf_ h x0 71) x5) + 1))) (rf_ h x0 72) x7 0) x0 74) x7) x0 74 (w32 ((rd_ (wr_ (wr_ (wr_ h (rf_ h x0 71) x7 (w32 ((rd_ h (rf_ h x0 71) x5) + 1))) (rf_ h x0 72) x7 0) (rf_ h x0 73) (rd_ (wr_ (wr_ h (rf_ h x0 71) x7 (w32 ((rd_ h (rf_ h x0 71) x5) + 1))) (rf_ h x0 72) x7 0) x0 74) x7) x0 74) + 1))) x0 x1 x3 x4 x5 x6 x7))))))))))))))) := (jj_of bk_277_8 _ _ h).trans ((ff_of bk_277_8 [(22, x0), (0, x1), (9, 0), (0, x3), (0, x4), (0, x5), (0, x6), (0, x7)] [] h).trans (by
  show (ck_ (0 ≤ x0) (ck_ (0 ≤ x0) (ck_ (0 ≤ (rf_ h x0 71)) (ck_ (0 ≤ x5 ∧ x5 < ln_ h (rf_ h x0 71)) (ck_ (0 ≤ (rf_ h x0 71)) (ck_ (0 ≤ x7 ∧ x7 < ln_ h (rf_ h x0 71)) (ck_ (0 ≤ x0) (ck_ (0 ≤ (rf_ h x0 72)) (ck_ (0 ≤ x7 ∧ x7 < ln_ h (rf_ h x0 72)) (ck_ (0 ≤ x0) (ck_ (0 ≤ x0) (ck_ (0 ≤ (rf_ h x0 73)) (ck_ (0 ≤ (rd_ (wr_ (wr_ h (rf_ h x0 71) x7 (w32 ((rd_ h (rf_ h x0 71) x5) + 1))) (rf_ h x0 72) x7 0) x0 74) ∧ (rd_ (wr_ (wr_ h (rf_ h x0 71) x7 (w32 ((rd_ h (rf_ h x0 71) x5) + 1))) (rf_ h x0 72) x7 0) x0 74) < ln_ h (rf_ h x0 73)) (ck_ (0 ≤ x0) (ck_ (0 ≤ x0) (JJ 277 9 [(22, x0), (0, x1), (9, 0), (0, x3), (0, x4), (0, x5), (0, x6), (0, x7)] [] (wr_ (wr_ (wr_ (wr_ h (rf_ h x0 71) x7 (w32 ((rd_ h (rf_ h x0 71) x5) + 1))) (rf_ h x0 72) x7 0) (rf_ h x0 73) (rd_ (wr_ (wr_ h (rf_ h x0 71) x7 (w32 ((rd_ h (rf_ h x0 71) x5) + 1))) (rf_ h x0 72) x7 0) x0 74) x7) x0 74 (w32 ((rd_ (wr_ (wr_ (wr_ h (rf_ h x0 71) x7 (w32 ((rd_ h (rf_ h x0 71) x5) + 1))) (rf_ h x0 72) x7 0) (rf_ h x0 73) (rd_ (wr_ (wr_ h (rf_ h x0 71) x7 (w32 ((rd_ h (rf_ h x0 71) x5) + 1))) (rf_ h x0 72) x7 0) x0 74) x7) x0 74) + 1))))))))))))))))))) = _
  simp only [jt_277_9, ck_or1, ck_or2, rf_wr, ln_wr, nn_wr, rf_cp, ln_cp, nn_cp, ln_wf, nn_wf, rd_wf, nn_nw]
  try rfl))
set_option maxRecDepth 20000 in
theorem jt_277_7 (h : am_H) (d2 d7 : am_V) (x0 x1 x3 x4 x5 x6 : Int) : JJ 277 7 [(22, x0), (0, x1), d2, (0, x3), (0, x4), (0, x5), (0, x6), d7] [] h = ck_ (0 ≤ x0) (bd_ (Mo_turnedCode h x0 x1 x5 x6 x3) fun h1 v2 => ck_ (0 ≤ x0) (ck_ (0 ≤ (rf_ h1 x0 71)) (ck_ (0 ≤ v2 ∧ v2 < ln_ h1 (rf_ h1 x0 71)) (if 0 ≤ (rd_ h1 (rf_ h1 x0 71) v2) then Mo_layFar_9 h1 x0 x1 x3 x4 x5 x6 v2 else ck_ (0 ≤ x0) (ck_ (0 ≤ x0) (ck_ (0 ≤ (rf_ h1 x0 71)) (ck_ (0 ≤ x5 ∧ x5 < ln_ h1 (rf_ h1 x0 71)) (ck_ (0 ≤ (rf_ h1 x0 71)) (ck_ (0 ≤ v2 ∧ v2 < ln_ h1 (rf_ h1 x0 71)) (ck_ (0 ≤ x0) (ck_ (0 ≤ (rf_ h1 x0 72)) (ck_ (0 ≤ v2 ∧ v2 < ln_ h1 (rf_ h1 x0 72)) (ck_ (0 ≤ x0) (ck_ (0 ≤ x0) (ck_ (0 ≤ (rf_ h1 x0 73)) (ck_ (0 ≤ (rd_ (wr_ (wr_ h1 (rf_ h1 x0 71) v2 (w32 ((rd_ h1 (rf_ h1 x0 71) x5) + 1))) (rf_ h1 x0 72) v2 0) x0 74) ∧ (rd_ (wr_ (wr_ h1 (rf_ h1 x0 71) v2 (w32 ((rd_ h1 (rf_ h1 x0 71) x5) + 1))) (rf_ h1 x0 72) v2 0) x0 74) < ln_ h1 (rf_ h1 x0 73)) (ck_ (0 ≤ x0) (ck_ (0 ≤ x0) (Mo_layFar_9 (wr_ (wr_ (wr_ (wr_ h1 (rf_ h1 x0 71) v2 (w32 ((rd_ h1 (rf_ h1 x0 71) x5) + 1))) (rf_ h1 x0 72) v2 0) (rf_ h1 x0 73) (rd_ (wr_ (wr_ h1 (rf_ h1 x0 71) v2 (w32 ((rd_ h1 (rf_ h1 x0 71) x5) + 1))) (rf_ h1 x0 72) v2 0) x0 74) v2) x0 74 (w32 ((rd_ (wr_ (wr_ (wr_ h1 (rf_ h1 x0 71) v2 (w32 ((rd_ h1 (rf_ h1 x0 71) x5) + 1))) (rf_ h1 x0 72) v2 0) (rf_ h1 x0 73) (rd_ (wr_ (wr_ h1 (rf_ h1 x0 71) v2 (w32 ((rd_ h1 (rf_ h1 x0 71) x5) + 1))) (rf_ h1 x0 72) v2 0) x0 74) v2) x0 74) + 1))) x0 x1 x3 x4 x5 x6 v2))))))))))))))))))) := (jj_of bk_277_7 _ _ h).trans ((ff_of bk_277_7 [(22, x0), (0, x1), (9, 0), (0, x3), (0, x4), (0, x5), (0, x6), (9, 0)] [] h).trans (by
  show (ck_ (0 ≤ x0) (bd_ (CC 276 [(22, x0), (0, x1), (0, x5), (0, x6), (0, x3)] h) fun h1 v2 => ck_ (0 ≤ x0) (ck_ (0 ≤ (rf_ h1 x0 71)) (ck_ (0 ≤ v2 ∧ v2 < ln_ h1 (rf_ h1 x0 71)) (if 0 ≤ (rd_ h1 (rf_ h1 x0 71) v2) then JJ 277 9 [(22, x0), (0, x1), (9, 0), (0, x3), (0, x4), (0, x5), (0, x6), (0, v2)] [] h1 else JJ 277 8 [(22, x0), (0, x1), (9, 0), (0, x3), (0, x4), (0, x5), (0, x6), (0, v2)] [] h1))))) = _
  simp only [cc_276, jt_277_8, jt_277_9, ck_or1, ck_or2, rf_wr, ln_wr, nn_wr, rf_cp, ln_cp, nn_cp, ln_wf, nn_wf, rd_wf, nn_nw]
  try rfl))
set_option maxRecDepth 20000 in
theorem Mo_layFar_6_e (h : am_H) (x0 x1 x3 x4 x5 x6 : Int) : Mo_layFar_6 h x0 x1 x3 x4 x5 x6 = if x1 < x6 then Mo_layFar_4 h x0 x1 x3 (w32 (x4 + 1)) else ck_ (0 ≤ x0) (bd_ (Mo_turnedCode h x0 x1 x5 x6 x3) fun h1 v2 => ck_ (0 ≤ x0) (ck_ (0 ≤ (rf_ h1 x0 71)) (ck_ (0 ≤ v2 ∧ v2 < ln_ h1 (rf_ h1 x0 71)) (if 0 ≤ (rd_ h1 (rf_ h1 x0 71) v2) then Mo_layFar_9 h1 x0 x1 x3 x4 x5 x6 v2 else ck_ (0 ≤ x0) (ck_ (0 ≤ x0) (ck_ (0 ≤ (rf_ h1 x0 71)) (ck_ (0 ≤ x5 ∧ x5 < ln_ h1 (rf_ h1 x0 71)) (ck_ (0 ≤ (rf_ h1 x0 71)) (ck_ (0 ≤ v2 ∧ v2 < ln_ h1 (rf_ h1 x0 71)) (ck_ (0 ≤ x0) (ck_ (0 ≤ (rf_ h1 x0 72)) (ck_ (0 ≤ v2 ∧ v2 < ln_ h1 (rf_ h1 x0 72)) (ck_ (0 ≤ x0) (ck_ (0 ≤ x0) (ck_ (0 ≤ (rf_ h1 x0 73)) (ck_ (0 ≤ (rd_ (wr_ (wr_ h1 (rf_ h1 x0 71) v2 (w32 ((rd_ h1 (rf_ h1 x0 71) x5) + 1))) (rf_ h1 x0 72) v2 0) x0 74) ∧ (rd_ (wr_ (wr_ h1 (rf_ h1 x0 71) v2 (w32 ((rd_ h1 (rf_ h1 x0 71) x5) + 1))) (rf_ h1 x0 72) v2 0) x0 74) < ln_ h1 (rf_ h1 x0 73)) (ck_ (0 ≤ x0) (ck_ (0 ≤ x0) (Mo_layFar_9 (wr_ (wr_ (wr_ (wr_ h1 (rf_ h1 x0 71) v2 (w32 ((rd_ h1 (rf_ h1 x0 71) x5) + 1))) (rf_ h1 x0 72) v2 0) (rf_ h1 x0 73) (rd_ (wr_ (wr_ h1 (rf_ h1 x0 71) v2 (w32 ((rd_ h1 (rf_ h1 x0 71) x5) + 1))) (rf_ h1 x0 72) v2 0) x0 74) v2) x0 74 (w32 ((rd_ (wr_ (wr_ (wr_ h1 (rf_ h1 x0 71) v2 (w32 ((rd_ h1 (rf_ h1 x0 71) x5) + 1))) (rf_ h1 x0 72) v2 0) (rf_ h1 x0 73) (rd_ (wr_ (wr_ h1 (rf_ h1 x0 71) v2 (w32 ((rd_ h1 (rf_ h1 x0 71) x5) + 1))) (rf_ h1 x0 72) v2 0) x0 74) v2) x0 74) + 1))) x0 x1 x3 x4 x5 x6 v2))))))))))))))))))) := (ff_of bk_277_6 [(22, x0), (0, x1), (9, 0), (0, x3), (0, x4), (0, x5), (0, x6), (9, 0)] [] h).trans (by
  show (if x1 < x6 then JJ 277 12 [(22, x0), (0, x1), (9, 0), (0, x3), (0, x4), (0, x5), (0, x6), (9, 0)] [] h else JJ 277 7 [(22, x0), (0, x1), (9, 0), (0, x3), (0, x4), (0, x5), (0, x6), (9, 0)] [] h) = _
  simp only [jt_277_12, jt_277_7, ck_or1, ck_or2, rf_wr, ln_wr, nn_wr, rf_cp, ln_cp, nn_cp, ln_wf, nn_wf, rd_wf, nn_nw]
  try rfl)
theorem jt_277_11 (h : am_H) (d2 d7 : am_V) (x0 x1 x3 x4 x5 x6 : Int) : JJ 277 11 [(22, x0), (0, x1), d2, (0, x3), (0, x4), (0, x5), (0, x6), d7] [] h = Mo_layFar_6 h x0 x1 x3 x4 x5 (w32 (x6 + 1)) := (jj_of bk_277_11 _ _ h).trans ((ff_of bk_277_11 [(22, x0), (0, x1), (9, 0), (0, x3), (0, x4), (0, x5), (0, x6), (9, 0)] [] h).trans (by
  show (JJ 277 6 [(22, x0), (0, x1), (9, 0), (0, x3), (0, x4), (0, x5), (0, w32 (x6 + 1)), (9, 0)] [] h) = _
  simp only [jt_277_6, ck_or1, ck_or2, rf_wr, ln_wr, nn_wr, rf_cp, ln_cp, nn_cp, ln_wf, nn_wf, rd_wf, nn_nw]
  try rfl))
theorem jt_277_10 (h : am_H) (d2 : am_V) (x0 x1 x3 x4 x5 x6 x7 : Int) : JJ 277 10 [(22, x0), (0, x1), d2, (0, x3), (0, x4), (0, x5), (0, x6), (0, x7)] [] h = ck_ (0 ≤ x0) (ck_ (0 ≤ (rf_ h x0 72)) (ck_ (0 ≤ x7 ∧ x7 < ln_ h (rf_ h x0 72)) (ck_ (0 ≤ x0) (ck_ (0 ≤ (rf_ h x0 72)) (ck_ (0 ≤ x5 ∧ x5 < ln_ h (rf_ h x0 72)) (ck_ (0 ≤ (rf_ h x0 72)) (ck_ (0 ≤ x7 ∧ x7 < ln_ h (rf_ h x0 72)) (Mo_layFar_6 (wr_ h (rf_ h x0 72) x7 (w32 ((rd_ h (rf_ h x0 72) x7) + (rd_ h (rf_ h x0 72) x5)))) x0 x1 x3 x4 x5 (w32 (x6 + 1)))))))))) := (jj_of bk_277_10 _ _ h).trans ((ff_of bk_277_10 [(22, x0), (0, x1), (9, 0), (0, x3), (0, x4), (0, x5), (0, x6), (0, x7)] [] h).trans (by
  show (ck_ (0 ≤ x0) (ck_ (0 ≤ (rf_ h x0 72)) (ck_ (0 ≤ x7 ∧ x7 < ln_ h (rf_ h x0 72)) (ck_ (0 ≤ x0) (ck_ (0 ≤ (rf_ h x0 72)) (ck_ (0 ≤ x5 ∧ x5 < ln_ h (rf_ h x0 72)) (ck_ (0 ≤ (rf_ h x0 72)) (ck_ (0 ≤ x7 ∧ x7 < ln_ h (rf_ h x0 72)) (JJ 277 11 [(22, x0), (0, x1), (9, 0), (0, x3), (0, x4), (0, x5), (0, x6), (0, x7)] [] (wr_ h (rf_ h x0 72) x7 (w32 ((rd_ h (rf_ h x0 72) x7) + (rd_ h (rf_ h x0 72) x5))))))))))))) = _
  simp only [jt_277_11, ck_or1, ck_or2, rf_wr, ln_wr, nn_wr, rf_cp, ln_cp, nn_cp, ln_wf, nn_wf, rd_wf, nn_nw]
  try rfl))
set_option maxRecDepth 20000 in
theorem Mo_layFar_9_e (h : am_H) (x0 x1 x3 x4 x5 x6 x7 : Int) : Mo_layFar_9 h x0 x1 x3 x4 x5 x6 x7 = ck_ (0 ≤ x0) (ck_ (0 ≤ (rf_ h x0 71)) (ck_ (0 ≤ x7 ∧ x7 < ln_ h (rf_ h x0 71)) (ck_ (0 ≤ x0) (ck_ (0 ≤ (rf_ h x0 71)) (ck_ (0 ≤ x5 ∧ x5 < ln_ h (rf_ h x0 71)) (if (rd_ h (rf_ h x0 71) x7) ≠ (w32 ((rd_ h (rf_ h x0 71) x5) + 1)) then Mo_layFar_6 h x0 x1 x3 x4 x5 (w32 (x6 + 1)) else ck_ (0 ≤ x0) (ck_ (0 ≤ (rf_ h x0 72)) (ck_ (0 ≤ x7 ∧ x7 < ln_ h (rf_ h x0 72)) (ck_ (0 ≤ x0) (ck_ (0 ≤ (rf_ h x0 72)) (ck_ (0 ≤ x5 ∧ x5 < ln_ h (rf_ h x0 72)) (ck_ (0 ≤ (rf_ h x0 72)) (ck_ (0 ≤ x7 ∧ x7 < ln_ h (rf_ h x0 72)) (Mo_layFar_6 (wr_ h (rf_ h x0 72) x7 (w32 ((rd_ h (rf_ h x0 72) x7) + (rd_ h (rf_ h x0 72) x5)))) x0 x1 x3 x4 x5 (w32 (x6 + 1)))))))))))))))) := (ff_of bk_277_9 [(22, x0), (0, x1), (9, 0), (0, x3), (0, x4), (0, x5), (0, x6), (0, x7)] [] h).trans (by
  show (ck_ (0 ≤ x0) (ck_ (0 ≤ (rf_ h x0 71)) (ck_ (0 ≤ x7 ∧ x7 < ln_ h (rf_ h x0 71)) (ck_ (0 ≤ x0) (ck_ (0 ≤ (rf_ h x0 71)) (ck_ (0 ≤ x5 ∧ x5 < ln_ h (rf_ h x0 71)) (if (rd_ h (rf_ h x0 71) x7) ≠ (w32 ((rd_ h (rf_ h x0 71) x5) + 1)) then JJ 277 11 [(22, x0), (0, x1), (9, 0), (0, x3), (0, x4), (0, x5), (0, x6), (0, x7)] [] h else JJ 277 10 [(22, x0), (0, x1), (9, 0), (0, x3), (0, x4), (0, x5), (0, x6), (0, x7)] [] h))))))) = _
  simp only [jt_277_10, jt_277_11, ck_or1, ck_or2, rf_wr, ln_wr, nn_wr, rf_cp, ln_cp, nn_cp, ln_wf, nn_wf, rd_wf, nn_nw]
  try rfl)
theorem cc_277 (h : am_H) (x0 x1 x2 x3 : Int) : CC 277 [(22, x0), (0, x1), (0, x2), (0, x3)] h = Mo_layFar h x0 x1 x2 x3 := cc_of pk_277 _ h
set_option maxRecDepth 20000 in
theorem pk_278 : am_prog 278 = some cd_278 := rfl
theorem bk_278_0 : bk_ am_prog 278 0 = some ([true, true, true], (bl_278_0, 9999)) := bk_of pk_278 rfl
theorem bk_278_1 : bk_ am_prog 278 1 = some ([true, true, true], (bl_278_1, 9999)) := bk_of pk_278 rfl
theorem bk_278_2 : bk_ am_prog 278 2 = some ([false, false, false], (bl_278_2, 9999)) := bk_of pk_278 rfl
theorem bk_278_3 : bk_ am_prog 278 3 = some ([true, true, true], (bl_278_3, 9999)) := bk_of pk_278 rfl
theorem jt_278_2 (h : am_H) (d0 d1 d2 : am_V) : JJ 278 2 [d0, d1, d2] [] h = some (h, (-1)) := (jj_of bk_278_2 _ _ h).trans (ff_of bk_278_2 [(9, 0), (9, 0), (9, 0)] [] h)
theorem jt_278_3 (h : am_H) (x0 x1 x2 : Int) : JJ 278 3 [(22, x0), (0, x1), (0, x2)] [] h = ck_ (0 ≤ x0) (ck_ (0 ≤ (rf_ h x0 52)) (ck_ (0 ≤ x1 ∧ x1 < ln_ h (rf_ h x0 52)) (ck_ (0 ≤ x0) (bd_ (Mo_layFar h x0 (rd_ h (rf_ h x0 52) x1) 0 x2) fun h1 _ => ck_ (0 ≤ x0) (ck_ (0 ≤ x0) (bd_ (Mo_codeOfPile h1 x0 x1 x2) fun h3 v4 => ck_ (0 ≤ (rf_ h1 x0 71)) (ck_ (0 ≤ v4 ∧ v4 < ln_ h3 (rf_ h1 x0 71)) (some (h3, rd_ h3 (rf_ h1 x0 71) v4))))))))) := (jj_of bk_278_3 _ _ h).trans ((ff_of bk_278_3 [(22, x0), (0, x1), (0, x2)] [] h).trans (by
  show (ck_ (0 ≤ x0) (ck_ (0 ≤ (rf_ h x0 52)) (ck_ (0 ≤ x1 ∧ x1 < ln_ h (rf_ h x0 52)) (ck_ (0 ≤ x0) (bd_ (CC 277 [(22, x0), (0, rd_ h (rf_ h x0 52) x1), (0, 0), (0, x2)] h) fun h1 _ => ck_ (0 ≤ x0) (ck_ (0 ≤ x0) (bd_ (CC 275 [(22, x0), (0, x1), (0, x2)] h1) fun h3 v4 => ck_ (0 ≤ (rf_ h1 x0 71)) (ck_ (0 ≤ v4 ∧ v4 < ln_ h3 (rf_ h1 x0 71)) (some (h3, rd_ h3 (rf_ h1 x0 71) v4)))))))))) = _
  simp only [cc_275, cc_277, ck_or1, ck_or2, rf_wr, ln_wr, nn_wr, rf_cp, ln_cp, nn_cp, ln_wf, nn_wf, rd_wf, nn_nw]
  try rfl))
theorem jt_278_1 (h : am_H) (x0 x1 x2 : Int) : JJ 278 1 [(22, x0), (0, x1), (0, x2)] [] h = bd_ (Mo_isIn h x2 0 1) fun h1 v2 => if v2 ≠ 0 then ck_ (0 ≤ x0) (ck_ (0 ≤ (rf_ h1 x0 52)) (ck_ (0 ≤ x1 ∧ x1 < ln_ h1 (rf_ h1 x0 52)) (ck_ (0 ≤ x0) (bd_ (Mo_layFar h1 x0 (rd_ h1 (rf_ h1 x0 52) x1) 0 x2) fun h3 _ => ck_ (0 ≤ x0) (ck_ (0 ≤ x0) (bd_ (Mo_codeOfPile h3 x0 x1 x2) fun h5 v6 => ck_ (0 ≤ (rf_ h3 x0 71)) (ck_ (0 ≤ v6 ∧ v6 < ln_ h5 (rf_ h3 x0 71)) (some (h5, rd_ h5 (rf_ h3 x0 71) v6))))))))) else some (h1, (-1)) := (jj_of bk_278_1 _ _ h).trans ((ff_of bk_278_1 [(22, x0), (0, x1), (0, x2)] [] h).trans (by
  show (bd_ (CC 196 [(0, x2), (0, 0), (0, 1)] h) fun h1 v2 => if v2 ≠ 0 then JJ 278 3 [(22, x0), (0, x1), (0, x2)] [] h1 else JJ 278 2 [(22, x0), (0, x1), (0, x2)] [] h1) = _
  simp only [cc_196, jt_278_2, jt_278_3, ck_or1, ck_or2, rf_wr, ln_wr, nn_wr, rf_cp, ln_cp, nn_cp, ln_wf, nn_wf, rd_wf, nn_nw]
  try rfl))
theorem Mo_fewest_e (h : am_H) (x0 x1 x2 : Int) : Mo_fewest h x0 x1 x2 = ck_ (0 ≤ x0) (ck_ (0 ≤ x0) (bd_ (Mo_isPile (wr_ h x0 2 0) x0 x1) fun h1 v2 => if v2 = 0 then some (h1, (-1)) else bd_ (Mo_isIn h1 x2 0 1) fun h3 v4 => if v4 ≠ 0 then ck_ (0 ≤ x0) (ck_ (0 ≤ (rf_ h3 x0 52)) (ck_ (0 ≤ x1 ∧ x1 < ln_ h3 (rf_ h3 x0 52)) (ck_ (0 ≤ x0) (bd_ (Mo_layFar h3 x0 (rd_ h3 (rf_ h3 x0 52) x1) 0 x2) fun h5 _ => ck_ (0 ≤ x0) (ck_ (0 ≤ x0) (bd_ (Mo_codeOfPile h5 x0 x1 x2) fun h7 v8 => ck_ (0 ≤ (rf_ h5 x0 71)) (ck_ (0 ≤ v8 ∧ v8 < ln_ h7 (rf_ h5 x0 71)) (some (h7, rd_ h7 (rf_ h5 x0 71) v8))))))))) else some (h3, (-1)))) := (ff_of bk_278_0 [(22, x0), (0, x1), (0, x2)] [] h).trans (by
  show (ck_ (0 ≤ x0) (ck_ (0 ≤ x0) (bd_ (CC 236 [(22, x0), (0, x1)] (wr_ h x0 2 0)) fun h1 v2 => if v2 = 0 then JJ 278 2 [(22, x0), (0, x1), (0, x2)] [] h1 else JJ 278 1 [(22, x0), (0, x1), (0, x2)] [] h1))) = _
  simp only [cc_236, jt_278_1, jt_278_2, ck_or1, ck_or2, rf_wr, ln_wr, nn_wr, rf_cp, ln_cp, nn_cp, ln_wf, nn_wf, rd_wf, nn_nw]
  try rfl)
theorem cc_278 (h : am_H) (x0 x1 x2 : Int) : CC 278 [(22, x0), (0, x1), (0, x2)] h = Mo_fewest h x0 x1 x2 := cc_of pk_278 _ h
set_option maxRecDepth 20000 in
theorem pk_279 : am_prog 279 = some cd_279 := rfl
theorem bk_279_0 : bk_ am_prog 279 0 = some ([true, true, true, false, false], (bl_279_0, 9999)) := bk_of pk_279 rfl
theorem bk_279_1 : bk_ am_prog 279 1 = some ([true, true, true, false, false], (bl_279_1, 9999)) := bk_of pk_279 rfl
theorem bk_279_2 : bk_ am_prog 279 2 = some ([false, false, false, false, false], (bl_279_2, 9999)) := bk_of pk_279 rfl
theorem bk_279_3 : bk_ am_prog 279 3 = some ([true, true, true, false, false], (bl_279_3, 4)) := bk_of pk_279 rfl
theorem bk_279_4 : bk_ am_prog 279 4 = some ([true, true, true, true, true], (bl_279_4, 9999)) := bk_of pk_279 rfl
theorem bk_279_5 : bk_ am_prog 279 5 = some ([true, true, true, true, true], (bl_279_5, 9999)) := bk_of pk_279 rfl
theorem bk_279_6 : bk_ am_prog 279 6 = some ([false, false, false, false, true], (bl_279_6, 9999)) := bk_of pk_279 rfl
theorem bk_279_7 : bk_ am_prog 279 7 = some ([true, true, true, true, true], (bl_279_7, 9999)) := bk_of pk_279 rfl
theorem bk_279_8 : bk_ am_prog 279 8 = some ([false, false, false, false, false], (bl_279_8, 9999)) := bk_of pk_279 rfl
theorem jt_279_4 (h : am_H) (x0 x1 x2 x3 x4 : Int) : JJ 279 4 [(22, x0), (0, x1), (0, x2), (0, x3), (0, x4)] [] h = Mo_first_4 h x0 x1 x2 x3 x4 := jj_of bk_279_4 _ _ h
theorem jt_279_2 (h : am_H) (d0 d1 d2 d3 d4 : am_V) : JJ 279 2 [d0, d1, d2, d3, d4] [] h = some (h, (-1)) := (jj_of bk_279_2 _ _ h).trans (ff_of bk_279_2 [(9, 0), (9, 0), (9, 0), (9, 0), (9, 0)] [] h)
theorem jt_279_3 (h : am_H) (d3 d4 : am_V) (x0 x1 x2 : Int) : JJ 279 3 [(22, x0), (0, x1), (0, x2), d3, d4] [] h = ck_ (0 ≤ x0) (ck_ (0 ≤ (rf_ h x0 52)) (ck_ (0 ≤ x1 ∧ x1 < ln_ h (rf_ h x0 52)) (ck_ (0 ≤ x0) (bd_ (Mo_layFar h x0 (rd_ h (rf_ h x0 52) x1) 0 x2) fun h1 _ => ck_ (0 ≤ x0) (bd_ (Mo_codeOfPile h1 x0 x1 x2) fun h3 v4 => Mo_first_4 h3 x0 x1 x2 v4 1))))) := (jj_of bk_279_3 _ _ h).trans ((ff_of bk_279_3 [(22, x0), (0, x1), (0, x2), (9, 0), (9, 0)] [] h).trans (by
  show (ck_ (0 ≤ x0) (ck_ (0 ≤ (rf_ h x0 52)) (ck_ (0 ≤ x1 ∧ x1 < ln_ h (rf_ h x0 52)) (ck_ (0 ≤ x0) (bd_ (CC 277 [(22, x0), (0, rd_ h (rf_ h x0 52) x1), (0, 0), (0, x2)] h) fun h1 _ => ck_ (0 ≤ x0) (bd_ (CC 275 [(22, x0), (0, x1), (0, x2)] h1) fun h3 v4 => JJ 279 4 [(22, x0), (0, x1), (0, x2), (0, v4), (0, 1)] [] h3)))))) = _
  simp only [cc_275, cc_277, jt_279_4, ck_or1, ck_or2, rf_wr, ln_wr, nn_wr, rf_cp, ln_cp, nn_cp, ln_wf, nn_wf, rd_wf, nn_nw]
  try rfl))
theorem jt_279_1 (h : am_H) (d3 d4 : am_V) (x0 x1 x2 : Int) : JJ 279 1 [(22, x0), (0, x1), (0, x2), d3, d4] [] h = bd_ (Mo_isIn h x2 0 1) fun h1 v2 => if v2 ≠ 0 then ck_ (0 ≤ x0) (ck_ (0 ≤ (rf_ h1 x0 52)) (ck_ (0 ≤ x1 ∧ x1 < ln_ h1 (rf_ h1 x0 52)) (ck_ (0 ≤ x0) (bd_ (Mo_layFar h1 x0 (rd_ h1 (rf_ h1 x0 52) x1) 0 x2) fun h3 _ => ck_ (0 ≤ x0) (bd_ (Mo_codeOfPile h3 x0 x1 x2) fun h5 v6 => Mo_first_4 h5 x0 x1 x2 v6 1))))) else some (h1, (-1)) := (jj_of bk_279_1 _ _ h).trans ((ff_of bk_279_1 [(22, x0), (0, x1), (0, x2), (9, 0), (9, 0)] [] h).trans (by
  show (bd_ (CC 196 [(0, x2), (0, 0), (0, 1)] h) fun h1 v2 => if v2 ≠ 0 then JJ 279 3 [(22, x0), (0, x1), (0, x2), (9, 0), (9, 0)] [] h1 else JJ 279 2 [(22, x0), (0, x1), (0, x2), (9, 0), (9, 0)] [] h1) = _
  simp only [cc_196, jt_279_2, jt_279_3, ck_or1, ck_or2, rf_wr, ln_wr, nn_wr, rf_cp, ln_cp, nn_cp, ln_wf, nn_wf, rd_wf, nn_nw]
  try rfl))
theorem Mo_first_e (h : am_H) (x0 x1 x2 : Int) : Mo_first h x0 x1 x2 = ck_ (0 ≤ x0) (ck_ (0 ≤ x0) (bd_ (Mo_isPile (wr_ h x0 2 0) x0 x1) fun h1 v2 => if v2 = 0 then some (h1, (-1)) else bd_ (Mo_isIn h1 x2 0 1) fun h3 v4 => if v4 ≠ 0 then ck_ (0 ≤ x0) (ck_ (0 ≤ (rf_ h3 x0 52)) (ck_ (0 ≤ x1 ∧ x1 < ln_ h3 (rf_ h3 x0 52)) (ck_ (0 ≤ x0) (bd_ (Mo_layFar h3 x0 (rd_ h3 (rf_ h3 x0 52) x1) 0 x2) fun h5 _ => ck_ (0 ≤ x0) (bd_ (Mo_codeOfPile h5 x0 x1 x2) fun h7 v8 => Mo_first_4 h7 x0 x1 x2 v8 1))))) else some (h3, (-1)))) := (ff_of bk_279_0 [(22, x0), (0, x1), (0, x2), (9, 0), (9, 0)] [] h).trans (by
  show (ck_ (0 ≤ x0) (ck_ (0 ≤ x0) (bd_ (CC 236 [(22, x0), (0, x1)] (wr_ h x0 2 0)) fun h1 v2 => if v2 = 0 then JJ 279 2 [(22, x0), (0, x1), (0, x2), (9, 0), (9, 0)] [] h1 else JJ 279 1 [(22, x0), (0, x1), (0, x2), (9, 0), (9, 0)] [] h1))) = _
  simp only [cc_236, jt_279_1, jt_279_2, ck_or1, ck_or2, rf_wr, ln_wr, nn_wr, rf_cp, ln_cp, nn_cp, ln_wf, nn_wf, rd_wf, nn_nw]
  try rfl)
theorem jt_279_8 (h : am_H) (d0 d1 d2 d3 d4 : am_V) : JJ 279 8 [d0, d1, d2, d3, d4] [] h = some (h, (-2)) := (jj_of bk_279_8 _ _ h).trans (ff_of bk_279_8 [(9, 0), (9, 0), (9, 0), (9, 0), (9, 0)] [] h)
theorem jt_279_7 (h : am_H) (x0 x1 x2 x3 x4 : Int) : JJ 279 7 [(22, x0), (0, x1), (0, x2), (0, x3), (0, x4)] [] h = Mo_first_4 h x0 x1 x2 x3 (w32 (x4 + 1)) := (jj_of bk_279_7 _ _ h).trans ((ff_of bk_279_7 [(22, x0), (0, x1), (0, x2), (0, x3), (0, x4)] [] h).trans (by
  show (JJ 279 4 [(22, x0), (0, x1), (0, x2), (0, x3), (0, w32 (x4 + 1))] [] h) = _
  simp only [jt_279_4, ck_or1, ck_or2, rf_wr, ln_wr, nn_wr, rf_cp, ln_cp, nn_cp, ln_wf, nn_wf, rd_wf, nn_nw]
  try rfl))
theorem jt_279_6 (h : am_H) (d0 d1 d2 d3 : am_V) (x4 : Int) : JJ 279 6 [d0, d1, d2, d3, (0, x4)] [] h = some (h, x4) := (jj_of bk_279_6 _ _ h).trans (ff_of bk_279_6 [(9, 0), (9, 0), (9, 0), (9, 0), (0, x4)] [] h)
set_option maxRecDepth 20000 in
theorem jt_279_5 (h : am_H) (x0 x1 x2 x3 x4 : Int) : JJ 279 5 [(22, x0), (0, x1), (0, x2), (0, x3), (0, x4)] [] h = ck_ (0 ≤ x0) (ck_ (0 ≤ x0) (ck_ (0 ≤ (rf_ h x0 52)) (ck_ (0 ≤ x1 ∧ x1 < ln_ h (rf_ h x0 52)) (ck_ (0 ≤ x0) (bd_ (Mo_turnedCode h x0 (rd_ h (rf_ h x0 52) x1) x3 x4 x2) fun h1 v2 => ck_ (0 ≤ (rf_ h x0 71)) (ck_ (0 ≤ v2 ∧ v2 < ln_ h1 (rf_ h x0 71)) (ck_ (0 ≤ x0) (ck_ (0 ≤ (rf_ h1 x0 71)) (ck_ (0 ≤ x3 ∧ x3 < ln_ h1 (rf_ h1 x0 71)) (if (rd_ h1 (rf_ h x0 71) v2) ≠ (w32 ((rd_ h1 (rf_ h1 x0 71) x3) - 1)) then Mo_first_4 h1 x0 x1 x2 x3 (w32 (x4 + 1)) else some (h1, x4))))))))))) := (jj_of bk_279_5 _ _ h).trans ((ff_of bk_279_5 [(22, x0), (0, x1), (0, x2), (0, x3), (0, x4)] [] h).trans (by
  show (ck_ (0 ≤ x0) (ck_ (0 ≤ x0) (ck_ (0 ≤ (rf_ h x0 52)) (ck_ (0 ≤ x1 ∧ x1 < ln_ h (rf_ h x0 52)) (ck_ (0 ≤ x0) (bd_ (CC 276 [(22, x0), (0, rd_ h (rf_ h x0 52) x1), (0, x3), (0, x4), (0, x2)] h) fun h1 v2 => ck_ (0 ≤ (rf_ h x0 71)) (ck_ (0 ≤ v2 ∧ v2 < ln_ h1 (rf_ h x0 71)) (ck_ (0 ≤ x0) (ck_ (0 ≤ (rf_ h1 x0 71)) (ck_ (0 ≤ x3 ∧ x3 < ln_ h1 (rf_ h1 x0 71)) (if (rd_ h1 (rf_ h x0 71) v2) ≠ (w32 ((rd_ h1 (rf_ h1 x0 71) x3) - 1)) then JJ 279 7 [(22, x0), (0, x1), (0, x2), (0, x3), (0, x4)] [] h1 else JJ 279 6 [(22, x0), (0, x1), (0, x2), (0, x3), (0, x4)] [] h1))))))))))) = _
  simp only [cc_276, jt_279_6, jt_279_7, ck_or1, ck_or2, rf_wr, ln_wr, nn_wr, rf_cp, ln_cp, nn_cp, ln_wf, nn_wf, rd_wf, nn_nw]
  try rfl))
theorem Mo_first_4_e (h : am_H) (x0 x1 x2 x3 x4 : Int) : Mo_first_4 h x0 x1 x2 x3 x4 = ck_ (0 ≤ x0) (ck_ (0 ≤ (rf_ h x0 52)) (ck_ (0 ≤ x1 ∧ x1 < ln_ h (rf_ h x0 52)) (if (rd_ h (rf_ h x0 52) x1) < x4 then some (h, (-2)) else ck_ (0 ≤ x0) (ck_ (0 ≤ x0) (ck_ (0 ≤ (rf_ h x0 52)) (ck_ (0 ≤ x1 ∧ x1 < ln_ h (rf_ h x0 52)) (ck_ (0 ≤ x0) (bd_ (Mo_turnedCode h x0 (rd_ h (rf_ h x0 52) x1) x3 x4 x2) fun h1 v2 => ck_ (0 ≤ (rf_ h x0 71)) (ck_ (0 ≤ v2 ∧ v2 < ln_ h1 (rf_ h x0 71)) (ck_ (0 ≤ x0) (ck_ (0 ≤ (rf_ h1 x0 71)) (ck_ (0 ≤ x3 ∧ x3 < ln_ h1 (rf_ h1 x0 71)) (if (rd_ h1 (rf_ h x0 71) v2) ≠ (w32 ((rd_ h1 (rf_ h1 x0 71) x3) - 1)) then Mo_first_4 h1 x0 x1 x2 x3 (w32 (x4 + 1)) else some (h1, x4)))))))))))))) := (ff_of bk_279_4 [(22, x0), (0, x1), (0, x2), (0, x3), (0, x4)] [] h).trans (by
  show (ck_ (0 ≤ x0) (ck_ (0 ≤ (rf_ h x0 52)) (ck_ (0 ≤ x1 ∧ x1 < ln_ h (rf_ h x0 52)) (if (rd_ h (rf_ h x0 52) x1) < x4 then JJ 279 8 [(22, x0), (0, x1), (0, x2), (0, x3), (0, x4)] [] h else JJ 279 5 [(22, x0), (0, x1), (0, x2), (0, x3), (0, x4)] [] h)))) = _
  simp only [jt_279_5, jt_279_8, ck_or1, ck_or2, rf_wr, ln_wr, nn_wr, rf_cp, ln_cp, nn_cp, ln_wf, nn_wf, rd_wf, nn_nw]
  try rfl)
theorem cc_279 (h : am_H) (x0 x1 x2 : Int) : CC 279 [(22, x0), (0, x1), (0, x2)] h = Mo_first h x0 x1 x2 := cc_of pk_279 _ h
set_option maxRecDepth 20000 in
theorem pk_280 : am_prog 280 = some cd_280 := rfl
theorem bk_280_0 : bk_ am_prog 280 0 = some ([true, true, true], (bl_280_0, 9999)) := bk_of pk_280 rfl
theorem bk_280_1 : bk_ am_prog 280 1 = some ([true, true, true], (bl_280_1, 9999)) := bk_of pk_280 rfl
theorem bk_280_2 : bk_ am_prog 280 2 = some ([false, false, false], (bl_280_2, 9999)) := bk_of pk_280 rfl
theorem bk_280_3 : bk_ am_prog 280 3 = some ([true, true, true], (bl_280_3, 9999)) := bk_of pk_280 rfl
theorem jt_280_2 (h : am_H) (d0 d1 d2 : am_V) : JJ 280 2 [d0, d1, d2] [] h = some (h, (-1)) := (jj_of bk_280_2 _ _ h).trans (ff_of bk_280_2 [(9, 0), (9, 0), (9, 0)] [] h)
theorem jt_280_3 (h : am_H) (x0 x1 x2 : Int) : JJ 280 3 [(22, x0), (0, x1), (0, x2)] [] h = ck_ (0 ≤ x0) (ck_ (0 ≤ (rf_ h x0 52)) (ck_ (0 ≤ x1 ∧ x1 < ln_ h (rf_ h x0 52)) (ck_ (0 ≤ x0) (bd_ (Mo_layFar h x0 (rd_ h (rf_ h x0 52) x1) 0 x2) fun h1 _ => ck_ (0 ≤ x0) (ck_ (0 ≤ x0) (bd_ (Mo_codeOfPile h1 x0 x1 x2) fun h3 v4 => ck_ (0 ≤ (rf_ h1 x0 72)) (ck_ (0 ≤ v4 ∧ v4 < ln_ h3 (rf_ h1 x0 72)) (some (h3, rd_ h3 (rf_ h1 x0 72) v4))))))))) := (jj_of bk_280_3 _ _ h).trans ((ff_of bk_280_3 [(22, x0), (0, x1), (0, x2)] [] h).trans (by
  show (ck_ (0 ≤ x0) (ck_ (0 ≤ (rf_ h x0 52)) (ck_ (0 ≤ x1 ∧ x1 < ln_ h (rf_ h x0 52)) (ck_ (0 ≤ x0) (bd_ (CC 277 [(22, x0), (0, rd_ h (rf_ h x0 52) x1), (0, 0), (0, x2)] h) fun h1 _ => ck_ (0 ≤ x0) (ck_ (0 ≤ x0) (bd_ (CC 275 [(22, x0), (0, x1), (0, x2)] h1) fun h3 v4 => ck_ (0 ≤ (rf_ h1 x0 72)) (ck_ (0 ≤ v4 ∧ v4 < ln_ h3 (rf_ h1 x0 72)) (some (h3, rd_ h3 (rf_ h1 x0 72) v4)))))))))) = _
  simp only [cc_275, cc_277, ck_or1, ck_or2, rf_wr, ln_wr, nn_wr, rf_cp, ln_cp, nn_cp, ln_wf, nn_wf, rd_wf, nn_nw]
  try rfl))
theorem jt_280_1 (h : am_H) (x0 x1 x2 : Int) : JJ 280 1 [(22, x0), (0, x1), (0, x2)] [] h = bd_ (Mo_isIn h x2 0 1) fun h1 v2 => if v2 ≠ 0 then ck_ (0 ≤ x0) (ck_ (0 ≤ (rf_ h1 x0 52)) (ck_ (0 ≤ x1 ∧ x1 < ln_ h1 (rf_ h1 x0 52)) (ck_ (0 ≤ x0) (bd_ (Mo_layFar h1 x0 (rd_ h1 (rf_ h1 x0 52) x1) 0 x2) fun h3 _ => ck_ (0 ≤ x0) (ck_ (0 ≤ x0) (bd_ (Mo_codeOfPile h3 x0 x1 x2) fun h5 v6 => ck_ (0 ≤ (rf_ h3 x0 72)) (ck_ (0 ≤ v6 ∧ v6 < ln_ h5 (rf_ h3 x0 72)) (some (h5, rd_ h5 (rf_ h3 x0 72) v6))))))))) else some (h1, (-1)) := (jj_of bk_280_1 _ _ h).trans ((ff_of bk_280_1 [(22, x0), (0, x1), (0, x2)] [] h).trans (by
  show (bd_ (CC 196 [(0, x2), (0, 0), (0, 1)] h) fun h1 v2 => if v2 ≠ 0 then JJ 280 3 [(22, x0), (0, x1), (0, x2)] [] h1 else JJ 280 2 [(22, x0), (0, x1), (0, x2)] [] h1) = _
  simp only [cc_196, jt_280_2, jt_280_3, ck_or1, ck_or2, rf_wr, ln_wr, nn_wr, rf_cp, ln_cp, nn_cp, ln_wf, nn_wf, rd_wf, nn_nw]
  try rfl))
theorem Mo_ways_e (h : am_H) (x0 x1 x2 : Int) : Mo_ways h x0 x1 x2 = ck_ (0 ≤ x0) (ck_ (0 ≤ x0) (bd_ (Mo_isPile (wr_ h x0 2 0) x0 x1) fun h1 v2 => if v2 = 0 then some (h1, (-1)) else bd_ (Mo_isIn h1 x2 0 1) fun h3 v4 => if v4 ≠ 0 then ck_ (0 ≤ x0) (ck_ (0 ≤ (rf_ h3 x0 52)) (ck_ (0 ≤ x1 ∧ x1 < ln_ h3 (rf_ h3 x0 52)) (ck_ (0 ≤ x0) (bd_ (Mo_layFar h3 x0 (rd_ h3 (rf_ h3 x0 52) x1) 0 x2) fun h5 _ => ck_ (0 ≤ x0) (ck_ (0 ≤ x0) (bd_ (Mo_codeOfPile h5 x0 x1 x2) fun h7 v8 => ck_ (0 ≤ (rf_ h5 x0 72)) (ck_ (0 ≤ v8 ∧ v8 < ln_ h7 (rf_ h5 x0 72)) (some (h7, rd_ h7 (rf_ h5 x0 72) v8))))))))) else some (h3, (-1)))) := (ff_of bk_280_0 [(22, x0), (0, x1), (0, x2)] [] h).trans (by
  show (ck_ (0 ≤ x0) (ck_ (0 ≤ x0) (bd_ (CC 236 [(22, x0), (0, x1)] (wr_ h x0 2 0)) fun h1 v2 => if v2 = 0 then JJ 280 2 [(22, x0), (0, x1), (0, x2)] [] h1 else JJ 280 1 [(22, x0), (0, x1), (0, x2)] [] h1))) = _
  simp only [cc_236, jt_280_1, jt_280_2, ck_or1, ck_or2, rf_wr, ln_wr, nn_wr, rf_cp, ln_cp, nn_cp, ln_wf, nn_wf, rd_wf, nn_nw]
  try rfl)
theorem cc_280 (h : am_H) (x0 x1 x2 : Int) : CC 280 [(22, x0), (0, x1), (0, x2)] h = Mo_ways h x0 x1 x2 := cc_of pk_280 _ h
set_option maxRecDepth 20000 in
theorem pk_281 : am_prog 281 = some cd_281 := rfl
theorem bk_281_0 : bk_ am_prog 281 0 = some ([true, true, true, true], (bl_281_0, 9999)) := bk_of pk_281 rfl
theorem bk_281_1 : bk_ am_prog 281 1 = some ([true, true, true, true], (bl_281_1, 9999)) := bk_of pk_281 rfl
theorem bk_281_2 : bk_ am_prog 281 2 = some ([true, true, true, true], (bl_281_2, 9999)) := bk_of pk_281 rfl
theorem bk_281_3 : bk_ am_prog 281 3 = some ([false, false, false, false], (bl_281_3, 9999)) := bk_of pk_281 rfl
theorem bk_281_4 : bk_ am_prog 281 4 = some ([true, true, true, true], (bl_281_4, 9999)) := bk_of pk_281 rfl
theorem bk_281_5 : bk_ am_prog 281 5 = some ([false, false, false, false], (bl_281_5, 9999)) := bk_of pk_281 rfl
theorem bk_281_6 : bk_ am_prog 281 6 = some ([true, true, true, true], (bl_281_6, 9999)) := bk_of pk_281 rfl
theorem jt_281_3 (h : am_H) (d0 d1 d2 d3 : am_V) : JJ 281 3 [d0, d1, d2, d3] [] h = some (h, (-1)) := (jj_of bk_281_3 _ _ h).trans (ff_of bk_281_3 [(9, 0), (9, 0), (9, 0), (9, 0)] [] h)
set_option maxRecDepth 20000 in
theorem jt_281_6 (h : am_H) (x0 x1 x2 x3 : Int) : JJ 281 6 [(22, x0), (0, x1), (0, x2), (0, x3)] [] h = ck_ (0 ≤ x0) (ck_ (0 ≤ (rf_ h x0 52)) (ck_ (0 ≤ x1 ∧ x1 < ln_ h (rf_ h x0 52)) (ck_ (0 ≤ x0) (bd_ (Mo_codeOfPile h x0 x2 x3) fun h1 v2 => ck_ (0 ≤ x0) (bd_ (Mo_layFar h1 x0 (rd_ h (rf_ h x0 52) x1) v2 x3) fun h3 _ => ck_ (0 ≤ x0) (ck_ (0 ≤ x0) (bd_ (Mo_codeOfPile h3 x0 x1 x3) fun h5 v6 => ck_ (0 ≤ (rf_ h3 x0 71)) (ck_ (0 ≤ v6 ∧ v6 < ln_ h5 (rf_ h3 x0 71)) (some (h5, rd_ h5 (rf_ h3 x0 71) v6)))))))))) := (jj_of bk_281_6 _ _ h).trans ((ff_of bk_281_6 [(22, x0), (0, x1), (0, x2), (0, x3)] [] h).trans (by
  show (ck_ (0 ≤ x0) (ck_ (0 ≤ (rf_ h x0 52)) (ck_ (0 ≤ x1 ∧ x1 < ln_ h (rf_ h x0 52)) (ck_ (0 ≤ x0) (bd_ (CC 275 [(22, x0), (0, x2), (0, x3)] h) fun h1 v2 => ck_ (0 ≤ x0) (bd_ (CC 277 [(22, x0), (0, rd_ h (rf_ h x0 52) x1), (0, v2), (0, x3)] h1) fun h3 _ => ck_ (0 ≤ x0) (ck_ (0 ≤ x0) (bd_ (CC 275 [(22, x0), (0, x1), (0, x3)] h3) fun h5 v6 => ck_ (0 ≤ (rf_ h3 x0 71)) (ck_ (0 ≤ v6 ∧ v6 < ln_ h5 (rf_ h3 x0 71)) (some (h5, rd_ h5 (rf_ h3 x0 71) v6))))))))))) = _
  simp only [cc_275, cc_277, ck_or1, ck_or2, rf_wr, ln_wr, nn_wr, rf_cp, ln_cp, nn_cp, ln_wf, nn_wf, rd_wf, nn_nw]
  try rfl))
theorem jt_281_5 (h : am_H) (d0 d1 d2 d3 : am_V) : JJ 281 5 [d0, d1, d2, d3] [] h = some (h, (-2)) := (jj_of bk_281_5 _ _ h).trans (ff_of bk_281_5 [(9, 0), (9, 0), (9, 0), (9, 0)] [] h)
set_option maxRecDepth 20000 in
theorem jt_281_4 (h : am_H) (x0 x1 x2 x3 : Int) : JJ 281 4 [(22, x0), (0, x1), (0, x2), (0, x3)] [] h = ck_ (0 ≤ x0) (ck_ (0 ≤ (rf_ h x0 52)) (ck_ (0 ≤ x1 ∧ x1 < ln_ h (rf_ h x0 52)) (ck_ (0 ≤ x0) (ck_ (0 ≤ (rf_ h x0 52)) (ck_ (0 ≤ x2 ∧ x2 < ln_ h (rf_ h x0 52)) (if (rd_ h (rf_ h x0 52) x1) = (rd_ h (rf_ h x0 52) x2) then ck_ (0 ≤ x0) (ck_ (0 ≤ (rf_ h x0 52)) (ck_ (0 ≤ x1 ∧ x1 < ln_ h (rf_ h x0 52)) (ck_ (0 ≤ x0) (bd_ (Mo_codeOfPile h x0 x2 x3) fun h1 v2 => ck_ (0 ≤ x0) (bd_ (Mo_layFar h1 x0 (rd_ h (rf_ h x0 52) x1) v2 x3) fun h3 _ => ck_ (0 ≤ x0) (ck_ (0 ≤ x0) (bd_ (Mo_codeOfPile h3 x0 x1 x3) fun h5 v6 => ck_ (0 ≤ (rf_ h3 x0 71)) (ck_ (0 ≤ v6 ∧ v6 < ln_ h5 (rf_ h3 x0 71)) (some (h5, rd_ h5 (rf_ h3 x0 71) v6)))))))))) else some (h, (-2)))))))) := (jj_of bk_281_4 _ _ h).trans ((ff_of bk_281_4 [(22, x0), (0, x1), (0, x2), (0, x3)] [] h).trans (by
  show (ck_ (0 ≤ x0) (ck_ (0 ≤ (rf_ h x0 52)) (ck_ (0 ≤ x1 ∧ x1 < ln_ h (rf_ h x0 52)) (ck_ (0 ≤ x0) (ck_ (0 ≤ (rf_ h x0 52)) (ck_ (0 ≤ x2 ∧ x2 < ln_ h (rf_ h x0 52)) (if (rd_ h (rf_ h x0 52) x1) = (rd_ h (rf_ h x0 52) x2) then JJ 281 6 [(22, x0), (0, x1), (0, x2), (0, x3)] [] h else JJ 281 5 [(22, x0), (0, x1), (0, x2), (0, x3)] [] h))))))) = _
  simp only [jt_281_5, jt_281_6, ck_or1, ck_or2, rf_wr, ln_wr, nn_wr, rf_cp, ln_cp, nn_cp, ln_wf, nn_wf, rd_wf, nn_nw]
  try rfl))
set_option maxRecDepth 20000 in
theorem jt_281_2 (h : am_H) (x0 x1 x2 x3 : Int) : JJ 281 2 [(22, x0), (0, x1), (0, x2), (0, x3)] [] h = bd_ (Mo_isIn h x3 0 1) fun h1 v2 => if v2 ≠ 0 then ck_ (0 ≤ x0) (ck_ (0 ≤ (rf_ h1 x0 52)) (ck_ (0 ≤ x1 ∧ x1 < ln_ h1 (rf_ h1 x0 52)) (ck_ (0 ≤ x0) (ck_ (0 ≤ (rf_ h1 x0 52)) (ck_ (0 ≤ x2 ∧ x2 < ln_ h1 (rf_ h1 x0 52)) (if (rd_ h1 (rf_ h1 x0 52) x1) = (rd_ h1 (rf_ h1 x0 52) x2) then ck_ (0 ≤ x0) (ck_ (0 ≤ (rf_ h1 x0 52)) (ck_ (0 ≤ x1 ∧ x1 < ln_ h1 (rf_ h1 x0 52)) (ck_ (0 ≤ x0) (bd_ (Mo_codeOfPile h1 x0 x2 x3) fun h3 v4 => ck_ (0 ≤ x0) (bd_ (Mo_layFar h3 x0 (rd_ h1 (rf_ h1 x0 52) x1) v4 x3) fun h5 _ => ck_ (0 ≤ x0) (ck_ (0 ≤ x0) (bd_ (Mo_codeOfPile h5 x0 x1 x3) fun h7 v8 => ck_ (0 ≤ (rf_ h5 x0 71)) (ck_ (0 ≤ v8 ∧ v8 < ln_ h7 (rf_ h5 x0 71)) (some (h7, rd_ h7 (rf_ h5 x0 71) v8)))))))))) else some (h1, (-2)))))))) else some (h1, (-1)) := (jj_of bk_281_2 _ _ h).trans ((ff_of bk_281_2 [(22, x0), (0, x1), (0, x2), (0, x3)] [] h).trans (by
  show (bd_ (CC 196 [(0, x3), (0, 0), (0, 1)] h) fun h1 v2 => if v2 ≠ 0 then JJ 281 4 [(22, x0), (0, x1), (0, x2), (0, x3)] [] h1 else JJ 281 3 [(22, x0), (0, x1), (0, x2), (0, x3)] [] h1) = _
  simp only [cc_196, jt_281_3, jt_281_4, ck_or1, ck_or2, rf_wr, ln_wr, nn_wr, rf_cp, ln_cp, nn_cp, ln_wf, nn_wf, rd_wf, nn_nw]
  try rfl))
set_option maxRecDepth 20000 in
theorem jt_281_1 (h : am_H) (x0 x1 x2 x3 : Int) : JJ 281 1 [(22, x0), (0, x1), (0, x2), (0, x3)] [] h = ck_ (0 ≤ x0) (bd_ (Mo_isPile h x0 x2) fun h1 v2 => if v2 = 0 then some (h1, (-1)) else bd_ (Mo_isIn h1 x3 0 1) fun h3 v4 => if v4 ≠ 0 then ck_ (0 ≤ x0) (ck_ (0 ≤ (rf_ h3 x0 52)) (ck_ (0 ≤ x1 ∧ x1 < ln_ h3 (rf_ h3 x0 52)) (ck_ (0 ≤ x0) (ck_ (0 ≤ (rf_ h3 x0 52)) (ck_ (0 ≤ x2 ∧ x2 < ln_ h3 (rf_ h3 x0 52)) (if (rd_ h3 (rf_ h3 x0 52) x1) = (rd_ h3 (rf_ h3 x0 52) x2) then ck_ (0 ≤ x0) (ck_ (0 ≤ (rf_ h3 x0 52)) (ck_ (0 ≤ x1 ∧ x1 < ln_ h3 (rf_ h3 x0 52)) (ck_ (0 ≤ x0) (bd_ (Mo_codeOfPile h3 x0 x2 x3) fun h5 v6 => ck_ (0 ≤ x0) (bd_ (Mo_layFar h5 x0 (rd_ h3 (rf_ h3 x0 52) x1) v6 x3) fun h7 _ => ck_ (0 ≤ x0) (ck_ (0 ≤ x0) (bd_ (Mo_codeOfPile h7 x0 x1 x3) fun h9 v10 => ck_ (0 ≤ (rf_ h7 x0 71)) (ck_ (0 ≤ v10 ∧ v10 < ln_ h9 (rf_ h7 x0 71)) (some (h9, rd_ h9 (rf_ h7 x0 71) v10)))))))))) else some (h3, (-2)))))))) else some (h3, (-1))) := (jj_of bk_281_1 _ _ h).trans ((ff_of bk_281_1 [(22, x0), (0, x1), (0, x2), (0, x3)] [] h).trans (by
  show (ck_ (0 ≤ x0) (bd_ (CC 236 [(22, x0), (0, x2)] h) fun h1 v2 => if v2 = 0 then JJ 281 3 [(22, x0), (0, x1), (0, x2), (0, x3)] [] h1 else JJ 281 2 [(22, x0), (0, x1), (0, x2), (0, x3)] [] h1)) = _
  simp only [cc_236, jt_281_2, jt_281_3, ck_or1, ck_or2, rf_wr, ln_wr, nn_wr, rf_cp, ln_cp, nn_cp, ln_wf, nn_wf, rd_wf, nn_nw]
  try rfl))
set_option maxRecDepth 20000 in
theorem Mo_apart_e (h : am_H) (x0 x1 x2 x3 : Int) : Mo_apart h x0 x1 x2 x3 = ck_ (0 ≤ x0) (ck_ (0 ≤ x0) (bd_ (Mo_isPile (wr_ h x0 2 0) x0 x1) fun h1 v2 => if v2 = 0 then some (h1, (-1)) else ck_ (0 ≤ x0) (bd_ (Mo_isPile h1 x0 x2) fun h3 v4 => if v4 = 0 then some (h3, (-1)) else bd_ (Mo_isIn h3 x3 0 1) fun h5 v6 => if v6 ≠ 0 then ck_ (0 ≤ x0) (ck_ (0 ≤ (rf_ h5 x0 52)) (ck_ (0 ≤ x1 ∧ x1 < ln_ h5 (rf_ h5 x0 52)) (ck_ (0 ≤ x0) (ck_ (0 ≤ (rf_ h5 x0 52)) (ck_ (0 ≤ x2 ∧ x2 < ln_ h5 (rf_ h5 x0 52)) (if (rd_ h5 (rf_ h5 x0 52) x1) = (rd_ h5 (rf_ h5 x0 52) x2) then ck_ (0 ≤ x0) (ck_ (0 ≤ (rf_ h5 x0 52)) (ck_ (0 ≤ x1 ∧ x1 < ln_ h5 (rf_ h5 x0 52)) (ck_ (0 ≤ x0) (bd_ (Mo_codeOfPile h5 x0 x2 x3) fun h7 v8 => ck_ (0 ≤ x0) (bd_ (Mo_layFar h7 x0 (rd_ h5 (rf_ h5 x0 52) x1) v8 x3) fun h9 _ => ck_ (0 ≤ x0) (ck_ (0 ≤ x0) (bd_ (Mo_codeOfPile h9 x0 x1 x3) fun h11 v12 => ck_ (0 ≤ (rf_ h9 x0 71)) (ck_ (0 ≤ v12 ∧ v12 < ln_ h11 (rf_ h9 x0 71)) (some (h11, rd_ h11 (rf_ h9 x0 71) v12)))))))))) else some (h5, (-2)))))))) else some (h5, (-1))))) := (ff_of bk_281_0 [(22, x0), (0, x1), (0, x2), (0, x3)] [] h).trans (by
  show (ck_ (0 ≤ x0) (ck_ (0 ≤ x0) (bd_ (CC 236 [(22, x0), (0, x1)] (wr_ h x0 2 0)) fun h1 v2 => if v2 = 0 then JJ 281 3 [(22, x0), (0, x1), (0, x2), (0, x3)] [] h1 else JJ 281 1 [(22, x0), (0, x1), (0, x2), (0, x3)] [] h1))) = _
  simp only [cc_236, jt_281_1, jt_281_3, ck_or1, ck_or2, rf_wr, ln_wr, nn_wr, rf_cp, ln_cp, nn_cp, ln_wf, nn_wf, rd_wf, nn_nw]
  try rfl)
theorem cc_281 (h : am_H) (x0 x1 x2 x3 : Int) : CC 281 [(22, x0), (0, x1), (0, x2), (0, x3)] h = Mo_apart h x0 x1 x2 x3 := cc_of pk_281 _ h
set_option maxRecDepth 20000 in
theorem pk_282 : am_prog 282 = some cd_282 := rfl
theorem bk_282_0 : bk_ am_prog 282 0 = some ([true, true, true], (bl_282_0, 9999)) := bk_of pk_282 rfl
theorem bk_282_1 : bk_ am_prog 282 1 = some ([true, true, true], (bl_282_1, 9999)) := bk_of pk_282 rfl
theorem bk_282_2 : bk_ am_prog 282 2 = some ([false, false, false], (bl_282_2, 9999)) := bk_of pk_282 rfl
theorem bk_282_3 : bk_ am_prog 282 3 = some ([true, true, true], (bl_282_3, 9999)) := bk_of pk_282 rfl
theorem jt_282_2 (h : am_H) (d0 d1 d2 : am_V) : JJ 282 2 [d0, d1, d2] [] h = some (h, (-1)) := (jj_of bk_282_2 _ _ h).trans (ff_of bk_282_2 [(9, 0), (9, 0), (9, 0)] [] h)
set_option maxRecDepth 20000 in
theorem jt_282_3 (h : am_H) (x0 x1 x2 : Int) : JJ 282 3 [(22, x0), (0, x1), (0, x2)] [] h = ck_ (0 ≤ x0) (bd_ (Mo_layFar h x0 x1 0 x2) fun h1 _ => ck_ (0 ≤ x0) (ck_ (0 ≤ x0) (ck_ (0 ≤ x0) (ck_ (0 ≤ (rf_ h1 x0 73)) (ck_ (0 ≤ (w32 ((rd_ h1 x0 74) - 1)) ∧ (w32 ((rd_ h1 x0 74) - 1)) < ln_ h1 (rf_ h1 x0 73)) (ck_ (0 ≤ (rf_ h1 x0 71)) (ck_ (0 ≤ (rd_ h1 (rf_ h1 x0 73) (w32 ((rd_ h1 x0 74) - 1))) ∧ (rd_ h1 (rf_ h1 x0 73) (w32 ((rd_ h1 x0 74) - 1))) < ln_ h1 (rf_ h1 x0 71)) (some (h1, rd_ h1 (rf_ h1 x0 71) (rd_ h1 (rf_ h1 x0 73) (w32 ((rd_ h1 x0 74) - 1)))))))))))) := (jj_of bk_282_3 _ _ h).trans ((ff_of bk_282_3 [(22, x0), (0, x1), (0, x2)] [] h).trans (by
  show (ck_ (0 ≤ x0) (bd_ (CC 277 [(22, x0), (0, x1), (0, 0), (0, x2)] h) fun h1 _ => ck_ (0 ≤ x0) (ck_ (0 ≤ x0) (ck_ (0 ≤ x0) (ck_ (0 ≤ (rf_ h1 x0 73)) (ck_ (0 ≤ (w32 ((rd_ h1 x0 74) - 1)) ∧ (w32 ((rd_ h1 x0 74) - 1)) < ln_ h1 (rf_ h1 x0 73)) (ck_ (0 ≤ (rf_ h1 x0 71)) (ck_ (0 ≤ (rd_ h1 (rf_ h1 x0 73) (w32 ((rd_ h1 x0 74) - 1))) ∧ (rd_ h1 (rf_ h1 x0 73) (w32 ((rd_ h1 x0 74) - 1))) < ln_ h1 (rf_ h1 x0 71)) (some (h1, rd_ h1 (rf_ h1 x0 71) (rd_ h1 (rf_ h1 x0 73) (w32 ((rd_ h1 x0 74) - 1))))))))))))) = _
  simp only [cc_277, ck_or1, ck_or2, rf_wr, ln_wr, nn_wr, rf_cp, ln_cp, nn_cp, ln_wf, nn_wf, rd_wf, nn_nw]
  try rfl))
theorem jt_282_1 (h : am_H) (x0 x1 x2 : Int) : JJ 282 1 [(22, x0), (0, x1), (0, x2)] [] h = bd_ (Mo_isIn h x2 0 1) fun h1 v2 => if v2 ≠ 0 then ck_ (0 ≤ x0) (bd_ (Mo_layFar h1 x0 x1 0 x2) fun h3 _ => ck_ (0 ≤ x0) (ck_ (0 ≤ x0) (ck_ (0 ≤ x0) (ck_ (0 ≤ (rf_ h3 x0 73)) (ck_ (0 ≤ (w32 ((rd_ h3 x0 74) - 1)) ∧ (w32 ((rd_ h3 x0 74) - 1)) < ln_ h3 (rf_ h3 x0 73)) (ck_ (0 ≤ (rf_ h3 x0 71)) (ck_ (0 ≤ (rd_ h3 (rf_ h3 x0 73) (w32 ((rd_ h3 x0 74) - 1))) ∧ (rd_ h3 (rf_ h3 x0 73) (w32 ((rd_ h3 x0 74) - 1))) < ln_ h3 (rf_ h3 x0 71)) (some (h3, rd_ h3 (rf_ h3 x0 71) (rd_ h3 (rf_ h3 x0 73) (w32 ((rd_ h3 x0 74) - 1)))))))))))) else some (h1, (-1)) := (jj_of bk_282_1 _ _ h).trans ((ff_of bk_282_1 [(22, x0), (0, x1), (0, x2)] [] h).trans (by
  show (bd_ (CC 196 [(0, x2), (0, 0), (0, 1)] h) fun h1 v2 => if v2 ≠ 0 then JJ 282 3 [(22, x0), (0, x1), (0, x2)] [] h1 else JJ 282 2 [(22, x0), (0, x1), (0, x2)] [] h1) = _
  simp only [cc_196, jt_282_2, jt_282_3, ck_or1, ck_or2, rf_wr, ln_wr, nn_wr, rf_cp, ln_cp, nn_cp, ln_wf, nn_wf, rd_wf, nn_nw]
  try rfl))
theorem Mo_furthest_e (h : am_H) (x0 x1 x2 : Int) : Mo_furthest h x0 x1 x2 = ck_ (0 ≤ x0) (bd_ (Mo_isIn (wr_ h x0 2 0) x1 0 5) fun h1 v2 => if v2 = 0 then some (h1, (-1)) else bd_ (Mo_isIn h1 x2 0 1) fun h3 v4 => if v4 ≠ 0 then ck_ (0 ≤ x0) (bd_ (Mo_layFar h3 x0 x1 0 x2) fun h5 _ => ck_ (0 ≤ x0) (ck_ (0 ≤ x0) (ck_ (0 ≤ x0) (ck_ (0 ≤ (rf_ h5 x0 73)) (ck_ (0 ≤ (w32 ((rd_ h5 x0 74) - 1)) ∧ (w32 ((rd_ h5 x0 74) - 1)) < ln_ h5 (rf_ h5 x0 73)) (ck_ (0 ≤ (rf_ h5 x0 71)) (ck_ (0 ≤ (rd_ h5 (rf_ h5 x0 73) (w32 ((rd_ h5 x0 74) - 1))) ∧ (rd_ h5 (rf_ h5 x0 73) (w32 ((rd_ h5 x0 74) - 1))) < ln_ h5 (rf_ h5 x0 71)) (some (h5, rd_ h5 (rf_ h5 x0 71) (rd_ h5 (rf_ h5 x0 73) (w32 ((rd_ h5 x0 74) - 1)))))))))))) else some (h3, (-1))) := (ff_of bk_282_0 [(22, x0), (0, x1), (0, x2)] [] h).trans (by
  show (ck_ (0 ≤ x0) (bd_ (CC 196 [(0, x1), (0, 0), (0, 5)] (wr_ h x0 2 0)) fun h1 v2 => if v2 = 0 then JJ 282 2 [(22, x0), (0, x1), (0, x2)] [] h1 else JJ 282 1 [(22, x0), (0, x1), (0, x2)] [] h1)) = _
  simp only [cc_196, jt_282_1, jt_282_2, ck_or1, ck_or2, rf_wr, ln_wr, nn_wr, rf_cp, ln_cp, nn_cp, ln_wf, nn_wf, rd_wf, nn_nw]
  try rfl)
theorem cc_282 (h : am_H) (x0 x1 x2 : Int) : CC 282 [(22, x0), (0, x1), (0, x2)] h = Mo_furthest h x0 x1 x2 := cc_of pk_282 _ h
set_option maxRecDepth 20000 in
theorem pk_283 : am_prog 283 = some cd_283 := rfl
theorem bk_283_0 : bk_ am_prog 283 0 = some ([true, true, true, true, false, false], (bl_283_0, 9999)) := bk_of pk_283 rfl
theorem bk_283_1 : bk_ am_prog 283 1 = some ([true, true, true, true, false, false], (bl_283_1, 9999)) := bk_of pk_283 rfl
theorem bk_283_2 : bk_ am_prog 283 2 = some ([true, true, true, true, false, false], (bl_283_2, 9999)) := bk_of pk_283 rfl
theorem bk_283_3 : bk_ am_prog 283 3 = some ([false, false, false, false, false, false], (bl_283_3, 9999)) := bk_of pk_283 rfl
theorem bk_283_4 : bk_ am_prog 283 4 = some ([true, true, true, true, false, false], (bl_283_4, 5)) := bk_of pk_283 rfl
theorem bk_283_5 : bk_ am_prog 283 5 = some ([true, false, false, true, true, true], (bl_283_5, 9999)) := bk_of pk_283 rfl
theorem bk_283_6 : bk_ am_prog 283 6 = some ([true, false, false, true, true, true], (bl_283_6, 9999)) := bk_of pk_283 rfl
theorem bk_283_7 : bk_ am_prog 283 7 = some ([true, false, false, true, false, true], (bl_283_7, 9999)) := bk_of pk_283 rfl
theorem bk_283_8 : bk_ am_prog 283 8 = some ([true, false, false, true, false, true], (bl_283_8, 9)) := bk_of pk_283 rfl
theorem bk_283_9 : bk_ am_prog 283 9 = some ([true, false, false, true, false, true], (bl_283_9, 9999)) := bk_of pk_283 rfl
theorem bk_283_10 : bk_ am_prog 283 10 = some ([false, false, false, false, true, false], (bl_283_10, 9999)) := bk_of pk_283 rfl
theorem jt_283_5 (h : am_H) (d1 d2 : am_V) (x0 x3 x4 x5 : Int) : JJ 283 5 [(22, x0), d1, d2, (0, x3), (0, x4), (0, x5)] [] h = Mo_howMany_5 h x0 x3 x4 x5 := jj_of bk_283_5 _ _ h
theorem jt_283_3 (h : am_H) (d0 d1 d2 d3 d4 d5 : am_V) : JJ 283 3 [d0, d1, d2, d3, d4, d5] [] h = some (h, (-1)) := (jj_of bk_283_3 _ _ h).trans (ff_of bk_283_3 [(9, 0), (9, 0), (9, 0), (9, 0), (9, 0), (9, 0)] [] h)
theorem jt_283_4 (h : am_H) (d4 d5 : am_V) (x0 x1 x2 x3 : Int) : JJ 283 4 [(22, x0), (0, x1), (0, x2), (0, x3), d4, d5] [] h = ck_ (0 ≤ x0) (bd_ (Mo_layFar h x0 x1 0 x2) fun h1 _ => Mo_howMany_5 h1 x0 x3 0 0) := (jj_of bk_283_4 _ _ h).trans ((ff_of bk_283_4 [(22, x0), (0, x1), (0, x2), (0, x3), (9, 0), (9, 0)] [] h).trans (by
  show (ck_ (0 ≤ x0) (bd_ (CC 277 [(22, x0), (0, x1), (0, 0), (0, x2)] h) fun h1 _ => JJ 283 5 [(22, x0), (0, x1), (0, x2), (0, x3), (0, 0), (0, 0)] [] h1)) = _
  simp only [cc_277, jt_283_5, ck_or1, ck_or2, rf_wr, ln_wr, nn_wr, rf_cp, ln_cp, nn_cp, ln_wf, nn_wf, rd_wf, nn_nw]
  try rfl))
theorem jt_283_2 (h : am_H) (d4 d5 : am_V) (x0 x1 x2 x3 : Int) : JJ 283 2 [(22, x0), (0, x1), (0, x2), (0, x3), d4, d5] [] h = bd_ (Mo_isIn h x3 0 20) fun h1 v2 => if v2 ≠ 0 then ck_ (0 ≤ x0) (bd_ (Mo_layFar h1 x0 x1 0 x2) fun h3 _ => Mo_howMany_5 h3 x0 x3 0 0) else some (h1, (-1)) := (jj_of bk_283_2 _ _ h).trans ((ff_of bk_283_2 [(22, x0), (0, x1), (0, x2), (0, x3), (9, 0), (9, 0)] [] h).trans (by
  show (bd_ (CC 196 [(0, x3), (0, 0), (0, 20)] h) fun h1 v2 => if v2 ≠ 0 then JJ 283 4 [(22, x0), (0, x1), (0, x2), (0, x3), (9, 0), (9, 0)] [] h1 else JJ 283 3 [(22, x0), (0, x1), (0, x2), (0, x3), (9, 0), (9, 0)] [] h1) = _
  simp only [cc_196, jt_283_3, jt_283_4, ck_or1, ck_or2, rf_wr, ln_wr, nn_wr, rf_cp, ln_cp, nn_cp, ln_wf, nn_wf, rd_wf, nn_nw]
  try rfl))
theorem jt_283_1 (h : am_H) (d4 d5 : am_V) (x0 x1 x2 x3 : Int) : JJ 283 1 [(22, x0), (0, x1), (0, x2), (0, x3), d4, d5] [] h = bd_ (Mo_isIn h x2 0 1) fun h1 v2 => if v2 = 0 then some (h1, (-1)) else bd_ (Mo_isIn h1 x3 0 20) fun h3 v4 => if v4 ≠ 0 then ck_ (0 ≤ x0) (bd_ (Mo_layFar h3 x0 x1 0 x2) fun h5 _ => Mo_howMany_5 h5 x0 x3 0 0) else some (h3, (-1)) := (jj_of bk_283_1 _ _ h).trans ((ff_of bk_283_1 [(22, x0), (0, x1), (0, x2), (0, x3), (9, 0), (9, 0)] [] h).trans (by
  show (bd_ (CC 196 [(0, x2), (0, 0), (0, 1)] h) fun h1 v2 => if v2 = 0 then JJ 283 3 [(22, x0), (0, x1), (0, x2), (0, x3), (9, 0), (9, 0)] [] h1 else JJ 283 2 [(22, x0), (0, x1), (0, x2), (0, x3), (9, 0), (9, 0)] [] h1) = _
  simp only [cc_196, jt_283_2, jt_283_3, ck_or1, ck_or2, rf_wr, ln_wr, nn_wr, rf_cp, ln_cp, nn_cp, ln_wf, nn_wf, rd_wf, nn_nw]
  try rfl))
theorem Mo_howMany_e (h : am_H) (x0 x1 x2 x3 : Int) : Mo_howMany h x0 x1 x2 x3 = ck_ (0 ≤ x0) (bd_ (Mo_isIn (wr_ h x0 2 0) x1 0 5) fun h1 v2 => if v2 = 0 then some (h1, (-1)) else bd_ (Mo_isIn h1 x2 0 1) fun h3 v4 => if v4 = 0 then some (h3, (-1)) else bd_ (Mo_isIn h3 x3 0 20) fun h5 v6 => if v6 ≠ 0 then ck_ (0 ≤ x0) (bd_ (Mo_layFar h5 x0 x1 0 x2) fun h7 _ => Mo_howMany_5 h7 x0 x3 0 0) else some (h5, (-1))) := (ff_of bk_283_0 [(22, x0), (0, x1), (0, x2), (0, x3), (9, 0), (9, 0)] [] h).trans (by
  show (ck_ (0 ≤ x0) (bd_ (CC 196 [(0, x1), (0, 0), (0, 5)] (wr_ h x0 2 0)) fun h1 v2 => if v2 = 0 then JJ 283 3 [(22, x0), (0, x1), (0, x2), (0, x3), (9, 0), (9, 0)] [] h1 else JJ 283 1 [(22, x0), (0, x1), (0, x2), (0, x3), (9, 0), (9, 0)] [] h1)) = _
  simp only [cc_196, jt_283_1, jt_283_3, ck_or1, ck_or2, rf_wr, ln_wr, nn_wr, rf_cp, ln_cp, nn_cp, ln_wf, nn_wf, rd_wf, nn_nw]
  try rfl)
theorem jt_283_10 (h : am_H) (d0 d1 d2 d3 d5 : am_V) (x4 : Int) : JJ 283 10 [d0, d1, d2, d3, (0, x4), d5] [] h = some (h, x4) := (jj_of bk_283_10 _ _ h).trans (ff_of bk_283_10 [(9, 0), (9, 0), (9, 0), (9, 0), (0, x4), (9, 0)] [] h)
theorem jt_283_9 (h : am_H) (d1 d2 d4 : am_V) (x0 x3 x5 s0 s1 : Int) : JJ 283 9 [(22, x0), d1, d2, (0, x3), d4, (0, x5)] [(0, s0), (0, s1)] h = Mo_howMany_5 h x0 x3 (w32 (s1 + s0)) (w32 (x5 + 1)) := (jj_of bk_283_9 _ _ h).trans ((ff_of bk_283_9 [(22, x0), (9, 0), (9, 0), (0, x3), (9, 0), (0, x5)] [(0, s0), (0, s1)] h).trans (by
  show (JJ 283 5 [(22, x0), (9, 0), (9, 0), (0, x3), (0, w32 (s1 + s0)), (0, w32 (x5 + 1))] [] h) = _
  simp only [jt_283_5, ck_or1, ck_or2, rf_wr, ln_wr, nn_wr, rf_cp, ln_cp, nn_cp, ln_wf, nn_wf, rd_wf, nn_nw]
  try rfl))
theorem jt_283_8 (h : am_H) (d1 d2 d4 : am_V) (x0 x3 x5 s0 : Int) : JJ 283 8 [(22, x0), d1, d2, (0, x3), d4, (0, x5)] [(0, s0)] h = Mo_howMany_5 h x0 x3 (w32 (s0 + 0)) (w32 (x5 + 1)) := (jj_of bk_283_8 _ _ h).trans ((ff_of bk_283_8 [(22, x0), (9, 0), (9, 0), (0, x3), (9, 0), (0, x5)] [(0, s0)] h).trans (by
  show (JJ 283 9 [(22, x0), (9, 0), (9, 0), (0, x3), (9, 0), (0, x5)] [(0, 0), (0, s0)] h) = _
  simp only [jt_283_9, ck_or1, ck_or2, rf_wr, ln_wr, nn_wr, rf_cp, ln_cp, nn_cp, ln_wf, nn_wf, rd_wf, nn_nw]
  try rfl))
theorem jt_283_7 (h : am_H) (d1 d2 d4 : am_V) (x0 x3 x5 s0 : Int) : JJ 283 7 [(22, x0), d1, d2, (0, x3), d4, (0, x5)] [(0, s0)] h = Mo_howMany_5 h x0 x3 (w32 (s0 + 1)) (w32 (x5 + 1)) := (jj_of bk_283_7 _ _ h).trans ((ff_of bk_283_7 [(22, x0), (9, 0), (9, 0), (0, x3), (9, 0), (0, x5)] [(0, s0)] h).trans (by
  show (JJ 283 9 [(22, x0), (9, 0), (9, 0), (0, x3), (9, 0), (0, x5)] [(0, 1), (0, s0)] h) = _
  simp only [jt_283_9, ck_or1, ck_or2, rf_wr, ln_wr, nn_wr, rf_cp, ln_cp, nn_cp, ln_wf, nn_wf, rd_wf, nn_nw]
  try rfl))
theorem jt_283_6 (h : am_H) (d1 d2 : am_V) (x0 x3 x4 x5 : Int) : JJ 283 6 [(22, x0), d1, d2, (0, x3), (0, x4), (0, x5)] [] h = ck_ (0 ≤ x0) (ck_ (0 ≤ x0) (ck_ (0 ≤ (rf_ h x0 73)) (ck_ (0 ≤ x5 ∧ x5 < ln_ h (rf_ h x0 73)) (ck_ (0 ≤ (rf_ h x0 71)) (ck_ (0 ≤ (rd_ h (rf_ h x0 73) x5) ∧ (rd_ h (rf_ h x0 73) x5) < ln_ h (rf_ h x0 71)) (if (rd_ h (rf_ h x0 71) (rd_ h (rf_ h x0 73) x5)) ≠ x3 then Mo_howMany_5 h x0 x3 (w32 (x4 + 0)) (w32 (x5 + 1)) else Mo_howMany_5 h x0 x3 (w32 (x4 + 1)) (w32 (x5 + 1)))))))) := (jj_of bk_283_6 _ _ h).trans ((ff_of bk_283_6 [(22, x0), (9, 0), (9, 0), (0, x3), (0, x4), (0, x5)] [] h).trans (by
  show (ck_ (0 ≤ x0) (ck_ (0 ≤ x0) (ck_ (0 ≤ (rf_ h x0 73)) (ck_ (0 ≤ x5 ∧ x5 < ln_ h (rf_ h x0 73)) (ck_ (0 ≤ (rf_ h x0 71)) (ck_ (0 ≤ (rd_ h (rf_ h x0 73) x5) ∧ (rd_ h (rf_ h x0 73) x5) < ln_ h (rf_ h x0 71)) (if (rd_ h (rf_ h x0 71) (rd_ h (rf_ h x0 73) x5)) ≠ x3 then JJ 283 8 [(22, x0), (9, 0), (9, 0), (0, x3), (0, x4), (0, x5)] [(0, x4)] h else JJ 283 7 [(22, x0), (9, 0), (9, 0), (0, x3), (0, x4), (0, x5)] [(0, x4)] h))))))) = _
  simp only [jt_283_7, jt_283_8, ck_or1, ck_or2, rf_wr, ln_wr, nn_wr, rf_cp, ln_cp, nn_cp, ln_wf, nn_wf, rd_wf, nn_nw]
  try rfl))
theorem Mo_howMany_5_e (h : am_H) (x0 x3 x4 x5 : Int) : Mo_howMany_5 h x0 x3 x4 x5 = ck_ (0 ≤ x0) (if (rd_ h x0 74) ≤ x5 then some (h, x4) else ck_ (0 ≤ x0) (ck_ (0 ≤ x0) (ck_ (0 ≤ (rf_ h x0 73)) (ck_ (0 ≤ x5 ∧ x5 < ln_ h (rf_ h x0 73)) (ck_ (0 ≤ (rf_ h x0 71)) (ck_ (0 ≤ (rd_ h (rf_ h x0 73) x5) ∧ (rd_ h (rf_ h x0 73) x5) < ln_ h (rf_ h x0 71)) (if (rd_ h (rf_ h x0 71) (rd_ h (rf_ h x0 73) x5)) ≠ x3 then Mo_howMany_5 h x0 x3 (w32 (x4 + 0)) (w32 (x5 + 1)) else Mo_howMany_5 h x0 x3 (w32 (x4 + 1)) (w32 (x5 + 1))))))))) := (ff_of bk_283_5 [(22, x0), (9, 0), (9, 0), (0, x3), (0, x4), (0, x5)] [] h).trans (by
  show (ck_ (0 ≤ x0) (if (rd_ h x0 74) ≤ x5 then JJ 283 10 [(22, x0), (9, 0), (9, 0), (0, x3), (0, x4), (0, x5)] [] h else JJ 283 6 [(22, x0), (9, 0), (9, 0), (0, x3), (0, x4), (0, x5)] [] h)) = _
  simp only [jt_283_10, jt_283_6, ck_or1, ck_or2, rf_wr, ln_wr, nn_wr, rf_cp, ln_cp, nn_cp, ln_wf, nn_wf, rd_wf, nn_nw]
  try rfl)
theorem cc_283 (h : am_H) (x0 x1 x2 x3 : Int) : CC 283 [(22, x0), (0, x1), (0, x2), (0, x3)] h = Mo_howMany h x0 x1 x2 x3 := cc_of pk_283 _ h
set_option maxRecDepth 20000 in
theorem pk_284 : am_prog 284 = some cd_284 := rfl
theorem bk_284_0 : bk_ am_prog 284 0 = some ([true, true, true, true, false, false, false, false], (bl_284_0, 9999)) := bk_of pk_284 rfl
theorem bk_284_1 : bk_ am_prog 284 1 = some ([true, true, true, true, false, false, false, false], (bl_284_1, 9999)) := bk_of pk_284 rfl
theorem bk_284_2 : bk_ am_prog 284 2 = some ([true, true, true, true, false, false, false, false], (bl_284_2, 9999)) := bk_of pk_284 rfl
theorem bk_284_3 : bk_ am_prog 284 3 = some ([false, false, false, false, false, false, false, false], (bl_284_3, 9999)) := bk_of pk_284 rfl
theorem bk_284_4 : bk_ am_prog 284 4 = some ([true, true, true, true, false, false, false, false], (bl_284_4, 5)) := bk_of pk_284 rfl
theorem bk_284_5 : bk_ am_prog 284 5 = some ([true, true, true, true, true, true, false, false], (bl_284_5, 9999)) := bk_of pk_284 rfl
theorem bk_284_6 : bk_ am_prog 284 6 = some ([true, true, true, true, true, true, false, false], (bl_284_6, 9999)) := bk_of pk_284 rfl
theorem bk_284_7 : bk_ am_prog 284 7 = some ([true, true, true, true, true, false, false, false], (bl_284_7, 8)) := bk_of pk_284 rfl
theorem bk_284_8 : bk_ am_prog 284 8 = some ([true, false, true, true, true, true, false, false], (bl_284_8, 9999)) := bk_of pk_284 rfl
theorem bk_284_9 : bk_ am_prog 284 9 = some ([true, false, true, true, true, true, false, false], (bl_284_9, 10)) := bk_of pk_284 rfl
theorem bk_284_10 : bk_ am_prog 284 10 = some ([true, false, true, true, true, true, true, false], (bl_284_10, 9999)) := bk_of pk_284 rfl
theorem bk_284_11 : bk_ am_prog 284 11 = some ([true, false, true, true, true, true, true, false], (bl_284_11, 9999)) := bk_of pk_284 rfl
theorem bk_284_12 : bk_ am_prog 284 12 = some ([true, false, true, true, true, true, false, false], (bl_284_12, 13)) := bk_of pk_284 rfl
theorem bk_284_13 : bk_ am_prog 284 13 = some ([true, false, true, true, true, true, true, false], (bl_284_13, 9999)) := bk_of pk_284 rfl
theorem bk_284_14 : bk_ am_prog 284 14 = some ([true, false, true, true, true, true, true, false], (bl_284_14, 15)) := bk_of pk_284 rfl
theorem bk_284_15 : bk_ am_prog 284 15 = some ([true, false, true, true, true, true, true, true], (bl_284_15, 9999)) := bk_of pk_284 rfl
theorem bk_284_16 : bk_ am_prog 284 16 = some ([true, false, true, true, true, true, true, true], (bl_284_16, 9999)) := bk_of pk_284 rfl
theorem bk_284_17 : bk_ am_prog 284 17 = some ([true, false, true, true, true, true, true, true], (bl_284_17, 9999)) := bk_of pk_284 rfl
theorem bk_284_18 : bk_ am_prog 284 18 = some ([true, false, true, true, true, true, true, false], (bl_284_18, 9999)) := bk_of pk_284 rfl
theorem bk_284_19 : bk_ am_prog 284 19 = some ([true, false, true, true, true, true, false, false], (bl_284_19, 20)) := bk_of pk_284 rfl
theorem bk_284_20 : bk_ am_prog 284 20 = some ([true, false, true, true, true, true, true, false], (bl_284_20, 9999)) := bk_of pk_284 rfl
theorem bk_284_21 : bk_ am_prog 284 21 = some ([true, false, true, true, true, true, true, false], (bl_284_21, 9999)) := bk_of pk_284 rfl
theorem bk_284_22 : bk_ am_prog 284 22 = some ([true, false, true, true, true, true, false, false], (bl_284_22, 9999)) := bk_of pk_284 rfl
theorem bk_284_23 : bk_ am_prog 284 23 = some ([true, false, false, false, false, false, false, false], (bl_284_23, 24)) := bk_of pk_284 rfl
theorem bk_284_24 : bk_ am_prog 284 24 = some ([true, false, false, false, false, true, true, false], (bl_284_24, 9999)) := bk_of pk_284 rfl
theorem bk_284_25 : bk_ am_prog 284 25 = some ([true, false, false, false, false, true, true, false], (bl_284_25, 9999)) := bk_of pk_284 rfl
theorem bk_284_26 : bk_ am_prog 284 26 = some ([false, false, false, false, false, true, false, false], (bl_284_26, 9999)) := bk_of pk_284 rfl
theorem jt_284_5 (h : am_H) (d6 d7 : am_V) (x0 x1 x2 x3 x4 x5 : Int) : JJ 284 5 [(22, x0), (0, x1), (0, x2), (0, x3), (0, x4), (0, x5), d6, d7] [] h = Mo_could_5 h x0 x1 x2 x3 x4 x5 := jj_of bk_284_5 _ _ h
theorem jt_284_8 (h : am_H) (d1 d6 d7 : am_V) (x0 x2 x3 x4 x5 : Int) : JJ 284 8 [(22, x0), d1, (0, x2), (0, x3), (0, x4), (0, x5), d6, d7] [] h = Mo_could_8 h x0 x2 x3 x4 x5 := jj_of bk_284_8 _ _ h
theorem jt_284_10 (h : am_H) (d1 d7 : am_V) (x0 x2 x3 x4 x5 x6 : Int) : JJ 284 10 [(22, x0), d1, (0, x2), (0, x3), (0, x4), (0, x5), (0, x6), d7] [] h = Mo_could_10 h x0 x2 x3 x4 x5 x6 := jj_of bk_284_10 _ _ h
theorem jt_284_13 (h : am_H) (d1 d7 : am_V) (x0 x2 x3 x4 x5 x6 : Int) : JJ 284 13 [(22, x0), d1, (0, x2), (0, x3), (0, x4), (0, x5), (0, x6), d7] [] h = Mo_could_13 h x0 x2 x3 x4 x5 x6 := jj_of bk_284_13 _ _ h
theorem jt_284_15 (h : am_H) (d1 : am_V) (x0 x2 x3 x4 x5 x6 x7 : Int) : JJ 284 15 [(22, x0), d1, (0, x2), (0, x3), (0, x4), (0, x5), (0, x6), (0, x7)] [] h = Mo_could_15 h x0 x2 x3 x4 x5 x6 x7 := jj_of bk_284_15 _ _ h
theorem jt_284_20 (h : am_H) (d1 d7 : am_V) (x0 x2 x3 x4 x5 x6 : Int) : JJ 284 20 [(22, x0), d1, (0, x2), (0, x3), (0, x4), (0, x5), (0, x6), d7] [] h = Mo_could_20 h x0 x2 x3 x4 x5 x6 := jj_of bk_284_20 _ _ h
theorem jt_284_24 (h : am_H) (d1 d2 d3 d4 d7 : am_V) (x0 x5 x6 : Int) : JJ 284 24 [(22, x0), d1, d2, d3, d4, (0, x5), (0, x6), d7] [] h = Mo_could_24 h x0 x5 x6 := jj_of bk_284_24 _ _ h
theorem jt_284_3 (h : am_H) (d0 d1 d2 d3 d4 d5 d6 d7 : am_V) : JJ 284 3 [d0, d1, d2, d3, d4, d5, d6, d7] [] h = some (h, (-1)) := (jj_of bk_284_3 _ _ h).trans (ff_of bk_284_3 [(9, 0), (9, 0), (9, 0), (9, 0), (9, 0), (9, 0), (9, 0), (9, 0)] [] h)
theorem jt_284_4 (h : am_H) (d4 d5 d6 d7 : am_V) (x0 x1 x2 x3 : Int) : JJ 284 4 [(22, x0), (0, x1), (0, x2), (0, x3), d4, d5, d6, d7] [] h = ck_ (0 ≤ x0) (ck_ (0 ≤ (rf_ h x0 52)) (ck_ (0 ≤ x1 ∧ x1 < ln_ h (rf_ h x0 52)) (Mo_could_5 h x0 x1 x2 x3 (rd_ h (rf_ h x0 52) x1) 0))) := (jj_of bk_284_4 _ _ h).trans ((ff_of bk_284_4 [(22, x0), (0, x1), (0, x2), (0, x3), (9, 0), (9, 0), (9, 0), (9, 0)] [] h).trans (by
  show (ck_ (0 ≤ x0) (ck_ (0 ≤ (rf_ h x0 52)) (ck_ (0 ≤ x1 ∧ x1 < ln_ h (rf_ h x0 52)) (JJ 284 5 [(22, x0), (0, x1), (0, x2), (0, x3), (0, rd_ h (rf_ h x0 52) x1), (0, 0), (9, 0), (9, 0)] [] h)))) = _
  simp only [jt_284_5, ck_or1, ck_or2, rf_wr, ln_wr, nn_wr, rf_cp, ln_cp, nn_cp, ln_wf, nn_wf, rd_wf, nn_nw]
  try rfl))
theorem jt_284_2 (h : am_H) (d4 d5 d6 d7 : am_V) (x0 x1 x2 x3 : Int) : JJ 284 2 [(22, x0), (0, x1), (0, x2), (0, x3), d4, d5, d6, d7] [] h = bd_ (Mo_isIn h x3 0 9) fun h1 v2 => if v2 ≠ 0 then ck_ (0 ≤ x0) (ck_ (0 ≤ (rf_ h1 x0 52)) (ck_ (0 ≤ x1 ∧ x1 < ln_ h1 (rf_ h1 x0 52)) (Mo_could_5 h1 x0 x1 x2 x3 (rd_ h1 (rf_ h1 x0 52) x1) 0))) else some (h1, (-1)) := (jj_of bk_284_2 _ _ h).trans ((ff_of bk_284_2 [(22, x0), (0, x1), (0, x2), (0, x3), (9, 0), (9, 0), (9, 0), (9, 0)] [] h).trans (by
  show (bd_ (CC 196 [(0, x3), (0, 0), (0, 9)] h) fun h1 v2 => if v2 ≠ 0 then JJ 284 4 [(22, x0), (0, x1), (0, x2), (0, x3), (9, 0), (9, 0), (9, 0), (9, 0)] [] h1 else JJ 284 3 [(22, x0), (0, x1), (0, x2), (0, x3), (9, 0), (9, 0), (9, 0), (9, 0)] [] h1) = _
  simp only [cc_196, jt_284_3, jt_284_4, ck_or1, ck_or2, rf_wr, ln_wr, nn_wr, rf_cp, ln_cp, nn_cp, ln_wf, nn_wf, rd_wf, nn_nw]
  try rfl))
theorem jt_284_1 (h : am_H) (d4 d5 d6 d7 : am_V) (x0 x1 x2 x3 : Int) : JJ 284 1 [(22, x0), (0, x1), (0, x2), (0, x3), d4, d5, d6, d7] [] h = bd_ (Mo_isIn h x2 0 1) fun h1 v2 => if v2 = 0 then some (h1, (-1)) else bd_ (Mo_isIn h1 x3 0 9) fun h3 v4 => if v4 ≠ 0 then ck_ (0 ≤ x0) (ck_ (0 ≤ (rf_ h3 x0 52)) (ck_ (0 ≤ x1 ∧ x1 < ln_ h3 (rf_ h3 x0 52)) (Mo_could_5 h3 x0 x1 x2 x3 (rd_ h3 (rf_ h3 x0 52) x1) 0))) else some (h3, (-1)) := (jj_of bk_284_1 _ _ h).trans ((ff_of bk_284_1 [(22, x0), (0, x1), (0, x2), (0, x3), (9, 0), (9, 0), (9, 0), (9, 0)] [] h).trans (by
  show (bd_ (CC 196 [(0, x2), (0, 0), (0, 1)] h) fun h1 v2 => if v2 = 0 then JJ 284 3 [(22, x0), (0, x1), (0, x2), (0, x3), (9, 0), (9, 0), (9, 0), (9, 0)] [] h1 else JJ 284 2 [(22, x0), (0, x1), (0, x2), (0, x3), (9, 0), (9, 0), (9, 0), (9, 0)] [] h1) = _
  simp only [cc_196, jt_284_2, jt_284_3, ck_or1, ck_or2, rf_wr, ln_wr, nn_wr, rf_cp, ln_cp, nn_cp, ln_wf, nn_wf, rd_wf, nn_nw]
  try rfl))
theorem Mo_could_e (h : am_H) (x0 x1 x2 x3 : Int) : Mo_could h x0 x1 x2 x3 = ck_ (0 ≤ x0) (ck_ (0 ≤ x0) (bd_ (Mo_isPile (wr_ h x0 2 0) x0 x1) fun h1 v2 => if v2 = 0 then some (h1, (-1)) else bd_ (Mo_isIn h1 x2 0 1) fun h3 v4 => if v4 = 0 then some (h3, (-1)) else bd_ (Mo_isIn h3 x3 0 9) fun h5 v6 => if v6 ≠ 0 then ck_ (0 ≤ x0) (ck_ (0 ≤ (rf_ h5 x0 52)) (ck_ (0 ≤ x1 ∧ x1 < ln_ h5 (rf_ h5 x0 52)) (Mo_could_5 h5 x0 x1 x2 x3 (rd_ h5 (rf_ h5 x0 52) x1) 0))) else some (h5, (-1)))) := (ff_of bk_284_0 [(22, x0), (0, x1), (0, x2), (0, x3), (9, 0), (9, 0), (9, 0), (9, 0)] [] h).trans (by
  show (ck_ (0 ≤ x0) (ck_ (0 ≤ x0) (bd_ (CC 236 [(22, x0), (0, x1)] (wr_ h x0 2 0)) fun h1 v2 => if v2 = 0 then JJ 284 3 [(22, x0), (0, x1), (0, x2), (0, x3), (9, 0), (9, 0), (9, 0), (9, 0)] [] h1 else JJ 284 1 [(22, x0), (0, x1), (0, x2), (0, x3), (9, 0), (9, 0), (9, 0), (9, 0)] [] h1))) = _
  simp only [cc_236, jt_284_1, jt_284_3, ck_or1, ck_or2, rf_wr, ln_wr, nn_wr, rf_cp, ln_cp, nn_cp, ln_wf, nn_wf, rd_wf, nn_nw]
  try rfl)
theorem jt_284_7 (h : am_H) (d5 d6 d7 : am_V) (x0 x1 x2 x3 x4 : Int) : JJ 284 7 [(22, x0), (0, x1), (0, x2), (0, x3), (0, x4), d5, d6, d7] [] h = ck_ (0 ≤ x0) (ck_ (0 ≤ x0) (bd_ (Mo_codeOfPile h x0 x1 x2) fun h1 v2 => ck_ (0 ≤ (rf_ h x0 71)) (ck_ (0 ≤ v2 ∧ v2 < ln_ h1 (rf_ h x0 71)) (Mo_could_8 (wr_ h1 (rf_ h x0 71) v2 1) x0 x2 x3 x4 0)))) := (jj_of bk_284_7 _ _ h).trans ((ff_of bk_284_7 [(22, x0), (0, x1), (0, x2), (0, x3), (0, x4), (9, 0), (9, 0), (9, 0)] [] h).trans (by
  show (ck_ (0 ≤ x0) (ck_ (0 ≤ x0) (bd_ (CC 275 [(22, x0), (0, x1), (0, x2)] h) fun h1 v2 => ck_ (0 ≤ (rf_ h x0 71)) (ck_ (0 ≤ v2 ∧ v2 < ln_ h1 (rf_ h x0 71)) (JJ 284 8 [(22, x0), (0, x1), (0, x2), (0, x3), (0, x4), (0, 0), (9, 0), (9, 0)] [] (wr_ h1 (rf_ h x0 71) v2 1)))))) = _
  simp only [cc_275, jt_284_8, ck_or1, ck_or2, rf_wr, ln_wr, nn_wr, rf_cp, ln_cp, nn_cp, ln_wf, nn_wf, rd_wf, nn_nw]
  try rfl))
theorem jt_284_6 (h : am_H) (d6 d7 : am_V) (x0 x1 x2 x3 x4 x5 : Int) : JJ 284 6 [(22, x0), (0, x1), (0, x2), (0, x3), (0, x4), (0, x5), d6, d7] [] h = ck_ (0 ≤ x0) (ck_ (0 ≤ (rf_ h x0 71)) (ck_ (0 ≤ x5 ∧ x5 < ln_ h (rf_ h x0 71)) (Mo_could_5 (wr_ h (rf_ h x0 71) x5 0) x0 x1 x2 x3 x4 (w32 (x5 + 1))))) := (jj_of bk_284_6 _ _ h).trans ((ff_of bk_284_6 [(22, x0), (0, x1), (0, x2), (0, x3), (0, x4), (0, x5), (9, 0), (9, 0)] [] h).trans (by
  show (ck_ (0 ≤ x0) (ck_ (0 ≤ (rf_ h x0 71)) (ck_ (0 ≤ x5 ∧ x5 < ln_ h (rf_ h x0 71)) (JJ 284 5 [(22, x0), (0, x1), (0, x2), (0, x3), (0, x4), (0, w32 (x5 + 1)), (9, 0), (9, 0)] [] (wr_ h (rf_ h x0 71) x5 0))))) = _
  simp only [jt_284_5, ck_or1, ck_or2, rf_wr, ln_wr, nn_wr, rf_cp, ln_cp, nn_cp, ln_wf, nn_wf, rd_wf, nn_nw]
  try rfl))
theorem Mo_could_5_e (h : am_H) (x0 x1 x2 x3 x4 x5 : Int) : Mo_could_5 h x0 x1 x2 x3 x4 x5 = if 3840 ≤ x5 then ck_ (0 ≤ x0) (ck_ (0 ≤ x0) (bd_ (Mo_codeOfPile h x0 x1 x2) fun h1 v2 => ck_ (0 ≤ (rf_ h x0 71)) (ck_ (0 ≤ v2 ∧ v2 < ln_ h1 (rf_ h x0 71)) (Mo_could_8 (wr_ h1 (rf_ h x0 71) v2 1) x0 x2 x3 x4 0)))) else ck_ (0 ≤ x0) (ck_ (0 ≤ (rf_ h x0 71)) (ck_ (0 ≤ x5 ∧ x5 < ln_ h (rf_ h x0 71)) (Mo_could_5 (wr_ h (rf_ h x0 71) x5 0) x0 x1 x2 x3 x4 (w32 (x5 + 1))))) := (ff_of bk_284_5 [(22, x0), (0, x1), (0, x2), (0, x3), (0, x4), (0, x5), (9, 0), (9, 0)] [] h).trans (by
  show (if 3840 ≤ x5 then JJ 284 7 [(22, x0), (0, x1), (0, x2), (0, x3), (0, x4), (0, x5), (9, 0), (9, 0)] [] h else JJ 284 6 [(22, x0), (0, x1), (0, x2), (0, x3), (0, x4), (0, x5), (9, 0), (9, 0)] [] h) = _
  simp only [jt_284_6, jt_284_7, ck_or1, ck_or2, rf_wr, ln_wr, nn_wr, rf_cp, ln_cp, nn_cp, ln_wf, nn_wf, rd_wf, nn_nw]
  try rfl)
theorem jt_284_23 (h : am_H) (d1 d2 d3 d4 d5 d6 d7 : am_V) (x0 : Int) : JJ 284 23 [(22, x0), d1, d2, d3, d4, d5, d6, d7] [] h = Mo_could_24 h x0 0 0 := (jj_of bk_284_23 _ _ h).trans ((ff_of bk_284_23 [(22, x0), (9, 0), (9, 0), (9, 0), (9, 0), (9, 0), (9, 0), (9, 0)] [] h).trans (by
  show (JJ 284 24 [(22, x0), (9, 0), (9, 0), (9, 0), (9, 0), (0, 0), (0, 0), (9, 0)] [] h) = _
  simp only [jt_284_24, ck_or1, ck_or2, rf_wr, ln_wr, nn_wr, rf_cp, ln_cp, nn_cp, ln_wf, nn_wf, rd_wf, nn_nw]
  try rfl))
theorem jt_284_9 (h : am_H) (d1 d6 d7 : am_V) (x0 x2 x3 x4 x5 : Int) : JJ 284 9 [(22, x0), d1, (0, x2), (0, x3), (0, x4), (0, x5), d6, d7] [] h = Mo_could_10 h x0 x2 x3 x4 x5 0 := (jj_of bk_284_9 _ _ h).trans ((ff_of bk_284_9 [(22, x0), (9, 0), (0, x2), (0, x3), (0, x4), (0, x5), (9, 0), (9, 0)] [] h).trans (by
  show (JJ 284 10 [(22, x0), (9, 0), (0, x2), (0, x3), (0, x4), (0, x5), (0, 0), (9, 0)] [] h) = _
  simp only [jt_284_10, ck_or1, ck_or2, rf_wr, ln_wr, nn_wr, rf_cp, ln_cp, nn_cp, ln_wf, nn_wf, rd_wf, nn_nw]
  try rfl))
theorem Mo_could_8_e (h : am_H) (x0 x2 x3 x4 x5 : Int) : Mo_could_8 h x0 x2 x3 x4 x5 = if x3 ≤ x5 then Mo_could_24 h x0 0 0 else Mo_could_10 h x0 x2 x3 x4 x5 0 := (ff_of bk_284_8 [(22, x0), (9, 0), (0, x2), (0, x3), (0, x4), (0, x5), (9, 0), (9, 0)] [] h).trans (by
  show (if x3 ≤ x5 then JJ 284 23 [(22, x0), (9, 0), (0, x2), (0, x3), (0, x4), (0, x5), (9, 0), (9, 0)] [] h else JJ 284 9 [(22, x0), (9, 0), (0, x2), (0, x3), (0, x4), (0, x5), (9, 0), (9, 0)] [] h) = _
  simp only [jt_284_23, jt_284_9, ck_or1, ck_or2, rf_wr, ln_wr, nn_wr, rf_cp, ln_cp, nn_cp, ln_wf, nn_wf, rd_wf, nn_nw]
  try rfl)
theorem jt_284_12 (h : am_H) (d1 d6 d7 : am_V) (x0 x2 x3 x4 x5 : Int) : JJ 284 12 [(22, x0), d1, (0, x2), (0, x3), (0, x4), (0, x5), d6, d7] [] h = Mo_could_13 h x0 x2 x3 x4 x5 0 := (jj_of bk_284_12 _ _ h).trans ((ff_of bk_284_12 [(22, x0), (9, 0), (0, x2), (0, x3), (0, x4), (0, x5), (9, 0), (9, 0)] [] h).trans (by
  show (JJ 284 13 [(22, x0), (9, 0), (0, x2), (0, x3), (0, x4), (0, x5), (0, 0), (9, 0)] [] h) = _
  simp only [jt_284_13, ck_or1, ck_or2, rf_wr, ln_wr, nn_wr, rf_cp, ln_cp, nn_cp, ln_wf, nn_wf, rd_wf, nn_nw]
  try rfl))
theorem jt_284_11 (h : am_H) (d1 d7 : am_V) (x0 x2 x3 x4 x5 x6 : Int) : JJ 284 11 [(22, x0), d1, (0, x2), (0, x3), (0, x4), (0, x5), (0, x6), d7] [] h = ck_ (0 ≤ x0) (ck_ (0 ≤ (rf_ h x0 72)) (ck_ (0 ≤ x6 ∧ x6 < ln_ h (rf_ h x0 72)) (Mo_could_10 (wr_ h (rf_ h x0 72) x6 0) x0 x2 x3 x4 x5 (w32 (x6 + 1))))) := (jj_of bk_284_11 _ _ h).trans ((ff_of bk_284_11 [(22, x0), (9, 0), (0, x2), (0, x3), (0, x4), (0, x5), (0, x6), (9, 0)] [] h).trans (by
  show (ck_ (0 ≤ x0) (ck_ (0 ≤ (rf_ h x0 72)) (ck_ (0 ≤ x6 ∧ x6 < ln_ h (rf_ h x0 72)) (JJ 284 10 [(22, x0), (9, 0), (0, x2), (0, x3), (0, x4), (0, x5), (0, w32 (x6 + 1)), (9, 0)] [] (wr_ h (rf_ h x0 72) x6 0))))) = _
  simp only [jt_284_10, ck_or1, ck_or2, rf_wr, ln_wr, nn_wr, rf_cp, ln_cp, nn_cp, ln_wf, nn_wf, rd_wf, nn_nw]
  try rfl))
theorem Mo_could_10_e (h : am_H) (x0 x2 x3 x4 x5 x6 : Int) : Mo_could_10 h x0 x2 x3 x4 x5 x6 = if 3840 ≤ x6 then Mo_could_13 h x0 x2 x3 x4 x5 0 else ck_ (0 ≤ x0) (ck_ (0 ≤ (rf_ h x0 72)) (ck_ (0 ≤ x6 ∧ x6 < ln_ h (rf_ h x0 72)) (Mo_could_10 (wr_ h (rf_ h x0 72) x6 0) x0 x2 x3 x4 x5 (w32 (x6 + 1))))) := (ff_of bk_284_10 [(22, x0), (9, 0), (0, x2), (0, x3), (0, x4), (0, x5), (0, x6), (9, 0)] [] h).trans (by
  show (if 3840 ≤ x6 then JJ 284 12 [(22, x0), (9, 0), (0, x2), (0, x3), (0, x4), (0, x5), (0, x6), (9, 0)] [] h else JJ 284 11 [(22, x0), (9, 0), (0, x2), (0, x3), (0, x4), (0, x5), (0, x6), (9, 0)] [] h) = _
  simp only [jt_284_11, jt_284_12, ck_or1, ck_or2, rf_wr, ln_wr, nn_wr, rf_cp, ln_cp, nn_cp, ln_wf, nn_wf, rd_wf, nn_nw]
  try rfl)
theorem jt_284_19 (h : am_H) (d1 d6 d7 : am_V) (x0 x2 x3 x4 x5 : Int) : JJ 284 19 [(22, x0), d1, (0, x2), (0, x3), (0, x4), (0, x5), d6, d7] [] h = Mo_could_20 h x0 x2 x3 x4 x5 0 := (jj_of bk_284_19 _ _ h).trans ((ff_of bk_284_19 [(22, x0), (9, 0), (0, x2), (0, x3), (0, x4), (0, x5), (9, 0), (9, 0)] [] h).trans (by
  show (JJ 284 20 [(22, x0), (9, 0), (0, x2), (0, x3), (0, x4), (0, x5), (0, 0), (9, 0)] [] h) = _
  simp only [jt_284_20, ck_or1, ck_or2, rf_wr, ln_wr, nn_wr, rf_cp, ln_cp, nn_cp, ln_wf, nn_wf, rd_wf, nn_nw]
  try rfl))
theorem jt_284_14 (h : am_H) (d1 d7 : am_V) (x0 x2 x3 x4 x5 x6 : Int) : JJ 284 14 [(22, x0), d1, (0, x2), (0, x3), (0, x4), (0, x5), (0, x6), d7] [] h = Mo_could_15 h x0 x2 x3 x4 x5 x6 1 := (jj_of bk_284_14 _ _ h).trans ((ff_of bk_284_14 [(22, x0), (9, 0), (0, x2), (0, x3), (0, x4), (0, x5), (0, x6), (9, 0)] [] h).trans (by
  show (JJ 284 15 [(22, x0), (9, 0), (0, x2), (0, x3), (0, x4), (0, x5), (0, x6), (0, 1)] [] h) = _
  simp only [jt_284_15, ck_or1, ck_or2, rf_wr, ln_wr, nn_wr, rf_cp, ln_cp, nn_cp, ln_wf, nn_wf, rd_wf, nn_nw]
  try rfl))
theorem Mo_could_13_e (h : am_H) (x0 x2 x3 x4 x5 x6 : Int) : Mo_could_13 h x0 x2 x3 x4 x5 x6 = if 3840 ≤ x6 then Mo_could_20 h x0 x2 x3 x4 x5 0 else Mo_could_15 h x0 x2 x3 x4 x5 x6 1 := (ff_of bk_284_13 [(22, x0), (9, 0), (0, x2), (0, x3), (0, x4), (0, x5), (0, x6), (9, 0)] [] h).trans (by
  show (if 3840 ≤ x6 then JJ 284 19 [(22, x0), (9, 0), (0, x2), (0, x3), (0, x4), (0, x5), (0, x6), (9, 0)] [] h else JJ 284 14 [(22, x0), (9, 0), (0, x2), (0, x3), (0, x4), (0, x5), (0, x6), (9, 0)] [] h) = _
  simp only [jt_284_14, jt_284_19, ck_or1, ck_or2, rf_wr, ln_wr, nn_wr, rf_cp, ln_cp, nn_cp, ln_wf, nn_wf, rd_wf, nn_nw]
  try rfl)
theorem jt_284_18 (h : am_H) (d1 d7 : am_V) (x0 x2 x3 x4 x5 x6 : Int) : JJ 284 18 [(22, x0), d1, (0, x2), (0, x3), (0, x4), (0, x5), (0, x6), d7] [] h = Mo_could_13 h x0 x2 x3 x4 x5 (w32 (x6 + 1)) := (jj_of bk_284_18 _ _ h).trans ((ff_of bk_284_18 [(22, x0), (9, 0), (0, x2), (0, x3), (0, x4), (0, x5), (0, x6), (9, 0)] [] h).trans (by
  show (JJ 284 13 [(22, x0), (9, 0), (0, x2), (0, x3), (0, x4), (0, x5), (0, w32 (x6 + 1)), (9, 0)] [] h) = _
  simp only [jt_284_13, ck_or1, ck_or2, rf_wr, ln_wr, nn_wr, rf_cp, ln_cp, nn_cp, ln_wf, nn_wf, rd_wf, nn_nw]
  try rfl))
theorem jt_284_17 (h : am_H) (d1 : am_V) (x0 x2 x3 x4 x5 x6 x7 : Int) : JJ 284 17 [(22, x0), d1, (0, x2), (0, x3), (0, x4), (0, x5), (0, x6), (0, x7)] [] h = ck_ (0 ≤ x0) (ck_ (0 ≤ x0) (bd_ (Mo_turnedCode h x0 x4 x6 x7 x2) fun h1 v2 => ck_ (0 ≤ (rf_ h x0 72)) (ck_ (0 ≤ v2 ∧ v2 < ln_ h1 (rf_ h x0 72)) (Mo_could_15 (wr_ h1 (rf_ h x0 72) v2 1) x0 x2 x3 x4 x5 x6 (w32 (x7 + 1)))))) := (jj_of bk_284_17 _ _ h).trans ((ff_of bk_284_17 [(22, x0), (9, 0), (0, x2), (0, x3), (0, x4), (0, x5), (0, x6), (0, x7)] [] h).trans (by
  show (ck_ (0 ≤ x0) (ck_ (0 ≤ x0) (bd_ (CC 276 [(22, x0), (0, x4), (0, x6), (0, x7), (0, x2)] h) fun h1 v2 => ck_ (0 ≤ (rf_ h x0 72)) (ck_ (0 ≤ v2 ∧ v2 < ln_ h1 (rf_ h x0 72)) (JJ 284 15 [(22, x0), (9, 0), (0, x2), (0, x3), (0, x4), (0, x5), (0, x6), (0, w32 (x7 + 1))] [] (wr_ h1 (rf_ h x0 72) v2 1)))))) = _
  simp only [cc_276, jt_284_15, ck_or1, ck_or2, rf_wr, ln_wr, nn_wr, rf_cp, ln_cp, nn_cp, ln_wf, nn_wf, rd_wf, nn_nw]
  try rfl))
theorem jt_284_16 (h : am_H) (d1 : am_V) (x0 x2 x3 x4 x5 x6 x7 : Int) : JJ 284 16 [(22, x0), d1, (0, x2), (0, x3), (0, x4), (0, x5), (0, x6), (0, x7)] [] h = ck_ (0 ≤ x0) (ck_ (0 ≤ (rf_ h x0 71)) (ck_ (0 ≤ x6 ∧ x6 < ln_ h (rf_ h x0 71)) (if (rd_ h (rf_ h x0 71) x6) ≠ 1 then Mo_could_13 h x0 x2 x3 x4 x5 (w32 (x6 + 1)) else ck_ (0 ≤ x0) (ck_ (0 ≤ x0) (bd_ (Mo_turnedCode h x0 x4 x6 x7 x2) fun h1 v2 => ck_ (0 ≤ (rf_ h x0 72)) (ck_ (0 ≤ v2 ∧ v2 < ln_ h1 (rf_ h x0 72)) (Mo_could_15 (wr_ h1 (rf_ h x0 72) v2 1) x0 x2 x3 x4 x5 x6 (w32 (x7 + 1))))))))) := (jj_of bk_284_16 _ _ h).trans ((ff_of bk_284_16 [(22, x0), (9, 0), (0, x2), (0, x3), (0, x4), (0, x5), (0, x6), (0, x7)] [] h).trans (by
  show (ck_ (0 ≤ x0) (ck_ (0 ≤ (rf_ h x0 71)) (ck_ (0 ≤ x6 ∧ x6 < ln_ h (rf_ h x0 71)) (if (rd_ h (rf_ h x0 71) x6) ≠ 1 then JJ 284 18 [(22, x0), (9, 0), (0, x2), (0, x3), (0, x4), (0, x5), (0, x6), (0, x7)] [] h else JJ 284 17 [(22, x0), (9, 0), (0, x2), (0, x3), (0, x4), (0, x5), (0, x6), (0, x7)] [] h)))) = _
  simp only [jt_284_17, jt_284_18, ck_or1, ck_or2, rf_wr, ln_wr, nn_wr, rf_cp, ln_cp, nn_cp, ln_wf, nn_wf, rd_wf, nn_nw]
  try rfl))
theorem Mo_could_15_e (h : am_H) (x0 x2 x3 x4 x5 x6 x7 : Int) : Mo_could_15 h x0 x2 x3 x4 x5 x6 x7 = if x4 < x7 then Mo_could_13 h x0 x2 x3 x4 x5 (w32 (x6 + 1)) else ck_ (0 ≤ x0) (ck_ (0 ≤ (rf_ h x0 71)) (ck_ (0 ≤ x6 ∧ x6 < ln_ h (rf_ h x0 71)) (if (rd_ h (rf_ h x0 71) x6) ≠ 1 then Mo_could_13 h x0 x2 x3 x4 x5 (w32 (x6 + 1)) else ck_ (0 ≤ x0) (ck_ (0 ≤ x0) (bd_ (Mo_turnedCode h x0 x4 x6 x7 x2) fun h1 v2 => ck_ (0 ≤ (rf_ h x0 72)) (ck_ (0 ≤ v2 ∧ v2 < ln_ h1 (rf_ h x0 72)) (Mo_could_15 (wr_ h1 (rf_ h x0 72) v2 1) x0 x2 x3 x4 x5 x6 (w32 (x7 + 1))))))))) := (ff_of bk_284_15 [(22, x0), (9, 0), (0, x2), (0, x3), (0, x4), (0, x5), (0, x6), (0, x7)] [] h).trans (by
  show (if x4 < x7 then JJ 284 18 [(22, x0), (9, 0), (0, x2), (0, x3), (0, x4), (0, x5), (0, x6), (0, x7)] [] h else JJ 284 16 [(22, x0), (9, 0), (0, x2), (0, x3), (0, x4), (0, x5), (0, x6), (0, x7)] [] h) = _
  simp only [jt_284_16, jt_284_18, ck_or1, ck_or2, rf_wr, ln_wr, nn_wr, rf_cp, ln_cp, nn_cp, ln_wf, nn_wf, rd_wf, nn_nw]
  try rfl)
theorem jt_284_22 (h : am_H) (d1 d6 d7 : am_V) (x0 x2 x3 x4 x5 : Int) : JJ 284 22 [(22, x0), d1, (0, x2), (0, x3), (0, x4), (0, x5), d6, d7] [] h = Mo_could_8 h x0 x2 x3 x4 (w32 (x5 + 1)) := (jj_of bk_284_22 _ _ h).trans ((ff_of bk_284_22 [(22, x0), (9, 0), (0, x2), (0, x3), (0, x4), (0, x5), (9, 0), (9, 0)] [] h).trans (by
  show (JJ 284 8 [(22, x0), (9, 0), (0, x2), (0, x3), (0, x4), (0, w32 (x5 + 1)), (9, 0), (9, 0)] [] h) = _
  simp only [jt_284_8, ck_or1, ck_or2, rf_wr, ln_wr, nn_wr, rf_cp, ln_cp, nn_cp, ln_wf, nn_wf, rd_wf, nn_nw]
  try rfl))
theorem jt_284_21 (h : am_H) (d1 d7 : am_V) (x0 x2 x3 x4 x5 x6 : Int) : JJ 284 21 [(22, x0), d1, (0, x2), (0, x3), (0, x4), (0, x5), (0, x6), d7] [] h = ck_ (0 ≤ x0) (ck_ (0 ≤ x0) (ck_ (0 ≤ (rf_ h x0 72)) (ck_ (0 ≤ x6 ∧ x6 < ln_ h (rf_ h x0 72)) (ck_ (0 ≤ (rf_ h x0 71)) (ck_ (0 ≤ x6 ∧ x6 < ln_ h (rf_ h x0 71)) (Mo_could_20 (wr_ h (rf_ h x0 71) x6 (rd_ h (rf_ h x0 72) x6)) x0 x2 x3 x4 x5 (w32 (x6 + 1)))))))) := (jj_of bk_284_21 _ _ h).trans ((ff_of bk_284_21 [(22, x0), (9, 0), (0, x2), (0, x3), (0, x4), (0, x5), (0, x6), (9, 0)] [] h).trans (by
  show (ck_ (0 ≤ x0) (ck_ (0 ≤ x0) (ck_ (0 ≤ (rf_ h x0 72)) (ck_ (0 ≤ x6 ∧ x6 < ln_ h (rf_ h x0 72)) (ck_ (0 ≤ (rf_ h x0 71)) (ck_ (0 ≤ x6 ∧ x6 < ln_ h (rf_ h x0 71)) (JJ 284 20 [(22, x0), (9, 0), (0, x2), (0, x3), (0, x4), (0, x5), (0, w32 (x6 + 1)), (9, 0)] [] (wr_ h (rf_ h x0 71) x6 (rd_ h (rf_ h x0 72) x6))))))))) = _
  simp only [jt_284_20, ck_or1, ck_or2, rf_wr, ln_wr, nn_wr, rf_cp, ln_cp, nn_cp, ln_wf, nn_wf, rd_wf, nn_nw]
  try rfl))
theorem Mo_could_20_e (h : am_H) (x0 x2 x3 x4 x5 x6 : Int) : Mo_could_20 h x0 x2 x3 x4 x5 x6 = if 3840 ≤ x6 then Mo_could_8 h x0 x2 x3 x4 (w32 (x5 + 1)) else ck_ (0 ≤ x0) (ck_ (0 ≤ x0) (ck_ (0 ≤ (rf_ h x0 72)) (ck_ (0 ≤ x6 ∧ x6 < ln_ h (rf_ h x0 72)) (ck_ (0 ≤ (rf_ h x0 71)) (ck_ (0 ≤ x6 ∧ x6 < ln_ h (rf_ h x0 71)) (Mo_could_20 (wr_ h (rf_ h x0 71) x6 (rd_ h (rf_ h x0 72) x6)) x0 x2 x3 x4 x5 (w32 (x6 + 1)))))))) := (ff_of bk_284_20 [(22, x0), (9, 0), (0, x2), (0, x3), (0, x4), (0, x5), (0, x6), (9, 0)] [] h).trans (by
  show (if 3840 ≤ x6 then JJ 284 22 [(22, x0), (9, 0), (0, x2), (0, x3), (0, x4), (0, x5), (0, x6), (9, 0)] [] h else JJ 284 21 [(22, x0), (9, 0), (0, x2), (0, x3), (0, x4), (0, x5), (0, x6), (9, 0)] [] h) = _
  simp only [jt_284_21, jt_284_22, ck_or1, ck_or2, rf_wr, ln_wr, nn_wr, rf_cp, ln_cp, nn_cp, ln_wf, nn_wf, rd_wf, nn_nw]
  try rfl)
theorem jt_284_26 (h : am_H) (d0 d1 d2 d3 d4 d6 d7 : am_V) (x5 : Int) : JJ 284 26 [d0, d1, d2, d3, d4, (0, x5), d6, d7] [] h = some (h, x5) := (jj_of bk_284_26 _ _ h).trans (ff_of bk_284_26 [(9, 0), (9, 0), (9, 0), (9, 0), (9, 0), (0, x5), (9, 0), (9, 0)] [] h)
theorem jt_284_25 (h : am_H) (d1 d2 d3 d4 d7 : am_V) (x0 x5 x6 : Int) : JJ 284 25 [(22, x0), d1, d2, d3, d4, (0, x5), (0, x6), d7] [] h = ck_ (0 ≤ x0) (ck_ (0 ≤ (rf_ h x0 71)) (ck_ (0 ≤ x6 ∧ x6 < ln_ h (rf_ h x0 71)) (Mo_could_24 h x0 (w32 (x5 + (rd_ h (rf_ h x0 71) x6))) (w32 (x6 + 1))))) := (jj_of bk_284_25 _ _ h).trans ((ff_of bk_284_25 [(22, x0), (9, 0), (9, 0), (9, 0), (9, 0), (0, x5), (0, x6), (9, 0)] [] h).trans (by
  show (ck_ (0 ≤ x0) (ck_ (0 ≤ (rf_ h x0 71)) (ck_ (0 ≤ x6 ∧ x6 < ln_ h (rf_ h x0 71)) (JJ 284 24 [(22, x0), (9, 0), (9, 0), (9, 0), (9, 0), (0, w32 (x5 + (rd_ h (rf_ h x0 71) x6))), (0, w32 (x6 + 1)), (9, 0)] [] h)))) = _
  simp only [jt_284_24, ck_or1, ck_or2, rf_wr, ln_wr, nn_wr, rf_cp, ln_cp, nn_cp, ln_wf, nn_wf, rd_wf, nn_nw]
  try rfl))
theorem Mo_could_24_e (h : am_H) (x0 x5 x6 : Int) : Mo_could_24 h x0 x5 x6 = if 3840 ≤ x6 then some (h, x5) else ck_ (0 ≤ x0) (ck_ (0 ≤ (rf_ h x0 71)) (ck_ (0 ≤ x6 ∧ x6 < ln_ h (rf_ h x0 71)) (Mo_could_24 h x0 (w32 (x5 + (rd_ h (rf_ h x0 71) x6))) (w32 (x6 + 1))))) := (ff_of bk_284_24 [(22, x0), (9, 0), (9, 0), (9, 0), (9, 0), (0, x5), (0, x6), (9, 0)] [] h).trans (by
  show (if 3840 ≤ x6 then JJ 284 26 [(22, x0), (9, 0), (9, 0), (9, 0), (9, 0), (0, x5), (0, x6), (9, 0)] [] h else JJ 284 25 [(22, x0), (9, 0), (9, 0), (9, 0), (9, 0), (0, x5), (0, x6), (9, 0)] [] h) = _
  simp only [jt_284_25, jt_284_26, ck_or1, ck_or2, rf_wr, ln_wr, nn_wr, rf_cp, ln_cp, nn_cp, ln_wf, nn_wf, rd_wf, nn_nw]
  try rfl)
theorem cc_284 (h : am_H) (x0 x1 x2 x3 : Int) : CC 284 [(22, x0), (0, x1), (0, x2), (0, x3)] h = Mo_could h x0 x1 x2 x3 := cc_of pk_284 _ h
set_option maxRecDepth 20000 in
theorem pk_285 : am_prog 285 = some cd_285 := rfl
theorem bk_285_0 : bk_ am_prog 285 0 = some ([true, true, false, false, false], (bl_285_0, 9999)) := bk_of pk_285 rfl
theorem bk_285_1 : bk_ am_prog 285 1 = some ([false, false, false, false, false], (bl_285_1, 9999)) := bk_of pk_285 rfl
theorem bk_285_2 : bk_ am_prog 285 2 = some ([true, true, false, false, false], (bl_285_2, 3)) := bk_of pk_285 rfl
theorem bk_285_3 : bk_ am_prog 285 3 = some ([true, false, true, true, false], (bl_285_3, 9999)) := bk_of pk_285 rfl
theorem bk_285_4 : bk_ am_prog 285 4 = some ([true, false, true, true, false], (bl_285_4, 5)) := bk_of pk_285 rfl
theorem bk_285_5 : bk_ am_prog 285 5 = some ([true, false, true, true, true], (bl_285_5, 9999)) := bk_of pk_285 rfl
theorem bk_285_6 : bk_ am_prog 285 6 = some ([true, false, true, true, true], (bl_285_6, 9999)) := bk_of pk_285 rfl
theorem bk_285_7 : bk_ am_prog 285 7 = some ([true, false, true, true, true], (bl_285_7, 9999)) := bk_of pk_285 rfl
theorem bk_285_8 : bk_ am_prog 285 8 = some ([true, false, true, true, false], (bl_285_8, 9999)) := bk_of pk_285 rfl
theorem bk_285_9 : bk_ am_prog 285 9 = some ([true, false, true, true, true], (bl_285_9, 9999)) := bk_of pk_285 rfl
theorem bk_285_10 : bk_ am_prog 285 10 = some ([true, false, true, true, true], (bl_285_10, 11)) := bk_of pk_285 rfl
theorem bk_285_11 : bk_ am_prog 285 11 = some ([true, false, true, true, false], (bl_285_11, 12)) := bk_of pk_285 rfl
theorem bk_285_12 : bk_ am_prog 285 12 = some ([true, false, true, true, false], (bl_285_12, 9999)) := bk_of pk_285 rfl
theorem bk_285_13 : bk_ am_prog 285 13 = some ([false, false, true, false, false], (bl_285_13, 9999)) := bk_of pk_285 rfl
theorem jt_285_3 (h : am_H) (d1 d4 : am_V) (x0 x2 x3 : Int) : JJ 285 3 [(22, x0), d1, (0, x2), (0, x3), d4] [] h = Mo_greedy_3 h x0 x2 x3 := jj_of bk_285_3 _ _ h
theorem jt_285_5 (h : am_H) (d1 : am_V) (x0 x2 x3 x4 : Int) : JJ 285 5 [(22, x0), d1, (0, x2), (0, x3), (0, x4)] [] h = Mo_greedy_5 h x0 x2 x3 x4 := jj_of bk_285_5 _ _ h
theorem jt_285_2 (h : am_H) (d2 d3 d4 : am_V) (x0 x1 : Int) : JJ 285 2 [(22, x0), (0, x1), d2, d3, d4] [] h = ck_ (0 ≤ x0) (bd_ (Mo_codeOfPile h x0 x1 0) fun h1 v2 => ck_ (0 ≤ x0) (ck_ (0 ≤ (rf_ h1 x0 52)) (ck_ (0 ≤ x1 ∧ x1 < ln_ h1 (rf_ h1 x0 52)) (Mo_greedy_3 h1 x0 0 (w32 ((rd_ h1 (rf_ h1 x0 52) x1) - 1)))))) := (jj_of bk_285_2 _ _ h).trans ((ff_of bk_285_2 [(22, x0), (0, x1), (9, 0), (9, 0), (9, 0)] [] h).trans (by
  show (ck_ (0 ≤ x0) (bd_ (CC 275 [(22, x0), (0, x1), (0, 0)] h) fun h1 v2 => ck_ (0 ≤ x0) (ck_ (0 ≤ (rf_ h1 x0 52)) (ck_ (0 ≤ x1 ∧ x1 < ln_ h1 (rf_ h1 x0 52)) (JJ 285 3 [(22, x0), (0, x1), (0, 0), (0, w32 ((rd_ h1 (rf_ h1 x0 52) x1) - 1)), (9, 0)] [] h1))))) = _
  simp only [cc_275, jt_285_3, ck_or1, ck_or2, rf_wr, ln_wr, nn_wr, rf_cp, ln_cp, nn_cp, ln_wf, nn_wf, rd_wf, nn_nw]
  try rfl))
theorem jt_285_1 (h : am_H) (d0 d1 d2 d3 d4 : am_V) : JJ 285 1 [d0, d1, d2, d3, d4] [] h = some (h, (-1)) := (jj_of bk_285_1 _ _ h).trans (ff_of bk_285_1 [(9, 0), (9, 0), (9, 0), (9, 0), (9, 0)] [] h)
theorem Mo_greedy_e (h : am_H) (x0 x1 : Int) : Mo_greedy h x0 x1 = ck_ (0 ≤ x0) (ck_ (0 ≤ x0) (bd_ (Mo_isPile (wr_ h x0 2 0) x0 x1) fun h1 v2 => if v2 ≠ 0 then ck_ (0 ≤ x0) (bd_ (Mo_codeOfPile h1 x0 x1 0) fun h3 v4 => ck_ (0 ≤ x0) (ck_ (0 ≤ (rf_ h3 x0 52)) (ck_ (0 ≤ x1 ∧ x1 < ln_ h3 (rf_ h3 x0 52)) (Mo_greedy_3 h3 x0 0 (w32 ((rd_ h3 (rf_ h3 x0 52) x1) - 1)))))) else some (h1, (-1)))) := (ff_of bk_285_0 [(22, x0), (0, x1), (9, 0), (9, 0), (9, 0)] [] h).trans (by
  show (ck_ (0 ≤ x0) (ck_ (0 ≤ x0) (bd_ (CC 236 [(22, x0), (0, x1)] (wr_ h x0 2 0)) fun h1 v2 => if v2 ≠ 0 then JJ 285 2 [(22, x0), (0, x1), (9, 0), (9, 0), (9, 0)] [] h1 else JJ 285 1 [(22, x0), (0, x1), (9, 0), (9, 0), (9, 0)] [] h1))) = _
  simp only [cc_236, jt_285_1, jt_285_2, ck_or1, ck_or2, rf_wr, ln_wr, nn_wr, rf_cp, ln_cp, nn_cp, ln_wf, nn_wf, rd_wf, nn_nw]
  try rfl)
theorem jt_285_13 (h : am_H) (d0 d1 d3 d4 : am_V) (x2 : Int) : JJ 285 13 [d0, d1, (0, x2), d3, d4] [] h = some (h, x2) := (jj_of bk_285_13 _ _ h).trans (ff_of bk_285_13 [(9, 0), (9, 0), (0, x2), (9, 0), (9, 0)] [] h)
theorem jt_285_4 (h : am_H) (d1 d4 : am_V) (x0 x2 x3 : Int) : JJ 285 4 [(22, x0), d1, (0, x2), (0, x3), d4] [] h = Mo_greedy_5 h x0 x2 x3 0 := (jj_of bk_285_4 _ _ h).trans ((ff_of bk_285_4 [(22, x0), (9, 0), (0, x2), (0, x3), (9, 0)] [] h).trans (by
  show (JJ 285 5 [(22, x0), (9, 0), (0, x2), (0, x3), (0, 0)] [] h) = _
  simp only [jt_285_5, ck_or1, ck_or2, rf_wr, ln_wr, nn_wr, rf_cp, ln_cp, nn_cp, ln_wf, nn_wf, rd_wf, nn_nw]
  try rfl))
theorem Mo_greedy_3_e (h : am_H) (x0 x2 x3 : Int) : Mo_greedy_3 h x0 x2 x3 = if x3 ≤ 0 then some (h, x2) else Mo_greedy_5 h x0 x2 x3 0 := (ff_of bk_285_3 [(22, x0), (9, 0), (0, x2), (0, x3), (9, 0)] [] h).trans (by
  show (if x3 ≤ 0 then JJ 285 13 [(22, x0), (9, 0), (0, x2), (0, x3), (9, 0)] [] h else JJ 285 4 [(22, x0), (9, 0), (0, x2), (0, x3), (9, 0)] [] h) = _
  simp only [jt_285_13, jt_285_4, ck_or1, ck_or2, rf_wr, ln_wr, nn_wr, rf_cp, ln_cp, nn_cp, ln_wf, nn_wf, rd_wf, nn_nw]
  try rfl)
theorem jt_285_12 (h : am_H) (d1 d4 : am_V) (x0 x2 x3 : Int) : JJ 285 12 [(22, x0), d1, (0, x2), (0, x3), d4] [] h = Mo_greedy_3 h x0 x2 (w32 (x3 + (-1))) := (jj_of bk_285_12 _ _ h).trans ((ff_of bk_285_12 [(22, x0), (9, 0), (0, x2), (0, x3), (9, 0)] [] h).trans (by
  show (JJ 285 3 [(22, x0), (9, 0), (0, x2), (0, w32 (x3 + (-1))), (9, 0)] [] h) = _
  simp only [jt_285_3, ck_or1, ck_or2, rf_wr, ln_wr, nn_wr, rf_cp, ln_cp, nn_cp, ln_wf, nn_wf, rd_wf, nn_nw]
  try rfl))
theorem jt_285_11 (h : am_H) (d1 d4 : am_V) (x0 x2 x3 : Int) : JJ 285 11 [(22, x0), d1, (0, x2), (0, x3), d4] [] h = ck_ (0 ≤ x0) (bd_ (Mo_turnsRow h x0 (w32 (x3 + 1)) 0) fun h1 _ => Mo_greedy_3 h1 x0 (w32 (x2 + 1)) (w32 (x3 + (-1)))) := (jj_of bk_285_11 _ _ h).trans ((ff_of bk_285_11 [(22, x0), (9, 0), (0, x2), (0, x3), (9, 0)] [] h).trans (by
  show (ck_ (0 ≤ x0) (bd_ (CC 274 [(22, x0), (0, w32 (x3 + 1)), (0, 0)] h) fun h1 _ => JJ 285 12 [(22, x0), (9, 0), (0, w32 (x2 + 1)), (0, x3), (9, 0)] [] h1)) = _
  simp only [cc_274, jt_285_12, ck_or1, ck_or2, rf_wr, ln_wr, nn_wr, rf_cp, ln_cp, nn_cp, ln_wf, nn_wf, rd_wf, nn_nw]
  try rfl))
theorem jt_285_10 (h : am_H) (d1 : am_V) (x0 x2 x3 x4 : Int) : JJ 285 10 [(22, x0), d1, (0, x2), (0, x3), (0, x4)] [] h = ck_ (0 ≤ x0) (bd_ (Mo_turnsRow h x0 (w32 (x4 + 1)) 0) fun h1 _ => ck_ (0 ≤ x0) (bd_ (Mo_turnsRow h1 x0 (w32 (x3 + 1)) 0) fun h3 _ => Mo_greedy_3 h3 x0 (w32 ((w32 (x2 + 1)) + 1)) (w32 (x3 + (-1))))) := (jj_of bk_285_10 _ _ h).trans ((ff_of bk_285_10 [(22, x0), (9, 0), (0, x2), (0, x3), (0, x4)] [] h).trans (by
  show (ck_ (0 ≤ x0) (bd_ (CC 274 [(22, x0), (0, w32 (x4 + 1)), (0, 0)] h) fun h1 _ => JJ 285 11 [(22, x0), (9, 0), (0, w32 (x2 + 1)), (0, x3), (0, x4)] [] h1)) = _
  simp only [cc_274, jt_285_11, ck_or1, ck_or2, rf_wr, ln_wr, nn_wr, rf_cp, ln_cp, nn_cp, ln_wf, nn_wf, rd_wf, nn_nw]
  try rfl))
theorem jt_285_9 (h : am_H) (d1 : am_V) (x0 x2 x3 x4 : Int) : JJ 285 9 [(22, x0), d1, (0, x2), (0, x3), (0, x4)] [] h = if x4 ≤ 0 then ck_ (0 ≤ x0) (bd_ (Mo_turnsRow h x0 (w32 (x3 + 1)) 0) fun h1 _ => Mo_greedy_3 h1 x0 (w32 (x2 + 1)) (w32 (x3 + (-1)))) else ck_ (0 ≤ x0) (bd_ (Mo_turnsRow h x0 (w32 (x4 + 1)) 0) fun h3 _ => ck_ (0 ≤ x0) (bd_ (Mo_turnsRow h3 x0 (w32 (x3 + 1)) 0) fun h5 _ => Mo_greedy_3 h5 x0 (w32 ((w32 (x2 + 1)) + 1)) (w32 (x3 + (-1))))) := (jj_of bk_285_9 _ _ h).trans ((ff_of bk_285_9 [(22, x0), (9, 0), (0, x2), (0, x3), (0, x4)] [] h).trans (by
  show (if x4 ≤ 0 then JJ 285 11 [(22, x0), (9, 0), (0, x2), (0, x3), (0, x4)] [] h else JJ 285 10 [(22, x0), (9, 0), (0, x2), (0, x3), (0, x4)] [] h) = _
  simp only [jt_285_10, jt_285_11, ck_or1, ck_or2, rf_wr, ln_wr, nn_wr, rf_cp, ln_cp, nn_cp, ln_wf, nn_wf, rd_wf, nn_nw]
  try rfl))
theorem jt_285_8 (h : am_H) (d1 d4 : am_V) (x0 x2 x3 : Int) : JJ 285 8 [(22, x0), d1, (0, x2), (0, x3), d4] [] h = Mo_greedy_3 h x0 x2 (w32 (x3 + (-1))) := (jj_of bk_285_8 _ _ h).trans ((ff_of bk_285_8 [(22, x0), (9, 0), (0, x2), (0, x3), (9, 0)] [] h).trans (by
  show (JJ 285 12 [(22, x0), (9, 0), (0, x2), (0, x3), (9, 0)] [] h) = _
  simp only [jt_285_12, ck_or1, ck_or2, rf_wr, ln_wr, nn_wr, rf_cp, ln_cp, nn_cp, ln_wf, nn_wf, rd_wf, nn_nw]
  try rfl))
theorem jt_285_7 (h : am_H) (d1 : am_V) (x0 x2 x3 x4 : Int) : JJ 285 7 [(22, x0), d1, (0, x2), (0, x3), (0, x4)] [] h = if x4 ≠ x3 then (if x4 ≤ 0 then ck_ (0 ≤ x0) (bd_ (Mo_turnsRow h x0 (w32 (x3 + 1)) 0) fun h1 _ => Mo_greedy_3 h1 x0 (w32 (x2 + 1)) (w32 (x3 + (-1)))) else ck_ (0 ≤ x0) (bd_ (Mo_turnsRow h x0 (w32 (x4 + 1)) 0) fun h3 _ => ck_ (0 ≤ x0) (bd_ (Mo_turnsRow h3 x0 (w32 (x3 + 1)) 0) fun h5 _ => Mo_greedy_3 h5 x0 (w32 ((w32 (x2 + 1)) + 1)) (w32 (x3 + (-1)))))) else Mo_greedy_3 h x0 x2 (w32 (x3 + (-1))) := (jj_of bk_285_7 _ _ h).trans ((ff_of bk_285_7 [(22, x0), (9, 0), (0, x2), (0, x3), (0, x4)] [] h).trans (by
  show (if x4 ≠ x3 then JJ 285 9 [(22, x0), (9, 0), (0, x2), (0, x3), (0, x4)] [] h else JJ 285 8 [(22, x0), (9, 0), (0, x2), (0, x3), (0, x4)] [] h) = _
  simp only [jt_285_8, jt_285_9, ck_or1, ck_or2, rf_wr, ln_wr, nn_wr, rf_cp, ln_cp, nn_cp, ln_wf, nn_wf, rd_wf, nn_nw]
  try rfl))
theorem jt_285_6 (h : am_H) (d1 : am_V) (x0 x2 x3 x4 : Int) : JJ 285 6 [(22, x0), d1, (0, x2), (0, x3), (0, x4)] [] h = Mo_greedy_5 h x0 x2 x3 (w32 (x4 + 1)) := (jj_of bk_285_6 _ _ h).trans ((ff_of bk_285_6 [(22, x0), (9, 0), (0, x2), (0, x3), (0, x4)] [] h).trans (by
  show (JJ 285 5 [(22, x0), (9, 0), (0, x2), (0, x3), (0, w32 (x4 + 1))] [] h) = _
  simp only [jt_285_5, ck_or1, ck_or2, rf_wr, ln_wr, nn_wr, rf_cp, ln_cp, nn_cp, ln_wf, nn_wf, rd_wf, nn_nw]
  try rfl))
theorem Mo_greedy_5_e (h : am_H) (x0 x2 x3 x4 : Int) : Mo_greedy_5 h x0 x2 x3 x4 = ck_ (0 ≤ x0) (ck_ (0 ≤ (rf_ h x0 69)) (ck_ (0 ≤ x4 ∧ x4 < ln_ h (rf_ h x0 69)) (if (rd_ h (rf_ h x0 69) x4) = x3 then (if x4 ≠ x3 then (if x4 ≤ 0 then ck_ (0 ≤ x0) (bd_ (Mo_turnsRow h x0 (w32 (x3 + 1)) 0) fun h1 _ => Mo_greedy_3 h1 x0 (w32 (x2 + 1)) (w32 (x3 + (-1)))) else ck_ (0 ≤ x0) (bd_ (Mo_turnsRow h x0 (w32 (x4 + 1)) 0) fun h3 _ => ck_ (0 ≤ x0) (bd_ (Mo_turnsRow h3 x0 (w32 (x3 + 1)) 0) fun h5 _ => Mo_greedy_3 h5 x0 (w32 ((w32 (x2 + 1)) + 1)) (w32 (x3 + (-1)))))) else Mo_greedy_3 h x0 x2 (w32 (x3 + (-1)))) else Mo_greedy_5 h x0 x2 x3 (w32 (x4 + 1))))) := (ff_of bk_285_5 [(22, x0), (9, 0), (0, x2), (0, x3), (0, x4)] [] h).trans (by
  show (ck_ (0 ≤ x0) (ck_ (0 ≤ (rf_ h x0 69)) (ck_ (0 ≤ x4 ∧ x4 < ln_ h (rf_ h x0 69)) (if (rd_ h (rf_ h x0 69) x4) = x3 then JJ 285 7 [(22, x0), (9, 0), (0, x2), (0, x3), (0, x4)] [] h else JJ 285 6 [(22, x0), (9, 0), (0, x2), (0, x3), (0, x4)] [] h)))) = _
  simp only [jt_285_6, jt_285_7, ck_or1, ck_or2, rf_wr, ln_wr, nn_wr, rf_cp, ln_cp, nn_cp, ln_wf, nn_wf, rd_wf, nn_nw]
  try rfl)
theorem cc_285 (h : am_H) (x0 x1 : Int) : CC 285 [(22, x0), (0, x1)] h = Mo_greedy h x0 x1 := cc_of pk_285 _ h
set_option maxRecDepth 20000 in
theorem pk_286 : am_prog 286 = some cd_286 := rfl
theorem bk_286_0 : bk_ am_prog 286 0 = some ([true, true, true, false], (bl_286_0, 9999)) := bk_of pk_286 rfl
theorem bk_286_1 : bk_ am_prog 286 1 = some ([false, false, false, false], (bl_286_1, 9999)) := bk_of pk_286 rfl
theorem bk_286_2 : bk_ am_prog 286 2 = some ([true, false, true, true], (bl_286_2, 3)) := bk_of pk_286 rfl
theorem bk_286_3 : bk_ am_prog 286 3 = some ([false, false, false, false], (bl_286_3, 9999)) := bk_of pk_286 rfl
theorem jt_286_3 (h : am_H) (d0 d1 d2 d3 : am_V) (s0 : Int) : JJ 286 3 [d0, d1, d2, d3] [(0, s0)] h = some (h, s0) := (jj_of bk_286_3 _ _ h).trans (ff_of bk_286_3 [(9, 0), (9, 0), (9, 0), (9, 0)] [(0, s0)] h)
theorem jt_286_2 (h : am_H) (d1 : am_V) (x0 x2 x3 : Int) : JJ 286 2 [(22, x0), d1, (0, x2), (0, x3)] [] h = ck_ (0 ≤ x0) (ck_ (0 ≤ (rf_ h x0 76)) (ck_ (0 ≤ (w32 ((w32 (6 * x3)) + x2)) ∧ (w32 ((w32 (6 * x3)) + x2)) < ln_ h (rf_ h x0 76)) (some (h, w32 (-(rd_ h (rf_ h x0 76) (w32 ((w32 (6 * x3)) + x2)))))))) := (jj_of bk_286_2 _ _ h).trans ((ff_of bk_286_2 [(22, x0), (9, 0), (0, x2), (0, x3)] [] h).trans (by
  show (ck_ (0 ≤ x0) (ck_ (0 ≤ (rf_ h x0 76)) (ck_ (0 ≤ (w32 ((w32 (6 * x3)) + x2)) ∧ (w32 ((w32 (6 * x3)) + x2)) < ln_ h (rf_ h x0 76)) (JJ 286 3 [(22, x0), (9, 0), (0, x2), (0, x3)] [(0, w32 (-(rd_ h (rf_ h x0 76) (w32 ((w32 (6 * x3)) + x2)))))] h)))) = _
  simp only [jt_286_3, ck_or1, ck_or2, rf_wr, ln_wr, nn_wr, rf_cp, ln_cp, nn_cp, ln_wf, nn_wf, rd_wf, nn_nw]
  try rfl))
theorem jt_286_1 (h : am_H) (d0 d1 d2 d3 : am_V) : JJ 286 1 [d0, d1, d2, d3] [] h = some (h, 1) := (jj_of bk_286_1 _ _ h).trans ((ff_of bk_286_1 [(9, 0), (9, 0), (9, 0), (9, 0)] [] h).trans (by
  show (JJ 286 3 [(9, 0), (9, 0), (9, 0), (9, 0)] [(0, 1)] h) = _
  simp only [jt_286_3, ck_or1, ck_or2, rf_wr, ln_wr, nn_wr, rf_cp, ln_cp, nn_cp, ln_wf, nn_wf, rd_wf, nn_nw]
  try rfl))
set_option maxRecDepth 20000 in
theorem Mo_worthBy_e (h : am_H) (x0 x1 x2 : Int) : Mo_worthBy h x0 x1 x2 = ck_ (0 ≤ x0) (ck_ (0 ≤ (rf_ h x0 75)) (ck_ (0 ≤ (w32 ((w32 ((w32 (5 * x1)) + x2)) - 1)) ∧ (w32 ((w32 ((w32 (5 * x1)) + x2)) - 1)) < ln_ h (rf_ h x0 75)) (if (rd_ h (rf_ h x0 75) (w32 ((w32 ((w32 (5 * x1)) + x2)) - 1))) ≠ 0 then ck_ (0 ≤ x0) (ck_ (0 ≤ (rf_ h x0 76)) (ck_ (0 ≤ (w32 ((w32 (6 * (rd_ h (rf_ h x0 75) (w32 ((w32 ((w32 (5 * x1)) + x2)) - 1))))) + x2)) ∧ (w32 ((w32 (6 * (rd_ h (rf_ h x0 75) (w32 ((w32 ((w32 (5 * x1)) + x2)) - 1))))) + x2)) < ln_ h (rf_ h x0 76)) (some (h, w32 (-(rd_ h (rf_ h x0 76) (w32 ((w32 (6 * (rd_ h (rf_ h x0 75) (w32 ((w32 ((w32 (5 * x1)) + x2)) - 1))))) + x2)))))))) else some (h, 1)))) := (ff_of bk_286_0 [(22, x0), (0, x1), (0, x2), (9, 0)] [] h).trans (by
  show (ck_ (0 ≤ x0) (ck_ (0 ≤ (rf_ h x0 75)) (ck_ (0 ≤ (w32 ((w32 ((w32 (5 * x1)) + x2)) - 1)) ∧ (w32 ((w32 ((w32 (5 * x1)) + x2)) - 1)) < ln_ h (rf_ h x0 75)) (if (rd_ h (rf_ h x0 75) (w32 ((w32 ((w32 (5 * x1)) + x2)) - 1))) ≠ 0 then JJ 286 2 [(22, x0), (0, x1), (0, x2), (0, rd_ h (rf_ h x0 75) (w32 ((w32 ((w32 (5 * x1)) + x2)) - 1)))] [] h else JJ 286 1 [(22, x0), (0, x1), (0, x2), (0, rd_ h (rf_ h x0 75) (w32 ((w32 ((w32 (5 * x1)) + x2)) - 1)))] [] h)))) = _
  simp only [jt_286_1, jt_286_2, ck_or1, ck_or2, rf_wr, ln_wr, nn_wr, rf_cp, ln_cp, nn_cp, ln_wf, nn_wf, rd_wf, nn_nw]
  try rfl)
theorem cc_286 (h : am_H) (x0 x1 x2 : Int) : CC 286 [(22, x0), (0, x1), (0, x2)] h = Mo_worthBy h x0 x1 x2 := cc_of pk_286 _ h
set_option maxRecDepth 20000 in
theorem pk_287 : am_prog 287 = some cd_287 := rfl
theorem bk_287_0 : bk_ am_prog 287 0 = some ([true, true, true, true, true, false, false, false, false], (bl_287_0, 1)) := bk_of pk_287 rfl
theorem bk_287_1 : bk_ am_prog 287 1 = some ([true, true, true, true, false, true, true, true, false], (bl_287_1, 9999)) := bk_of pk_287 rfl
theorem bk_287_2 : bk_ am_prog 287 2 = some ([true, true, true, true, false, true, true, true, false], (bl_287_2, 9999)) := bk_of pk_287 rfl
theorem bk_287_3 : bk_ am_prog 287 3 = some ([true, true, true, true, false, true, true, true, false], (bl_287_3, 9999)) := bk_of pk_287 rfl
theorem bk_287_4 : bk_ am_prog 287 4 = some ([true, true, true, true, false, true, true, true, false], (bl_287_4, 9999)) := bk_of pk_287 rfl
theorem bk_287_5 : bk_ am_prog 287 5 = some ([true, true, true, true, false, false, true, true, true], (bl_287_5, 9999)) := bk_of pk_287 rfl
theorem bk_287_6 : bk_ am_prog 287 6 = some ([true, true, true, true, false, true, true, true, false], (bl_287_6, 7)) := bk_of pk_287 rfl
theorem bk_287_7 : bk_ am_prog 287 7 = some ([true, true, true, true, false, false, true, true, false], (bl_287_7, 8)) := bk_of pk_287 rfl
theorem bk_287_8 : bk_ am_prog 287 8 = some ([true, true, true, true, false, true, true, true, false], (bl_287_8, 9999)) := bk_of pk_287 rfl
theorem bk_287_9 : bk_ am_prog 287 9 = some ([true, false, true, true, false, true, true, false, false], (bl_287_9, 9999)) := bk_of pk_287 rfl
theorem bk_287_10 : bk_ am_prog 287 10 = some ([true, false, true, true, false, true, true, false, false], (bl_287_10, 9999)) := bk_of pk_287 rfl
theorem bk_287_11 : bk_ am_prog 287 11 = some ([true, false, true, true, false, true, true, false, false], (bl_287_11, 9999)) := bk_of pk_287 rfl
theorem bk_287_12 : bk_ am_prog 287 12 = some ([false, false, false, false, false, false, false, false, false], (bl_287_12, 9999)) := bk_of pk_287 rfl
theorem bk_287_13 : bk_ am_prog 287 13 = some ([true, false, true, true, false, true, true, false, false], (bl_287_13, 9999)) := bk_of pk_287 rfl
theorem bk_287_14 : bk_ am_prog 287 14 = some ([false, false, false, false, false, false, false, false, false], (bl_287_14, 9999)) := bk_of pk_287 rfl
theorem bk_287_15 : bk_ am_prog 287 15 = some ([false, false, false, false, false, true, false, false, false], (bl_287_15, 16)) := bk_of pk_287 rfl
theorem bk_287_16 : bk_ am_prog 287 16 = some ([false, false, false, false, false, false, false, false, false], (bl_287_16, 9999)) := bk_of pk_287 rfl
theorem jt_287_1 (h : am_H) (d4 d8 : am_V) (x0 x1 x2 x3 x5 x6 x7 : Int) : JJ 287 1 [(22, x0), (0, x1), (0, x2), (0, x3), d4, (0, x5), (0, x6), (0, x7), d8] [] h = Mo_isKnownNow_1 h x0 x1 x2 x3 x5 x6 x7 := jj_of bk_287_1 _ _ h
theorem jt_287_13 (h : am_H) (d1 d4 d7 d8 : am_V) (x0 x2 x3 x5 x6 : Int) : JJ 287 13 [(22, x0), d1, (0, x2), (0, x3), d4, (0, x5), (0, x6), d7, d8] [] h = Mo_isKnownNow_13 h x0 x2 x3 x5 x6 := jj_of bk_287_13 _ _ h
theorem Mo_isKnownNow_e (h : am_H) (x0 x1 x2 x3 x4 : Int) : Mo_isKnownNow h x0 x1 x2 x3 x4 = Mo_isKnownNow_1 h x0 x1 x2 x3 (-1) 0 x4 := (ff_of bk_287_0 [(22, x0), (0, x1), (0, x2), (0, x3), (0, x4), (9, 0), (9, 0), (9, 0), (9, 0)] [] h).trans (by
  show (JJ 287 1 [(22, x0), (0, x1), (0, x2), (0, x3), (0, x4), (0, (-1)), (0, 0), (0, x4), (9, 0)] [] h) = _
  simp only [jt_287_1, ck_or1, ck_or2, rf_wr, ln_wr, nn_wr, rf_cp, ln_cp, nn_cp, ln_wf, nn_wf, rd_wf, nn_nw]
  try rfl)
theorem jt_287_12 (h : am_H) (d0 d1 d2 d3 d4 d5 d6 d7 d8 : am_V) : JJ 287 12 [d0, d1, d2, d3, d4, d5, d6, d7, d8] [] h = some (h, 0) := (jj_of bk_287_12 _ _ h).trans (ff_of bk_287_12 [(9, 0), (9, 0), (9, 0), (9, 0), (9, 0), (9, 0), (9, 0), (9, 0), (9, 0)] [] h)
theorem jt_287_11 (h : am_H) (d1 d4 d7 d8 : am_V) (x0 x2 x3 x5 x6 : Int) : JJ 287 11 [(22, x0), d1, (0, x2), (0, x3), d4, (0, x5), (0, x6), d7, d8] [] h = if x5 ≠ 0 then Mo_isKnownNow_13 h x0 x2 x3 x5 x6 else some (h, 0) := (jj_of bk_287_11 _ _ h).trans ((ff_of bk_287_11 [(22, x0), (9, 0), (0, x2), (0, x3), (9, 0), (0, x5), (0, x6), (9, 0), (9, 0)] [] h).trans (by
  show (if x5 ≠ 0 then JJ 287 13 [(22, x0), (9, 0), (0, x2), (0, x3), (9, 0), (0, x5), (0, x6), (9, 0), (9, 0)] [] h else JJ 287 12 [(22, x0), (9, 0), (0, x2), (0, x3), (9, 0), (0, x5), (0, x6), (9, 0), (9, 0)] [] h) = _
  simp only [jt_287_12, jt_287_13, ck_or1, ck_or2, rf_wr, ln_wr, nn_wr, rf_cp, ln_cp, nn_cp, ln_wf, nn_wf, rd_wf, nn_nw]
  try rfl))
theorem jt_287_10 (h : am_H) (d1 d4 d7 d8 : am_V) (x0 x2 x3 x5 x6 : Int) : JJ 287 10 [(22, x0), d1, (0, x2), (0, x3), d4, (0, x5), (0, x6), d7, d8] [] h = if x6 ≤ 0 then Mo_isKnownNow_13 h x0 x2 x3 x5 x6 else if x5 ≠ 0 then Mo_isKnownNow_13 h x0 x2 x3 x5 x6 else some (h, 0) := (jj_of bk_287_10 _ _ h).trans ((ff_of bk_287_10 [(22, x0), (9, 0), (0, x2), (0, x3), (9, 0), (0, x5), (0, x6), (9, 0), (9, 0)] [] h).trans (by
  show (if x6 ≤ 0 then JJ 287 13 [(22, x0), (9, 0), (0, x2), (0, x3), (9, 0), (0, x5), (0, x6), (9, 0), (9, 0)] [] h else JJ 287 11 [(22, x0), (9, 0), (0, x2), (0, x3), (9, 0), (0, x5), (0, x6), (9, 0), (9, 0)] [] h) = _
  simp only [jt_287_11, jt_287_13, ck_or1, ck_or2, rf_wr, ln_wr, nn_wr, rf_cp, ln_cp, nn_cp, ln_wf, nn_wf, rd_wf, nn_nw]
  try rfl))
theorem jt_287_9 (h : am_H) (d1 d4 d7 d8 : am_V) (x0 x2 x3 x5 x6 : Int) : JJ 287 9 [(22, x0), d1, (0, x2), (0, x3), d4, (0, x5), (0, x6), d7, d8] [] h = ck_ (0 ≤ x0) (ck_ (0 ≤ (rf_ h x0 76)) (ck_ (0 ≤ (w32 ((w32 (6 * x2)) + x3)) ∧ (w32 ((w32 (6 * x2)) + x3)) < ln_ h (rf_ h x0 76)) (if (rd_ h (rf_ h x0 76) (w32 ((w32 (6 * x2)) + x3))) ≠ 0 then some (h, 0) else if x6 ≤ 0 then Mo_isKnownNow_13 h x0 x2 x3 x5 x6 else if x5 ≠ 0 then Mo_isKnownNow_13 h x0 x2 x3 x5 x6 else some (h, 0)))) := (jj_of bk_287_9 _ _ h).trans ((ff_of bk_287_9 [(22, x0), (9, 0), (0, x2), (0, x3), (9, 0), (0, x5), (0, x6), (9, 0), (9, 0)] [] h).trans (by
  show (ck_ (0 ≤ x0) (ck_ (0 ≤ (rf_ h x0 76)) (ck_ (0 ≤ (w32 ((w32 (6 * x2)) + x3)) ∧ (w32 ((w32 (6 * x2)) + x3)) < ln_ h (rf_ h x0 76)) (if (rd_ h (rf_ h x0 76) (w32 ((w32 (6 * x2)) + x3))) ≠ 0 then JJ 287 12 [(22, x0), (9, 0), (0, x2), (0, x3), (9, 0), (0, x5), (0, x6), (9, 0), (9, 0)] [] h else JJ 287 10 [(22, x0), (9, 0), (0, x2), (0, x3), (9, 0), (0, x5), (0, x6), (9, 0), (9, 0)] [] h)))) = _
  simp only [jt_287_10, jt_287_12, ck_or1, ck_or2, rf_wr, ln_wr, nn_wr, rf_cp, ln_cp, nn_cp, ln_wf, nn_wf, rd_wf, nn_nw]
  try rfl))
theorem jt_287_8 (h : am_H) (d4 d8 : am_V) (x0 x1 x2 x3 x5 x6 x7 : Int) : JJ 287 8 [(22, x0), (0, x1), (0, x2), (0, x3), d4, (0, x5), (0, x6), (0, x7), d8] [] h = Mo_isKnownNow_1 h x0 x1 x2 x3 x5 x6 (w32 (x7 + 1)) := (jj_of bk_287_8 _ _ h).trans ((ff_of bk_287_8 [(22, x0), (0, x1), (0, x2), (0, x3), (9, 0), (0, x5), (0, x6), (0, x7), (9, 0)] [] h).trans (by
  show (JJ 287 1 [(22, x0), (0, x1), (0, x2), (0, x3), (9, 0), (0, x5), (0, x6), (0, w32 (x7 + 1)), (9, 0)] [] h) = _
  simp only [jt_287_1, ck_or1, ck_or2, rf_wr, ln_wr, nn_wr, rf_cp, ln_cp, nn_cp, ln_wf, nn_wf, rd_wf, nn_nw]
  try rfl))
theorem jt_287_7 (h : am_H) (d4 d5 d8 : am_V) (x0 x1 x2 x3 x6 x7 s0 : Int) : JJ 287 7 [(22, x0), (0, x1), (0, x2), (0, x3), d4, d5, (0, x6), (0, x7), d8] [(0, s0)] h = Mo_isKnownNow_1 h x0 x1 x2 x3 s0 (w32 (x6 + 1)) (w32 (x7 + 1)) := (jj_of bk_287_7 _ _ h).trans ((ff_of bk_287_7 [(22, x0), (0, x1), (0, x2), (0, x3), (9, 0), (9, 0), (0, x6), (0, x7), (9, 0)] [(0, s0)] h).trans (by
  show (JJ 287 8 [(22, x0), (0, x1), (0, x2), (0, x3), (9, 0), (0, s0), (0, w32 (x6 + 1)), (0, x7), (9, 0)] [] h) = _
  simp only [jt_287_8, ck_or1, ck_or2, rf_wr, ln_wr, nn_wr, rf_cp, ln_cp, nn_cp, ln_wf, nn_wf, rd_wf, nn_nw]
  try rfl))
theorem jt_287_6 (h : am_H) (d4 d8 : am_V) (x0 x1 x2 x3 x5 x6 x7 : Int) : JJ 287 6 [(22, x0), (0, x1), (0, x2), (0, x3), d4, (0, x5), (0, x6), (0, x7), d8] [] h = Mo_isKnownNow_1 h x0 x1 x2 x3 x5 (w32 (x6 + 1)) (w32 (x7 + 1)) := (jj_of bk_287_6 _ _ h).trans ((ff_of bk_287_6 [(22, x0), (0, x1), (0, x2), (0, x3), (9, 0), (0, x5), (0, x6), (0, x7), (9, 0)] [] h).trans (by
  show (JJ 287 7 [(22, x0), (0, x1), (0, x2), (0, x3), (9, 0), (0, x5), (0, x6), (0, x7), (9, 0)] [(0, x5)] h) = _
  simp only [jt_287_7, ck_or1, ck_or2, rf_wr, ln_wr, nn_wr, rf_cp, ln_cp, nn_cp, ln_wf, nn_wf, rd_wf, nn_nw]
  try rfl))
theorem jt_287_5 (h : am_H) (d4 d5 : am_V) (x0 x1 x2 x3 x6 x7 x8 : Int) : JJ 287 5 [(22, x0), (0, x1), (0, x2), (0, x3), d4, d5, (0, x6), (0, x7), (0, x8)] [] h = Mo_isKnownNow_1 h x0 x1 x2 x3 x8 (w32 (x6 + 1)) (w32 (x7 + 1)) := (jj_of bk_287_5 _ _ h).trans ((ff_of bk_287_5 [(22, x0), (0, x1), (0, x2), (0, x3), (9, 0), (9, 0), (0, x6), (0, x7), (0, x8)] [] h).trans (by
  show (JJ 287 7 [(22, x0), (0, x1), (0, x2), (0, x3), (9, 0), (9, 0), (0, x6), (0, x7), (0, x8)] [(0, x8)] h) = _
  simp only [jt_287_7, ck_or1, ck_or2, rf_wr, ln_wr, nn_wr, rf_cp, ln_cp, nn_cp, ln_wf, nn_wf, rd_wf, nn_nw]
  try rfl))
theorem jt_287_4 (h : am_H) (d4 d8 : am_V) (x0 x1 x2 x3 x5 x6 x7 : Int) : JJ 287 4 [(22, x0), (0, x1), (0, x2), (0, x3), d4, (0, x5), (0, x6), (0, x7), d8] [] h = ck_ (0 ≤ x0) (bd_ (Mo_worthBy h x0 x2 x7) fun h1 v2 => if v2 ≤ x5 then Mo_isKnownNow_1 h1 x0 x1 x2 x3 x5 (w32 (x6 + 1)) (w32 (x7 + 1)) else Mo_isKnownNow_1 h1 x0 x1 x2 x3 v2 (w32 (x6 + 1)) (w32 (x7 + 1))) := (jj_of bk_287_4 _ _ h).trans ((ff_of bk_287_4 [(22, x0), (0, x1), (0, x2), (0, x3), (9, 0), (0, x5), (0, x6), (0, x7), (9, 0)] [] h).trans (by
  show (ck_ (0 ≤ x0) (bd_ (CC 286 [(22, x0), (0, x2), (0, x7)] h) fun h1 v2 => if v2 ≤ x5 then JJ 287 6 [(22, x0), (0, x1), (0, x2), (0, x3), (9, 0), (0, x5), (0, x6), (0, x7), (0, v2)] [] h1 else JJ 287 5 [(22, x0), (0, x1), (0, x2), (0, x3), (9, 0), (0, x5), (0, x6), (0, x7), (0, v2)] [] h1)) = _
  simp only [cc_286, jt_287_5, jt_287_6, ck_or1, ck_or2, rf_wr, ln_wr, nn_wr, rf_cp, ln_cp, nn_cp, ln_wf, nn_wf, rd_wf, nn_nw]
  try rfl))
theorem jt_287_3 (h : am_H) (d4 d8 : am_V) (x0 x1 x2 x3 x5 x6 x7 : Int) : JJ 287 3 [(22, x0), (0, x1), (0, x2), (0, x3), d4, (0, x5), (0, x6), (0, x7), d8] [] h = Mo_isKnownNow_1 h x0 x1 x2 x3 x5 x6 (w32 (x7 + 1)) := (jj_of bk_287_3 _ _ h).trans ((ff_of bk_287_3 [(22, x0), (0, x1), (0, x2), (0, x3), (9, 0), (0, x5), (0, x6), (0, x7), (9, 0)] [] h).trans (by
  show (JJ 287 8 [(22, x0), (0, x1), (0, x2), (0, x3), (9, 0), (0, x5), (0, x6), (0, x7), (9, 0)] [] h) = _
  simp only [jt_287_8, ck_or1, ck_or2, rf_wr, ln_wr, nn_wr, rf_cp, ln_cp, nn_cp, ln_wf, nn_wf, rd_wf, nn_nw]
  try rfl))
theorem jt_287_2 (h : am_H) (d4 d8 : am_V) (x0 x1 x2 x3 x5 x6 x7 : Int) : JJ 287 2 [(22, x0), (0, x1), (0, x2), (0, x3), d4, (0, x5), (0, x6), (0, x7), d8] [] h = if x7 ≠ x3 then ck_ (0 ≤ x0) (bd_ (Mo_worthBy h x0 x2 x7) fun h1 v2 => if v2 ≤ x5 then Mo_isKnownNow_1 h1 x0 x1 x2 x3 x5 (w32 (x6 + 1)) (w32 (x7 + 1)) else Mo_isKnownNow_1 h1 x0 x1 x2 x3 v2 (w32 (x6 + 1)) (w32 (x7 + 1))) else Mo_isKnownNow_1 h x0 x1 x2 x3 x5 x6 (w32 (x7 + 1)) := (jj_of bk_287_2 _ _ h).trans ((ff_of bk_287_2 [(22, x0), (0, x1), (0, x2), (0, x3), (9, 0), (0, x5), (0, x6), (0, x7), (9, 0)] [] h).trans (by
  show (if x7 ≠ x3 then JJ 287 4 [(22, x0), (0, x1), (0, x2), (0, x3), (9, 0), (0, x5), (0, x6), (0, x7), (9, 0)] [] h else JJ 287 3 [(22, x0), (0, x1), (0, x2), (0, x3), (9, 0), (0, x5), (0, x6), (0, x7), (9, 0)] [] h) = _
  simp only [jt_287_3, jt_287_4, ck_or1, ck_or2, rf_wr, ln_wr, nn_wr, rf_cp, ln_cp, nn_cp, ln_wf, nn_wf, rd_wf, nn_nw]
  try rfl))
set_option maxRecDepth 20000 in
theorem Mo_isKnownNow_1_e (h : am_H) (x0 x1 x2 x3 x5 x6 x7 : Int) : Mo_isKnownNow_1 h x0 x1 x2 x3 x5 x6 x7 = if x1 < x7 then ck_ (0 ≤ x0) (ck_ (0 ≤ (rf_ h x0 76)) (ck_ (0 ≤ (w32 ((w32 (6 * x2)) + x3)) ∧ (w32 ((w32 (6 * x2)) + x3)) < ln_ h (rf_ h x0 76)) (if (rd_ h (rf_ h x0 76) (w32 ((w32 (6 * x2)) + x3))) ≠ 0 then some (h, 0) else if x6 ≤ 0 then Mo_isKnownNow_13 h x0 x2 x3 x5 x6 else if x5 ≠ 0 then Mo_isKnownNow_13 h x0 x2 x3 x5 x6 else some (h, 0)))) else if x7 ≠ x3 then ck_ (0 ≤ x0) (bd_ (Mo_worthBy h x0 x2 x7) fun h1 v2 => if v2 ≤ x5 then Mo_isKnownNow_1 h1 x0 x1 x2 x3 x5 (w32 (x6 + 1)) (w32 (x7 + 1)) else Mo_isKnownNow_1 h1 x0 x1 x2 x3 v2 (w32 (x6 + 1)) (w32 (x7 + 1))) else Mo_isKnownNow_1 h x0 x1 x2 x3 x5 x6 (w32 (x7 + 1)) := (ff_of bk_287_1 [(22, x0), (0, x1), (0, x2), (0, x3), (9, 0), (0, x5), (0, x6), (0, x7), (9, 0)] [] h).trans (by
  show (if x1 < x7 then JJ 287 9 [(22, x0), (0, x1), (0, x2), (0, x3), (9, 0), (0, x5), (0, x6), (0, x7), (9, 0)] [] h else JJ 287 2 [(22, x0), (0, x1), (0, x2), (0, x3), (9, 0), (0, x5), (0, x6), (0, x7), (9, 0)] [] h) = _
  simp only [jt_287_2, jt_287_9, ck_or1, ck_or2, rf_wr, ln_wr, nn_wr, rf_cp, ln_cp, nn_cp, ln_wf, nn_wf, rd_wf, nn_nw]
  try rfl)
theorem jt_287_16 (h : am_H) (d0 d1 d2 d3 d4 d5 d6 d7 d8 : am_V) (s0 s1 s2 : Int) : JJ 287 16 [d0, d1, d2, d3, d4, d5, d6, d7, d8] [(0, s0), (0, s1), (30, s2)] h = ck_ (0 ≤ s2) (ck_ (0 ≤ s1 ∧ s1 < ln_ h s2) (some (wr_ h s2 s1 s0, 1))) := (jj_of bk_287_16 _ _ h).trans (ff_of bk_287_16 [(9, 0), (9, 0), (9, 0), (9, 0), (9, 0), (9, 0), (9, 0), (9, 0), (9, 0)] [(0, s0), (0, s1), (30, s2)] h)
theorem jt_287_15 (h : am_H) (d0 d1 d2 d3 d4 d6 d7 d8 : am_V) (x5 s0 s1 : Int) : JJ 287 15 [d0, d1, d2, d3, d4, (0, x5), d6, d7, d8] [(0, s0), (30, s1)] h = ck_ (0 ≤ s1) (ck_ (0 ≤ s0 ∧ s0 < ln_ h s1) (some (wr_ h s1 s0 x5, 1))) := (jj_of bk_287_15 _ _ h).trans ((ff_of bk_287_15 [(9, 0), (9, 0), (9, 0), (9, 0), (9, 0), (0, x5), (9, 0), (9, 0), (9, 0)] [(0, s0), (30, s1)] h).trans (by
  show (JJ 287 16 [(9, 0), (9, 0), (9, 0), (9, 0), (9, 0), (0, x5), (9, 0), (9, 0), (9, 0)] [(0, x5), (0, s0), (30, s1)] h) = _
  simp only [jt_287_16, ck_or1, ck_or2, rf_wr, ln_wr, nn_wr, rf_cp, ln_cp, nn_cp, ln_wf, nn_wf, rd_wf, nn_nw]
  try rfl))
theorem jt_287_14 (h : am_H) (d0 d1 d2 d3 d4 d5 d6 d7 d8 : am_V) (s0 s1 : Int) : JJ 287 14 [d0, d1, d2, d3, d4, d5, d6, d7, d8] [(0, s0), (30, s1)] h = ck_ (0 ≤ s1) (ck_ (0 ≤ s0 ∧ s0 < ln_ h s1) (some (wr_ h s1 s0 (-1), 1))) := (jj_of bk_287_14 _ _ h).trans ((ff_of bk_287_14 [(9, 0), (9, 0), (9, 0), (9, 0), (9, 0), (9, 0), (9, 0), (9, 0), (9, 0)] [(0, s0), (30, s1)] h).trans (by
  show (JJ 287 16 [(9, 0), (9, 0), (9, 0), (9, 0), (9, 0), (9, 0), (9, 0), (9, 0), (9, 0)] [(0, (-1)), (0, s0), (30, s1)] h) = _
  simp only [jt_287_16, ck_or1, ck_or2, rf_wr, ln_wr, nn_wr, rf_cp, ln_cp, nn_cp, ln_wf, nn_wf, rd_wf, nn_nw]
  try rfl))
theorem Mo_isKnownNow_13_e (h : am_H) (x0 x2 x3 x5 x6 : Int) : Mo_isKnownNow_13 h x0 x2 x3 x5 x6 = ck_ (0 ≤ x0) (if x6 ≠ 0 then ck_ (0 ≤ (rf_ h x0 76)) (ck_ (0 ≤ (w32 ((w32 (6 * x2)) + x3)) ∧ (w32 ((w32 (6 * x2)) + x3)) < ln_ h (rf_ h x0 76)) (some (wr_ h (rf_ h x0 76) (w32 ((w32 (6 * x2)) + x3)) x5, 1))) else ck_ (0 ≤ (rf_ h x0 76)) (ck_ (0 ≤ (w32 ((w32 (6 * x2)) + x3)) ∧ (w32 ((w32 (6 * x2)) + x3)) < ln_ h (rf_ h x0 76)) (some (wr_ h (rf_ h x0 76) (w32 ((w32 (6 * x2)) + x3)) (-1), 1)))) := (ff_of bk_287_13 [(22, x0), (9, 0), (0, x2), (0, x3), (9, 0), (0, x5), (0, x6), (9, 0), (9, 0)] [] h).trans (by
  show (ck_ (0 ≤ x0) (if x6 ≠ 0 then JJ 287 15 [(22, x0), (9, 0), (0, x2), (0, x3), (9, 0), (0, x5), (0, x6), (9, 0), (9, 0)] [(0, w32 ((w32 (6 * x2)) + x3)), (30, rf_ h x0 76)] h else JJ 287 14 [(22, x0), (9, 0), (0, x2), (0, x3), (9, 0), (0, x5), (0, x6), (9, 0), (9, 0)] [(0, w32 ((w32 (6 * x2)) + x3)), (30, rf_ h x0 76)] h)) = _
  simp only [jt_287_14, jt_287_15, ck_or1, ck_or2, rf_wr, ln_wr, nn_wr, rf_cp, ln_cp, nn_cp, ln_wf, nn_wf, rd_wf, nn_nw]
  try rfl)
theorem cc_287 (h : am_H) (x0 x1 x2 x3 x4 : Int) : CC 287 [(22, x0), (0, x1), (0, x2), (0, x3), (0, x4)] h = Mo_isKnownNow h x0 x1 x2 x3 x4 := cc_of pk_287 _ h
set_option maxRecDepth 20000 in
theorem pk_288 : am_prog 288 = some cd_288 := rfl
theorem bk_288_0 : bk_ am_prog 288 0 = some ([true, true, true, false, false, false], (bl_288_0, 1)) := bk_of pk_288 rfl
theorem bk_288_1 : bk_ am_prog 288 1 = some ([true, true, true, true, false, false], (bl_288_1, 9999)) := bk_of pk_288 rfl
theorem bk_288_2 : bk_ am_prog 288 2 = some ([true, true, true, true, false, false], (bl_288_2, 9999)) := bk_of pk_288 rfl
theorem bk_288_3 : bk_ am_prog 288 3 = some ([true, true, true, false, false, false], (bl_288_3, 4)) := bk_of pk_288 rfl
theorem bk_288_4 : bk_ am_prog 288 4 = some ([true, true, true, true, false, false], (bl_288_4, 9999)) := bk_of pk_288 rfl
theorem bk_288_5 : bk_ am_prog 288 5 = some ([true, true, true, true, false, false], (bl_288_5, 6)) := bk_of pk_288 rfl
theorem bk_288_6 : bk_ am_prog 288 6 = some ([true, true, true, true, true, false], (bl_288_6, 9999)) := bk_of pk_288 rfl
theorem bk_288_7 : bk_ am_prog 288 7 = some ([true, true, true, true, true, false], (bl_288_7, 9999)) := bk_of pk_288 rfl
theorem bk_288_8 : bk_ am_prog 288 8 = some ([true, true, true, true, false, false], (bl_288_8, 9999)) := bk_of pk_288 rfl
theorem bk_288_9 : bk_ am_prog 288 9 = some ([true, true, true, false, false, false], (bl_288_9, 10)) := bk_of pk_288 rfl
theorem bk_288_10 : bk_ am_prog 288 10 = some ([true, true, true, true, false, false], (bl_288_10, 9999)) := bk_of pk_288 rfl
theorem bk_288_11 : bk_ am_prog 288 11 = some ([true, true, true, false, false, false], (bl_288_11, 12)) := bk_of pk_288 rfl
theorem bk_288_12 : bk_ am_prog 288 12 = some ([true, true, true, true, true, false], (bl_288_12, 9999)) := bk_of pk_288 rfl
theorem bk_288_13 : bk_ am_prog 288 13 = some ([true, true, true, true, true, false], (bl_288_13, 14)) := bk_of pk_288 rfl
theorem bk_288_14 : bk_ am_prog 288 14 = some ([true, true, true, true, true, true], (bl_288_14, 9999)) := bk_of pk_288 rfl
theorem bk_288_15 : bk_ am_prog 288 15 = some ([true, true, true, true, true, true], (bl_288_15, 9999)) := bk_of pk_288 rfl
theorem bk_288_16 : bk_ am_prog 288 16 = some ([true, true, true, true, true, false], (bl_288_16, 9999)) := bk_of pk_288 rfl
theorem bk_288_17 : bk_ am_prog 288 17 = some ([true, true, true, true, false, false], (bl_288_17, 9999)) := bk_of pk_288 rfl
theorem bk_288_18 : bk_ am_prog 288 18 = some ([false, false, false, false, false, false], (bl_288_18, 9999)) := bk_of pk_288 rfl
theorem jt_288_1 (h : am_H) (d4 d5 : am_V) (x0 x1 x2 x3 : Int) : JJ 288 1 [(22, x0), (0, x1), (0, x2), (0, x3), d4, d5] [] h = Mo_layWorth_1 h x0 x1 x2 x3 := jj_of bk_288_1 _ _ h
theorem jt_288_4 (h : am_H) (d4 d5 : am_V) (x0 x1 x2 x3 : Int) : JJ 288 4 [(22, x0), (0, x1), (0, x2), (0, x3), d4, d5] [] h = Mo_layWorth_4 h x0 x1 x2 x3 := jj_of bk_288_4 _ _ h
theorem jt_288_6 (h : am_H) (d5 : am_V) (x0 x1 x2 x3 x4 : Int) : JJ 288 6 [(22, x0), (0, x1), (0, x2), (0, x3), (0, x4), d5] [] h = Mo_layWorth_6 h x0 x1 x2 x3 x4 := jj_of bk_288_6 _ _ h
theorem jt_288_10 (h : am_H) (d4 d5 : am_V) (x0 x1 x2 x3 : Int) : JJ 288 10 [(22, x0), (0, x1), (0, x2), (0, x3), d4, d5] [] h = Mo_layWorth_10 h x0 x1 x2 x3 := jj_of bk_288_10 _ _ h
theorem jt_288_12 (h : am_H) (d5 : am_V) (x0 x1 x2 x3 x4 : Int) : JJ 288 12 [(22, x0), (0, x1), (0, x2), (0, x3), (0, x4), d5] [] h = Mo_layWorth_12 h x0 x1 x2 x3 x4 := jj_of bk_288_12 _ _ h
theorem jt_288_14 (h : am_H) (x0 x1 x2 x3 x4 x5 : Int) : JJ 288 14 [(22, x0), (0, x1), (0, x2), (0, x3), (0, x4), (0, x5)] [] h = Mo_layWorth_14 h x0 x1 x2 x3 x4 x5 := jj_of bk_288_14 _ _ h
theorem Mo_layWorth_e (h : am_H) (x0 x1 x2 : Int) : Mo_layWorth h x0 x1 x2 = ck_ (0 ≤ x0) (bd_ (Mo_layFar h x0 x1 0 x2) fun h1 _ => Mo_layWorth_1 h1 x0 x1 x2 0) := (ff_of bk_288_0 [(22, x0), (0, x1), (0, x2), (9, 0), (9, 0), (9, 0)] [] h).trans (by
  show (ck_ (0 ≤ x0) (bd_ (CC 277 [(22, x0), (0, x1), (0, 0), (0, x2)] h) fun h1 _ => JJ 288 1 [(22, x0), (0, x1), (0, x2), (0, 0), (9, 0), (9, 0)] [] h1)) = _
  simp only [cc_277, jt_288_1, ck_or1, ck_or2, rf_wr, ln_wr, nn_wr, rf_cp, ln_cp, nn_cp, ln_wf, nn_wf, rd_wf, nn_nw]
  try rfl)
theorem jt_288_3 (h : am_H) (d3 d4 d5 : am_V) (x0 x1 x2 : Int) : JJ 288 3 [(22, x0), (0, x1), (0, x2), d3, d4, d5] [] h = Mo_layWorth_4 h x0 x1 x2 0 := (jj_of bk_288_3 _ _ h).trans ((ff_of bk_288_3 [(22, x0), (0, x1), (0, x2), (9, 0), (9, 0), (9, 0)] [] h).trans (by
  show (JJ 288 4 [(22, x0), (0, x1), (0, x2), (0, 0), (9, 0), (9, 0)] [] h) = _
  simp only [jt_288_4, ck_or1, ck_or2, rf_wr, ln_wr, nn_wr, rf_cp, ln_cp, nn_cp, ln_wf, nn_wf, rd_wf, nn_nw]
  try rfl))
theorem jt_288_2 (h : am_H) (d4 d5 : am_V) (x0 x1 x2 x3 : Int) : JJ 288 2 [(22, x0), (0, x1), (0, x2), (0, x3), d4, d5] [] h = ck_ (0 ≤ x0) (ck_ (0 ≤ (rf_ h x0 76)) (ck_ (0 ≤ x3 ∧ x3 < ln_ h (rf_ h x0 76)) (Mo_layWorth_1 (wr_ h (rf_ h x0 76) x3 0) x0 x1 x2 (w32 (x3 + 1))))) := (jj_of bk_288_2 _ _ h).trans ((ff_of bk_288_2 [(22, x0), (0, x1), (0, x2), (0, x3), (9, 0), (9, 0)] [] h).trans (by
  show (ck_ (0 ≤ x0) (ck_ (0 ≤ (rf_ h x0 76)) (ck_ (0 ≤ x3 ∧ x3 < ln_ h (rf_ h x0 76)) (JJ 288 1 [(22, x0), (0, x1), (0, x2), (0, w32 (x3 + 1)), (9, 0), (9, 0)] [] (wr_ h (rf_ h x0 76) x3 0))))) = _
  simp only [jt_288_1, ck_or1, ck_or2, rf_wr, ln_wr, nn_wr, rf_cp, ln_cp, nn_cp, ln_wf, nn_wf, rd_wf, nn_nw]
  try rfl))
theorem Mo_layWorth_1_e (h : am_H) (x0 x1 x2 x3 : Int) : Mo_layWorth_1 h x0 x1 x2 x3 = if 23040 ≤ x3 then Mo_layWorth_4 h x0 x1 x2 0 else ck_ (0 ≤ x0) (ck_ (0 ≤ (rf_ h x0 76)) (ck_ (0 ≤ x3 ∧ x3 < ln_ h (rf_ h x0 76)) (Mo_layWorth_1 (wr_ h (rf_ h x0 76) x3 0) x0 x1 x2 (w32 (x3 + 1))))) := (ff_of bk_288_1 [(22, x0), (0, x1), (0, x2), (0, x3), (9, 0), (9, 0)] [] h).trans (by
  show (if 23040 ≤ x3 then JJ 288 3 [(22, x0), (0, x1), (0, x2), (0, x3), (9, 0), (9, 0)] [] h else JJ 288 2 [(22, x0), (0, x1), (0, x2), (0, x3), (9, 0), (9, 0)] [] h) = _
  simp only [jt_288_2, jt_288_3, ck_or1, ck_or2, rf_wr, ln_wr, nn_wr, rf_cp, ln_cp, nn_cp, ln_wf, nn_wf, rd_wf, nn_nw]
  try rfl)
theorem jt_288_9 (h : am_H) (d3 d4 d5 : am_V) (x0 x1 x2 : Int) : JJ 288 9 [(22, x0), (0, x1), (0, x2), d3, d4, d5] [] h = Mo_layWorth_10 h x0 x1 x2 1 := (jj_of bk_288_9 _ _ h).trans ((ff_of bk_288_9 [(22, x0), (0, x1), (0, x2), (9, 0), (9, 0), (9, 0)] [] h).trans (by
  show (JJ 288 10 [(22, x0), (0, x1), (0, x2), (0, 1), (9, 0), (9, 0)] [] h) = _
  simp only [jt_288_10, ck_or1, ck_or2, rf_wr, ln_wr, nn_wr, rf_cp, ln_cp, nn_cp, ln_wf, nn_wf, rd_wf, nn_nw]
  try rfl))
theorem jt_288_5 (h : am_H) (d4 d5 : am_V) (x0 x1 x2 x3 : Int) : JJ 288 5 [(22, x0), (0, x1), (0, x2), (0, x3), d4, d5] [] h = Mo_layWorth_6 h x0 x1 x2 x3 1 := (jj_of bk_288_5 _ _ h).trans ((ff_of bk_288_5 [(22, x0), (0, x1), (0, x2), (0, x3), (9, 0), (9, 0)] [] h).trans (by
  show (JJ 288 6 [(22, x0), (0, x1), (0, x2), (0, x3), (0, 1), (9, 0)] [] h) = _
  simp only [jt_288_6, ck_or1, ck_or2, rf_wr, ln_wr, nn_wr, rf_cp, ln_cp, nn_cp, ln_wf, nn_wf, rd_wf, nn_nw]
  try rfl))
theorem Mo_layWorth_4_e (h : am_H) (x0 x1 x2 x3 : Int) : Mo_layWorth_4 h x0 x1 x2 x3 = ck_ (0 ≤ x0) (if (rd_ h x0 74) ≤ x3 then Mo_layWorth_10 h x0 x1 x2 1 else Mo_layWorth_6 h x0 x1 x2 x3 1) := (ff_of bk_288_4 [(22, x0), (0, x1), (0, x2), (0, x3), (9, 0), (9, 0)] [] h).trans (by
  show (ck_ (0 ≤ x0) (if (rd_ h x0 74) ≤ x3 then JJ 288 9 [(22, x0), (0, x1), (0, x2), (0, x3), (9, 0), (9, 0)] [] h else JJ 288 5 [(22, x0), (0, x1), (0, x2), (0, x3), (9, 0), (9, 0)] [] h)) = _
  simp only [jt_288_5, jt_288_9, ck_or1, ck_or2, rf_wr, ln_wr, nn_wr, rf_cp, ln_cp, nn_cp, ln_wf, nn_wf, rd_wf, nn_nw]
  try rfl)
theorem jt_288_8 (h : am_H) (d4 d5 : am_V) (x0 x1 x2 x3 : Int) : JJ 288 8 [(22, x0), (0, x1), (0, x2), (0, x3), d4, d5] [] h = Mo_layWorth_4 h x0 x1 x2 (w32 (x3 + 1)) := (jj_of bk_288_8 _ _ h).trans ((ff_of bk_288_8 [(22, x0), (0, x1), (0, x2), (0, x3), (9, 0), (9, 0)] [] h).trans (by
  show (JJ 288 4 [(22, x0), (0, x1), (0, x2), (0, w32 (x3 + 1)), (9, 0), (9, 0)] [] h) = _
  simp only [jt_288_4, ck_or1, ck_or2, rf_wr, ln_wr, nn_wr, rf_cp, ln_cp, nn_cp, ln_wf, nn_wf, rd_wf, nn_nw]
  try rfl))
set_option maxRecDepth 20000 in
theorem jt_288_7 (h : am_H) (d5 : am_V) (x0 x1 x2 x3 x4 : Int) : JJ 288 7 [(22, x0), (0, x1), (0, x2), (0, x3), (0, x4), d5] [] h = ck_ (0 ≤ x0) (ck_ (0 ≤ x0) (ck_ (0 ≤ (rf_ h x0 73)) (ck_ (0 ≤ x3 ∧ x3 < ln_ h (rf_ h x0 73)) (ck_ (0 ≤ x0) (ck_ (0 ≤ (rf_ h x0 73)) (ck_ (0 ≤ x3 ∧ x3 < ln_ h (rf_ h x0 73)) (ck_ (0 ≤ x0) (bd_ (Mo_turnedCode h x0 x1 (rd_ h (rf_ h x0 73) x3) x4 x2) fun h1 v2 => ck_ (0 ≤ (rf_ h x0 75)) (ck_ (0 ≤ (w32 ((w32 ((w32 (5 * (rd_ h (rf_ h x0 73) x3))) + x4)) - 1)) ∧ (w32 ((w32 ((w32 (5 * (rd_ h (rf_ h x0 73) x3))) + x4)) - 1)) < ln_ h1 (rf_ h x0 75)) (Mo_layWorth_6 (wr_ h1 (rf_ h x0 75) (w32 ((w32 ((w32 (5 * (rd_ h (rf_ h x0 73) x3))) + x4)) - 1)) v2) x0 x1 x2 x3 (w32 (x4 + 1)))))))))))) := (jj_of bk_288_7 _ _ h).trans ((ff_of bk_288_7 [(22, x0), (0, x1), (0, x2), (0, x3), (0, x4), (9, 0)] [] h).trans (by
  show (ck_ (0 ≤ x0) (ck_ (0 ≤ x0) (ck_ (0 ≤ (rf_ h x0 73)) (ck_ (0 ≤ x3 ∧ x3 < ln_ h (rf_ h x0 73)) (ck_ (0 ≤ x0) (ck_ (0 ≤ (rf_ h x0 73)) (ck_ (0 ≤ x3 ∧ x3 < ln_ h (rf_ h x0 73)) (ck_ (0 ≤ x0) (bd_ (CC 276 [(22, x0), (0, x1), (0, rd_ h (rf_ h x0 73) x3), (0, x4), (0, x2)] h) fun h1 v2 => ck_ (0 ≤ (rf_ h x0 75)) (ck_ (0 ≤ (w32 ((w32 ((w32 (5 * (rd_ h (rf_ h x0 73) x3))) + x4)) - 1)) ∧ (w32 ((w32 ((w32 (5 * (rd_ h (rf_ h x0 73) x3))) + x4)) - 1)) < ln_ h1 (rf_ h x0 75)) (JJ 288 6 [(22, x0), (0, x1), (0, x2), (0, x3), (0, w32 (x4 + 1)), (9, 0)] [] (wr_ h1 (rf_ h x0 75) (w32 ((w32 ((w32 (5 * (rd_ h (rf_ h x0 73) x3))) + x4)) - 1)) v2)))))))))))) = _
  simp only [cc_276, jt_288_6, ck_or1, ck_or2, rf_wr, ln_wr, nn_wr, rf_cp, ln_cp, nn_cp, ln_wf, nn_wf, rd_wf, nn_nw]
  try rfl))
theorem Mo_layWorth_6_e (h : am_H) (x0 x1 x2 x3 x4 : Int) : Mo_layWorth_6 h x0 x1 x2 x3 x4 = if x1 < x4 then Mo_layWorth_4 h x0 x1 x2 (w32 (x3 + 1)) else ck_ (0 ≤ x0) (ck_ (0 ≤ x0) (ck_ (0 ≤ (rf_ h x0 73)) (ck_ (0 ≤ x3 ∧ x3 < ln_ h (rf_ h x0 73)) (ck_ (0 ≤ x0) (ck_ (0 ≤ (rf_ h x0 73)) (ck_ (0 ≤ x3 ∧ x3 < ln_ h (rf_ h x0 73)) (ck_ (0 ≤ x0) (bd_ (Mo_turnedCode h x0 x1 (rd_ h (rf_ h x0 73) x3) x4 x2) fun h1 v2 => ck_ (0 ≤ (rf_ h x0 75)) (ck_ (0 ≤ (w32 ((w32 ((w32 (5 * (rd_ h (rf_ h x0 73) x3))) + x4)) - 1)) ∧ (w32 ((w32 ((w32 (5 * (rd_ h (rf_ h x0 73) x3))) + x4)) - 1)) < ln_ h1 (rf_ h x0 75)) (Mo_layWorth_6 (wr_ h1 (rf_ h x0 75) (w32 ((w32 ((w32 (5 * (rd_ h (rf_ h x0 73) x3))) + x4)) - 1)) v2) x0 x1 x2 x3 (w32 (x4 + 1)))))))))))) := (ff_of bk_288_6 [(22, x0), (0, x1), (0, x2), (0, x3), (0, x4), (9, 0)] [] h).trans (by
  show (if x1 < x4 then JJ 288 8 [(22, x0), (0, x1), (0, x2), (0, x3), (0, x4), (9, 0)] [] h else JJ 288 7 [(22, x0), (0, x1), (0, x2), (0, x3), (0, x4), (9, 0)] [] h) = _
  simp only [jt_288_7, jt_288_8, ck_or1, ck_or2, rf_wr, ln_wr, nn_wr, rf_cp, ln_cp, nn_cp, ln_wf, nn_wf, rd_wf, nn_nw]
  try rfl)
theorem jt_288_18 (h : am_H) (d0 d1 d2 d3 d4 d5 : am_V) : JJ 288 18 [d0, d1, d2, d3, d4, d5] [] h = some (h, 0) := (jj_of bk_288_18 _ _ h).trans (ff_of bk_288_18 [(9, 0), (9, 0), (9, 0), (9, 0), (9, 0), (9, 0)] [] h)
theorem jt_288_11 (h : am_H) (d3 d4 d5 : am_V) (x0 x1 x2 : Int) : JJ 288 11 [(22, x0), (0, x1), (0, x2), d3, d4, d5] [] h = Mo_layWorth_12 h x0 x1 x2 0 1 := (jj_of bk_288_11 _ _ h).trans ((ff_of bk_288_11 [(22, x0), (0, x1), (0, x2), (9, 0), (9, 0), (9, 0)] [] h).trans (by
  show (JJ 288 12 [(22, x0), (0, x1), (0, x2), (0, 0), (0, 1), (9, 0)] [] h) = _
  simp only [jt_288_12, ck_or1, ck_or2, rf_wr, ln_wr, nn_wr, rf_cp, ln_cp, nn_cp, ln_wf, nn_wf, rd_wf, nn_nw]
  try rfl))
theorem Mo_layWorth_10_e (h : am_H) (x0 x1 x2 x3 : Int) : Mo_layWorth_10 h x0 x1 x2 x3 = if x3 = 0 then some (h, 0) else Mo_layWorth_12 h x0 x1 x2 0 1 := (ff_of bk_288_10 [(22, x0), (0, x1), (0, x2), (0, x3), (9, 0), (9, 0)] [] h).trans (by
  show (if x3 = 0 then JJ 288 18 [(22, x0), (0, x1), (0, x2), (0, x3), (9, 0), (9, 0)] [] h else JJ 288 11 [(22, x0), (0, x1), (0, x2), (0, x3), (9, 0), (9, 0)] [] h) = _
  simp only [jt_288_11, jt_288_18, ck_or1, ck_or2, rf_wr, ln_wr, nn_wr, rf_cp, ln_cp, nn_cp, ln_wf, nn_wf, rd_wf, nn_nw]
  try rfl)
theorem jt_288_17 (h : am_H) (d4 d5 : am_V) (x0 x1 x2 x3 : Int) : JJ 288 17 [(22, x0), (0, x1), (0, x2), (0, x3), d4, d5] [] h = Mo_layWorth_10 h x0 x1 x2 x3 := (jj_of bk_288_17 _ _ h).trans ((ff_of bk_288_17 [(22, x0), (0, x1), (0, x2), (0, x3), (9, 0), (9, 0)] [] h).trans (by
  show (JJ 288 10 [(22, x0), (0, x1), (0, x2), (0, x3), (9, 0), (9, 0)] [] h) = _
  simp only [jt_288_10, ck_or1, ck_or2, rf_wr, ln_wr, nn_wr, rf_cp, ln_cp, nn_cp, ln_wf, nn_wf, rd_wf, nn_nw]
  try rfl))
theorem jt_288_13 (h : am_H) (d5 : am_V) (x0 x1 x2 x3 x4 : Int) : JJ 288 13 [(22, x0), (0, x1), (0, x2), (0, x3), (0, x4), d5] [] h = Mo_layWorth_14 h x0 x1 x2 x3 x4 0 := (jj_of bk_288_13 _ _ h).trans ((ff_of bk_288_13 [(22, x0), (0, x1), (0, x2), (0, x3), (0, x4), (9, 0)] [] h).trans (by
  show (JJ 288 14 [(22, x0), (0, x1), (0, x2), (0, x3), (0, x4), (0, 0)] [] h) = _
  simp only [jt_288_14, ck_or1, ck_or2, rf_wr, ln_wr, nn_wr, rf_cp, ln_cp, nn_cp, ln_wf, nn_wf, rd_wf, nn_nw]
  try rfl))
theorem Mo_layWorth_12_e (h : am_H) (x0 x1 x2 x3 x4 : Int) : Mo_layWorth_12 h x0 x1 x2 x3 x4 = ck_ (0 ≤ x0) (if (rd_ h x0 74) ≤ x4 then Mo_layWorth_10 h x0 x1 x2 x3 else Mo_layWorth_14 h x0 x1 x2 x3 x4 0) := (ff_of bk_288_12 [(22, x0), (0, x1), (0, x2), (0, x3), (0, x4), (9, 0)] [] h).trans (by
  show (ck_ (0 ≤ x0) (if (rd_ h x0 74) ≤ x4 then JJ 288 17 [(22, x0), (0, x1), (0, x2), (0, x3), (0, x4), (9, 0)] [] h else JJ 288 13 [(22, x0), (0, x1), (0, x2), (0, x3), (0, x4), (9, 0)] [] h)) = _
  simp only [jt_288_13, jt_288_17, ck_or1, ck_or2, rf_wr, ln_wr, nn_wr, rf_cp, ln_cp, nn_cp, ln_wf, nn_wf, rd_wf, nn_nw]
  try rfl)
theorem jt_288_16 (h : am_H) (d5 : am_V) (x0 x1 x2 x3 x4 : Int) : JJ 288 16 [(22, x0), (0, x1), (0, x2), (0, x3), (0, x4), d5] [] h = Mo_layWorth_12 h x0 x1 x2 x3 (w32 (x4 + 1)) := (jj_of bk_288_16 _ _ h).trans ((ff_of bk_288_16 [(22, x0), (0, x1), (0, x2), (0, x3), (0, x4), (9, 0)] [] h).trans (by
  show (JJ 288 12 [(22, x0), (0, x1), (0, x2), (0, x3), (0, w32 (x4 + 1)), (9, 0)] [] h) = _
  simp only [jt_288_12, ck_or1, ck_or2, rf_wr, ln_wr, nn_wr, rf_cp, ln_cp, nn_cp, ln_wf, nn_wf, rd_wf, nn_nw]
  try rfl))
theorem jt_288_15 (h : am_H) (x0 x1 x2 x3 x4 x5 : Int) : JJ 288 15 [(22, x0), (0, x1), (0, x2), (0, x3), (0, x4), (0, x5)] [] h = ck_ (0 ≤ x0) (ck_ (0 ≤ (rf_ h x0 73)) (ck_ (0 ≤ x4 ∧ x4 < ln_ h (rf_ h x0 73)) (ck_ (0 ≤ x0) (bd_ (Mo_isKnownNow h x0 x1 (rd_ h (rf_ h x0 73) x4) x5 (w32 (2 - x2))) fun h1 v2 => Mo_layWorth_14 h1 x0 x1 x2 (or_ x3 v2) x4 (w32 (x5 + 1)))))) := (jj_of bk_288_15 _ _ h).trans ((ff_of bk_288_15 [(22, x0), (0, x1), (0, x2), (0, x3), (0, x4), (0, x5)] [] h).trans (by
  show (ck_ (0 ≤ x0) (ck_ (0 ≤ (rf_ h x0 73)) (ck_ (0 ≤ x4 ∧ x4 < ln_ h (rf_ h x0 73)) (ck_ (0 ≤ x0) (bd_ (CC 287 [(22, x0), (0, x1), (0, rd_ h (rf_ h x0 73) x4), (0, x5), (0, w32 (2 - x2))] h) fun h1 v2 => JJ 288 14 [(22, x0), (0, x1), (0, x2), (0, or_ x3 v2), (0, x4), (0, w32 (x5 + 1))] [] h1))))) = _
  simp only [cc_287, jt_288_14, ck_or1, ck_or2, rf_wr, ln_wr, nn_wr, rf_cp, ln_cp, nn_cp, ln_wf, nn_wf, rd_wf, nn_nw]
  try rfl))
theorem Mo_layWorth_14_e (h : am_H) (x0 x1 x2 x3 x4 x5 : Int) : Mo_layWorth_14 h x0 x1 x2 x3 x4 x5 = if x1 < x5 then Mo_layWorth_12 h x0 x1 x2 x3 (w32 (x4 + 1)) else ck_ (0 ≤ x0) (ck_ (0 ≤ (rf_ h x0 73)) (ck_ (0 ≤ x4 ∧ x4 < ln_ h (rf_ h x0 73)) (ck_ (0 ≤ x0) (bd_ (Mo_isKnownNow h x0 x1 (rd_ h (rf_ h x0 73) x4) x5 (w32 (2 - x2))) fun h1 v2 => Mo_layWorth_14 h1 x0 x1 x2 (or_ x3 v2) x4 (w32 (x5 + 1)))))) := (ff_of bk_288_14 [(22, x0), (0, x1), (0, x2), (0, x3), (0, x4), (0, x5)] [] h).trans (by
  show (if x1 < x5 then JJ 288 16 [(22, x0), (0, x1), (0, x2), (0, x3), (0, x4), (0, x5)] [] h else JJ 288 15 [(22, x0), (0, x1), (0, x2), (0, x3), (0, x4), (0, x5)] [] h) = _
  simp only [jt_288_15, jt_288_16, ck_or1, ck_or2, rf_wr, ln_wr, nn_wr, rf_cp, ln_cp, nn_cp, ln_wf, nn_wf, rd_wf, nn_nw]
  try rfl)
theorem cc_288 (h : am_H) (x0 x1 x2 : Int) : CC 288 [(22, x0), (0, x1), (0, x2)] h = Mo_layWorth h x0 x1 x2 := cc_of pk_288 _ h
set_option maxRecDepth 20000 in
theorem pk_289 : am_prog 289 = some cd_289 := rfl
theorem bk_289_0 : bk_ am_prog 289 0 = some ([true, true, true, true, false, false, false, false], (bl_289_0, 9999)) := bk_of pk_289 rfl
theorem bk_289_1 : bk_ am_prog 289 1 = some ([true, true, true, true, false, false, false, false], (bl_289_1, 9999)) := bk_of pk_289 rfl
theorem bk_289_2 : bk_ am_prog 289 2 = some ([true, true, true, true, false, false, false, false], (bl_289_2, 9999)) := bk_of pk_289 rfl
theorem bk_289_3 : bk_ am_prog 289 3 = some ([false, false, false, false, false, false, false, false], (bl_289_3, 9999)) := bk_of pk_289 rfl
theorem bk_289_4 : bk_ am_prog 289 4 = some ([true, true, true, true, false, false, false, false], (bl_289_4, 9999)) := bk_of pk_289 rfl
theorem bk_289_5 : bk_ am_prog 289 5 = some ([false, false, false, true, false, false, false, false], (bl_289_5, 9999)) := bk_of pk_289 rfl
theorem bk_289_6 : bk_ am_prog 289 6 = some ([false, false, false, false, false, false, false, false], (bl_289_6, 9999)) := bk_of pk_289 rfl
theorem bk_289_7 : bk_ am_prog 289 7 = some ([false, false, false, false, false, false, false, false], (bl_289_7, 8)) := bk_of pk_289 rfl
theorem bk_289_8 : bk_ am_prog 289 8 = some ([false, false, false, false, false, false, false, false], (bl_289_8, 9999)) := bk_of pk_289 rfl
theorem bk_289_9 : bk_ am_prog 289 9 = some ([true, false, true, true, true, true, false, false], (bl_289_9, 9999)) := bk_of pk_289 rfl
theorem bk_289_10 : bk_ am_prog 289 10 = some ([false, false, false, false, false, false, true, false], (bl_289_10, 9999)) := bk_of pk_289 rfl
theorem bk_289_11 : bk_ am_prog 289 11 = some ([false, false, false, false, false, false, false, false], (bl_289_11, 9999)) := bk_of pk_289 rfl
theorem bk_289_12 : bk_ am_prog 289 12 = some ([false, false, false, false, false, false, true, false], (bl_289_12, 9999)) := bk_of pk_289 rfl
theorem bk_289_13 : bk_ am_prog 289 13 = some ([false, false, false, false, false, false, false, false], (bl_289_13, 9999)) := bk_of pk_289 rfl
theorem bk_289_14 : bk_ am_prog 289 14 = some ([false, false, false, false, false, false, false, false], (bl_289_14, 15)) := bk_of pk_289 rfl
theorem bk_289_15 : bk_ am_prog 289 15 = some ([false, false, false, false, false, false, false, false], (bl_289_15, 9999)) := bk_of pk_289 rfl
theorem bk_289_16 : bk_ am_prog 289 16 = some ([true, false, true, false, true, true, true, false], (bl_289_16, 17)) := bk_of pk_289 rfl
theorem bk_289_17 : bk_ am_prog 289 17 = some ([true, false, false, false, true, true, true, true], (bl_289_17, 9999)) := bk_of pk_289 rfl
theorem bk_289_18 : bk_ am_prog 289 18 = some ([true, false, false, false, true, true, true, true], (bl_289_18, 9999)) := bk_of pk_289 rfl
theorem bk_289_19 : bk_ am_prog 289 19 = some ([true, false, false, false, true, true, true, true], (bl_289_19, 9999)) := bk_of pk_289 rfl
theorem bk_289_20 : bk_ am_prog 289 20 = some ([false, false, false, false, false, false, false, true], (bl_289_20, 9999)) := bk_of pk_289 rfl
theorem jt_289_17 (h : am_H) (d1 d2 d3 : am_V) (x0 x4 x5 x6 x7 : Int) : JJ 289 17 [(22, x0), d1, d2, d3, (0, x4), (0, x5), (0, x6), (0, x7)] [] h = Mo_game_17 h x0 x4 x5 x6 x7 := jj_of bk_289_17 _ _ h
theorem jt_289_3 (h : am_H) (d0 d1 d2 d3 d4 d5 d6 d7 : am_V) : JJ 289 3 [d0, d1, d2, d3, d4, d5, d6, d7] [] h = some (h, (-1)) := (jj_of bk_289_3 _ _ h).trans (ff_of bk_289_3 [(9, 0), (9, 0), (9, 0), (9, 0), (9, 0), (9, 0), (9, 0), (9, 0)] [] h)
theorem jt_289_16 (h : am_H) (d1 d3 d7 : am_V) (x0 x2 x4 x5 x6 : Int) : JJ 289 16 [(22, x0), d1, (0, x2), d3, (0, x4), (0, x5), (0, x6), d7] [] h = Mo_game_17 h x0 x4 x5 x6 (w32 (2 - x2)) := (jj_of bk_289_16 _ _ h).trans ((ff_of bk_289_16 [(22, x0), (9, 0), (0, x2), (9, 0), (0, x4), (0, x5), (0, x6), (9, 0)] [] h).trans (by
  show (JJ 289 17 [(22, x0), (9, 0), (0, x2), (9, 0), (0, x4), (0, x5), (0, x6), (0, w32 (2 - x2))] [] h) = _
  simp only [jt_289_17, ck_or1, ck_or2, rf_wr, ln_wr, nn_wr, rf_cp, ln_cp, nn_cp, ln_wf, nn_wf, rd_wf, nn_nw]
  try rfl))
theorem jt_289_15 (h : am_H) (d0 d1 d2 d3 d4 d5 d6 d7 : am_V) (s0 : Int) : JJ 289 15 [d0, d1, d2, d3, d4, d5, d6, d7] [(0, s0)] h = some (h, s0) := (jj_of bk_289_15 _ _ h).trans (ff_of bk_289_15 [(9, 0), (9, 0), (9, 0), (9, 0), (9, 0), (9, 0), (9, 0), (9, 0)] [(0, s0)] h)
theorem jt_289_14 (h : am_H) (d0 d1 d2 d3 d4 d5 d6 d7 : am_V) : JJ 289 14 [d0, d1, d2, d3, d4, d5, d6, d7] [] h = some (h, 1) := (jj_of bk_289_14 _ _ h).trans ((ff_of bk_289_14 [(9, 0), (9, 0), (9, 0), (9, 0), (9, 0), (9, 0), (9, 0), (9, 0)] [] h).trans (by
  show (JJ 289 15 [(9, 0), (9, 0), (9, 0), (9, 0), (9, 0), (9, 0), (9, 0), (9, 0)] [(0, 1)] h) = _
  simp only [jt_289_15, ck_or1, ck_or2, rf_wr, ln_wr, nn_wr, rf_cp, ln_cp, nn_cp, ln_wf, nn_wf, rd_wf, nn_nw]
  try rfl))
theorem jt_289_13 (h : am_H) (d0 d1 d2 d3 d4 d5 d6 d7 : am_V) : JJ 289 13 [d0, d1, d2, d3, d4, d5, d6, d7] [] h = some (h, 2) := (jj_of bk_289_13 _ _ h).trans ((ff_of bk_289_13 [(9, 0), (9, 0), (9, 0), (9, 0), (9, 0), (9, 0), (9, 0), (9, 0)] [] h).trans (by
  show (JJ 289 15 [(9, 0), (9, 0), (9, 0), (9, 0), (9, 0), (9, 0), (9, 0), (9, 0)] [(0, 2)] h) = _
  simp only [jt_289_15, ck_or1, ck_or2, rf_wr, ln_wr, nn_wr, rf_cp, ln_cp, nn_cp, ln_wf, nn_wf, rd_wf, nn_nw]
  try rfl))
theorem jt_289_12 (h : am_H) (d0 d1 d2 d3 d4 d5 d7 : am_V) (x6 : Int) : JJ 289 12 [d0, d1, d2, d3, d4, d5, (0, x6), d7] [] h = if x6 ≠ 0 then some (h, 1) else some (h, 2) := (jj_of bk_289_12 _ _ h).trans ((ff_of bk_289_12 [(9, 0), (9, 0), (9, 0), (9, 0), (9, 0), (9, 0), (0, x6), (9, 0)] [] h).trans (by
  show (if x6 ≠ 0 then JJ 289 14 [(9, 0), (9, 0), (9, 0), (9, 0), (9, 0), (9, 0), (0, x6), (9, 0)] [] h else JJ 289 13 [(9, 0), (9, 0), (9, 0), (9, 0), (9, 0), (9, 0), (0, x6), (9, 0)] [] h) = _
  simp only [jt_289_13, jt_289_14, ck_or1, ck_or2, rf_wr, ln_wr, nn_wr, rf_cp, ln_cp, nn_cp, ln_wf, nn_wf, rd_wf, nn_nw]
  try rfl))
theorem jt_289_11 (h : am_H) (d0 d1 d2 d3 d4 d5 d6 d7 : am_V) : JJ 289 11 [d0, d1, d2, d3, d4, d5, d6, d7] [] h = some (h, 0) := (jj_of bk_289_11 _ _ h).trans ((ff_of bk_289_11 [(9, 0), (9, 0), (9, 0), (9, 0), (9, 0), (9, 0), (9, 0), (9, 0)] [] h).trans (by
  show (JJ 289 15 [(9, 0), (9, 0), (9, 0), (9, 0), (9, 0), (9, 0), (9, 0), (9, 0)] [(0, 0)] h) = _
  simp only [jt_289_15, ck_or1, ck_or2, rf_wr, ln_wr, nn_wr, rf_cp, ln_cp, nn_cp, ln_wf, nn_wf, rd_wf, nn_nw]
  try rfl))
theorem jt_289_10 (h : am_H) (d0 d1 d2 d3 d4 d5 d7 : am_V) (x6 : Int) : JJ 289 10 [d0, d1, d2, d3, d4, d5, (0, x6), d7] [] h = if x6 ≠ 1 then (if x6 ≠ 0 then some (h, 1) else some (h, 2)) else some (h, 0) := (jj_of bk_289_10 _ _ h).trans ((ff_of bk_289_10 [(9, 0), (9, 0), (9, 0), (9, 0), (9, 0), (9, 0), (0, x6), (9, 0)] [] h).trans (by
  show (if x6 ≠ 1 then JJ 289 12 [(9, 0), (9, 0), (9, 0), (9, 0), (9, 0), (9, 0), (0, x6), (9, 0)] [] h else JJ 289 11 [(9, 0), (9, 0), (9, 0), (9, 0), (9, 0), (9, 0), (0, x6), (9, 0)] [] h) = _
  simp only [jt_289_11, jt_289_12, ck_or1, ck_or2, rf_wr, ln_wr, nn_wr, rf_cp, ln_cp, nn_cp, ln_wf, nn_wf, rd_wf, nn_nw]
  try rfl))
theorem jt_289_9 (h : am_H) (d1 d6 d7 : am_V) (x0 x2 x3 x4 x5 : Int) : JJ 289 9 [(22, x0), d1, (0, x2), (0, x3), (0, x4), (0, x5), d6, d7] [] h = ck_ (0 ≤ x0) (ck_ (0 ≤ (rf_ h x0 76)) (ck_ (0 ≤ (w32 (6 * x5)) ∧ (w32 (6 * x5)) < ln_ h (rf_ h x0 76)) (if x3 ≠ 0 then Mo_game_17 h x0 x4 x5 (rd_ h (rf_ h x0 76) (w32 (6 * x5))) (w32 (2 - x2)) else if (rd_ h (rf_ h x0 76) (w32 (6 * x5))) ≠ 1 then (if (rd_ h (rf_ h x0 76) (w32 (6 * x5))) ≠ 0 then some (h, 1) else some (h, 2)) else some (h, 0)))) := (jj_of bk_289_9 _ _ h).trans ((ff_of bk_289_9 [(22, x0), (9, 0), (0, x2), (0, x3), (0, x4), (0, x5), (9, 0), (9, 0)] [] h).trans (by
  show (ck_ (0 ≤ x0) (ck_ (0 ≤ (rf_ h x0 76)) (ck_ (0 ≤ (w32 (6 * x5)) ∧ (w32 (6 * x5)) < ln_ h (rf_ h x0 76)) (if x3 ≠ 0 then JJ 289 16 [(22, x0), (9, 0), (0, x2), (0, x3), (0, x4), (0, x5), (0, rd_ h (rf_ h x0 76) (w32 (6 * x5))), (9, 0)] [] h else JJ 289 10 [(22, x0), (9, 0), (0, x2), (0, x3), (0, x4), (0, x5), (0, rd_ h (rf_ h x0 76) (w32 (6 * x5))), (9, 0)] [] h)))) = _
  simp only [jt_289_10, jt_289_16, ck_or1, ck_or2, rf_wr, ln_wr, nn_wr, rf_cp, ln_cp, nn_cp, ln_wf, nn_wf, rd_wf, nn_nw]
  try rfl))
theorem jt_289_8 (h : am_H) (d0 d1 d2 d3 d4 d5 d6 d7 : am_V) (s0 : Int) : JJ 289 8 [d0, d1, d2, d3, d4, d5, d6, d7] [(0, s0)] h = some (h, s0) := (jj_of bk_289_8 _ _ h).trans (ff_of bk_289_8 [(9, 0), (9, 0), (9, 0), (9, 0), (9, 0), (9, 0), (9, 0), (9, 0)] [(0, s0)] h)
theorem jt_289_7 (h : am_H) (d0 d1 d2 d3 d4 d5 d6 d7 : am_V) : JJ 289 7 [d0, d1, d2, d3, d4, d5, d6, d7] [] h = some (h, (-2)) := (jj_of bk_289_7 _ _ h).trans ((ff_of bk_289_7 [(9, 0), (9, 0), (9, 0), (9, 0), (9, 0), (9, 0), (9, 0), (9, 0)] [] h).trans (by
  show (JJ 289 8 [(9, 0), (9, 0), (9, 0), (9, 0), (9, 0), (9, 0), (9, 0), (9, 0)] [(0, (-2))] h) = _
  simp only [jt_289_8, ck_or1, ck_or2, rf_wr, ln_wr, nn_wr, rf_cp, ln_cp, nn_cp, ln_wf, nn_wf, rd_wf, nn_nw]
  try rfl))
theorem jt_289_6 (h : am_H) (d0 d1 d2 d3 d4 d5 d6 d7 : am_V) : JJ 289 6 [d0, d1, d2, d3, d4, d5, d6, d7] [] h = some (h, 2) := (jj_of bk_289_6 _ _ h).trans ((ff_of bk_289_6 [(9, 0), (9, 0), (9, 0), (9, 0), (9, 0), (9, 0), (9, 0), (9, 0)] [] h).trans (by
  show (JJ 289 8 [(9, 0), (9, 0), (9, 0), (9, 0), (9, 0), (9, 0), (9, 0), (9, 0)] [(0, 2)] h) = _
  simp only [jt_289_8, ck_or1, ck_or2, rf_wr, ln_wr, nn_wr, rf_cp, ln_cp, nn_cp, ln_wf, nn_wf, rd_wf, nn_nw]
  try rfl))
theorem jt_289_5 (h : am_H) (d0 d1 d2 d4 d5 d6 d7 : am_V) (x3 : Int) : JJ 289 5 [d0, d1, d2, (0, x3), d4, d5, d6, d7] [] h = if x3 ≠ 0 then some (h, (-2)) else some (h, 2) := (jj_of bk_289_5 _ _ h).trans ((ff_of bk_289_5 [(9, 0), (9, 0), (9, 0), (0, x3), (9, 0), (9, 0), (9, 0), (9, 0)] [] h).trans (by
  show (if x3 ≠ 0 then JJ 289 7 [(9, 0), (9, 0), (9, 0), (0, x3), (9, 0), (9, 0), (9, 0), (9, 0)] [] h else JJ 289 6 [(9, 0), (9, 0), (9, 0), (0, x3), (9, 0), (9, 0), (9, 0), (9, 0)] [] h) = _
  simp only [jt_289_6, jt_289_7, ck_or1, ck_or2, rf_wr, ln_wr, nn_wr, rf_cp, ln_cp, nn_cp, ln_wf, nn_wf, rd_wf, nn_nw]
  try rfl))
set_option maxRecDepth 20000 in
theorem jt_289_4 (h : am_H) (d4 d5 d6 d7 : am_V) (x0 x1 x2 x3 : Int) : JJ 289 4 [(22, x0), (0, x1), (0, x2), (0, x3), d4, d5, d6, d7] [] h = ck_ (0 ≤ x0) (ck_ (0 ≤ (rf_ h x0 52)) (ck_ (0 ≤ x1 ∧ x1 < ln_ h (rf_ h x0 52)) (ck_ (0 ≤ x0) (bd_ (Mo_layWorth h x0 (rd_ h (rf_ h x0 52) x1) x2) fun h1 _ => ck_ (0 ≤ x0) (bd_ (Mo_codeOfPile h1 x0 x1 x2) fun h3 v4 => if v4 ≠ 0 then ck_ (0 ≤ x0) (ck_ (0 ≤ (rf_ h3 x0 76)) (ck_ (0 ≤ (w32 (6 * v4)) ∧ (w32 (6 * v4)) < ln_ h3 (rf_ h3 x0 76)) (if x3 ≠ 0 then Mo_game_17 h3 x0 (rd_ h (rf_ h x0 52) x1) v4 (rd_ h3 (rf_ h3 x0 76) (w32 (6 * v4))) (w32 (2 - x2)) else if (rd_ h3 (rf_ h3 x0 76) (w32 (6 * v4))) ≠ 1 then (if (rd_ h3 (rf_ h3 x0 76) (w32 (6 * v4))) ≠ 0 then some (h3, 1) else some (h3, 2)) else some (h3, 0)))) else if x3 ≠ 0 then some (h3, (-2)) else some (h3, 2)))))) := (jj_of bk_289_4 _ _ h).trans ((ff_of bk_289_4 [(22, x0), (0, x1), (0, x2), (0, x3), (9, 0), (9, 0), (9, 0), (9, 0)] [] h).trans (by
  show (ck_ (0 ≤ x0) (ck_ (0 ≤ (rf_ h x0 52)) (ck_ (0 ≤ x1 ∧ x1 < ln_ h (rf_ h x0 52)) (ck_ (0 ≤ x0) (bd_ (CC 288 [(22, x0), (0, rd_ h (rf_ h x0 52) x1), (0, x2)] h) fun h1 _ => ck_ (0 ≤ x0) (bd_ (CC 275 [(22, x0), (0, x1), (0, x2)] h1) fun h3 v4 => if v4 ≠ 0 then JJ 289 9 [(22, x0), (0, x1), (0, x2), (0, x3), (0, rd_ h (rf_ h x0 52) x1), (0, v4), (9, 0), (9, 0)] [] h3 else JJ 289 5 [(22, x0), (0, x1), (0, x2), (0, x3), (0, rd_ h (rf_ h x0 52) x1), (0, v4), (9, 0), (9, 0)] [] h3)))))) = _
  simp only [cc_275, cc_288, jt_289_5, jt_289_9, ck_or1, ck_or2, rf_wr, ln_wr, nn_wr, rf_cp, ln_cp, nn_cp, ln_wf, nn_wf, rd_wf, nn_nw]
  try rfl))
set_option maxRecDepth 20000 in
theorem jt_289_2 (h : am_H) (d4 d5 d6 d7 : am_V) (x0 x1 x2 x3 : Int) : JJ 289 2 [(22, x0), (0, x1), (0, x2), (0, x3), d4, d5, d6, d7] [] h = bd_ (Mo_isIn h x3 0 1) fun h1 v2 => if v2 ≠ 0 then ck_ (0 ≤ x0) (ck_ (0 ≤ (rf_ h1 x0 52)) (ck_ (0 ≤ x1 ∧ x1 < ln_ h1 (rf_ h1 x0 52)) (ck_ (0 ≤ x0) (bd_ (Mo_layWorth h1 x0 (rd_ h1 (rf_ h1 x0 52) x1) x2) fun h3 _ => ck_ (0 ≤ x0) (bd_ (Mo_codeOfPile h3 x0 x1 x2) fun h5 v6 => if v6 ≠ 0 then ck_ (0 ≤ x0) (ck_ (0 ≤ (rf_ h5 x0 76)) (ck_ (0 ≤ (w32 (6 * v6)) ∧ (w32 (6 * v6)) < ln_ h5 (rf_ h5 x0 76)) (if x3 ≠ 0 then Mo_game_17 h5 x0 (rd_ h1 (rf_ h1 x0 52) x1) v6 (rd_ h5 (rf_ h5 x0 76) (w32 (6 * v6))) (w32 (2 - x2)) else if (rd_ h5 (rf_ h5 x0 76) (w32 (6 * v6))) ≠ 1 then (if (rd_ h5 (rf_ h5 x0 76) (w32 (6 * v6))) ≠ 0 then some (h5, 1) else some (h5, 2)) else some (h5, 0)))) else if x3 ≠ 0 then some (h5, (-2)) else some (h5, 2)))))) else some (h1, (-1)) := (jj_of bk_289_2 _ _ h).trans ((ff_of bk_289_2 [(22, x0), (0, x1), (0, x2), (0, x3), (9, 0), (9, 0), (9, 0), (9, 0)] [] h).trans (by
  show (bd_ (CC 196 [(0, x3), (0, 0), (0, 1)] h) fun h1 v2 => if v2 ≠ 0 then JJ 289 4 [(22, x0), (0, x1), (0, x2), (0, x3), (9, 0), (9, 0), (9, 0), (9, 0)] [] h1 else JJ 289 3 [(22, x0), (0, x1), (0, x2), (0, x3), (9, 0), (9, 0), (9, 0), (9, 0)] [] h1) = _
  simp only [cc_196, jt_289_3, jt_289_4, ck_or1, ck_or2, rf_wr, ln_wr, nn_wr, rf_cp, ln_cp, nn_cp, ln_wf, nn_wf, rd_wf, nn_nw]
  try rfl))
set_option maxRecDepth 20000 in
theorem jt_289_1 (h : am_H) (d4 d5 d6 d7 : am_V) (x0 x1 x2 x3 : Int) : JJ 289 1 [(22, x0), (0, x1), (0, x2), (0, x3), d4, d5, d6, d7] [] h = bd_ (Mo_isIn h x2 0 1) fun h1 v2 => if v2 = 0 then some (h1, (-1)) else bd_ (Mo_isIn h1 x3 0 1) fun h3 v4 => if v4 ≠ 0 then ck_ (0 ≤ x0) (ck_ (0 ≤ (rf_ h3 x0 52)) (ck_ (0 ≤ x1 ∧ x1 < ln_ h3 (rf_ h3 x0 52)) (ck_ (0 ≤ x0) (bd_ (Mo_layWorth h3 x0 (rd_ h3 (rf_ h3 x0 52) x1) x2) fun h5 _ => ck_ (0 ≤ x0) (bd_ (Mo_codeOfPile h5 x0 x1 x2) fun h7 v8 => if v8 ≠ 0 then ck_ (0 ≤ x0) (ck_ (0 ≤ (rf_ h7 x0 76)) (ck_ (0 ≤ (w32 (6 * v8)) ∧ (w32 (6 * v8)) < ln_ h7 (rf_ h7 x0 76)) (if x3 ≠ 0 then Mo_game_17 h7 x0 (rd_ h3 (rf_ h3 x0 52) x1) v8 (rd_ h7 (rf_ h7 x0 76) (w32 (6 * v8))) (w32 (2 - x2)) else if (rd_ h7 (rf_ h7 x0 76) (w32 (6 * v8))) ≠ 1 then (if (rd_ h7 (rf_ h7 x0 76) (w32 (6 * v8))) ≠ 0 then some (h7, 1) else some (h7, 2)) else some (h7, 0)))) else if x3 ≠ 0 then some (h7, (-2)) else some (h7, 2)))))) else some (h3, (-1)) := (jj_of bk_289_1 _ _ h).trans ((ff_of bk_289_1 [(22, x0), (0, x1), (0, x2), (0, x3), (9, 0), (9, 0), (9, 0), (9, 0)] [] h).trans (by
  show (bd_ (CC 196 [(0, x2), (0, 0), (0, 1)] h) fun h1 v2 => if v2 = 0 then JJ 289 3 [(22, x0), (0, x1), (0, x2), (0, x3), (9, 0), (9, 0), (9, 0), (9, 0)] [] h1 else JJ 289 2 [(22, x0), (0, x1), (0, x2), (0, x3), (9, 0), (9, 0), (9, 0), (9, 0)] [] h1) = _
  simp only [cc_196, jt_289_2, jt_289_3, ck_or1, ck_or2, rf_wr, ln_wr, nn_wr, rf_cp, ln_cp, nn_cp, ln_wf, nn_wf, rd_wf, nn_nw]
  try rfl))
set_option maxRecDepth 20000 in
theorem Mo_game_e (h : am_H) (x0 x1 x2 x3 : Int) : Mo_game h x0 x1 x2 x3 = ck_ (0 ≤ x0) (ck_ (0 ≤ x0) (bd_ (Mo_isPile (wr_ h x0 2 0) x0 x1) fun h1 v2 => if v2 = 0 then some (h1, (-1)) else bd_ (Mo_isIn h1 x2 0 1) fun h3 v4 => if v4 = 0 then some (h3, (-1)) else bd_ (Mo_isIn h3 x3 0 1) fun h5 v6 => if v6 ≠ 0 then ck_ (0 ≤ x0) (ck_ (0 ≤ (rf_ h5 x0 52)) (ck_ (0 ≤ x1 ∧ x1 < ln_ h5 (rf_ h5 x0 52)) (ck_ (0 ≤ x0) (bd_ (Mo_layWorth h5 x0 (rd_ h5 (rf_ h5 x0 52) x1) x2) fun h7 _ => ck_ (0 ≤ x0) (bd_ (Mo_codeOfPile h7 x0 x1 x2) fun h9 v10 => if v10 ≠ 0 then ck_ (0 ≤ x0) (ck_ (0 ≤ (rf_ h9 x0 76)) (ck_ (0 ≤ (w32 (6 * v10)) ∧ (w32 (6 * v10)) < ln_ h9 (rf_ h9 x0 76)) (if x3 ≠ 0 then Mo_game_17 h9 x0 (rd_ h5 (rf_ h5 x0 52) x1) v10 (rd_ h9 (rf_ h9 x0 76) (w32 (6 * v10))) (w32 (2 - x2)) else if (rd_ h9 (rf_ h9 x0 76) (w32 (6 * v10))) ≠ 1 then (if (rd_ h9 (rf_ h9 x0 76) (w32 (6 * v10))) ≠ 0 then some (h9, 1) else some (h9, 2)) else some (h9, 0)))) else if x3 ≠ 0 then some (h9, (-2)) else some (h9, 2)))))) else some (h5, (-1)))) := (ff_of bk_289_0 [(22, x0), (0, x1), (0, x2), (0, x3), (9, 0), (9, 0), (9, 0), (9, 0)] [] h).trans (by
  show (ck_ (0 ≤ x0) (ck_ (0 ≤ x0) (bd_ (CC 236 [(22, x0), (0, x1)] (wr_ h x0 2 0)) fun h1 v2 => if v2 = 0 then JJ 289 3 [(22, x0), (0, x1), (0, x2), (0, x3), (9, 0), (9, 0), (9, 0), (9, 0)] [] h1 else JJ 289 1 [(22, x0), (0, x1), (0, x2), (0, x3), (9, 0), (9, 0), (9, 0), (9, 0)] [] h1))) = _
  simp only [cc_236, jt_289_1, jt_289_3, ck_or1, ck_or2, rf_wr, ln_wr, nn_wr, rf_cp, ln_cp, nn_cp, ln_wf, nn_wf, rd_wf, nn_nw]
  try rfl)
theorem jt_289_20 (h : am_H) (d0 d1 d2 d3 d4 d5 d6 : am_V) (x7 : Int) : JJ 289 20 [d0, d1, d2, d3, d4, d5, d6, (0, x7)] [] h = some (h, x7) := (jj_of bk_289_20 _ _ h).trans (ff_of bk_289_20 [(9, 0), (9, 0), (9, 0), (9, 0), (9, 0), (9, 0), (9, 0), (0, x7)] [] h)
theorem jt_289_19 (h : am_H) (d1 d2 d3 : am_V) (x0 x4 x5 x6 x7 : Int) : JJ 289 19 [(22, x0), d1, d2, d3, (0, x4), (0, x5), (0, x6), (0, x7)] [] h = Mo_game_17 h x0 x4 x5 x6 (w32 (x7 + 1)) := (jj_of bk_289_19 _ _ h).trans ((ff_of bk_289_19 [(22, x0), (9, 0), (9, 0), (9, 0), (0, x4), (0, x5), (0, x6), (0, x7)] [] h).trans (by
  show (JJ 289 17 [(22, x0), (9, 0), (9, 0), (9, 0), (0, x4), (0, x5), (0, x6), (0, w32 (x7 + 1))] [] h) = _
  simp only [jt_289_17, ck_or1, ck_or2, rf_wr, ln_wr, nn_wr, rf_cp, ln_cp, nn_cp, ln_wf, nn_wf, rd_wf, nn_nw]
  try rfl))
theorem jt_289_18 (h : am_H) (d1 d2 d3 : am_V) (x0 x4 x5 x6 x7 : Int) : JJ 289 18 [(22, x0), d1, d2, d3, (0, x4), (0, x5), (0, x6), (0, x7)] [] h = ck_ (0 ≤ x0) (bd_ (Mo_worthBy h x0 x5 x7) fun h1 v2 => if v2 = x6 then some (h1, x7) else Mo_game_17 h1 x0 x4 x5 x6 (w32 (x7 + 1))) := (jj_of bk_289_18 _ _ h).trans ((ff_of bk_289_18 [(22, x0), (9, 0), (9, 0), (9, 0), (0, x4), (0, x5), (0, x6), (0, x7)] [] h).trans (by
  show (ck_ (0 ≤ x0) (bd_ (CC 286 [(22, x0), (0, x5), (0, x7)] h) fun h1 v2 => if v2 = x6 then JJ 289 20 [(22, x0), (9, 0), (9, 0), (9, 0), (0, x4), (0, x5), (0, x6), (0, x7)] [] h1 else JJ 289 19 [(22, x0), (9, 0), (9, 0), (9, 0), (0, x4), (0, x5), (0, x6), (0, x7)] [] h1)) = _
  simp only [cc_286, jt_289_19, jt_289_20, ck_or1, ck_or2, rf_wr, ln_wr, nn_wr, rf_cp, ln_cp, nn_cp, ln_wf, nn_wf, rd_wf, nn_nw]
  try rfl))
theorem Mo_game_17_e (h : am_H) (x0 x4 x5 x6 x7 : Int) : Mo_game_17 h x0 x4 x5 x6 x7 = if x4 ≤ x7 then some (h, x7) else ck_ (0 ≤ x0) (bd_ (Mo_worthBy h x0 x5 x7) fun h1 v2 => if v2 = x6 then some (h1, x7) else Mo_game_17 h1 x0 x4 x5 x6 (w32 (x7 + 1))) := (ff_of bk_289_17 [(22, x0), (9, 0), (9, 0), (9, 0), (0, x4), (0, x5), (0, x6), (0, x7)] [] h).trans (by
  show (if x4 ≤ x7 then JJ 289 20 [(22, x0), (9, 0), (9, 0), (9, 0), (0, x4), (0, x5), (0, x6), (0, x7)] [] h else JJ 289 18 [(22, x0), (9, 0), (9, 0), (9, 0), (0, x4), (0, x5), (0, x6), (0, x7)] [] h) = _
  simp only [jt_289_18, jt_289_20, ck_or1, ck_or2, rf_wr, ln_wr, nn_wr, rf_cp, ln_cp, nn_cp, ln_wf, nn_wf, rd_wf, nn_nw]
  try rfl)
theorem cc_289 (h : am_H) (x0 x1 x2 x3 : Int) : CC 289 [(22, x0), (0, x1), (0, x2), (0, x3)] h = Mo_game h x0 x1 x2 x3 := cc_of pk_289 _ h
set_option maxRecDepth 20000 in
theorem pk_290 : am_prog 290 = some cd_290 := rfl
theorem bk_290_0 : bk_ am_prog 290 0 = some ([true, true, true, false, false, false, false], (bl_290_0, 1)) := bk_of pk_290 rfl
theorem bk_290_1 : bk_ am_prog 290 1 = some ([true, false, true, true, true, true, false], (bl_290_1, 9999)) := bk_of pk_290 rfl
theorem bk_290_2 : bk_ am_prog 290 2 = some ([true, false, true, true, true, true, false], (bl_290_2, 9999)) := bk_of pk_290 rfl
theorem bk_290_3 : bk_ am_prog 290 3 = some ([true, false, true, true, true, true, false], (bl_290_3, 9999)) := bk_of pk_290 rfl
theorem bk_290_4 : bk_ am_prog 290 4 = some ([true, false, true, true, true, true, true], (bl_290_4, 9999)) := bk_of pk_290 rfl
theorem bk_290_5 : bk_ am_prog 290 5 = some ([true, false, true, true, true, true, true], (bl_290_5, 9999)) := bk_of pk_290 rfl
theorem bk_290_6 : bk_ am_prog 290 6 = some ([true, false, true, true, true, true, true], (bl_290_6, 9999)) := bk_of pk_290 rfl
theorem bk_290_7 : bk_ am_prog 290 7 = some ([false, false, false, false, false, false, false], (bl_290_7, 9999)) := bk_of pk_290 rfl
theorem bk_290_8 : bk_ am_prog 290 8 = some ([true, false, true, true, true, true, true], (bl_290_8, 9)) := bk_of pk_290 rfl
theorem bk_290_9 : bk_ am_prog 290 9 = some ([true, false, true, true, true, true, false], (bl_290_9, 9999)) := bk_of pk_290 rfl
theorem bk_290_10 : bk_ am_prog 290 10 = some ([false, false, false, false, false, false, false], (bl_290_10, 9999)) := bk_of pk_290 rfl
theorem jt_290_1 (h : am_H) (d1 d6 : am_V) (x0 x2 x3 x4 x5 : Int) : JJ 290 1 [(22, x0), d1, (30, x2), (0, x3), (0, x4), (0, x5), d6] [] h = Mo_laysMatch_1 h x0 x2 x3 x4 x5 := jj_of bk_290_1 _ _ h
theorem Mo_laysMatch_e (h : am_H) (x0 x1 x2 : Int) : Mo_laysMatch h x0 x1 x2 = ck_ (0 ≤ x0) (ck_ (0 ≤ x0) (ck_ (0 ≤ x0) (Mo_laysMatch_1 (wr_ (wr_ h x0 77 0) x0 78 0) x0 x2 x1 0 (w32 ((rd_ (wr_ (wr_ h x0 77 0) x0 78 0) x0 12) - 1))))) := (ff_of bk_290_0 [(22, x0), (0, x1), (30, x2), (9, 0), (9, 0), (9, 0), (9, 0)] [] h).trans (by
  show (ck_ (0 ≤ x0) (ck_ (0 ≤ x0) (ck_ (0 ≤ x0) (JJ 290 1 [(22, x0), (0, x1), (30, x2), (0, x1), (0, 0), (0, w32 ((rd_ (wr_ (wr_ h x0 77 0) x0 78 0) x0 12) - 1)), (9, 0)] [] (wr_ (wr_ h x0 77 0) x0 78 0))))) = _
  simp only [jt_290_1, ck_or1, ck_or2, rf_wr, ln_wr, nn_wr, rf_cp, ln_cp, nn_cp, ln_wf, nn_wf, rd_wf, nn_nw]
  try rfl)
theorem jt_290_10 (h : am_H) (d0 d1 d2 d3 d4 d5 d6 : am_V) : JJ 290 10 [d0, d1, d2, d3, d4, d5, d6] [] h = some (h, 1) := (jj_of bk_290_10 _ _ h).trans (ff_of bk_290_10 [(9, 0), (9, 0), (9, 0), (9, 0), (9, 0), (9, 0), (9, 0)] [] h)
theorem jt_290_7 (h : am_H) (d0 d1 d2 d3 d4 d5 d6 : am_V) : JJ 290 7 [d0, d1, d2, d3, d4, d5, d6] [] h = some (h, 0) := (jj_of bk_290_7 _ _ h).trans (ff_of bk_290_7 [(9, 0), (9, 0), (9, 0), (9, 0), (9, 0), (9, 0), (9, 0)] [] h)
theorem jt_290_9 (h : am_H) (d1 d6 : am_V) (x0 x2 x3 x4 x5 : Int) : JJ 290 9 [(22, x0), d1, (30, x2), (0, x3), (0, x4), (0, x5), d6] [] h = Mo_laysMatch_1 h x0 x2 x3 x4 (w32 (x5 + (-1))) := (jj_of bk_290_9 _ _ h).trans ((ff_of bk_290_9 [(22, x0), (9, 0), (30, x2), (0, x3), (0, x4), (0, x5), (9, 0)] [] h).trans (by
  show (JJ 290 1 [(22, x0), (9, 0), (30, x2), (0, x3), (0, x4), (0, w32 (x5 + (-1))), (9, 0)] [] h) = _
  simp only [jt_290_1, ck_or1, ck_or2, rf_wr, ln_wr, nn_wr, rf_cp, ln_cp, nn_cp, ln_wf, nn_wf, rd_wf, nn_nw]
  try rfl))
set_option maxRecDepth 20000 in
theorem jt_290_8 (h : am_H) (d1 : am_V) (x0 x2 x3 x4 x5 x6 : Int) : JJ 290 8 [(22, x0), d1, (30, x2), (0, x3), (0, x4), (0, x5), (0, x6)] [] h = ck_ (0 ≤ x0) (ck_ (0 ≤ x0) (ck_ (0 ≤ x0) (ck_ (0 ≤ x2) (ck_ (0 ≤ x6 ∧ x6 < ln_ h x2) (ck_ (0 ≤ x0) (Mo_laysMatch_1 (wr_ (wr_ h x0 77 (w32 ((rd_ h x0 77) + 1))) x0 78 (w32 ((rd_ (wr_ h x0 77 (w32 ((rd_ h x0 77) + 1))) x0 78) + (rd_ (wr_ h x0 77 (w32 ((rd_ h x0 77) + 1))) x2 x6)))) x0 x2 x3 (or_ x4 (w32 (1 * 2 ^ (x6 % 32 : Int).toNat))) (w32 (x5 + (-1))))))))) := (jj_of bk_290_8 _ _ h).trans ((ff_of bk_290_8 [(22, x0), (9, 0), (30, x2), (0, x3), (0, x4), (0, x5), (0, x6)] [] h).trans (by
  show (ck_ (0 ≤ x0) (ck_ (0 ≤ x0) (ck_ (0 ≤ x0) (ck_ (0 ≤ x2) (ck_ (0 ≤ x6 ∧ x6 < ln_ h x2) (ck_ (0 ≤ x0) (JJ 290 9 [(22, x0), (9, 0), (30, x2), (0, x3), (0, or_ x4 (w32 (1 * 2 ^ (x6 % 32 : Int).toNat))), (0, x5), (0, x6)] [] (wr_ (wr_ h x0 77 (w32 ((rd_ h x0 77) + 1))) x0 78 (w32 ((rd_ (wr_ h x0 77 (w32 ((rd_ h x0 77) + 1))) x0 78) + (rd_ (wr_ h x0 77 (w32 ((rd_ h x0 77) + 1))) x2 x6))))))))))) = _
  simp only [jt_290_9, ck_or1, ck_or2, rf_wr, ln_wr, nn_wr, rf_cp, ln_cp, nn_cp, ln_wf, nn_wf, rd_wf, nn_nw]
  try rfl))
set_option maxRecDepth 20000 in
theorem jt_290_6 (h : am_H) (d1 : am_V) (x0 x2 x3 x4 x5 x6 : Int) : JJ 290 6 [(22, x0), d1, (30, x2), (0, x3), (0, x4), (0, x5), (0, x6)] [] h = ck_ (0 ≤ x2) (ck_ (0 ≤ x6 ∧ x6 < ln_ h x2) (ck_ (0 ≤ x0) (ck_ (0 ≤ (rf_ h x0 25)) (ck_ (0 ≤ x5 ∧ x5 < ln_ h (rf_ h x0 25)) (if (rd_ h x2 x6) ≤ (rd_ h (rf_ h x0 25) x5) then ck_ (0 ≤ x0) (ck_ (0 ≤ x0) (ck_ (0 ≤ x0) (ck_ (0 ≤ x2) (ck_ (0 ≤ x6 ∧ x6 < ln_ h x2) (ck_ (0 ≤ x0) (Mo_laysMatch_1 (wr_ (wr_ h x0 77 (w32 ((rd_ h x0 77) + 1))) x0 78 (w32 ((rd_ (wr_ h x0 77 (w32 ((rd_ h x0 77) + 1))) x0 78) + (rd_ (wr_ h x0 77 (w32 ((rd_ h x0 77) + 1))) x2 x6)))) x0 x2 x3 (or_ x4 (w32 (1 * 2 ^ (x6 % 32 : Int).toNat))) (w32 (x5 + (-1))))))))) else some (h, 0)))))) := (jj_of bk_290_6 _ _ h).trans ((ff_of bk_290_6 [(22, x0), (9, 0), (30, x2), (0, x3), (0, x4), (0, x5), (0, x6)] [] h).trans (by
  show (ck_ (0 ≤ x2) (ck_ (0 ≤ x6 ∧ x6 < ln_ h x2) (ck_ (0 ≤ x0) (ck_ (0 ≤ (rf_ h x0 25)) (ck_ (0 ≤ x5 ∧ x5 < ln_ h (rf_ h x0 25)) (if (rd_ h x2 x6) ≤ (rd_ h (rf_ h x0 25) x5) then JJ 290 8 [(22, x0), (9, 0), (30, x2), (0, x3), (0, x4), (0, x5), (0, x6)] [] h else JJ 290 7 [(22, x0), (9, 0), (30, x2), (0, x3), (0, x4), (0, x5), (0, x6)] [] h)))))) = _
  simp only [jt_290_7, jt_290_8, ck_or1, ck_or2, rf_wr, ln_wr, nn_wr, rf_cp, ln_cp, nn_cp, ln_wf, nn_wf, rd_wf, nn_nw]
  try rfl))
set_option maxRecDepth 20000 in
theorem jt_290_5 (h : am_H) (d1 : am_V) (x0 x2 x3 x4 x5 x6 : Int) : JJ 290 5 [(22, x0), d1, (30, x2), (0, x3), (0, x4), (0, x5), (0, x6)] [] h = ck_ (0 ≤ x2) (ck_ (0 ≤ x6 ∧ x6 < ln_ h x2) (if (rd_ h x2 x6) < 1 then some (h, 0) else ck_ (0 ≤ x2) (ck_ (0 ≤ x6 ∧ x6 < ln_ h x2) (ck_ (0 ≤ x0) (ck_ (0 ≤ (rf_ h x0 25)) (ck_ (0 ≤ x5 ∧ x5 < ln_ h (rf_ h x0 25)) (if (rd_ h x2 x6) ≤ (rd_ h (rf_ h x0 25) x5) then ck_ (0 ≤ x0) (ck_ (0 ≤ x0) (ck_ (0 ≤ x0) (ck_ (0 ≤ x2) (ck_ (0 ≤ x6 ∧ x6 < ln_ h x2) (ck_ (0 ≤ x0) (Mo_laysMatch_1 (wr_ (wr_ h x0 77 (w32 ((rd_ h x0 77) + 1))) x0 78 (w32 ((rd_ (wr_ h x0 77 (w32 ((rd_ h x0 77) + 1))) x0 78) + (rd_ (wr_ h x0 77 (w32 ((rd_ h x0 77) + 1))) x2 x6)))) x0 x2 x3 (or_ x4 (w32 (1 * 2 ^ (x6 % 32 : Int).toNat))) (w32 (x5 + (-1))))))))) else some (h, 0)))))))) := (jj_of bk_290_5 _ _ h).trans ((ff_of bk_290_5 [(22, x0), (9, 0), (30, x2), (0, x3), (0, x4), (0, x5), (0, x6)] [] h).trans (by
  show (ck_ (0 ≤ x2) (ck_ (0 ≤ x6 ∧ x6 < ln_ h x2) (if (rd_ h x2 x6) < 1 then JJ 290 7 [(22, x0), (9, 0), (30, x2), (0, x3), (0, x4), (0, x5), (0, x6)] [] h else JJ 290 6 [(22, x0), (9, 0), (30, x2), (0, x3), (0, x4), (0, x5), (0, x6)] [] h))) = _
  simp only [jt_290_6, jt_290_7, ck_or1, ck_or2, rf_wr, ln_wr, nn_wr, rf_cp, ln_cp, nn_cp, ln_wf, nn_wf, rd_wf, nn_nw]
  try rfl))
set_option maxRecDepth 20000 in
theorem jt_290_4 (h : am_H) (d1 : am_V) (x0 x2 x3 x4 x5 x6 : Int) : JJ 290 4 [(22, x0), d1, (30, x2), (0, x3), (0, x4), (0, x5), (0, x6)] [] h = bd_ (Mo_isOf h x4 x6) fun h1 v2 => if v2 ≠ 0 then some (h1, 0) else ck_ (0 ≤ x2) (ck_ (0 ≤ x6 ∧ x6 < ln_ h1 x2) (if (rd_ h1 x2 x6) < 1 then some (h1, 0) else ck_ (0 ≤ x2) (ck_ (0 ≤ x6 ∧ x6 < ln_ h1 x2) (ck_ (0 ≤ x0) (ck_ (0 ≤ (rf_ h1 x0 25)) (ck_ (0 ≤ x5 ∧ x5 < ln_ h1 (rf_ h1 x0 25)) (if (rd_ h1 x2 x6) ≤ (rd_ h1 (rf_ h1 x0 25) x5) then ck_ (0 ≤ x0) (ck_ (0 ≤ x0) (ck_ (0 ≤ x0) (ck_ (0 ≤ x2) (ck_ (0 ≤ x6 ∧ x6 < ln_ h1 x2) (ck_ (0 ≤ x0) (Mo_laysMatch_1 (wr_ (wr_ h1 x0 77 (w32 ((rd_ h1 x0 77) + 1))) x0 78 (w32 ((rd_ (wr_ h1 x0 77 (w32 ((rd_ h1 x0 77) + 1))) x0 78) + (rd_ (wr_ h1 x0 77 (w32 ((rd_ h1 x0 77) + 1))) x2 x6)))) x0 x2 x3 (or_ x4 (w32 (1 * 2 ^ (x6 % 32 : Int).toNat))) (w32 (x5 + (-1))))))))) else some (h1, 0)))))))) := (jj_of bk_290_4 _ _ h).trans ((ff_of bk_290_4 [(22, x0), (9, 0), (30, x2), (0, x3), (0, x4), (0, x5), (0, x6)] [] h).trans (by
  show (bd_ (CC 197 [(0, x4), (0, x6)] h) fun h1 v2 => if v2 ≠ 0 then JJ 290 7 [(22, x0), (9, 0), (30, x2), (0, x3), (0, x4), (0, x5), (0, x6)] [] h1 else JJ 290 5 [(22, x0), (9, 0), (30, x2), (0, x3), (0, x4), (0, x5), (0, x6)] [] h1) = _
  simp only [cc_197, jt_290_5, jt_290_7, ck_or1, ck_or2, rf_wr, ln_wr, nn_wr, rf_cp, ln_cp, nn_cp, ln_wf, nn_wf, rd_wf, nn_nw]
  try rfl))
theorem jt_290_3 (h : am_H) (d1 d6 : am_V) (x0 x2 x3 x4 x5 : Int) : JJ 290 3 [(22, x0), d1, (30, x2), (0, x3), (0, x4), (0, x5), d6] [] h = Mo_laysMatch_1 h x0 x2 x3 x4 (w32 (x5 + (-1))) := (jj_of bk_290_3 _ _ h).trans ((ff_of bk_290_3 [(22, x0), (9, 0), (30, x2), (0, x3), (0, x4), (0, x5), (9, 0)] [] h).trans (by
  show (JJ 290 9 [(22, x0), (9, 0), (30, x2), (0, x3), (0, x4), (0, x5), (9, 0)] [] h) = _
  simp only [jt_290_9, ck_or1, ck_or2, rf_wr, ln_wr, nn_wr, rf_cp, ln_cp, nn_cp, ln_wf, nn_wf, rd_wf, nn_nw]
  try rfl))
set_option maxRecDepth 20000 in
theorem jt_290_2 (h : am_H) (d1 d6 : am_V) (x0 x2 x3 x4 x5 : Int) : JJ 290 2 [(22, x0), d1, (30, x2), (0, x3), (0, x4), (0, x5), d6] [] h = ck_ (0 ≤ x0) (ck_ ((w32 ((rd_ h x0 13) + 1)) ≠ 0) (ck_ (0 ≤ x0) (ck_ ((w32 ((rd_ h x0 13) + 1)) ≠ 0) (ck_ (0 ≤ x0) (if (Int.tmod x3 (w32 ((rd_ h x0 13) + 1))) ≠ (rd_ h x0 13) then bd_ (Mo_isOf h x4 (Int.tmod x3 (w32 ((rd_ h x0 13) + 1)))) fun h1 v2 => if v2 ≠ 0 then some (h1, 0) else ck_ (0 ≤ x2) (ck_ (0 ≤ (Int.tmod x3 (w32 ((rd_ h x0 13) + 1))) ∧ (Int.tmod x3 (w32 ((rd_ h x0 13) + 1))) < ln_ h1 x2) (if (rd_ h1 x2 (Int.tmod x3 (w32 ((rd_ h x0 13) + 1)))) < 1 then some (h1, 0) else ck_ (0 ≤ x2) (ck_ (0 ≤ (Int.tmod x3 (w32 ((rd_ h x0 13) + 1))) ∧ (Int.tmod x3 (w32 ((rd_ h x0 13) + 1))) < ln_ h1 x2) (ck_ (0 ≤ x0) (ck_ (0 ≤ (rf_ h1 x0 25)) (ck_ (0 ≤ x5 ∧ x5 < ln_ h1 (rf_ h1 x0 25)) (if (rd_ h1 x2 (Int.tmod x3 (w32 ((rd_ h x0 13) + 1)))) ≤ (rd_ h1 (rf_ h1 x0 25) x5) then ck_ (0 ≤ x0) (ck_ (0 ≤ x0) (ck_ (0 ≤ x0) (ck_ (0 ≤ x2) (ck_ (0 ≤ (Int.tmod x3 (w32 ((rd_ h x0 13) + 1))) ∧ (Int.tmod x3 (w32 ((rd_ h x0 13) + 1))) < ln_ h1 x2) (ck_ (0 ≤ x0) (Mo_laysMatch_1 (wr_ (wr_ h1 x0 77 (w32 ((rd_ h1 x0 77) + 1))) x0 78 (w32 ((rd_ (wr_ h1 x0 77 (w32 ((rd_ h1 x0 77) + 1))) x0 78) + (rd_ (wr_ h1 x0 77 (w32 ((rd_ h1 x0 77) + 1))) x2 (Int.tmod x3 (w32 ((rd_ h x0 13) + 1))))))) x0 x2 (w32 (Int.tdiv x3 (w32 ((rd_ h x0 13) + 1)))) (or_ x4 (w32 (1 * 2 ^ ((Int.tmod x3 (w32 ((rd_ h x0 13) + 1))) % 32 : Int).toNat))) (w32 (x5 + (-1))))))))) else some (h1, 0)))))))) else Mo_laysMatch_1 h x0 x2 (w32 (Int.tdiv x3 (w32 ((rd_ h x0 13) + 1)))) x4 (w32 (x5 + (-1)))))))) := (jj_of bk_290_2 _ _ h).trans ((ff_of bk_290_2 [(22, x0), (9, 0), (30, x2), (0, x3), (0, x4), (0, x5), (9, 0)] [] h).trans (by
  show (ck_ (0 ≤ x0) (ck_ ((w32 ((rd_ h x0 13) + 1)) ≠ 0) (ck_ (0 ≤ x0) (ck_ ((w32 ((rd_ h x0 13) + 1)) ≠ 0) (ck_ (0 ≤ x0) (if (Int.tmod x3 (w32 ((rd_ h x0 13) + 1))) ≠ (rd_ h x0 13) then JJ 290 4 [(22, x0), (9, 0), (30, x2), (0, w32 (Int.tdiv x3 (w32 ((rd_ h x0 13) + 1)))), (0, x4), (0, x5), (0, Int.tmod x3 (w32 ((rd_ h x0 13) + 1)))] [] h else JJ 290 3 [(22, x0), (9, 0), (30, x2), (0, w32 (Int.tdiv x3 (w32 ((rd_ h x0 13) + 1)))), (0, x4), (0, x5), (0, Int.tmod x3 (w32 ((rd_ h x0 13) + 1)))] [] h)))))) = _
  simp only [jt_290_3, jt_290_4, ck_or1, ck_or2, rf_wr, ln_wr, nn_wr, rf_cp, ln_cp, nn_cp, ln_wf, nn_wf, rd_wf, nn_nw]
  try rfl))
set_option maxRecDepth 20000 in
theorem Mo_laysMatch_1_e (h : am_H) (x0 x2 x3 x4 x5 : Int) : Mo_laysMatch_1 h x0 x2 x3 x4 x5 = if x5 < 0 then some (h, 1) else ck_ (0 ≤ x0) (ck_ ((w32 ((rd_ h x0 13) + 1)) ≠ 0) (ck_ (0 ≤ x0) (ck_ ((w32 ((rd_ h x0 13) + 1)) ≠ 0) (ck_ (0 ≤ x0) (if (Int.tmod x3 (w32 ((rd_ h x0 13) + 1))) ≠ (rd_ h x0 13) then bd_ (Mo_isOf h x4 (Int.tmod x3 (w32 ((rd_ h x0 13) + 1)))) fun h1 v2 => if v2 ≠ 0 then some (h1, 0) else ck_ (0 ≤ x2) (ck_ (0 ≤ (Int.tmod x3 (w32 ((rd_ h x0 13) + 1))) ∧ (Int.tmod x3 (w32 ((rd_ h x0 13) + 1))) < ln_ h1 x2) (if (rd_ h1 x2 (Int.tmod x3 (w32 ((rd_ h x0 13) + 1)))) < 1 then some (h1, 0) else ck_ (0 ≤ x2) (ck_ (0 ≤ (Int.tmod x3 (w32 ((rd_ h x0 13) + 1))) ∧ (Int.tmod x3 (w32 ((rd_ h x0 13) + 1))) < ln_ h1 x2) (ck_ (0 ≤ x0) (ck_ (0 ≤ (rf_ h1 x0 25)) (ck_ (0 ≤ x5 ∧ x5 < ln_ h1 (rf_ h1 x0 25)) (if (rd_ h1 x2 (Int.tmod x3 (w32 ((rd_ h x0 13) + 1)))) ≤ (rd_ h1 (rf_ h1 x0 25) x5) then ck_ (0 ≤ x0) (ck_ (0 ≤ x0) (ck_ (0 ≤ x0) (ck_ (0 ≤ x2) (ck_ (0 ≤ (Int.tmod x3 (w32 ((rd_ h x0 13) + 1))) ∧ (Int.tmod x3 (w32 ((rd_ h x0 13) + 1))) < ln_ h1 x2) (ck_ (0 ≤ x0) (Mo_laysMatch_1 (wr_ (wr_ h1 x0 77 (w32 ((rd_ h1 x0 77) + 1))) x0 78 (w32 ((rd_ (wr_ h1 x0 77 (w32 ((rd_ h1 x0 77) + 1))) x0 78) + (rd_ (wr_ h1 x0 77 (w32 ((rd_ h1 x0 77) + 1))) x2 (Int.tmod x3 (w32 ((rd_ h x0 13) + 1))))))) x0 x2 (w32 (Int.tdiv x3 (w32 ((rd_ h x0 13) + 1)))) (or_ x4 (w32 (1 * 2 ^ ((Int.tmod x3 (w32 ((rd_ h x0 13) + 1))) % 32 : Int).toNat))) (w32 (x5 + (-1))))))))) else some (h1, 0)))))))) else Mo_laysMatch_1 h x0 x2 (w32 (Int.tdiv x3 (w32 ((rd_ h x0 13) + 1)))) x4 (w32 (x5 + (-1)))))))) := (ff_of bk_290_1 [(22, x0), (9, 0), (30, x2), (0, x3), (0, x4), (0, x5), (9, 0)] [] h).trans (by
  show (if x5 < 0 then JJ 290 10 [(22, x0), (9, 0), (30, x2), (0, x3), (0, x4), (0, x5), (9, 0)] [] h else JJ 290 2 [(22, x0), (9, 0), (30, x2), (0, x3), (0, x4), (0, x5), (9, 0)] [] h) = _
  simp only [jt_290_10, jt_290_2, ck_or1, ck_or2, rf_wr, ln_wr, nn_wr, rf_cp, ln_cp, nn_cp, ln_wf, nn_wf, rd_wf, nn_nw]
  try rfl)
theorem cc_290 (h : am_H) (x0 x1 x2 : Int) : CC 290 [(22, x0), (0, x1), (30, x2)] h = Mo_laysMatch h x0 x1 x2 := cc_of pk_290 _ h
set_option maxRecDepth 20000 in
theorem pk_291 : am_prog 291 = some cd_291 := rfl
theorem bk_291_0 : bk_ am_prog 291 0 = some ([true, true, false, false, false, false, false], (bl_291_0, 9999)) := bk_of pk_291 rfl
theorem bk_291_1 : bk_ am_prog 291 1 = some ([false, false, false, false, false, false, false], (bl_291_1, 9999)) := bk_of pk_291 rfl
theorem bk_291_2 : bk_ am_prog 291 2 = some ([true, true, false, false, false, false, false], (bl_291_2, 9999)) := bk_of pk_291 rfl
theorem bk_291_3 : bk_ am_prog 291 3 = some ([true, true, false, false, false, false, false], (bl_291_3, 9999)) := bk_of pk_291 rfl
theorem bk_291_4 : bk_ am_prog 291 4 = some ([false, false, false, false, false, false, false], (bl_291_4, 9999)) := bk_of pk_291 rfl
theorem bk_291_5 : bk_ am_prog 291 5 = some ([true, true, false, false, false, false, false], (bl_291_5, 6)) := bk_of pk_291 rfl
theorem bk_291_6 : bk_ am_prog 291 6 = some ([true, true, true, false, false, false, false], (bl_291_6, 9999)) := bk_of pk_291 rfl
theorem bk_291_7 : bk_ am_prog 291 7 = some ([true, true, true, false, false, false, false], (bl_291_7, 9999)) := bk_of pk_291 rfl
theorem bk_291_8 : bk_ am_prog 291 8 = some ([true, true, false, false, false, false, false], (bl_291_8, 9)) := bk_of pk_291 rfl
theorem bk_291_9 : bk_ am_prog 291 9 = some ([true, true, true, true, false, false, false], (bl_291_9, 9999)) := bk_of pk_291 rfl
theorem bk_291_10 : bk_ am_prog 291 10 = some ([true, true, true, true, false, false, false], (bl_291_10, 9999)) := bk_of pk_291 rfl
theorem bk_291_11 : bk_ am_prog 291 11 = some ([true, true, true, false, false, false, false], (bl_291_11, 12)) := bk_of pk_291 rfl
theorem bk_291_12 : bk_ am_prog 291 12 = some ([true, true, true, true, true, true, true], (bl_291_12, 9999)) := bk_of pk_291 rfl
theorem bk_291_13 : bk_ am_prog 291 13 = some ([true, true, true, true, true, true, true], (bl_291_13, 9999)) := bk_of pk_291 rfl
theorem bk_291_14 : bk_ am_prog 291 14 = some ([true, true, true, true, true, true, true], (bl_291_14, 9999)) := bk_of pk_291 rfl
theorem bk_291_15 : bk_ am_prog 291 15 = some ([true, true, true, true, true, true, true], (bl_291_15, 9999)) := bk_of pk_291 rfl
theorem bk_291_16 : bk_ am_prog 291 16 = some ([true, true, true, true, true, true, true], (bl_291_16, 9999)) := bk_of pk_291 rfl
theorem bk_291_17 : bk_ am_prog 291 17 = some ([true, true, true, true, true, true, true], (bl_291_17, 9999)) := bk_of pk_291 rfl
theorem bk_291_18 : bk_ am_prog 291 18 = some ([true, true, true, false, false, false, true], (bl_291_18, 19)) := bk_of pk_291 rfl
theorem bk_291_19 : bk_ am_prog 291 19 = some ([true, true, true, true, true, true, true], (bl_291_19, 9999)) := bk_of pk_291 rfl
theorem bk_291_20 : bk_ am_prog 291 20 = some ([true, true, false, true, true, true, false], (bl_291_20, 9999)) := bk_of pk_291 rfl
theorem bk_291_21 : bk_ am_prog 291 21 = some ([false, true, false, false, true, true, false], (bl_291_21, 9999)) := bk_of pk_291 rfl
theorem bk_291_22 : bk_ am_prog 291 22 = some ([false, false, false, false, true, false, false], (bl_291_22, 9999)) := bk_of pk_291 rfl
theorem bk_291_23 : bk_ am_prog 291 23 = some ([false, false, false, false, false, true, false], (bl_291_23, 24)) := bk_of pk_291 rfl
theorem bk_291_24 : bk_ am_prog 291 24 = some ([false, false, false, false, false, false, false], (bl_291_24, 9999)) := bk_of pk_291 rfl
theorem bk_291_25 : bk_ am_prog 291 25 = some ([true, true, false, true, false, false, false], (bl_291_25, 26)) := bk_of pk_291 rfl
theorem bk_291_26 : bk_ am_prog 291 26 = some ([true, true, false, true, false, false, true], (bl_291_26, 9999)) := bk_of pk_291 rfl
theorem bk_291_27 : bk_ am_prog 291 27 = some ([true, true, false, true, false, false, true], (bl_291_27, 9999)) := bk_of pk_291 rfl
theorem bk_291_28 : bk_ am_prog 291 28 = some ([true, false, false, true, false, false, false], (bl_291_28, 9999)) := bk_of pk_291 rfl
theorem bk_291_29 : bk_ am_prog 291 29 = some ([false, false, false, false, false, false, false], (bl_291_29, 9999)) := bk_of pk_291 rfl
theorem bk_291_30 : bk_ am_prog 291 30 = some ([false, false, false, false, false, false, true], (bl_291_30, 31)) := bk_of pk_291 rfl
theorem bk_291_31 : bk_ am_prog 291 31 = some ([false, false, false, false, false, false, false], (bl_291_31, 9999)) := bk_of pk_291 rfl
theorem jt_291_6 (h : am_H) (d3 d4 d5 d6 : am_V) (x0 x1 x2 : Int) : JJ 291 6 [(22, x0), (0, x1), (0, x2), d3, d4, d5, d6] [] h = Mo_match_6 h x0 x1 x2 := jj_of bk_291_6 _ _ h
theorem jt_291_9 (h : am_H) (d4 d5 d6 : am_V) (x0 x1 x2 x3 : Int) : JJ 291 9 [(22, x0), (0, x1), (0, x2), (0, x3), d4, d5, d6] [] h = Mo_match_9 h x0 x1 x2 x3 := jj_of bk_291_9 _ _ h
theorem jt_291_12 (h : am_H) (x0 x1 x2 x3 x4 x5 x6 : Int) : JJ 291 12 [(22, x0), (0, x1), (0, x2), (0, x3), (0, x4), (0, x5), (0, x6)] [] h = Mo_match_12 h x0 x1 x2 x3 x4 x5 x6 := jj_of bk_291_12 _ _ h
theorem jt_291_26 (h : am_H) (d2 d4 d5 : am_V) (x0 x1 x3 x6 : Int) : JJ 291 26 [(22, x0), (0, x1), d2, (0, x3), d4, d5, (0, x6)] [] h = Mo_match_26 h x0 x1 x3 x6 := jj_of bk_291_26 _ _ h
theorem jt_291_5 (h : am_H) (d2 d3 d4 d5 d6 : am_V) (x0 x1 : Int) : JJ 291 5 [(22, x0), (0, x1), d2, d3, d4, d5, d6] [] h = Mo_match_6 h x0 x1 0 := (jj_of bk_291_5 _ _ h).trans ((ff_of bk_291_5 [(22, x0), (0, x1), (9, 0), (9, 0), (9, 0), (9, 0), (9, 0)] [] h).trans (by
  show (JJ 291 6 [(22, x0), (0, x1), (0, 0), (9, 0), (9, 0), (9, 0), (9, 0)] [] h) = _
  simp only [jt_291_6, ck_or1, ck_or2, rf_wr, ln_wr, nn_wr, rf_cp, ln_cp, nn_cp, ln_wf, nn_wf, rd_wf, nn_nw]
  try rfl))
theorem jt_291_4 (h : am_H) (d0 d1 d2 d3 d4 d5 d6 : am_V) : JJ 291 4 [d0, d1, d2, d3, d4, d5, d6] [] h = some (h, (-2)) := (jj_of bk_291_4 _ _ h).trans (ff_of bk_291_4 [(9, 0), (9, 0), (9, 0), (9, 0), (9, 0), (9, 0), (9, 0)] [] h)
theorem jt_291_3 (h : am_H) (d2 d3 d4 d5 d6 : am_V) (x0 x1 : Int) : JJ 291 3 [(22, x0), (0, x1), d2, d3, d4, d5, d6] [] h = ck_ (0 ≤ x0) (if x1 < (rd_ h x0 12) then Mo_match_6 h x0 x1 0 else some (h, (-2))) := (jj_of bk_291_3 _ _ h).trans ((ff_of bk_291_3 [(22, x0), (0, x1), (9, 0), (9, 0), (9, 0), (9, 0), (9, 0)] [] h).trans (by
  show (ck_ (0 ≤ x0) (if x1 < (rd_ h x0 12) then JJ 291 5 [(22, x0), (0, x1), (9, 0), (9, 0), (9, 0), (9, 0), (9, 0)] [] h else JJ 291 4 [(22, x0), (0, x1), (9, 0), (9, 0), (9, 0), (9, 0), (9, 0)] [] h)) = _
  simp only [jt_291_4, jt_291_5, ck_or1, ck_or2, rf_wr, ln_wr, nn_wr, rf_cp, ln_cp, nn_cp, ln_wf, nn_wf, rd_wf, nn_nw]
  try rfl))
theorem jt_291_2 (h : am_H) (d2 d3 d4 d5 d6 : am_V) (x0 x1 : Int) : JJ 291 2 [(22, x0), (0, x1), d2, d3, d4, d5, d6] [] h = if 4 ≤ x1 then Mo_match_6 h x0 x1 0 else ck_ (0 ≤ x0) (if x1 < (rd_ h x0 12) then Mo_match_6 h x0 x1 0 else some (h, (-2))) := (jj_of bk_291_2 _ _ h).trans ((ff_of bk_291_2 [(22, x0), (0, x1), (9, 0), (9, 0), (9, 0), (9, 0), (9, 0)] [] h).trans (by
  show (if 4 ≤ x1 then JJ 291 5 [(22, x0), (0, x1), (9, 0), (9, 0), (9, 0), (9, 0), (9, 0)] [] h else JJ 291 3 [(22, x0), (0, x1), (9, 0), (9, 0), (9, 0), (9, 0), (9, 0)] [] h) = _
  simp only [jt_291_3, jt_291_5, ck_or1, ck_or2, rf_wr, ln_wr, nn_wr, rf_cp, ln_cp, nn_cp, ln_wf, nn_wf, rd_wf, nn_nw]
  try rfl))
theorem jt_291_1 (h : am_H) (d0 d1 d2 d3 d4 d5 d6 : am_V) : JJ 291 1 [d0, d1, d2, d3, d4, d5, d6] [] h = some (h, (-1)) := (jj_of bk_291_1 _ _ h).trans (ff_of bk_291_1 [(9, 0), (9, 0), (9, 0), (9, 0), (9, 0), (9, 0), (9, 0)] [] h)
theorem Mo_match_e (h : am_H) (x0 x1 : Int) : Mo_match h x0 x1 = ck_ (0 ≤ x0) (bd_ (Mo_isIn (wr_ h x0 2 0) x1 0 5) fun h1 v2 => if v2 ≠ 0 then (if 4 ≤ x1 then Mo_match_6 h1 x0 x1 0 else ck_ (0 ≤ x0) (if x1 < (rd_ h1 x0 12) then Mo_match_6 h1 x0 x1 0 else some (h1, (-2)))) else some (h1, (-1))) := (ff_of bk_291_0 [(22, x0), (0, x1), (9, 0), (9, 0), (9, 0), (9, 0), (9, 0)] [] h).trans (by
  show (ck_ (0 ≤ x0) (bd_ (CC 196 [(0, x1), (0, 0), (0, 5)] (wr_ h x0 2 0)) fun h1 v2 => if v2 ≠ 0 then JJ 291 2 [(22, x0), (0, x1), (9, 0), (9, 0), (9, 0), (9, 0), (9, 0)] [] h1 else JJ 291 1 [(22, x0), (0, x1), (9, 0), (9, 0), (9, 0), (9, 0), (9, 0)] [] h1)) = _
  simp only [cc_196, jt_291_1, jt_291_2, ck_or1, ck_or2, rf_wr, ln_wr, nn_wr, rf_cp, ln_cp, nn_cp, ln_wf, nn_wf, rd_wf, nn_nw]
  try rfl)
theorem jt_291_8 (h : am_H) (d2 d3 d4 d5 d6 : am_V) (x0 x1 : Int) : JJ 291 8 [(22, x0), (0, x1), d2, d3, d4, d5, d6] [] h = Mo_match_9 h x0 x1 1 0 := (jj_of bk_291_8 _ _ h).trans ((ff_of bk_291_8 [(22, x0), (0, x1), (9, 0), (9, 0), (9, 0), (9, 0), (9, 0)] [] h).trans (by
  show (JJ 291 9 [(22, x0), (0, x1), (0, 1), (0, 0), (9, 0), (9, 0), (9, 0)] [] h) = _
  simp only [jt_291_9, ck_or1, ck_or2, rf_wr, ln_wr, nn_wr, rf_cp, ln_cp, nn_cp, ln_wf, nn_wf, rd_wf, nn_nw]
  try rfl))
set_option maxRecDepth 20000 in
theorem jt_291_7 (h : am_H) (d3 d4 d5 d6 : am_V) (x0 x1 x2 : Int) : JJ 291 7 [(22, x0), (0, x1), (0, x2), d3, d4, d5, d6] [] h = ck_ (0 ≤ x0) (ck_ (0 ≤ (rf_ h x0 52)) (ck_ (0 ≤ x2 ∧ x2 < ln_ h (rf_ h x0 52)) (ck_ (0 ≤ x0) (bd_ (Mo_layFar h x0 (rd_ h (rf_ h x0 52) x2) 0 1) fun h1 _ => ck_ (0 ≤ x0) (ck_ (0 ≤ x0) (ck_ (0 ≤ x0) (bd_ (Mo_codeOfPile h1 x0 x2 1) fun h3 v4 => ck_ (0 ≤ (rf_ h1 x0 71)) (ck_ (0 ≤ v4 ∧ v4 < ln_ h3 (rf_ h1 x0 71)) (ck_ (0 ≤ (rf_ h1 x0 79)) (ck_ (0 ≤ x2 ∧ x2 < ln_ h3 (rf_ h1 x0 79)) (Mo_match_6 (wr_ h3 (rf_ h1 x0 79) x2 (rd_ h3 (rf_ h1 x0 71) v4)) x0 x1 (w32 (x2 + 1))))))))))))) := (jj_of bk_291_7 _ _ h).trans ((ff_of bk_291_7 [(22, x0), (0, x1), (0, x2), (9, 0), (9, 0), (9, 0), (9, 0)] [] h).trans (by
  show (ck_ (0 ≤ x0) (ck_ (0 ≤ (rf_ h x0 52)) (ck_ (0 ≤ x2 ∧ x2 < ln_ h (rf_ h x0 52)) (ck_ (0 ≤ x0) (bd_ (CC 277 [(22, x0), (0, rd_ h (rf_ h x0 52) x2), (0, 0), (0, 1)] h) fun h1 _ => ck_ (0 ≤ x0) (ck_ (0 ≤ x0) (ck_ (0 ≤ x0) (bd_ (CC 275 [(22, x0), (0, x2), (0, 1)] h1) fun h3 v4 => ck_ (0 ≤ (rf_ h1 x0 71)) (ck_ (0 ≤ v4 ∧ v4 < ln_ h3 (rf_ h1 x0 71)) (ck_ (0 ≤ (rf_ h1 x0 79)) (ck_ (0 ≤ x2 ∧ x2 < ln_ h3 (rf_ h1 x0 79)) (JJ 291 6 [(22, x0), (0, x1), (0, w32 (x2 + 1)), (9, 0), (9, 0), (9, 0), (9, 0)] [] (wr_ h3 (rf_ h1 x0 79) x2 (rd_ h3 (rf_ h1 x0 71) v4)))))))))))))) = _
  simp only [cc_275, cc_277, jt_291_6, ck_or1, ck_or2, rf_wr, ln_wr, nn_wr, rf_cp, ln_cp, nn_cp, ln_wf, nn_wf, rd_wf, nn_nw]
  try rfl))
theorem Mo_match_6_e (h : am_H) (x0 x1 x2 : Int) : Mo_match_6 h x0 x1 x2 = ck_ (0 ≤ x0) (if (rd_ h x0 13) ≤ x2 then Mo_match_9 h x0 x1 1 0 else ck_ (0 ≤ x0) (ck_ (0 ≤ (rf_ h x0 52)) (ck_ (0 ≤ x2 ∧ x2 < ln_ h (rf_ h x0 52)) (ck_ (0 ≤ x0) (bd_ (Mo_layFar h x0 (rd_ h (rf_ h x0 52) x2) 0 1) fun h1 _ => ck_ (0 ≤ x0) (ck_ (0 ≤ x0) (ck_ (0 ≤ x0) (bd_ (Mo_codeOfPile h1 x0 x2 1) fun h3 v4 => ck_ (0 ≤ (rf_ h1 x0 71)) (ck_ (0 ≤ v4 ∧ v4 < ln_ h3 (rf_ h1 x0 71)) (ck_ (0 ≤ (rf_ h1 x0 79)) (ck_ (0 ≤ x2 ∧ x2 < ln_ h3 (rf_ h1 x0 79)) (Mo_match_6 (wr_ h3 (rf_ h1 x0 79) x2 (rd_ h3 (rf_ h1 x0 71) v4)) x0 x1 (w32 (x2 + 1)))))))))))))) := (ff_of bk_291_6 [(22, x0), (0, x1), (0, x2), (9, 0), (9, 0), (9, 0), (9, 0)] [] h).trans (by
  show (ck_ (0 ≤ x0) (if (rd_ h x0 13) ≤ x2 then JJ 291 8 [(22, x0), (0, x1), (0, x2), (9, 0), (9, 0), (9, 0), (9, 0)] [] h else JJ 291 7 [(22, x0), (0, x1), (0, x2), (9, 0), (9, 0), (9, 0), (9, 0)] [] h)) = _
  simp only [jt_291_7, jt_291_8, ck_or1, ck_or2, rf_wr, ln_wr, nn_wr, rf_cp, ln_cp, nn_cp, ln_wf, nn_wf, rd_wf, nn_nw]
  try rfl)
theorem jt_291_11 (h : am_H) (d3 d4 d5 d6 : am_V) (x0 x1 x2 : Int) : JJ 291 11 [(22, x0), (0, x1), (0, x2), d3, d4, d5, d6] [] h = Mo_match_12 h x0 x1 x2 (-1) (-1) 0 0 := (jj_of bk_291_11 _ _ h).trans ((ff_of bk_291_11 [(22, x0), (0, x1), (0, x2), (9, 0), (9, 0), (9, 0), (9, 0)] [] h).trans (by
  show (JJ 291 12 [(22, x0), (0, x1), (0, x2), (0, (-1)), (0, (-1)), (0, 0), (0, 0)] [] h) = _
  simp only [jt_291_12, ck_or1, ck_or2, rf_wr, ln_wr, nn_wr, rf_cp, ln_cp, nn_cp, ln_wf, nn_wf, rd_wf, nn_nw]
  try rfl))
theorem jt_291_10 (h : am_H) (d4 d5 d6 : am_V) (x0 x1 x2 x3 : Int) : JJ 291 10 [(22, x0), (0, x1), (0, x2), (0, x3), d4, d5, d6] [] h = ck_ (0 ≤ x0) (Mo_match_9 h x0 x1 (w32 (x2 * (w32 ((rd_ h x0 13) + 1)))) (w32 (x3 + 1))) := (jj_of bk_291_10 _ _ h).trans ((ff_of bk_291_10 [(22, x0), (0, x1), (0, x2), (0, x3), (9, 0), (9, 0), (9, 0)] [] h).trans (by
  show (ck_ (0 ≤ x0) (JJ 291 9 [(22, x0), (0, x1), (0, w32 (x2 * (w32 ((rd_ h x0 13) + 1)))), (0, w32 (x3 + 1)), (9, 0), (9, 0), (9, 0)] [] h)) = _
  simp only [jt_291_9, ck_or1, ck_or2, rf_wr, ln_wr, nn_wr, rf_cp, ln_cp, nn_cp, ln_wf, nn_wf, rd_wf, nn_nw]
  try rfl))
theorem Mo_match_9_e (h : am_H) (x0 x1 x2 x3 : Int) : Mo_match_9 h x0 x1 x2 x3 = ck_ (0 ≤ x0) (if (rd_ h x0 12) ≤ x3 then Mo_match_12 h x0 x1 x2 (-1) (-1) 0 0 else ck_ (0 ≤ x0) (Mo_match_9 h x0 x1 (w32 (x2 * (w32 ((rd_ h x0 13) + 1)))) (w32 (x3 + 1)))) := (ff_of bk_291_9 [(22, x0), (0, x1), (0, x2), (0, x3), (9, 0), (9, 0), (9, 0)] [] h).trans (by
  show (ck_ (0 ≤ x0) (if (rd_ h x0 12) ≤ x3 then JJ 291 11 [(22, x0), (0, x1), (0, x2), (0, x3), (9, 0), (9, 0), (9, 0)] [] h else JJ 291 10 [(22, x0), (0, x1), (0, x2), (0, x3), (9, 0), (9, 0), (9, 0)] [] h)) = _
  simp only [jt_291_10, jt_291_11, ck_or1, ck_or2, rf_wr, ln_wr, nn_wr, rf_cp, ln_cp, nn_cp, ln_wf, nn_wf, rd_wf, nn_nw]
  try rfl)
theorem jt_291_25 (h : am_H) (d2 d4 d5 d6 : am_V) (x0 x1 x3 : Int) : JJ 291 25 [(22, x0), (0, x1), d2, (0, x3), d4, d5, d6] [] h = ck_ (0 ≤ x0) (Mo_match_26 h x0 x1 x3 (w32 ((rd_ h x0 12) - 1))) := (jj_of bk_291_25 _ _ h).trans ((ff_of bk_291_25 [(22, x0), (0, x1), (9, 0), (0, x3), (9, 0), (9, 0), (9, 0)] [] h).trans (by
  show (ck_ (0 ≤ x0) (JJ 291 26 [(22, x0), (0, x1), (9, 0), (0, x3), (9, 0), (9, 0), (0, w32 ((rd_ h x0 12) - 1))] [] h)) = _
  simp only [jt_291_26, ck_or1, ck_or2, rf_wr, ln_wr, nn_wr, rf_cp, ln_cp, nn_cp, ln_wf, nn_wf, rd_wf, nn_nw]
  try rfl))
theorem jt_291_24 (h : am_H) (d0 d1 d2 d3 d4 d5 d6 : am_V) (s0 : Int) : JJ 291 24 [d0, d1, d2, d3, d4, d5, d6] [(0, s0)] h = some (h, s0) := (jj_of bk_291_24 _ _ h).trans (ff_of bk_291_24 [(9, 0), (9, 0), (9, 0), (9, 0), (9, 0), (9, 0), (9, 0)] [(0, s0)] h)
theorem jt_291_23 (h : am_H) (d0 d1 d2 d3 d4 d6 : am_V) (x5 : Int) : JJ 291 23 [d0, d1, d2, d3, d4, (0, x5), d6] [] h = some (h, x5) := (jj_of bk_291_23 _ _ h).trans ((ff_of bk_291_23 [(9, 0), (9, 0), (9, 0), (9, 0), (9, 0), (0, x5), (9, 0)] [] h).trans (by
  show (JJ 291 24 [(9, 0), (9, 0), (9, 0), (9, 0), (9, 0), (0, x5), (9, 0)] [(0, x5)] h) = _
  simp only [jt_291_24, ck_or1, ck_or2, rf_wr, ln_wr, nn_wr, rf_cp, ln_cp, nn_cp, ln_wf, nn_wf, rd_wf, nn_nw]
  try rfl))
theorem jt_291_22 (h : am_H) (d0 d1 d2 d3 d5 d6 : am_V) (x4 : Int) : JJ 291 22 [d0, d1, d2, d3, (0, x4), d5, d6] [] h = some (h, x4) := (jj_of bk_291_22 _ _ h).trans ((ff_of bk_291_22 [(9, 0), (9, 0), (9, 0), (9, 0), (0, x4), (9, 0), (9, 0)] [] h).trans (by
  show (JJ 291 24 [(9, 0), (9, 0), (9, 0), (9, 0), (0, x4), (9, 0), (9, 0)] [(0, x4)] h) = _
  simp only [jt_291_24, ck_or1, ck_or2, rf_wr, ln_wr, nn_wr, rf_cp, ln_cp, nn_cp, ln_wf, nn_wf, rd_wf, nn_nw]
  try rfl))
theorem jt_291_21 (h : am_H) (d0 d2 d3 d6 : am_V) (x1 x4 x5 : Int) : JJ 291 21 [d0, (0, x1), d2, d3, (0, x4), (0, x5), d6] [] h = if x1 ≠ 4 then some (h, x5) else some (h, x4) := (jj_of bk_291_21 _ _ h).trans ((ff_of bk_291_21 [(9, 0), (0, x1), (9, 0), (9, 0), (0, x4), (0, x5), (9, 0)] [] h).trans (by
  show (if x1 ≠ 4 then JJ 291 23 [(9, 0), (0, x1), (9, 0), (9, 0), (0, x4), (0, x5), (9, 0)] [] h else JJ 291 22 [(9, 0), (0, x1), (9, 0), (9, 0), (0, x4), (0, x5), (9, 0)] [] h) = _
  simp only [jt_291_22, jt_291_23, ck_or1, ck_or2, rf_wr, ln_wr, nn_wr, rf_cp, ln_cp, nn_cp, ln_wf, nn_wf, rd_wf, nn_nw]
  try rfl))
theorem jt_291_20 (h : am_H) (d2 d6 : am_V) (x0 x1 x3 x4 x5 : Int) : JJ 291 20 [(22, x0), (0, x1), d2, (0, x3), (0, x4), (0, x5), d6] [] h = if x1 ≤ 3 then ck_ (0 ≤ x0) (Mo_match_26 h x0 x1 x3 (w32 ((rd_ h x0 12) - 1))) else if x1 ≠ 4 then some (h, x5) else some (h, x4) := (jj_of bk_291_20 _ _ h).trans ((ff_of bk_291_20 [(22, x0), (0, x1), (9, 0), (0, x3), (0, x4), (0, x5), (9, 0)] [] h).trans (by
  show (if x1 ≤ 3 then JJ 291 25 [(22, x0), (0, x1), (9, 0), (0, x3), (0, x4), (0, x5), (9, 0)] [] h else JJ 291 21 [(22, x0), (0, x1), (9, 0), (0, x3), (0, x4), (0, x5), (9, 0)] [] h) = _
  simp only [jt_291_21, jt_291_25, ck_or1, ck_or2, rf_wr, ln_wr, nn_wr, rf_cp, ln_cp, nn_cp, ln_wf, nn_wf, rd_wf, nn_nw]
  try rfl))
theorem jt_291_19 (h : am_H) (x0 x1 x2 x3 x4 x5 x6 : Int) : JJ 291 19 [(22, x0), (0, x1), (0, x2), (0, x3), (0, x4), (0, x5), (0, x6)] [] h = Mo_match_12 h x0 x1 x2 x3 x4 x5 (w32 (x6 + 1)) := (jj_of bk_291_19 _ _ h).trans ((ff_of bk_291_19 [(22, x0), (0, x1), (0, x2), (0, x3), (0, x4), (0, x5), (0, x6)] [] h).trans (by
  show (JJ 291 12 [(22, x0), (0, x1), (0, x2), (0, x3), (0, x4), (0, x5), (0, w32 (x6 + 1))] [] h) = _
  simp only [jt_291_12, ck_or1, ck_or2, rf_wr, ln_wr, nn_wr, rf_cp, ln_cp, nn_cp, ln_wf, nn_wf, rd_wf, nn_nw]
  try rfl))
theorem jt_291_18 (h : am_H) (d3 d4 d5 : am_V) (x0 x1 x2 x6 : Int) : JJ 291 18 [(22, x0), (0, x1), (0, x2), d3, d4, d5, (0, x6)] [] h = ck_ (0 ≤ x0) (ck_ (0 ≤ x0) (Mo_match_12 h x0 x1 x2 x6 (rd_ h x0 77) (rd_ h x0 78) (w32 (x6 + 1)))) := (jj_of bk_291_18 _ _ h).trans ((ff_of bk_291_18 [(22, x0), (0, x1), (0, x2), (9, 0), (9, 0), (9, 0), (0, x6)] [] h).trans (by
  show (ck_ (0 ≤ x0) (ck_ (0 ≤ x0) (JJ 291 19 [(22, x0), (0, x1), (0, x2), (0, x6), (0, rd_ h x0 77), (0, rd_ h x0 78), (0, x6)] [] h))) = _
  simp only [jt_291_19, ck_or1, ck_or2, rf_wr, ln_wr, nn_wr, rf_cp, ln_cp, nn_cp, ln_wf, nn_wf, rd_wf, nn_nw]
  try rfl))
theorem jt_291_17 (h : am_H) (x0 x1 x2 x3 x4 x5 x6 : Int) : JJ 291 17 [(22, x0), (0, x1), (0, x2), (0, x3), (0, x4), (0, x5), (0, x6)] [] h = Mo_match_12 h x0 x1 x2 x3 x4 x5 (w32 (x6 + 1)) := (jj_of bk_291_17 _ _ h).trans ((ff_of bk_291_17 [(22, x0), (0, x1), (0, x2), (0, x3), (0, x4), (0, x5), (0, x6)] [] h).trans (by
  show (JJ 291 19 [(22, x0), (0, x1), (0, x2), (0, x3), (0, x4), (0, x5), (0, x6)] [] h) = _
  simp only [jt_291_19, ck_or1, ck_or2, rf_wr, ln_wr, nn_wr, rf_cp, ln_cp, nn_cp, ln_wf, nn_wf, rd_wf, nn_nw]
  try rfl))
theorem jt_291_16 (h : am_H) (x0 x1 x2 x3 x4 x5 x6 : Int) : JJ 291 16 [(22, x0), (0, x1), (0, x2), (0, x3), (0, x4), (0, x5), (0, x6)] [] h = ck_ (0 ≤ x0) (if (rd_ h x0 78) < x5 then ck_ (0 ≤ x0) (ck_ (0 ≤ x0) (Mo_match_12 h x0 x1 x2 x6 (rd_ h x0 77) (rd_ h x0 78) (w32 (x6 + 1)))) else Mo_match_12 h x0 x1 x2 x3 x4 x5 (w32 (x6 + 1))) := (jj_of bk_291_16 _ _ h).trans ((ff_of bk_291_16 [(22, x0), (0, x1), (0, x2), (0, x3), (0, x4), (0, x5), (0, x6)] [] h).trans (by
  show (ck_ (0 ≤ x0) (if (rd_ h x0 78) < x5 then JJ 291 18 [(22, x0), (0, x1), (0, x2), (0, x3), (0, x4), (0, x5), (0, x6)] [] h else JJ 291 17 [(22, x0), (0, x1), (0, x2), (0, x3), (0, x4), (0, x5), (0, x6)] [] h)) = _
  simp only [jt_291_17, jt_291_18, ck_or1, ck_or2, rf_wr, ln_wr, nn_wr, rf_cp, ln_cp, nn_cp, ln_wf, nn_wf, rd_wf, nn_nw]
  try rfl))
theorem jt_291_15 (h : am_H) (x0 x1 x2 x3 x4 x5 x6 : Int) : JJ 291 15 [(22, x0), (0, x1), (0, x2), (0, x3), (0, x4), (0, x5), (0, x6)] [] h = ck_ (0 ≤ x0) (if (rd_ h x0 77) ≠ x4 then ck_ (0 ≤ x0) (ck_ (0 ≤ x0) (Mo_match_12 h x0 x1 x2 x6 (rd_ h x0 77) (rd_ h x0 78) (w32 (x6 + 1)))) else ck_ (0 ≤ x0) (if (rd_ h x0 78) < x5 then ck_ (0 ≤ x0) (ck_ (0 ≤ x0) (Mo_match_12 h x0 x1 x2 x6 (rd_ h x0 77) (rd_ h x0 78) (w32 (x6 + 1)))) else Mo_match_12 h x0 x1 x2 x3 x4 x5 (w32 (x6 + 1)))) := (jj_of bk_291_15 _ _ h).trans ((ff_of bk_291_15 [(22, x0), (0, x1), (0, x2), (0, x3), (0, x4), (0, x5), (0, x6)] [] h).trans (by
  show (ck_ (0 ≤ x0) (if (rd_ h x0 77) ≠ x4 then JJ 291 18 [(22, x0), (0, x1), (0, x2), (0, x3), (0, x4), (0, x5), (0, x6)] [] h else JJ 291 16 [(22, x0), (0, x1), (0, x2), (0, x3), (0, x4), (0, x5), (0, x6)] [] h)) = _
  simp only [jt_291_16, jt_291_18, ck_or1, ck_or2, rf_wr, ln_wr, nn_wr, rf_cp, ln_cp, nn_cp, ln_wf, nn_wf, rd_wf, nn_nw]
  try rfl))
theorem jt_291_14 (h : am_H) (x0 x1 x2 x3 x4 x5 x6 : Int) : JJ 291 14 [(22, x0), (0, x1), (0, x2), (0, x3), (0, x4), (0, x5), (0, x6)] [] h = ck_ (0 ≤ x0) (if (rd_ h x0 77) < x4 then Mo_match_12 h x0 x1 x2 x3 x4 x5 (w32 (x6 + 1)) else ck_ (0 ≤ x0) (if (rd_ h x0 77) ≠ x4 then ck_ (0 ≤ x0) (ck_ (0 ≤ x0) (Mo_match_12 h x0 x1 x2 x6 (rd_ h x0 77) (rd_ h x0 78) (w32 (x6 + 1)))) else ck_ (0 ≤ x0) (if (rd_ h x0 78) < x5 then ck_ (0 ≤ x0) (ck_ (0 ≤ x0) (Mo_match_12 h x0 x1 x2 x6 (rd_ h x0 77) (rd_ h x0 78) (w32 (x6 + 1)))) else Mo_match_12 h x0 x1 x2 x3 x4 x5 (w32 (x6 + 1))))) := (jj_of bk_291_14 _ _ h).trans ((ff_of bk_291_14 [(22, x0), (0, x1), (0, x2), (0, x3), (0, x4), (0, x5), (0, x6)] [] h).trans (by
  show (ck_ (0 ≤ x0) (if (rd_ h x0 77) < x4 then JJ 291 19 [(22, x0), (0, x1), (0, x2), (0, x3), (0, x4), (0, x5), (0, x6)] [] h else JJ 291 15 [(22, x0), (0, x1), (0, x2), (0, x3), (0, x4), (0, x5), (0, x6)] [] h)) = _
  simp only [jt_291_15, jt_291_19, ck_or1, ck_or2, rf_wr, ln_wr, nn_wr, rf_cp, ln_cp, nn_cp, ln_wf, nn_wf, rd_wf, nn_nw]
  try rfl))
set_option maxRecDepth 20000 in
theorem jt_291_13 (h : am_H) (x0 x1 x2 x3 x4 x5 x6 : Int) : JJ 291 13 [(22, x0), (0, x1), (0, x2), (0, x3), (0, x4), (0, x5), (0, x6)] [] h = ck_ (0 ≤ x0) (ck_ (0 ≤ x0) (bd_ (Mo_laysMatch h x0 x6 (rf_ h x0 79)) fun h1 v2 => if v2 = 0 then Mo_match_12 h1 x0 x1 x2 x3 x4 x5 (w32 (x6 + 1)) else ck_ (0 ≤ x0) (if (rd_ h1 x0 77) < x4 then Mo_match_12 h1 x0 x1 x2 x3 x4 x5 (w32 (x6 + 1)) else ck_ (0 ≤ x0) (if (rd_ h1 x0 77) ≠ x4 then ck_ (0 ≤ x0) (ck_ (0 ≤ x0) (Mo_match_12 h1 x0 x1 x2 x6 (rd_ h1 x0 77) (rd_ h1 x0 78) (w32 (x6 + 1)))) else ck_ (0 ≤ x0) (if (rd_ h1 x0 78) < x5 then ck_ (0 ≤ x0) (ck_ (0 ≤ x0) (Mo_match_12 h1 x0 x1 x2 x6 (rd_ h1 x0 77) (rd_ h1 x0 78) (w32 (x6 + 1)))) else Mo_match_12 h1 x0 x1 x2 x3 x4 x5 (w32 (x6 + 1))))))) := (jj_of bk_291_13 _ _ h).trans ((ff_of bk_291_13 [(22, x0), (0, x1), (0, x2), (0, x3), (0, x4), (0, x5), (0, x6)] [] h).trans (by
  show (ck_ (0 ≤ x0) (ck_ (0 ≤ x0) (bd_ (CC 290 [(22, x0), (0, x6), (30, rf_ h x0 79)] h) fun h1 v2 => if v2 = 0 then JJ 291 19 [(22, x0), (0, x1), (0, x2), (0, x3), (0, x4), (0, x5), (0, x6)] [] h1 else JJ 291 14 [(22, x0), (0, x1), (0, x2), (0, x3), (0, x4), (0, x5), (0, x6)] [] h1))) = _
  simp only [cc_290, jt_291_14, jt_291_19, ck_or1, ck_or2, rf_wr, ln_wr, nn_wr, rf_cp, ln_cp, nn_cp, ln_wf, nn_wf, rd_wf, nn_nw]
  try rfl))
set_option maxRecDepth 20000 in
theorem Mo_match_12_e (h : am_H) (x0 x1 x2 x3 x4 x5 x6 : Int) : Mo_match_12 h x0 x1 x2 x3 x4 x5 x6 = if x2 ≤ x6 then (if x1 ≤ 3 then ck_ (0 ≤ x0) (Mo_match_26 h x0 x1 x3 (w32 ((rd_ h x0 12) - 1))) else if x1 ≠ 4 then some (h, x5) else some (h, x4)) else ck_ (0 ≤ x0) (ck_ (0 ≤ x0) (bd_ (Mo_laysMatch h x0 x6 (rf_ h x0 79)) fun h1 v2 => if v2 = 0 then Mo_match_12 h1 x0 x1 x2 x3 x4 x5 (w32 (x6 + 1)) else ck_ (0 ≤ x0) (if (rd_ h1 x0 77) < x4 then Mo_match_12 h1 x0 x1 x2 x3 x4 x5 (w32 (x6 + 1)) else ck_ (0 ≤ x0) (if (rd_ h1 x0 77) ≠ x4 then ck_ (0 ≤ x0) (ck_ (0 ≤ x0) (Mo_match_12 h1 x0 x1 x2 x6 (rd_ h1 x0 77) (rd_ h1 x0 78) (w32 (x6 + 1)))) else ck_ (0 ≤ x0) (if (rd_ h1 x0 78) < x5 then ck_ (0 ≤ x0) (ck_ (0 ≤ x0) (Mo_match_12 h1 x0 x1 x2 x6 (rd_ h1 x0 77) (rd_ h1 x0 78) (w32 (x6 + 1)))) else Mo_match_12 h1 x0 x1 x2 x3 x4 x5 (w32 (x6 + 1))))))) := (ff_of bk_291_12 [(22, x0), (0, x1), (0, x2), (0, x3), (0, x4), (0, x5), (0, x6)] [] h).trans (by
  show (if x2 ≤ x6 then JJ 291 20 [(22, x0), (0, x1), (0, x2), (0, x3), (0, x4), (0, x5), (0, x6)] [] h else JJ 291 13 [(22, x0), (0, x1), (0, x2), (0, x3), (0, x4), (0, x5), (0, x6)] [] h) = _
  simp only [jt_291_13, jt_291_20, ck_or1, ck_or2, rf_wr, ln_wr, nn_wr, rf_cp, ln_cp, nn_cp, ln_wf, nn_wf, rd_wf, nn_nw]
  try rfl)
theorem jt_291_31 (h : am_H) (d0 d1 d2 d3 d4 d5 d6 : am_V) (s0 : Int) : JJ 291 31 [d0, d1, d2, d3, d4, d5, d6] [(0, s0)] h = some (h, s0) := (jj_of bk_291_31 _ _ h).trans (ff_of bk_291_31 [(9, 0), (9, 0), (9, 0), (9, 0), (9, 0), (9, 0), (9, 0)] [(0, s0)] h)
theorem jt_291_30 (h : am_H) (d0 d1 d2 d3 d4 d5 : am_V) (x6 : Int) : JJ 291 30 [d0, d1, d2, d3, d4, d5, (0, x6)] [] h = some (h, x6) := (jj_of bk_291_30 _ _ h).trans ((ff_of bk_291_30 [(9, 0), (9, 0), (9, 0), (9, 0), (9, 0), (9, 0), (0, x6)] [] h).trans (by
  show (JJ 291 31 [(9, 0), (9, 0), (9, 0), (9, 0), (9, 0), (9, 0), (0, x6)] [(0, x6)] h) = _
  simp only [jt_291_31, ck_or1, ck_or2, rf_wr, ln_wr, nn_wr, rf_cp, ln_cp, nn_cp, ln_wf, nn_wf, rd_wf, nn_nw]
  try rfl))
theorem jt_291_29 (h : am_H) (d0 d1 d2 d3 d4 d5 d6 : am_V) : JJ 291 29 [d0, d1, d2, d3, d4, d5, d6] [] h = some (h, (-2)) := (jj_of bk_291_29 _ _ h).trans ((ff_of bk_291_29 [(9, 0), (9, 0), (9, 0), (9, 0), (9, 0), (9, 0), (9, 0)] [] h).trans (by
  show (JJ 291 31 [(9, 0), (9, 0), (9, 0), (9, 0), (9, 0), (9, 0), (9, 0)] [(0, (-2))] h) = _
  simp only [jt_291_31, ck_or1, ck_or2, rf_wr, ln_wr, nn_wr, rf_cp, ln_cp, nn_cp, ln_wf, nn_wf, rd_wf, nn_nw]
  try rfl))
theorem jt_291_28 (h : am_H) (d1 d2 d4 d5 d6 : am_V) (x0 x3 : Int) : JJ 291 28 [(22, x0), d1, d2, (0, x3), d4, d5, d6] [] h = ck_ (0 ≤ x0) (ck_ ((w32 ((rd_ h x0 13) + 1)) ≠ 0) (ck_ (0 ≤ x0) (if (Int.tmod x3 (w32 ((rd_ h x0 13) + 1))) ≠ (rd_ h x0 13) then some (h, Int.tmod x3 (w32 ((rd_ h x0 13) + 1))) else some (h, (-2))))) := (jj_of bk_291_28 _ _ h).trans ((ff_of bk_291_28 [(22, x0), (9, 0), (9, 0), (0, x3), (9, 0), (9, 0), (9, 0)] [] h).trans (by
  show (ck_ (0 ≤ x0) (ck_ ((w32 ((rd_ h x0 13) + 1)) ≠ 0) (ck_ (0 ≤ x0) (if (Int.tmod x3 (w32 ((rd_ h x0 13) + 1))) ≠ (rd_ h x0 13) then JJ 291 30 [(22, x0), (9, 0), (9, 0), (0, x3), (9, 0), (9, 0), (0, Int.tmod x3 (w32 ((rd_ h x0 13) + 1)))] [] h else JJ 291 29 [(22, x0), (9, 0), (9, 0), (0, x3), (9, 0), (9, 0), (0, Int.tmod x3 (w32 ((rd_ h x0 13) + 1)))] [] h)))) = _
  simp only [jt_291_29, jt_291_30, ck_or1, ck_or2, rf_wr, ln_wr, nn_wr, rf_cp, ln_cp, nn_cp, ln_wf, nn_wf, rd_wf, nn_nw]
  try rfl))
theorem jt_291_27 (h : am_H) (d2 d4 d5 : am_V) (x0 x1 x3 x6 : Int) : JJ 291 27 [(22, x0), (0, x1), d2, (0, x3), d4, d5, (0, x6)] [] h = ck_ (0 ≤ x0) (ck_ ((w32 ((rd_ h x0 13) + 1)) ≠ 0) (Mo_match_26 h x0 x1 (w32 (Int.tdiv x3 (w32 ((rd_ h x0 13) + 1)))) (w32 (x6 + (-1))))) := (jj_of bk_291_27 _ _ h).trans ((ff_of bk_291_27 [(22, x0), (0, x1), (9, 0), (0, x3), (9, 0), (9, 0), (0, x6)] [] h).trans (by
  show (ck_ (0 ≤ x0) (ck_ ((w32 ((rd_ h x0 13) + 1)) ≠ 0) (JJ 291 26 [(22, x0), (0, x1), (9, 0), (0, w32 (Int.tdiv x3 (w32 ((rd_ h x0 13) + 1)))), (9, 0), (9, 0), (0, w32 (x6 + (-1)))] [] h))) = _
  simp only [jt_291_26, ck_or1, ck_or2, rf_wr, ln_wr, nn_wr, rf_cp, ln_cp, nn_cp, ln_wf, nn_wf, rd_wf, nn_nw]
  try rfl))
theorem Mo_match_26_e (h : am_H) (x0 x1 x3 x6 : Int) : Mo_match_26 h x0 x1 x3 x6 = if x6 ≤ x1 then ck_ (0 ≤ x0) (ck_ ((w32 ((rd_ h x0 13) + 1)) ≠ 0) (ck_ (0 ≤ x0) (if (Int.tmod x3 (w32 ((rd_ h x0 13) + 1))) ≠ (rd_ h x0 13) then some (h, Int.tmod x3 (w32 ((rd_ h x0 13) + 1))) else some (h, (-2))))) else ck_ (0 ≤ x0) (ck_ ((w32 ((rd_ h x0 13) + 1)) ≠ 0) (Mo_match_26 h x0 x1 (w32 (Int.tdiv x3 (w32 ((rd_ h x0 13) + 1)))) (w32 (x6 + (-1))))) := (ff_of bk_291_26 [(22, x0), (0, x1), (9, 0), (0, x3), (9, 0), (9, 0), (0, x6)] [] h).trans (by
  show (if x6 ≤ x1 then JJ 291 28 [(22, x0), (0, x1), (9, 0), (0, x3), (9, 0), (9, 0), (0, x6)] [] h else JJ 291 27 [(22, x0), (0, x1), (9, 0), (0, x3), (9, 0), (9, 0), (0, x6)] [] h) = _
  simp only [jt_291_27, jt_291_28, ck_or1, ck_or2, rf_wr, ln_wr, nn_wr, rf_cp, ln_cp, nn_cp, ln_wf, nn_wf, rd_wf, nn_nw]
  try rfl)
theorem cc_291 (h : am_H) (x0 x1 : Int) : CC 291 [(22, x0), (0, x1)] h = Mo_match h x0 x1 := cc_of pk_291 _ h
set_option maxRecDepth 20000 in
theorem pk_292 : am_prog 292 = some cd_292 := rfl
theorem bk_292_0 : bk_ am_prog 292 0 = some ([true, true, true, false, false, false, false, false, false, false, false, false, false], (bl_292_0, 9999)) := bk_of pk_292 rfl
theorem bk_292_1 : bk_ am_prog 292 1 = some ([true, true, true, false, false, false, false, false, false, false, false, false, false], (bl_292_1, 9999)) := bk_of pk_292 rfl
theorem bk_292_2 : bk_ am_prog 292 2 = some ([false, false, false, false, false, false, false, false, false, false, false, false, false], (bl_292_2, 9999)) := bk_of pk_292 rfl
theorem bk_292_3 : bk_ am_prog 292 3 = some ([true, true, true, false, false, false, false, false, false, false, false, false, false], (bl_292_3, 4)) := bk_of pk_292 rfl
theorem bk_292_4 : bk_ am_prog 292 4 = some ([true, true, true, true, false, true, false, true, false, false, false, false, false], (bl_292_4, 9999)) := bk_of pk_292 rfl
theorem bk_292_5 : bk_ am_prog 292 5 = some ([true, true, true, true, false, true, false, true, false, false, false, false, false], (bl_292_5, 9999)) := bk_of pk_292 rfl
theorem bk_292_6 : bk_ am_prog 292 6 = some ([false, false, true, true, false, true, false, false, false, false, false, false, false], (bl_292_6, 7)) := bk_of pk_292 rfl
theorem bk_292_7 : bk_ am_prog 292 7 = some ([false, false, true, true, false, true, false, true, false, true, false, false, false], (bl_292_7, 9999)) := bk_of pk_292 rfl
theorem bk_292_8 : bk_ am_prog 292 8 = some ([false, false, true, true, false, true, false, true, false, true, false, false, false], (bl_292_8, 9999)) := bk_of pk_292 rfl
theorem bk_292_9 : bk_ am_prog 292 9 = some ([false, false, true, true, false, true, false, true, false, false, false, false, false], (bl_292_9, 9999)) := bk_of pk_292 rfl
theorem bk_292_10 : bk_ am_prog 292 10 = some ([false, false, false, true, false, false, false, true, false, false, false, false, false], (bl_292_10, 9999)) := bk_of pk_292 rfl
theorem bk_292_11 : bk_ am_prog 292 11 = some ([false, false, false, false, false, true, false, true, false, false, false, false, false], (bl_292_11, 12)) := bk_of pk_292 rfl
theorem bk_292_12 : bk_ am_prog 292 12 = some ([false, false, false, false, false, false, false, false, false, false, false, false, false], (bl_292_12, 9999)) := bk_of pk_292 rfl
theorem jt_292_4 (h : am_H) (d4 d6 d8 d9 d10 d11 d12 : am_V) (x0 x1 x2 x3 x5 x7 : Int) : JJ 292 4 [(22, x0), (0, x1), (0, x2), (1, x3), d4, (1, x5), d6, (0, x7), d8, d9, d10, d11, d12] [] h = Mo_holds_4 h x0 x1 x2 x3 x5 x7 := jj_of bk_292_4 _ _ h
theorem jt_292_7 (h : am_H) (d0 d1 d4 d6 d8 d10 d11 d12 : am_V) (x2 x3 x5 x7 x9 : Int) : JJ 292 7 [d0, d1, (0, x2), (1, x3), d4, (1, x5), d6, (1, x7), d8, (1, x9), d10, d11, d12] [] h = Mo_holds_7 h x2 x3 x5 x7 x9 := jj_of bk_292_7 _ _ h
theorem jt_292_2 (h : am_H) (d0 d1 d2 d3 d4 d5 d6 d7 d8 d9 d10 d11 d12 : am_V) : JJ 292 2 [d0, d1, d2, d3, d4, d5, d6, d7, d8, d9, d10, d11, d12] [] h = some (h, (-1)) := (jj_of bk_292_2 _ _ h).trans (ff_of bk_292_2 [(9, 0), (9, 0), (9, 0), (9, 0), (9, 0), (9, 0), (9, 0), (9, 0), (9, 0), (9, 0), (9, 0), (9, 0), (9, 0)] [] h)
theorem jt_292_3 (h : am_H) (d3 d4 d5 d6 d7 d8 d9 d10 d11 d12 : am_V) (x0 x1 x2 : Int) : JJ 292 3 [(22, x0), (0, x1), (0, x2), d3, d4, d5, d6, d7, d8, d9, d10, d11, d12] [] h = Mo_holds_4 h x0 x1 x2 1 1 0 := (jj_of bk_292_3 _ _ h).trans ((ff_of bk_292_3 [(22, x0), (0, x1), (0, x2), (9, 0), (9, 0), (9, 0), (9, 0), (9, 0), (9, 0), (9, 0), (9, 0), (9, 0), (9, 0)] [] h).trans (by
  show (JJ 292 4 [(22, x0), (0, x1), (0, x2), (1, 1), (9, 0), (1, 1), (9, 0), (0, 0), (9, 0), (9, 0), (9, 0), (9, 0), (9, 0)] [] h) = _
  simp only [jt_292_4, ck_or1, ck_or2, rf_wr, ln_wr, nn_wr, rf_cp, ln_cp, nn_cp, ln_wf, nn_wf, rd_wf, nn_nw]
  try rfl))
theorem jt_292_1 (h : am_H) (d3 d4 d5 d6 d7 d8 d9 d10 d11 d12 : am_V) (x0 x1 x2 : Int) : JJ 292 1 [(22, x0), (0, x1), (0, x2), d3, d4, d5, d6, d7, d8, d9, d10, d11, d12] [] h = bd_ (Mo_isIn h x2 0 1) fun h1 v2 => if v2 ≠ 0 then Mo_holds_4 h1 x0 x1 x2 1 1 0 else some (h1, (-1)) := (jj_of bk_292_1 _ _ h).trans ((ff_of bk_292_1 [(22, x0), (0, x1), (0, x2), (9, 0), (9, 0), (9, 0), (9, 0), (9, 0), (9, 0), (9, 0), (9, 0), (9, 0), (9, 0)] [] h).trans (by
  show (bd_ (CC 196 [(0, x2), (0, 0), (0, 1)] h) fun h1 v2 => if v2 ≠ 0 then JJ 292 3 [(22, x0), (0, x1), (0, x2), (9, 0), (9, 0), (9, 0), (9, 0), (9, 0), (9, 0), (9, 0), (9, 0), (9, 0), (9, 0)] [] h1 else JJ 292 2 [(22, x0), (0, x1), (0, x2), (9, 0), (9, 0), (9, 0), (9, 0), (9, 0), (9, 0), (9, 0), (9, 0), (9, 0), (9, 0)] [] h1) = _
  simp only [cc_196, jt_292_2, jt_292_3, ck_or1, ck_or2, rf_wr, ln_wr, nn_wr, rf_cp, ln_cp, nn_cp, ln_wf, nn_wf, rd_wf, nn_nw]
  try rfl))
theorem Mo_holds_e (h : am_H) (x0 x1 x2 : Int) : Mo_holds h x0 x1 x2 = ck_ (0 ≤ x0) (bd_ (Mo_isIn (wr_ h x0 2 0) x1 0 6) fun h1 v2 => if v2 = 0 then some (h1, (-1)) else bd_ (Mo_isIn h1 x2 0 1) fun h3 v4 => if v4 ≠ 0 then Mo_holds_4 h3 x0 x1 x2 1 1 0 else some (h3, (-1))) := (ff_of bk_292_0 [(22, x0), (0, x1), (0, x2), (9, 0), (9, 0), (9, 0), (9, 0), (9, 0), (9, 0), (9, 0), (9, 0), (9, 0), (9, 0)] [] h).trans (by
  show (ck_ (0 ≤ x0) (bd_ (CC 196 [(0, x1), (0, 0), (0, 6)] (wr_ h x0 2 0)) fun h1 v2 => if v2 = 0 then JJ 292 2 [(22, x0), (0, x1), (0, x2), (9, 0), (9, 0), (9, 0), (9, 0), (9, 0), (9, 0), (9, 0), (9, 0), (9, 0), (9, 0)] [] h1 else JJ 292 1 [(22, x0), (0, x1), (0, x2), (9, 0), (9, 0), (9, 0), (9, 0), (9, 0), (9, 0), (9, 0), (9, 0), (9, 0), (9, 0)] [] h1)) = _
  simp only [cc_196, jt_292_1, jt_292_2, ck_or1, ck_or2, rf_wr, ln_wr, nn_wr, rf_cp, ln_cp, nn_cp, ln_wf, nn_wf, rd_wf, nn_nw]
  try rfl)
theorem jt_292_6 (h : am_H) (d0 d1 d4 d6 d7 d8 d9 d10 d11 d12 : am_V) (x2 x3 x5 : Int) : JJ 292 6 [d0, d1, (0, x2), (1, x3), d4, (1, x5), d6, d7, d8, d9, d10, d11, d12] [] h = Mo_holds_7 h x2 x3 x5 x5 x3 := (jj_of bk_292_6 _ _ h).trans ((ff_of bk_292_6 [(9, 0), (9, 0), (0, x2), (1, x3), (9, 0), (1, x5), (9, 0), (9, 0), (9, 0), (9, 0), (9, 0), (9, 0), (9, 0)] [] h).trans (by
  show (JJ 292 7 [(9, 0), (9, 0), (0, x2), (1, x3), (9, 0), (1, x5), (9, 0), (1, x5), (9, 0), (1, x3), (9, 0), (9, 0), (9, 0)] [] h) = _
  simp only [jt_292_7, ck_or1, ck_or2, rf_wr, ln_wr, nn_wr, rf_cp, ln_cp, nn_cp, ln_wf, nn_wf, rd_wf, nn_nw]
  try rfl))
set_option maxRecDepth 20000 in
theorem ax_292_5a (K : am_K) (h : am_H) (x0 x1 x2 x3 x5 x7 : Int) : i_load 3 1 CC (JJ 292) (i_push 0 100 CC (JJ 292) (i_load 0 22 CC (JJ 292) (i_getr 22 23 30 CC (JJ 292) (i_push 0 0 CC (JJ 292) (i_ald 30 0 CC (JJ 292) (i_op2 0 (fun a b => w32 (a - b)) CC (JJ 292) (i_op1 0 1 (fun a => a) CC (JJ 292) (i_op2 1 (fun a b => w64 (a * b)) CC (JJ 292) (i_store 3 1 CC (JJ 292) K))))))))) [(22, x0), (0, x1), (0, x2), (1, x3), (9, 0), (1, x5), (9, 0), (0, x7), (9, 0), (9, 0), (9, 0), (9, 0), (9, 0)] [] h = ck_ (0 ≤ x0) (ck_ (0 ≤ (rf_ h x0 23)) (ck_ (0 ≤ (0 : Int) ∧ (0 : Int) < ln_ h (rf_ h x0 23)) (K [(22, x0), (0, x1), (0, x2), (1, w64 (x3 * (w32 (100 - (rd_ h (rf_ h x0 23) 0))))), (9, 0), (1, x5), (9, 0), (0, x7), (9, 0), (9, 0), (9, 0), (9, 0), (9, 0)] [] h))) := rfl
theorem ax_292_5b (K : am_K) (h : am_H) (x0 x1 x2 x3 x5 x7 : Int) : i_load 5 1 CC (JJ 292) (i_push 1 100 CC (JJ 292) (i_op2 1 (fun a b => w64 (a * b)) CC (JJ 292) (i_store 5 1 CC (JJ 292) K))) [(22, x0), (0, x1), (0, x2), (1, x3), (9, 0), (1, x5), (9, 0), (0, x7), (9, 0), (9, 0), (9, 0), (9, 0), (9, 0)] [] h = K [(22, x0), (0, x1), (0, x2), (1, x3), (9, 0), (1, w64 (x5 * 100)), (9, 0), (0, x7), (9, 0), (9, 0), (9, 0), (9, 0), (9, 0)] [] h := rfl
theorem ax_292_5c (K : am_K) (h : am_H) (x0 x1 x2 x3 x5 x7 : Int) : i_inc 7 1 CC (JJ 292) K [(22, x0), (0, x1), (0, x2), (1, x3), (9, 0), (1, x5), (9, 0), (0, x7), (9, 0), (9, 0), (9, 0), (9, 0), (9, 0)] [] h = K [(22, x0), (0, x1), (0, x2), (1, x3), (9, 0), (1, x5), (9, 0), (0, w32 (x7 + 1)), (9, 0), (9, 0), (9, 0), (9, 0), (9, 0)] [] h := rfl
theorem jt_292_5 (h : am_H) (d4 d6 d8 d9 d10 d11 d12 : am_V) (x0 x1 x2 x3 x5 x7 : Int) : JJ 292 5 [(22, x0), (0, x1), (0, x2), (1, x3), d4, (1, x5), d6, (0, x7), d8, d9, d10, d11, d12] [] h = ck_ (0 ≤ x0) (ck_ (0 ≤ (rf_ h x0 23)) (ck_ (0 ≤ (0 : Int) ∧ (0 : Int) < ln_ h (rf_ h x0 23)) (Mo_holds_4 h x0 x1 x2 (w64 (x3 * (w32 (100 - (rd_ h (rf_ h x0 23) 0))))) (w64 (x5 * 100)) (w32 (x7 + 1))))) := (jj_of bk_292_5 _ _ h).trans ((ff_of bk_292_5 [(22, x0), (0, x1), (0, x2), (1, x3), (9, 0), (1, x5), (9, 0), (0, x7), (9, 0), (9, 0), (9, 0), (9, 0), (9, 0)] [] h).trans (by
  simp only [bl_292_5, ex_]
  rw [ax_292_5a, ax_292_5b, ax_292_5c]
  simp only [i_goto, jt_292_4]))
theorem Mo_holds_4_e (h : am_H) (x0 x1 x2 x3 x5 x7 : Int) : Mo_holds_4 h x0 x1 x2 x3 x5 x7 = if x1 ≤ x7 then Mo_holds_7 h x2 x3 x5 x5 x3 else ck_ (0 ≤ x0) (ck_ (0 ≤ (rf_ h x0 23)) (ck_ (0 ≤ (0 : Int) ∧ (0 : Int) < ln_ h (rf_ h x0 23)) (Mo_holds_4 h x0 x1 x2 (w64 (x3 * (w32 (100 - (rd_ h (rf_ h x0 23) 0))))) (w64 (x5 * 100)) (w32 (x7 + 1))))) := (ff_of bk_292_4 [(22, x0), (0, x1), (0, x2), (1, x3), (9, 0), (1, x5), (9, 0), (0, x7), (9, 0), (9, 0), (9, 0), (9, 0), (9, 0)] [] h).trans (by
  show (if x1 ≤ x7 then JJ 292 6 [(22, x0), (0, x1), (0, x2), (1, x3), (9, 0), (1, x5), (9, 0), (0, x7), (9, 0), (9, 0), (9, 0), (9, 0), (9, 0)] [] h else JJ 292 5 [(22, x0), (0, x1), (0, x2), (1, x3), (9, 0), (1, x5), (9, 0), (0, x7), (9, 0), (9, 0), (9, 0), (9, 0), (9, 0)] [] h) = _
  simp only [jt_292_5, jt_292_6, ck_or1, ck_or2, rf_wr, ln_wr, nn_wr, rf_cp, ln_cp, nn_cp, ln_wf, nn_wf, rd_wf, nn_nw]
  try rfl)
theorem jt_292_12 (h : am_H) (d0 d1 d2 d3 d4 d5 d6 d7 d8 d9 d10 d11 d12 : am_V) (s0 : Int) : JJ 292 12 [d0, d1, d2, d3, d4, d5, d6, d7, d8, d9, d10, d11, d12] [(1, s0)] h = some (h, s0) := (jj_of bk_292_12 _ _ h).trans (ff_of bk_292_12 [(9, 0), (9, 0), (9, 0), (9, 0), (9, 0), (9, 0), (9, 0), (9, 0), (9, 0), (9, 0), (9, 0), (9, 0), (9, 0)] [(1, s0)] h)
theorem jt_292_11 (h : am_H) (d0 d1 d2 d3 d4 d6 d8 d9 d10 d11 d12 : am_V) (x5 x7 : Int) : JJ 292 11 [d0, d1, d2, d3, d4, (1, x5), d6, (1, x7), d8, d9, d10, d11, d12] [] h = ck_ (x7 ≠ 0) (some (h, w64 (Int.tdiv x5 x7))) := (jj_of bk_292_11 _ _ h).trans ((ff_of bk_292_11 [(9, 0), (9, 0), (9, 0), (9, 0), (9, 0), (1, x5), (9, 0), (1, x7), (9, 0), (9, 0), (9, 0), (9, 0), (9, 0)] [] h).trans (by
  show (ck_ (x7 ≠ 0) (JJ 292 12 [(9, 0), (9, 0), (9, 0), (9, 0), (9, 0), (1, x5), (9, 0), (1, x7), (9, 0), (9, 0), (9, 0), (9, 0), (9, 0)] [(1, w64 (Int.tdiv x5 x7))] h)) = _
  simp only [jt_292_12, ck_or1, ck_or2, rf_wr, ln_wr, nn_wr, rf_cp, ln_cp, nn_cp, ln_wf, nn_wf, rd_wf, nn_nw]
  try rfl))
theorem jt_292_10 (h : am_H) (d0 d1 d2 d4 d5 d6 d8 d9 d10 d11 d12 : am_V) (x3 x7 : Int) : JJ 292 10 [d0, d1, d2, (1, x3), d4, d5, d6, (1, x7), d8, d9, d10, d11, d12] [] h = ck_ (x7 ≠ 0) (some (h, w64 (Int.tdiv x3 x7))) := (jj_of bk_292_10 _ _ h).trans ((ff_of bk_292_10 [(9, 0), (9, 0), (9, 0), (1, x3), (9, 0), (9, 0), (9, 0), (1, x7), (9, 0), (9, 0), (9, 0), (9, 0), (9, 0)] [] h).trans (by
  show (ck_ (x7 ≠ 0) (JJ 292 12 [(9, 0), (9, 0), (9, 0), (1, x3), (9, 0), (9, 0), (9, 0), (1, x7), (9, 0), (9, 0), (9, 0), (9, 0), (9, 0)] [(1, w64 (Int.tdiv x3 x7))] h)) = _
  simp only [jt_292_12, ck_or1, ck_or2, rf_wr, ln_wr, nn_wr, rf_cp, ln_cp, nn_cp, ln_wf, nn_wf, rd_wf, nn_nw]
  try rfl))
theorem jt_292_9 (h : am_H) (d0 d1 d4 d6 d8 d9 d10 d11 d12 : am_V) (x2 x3 x5 x7 : Int) : JJ 292 9 [d0, d1, (0, x2), (1, x3), d4, (1, x5), d6, (1, x7), d8, d9, d10, d11, d12] [] h = if x2 ≠ 0 then ck_ (x7 ≠ 0) (some (h, w64 (Int.tdiv x5 x7))) else ck_ (x7 ≠ 0) (some (h, w64 (Int.tdiv x3 x7))) := (jj_of bk_292_9 _ _ h).trans ((ff_of bk_292_9 [(9, 0), (9, 0), (0, x2), (1, x3), (9, 0), (1, x5), (9, 0), (1, x7), (9, 0), (9, 0), (9, 0), (9, 0), (9, 0)] [] h).trans (by
  show (if x2 ≠ 0 then JJ 292 11 [(9, 0), (9, 0), (0, x2), (1, x3), (9, 0), (1, x5), (9, 0), (1, x7), (9, 0), (9, 0), (9, 0), (9, 0), (9, 0)] [] h else JJ 292 10 [(9, 0), (9, 0), (0, x2), (1, x3), (9, 0), (1, x5), (9, 0), (1, x7), (9, 0), (9, 0), (9, 0), (9, 0), (9, 0)] [] h) = _
  simp only [jt_292_10, jt_292_11, ck_or1, ck_or2, rf_wr, ln_wr, nn_wr, rf_cp, ln_cp, nn_cp, ln_wf, nn_wf, rd_wf, nn_nw]
  try rfl))
theorem ax_292_8a (K : am_K) (h : am_H) (x2 x3 x5 x7 x9 : Int) : i_load 7 1 CC (JJ 292) (i_load 9 1 CC (JJ 292) (i_dv2 1 (fun a b => Int.tmod a b) CC (JJ 292) (i_store 11 1 CC (JJ 292) K))) [(9, 0), (9, 0), (0, x2), (1, x3), (9, 0), (1, x5), (9, 0), (1, x7), (9, 0), (1, x9), (9, 0), (9, 0), (9, 0)] [] h = ck_ (x9 ≠ 0) (K [(9, 0), (9, 0), (0, x2), (1, x3), (9, 0), (1, x5), (9, 0), (1, x7), (9, 0), (1, x9), (9, 0), (1, Int.tmod x7 x9), (9, 0)] [] h) := rfl
theorem ax_292_8b (K : am_K) (h : am_H) (x2 x3 x5 x7 x9 c : Int) : i_load 9 1 CC (JJ 292) (i_store 7 1 CC (JJ 292) K) [(9, 0), (9, 0), (0, x2), (1, x3), (9, 0), (1, x5), (9, 0), (1, x7), (9, 0), (1, x9), (9, 0), (1, c), (9, 0)] [] h = K [(9, 0), (9, 0), (0, x2), (1, x3), (9, 0), (1, x5), (9, 0), (1, x9), (9, 0), (1, x9), (9, 0), (1, c), (9, 0)] [] h := rfl
theorem ax_292_8c (K : am_K) (h : am_H) (x2 x3 x5 x7 x9 c : Int) : i_load 11 1 CC (JJ 292) (i_store 9 1 CC (JJ 292) K) [(9, 0), (9, 0), (0, x2), (1, x3), (9, 0), (1, x5), (9, 0), (1, x7), (9, 0), (1, x9), (9, 0), (1, c), (9, 0)] [] h = K [(9, 0), (9, 0), (0, x2), (1, x3), (9, 0), (1, x5), (9, 0), (1, x7), (9, 0), (1, c), (9, 0), (1, c), (9, 0)] [] h := rfl
theorem jt_292_8 (h : am_H) (d0 d1 d4 d6 d8 d10 d11 d12 : am_V) (x2 x3 x5 x7 x9 : Int) : JJ 292 8 [d0, d1, (0, x2), (1, x3), d4, (1, x5), d6, (1, x7), d8, (1, x9), d10, d11, d12] [] h = ck_ (x9 ≠ 0) (Mo_holds_7 h x2 x3 x5 x9 (Int.tmod x7 x9)) := (jj_of bk_292_8 _ _ h).trans ((ff_of bk_292_8 [(9, 0), (9, 0), (0, x2), (1, x3), (9, 0), (1, x5), (9, 0), (1, x7), (9, 0), (1, x9), (9, 0), (9, 0), (9, 0)] [] h).trans (by
  simp only [bl_292_8, ex_]
  rw [ax_292_8a, ax_292_8b, ax_292_8c]
  simp only [i_goto, jt_292_7]))
theorem Mo_holds_7_e (h : am_H) (x2 x3 x5 x7 x9 : Int) : Mo_holds_7 h x2 x3 x5 x7 x9 = if (lcm_ x9 0) = 0 then (if x2 ≠ 0 then ck_ (x7 ≠ 0) (some (h, w64 (Int.tdiv x5 x7))) else ck_ (x7 ≠ 0) (some (h, w64 (Int.tdiv x3 x7)))) else ck_ (x9 ≠ 0) (Mo_holds_7 h x2 x3 x5 x9 (Int.tmod x7 x9)) := (ff_of bk_292_7 [(9, 0), (9, 0), (0, x2), (1, x3), (9, 0), (1, x5), (9, 0), (1, x7), (9, 0), (1, x9), (9, 0), (9, 0), (9, 0)] [] h).trans (by
  show (if (lcm_ x9 0) = 0 then JJ 292 9 [(9, 0), (9, 0), (0, x2), (1, x3), (9, 0), (1, x5), (9, 0), (1, x7), (9, 0), (1, x9), (9, 0), (9, 0), (9, 0)] [] h else JJ 292 8 [(9, 0), (9, 0), (0, x2), (1, x3), (9, 0), (1, x5), (9, 0), (1, x7), (9, 0), (1, x9), (9, 0), (9, 0), (9, 0)] [] h) = _
  simp only [jt_292_8, jt_292_9, ck_or1, ck_or2, rf_wr, ln_wr, nn_wr, rf_cp, ln_cp, nn_cp, ln_wf, nn_wf, rd_wf, nn_nw]
  try rfl)
theorem cc_292 (h : am_H) (x0 x1 x2 : Int) : CC 292 [(22, x0), (0, x1), (0, x2)] h = Mo_holds h x0 x1 x2 := cc_of pk_292 _ h
set_option maxRecDepth 20000 in
theorem pk_293 : am_prog 293 = some cd_293 := rfl
theorem bk_293_0 : bk_ am_prog 293 0 = some ([true, true, true, true, true], (bl_293_0, 1)) := bk_of pk_293 rfl
theorem bk_293_1 : bk_ am_prog 293 1 = some ([false, false, false, false, false], (bl_293_1, 9999)) := bk_of pk_293 rfl
theorem jt_293_1 (h : am_H) (d0 d1 d2 d3 d4 : am_V) (s0 : Int) : JJ 293 1 [d0, d1, d2, d3, d4] [(0, s0)] h = some (h, s0) := (jj_of bk_293_1 _ _ h).trans (ff_of bk_293_1 [(9, 0), (9, 0), (9, 0), (9, 0), (9, 0)] [(0, s0)] h)
set_option maxRecDepth 20000 in
theorem Mo_noted_e (h : am_H) (x0 x1 x2 x3 x4 : Int) : Mo_noted h x0 x1 x2 x3 x4 = ck_ (0 ≤ x0) (ck_ (0 ≤ x0) (ck_ (0 ≤ (rf_ h x0 82)) (ck_ (0 ≤ (w32 (4 * (rd_ h x0 80))) ∧ (w32 (4 * (rd_ h x0 80))) < ln_ h (rf_ h x0 82)) (ck_ (0 ≤ x0) (ck_ (0 ≤ x0) (ck_ (0 ≤ (rf_ h x0 82)) (ck_ (0 ≤ (w32 ((w32 (4 * (rd_ (wr_ h (rf_ h x0 82) (w32 (4 * (rd_ h x0 80))) x1) x0 80))) + 1)) ∧ (w32 ((w32 (4 * (rd_ (wr_ h (rf_ h x0 82) (w32 (4 * (rd_ h x0 80))) x1) x0 80))) + 1)) < ln_ h (rf_ h x0 82)) (ck_ (0 ≤ x0) (ck_ (0 ≤ x0) (ck_ (0 ≤ (rf_ h x0 82)) (ck_ (0 ≤ (w32 ((w32 (4 * (rd_ (wr_ (wr_ h (rf_ h x0 82) (w32 (4 * (rd_ h x0 80))) x1) (rf_ h x0 82) (w32 ((w32 (4 * (rd_ (wr_ h (rf_ h x0 82) (w32 (4 * (rd_ h x0 80))) x1) x0 80))) + 1)) x2) x0 80))) + 2)) ∧ (w32 ((w32 (4 * (rd_ (wr_ (wr_ h (rf_ h x0 82) (w32 (4 * (rd_ h x0 80))) x1) (rf_ h x0 82) (w32 ((w32 (4 * (rd_ (wr_ h (rf_ h x0 82) (w32 (4 * (rd_ h x0 80))) x1) x0 80))) + 1)) x2) x0 80))) + 2)) < ln_ h (rf_ h x0 82)) (ck_ (0 ≤ x0) (ck_ (0 ≤ x0) (ck_ (0 ≤ (rf_ h x0 82)) (ck_ (0 ≤ (w32 ((w32 (4 * (rd_ (wr_ (wr_ (wr_ h (rf_ h x0 82) (w32 (4 * (rd_ h x0 80))) x1) (rf_ h x0 82) (w32 ((w32 (4 * (rd_ (wr_ h (rf_ h x0 82) (w32 (4 * (rd_ h x0 80))) x1) x0 80))) + 1)) x2) (rf_ h x0 82) (w32 ((w32 (4 * (rd_ (wr_ (wr_ h (rf_ h x0 82) (w32 (4 * (rd_ h x0 80))) x1) (rf_ h x0 82) (w32 ((w32 (4 * (rd_ (wr_ h (rf_ h x0 82) (w32 (4 * (rd_ h x0 80))) x1) x0 80))) + 1)) x2) x0 80))) + 2)) x3) x0 80))) + 3)) ∧ (w32 ((w32 (4 * (rd_ (wr_ (wr_ (wr_ h (rf_ h x0 82) (w32 (4 * (rd_ h x0 80))) x1) (rf_ h x0 82) (w32 ((w32 (4 * (rd_ (wr_ h (rf_ h x0 82) (w32 (4 * (rd_ h x0 80))) x1) x0 80))) + 1)) x2) (rf_ h x0 82) (w32 ((w32 (4 * (rd_ (wr_ (wr_ h (rf_ h x0 82) (w32 (4 * (rd_ h x0 80))) x1) (rf_ h x0 82) (w32 ((w32 (4 * (rd_ (wr_ h (rf_ h x0 82) (w32 (4 * (rd_ h x0 80))) x1) x0 80))) + 1)) x2) x0 80))) + 2)) x3) x0 80))) + 3)) < ln_ h (rf_ h x0 82)) (ck_ (0 ≤ x0) (ck_ (0 ≤ x0) (ck_ (0 ≤ x0) (some (wr_ (wr_ (wr_ (wr_ (wr_ h (rf_ h x0 82) (w32 (4 * (rd_ h x0 80))) x1) (rf_ h x0 82) (w32 ((w32 (4 * (rd_ (wr_ h (rf_ h x0 82) (w32 (4 * (rd_ h x0 80))) x1) x0 80))) + 1)) x2) (rf_ h x0 82) (w32 ((w32 (4 * (rd_ (wr_ (wr_ h (rf_ h x0 82) (w32 (4 * (rd_ h x0 80))) x1) (rf_ h x0 82) (w32 ((w32 (4 * (rd_ (wr_ h (rf_ h x0 82) (w32 (4 * (rd_ h x0 80))) x1) x0 80))) + 1)) x2) x0 80))) + 2)) x3) (rf_ h x0 82) (w32 ((w32 (4 * (rd_ (wr_ (wr_ (wr_ h (rf_ h x0 82) (w32 (4 * (rd_ h x0 80))) x1) (rf_ h x0 82) (w32 ((w32 (4 * (rd_ (wr_ h (rf_ h x0 82) (w32 (4 * (rd_ h x0 80))) x1) x0 80))) + 1)) x2) (rf_ h x0 82) (w32 ((w32 (4 * (rd_ (wr_ (wr_ h (rf_ h x0 82) (w32 (4 * (rd_ h x0 80))) x1) (rf_ h x0 82) (w32 ((w32 (4 * (rd_ (wr_ h (rf_ h x0 82) (w32 (4 * (rd_ h x0 80))) x1) x0 80))) + 1)) x2) x0 80))) + 2)) x3) x0 80))) + 3)) x4) x0 80 (w32 ((rd_ (wr_ (wr_ (wr_ (wr_ h (rf_ h x0 82) (w32 (4 * (rd_ h x0 80))) x1) (rf_ h x0 82) (w32 ((w32 (4 * (rd_ (wr_ h (rf_ h x0 82) (w32 (4 * (rd_ h x0 80))) x1) x0 80))) + 1)) x2) (rf_ h x0 82) (w32 ((w32 (4 * (rd_ (wr_ (wr_ h (rf_ h x0 82) (w32 (4 * (rd_ h x0 80))) x1) (rf_ h x0 82) (w32 ((w32 (4 * (rd_ (wr_ h (rf_ h x0 82) (w32 (4 * (rd_ h x0 80))) x1) x0 80))) + 1)) x2) x0 80))) + 2)) x3) (rf_ h x0 82) (w32 ((w32 (4 * (rd_ (wr_ (wr_ (wr_ h (rf_ h x0 82) (w32 (4 * (rd_ h x0 80))) x1) (rf_ h x0 82) (w32 ((w32 (4 * (rd_ (wr_ h (rf_ h x0 82) (w32 (4 * (rd_ h x0 80))) x1) x0 80))) + 1)) x2) (rf_ h x0 82) (w32 ((w32 (4 * (rd_ (wr_ (wr_ h (rf_ h x0 82) (w32 (4 * (rd_ h x0 80))) x1) (rf_ h x0 82) (w32 ((w32 (4 * (rd_ (wr_ h (rf_ h x0 82) (w32 (4 * (rd_ h x0 80))) x1) x0 80))) + 1)) x2) x0 80))) + 2)) x3) x0 80))) + 3)) x4) x0 80) + 1)), w32 ((rd_ (wr_ (wr_ (wr_ (wr_ (wr_ h (rf_ h x0 82) (w32 (4 * (rd_ h x0 80))) x1) (rf_ h x0 82) (w32 ((w32 (4 * (rd_ (wr_ h (rf_ h x0 82) (w32 (4 * (rd_ h x0 80))) x1) x0 80))) + 1)) x2) (rf_ h x0 82) (w32 ((w32 (4 * (rd_ (wr_ (wr_ h (rf_ h x0 82) (w32 (4 * (rd_ h x0 80))) x1) (rf_ h x0 82) (w32 ((w32 (4 * (rd_ (wr_ h (rf_ h x0 82) (w32 (4 * (rd_ h x0 80))) x1) x0 80))) + 1)) x2) x0 80))) + 2)) x3) (rf_ h x0 82) (w32 ((w32 (4 * (rd_ (wr_ (wr_ (wr_ h (rf_ h x0 82) (w32 (4 * (rd_ h x0 80))) x1) (rf_ h x0 82) (w32 ((w32 (4 * (rd_ (wr_ h (rf_ h x0 82) (w32 (4 * (rd_ h x0 80))) x1) x0 80))) + 1)) x2) (rf_ h x0 82) (w32 ((w32 (4 * (rd_ (wr_ (wr_ h (rf_ h x0 82) (w32 (4 * (rd_ h x0 80))) x1) (rf_ h x0 82) (w32 ((w32 (4 * (rd_ (wr_ h (rf_ h x0 82) (w32 (4 * (rd_ h x0 80))) x1) x0 80))) + 1)) x2) x0 80))) + 2)) x3) x0 80))) + 3)) x4) x0 80 (w32 ((rd_ (wr_ (wr_ (wr_ (wr_ h (rf_ h x0 82) (w32 (4 * (rd_ h x0 80))) x1) (rf_ h x0 82) (w32 ((w32 (4 * (rd_ (wr_ h (rf_ h x0 82) (w32 (4 * (rd_ h x0 80))) x1) x0 80))) + 1)) x2) (rf_ h x0 82) (w32 ((w32 (4 * (rd_ (wr_ (wr_ h (rf_ h x0 82) (w32 (4 * (rd_ h x0 80))) x1) (rf_ h x0 82) (w32 ((w32 (4 * (rd_ (wr_ h (rf_ h x0 82) (w32 (4 * (rd_ h x0 80))) x1) x0 80))) + 1)) x2) x0 80))) + 2)) x3) (rf_ h x0 82) (w32 ((w32 (4 * (rd_ (wr_ (wr_ (wr_ h (rf_ h x0 82) (w32 (4 * (rd_ h x0 80))) x1) (rf_ h x0 82) (w32 ((w32 (4 * (rd_ (wr_ h (rf_ h x0 82) (w32 (4 * (rd_ h x0 80))) x1) x0 80))) + 1)) x2) (rf_ h x0 82) (w32 ((w32 (4 * (rd_ (wr_ (wr_ h (rf_ h x0 82) (w32 (4 * (rd_ h x0 80))) x1) (rf_ h x0 82) (w32 ((w32 (4 * (rd_ (wr_ h (rf_ h x0 82) (w32 (4 * (rd_ h x0 80))) x1) x0 80))) + 1)) x2) x0 80))) + 2)) x3) x0 80))) + 3)) x4) x0 80) + 1))) x0 80) - 1))))))))))))))))))))) := (ff_of bk_293_0 [(22, x0), (0, x1), (0, x2), (0, x3), (0, x4)] [] h).trans (by
  show (ck_ (0 ≤ x0) (ck_ (0 ≤ x0) (ck_ (0 ≤ (rf_ h x0 82)) (ck_ (0 ≤ (w32 (4 * (rd_ h x0 80))) ∧ (w32 (4 * (rd_ h x0 80))) < ln_ h (rf_ h x0 82)) (ck_ (0 ≤ x0) (ck_ (0 ≤ x0) (ck_ (0 ≤ (rf_ h x0 82)) (ck_ (0 ≤ (w32 ((w32 (4 * (rd_ (wr_ h (rf_ h x0 82) (w32 (4 * (rd_ h x0 80))) x1) x0 80))) + 1)) ∧ (w32 ((w32 (4 * (rd_ (wr_ h (rf_ h x0 82) (w32 (4 * (rd_ h x0 80))) x1) x0 80))) + 1)) < ln_ h (rf_ h x0 82)) (ck_ (0 ≤ x0) (ck_ (0 ≤ x0) (ck_ (0 ≤ (rf_ h x0 82)) (ck_ (0 ≤ (w32 ((w32 (4 * (rd_ (wr_ (wr_ h (rf_ h x0 82) (w32 (4 * (rd_ h x0 80))) x1) (rf_ h x0 82) (w32 ((w32 (4 * (rd_ (wr_ h (rf_ h x0 82) (w32 (4 * (rd_ h x0 80))) x1) x0 80))) + 1)) x2) x0 80))) + 2)) ∧ (w32 ((w32 (4 * (rd_ (wr_ (wr_ h (rf_ h x0 82) (w32 (4 * (rd_ h x0 80))) x1) (rf_ h x0 82) (w32 ((w32 (4 * (rd_ (wr_ h (rf_ h x0 82) (w32 (4 * (rd_ h x0 80))) x1) x0 80))) + 1)) x2) x0 80))) + 2)) < ln_ h (rf_ h x0 82)) (ck_ (0 ≤ x0) (ck_ (0 ≤ x0) (ck_ (0 ≤ (rf_ h x0 82)) (ck_ (0 ≤ (w32 ((w32 (4 * (rd_ (wr_ (wr_ (wr_ h (rf_ h x0 82) (w32 (4 * (rd_ h x0 80))) x1) (rf_ h x0 82) (w32 ((w32 (4 * (rd_ (wr_ h (rf_ h x0 82) (w32 (4 * (rd_ h x0 80))) x1) x0 80))) + 1)) x2) (rf_ h x0 82) (w32 ((w32 (4 * (rd_ (wr_ (wr_ h (rf_ h x0 82) (w32 (4 * (rd_ h x0 80))) x1) (rf_ h x0 82) (w32 ((w32 (4 * (rd_ (wr_ h (rf_ h x0 82) (w32 (4 * (rd_ h x0 80))) x1) x0 80))) + 1)) x2) x0 80))) + 2)) x3) x0 80))) + 3)) ∧ (w32 ((w32 (4 * (rd_ (wr_ (wr_ (wr_ h (rf_ h x0 82) (w32 (4 * (rd_ h x0 80))) x1) (rf_ h x0 82) (w32 ((w32 (4 * (rd_ (wr_ h (rf_ h x0 82) (w32 (4 * (rd_ h x0 80))) x1) x0 80))) + 1)) x2) (rf_ h x0 82) (w32 ((w32 (4 * (rd_ (wr_ (wr_ h (rf_ h x0 82) (w32 (4 * (rd_ h x0 80))) x1) (rf_ h x0 82) (w32 ((w32 (4 * (rd_ (wr_ h (rf_ h x0 82) (w32 (4 * (rd_ h x0 80))) x1) x0 80))) + 1)) x2) x0 80))) + 2)) x3) x0 80))) + 3)) < ln_ h (rf_ h x0 82)) (ck_ (0 ≤ x0) (ck_ (0 ≤ x0) (ck_ (0 ≤ x0) (JJ 293 1 [(22, x0), (0, x1), (0, x2), (0, x3), (0, x4)] [(0, w32 ((rd_ (wr_ (wr_ (wr_ (wr_ (wr_ h (rf_ h x0 82) (w32 (4 * (rd_ h x0 80))) x1) (rf_ h x0 82) (w32 ((w32 (4 * (rd_ (wr_ h (rf_ h x0 82) (w32 (4 * (rd_ h x0 80))) x1) x0 80))) + 1)) x2) (rf_ h x0 82) (w32 ((w32 (4 * (rd_ (wr_ (wr_ h (rf_ h x0 82) (w32 (4 * (rd_ h x0 80))) x1) (rf_ h x0 82) (w32 ((w32 (4 * (rd_ (wr_ h (rf_ h x0 82) (w32 (4 * (rd_ h x0 80))) x1) x0 80))) + 1)) x2) x0 80))) + 2)) x3) (rf_ h x0 82) (w32 ((w32 (4 * (rd_ (wr_ (wr_ (wr_ h (rf_ h x0 82) (w32 (4 * (rd_ h x0 80))) x1) (rf_ h x0 82) (w32 ((w32 (4 * (rd_ (wr_ h (rf_ h x0 82) (w32 (4 * (rd_ h x0 80))) x1) x0 80))) + 1)) x2) (rf_ h x0 82) (w32 ((w32 (4 * (rd_ (wr_ (wr_ h (rf_ h x0 82) (w32 (4 * (rd_ h x0 80))) x1) (rf_ h x0 82) (w32 ((w32 (4 * (rd_ (wr_ h (rf_ h x0 82) (w32 (4 * (rd_ h x0 80))) x1) x0 80))) + 1)) x2) x0 80))) + 2)) x3) x0 80))) + 3)) x4) x0 80 (w32 ((rd_ (wr_ (wr_ (wr_ (wr_ h (rf_ h x0 82) (w32 (4 * (rd_ h x0 80))) x1) (rf_ h x0 82) (w32 ((w32 (4 * (rd_ (wr_ h (rf_ h x0 82) (w32 (4 * (rd_ h x0 80))) x1) x0 80))) + 1)) x2) (rf_ h x0 82) (w32 ((w32 (4 * (rd_ (wr_ (wr_ h (rf_ h x0 82) (w32 (4 * (rd_ h x0 80))) x1) (rf_ h x0 82) (w32 ((w32 (4 * (rd_ (wr_ h (rf_ h x0 82) (w32 (4 * (rd_ h x0 80))) x1) x0 80))) + 1)) x2) x0 80))) + 2)) x3) (rf_ h x0 82) (w32 ((w32 (4 * (rd_ (wr_ (wr_ (wr_ h (rf_ h x0 82) (w32 (4 * (rd_ h x0 80))) x1) (rf_ h x0 82) (w32 ((w32 (4 * (rd_ (wr_ h (rf_ h x0 82) (w32 (4 * (rd_ h x0 80))) x1) x0 80))) + 1)) x2) (rf_ h x0 82) (w32 ((w32 (4 * (rd_ (wr_ (wr_ h (rf_ h x0 82) (w32 (4 * (rd_ h x0 80))) x1) (rf_ h x0 82) (w32 ((w32 (4 * (rd_ (wr_ h (rf_ h x0 82) (w32 (4 * (rd_ h x0 80))) x1) x0 80))) + 1)) x2) x0 80))) + 2)) x3) x0 80))) + 3)) x4) x0 80) + 1))) x0 80) - 1))] (wr_ (wr_ (wr_ (wr_ (wr_ h (rf_ h x0 82) (w32 (4 * (rd_ h x0 80))) x1) (rf_ h x0 82) (w32 ((w32 (4 * (rd_ (wr_ h (rf_ h x0 82) (w32 (4 * (rd_ h x0 80))) x1) x0 80))) + 1)) x2) (rf_ h x0 82) (w32 ((w32 (4 * (rd_ (wr_ (wr_ h (rf_ h x0 82) (w32 (4 * (rd_ h x0 80))) x1) (rf_ h x0 82) (w32 ((w32 (4 * (rd_ (wr_ h (rf_ h x0 82) (w32 (4 * (rd_ h x0 80))) x1) x0 80))) + 1)) x2) x0 80))) + 2)) x3) (rf_ h x0 82) (w32 ((w32 (4 * (rd_ (wr_ (wr_ (wr_ h (rf_ h x0 82) (w32 (4 * (rd_ h x0 80))) x1) (rf_ h x0 82) (w32 ((w32 (4 * (rd_ (wr_ h (rf_ h x0 82) (w32 (4 * (rd_ h x0 80))) x1) x0 80))) + 1)) x2) (rf_ h x0 82) (w32 ((w32 (4 * (rd_ (wr_ (wr_ h (rf_ h x0 82) (w32 (4 * (rd_ h x0 80))) x1) (rf_ h x0 82) (w32 ((w32 (4 * (rd_ (wr_ h (rf_ h x0 82) (w32 (4 * (rd_ h x0 80))) x1) x0 80))) + 1)) x2) x0 80))) + 2)) x3) x0 80))) + 3)) x4) x0 80 (w32 ((rd_ (wr_ (wr_ (wr_ (wr_ h (rf_ h x0 82) (w32 (4 * (rd_ h x0 80))) x1) (rf_ h x0 82) (w32 ((w32 (4 * (rd_ (wr_ h (rf_ h x0 82) (w32 (4 * (rd_ h x0 80))) x1) x0 80))) + 1)) x2) (rf_ h x0 82) (w32 ((w32 (4 * (rd_ (wr_ (wr_ h (rf_ h x0 82) (w32 (4 * (rd_ h x0 80))) x1) (rf_ h x0 82) (w32 ((w32 (4 * (rd_ (wr_ h (rf_ h x0 82) (w32 (4 * (rd_ h x0 80))) x1) x0 80))) + 1)) x2) x0 80))) + 2)) x3) (rf_ h x0 82) (w32 ((w32 (4 * (rd_ (wr_ (wr_ (wr_ h (rf_ h x0 82) (w32 (4 * (rd_ h x0 80))) x1) (rf_ h x0 82) (w32 ((w32 (4 * (rd_ (wr_ h (rf_ h x0 82) (w32 (4 * (rd_ h x0 80))) x1) x0 80))) + 1)) x2) (rf_ h x0 82) (w32 ((w32 (4 * (rd_ (wr_ (wr_ h (rf_ h x0 82) (w32 (4 * (rd_ h x0 80))) x1) (rf_ h x0 82) (w32 ((w32 (4 * (rd_ (wr_ h (rf_ h x0 82) (w32 (4 * (rd_ h x0 80))) x1) x0 80))) + 1)) x2) x0 80))) + 2)) x3) x0 80))) + 3)) x4) x0 80) + 1))))))))))))))))))))))) = _
  simp only [jt_293_1, ck_or1, ck_or2, rf_wr, ln_wr, nn_wr, rf_cp, ln_cp, nn_cp, ln_wf, nn_wf, rd_wf, nn_nw]
  try rfl)
theorem cc_293 (h : am_H) (x0 x1 x2 x3 x4 : Int) : CC 293 [(22, x0), (0, x1), (0, x2), (0, x3), (0, x4)] h = Mo_noted h x0 x1 x2 x3 x4 := cc_of pk_293 _ h
set_option maxRecDepth 20000 in
theorem pk_294 : am_prog 294 = some cd_294 := rfl
theorem bk_294_0 : bk_ am_prog 294 0 = some ([true, true, true, true, true], (bl_294_0, 9999)) := bk_of pk_294 rfl
theorem bk_294_1 : bk_ am_prog 294 1 = some ([true, true, true, true, true], (bl_294_1, 9999)) := bk_of pk_294 rfl
theorem bk_294_2 : bk_ am_prog 294 2 = some ([true, true, true, true, true], (bl_294_2, 9999)) := bk_of pk_294 rfl
theorem bk_294_3 : bk_ am_prog 294 3 = some ([true, true, true, true, true], (bl_294_3, 9999)) := bk_of pk_294 rfl
theorem bk_294_4 : bk_ am_prog 294 4 = some ([false, false, false, false, false], (bl_294_4, 9999)) := bk_of pk_294 rfl
theorem bk_294_5 : bk_ am_prog 294 5 = some ([true, true, true, true, true], (bl_294_5, 9999)) := bk_of pk_294 rfl
theorem bk_294_6 : bk_ am_prog 294 6 = some ([false, false, false, false, false], (bl_294_6, 9999)) := bk_of pk_294 rfl
theorem bk_294_7 : bk_ am_prog 294 7 = some ([false, false, false, false, false], (bl_294_7, 8)) := bk_of pk_294 rfl
theorem bk_294_8 : bk_ am_prog 294 8 = some ([false, false, false, false, false], (bl_294_8, 9)) := bk_of pk_294 rfl
theorem bk_294_9 : bk_ am_prog 294 9 = some ([false, false, false, false, false], (bl_294_9, 9999)) := bk_of pk_294 rfl
theorem jt_294_9 (h : am_H) (d0 d1 d2 d3 d4 : am_V) (s0 : Int) : JJ 294 9 [d0, d1, d2, d3, d4] [(0, s0)] h = some (h, s0) := (jj_of bk_294_9 _ _ h).trans (ff_of bk_294_9 [(9, 0), (9, 0), (9, 0), (9, 0), (9, 0)] [(0, s0)] h)
theorem jt_294_4 (h : am_H) (d0 d1 d2 d3 d4 : am_V) : JJ 294 4 [d0, d1, d2, d3, d4] [] h = some (h, (-1)) := (jj_of bk_294_4 _ _ h).trans ((ff_of bk_294_4 [(9, 0), (9, 0), (9, 0), (9, 0), (9, 0)] [] h).trans (by
  show (JJ 294 9 [(9, 0), (9, 0), (9, 0), (9, 0), (9, 0)] [(0, (-1))] h) = _
  simp only [jt_294_9, ck_or1, ck_or2, rf_wr, ln_wr, nn_wr, rf_cp, ln_cp, nn_cp, ln_wf, nn_wf, rd_wf, nn_nw]
  try rfl))
theorem jt_294_8 (h : am_H) (d0 d1 d2 d3 d4 : am_V) (s0 s1 s2 s3 s4 : Int) : JJ 294 8 [d0, d1, d2, d3, d4] [(0, s0), (0, s1), (0, s2), (0, s3), (22, s4)] h = ck_ (0 ≤ s4) (bd_ (Mo_noted h s4 s3 s2 s1 s0) fun h1 v2 => some (h1, v2)) := (jj_of bk_294_8 _ _ h).trans ((ff_of bk_294_8 [(9, 0), (9, 0), (9, 0), (9, 0), (9, 0)] [(0, s0), (0, s1), (0, s2), (0, s3), (22, s4)] h).trans (by
  show (ck_ (0 ≤ s4) (bd_ (CC 293 [(22, s4), (0, s3), (0, s2), (0, s1), (0, s0)] h) fun h1 v2 => JJ 294 9 [(9, 0), (9, 0), (9, 0), (9, 0), (9, 0)] [(0, v2)] h1)) = _
  simp only [cc_293, jt_294_9, ck_or1, ck_or2, rf_wr, ln_wr, nn_wr, rf_cp, ln_cp, nn_cp, ln_wf, nn_wf, rd_wf, nn_nw]
  try rfl))
theorem jt_294_7 (h : am_H) (d0 d1 d2 d3 d4 : am_V) (s0 s1 s2 s3 : Int) : JJ 294 7 [d0, d1, d2, d3, d4] [(0, s0), (0, s1), (0, s2), (22, s3)] h = ck_ (0 ≤ s3) (bd_ (Mo_noted h s3 s2 s1 s0 0) fun h1 v2 => some (h1, v2)) := (jj_of bk_294_7 _ _ h).trans ((ff_of bk_294_7 [(9, 0), (9, 0), (9, 0), (9, 0), (9, 0)] [(0, s0), (0, s1), (0, s2), (22, s3)] h).trans (by
  show (JJ 294 8 [(9, 0), (9, 0), (9, 0), (9, 0), (9, 0)] [(0, 0), (0, s0), (0, s1), (0, s2), (22, s3)] h) = _
  simp only [jt_294_8, ck_or1, ck_or2, rf_wr, ln_wr, nn_wr, rf_cp, ln_cp, nn_cp, ln_wf, nn_wf, rd_wf, nn_nw]
  try rfl))
theorem jt_294_6 (h : am_H) (d0 d1 d2 d3 d4 : am_V) (s0 s1 s2 s3 : Int) : JJ 294 6 [d0, d1, d2, d3, d4] [(0, s0), (0, s1), (0, s2), (22, s3)] h = ck_ (0 ≤ s3) (bd_ (Mo_noted h s3 s2 s1 s0 1) fun h1 v2 => some (h1, v2)) := (jj_of bk_294_6 _ _ h).trans ((ff_of bk_294_6 [(9, 0), (9, 0), (9, 0), (9, 0), (9, 0)] [(0, s0), (0, s1), (0, s2), (22, s3)] h).trans (by
  show (JJ 294 8 [(9, 0), (9, 0), (9, 0), (9, 0), (9, 0)] [(0, 1), (0, s0), (0, s1), (0, s2), (22, s3)] h) = _
  simp only [jt_294_8, ck_or1, ck_or2, rf_wr, ln_wr, nn_wr, rf_cp, ln_cp, nn_cp, ln_wf, nn_wf, rd_wf, nn_nw]
  try rfl))
theorem jt_294_5 (h : am_H) (x0 x1 x2 x3 x4 : Int) : JJ 294 5 [(22, x0), (0, x1), (0, x2), (0, x3), (0, x4)] [] h = if x4 = 0 then ck_ (0 ≤ x0) (bd_ (Mo_noted h x0 x1 x2 x3 0) fun h1 v2 => some (h1, v2)) else ck_ (0 ≤ x0) (bd_ (Mo_noted h x0 x1 x2 x3 1) fun h3 v4 => some (h3, v4)) := (jj_of bk_294_5 _ _ h).trans ((ff_of bk_294_5 [(22, x0), (0, x1), (0, x2), (0, x3), (0, x4)] [] h).trans (by
  show (if x4 = 0 then JJ 294 7 [(22, x0), (0, x1), (0, x2), (0, x3), (0, x4)] [(0, x3), (0, x2), (0, x1), (22, x0)] h else JJ 294 6 [(22, x0), (0, x1), (0, x2), (0, x3), (0, x4)] [(0, x3), (0, x2), (0, x1), (22, x0)] h) = _
  simp only [jt_294_6, jt_294_7, ck_or1, ck_or2, rf_wr, ln_wr, nn_wr, rf_cp, ln_cp, nn_cp, ln_wf, nn_wf, rd_wf, nn_nw]
  try rfl))
theorem jt_294_3 (h : am_H) (x0 x1 x2 x3 x4 : Int) : JJ 294 3 [(22, x0), (0, x1), (0, x2), (0, x3), (0, x4)] [] h = bd_ (Mo_isIn h x3 1 99) fun h1 v2 => if v2 ≠ 0 then (if x4 = 0 then ck_ (0 ≤ x0) (bd_ (Mo_noted h1 x0 x1 x2 x3 0) fun h3 v4 => some (h3, v4)) else ck_ (0 ≤ x0) (bd_ (Mo_noted h1 x0 x1 x2 x3 1) fun h5 v6 => some (h5, v6))) else some (h1, (-1)) := (jj_of bk_294_3 _ _ h).trans ((ff_of bk_294_3 [(22, x0), (0, x1), (0, x2), (0, x3), (0, x4)] [] h).trans (by
  show (bd_ (CC 196 [(0, x3), (0, 1), (0, 99)] h) fun h1 v2 => if v2 ≠ 0 then JJ 294 5 [(22, x0), (0, x1), (0, x2), (0, x3), (0, x4)] [] h1 else JJ 294 4 [(22, x0), (0, x1), (0, x2), (0, x3), (0, x4)] [] h1) = _
  simp only [cc_196, jt_294_4, jt_294_5, ck_or1, ck_or2, rf_wr, ln_wr, nn_wr, rf_cp, ln_cp, nn_cp, ln_wf, nn_wf, rd_wf, nn_nw]
  try rfl))
theorem jt_294_2 (h : am_H) (x0 x1 x2 x3 x4 : Int) : JJ 294 2 [(22, x0), (0, x1), (0, x2), (0, x3), (0, x4)] [] h = ck_ (0 ≤ x0) (bd_ (Mo_isPile h x0 x2) fun h1 v2 => if v2 = 0 then some (h1, (-1)) else bd_ (Mo_isIn h1 x3 1 99) fun h3 v4 => if v4 ≠ 0 then (if x4 = 0 then ck_ (0 ≤ x0) (bd_ (Mo_noted h3 x0 x1 x2 x3 0) fun h5 v6 => some (h5, v6)) else ck_ (0 ≤ x0) (bd_ (Mo_noted h3 x0 x1 x2 x3 1) fun h7 v8 => some (h7, v8))) else some (h3, (-1))) := (jj_of bk_294_2 _ _ h).trans ((ff_of bk_294_2 [(22, x0), (0, x1), (0, x2), (0, x3), (0, x4)] [] h).trans (by
  show (ck_ (0 ≤ x0) (bd_ (CC 236 [(22, x0), (0, x2)] h) fun h1 v2 => if v2 = 0 then JJ 294 4 [(22, x0), (0, x1), (0, x2), (0, x3), (0, x4)] [] h1 else JJ 294 3 [(22, x0), (0, x1), (0, x2), (0, x3), (0, x4)] [] h1)) = _
  simp only [cc_236, jt_294_3, jt_294_4, ck_or1, ck_or2, rf_wr, ln_wr, nn_wr, rf_cp, ln_cp, nn_cp, ln_wf, nn_wf, rd_wf, nn_nw]
  try rfl))
theorem jt_294_1 (h : am_H) (x0 x1 x2 x3 x4 : Int) : JJ 294 1 [(22, x0), (0, x1), (0, x2), (0, x3), (0, x4)] [] h = bd_ (Mo_isIn h x1 1 60) fun h1 v2 => if v2 = 0 then some (h1, (-1)) else ck_ (0 ≤ x0) (bd_ (Mo_isPile h1 x0 x2) fun h3 v4 => if v4 = 0 then some (h3, (-1)) else bd_ (Mo_isIn h3 x3 1 99) fun h5 v6 => if v6 ≠ 0 then (if x4 = 0 then ck_ (0 ≤ x0) (bd_ (Mo_noted h5 x0 x1 x2 x3 0) fun h7 v8 => some (h7, v8)) else ck_ (0 ≤ x0) (bd_ (Mo_noted h5 x0 x1 x2 x3 1) fun h9 v10 => some (h9, v10))) else some (h5, (-1))) := (jj_of bk_294_1 _ _ h).trans ((ff_of bk_294_1 [(22, x0), (0, x1), (0, x2), (0, x3), (0, x4)] [] h).trans (by
  show (bd_ (CC 196 [(0, x1), (0, 1), (0, 60)] h) fun h1 v2 => if v2 = 0 then JJ 294 4 [(22, x0), (0, x1), (0, x2), (0, x3), (0, x4)] [] h1 else JJ 294 2 [(22, x0), (0, x1), (0, x2), (0, x3), (0, x4)] [] h1) = _
  simp only [cc_196, jt_294_2, jt_294_4, ck_or1, ck_or2, rf_wr, ln_wr, nn_wr, rf_cp, ln_cp, nn_cp, ln_wf, nn_wf, rd_wf, nn_nw]
  try rfl))
theorem Mo_see_e (h : am_H) (x0 x1 x2 x3 x4 : Int) : Mo_see h x0 x1 x2 x3 x4 = ck_ (0 ≤ x0) (ck_ (0 ≤ x0) (if (rd_ (wr_ h x0 2 0) x0 80) = 24 then some (wr_ h x0 2 0, (-1)) else bd_ (Mo_isIn (wr_ h x0 2 0) x1 1 60) fun h1 v2 => if v2 = 0 then some (h1, (-1)) else ck_ (0 ≤ x0) (bd_ (Mo_isPile h1 x0 x2) fun h3 v4 => if v4 = 0 then some (h3, (-1)) else bd_ (Mo_isIn h3 x3 1 99) fun h5 v6 => if v6 ≠ 0 then (if x4 = 0 then ck_ (0 ≤ x0) (bd_ (Mo_noted h5 x0 x1 x2 x3 0) fun h7 v8 => some (h7, v8)) else ck_ (0 ≤ x0) (bd_ (Mo_noted h5 x0 x1 x2 x3 1) fun h9 v10 => some (h9, v10))) else some (h5, (-1))))) := (ff_of bk_294_0 [(22, x0), (0, x1), (0, x2), (0, x3), (0, x4)] [] h).trans (by
  show (ck_ (0 ≤ x0) (ck_ (0 ≤ x0) (if (rd_ (wr_ h x0 2 0) x0 80) = 24 then JJ 294 4 [(22, x0), (0, x1), (0, x2), (0, x3), (0, x4)] [] (wr_ h x0 2 0) else JJ 294 1 [(22, x0), (0, x1), (0, x2), (0, x3), (0, x4)] [] (wr_ h x0 2 0)))) = _
  simp only [jt_294_1, jt_294_4, ck_or1, ck_or2, rf_wr, ln_wr, nn_wr, rf_cp, ln_cp, nn_cp, ln_wf, nn_wf, rd_wf, nn_nw]
  try rfl)
theorem cc_294 (h : am_H) (x0 x1 x2 x3 x4 : Int) : CC 294 [(22, x0), (0, x1), (0, x2), (0, x3), (0, x4)] h = Mo_see h x0 x1 x2 x3 x4 := cc_of pk_294 _ h
set_option maxRecDepth 20000 in
theorem pk_295 : am_prog 295 = some cd_295 := rfl
theorem bk_295_0 : bk_ am_prog 295 0 = some ([true, true], (bl_295_0, 9999)) := bk_of pk_295 rfl
theorem bk_295_1 : bk_ am_prog 295 1 = some ([true, true], (bl_295_1, 9999)) := bk_of pk_295 rfl
theorem bk_295_2 : bk_ am_prog 295 2 = some ([true, true], (bl_295_2, 9999)) := bk_of pk_295 rfl
theorem bk_295_3 : bk_ am_prog 295 3 = some ([false, false], (bl_295_3, 9999)) := bk_of pk_295 rfl
theorem bk_295_4 : bk_ am_prog 295 4 = some ([true, true], (bl_295_4, 5)) := bk_of pk_295 rfl
theorem bk_295_5 : bk_ am_prog 295 5 = some ([false, false], (bl_295_5, 9999)) := bk_of pk_295 rfl
theorem jt_295_5 (h : am_H) (d0 d1 : am_V) (s0 : Int) : JJ 295 5 [d0, d1] [(0, s0)] h = some (h, s0) := (jj_of bk_295_5 _ _ h).trans (ff_of bk_295_5 [(9, 0), (9, 0)] [(0, s0)] h)
theorem jt_295_3 (h : am_H) (d0 d1 : am_V) : JJ 295 3 [d0, d1] [] h = some (h, (-1)) := (jj_of bk_295_3 _ _ h).trans ((ff_of bk_295_3 [(9, 0), (9, 0)] [] h).trans (by
  show (JJ 295 5 [(9, 0), (9, 0)] [(0, (-1))] h) = _
  simp only [jt_295_5, ck_or1, ck_or2, rf_wr, ln_wr, nn_wr, rf_cp, ln_cp, nn_cp, ln_wf, nn_wf, rd_wf, nn_nw]
  try rfl))
theorem jt_295_4 (h : am_H) (x0 x1 : Int) : JJ 295 4 [(22, x0), (0, x1)] [] h = ck_ (0 ≤ x0) (bd_ (Mo_noted h x0 (-1) x1 0 0) fun h1 v2 => some (h1, v2)) := (jj_of bk_295_4 _ _ h).trans ((ff_of bk_295_4 [(22, x0), (0, x1)] [] h).trans (by
  show (ck_ (0 ≤ x0) (bd_ (CC 293 [(22, x0), (0, (-1)), (0, x1), (0, 0), (0, 0)] h) fun h1 v2 => JJ 295 5 [(22, x0), (0, x1)] [(0, v2)] h1)) = _
  simp only [cc_293, jt_295_5, ck_or1, ck_or2, rf_wr, ln_wr, nn_wr, rf_cp, ln_cp, nn_cp, ln_wf, nn_wf, rd_wf, nn_nw]
  try rfl))
theorem jt_295_2 (h : am_H) (x0 x1 : Int) : JJ 295 2 [(22, x0), (0, x1)] [] h = ck_ (0 ≤ x0) (if x1 < (rd_ h x0 80) then ck_ (0 ≤ x0) (bd_ (Mo_noted h x0 (-1) x1 0 0) fun h1 v2 => some (h1, v2)) else some (h, (-1))) := (jj_of bk_295_2 _ _ h).trans ((ff_of bk_295_2 [(22, x0), (0, x1)] [] h).trans (by
  show (ck_ (0 ≤ x0) (if x1 < (rd_ h x0 80) then JJ 295 4 [(22, x0), (0, x1)] [] h else JJ 295 3 [(22, x0), (0, x1)] [] h)) = _
  simp only [jt_295_3, jt_295_4, ck_or1, ck_or2, rf_wr, ln_wr, nn_wr, rf_cp, ln_cp, nn_cp, ln_wf, nn_wf, rd_wf, nn_nw]
  try rfl))
theorem jt_295_1 (h : am_H) (x0 x1 : Int) : JJ 295 1 [(22, x0), (0, x1)] [] h = if x1 < 0 then some (h, (-1)) else ck_ (0 ≤ x0) (if x1 < (rd_ h x0 80) then ck_ (0 ≤ x0) (bd_ (Mo_noted h x0 (-1) x1 0 0) fun h1 v2 => some (h1, v2)) else some (h, (-1))) := (jj_of bk_295_1 _ _ h).trans ((ff_of bk_295_1 [(22, x0), (0, x1)] [] h).trans (by
  show (if x1 < 0 then JJ 295 3 [(22, x0), (0, x1)] [] h else JJ 295 2 [(22, x0), (0, x1)] [] h) = _
  simp only [jt_295_2, jt_295_3, ck_or1, ck_or2, rf_wr, ln_wr, nn_wr, rf_cp, ln_cp, nn_cp, ln_wf, nn_wf, rd_wf, nn_nw]
  try rfl))
theorem Mo_strike_e (h : am_H) (x0 x1 : Int) : Mo_strike h x0 x1 = ck_ (0 ≤ x0) (ck_ (0 ≤ x0) (if (rd_ (wr_ h x0 2 0) x0 80) = 24 then some (wr_ h x0 2 0, (-1)) else if x1 < 0 then some (wr_ h x0 2 0, (-1)) else ck_ (0 ≤ x0) (if x1 < (rd_ (wr_ h x0 2 0) x0 80) then ck_ (0 ≤ x0) (bd_ (Mo_noted (wr_ h x0 2 0) x0 (-1) x1 0 0) fun h1 v2 => some (h1, v2)) else some (wr_ h x0 2 0, (-1))))) := (ff_of bk_295_0 [(22, x0), (0, x1)] [] h).trans (by
  show (ck_ (0 ≤ x0) (ck_ (0 ≤ x0) (if (rd_ (wr_ h x0 2 0) x0 80) = 24 then JJ 295 3 [(22, x0), (0, x1)] [] (wr_ h x0 2 0) else JJ 295 1 [(22, x0), (0, x1)] [] (wr_ h x0 2 0)))) = _
  simp only [jt_295_1, jt_295_3, ck_or1, ck_or2, rf_wr, ln_wr, nn_wr, rf_cp, ln_cp, nn_cp, ln_wf, nn_wf, rd_wf, nn_nw]
  try rfl)
theorem cc_295 (h : am_H) (x0 x1 : Int) : CC 295 [(22, x0), (0, x1)] h = Mo_strike h x0 x1 := cc_of pk_295 _ h
set_option maxRecDepth 20000 in
theorem pk_296 : am_prog 296 = some cd_296 := rfl
theorem bk_296_0 : bk_ am_prog 296 0 = some ([true, true], (bl_296_0, 9999)) := bk_of pk_296 rfl
theorem bk_296_1 : bk_ am_prog 296 1 = some ([false, false], (bl_296_1, 9999)) := bk_of pk_296 rfl
theorem bk_296_2 : bk_ am_prog 296 2 = some ([true, true], (bl_296_2, 9999)) := bk_of pk_296 rfl
theorem jt_296_2 (h : am_H) (x0 x1 : Int) : JJ 296 2 [(22, x0), (0, x1)] [] h = ck_ (0 ≤ x0) (some (wr_ h x0 81 x1, 1)) := (jj_of bk_296_2 _ _ h).trans (ff_of bk_296_2 [(22, x0), (0, x1)] [] h)
theorem jt_296_1 (h : am_H) (d0 d1 : am_V) : JJ 296 1 [d0, d1] [] h = some (h, 0) := (jj_of bk_296_1 _ _ h).trans (ff_of bk_296_1 [(9, 0), (9, 0)] [] h)
theorem Mo_known_e (h : am_H) (x0 x1 : Int) : Mo_known h x0 x1 = ck_ (0 ≤ x0) (ck_ (0 ≤ x0) (bd_ (Mo_isIn (wr_ h x0 2 0) x1 (-1) (rd_ (wr_ h x0 2 0) x0 80)) fun h1 v2 => if v2 ≠ 0 then ck_ (0 ≤ x0) (some (wr_ h1 x0 81 x1, 1)) else some (h1, 0))) := (ff_of bk_296_0 [(22, x0), (0, x1)] [] h).trans (by
  show (ck_ (0 ≤ x0) (ck_ (0 ≤ x0) (bd_ (CC 196 [(0, x1), (0, (-1)), (0, rd_ (wr_ h x0 2 0) x0 80)] (wr_ h x0 2 0)) fun h1 v2 => if v2 ≠ 0 then JJ 296 2 [(22, x0), (0, x1)] [] h1 else JJ 296 1 [(22, x0), (0, x1)] [] h1))) = _
  simp only [cc_196, jt_296_1, jt_296_2, ck_or1, ck_or2, rf_wr, ln_wr, nn_wr, rf_cp, ln_cp, nn_cp, ln_wf, nn_wf, rd_wf, nn_nw]
  try rfl)
theorem cc_296 (h : am_H) (x0 x1 : Int) : CC 296 [(22, x0), (0, x1)] h = Mo_known h x0 x1 := cc_of pk_296 _ h
set_option maxRecDepth 20000 in
theorem pk_297 : am_prog 297 = some cd_297 := rfl
theorem bk_297_0 : bk_ am_prog 297 0 = some ([true], (bl_297_0, 9999)) := bk_of pk_297 rfl
theorem bk_297_1 : bk_ am_prog 297 1 = some ([true], (bl_297_1, 9999)) := bk_of pk_297 rfl
theorem bk_297_2 : bk_ am_prog 297 2 = some ([true], (bl_297_2, 3)) := bk_of pk_297 rfl
theorem bk_297_3 : bk_ am_prog 297 3 = some ([false], (bl_297_3, 9999)) := bk_of pk_297 rfl
theorem jt_297_3 (h : am_H) (d0 : am_V) (s0 : Int) : JJ 297 3 [d0] [(0, s0)] h = some (h, s0) := (jj_of bk_297_3 _ _ h).trans (ff_of bk_297_3 [(9, 0)] [(0, s0)] h)
theorem jt_297_2 (h : am_H) (x0 : Int) : JJ 297 2 [(22, x0)] [] h = ck_ (0 ≤ x0) (some (h, rd_ h x0 81)) := (jj_of bk_297_2 _ _ h).trans ((ff_of bk_297_2 [(22, x0)] [] h).trans (by
  show (ck_ (0 ≤ x0) (JJ 297 3 [(22, x0)] [(0, rd_ h x0 81)] h)) = _
  simp only [jt_297_3, ck_or1, ck_or2, rf_wr, ln_wr, nn_wr, rf_cp, ln_cp, nn_cp, ln_wf, nn_wf, rd_wf, nn_nw]
  try rfl))
theorem jt_297_1 (h : am_H) (x0 : Int) : JJ 297 1 [(22, x0)] [] h = ck_ (0 ≤ x0) (some (h, rd_ h x0 80)) := (jj_of bk_297_1 _ _ h).trans ((ff_of bk_297_1 [(22, x0)] [] h).trans (by
  show (ck_ (0 ≤ x0) (JJ 297 3 [(22, x0)] [(0, rd_ h x0 80)] h)) = _
  simp only [jt_297_3, ck_or1, ck_or2, rf_wr, ln_wr, nn_wr, rf_cp, ln_cp, nn_cp, ln_wf, nn_wf, rd_wf, nn_nw]
  try rfl))
theorem Mo_knownBy_e (h : am_H) (x0 : Int) : Mo_knownBy h x0 = ck_ (0 ≤ x0) (if 0 ≤ (rd_ h x0 81) then ck_ (0 ≤ x0) (some (h, rd_ h x0 81)) else ck_ (0 ≤ x0) (some (h, rd_ h x0 80))) := (ff_of bk_297_0 [(22, x0)] [] h).trans (by
  show (ck_ (0 ≤ x0) (if 0 ≤ (rd_ h x0 81) then JJ 297 2 [(22, x0)] [] h else JJ 297 1 [(22, x0)] [] h)) = _
  simp only [jt_297_1, jt_297_2, ck_or1, ck_or2, rf_wr, ln_wr, nn_wr, rf_cp, ln_cp, nn_cp, ln_wf, nn_wf, rd_wf, nn_nw]
  try rfl)
theorem cc_297 (h : am_H) (x0 : Int) : CC 297 [(22, x0)] h = Mo_knownBy h x0 := cc_of pk_297 _ h
set_option maxRecDepth 20000 in
theorem pk_298 : am_prog 298 = some cd_298 := rfl
theorem bk_298_0 : bk_ am_prog 298 0 = some ([true, true, false], (bl_298_0, 1)) := bk_of pk_298 rfl
theorem bk_298_1 : bk_ am_prog 298 1 = some ([true, true, true], (bl_298_1, 9999)) := bk_of pk_298 rfl
theorem bk_298_2 : bk_ am_prog 298 2 = some ([true, true, true], (bl_298_2, 9999)) := bk_of pk_298 rfl
theorem bk_298_3 : bk_ am_prog 298 3 = some ([true, true, true], (bl_298_3, 9999)) := bk_of pk_298 rfl
theorem bk_298_4 : bk_ am_prog 298 4 = some ([true, true, true], (bl_298_4, 9999)) := bk_of pk_298 rfl
theorem bk_298_5 : bk_ am_prog 298 5 = some ([true, true, true], (bl_298_5, 9999)) := bk_of pk_298 rfl
theorem bk_298_6 : bk_ am_prog 298 6 = some ([true, true, true], (bl_298_6, 9999)) := bk_of pk_298 rfl
theorem bk_298_7 : bk_ am_prog 298 7 = some ([true, true, true], (bl_298_7, 8)) := bk_of pk_298 rfl
theorem bk_298_8 : bk_ am_prog 298 8 = some ([true, true, true], (bl_298_8, 9999)) := bk_of pk_298 rfl
theorem bk_298_9 : bk_ am_prog 298 9 = some ([true, true, true], (bl_298_9, 9999)) := bk_of pk_298 rfl
theorem bk_298_10 : bk_ am_prog 298 10 = some ([true, true, true], (bl_298_10, 11)) := bk_of pk_298 rfl
theorem bk_298_11 : bk_ am_prog 298 11 = some ([true, true, true], (bl_298_11, 9999)) := bk_of pk_298 rfl
theorem bk_298_12 : bk_ am_prog 298 12 = some ([false, false, false], (bl_298_12, 9999)) := bk_of pk_298 rfl
theorem bk_298_13 : bk_ am_prog 298 13 = some ([true, true, true], (bl_298_13, 9999)) := bk_of pk_298 rfl
theorem bk_298_14 : bk_ am_prog 298 14 = some ([false, false, false], (bl_298_14, 9999)) := bk_of pk_298 rfl
theorem jt_298_1 (h : am_H) (x0 x1 x2 : Int) : JJ 298 1 [(22, x0), (0, x1), (0, x2)] [] h = Mo_isSo_1 h x0 x1 x2 := jj_of bk_298_1 _ _ h
theorem jt_298_8 (h : am_H) (x0 x1 x2 s0 : Int) : JJ 298 8 [(22, x0), (0, x1), (0, x2)] [(0, s0)] h = Mo_isSo_8 h x0 x1 x2 s0 := jj_of bk_298_8 _ _ h
theorem Mo_isSo_e (h : am_H) (x0 x1 : Int) : Mo_isSo h x0 x1 = Mo_isSo_1 h x0 x1 0 := (ff_of bk_298_0 [(22, x0), (0, x1), (9, 0)] [] h).trans (by
  show (JJ 298 1 [(22, x0), (0, x1), (0, 0)] [] h) = _
  simp only [jt_298_1, ck_or1, ck_or2, rf_wr, ln_wr, nn_wr, rf_cp, ln_cp, nn_cp, ln_wf, nn_wf, rd_wf, nn_nw]
  try rfl)
theorem jt_298_14 (h : am_H) (d0 d1 d2 : am_V) : JJ 298 14 [d0, d1, d2] [] h = some (h, 1) := (jj_of bk_298_14 _ _ h).trans (ff_of bk_298_14 [(9, 0), (9, 0), (9, 0)] [] h)
theorem jt_298_13 (h : am_H) (x0 x1 x2 : Int) : JJ 298 13 [(22, x0), (0, x1), (0, x2)] [] h = Mo_isSo_1 h x0 x1 (w32 (x2 + 1)) := (jj_of bk_298_13 _ _ h).trans ((ff_of bk_298_13 [(22, x0), (0, x1), (0, x2)] [] h).trans (by
  show (JJ 298 1 [(22, x0), (0, x1), (0, w32 (x2 + 1))] [] h) = _
  simp only [jt_298_1, ck_or1, ck_or2, rf_wr, ln_wr, nn_wr, rf_cp, ln_cp, nn_cp, ln_wf, nn_wf, rd_wf, nn_nw]
  try rfl))
theorem jt_298_7 (h : am_H) (x0 x1 x2 : Int) : JJ 298 7 [(22, x0), (0, x1), (0, x2)] [] h = Mo_isSo_8 h x0 x1 x2 0 := (jj_of bk_298_7 _ _ h).trans ((ff_of bk_298_7 [(22, x0), (0, x1), (0, x2)] [] h).trans (by
  show (JJ 298 8 [(22, x0), (0, x1), (0, x2)] [(0, 0)] h) = _
  simp only [jt_298_8, ck_or1, ck_or2, rf_wr, ln_wr, nn_wr, rf_cp, ln_cp, nn_cp, ln_wf, nn_wf, rd_wf, nn_nw]
  try rfl))
theorem jt_298_6 (h : am_H) (x0 x1 x2 : Int) : JJ 298 6 [(22, x0), (0, x1), (0, x2)] [] h = Mo_isSo_8 h x0 x1 x2 1 := (jj_of bk_298_6 _ _ h).trans ((ff_of bk_298_6 [(22, x0), (0, x1), (0, x2)] [] h).trans (by
  show (JJ 298 8 [(22, x0), (0, x1), (0, x2)] [(0, 1)] h) = _
  simp only [jt_298_8, ck_or1, ck_or2, rf_wr, ln_wr, nn_wr, rf_cp, ln_cp, nn_cp, ln_wf, nn_wf, rd_wf, nn_nw]
  try rfl))
set_option maxRecDepth 20000 in
theorem jt_298_5 (h : am_H) (x0 x1 x2 : Int) : JJ 298 5 [(22, x0), (0, x1), (0, x2)] [] h = ck_ (0 ≤ x0) (ck_ (0 ≤ (rf_ h x0 82)) (ck_ (0 ≤ (w32 ((w32 (4 * x2)) + 1)) ∧ (w32 ((w32 (4 * x2)) + 1)) < ln_ h (rf_ h x0 82)) (ck_ (0 ≤ x0) (bd_ (Mo_sizeAt h x0 1 (rd_ h (rf_ h x0 82) (w32 ((w32 (4 * x2)) + 1))) 0) fun h1 v2 => ck_ (0 ≤ x0) (ck_ (0 ≤ (rf_ h1 x0 82)) (ck_ (0 ≤ (w32 ((w32 (4 * x2)) + 2)) ∧ (w32 ((w32 (4 * x2)) + 2)) < ln_ h1 (rf_ h1 x0 82)) (if v2 ≠ (rd_ h1 (rf_ h1 x0 82) (w32 ((w32 (4 * x2)) + 2))) then Mo_isSo_8 h1 x0 x1 x2 0 else Mo_isSo_8 h1 x0 x1 x2 1))))))) := (jj_of bk_298_5 _ _ h).trans ((ff_of bk_298_5 [(22, x0), (0, x1), (0, x2)] [] h).trans (by
  show (ck_ (0 ≤ x0) (ck_ (0 ≤ (rf_ h x0 82)) (ck_ (0 ≤ (w32 ((w32 (4 * x2)) + 1)) ∧ (w32 ((w32 (4 * x2)) + 1)) < ln_ h (rf_ h x0 82)) (ck_ (0 ≤ x0) (bd_ (CC 240 [(22, x0), (0, 1), (0, rd_ h (rf_ h x0 82) (w32 ((w32 (4 * x2)) + 1))), (0, 0)] h) fun h1 v2 => ck_ (0 ≤ x0) (ck_ (0 ≤ (rf_ h1 x0 82)) (ck_ (0 ≤ (w32 ((w32 (4 * x2)) + 2)) ∧ (w32 ((w32 (4 * x2)) + 2)) < ln_ h1 (rf_ h1 x0 82)) (if v2 ≠ (rd_ h1 (rf_ h1 x0 82) (w32 ((w32 (4 * x2)) + 2))) then JJ 298 7 [(22, x0), (0, x1), (0, x2)] [] h1 else JJ 298 6 [(22, x0), (0, x1), (0, x2)] [] h1)))))))) = _
  simp only [cc_240, jt_298_6, jt_298_7, ck_or1, ck_or2, rf_wr, ln_wr, nn_wr, rf_cp, ln_cp, nn_cp, ln_wf, nn_wf, rd_wf, nn_nw]
  try rfl))
theorem jt_298_4 (h : am_H) (x0 x1 x2 : Int) : JJ 298 4 [(22, x0), (0, x1), (0, x2)] [] h = Mo_isSo_1 h x0 x1 (w32 (x2 + 1)) := (jj_of bk_298_4 _ _ h).trans ((ff_of bk_298_4 [(22, x0), (0, x1), (0, x2)] [] h).trans (by
  show (JJ 298 13 [(22, x0), (0, x1), (0, x2)] [] h) = _
  simp only [jt_298_13, ck_or1, ck_or2, rf_wr, ln_wr, nn_wr, rf_cp, ln_cp, nn_cp, ln_wf, nn_wf, rd_wf, nn_nw]
  try rfl))
set_option maxRecDepth 20000 in
theorem jt_298_3 (h : am_H) (x0 x1 x2 : Int) : JJ 298 3 [(22, x0), (0, x1), (0, x2)] [] h = ck_ (0 ≤ x0) (ck_ (0 ≤ (rf_ h x0 82)) (ck_ (0 ≤ (w32 (4 * x2)) ∧ (w32 (4 * x2)) < ln_ h (rf_ h x0 82)) (if (rd_ h (rf_ h x0 82) (w32 (4 * x2))) = x1 then ck_ (0 ≤ x0) (ck_ (0 ≤ (rf_ h x0 82)) (ck_ (0 ≤ (w32 ((w32 (4 * x2)) + 1)) ∧ (w32 ((w32 (4 * x2)) + 1)) < ln_ h (rf_ h x0 82)) (ck_ (0 ≤ x0) (bd_ (Mo_sizeAt h x0 1 (rd_ h (rf_ h x0 82) (w32 ((w32 (4 * x2)) + 1))) 0) fun h1 v2 => ck_ (0 ≤ x0) (ck_ (0 ≤ (rf_ h1 x0 82)) (ck_ (0 ≤ (w32 ((w32 (4 * x2)) + 2)) ∧ (w32 ((w32 (4 * x2)) + 2)) < ln_ h1 (rf_ h1 x0 82)) (if v2 ≠ (rd_ h1 (rf_ h1 x0 82) (w32 ((w32 (4 * x2)) + 2))) then Mo_isSo_8 h1 x0 x1 x2 0 else Mo_isSo_8 h1 x0 x1 x2 1))))))) else Mo_isSo_1 h x0 x1 (w32 (x2 + 1))))) := (jj_of bk_298_3 _ _ h).trans ((ff_of bk_298_3 [(22, x0), (0, x1), (0, x2)] [] h).trans (by
  show (ck_ (0 ≤ x0) (ck_ (0 ≤ (rf_ h x0 82)) (ck_ (0 ≤ (w32 (4 * x2)) ∧ (w32 (4 * x2)) < ln_ h (rf_ h x0 82)) (if (rd_ h (rf_ h x0 82) (w32 (4 * x2))) = x1 then JJ 298 5 [(22, x0), (0, x1), (0, x2)] [] h else JJ 298 4 [(22, x0), (0, x1), (0, x2)] [] h)))) = _
  simp only [jt_298_4, jt_298_5, ck_or1, ck_or2, rf_wr, ln_wr, nn_wr, rf_cp, ln_cp, nn_cp, ln_wf, nn_wf, rd_wf, nn_nw]
  try rfl))
set_option maxRecDepth 20000 in
theorem jt_298_2 (h : am_H) (x0 x1 x2 : Int) : JJ 298 2 [(22, x0), (0, x1), (0, x2)] [] h = ck_ (0 ≤ x0) (ck_ (0 ≤ (rf_ h x0 83)) (ck_ (0 ≤ x2 ∧ x2 < ln_ h (rf_ h x0 83)) (if (rd_ h (rf_ h x0 83) x2) = 0 then Mo_isSo_1 h x0 x1 (w32 (x2 + 1)) else ck_ (0 ≤ x0) (ck_ (0 ≤ (rf_ h x0 82)) (ck_ (0 ≤ (w32 (4 * x2)) ∧ (w32 (4 * x2)) < ln_ h (rf_ h x0 82)) (if (rd_ h (rf_ h x0 82) (w32 (4 * x2))) = x1 then ck_ (0 ≤ x0) (ck_ (0 ≤ (rf_ h x0 82)) (ck_ (0 ≤ (w32 ((w32 (4 * x2)) + 1)) ∧ (w32 ((w32 (4 * x2)) + 1)) < ln_ h (rf_ h x0 82)) (ck_ (0 ≤ x0) (bd_ (Mo_sizeAt h x0 1 (rd_ h (rf_ h x0 82) (w32 ((w32 (4 * x2)) + 1))) 0) fun h1 v2 => ck_ (0 ≤ x0) (ck_ (0 ≤ (rf_ h1 x0 82)) (ck_ (0 ≤ (w32 ((w32 (4 * x2)) + 2)) ∧ (w32 ((w32 (4 * x2)) + 2)) < ln_ h1 (rf_ h1 x0 82)) (if v2 ≠ (rd_ h1 (rf_ h1 x0 82) (w32 ((w32 (4 * x2)) + 2))) then Mo_isSo_8 h1 x0 x1 x2 0 else Mo_isSo_8 h1 x0 x1 x2 1))))))) else Mo_isSo_1 h x0 x1 (w32 (x2 + 1)))))))) := (jj_of bk_298_2 _ _ h).trans ((ff_of bk_298_2 [(22, x0), (0, x1), (0, x2)] [] h).trans (by
  show (ck_ (0 ≤ x0) (ck_ (0 ≤ (rf_ h x0 83)) (ck_ (0 ≤ x2 ∧ x2 < ln_ h (rf_ h x0 83)) (if (rd_ h (rf_ h x0 83) x2) = 0 then JJ 298 13 [(22, x0), (0, x1), (0, x2)] [] h else JJ 298 3 [(22, x0), (0, x1), (0, x2)] [] h)))) = _
  simp only [jt_298_13, jt_298_3, ck_or1, ck_or2, rf_wr, ln_wr, nn_wr, rf_cp, ln_cp, nn_cp, ln_wf, nn_wf, rd_wf, nn_nw]
  try rfl))
set_option maxRecDepth 20000 in
theorem Mo_isSo_1_e (h : am_H) (x0 x1 x2 : Int) : Mo_isSo_1 h x0 x1 x2 = ck_ (0 ≤ x0) (bd_ (Mo_knownBy h x0) fun h1 v2 => if v2 ≤ x2 then some (h1, 1) else ck_ (0 ≤ x0) (ck_ (0 ≤ (rf_ h1 x0 83)) (ck_ (0 ≤ x2 ∧ x2 < ln_ h1 (rf_ h1 x0 83)) (if (rd_ h1 (rf_ h1 x0 83) x2) = 0 then Mo_isSo_1 h1 x0 x1 (w32 (x2 + 1)) else ck_ (0 ≤ x0) (ck_ (0 ≤ (rf_ h1 x0 82)) (ck_ (0 ≤ (w32 (4 * x2)) ∧ (w32 (4 * x2)) < ln_ h1 (rf_ h1 x0 82)) (if (rd_ h1 (rf_ h1 x0 82) (w32 (4 * x2))) = x1 then ck_ (0 ≤ x0) (ck_ (0 ≤ (rf_ h1 x0 82)) (ck_ (0 ≤ (w32 ((w32 (4 * x2)) + 1)) ∧ (w32 ((w32 (4 * x2)) + 1)) < ln_ h1 (rf_ h1 x0 82)) (ck_ (0 ≤ x0) (bd_ (Mo_sizeAt h1 x0 1 (rd_ h1 (rf_ h1 x0 82) (w32 ((w32 (4 * x2)) + 1))) 0) fun h3 v4 => ck_ (0 ≤ x0) (ck_ (0 ≤ (rf_ h3 x0 82)) (ck_ (0 ≤ (w32 ((w32 (4 * x2)) + 2)) ∧ (w32 ((w32 (4 * x2)) + 2)) < ln_ h3 (rf_ h3 x0 82)) (if v4 ≠ (rd_ h3 (rf_ h3 x0 82) (w32 ((w32 (4 * x2)) + 2))) then Mo_isSo_8 h3 x0 x1 x2 0 else Mo_isSo_8 h3 x0 x1 x2 1))))))) else Mo_isSo_1 h1 x0 x1 (w32 (x2 + 1))))))))) := (ff_of bk_298_1 [(22, x0), (0, x1), (0, x2)] [] h).trans (by
  show (ck_ (0 ≤ x0) (bd_ (CC 297 [(22, x0)] h) fun h1 v2 => if v2 ≤ x2 then JJ 298 14 [(22, x0), (0, x1), (0, x2)] [] h1 else JJ 298 2 [(22, x0), (0, x1), (0, x2)] [] h1)) = _
  simp only [cc_297, jt_298_14, jt_298_2, ck_or1, ck_or2, rf_wr, ln_wr, nn_wr, rf_cp, ln_cp, nn_cp, ln_wf, nn_wf, rd_wf, nn_nw]
  try rfl)
theorem jt_298_12 (h : am_H) (d0 d1 d2 : am_V) : JJ 298 12 [d0, d1, d2] [] h = some (h, 0) := (jj_of bk_298_12 _ _ h).trans (ff_of bk_298_12 [(9, 0), (9, 0), (9, 0)] [] h)
theorem jt_298_11 (h : am_H) (x0 x1 x2 s0 s1 : Int) : JJ 298 11 [(22, x0), (0, x1), (0, x2)] [(0, s0), (0, s1)] h = if s1 = s0 then Mo_isSo_1 h x0 x1 (w32 (x2 + 1)) else some (h, 0) := (jj_of bk_298_11 _ _ h).trans ((ff_of bk_298_11 [(22, x0), (0, x1), (0, x2)] [(0, s0), (0, s1)] h).trans (by
  show (if s1 = s0 then JJ 298 13 [(22, x0), (0, x1), (0, x2)] [] h else JJ 298 12 [(22, x0), (0, x1), (0, x2)] [] h) = _
  simp only [jt_298_12, jt_298_13, ck_or1, ck_or2, rf_wr, ln_wr, nn_wr, rf_cp, ln_cp, nn_cp, ln_wf, nn_wf, rd_wf, nn_nw]
  try rfl))
theorem jt_298_10 (h : am_H) (x0 x1 x2 s0 : Int) : JJ 298 10 [(22, x0), (0, x1), (0, x2)] [(0, s0)] h = if s0 = 0 then Mo_isSo_1 h x0 x1 (w32 (x2 + 1)) else some (h, 0) := (jj_of bk_298_10 _ _ h).trans ((ff_of bk_298_10 [(22, x0), (0, x1), (0, x2)] [(0, s0)] h).trans (by
  show (JJ 298 11 [(22, x0), (0, x1), (0, x2)] [(0, 0), (0, s0)] h) = _
  simp only [jt_298_11, ck_or1, ck_or2, rf_wr, ln_wr, nn_wr, rf_cp, ln_cp, nn_cp, ln_wf, nn_wf, rd_wf, nn_nw]
  try rfl))
theorem jt_298_9 (h : am_H) (x0 x1 x2 s0 : Int) : JJ 298 9 [(22, x0), (0, x1), (0, x2)] [(0, s0)] h = if s0 = 1 then Mo_isSo_1 h x0 x1 (w32 (x2 + 1)) else some (h, 0) := (jj_of bk_298_9 _ _ h).trans ((ff_of bk_298_9 [(22, x0), (0, x1), (0, x2)] [(0, s0)] h).trans (by
  show (JJ 298 11 [(22, x0), (0, x1), (0, x2)] [(0, 1), (0, s0)] h) = _
  simp only [jt_298_11, ck_or1, ck_or2, rf_wr, ln_wr, nn_wr, rf_cp, ln_cp, nn_cp, ln_wf, nn_wf, rd_wf, nn_nw]
  try rfl))
theorem Mo_isSo_8_e (h : am_H) (x0 x1 x2 s0 : Int) : Mo_isSo_8 h x0 x1 x2 s0 = ck_ (0 ≤ x0) (ck_ (0 ≤ (rf_ h x0 82)) (ck_ (0 ≤ (w32 ((w32 (4 * x2)) + 3)) ∧ (w32 ((w32 (4 * x2)) + 3)) < ln_ h (rf_ h x0 82)) (if (rd_ h (rf_ h x0 82) (w32 ((w32 (4 * x2)) + 3))) ≠ 1 then (if s0 = 0 then Mo_isSo_1 h x0 x1 (w32 (x2 + 1)) else some (h, 0)) else if s0 = 1 then Mo_isSo_1 h x0 x1 (w32 (x2 + 1)) else some (h, 0)))) := (ff_of bk_298_8 [(22, x0), (0, x1), (0, x2)] [(0, s0)] h).trans (by
  show (ck_ (0 ≤ x0) (ck_ (0 ≤ (rf_ h x0 82)) (ck_ (0 ≤ (w32 ((w32 (4 * x2)) + 3)) ∧ (w32 ((w32 (4 * x2)) + 3)) < ln_ h (rf_ h x0 82)) (if (rd_ h (rf_ h x0 82) (w32 ((w32 (4 * x2)) + 3))) ≠ 1 then JJ 298 10 [(22, x0), (0, x1), (0, x2)] [(0, s0)] h else JJ 298 9 [(22, x0), (0, x1), (0, x2)] [(0, s0)] h)))) = _
  simp only [jt_298_10, jt_298_9, ck_or1, ck_or2, rf_wr, ln_wr, nn_wr, rf_cp, ln_cp, nn_cp, ln_wf, nn_wf, rd_wf, nn_nw]
  try rfl)
theorem cc_298 (h : am_H) (x0 x1 : Int) : CC 298 [(22, x0), (0, x1)] h = Mo_isSo h x0 x1 := cc_of pk_298 _ h
set_option maxRecDepth 20000 in
theorem pk_299 : am_prog 299 = some cd_299 := rfl
theorem bk_299_0 : bk_ am_prog 299 0 = some ([true, true, true], (bl_299_0, 9999)) := bk_of pk_299 rfl
theorem Mo_layDeep_e (h : am_H) (x0 x1 x2 : Int) : Mo_layDeep h x0 x1 x2 = ck_ (0 ≤ x0) (bd_ (Mo_atFirst h x0 1) fun h1 _ => ck_ (0 ≤ x0) (bd_ (Mo_plainTried h1 x0) fun h3 _ => ck_ (0 ≤ x0) (ck_ (0 ≤ x0) (some (wr_ (wr_ h3 x0 67 x1) x0 68 x2, 0))))) := (ff_of bk_299_0 [(22, x0), (0, x1), (0, x2)] [] h).trans (by
  show (ck_ (0 ≤ x0) (bd_ (CC 187 [(22, x0), (0, 1)] h) fun h1 _ => ck_ (0 ≤ x0) (bd_ (CC 188 [(22, x0)] h1) fun h3 _ => ck_ (0 ≤ x0) (ck_ (0 ≤ x0) (some (wr_ (wr_ h3 x0 67 x1) x0 68 x2, 0)))))) = _
  simp only [cc_187, cc_188, ck_or1, ck_or2, rf_wr, ln_wr, nn_wr, rf_cp, ln_cp, nn_cp, ln_wf, nn_wf, rd_wf, nn_nw]
  try rfl)
theorem cc_299 (h : am_H) (x0 x1 x2 : Int) : CC 299 [(22, x0), (0, x1), (0, x2)] h = Mo_layDeep h x0 x1 x2 := cc_of pk_299 _ h
set_option maxRecDepth 20000 in
theorem pk_300 : am_prog 300 = some cd_300 := rfl
theorem bk_300_0 : bk_ am_prog 300 0 = some ([true, true, true, false], (bl_300_0, 1)) := bk_of pk_300 rfl
theorem bk_300_1 : bk_ am_prog 300 1 = some ([true, false, false, true], (bl_300_1, 9999)) := bk_of pk_300 rfl
theorem bk_300_2 : bk_ am_prog 300 2 = some ([true, false, false, true], (bl_300_2, 9999)) := bk_of pk_300 rfl
theorem bk_300_3 : bk_ am_prog 300 3 = some ([false, false, false, false], (bl_300_3, 9999)) := bk_of pk_300 rfl
theorem bk_300_4 : bk_ am_prog 300 4 = some ([true, false, false, true], (bl_300_4, 9999)) := bk_of pk_300 rfl
theorem bk_300_5 : bk_ am_prog 300 5 = some ([false, false, false, false], (bl_300_5, 9999)) := bk_of pk_300 rfl
theorem jt_300_1 (h : am_H) (d1 d2 : am_V) (x0 x3 : Int) : JJ 300 1 [(22, x0), d1, d2, (0, x3)] [] h = Mo_fits_1 h x0 x3 := jj_of bk_300_1 _ _ h
theorem Mo_fits_e (h : am_H) (x0 x1 x2 : Int) : Mo_fits h x0 x1 x2 = ck_ (0 ≤ x0) (bd_ (Mo_layDeep h x0 x1 x2) fun h1 _ => Mo_fits_1 h1 x0 1) := (ff_of bk_300_0 [(22, x0), (0, x1), (0, x2), (9, 0)] [] h).trans (by
  show (ck_ (0 ≤ x0) (bd_ (CC 299 [(22, x0), (0, x1), (0, x2)] h) fun h1 _ => JJ 300 1 [(22, x0), (0, x1), (0, x2), (0, 1)] [] h1)) = _
  simp only [cc_299, jt_300_1, ck_or1, ck_or2, rf_wr, ln_wr, nn_wr, rf_cp, ln_cp, nn_cp, ln_wf, nn_wf, rd_wf, nn_nw]
  try rfl)
theorem jt_300_5 (h : am_H) (d0 d1 d2 d3 : am_V) : JJ 300 5 [d0, d1, d2, d3] [] h = some (h, 1) := (jj_of bk_300_5 _ _ h).trans (ff_of bk_300_5 [(9, 0), (9, 0), (9, 0), (9, 0)] [] h)
theorem jt_300_4 (h : am_H) (d1 d2 : am_V) (x0 x3 : Int) : JJ 300 4 [(22, x0), d1, d2, (0, x3)] [] h = Mo_fits_1 h x0 (w32 (x3 + 1)) := (jj_of bk_300_4 _ _ h).trans ((ff_of bk_300_4 [(22, x0), (9, 0), (9, 0), (0, x3)] [] h).trans (by
  show (JJ 300 1 [(22, x0), (9, 0), (9, 0), (0, w32 (x3 + 1))] [] h) = _
  simp only [jt_300_1, ck_or1, ck_or2, rf_wr, ln_wr, nn_wr, rf_cp, ln_cp, nn_cp, ln_wf, nn_wf, rd_wf, nn_nw]
  try rfl))
theorem jt_300_3 (h : am_H) (d0 d1 d2 d3 : am_V) : JJ 300 3 [d0, d1, d2, d3] [] h = some (h, 0) := (jj_of bk_300_3 _ _ h).trans (ff_of bk_300_3 [(9, 0), (9, 0), (9, 0), (9, 0)] [] h)
theorem jt_300_2 (h : am_H) (d1 d2 : am_V) (x0 x3 : Int) : JJ 300 2 [(22, x0), d1, d2, (0, x3)] [] h = ck_ (0 ≤ x0) (bd_ (Mo_minuteGoes h x0 1) fun h1 _ => ck_ (0 ≤ x0) (bd_ (Mo_isSo h1 x0 x3) fun h3 v4 => if v4 ≠ 0 then Mo_fits_1 h3 x0 (w32 (x3 + 1)) else some (h3, 0))) := (jj_of bk_300_2 _ _ h).trans ((ff_of bk_300_2 [(22, x0), (9, 0), (9, 0), (0, x3)] [] h).trans (by
  show (ck_ (0 ≤ x0) (bd_ (CC 253 [(22, x0), (0, 1)] h) fun h1 _ => ck_ (0 ≤ x0) (bd_ (CC 298 [(22, x0), (0, x3)] h1) fun h3 v4 => if v4 ≠ 0 then JJ 300 4 [(22, x0), (9, 0), (9, 0), (0, x3)] [] h3 else JJ 300 3 [(22, x0), (9, 0), (9, 0), (0, x3)] [] h3))) = _
  simp only [cc_298, cc_253, jt_300_3, jt_300_4, ck_or1, ck_or2, rf_wr, ln_wr, nn_wr, rf_cp, ln_cp, nn_cp, ln_wf, nn_wf, rd_wf, nn_nw]
  try rfl))
theorem Mo_fits_1_e (h : am_H) (x0 x3 : Int) : Mo_fits_1 h x0 x3 = if 60 < x3 then some (h, 1) else ck_ (0 ≤ x0) (bd_ (Mo_minuteGoes h x0 1) fun h1 _ => ck_ (0 ≤ x0) (bd_ (Mo_isSo h1 x0 x3) fun h3 v4 => if v4 ≠ 0 then Mo_fits_1 h3 x0 (w32 (x3 + 1)) else some (h3, 0))) := (ff_of bk_300_1 [(22, x0), (9, 0), (9, 0), (0, x3)] [] h).trans (by
  show (if 60 < x3 then JJ 300 5 [(22, x0), (9, 0), (9, 0), (0, x3)] [] h else JJ 300 2 [(22, x0), (9, 0), (9, 0), (0, x3)] [] h) = _
  simp only [jt_300_2, jt_300_5, ck_or1, ck_or2, rf_wr, ln_wr, nn_wr, rf_cp, ln_cp, nn_cp, ln_wf, nn_wf, rd_wf, nn_nw]
  try rfl)
theorem cc_300 (h : am_H) (x0 x1 x2 : Int) : CC 300 [(22, x0), (0, x1), (0, x2)] h = Mo_fits h x0 x1 x2 := cc_of pk_300 _ h
set_option maxRecDepth 20000 in
theorem pk_301 : am_prog 301 = some cd_301 := rfl
theorem bk_301_0 : bk_ am_prog 301 0 = some ([true, true, false, false], (bl_301_0, 1)) := bk_of pk_301 rfl
theorem bk_301_1 : bk_ am_prog 301 1 = some ([true, true, true, false], (bl_301_1, 9999)) := bk_of pk_301 rfl
theorem bk_301_2 : bk_ am_prog 301 2 = some ([true, true, true, false], (bl_301_2, 9999)) := bk_of pk_301 rfl
theorem bk_301_3 : bk_ am_prog 301 3 = some ([true, true, false, false], (bl_301_3, 4)) := bk_of pk_301 rfl
theorem bk_301_4 : bk_ am_prog 301 4 = some ([true, true, true, false], (bl_301_4, 9999)) := bk_of pk_301 rfl
theorem bk_301_5 : bk_ am_prog 301 5 = some ([true, true, true, false], (bl_301_5, 9999)) := bk_of pk_301 rfl
theorem bk_301_6 : bk_ am_prog 301 6 = some ([true, true, true, false], (bl_301_6, 9999)) := bk_of pk_301 rfl
theorem bk_301_7 : bk_ am_prog 301 7 = some ([true, true, true, false], (bl_301_7, 8)) := bk_of pk_301 rfl
theorem bk_301_8 : bk_ am_prog 301 8 = some ([true, true, true, false], (bl_301_8, 9999)) := bk_of pk_301 rfl
theorem bk_301_9 : bk_ am_prog 301 9 = some ([true, true, false, false], (bl_301_9, 10)) := bk_of pk_301 rfl
theorem bk_301_10 : bk_ am_prog 301 10 = some ([true, true, true, true], (bl_301_10, 9999)) := bk_of pk_301 rfl
theorem bk_301_11 : bk_ am_prog 301 11 = some ([true, true, true, true], (bl_301_11, 9999)) := bk_of pk_301 rfl
theorem bk_301_12 : bk_ am_prog 301 12 = some ([true, true, false, true], (bl_301_12, 9999)) := bk_of pk_301 rfl
theorem bk_301_13 : bk_ am_prog 301 13 = some ([true, true, false, true], (bl_301_13, 14)) := bk_of pk_301 rfl
theorem bk_301_14 : bk_ am_prog 301 14 = some ([true, true, false, true], (bl_301_14, 9999)) := bk_of pk_301 rfl
theorem bk_301_15 : bk_ am_prog 301 15 = some ([true, false, true, false], (bl_301_15, 9999)) := bk_of pk_301 rfl
theorem jt_301_1 (h : am_H) (d3 : am_V) (x0 x1 x2 : Int) : JJ 301 1 [(22, x0), (0, x1), (0, x2), d3] [] h = Mo_deepBits_1 h x0 x1 x2 := jj_of bk_301_1 _ _ h
theorem jt_301_4 (h : am_H) (d3 : am_V) (x0 x1 x2 : Int) : JJ 301 4 [(22, x0), (0, x1), (0, x2), d3] [] h = Mo_deepBits_4 h x0 x1 x2 := jj_of bk_301_4 _ _ h
theorem jt_301_10 (h : am_H) (x0 x1 x2 x3 : Int) : JJ 301 10 [(22, x0), (0, x1), (0, x2), (0, x3)] [] h = Mo_deepBits_10 h x0 x1 x2 x3 := jj_of bk_301_10 _ _ h
theorem Mo_deepBits_e (h : am_H) (x0 x1 : Int) : Mo_deepBits h x0 x1 = Mo_deepBits_1 h x0 x1 0 := (ff_of bk_301_0 [(22, x0), (0, x1), (9, 0), (9, 0)] [] h).trans (by
  show (JJ 301 1 [(22, x0), (0, x1), (0, 0), (9, 0)] [] h) = _
  simp only [jt_301_1, ck_or1, ck_or2, rf_wr, ln_wr, nn_wr, rf_cp, ln_cp, nn_cp, ln_wf, nn_wf, rd_wf, nn_nw]
  try rfl)
theorem jt_301_3 (h : am_H) (d2 d3 : am_V) (x0 x1 : Int) : JJ 301 3 [(22, x0), (0, x1), d2, d3] [] h = ck_ (0 ≤ x0) (bd_ (Mo_knownBy h x0) fun h1 v2 => Mo_deepBits_4 h1 x0 x1 (w32 (v2 - 1))) := (jj_of bk_301_3 _ _ h).trans ((ff_of bk_301_3 [(22, x0), (0, x1), (9, 0), (9, 0)] [] h).trans (by
  show (ck_ (0 ≤ x0) (bd_ (CC 297 [(22, x0)] h) fun h1 v2 => JJ 301 4 [(22, x0), (0, x1), (0, w32 (v2 - 1)), (9, 0)] [] h1)) = _
  simp only [cc_297, jt_301_4, ck_or1, ck_or2, rf_wr, ln_wr, nn_wr, rf_cp, ln_cp, nn_cp, ln_wf, nn_wf, rd_wf, nn_nw]
  try rfl))
theorem jt_301_2 (h : am_H) (d3 : am_V) (x0 x1 x2 : Int) : JJ 301 2 [(22, x0), (0, x1), (0, x2), d3] [] h = ck_ (0 ≤ x0) (ck_ (0 ≤ (rf_ h x0 83)) (ck_ (0 ≤ x2 ∧ x2 < ln_ h (rf_ h x0 83)) (Mo_deepBits_1 (wr_ h (rf_ h x0 83) x2 1) x0 x1 (w32 (x2 + 1))))) := (jj_of bk_301_2 _ _ h).trans ((ff_of bk_301_2 [(22, x0), (0, x1), (0, x2), (9, 0)] [] h).trans (by
  show (ck_ (0 ≤ x0) (ck_ (0 ≤ (rf_ h x0 83)) (ck_ (0 ≤ x2 ∧ x2 < ln_ h (rf_ h x0 83)) (JJ 301 1 [(22, x0), (0, x1), (0, w32 (x2 + 1)), (9, 0)] [] (wr_ h (rf_ h x0 83) x2 1))))) = _
  simp only [jt_301_1, ck_or1, ck_or2, rf_wr, ln_wr, nn_wr, rf_cp, ln_cp, nn_cp, ln_wf, nn_wf, rd_wf, nn_nw]
  try rfl))
theorem Mo_deepBits_1_e (h : am_H) (x0 x1 x2 : Int) : Mo_deepBits_1 h x0 x1 x2 = ck_ (0 ≤ x0) (bd_ (Mo_knownBy h x0) fun h1 v2 => if v2 ≤ x2 then ck_ (0 ≤ x0) (bd_ (Mo_knownBy h1 x0) fun h3 v4 => Mo_deepBits_4 h3 x0 x1 (w32 (v4 - 1))) else ck_ (0 ≤ x0) (ck_ (0 ≤ (rf_ h1 x0 83)) (ck_ (0 ≤ x2 ∧ x2 < ln_ h1 (rf_ h1 x0 83)) (Mo_deepBits_1 (wr_ h1 (rf_ h1 x0 83) x2 1) x0 x1 (w32 (x2 + 1)))))) := (ff_of bk_301_1 [(22, x0), (0, x1), (0, x2), (9, 0)] [] h).trans (by
  show (ck_ (0 ≤ x0) (bd_ (CC 297 [(22, x0)] h) fun h1 v2 => if v2 ≤ x2 then JJ 301 3 [(22, x0), (0, x1), (0, x2), (9, 0)] [] h1 else JJ 301 2 [(22, x0), (0, x1), (0, x2), (9, 0)] [] h1)) = _
  simp only [cc_297, jt_301_2, jt_301_3, ck_or1, ck_or2, rf_wr, ln_wr, nn_wr, rf_cp, ln_cp, nn_cp, ln_wf, nn_wf, rd_wf, nn_nw]
  try rfl)
theorem jt_301_9 (h : am_H) (d2 d3 : am_V) (x0 x1 : Int) : JJ 301 9 [(22, x0), (0, x1), d2, d3] [] h = Mo_deepBits_10 h x0 x1 0 1 := (jj_of bk_301_9 _ _ h).trans ((ff_of bk_301_9 [(22, x0), (0, x1), (9, 0), (9, 0)] [] h).trans (by
  show (JJ 301 10 [(22, x0), (0, x1), (0, 0), (0, 1)] [] h) = _
  simp only [jt_301_10, ck_or1, ck_or2, rf_wr, ln_wr, nn_wr, rf_cp, ln_cp, nn_cp, ln_wf, nn_wf, rd_wf, nn_nw]
  try rfl))
theorem jt_301_8 (h : am_H) (d3 : am_V) (x0 x1 x2 : Int) : JJ 301 8 [(22, x0), (0, x1), (0, x2), d3] [] h = Mo_deepBits_4 h x0 x1 (w32 (x2 + (-1))) := (jj_of bk_301_8 _ _ h).trans ((ff_of bk_301_8 [(22, x0), (0, x1), (0, x2), (9, 0)] [] h).trans (by
  show (JJ 301 4 [(22, x0), (0, x1), (0, w32 (x2 + (-1))), (9, 0)] [] h) = _
  simp only [jt_301_4, ck_or1, ck_or2, rf_wr, ln_wr, nn_wr, rf_cp, ln_cp, nn_cp, ln_wf, nn_wf, rd_wf, nn_nw]
  try rfl))
theorem jt_301_7 (h : am_H) (d3 : am_V) (x0 x1 x2 : Int) : JJ 301 7 [(22, x0), (0, x1), (0, x2), d3] [] h = ck_ (0 ≤ x0) (ck_ (0 ≤ x0) (ck_ (0 ≤ (rf_ h x0 82)) (ck_ (0 ≤ (w32 ((w32 (4 * x2)) + 1)) ∧ (w32 ((w32 (4 * x2)) + 1)) < ln_ h (rf_ h x0 82)) (ck_ (0 ≤ (rf_ h x0 83)) (ck_ (0 ≤ (rd_ h (rf_ h x0 82) (w32 ((w32 (4 * x2)) + 1))) ∧ (rd_ h (rf_ h x0 82) (w32 ((w32 (4 * x2)) + 1))) < ln_ h (rf_ h x0 83)) (Mo_deepBits_4 (wr_ h (rf_ h x0 83) (rd_ h (rf_ h x0 82) (w32 ((w32 (4 * x2)) + 1))) 0) x0 x1 (w32 (x2 + (-1))))))))) := (jj_of bk_301_7 _ _ h).trans ((ff_of bk_301_7 [(22, x0), (0, x1), (0, x2), (9, 0)] [] h).trans (by
  show (ck_ (0 ≤ x0) (ck_ (0 ≤ x0) (ck_ (0 ≤ (rf_ h x0 82)) (ck_ (0 ≤ (w32 ((w32 (4 * x2)) + 1)) ∧ (w32 ((w32 (4 * x2)) + 1)) < ln_ h (rf_ h x0 82)) (ck_ (0 ≤ (rf_ h x0 83)) (ck_ (0 ≤ (rd_ h (rf_ h x0 82) (w32 ((w32 (4 * x2)) + 1))) ∧ (rd_ h (rf_ h x0 82) (w32 ((w32 (4 * x2)) + 1))) < ln_ h (rf_ h x0 83)) (JJ 301 8 [(22, x0), (0, x1), (0, x2), (9, 0)] [] (wr_ h (rf_ h x0 83) (rd_ h (rf_ h x0 82) (w32 ((w32 (4 * x2)) + 1))) 0)))))))) = _
  simp only [jt_301_8, ck_or1, ck_or2, rf_wr, ln_wr, nn_wr, rf_cp, ln_cp, nn_cp, ln_wf, nn_wf, rd_wf, nn_nw]
  try rfl))
set_option maxRecDepth 20000 in
theorem jt_301_6 (h : am_H) (d3 : am_V) (x0 x1 x2 : Int) : JJ 301 6 [(22, x0), (0, x1), (0, x2), d3] [] h = ck_ (0 ≤ x0) (ck_ (0 ≤ (rf_ h x0 82)) (ck_ (0 ≤ (w32 (4 * x2)) ∧ (w32 (4 * x2)) < ln_ h (rf_ h x0 82)) (if 0 ≤ (rd_ h (rf_ h x0 82) (w32 (4 * x2))) then Mo_deepBits_4 h x0 x1 (w32 (x2 + (-1))) else ck_ (0 ≤ x0) (ck_ (0 ≤ x0) (ck_ (0 ≤ (rf_ h x0 82)) (ck_ (0 ≤ (w32 ((w32 (4 * x2)) + 1)) ∧ (w32 ((w32 (4 * x2)) + 1)) < ln_ h (rf_ h x0 82)) (ck_ (0 ≤ (rf_ h x0 83)) (ck_ (0 ≤ (rd_ h (rf_ h x0 82) (w32 ((w32 (4 * x2)) + 1))) ∧ (rd_ h (rf_ h x0 82) (w32 ((w32 (4 * x2)) + 1))) < ln_ h (rf_ h x0 83)) (Mo_deepBits_4 (wr_ h (rf_ h x0 83) (rd_ h (rf_ h x0 82) (w32 ((w32 (4 * x2)) + 1))) 0) x0 x1 (w32 (x2 + (-1)))))))))))) := (jj_of bk_301_6 _ _ h).trans ((ff_of bk_301_6 [(22, x0), (0, x1), (0, x2), (9, 0)] [] h).trans (by
  show (ck_ (0 ≤ x0) (ck_ (0 ≤ (rf_ h x0 82)) (ck_ (0 ≤ (w32 (4 * x2)) ∧ (w32 (4 * x2)) < ln_ h (rf_ h x0 82)) (if 0 ≤ (rd_ h (rf_ h x0 82) (w32 (4 * x2))) then JJ 301 8 [(22, x0), (0, x1), (0, x2), (9, 0)] [] h else JJ 301 7 [(22, x0), (0, x1), (0, x2), (9, 0)] [] h)))) = _
  simp only [jt_301_7, jt_301_8, ck_or1, ck_or2, rf_wr, ln_wr, nn_wr, rf_cp, ln_cp, nn_cp, ln_wf, nn_wf, rd_wf, nn_nw]
  try rfl))
set_option maxRecDepth 20000 in
theorem jt_301_5 (h : am_H) (d3 : am_V) (x0 x1 x2 : Int) : JJ 301 5 [(22, x0), (0, x1), (0, x2), d3] [] h = ck_ (0 ≤ x0) (ck_ (0 ≤ (rf_ h x0 83)) (ck_ (0 ≤ x2 ∧ x2 < ln_ h (rf_ h x0 83)) (if (rd_ h (rf_ h x0 83) x2) = 0 then Mo_deepBits_4 h x0 x1 (w32 (x2 + (-1))) else ck_ (0 ≤ x0) (ck_ (0 ≤ (rf_ h x0 82)) (ck_ (0 ≤ (w32 (4 * x2)) ∧ (w32 (4 * x2)) < ln_ h (rf_ h x0 82)) (if 0 ≤ (rd_ h (rf_ h x0 82) (w32 (4 * x2))) then Mo_deepBits_4 h x0 x1 (w32 (x2 + (-1))) else ck_ (0 ≤ x0) (ck_ (0 ≤ x0) (ck_ (0 ≤ (rf_ h x0 82)) (ck_ (0 ≤ (w32 ((w32 (4 * x2)) + 1)) ∧ (w32 ((w32 (4 * x2)) + 1)) < ln_ h (rf_ h x0 82)) (ck_ (0 ≤ (rf_ h x0 83)) (ck_ (0 ≤ (rd_ h (rf_ h x0 82) (w32 ((w32 (4 * x2)) + 1))) ∧ (rd_ h (rf_ h x0 82) (w32 ((w32 (4 * x2)) + 1))) < ln_ h (rf_ h x0 83)) (Mo_deepBits_4 (wr_ h (rf_ h x0 83) (rd_ h (rf_ h x0 82) (w32 ((w32 (4 * x2)) + 1))) 0) x0 x1 (w32 (x2 + (-1))))))))))))))) := (jj_of bk_301_5 _ _ h).trans ((ff_of bk_301_5 [(22, x0), (0, x1), (0, x2), (9, 0)] [] h).trans (by
  show (ck_ (0 ≤ x0) (ck_ (0 ≤ (rf_ h x0 83)) (ck_ (0 ≤ x2 ∧ x2 < ln_ h (rf_ h x0 83)) (if (rd_ h (rf_ h x0 83) x2) = 0 then JJ 301 8 [(22, x0), (0, x1), (0, x2), (9, 0)] [] h else JJ 301 6 [(22, x0), (0, x1), (0, x2), (9, 0)] [] h)))) = _
  simp only [jt_301_6, jt_301_8, ck_or1, ck_or2, rf_wr, ln_wr, nn_wr, rf_cp, ln_cp, nn_cp, ln_wf, nn_wf, rd_wf, nn_nw]
  try rfl))
set_option maxRecDepth 20000 in
theorem Mo_deepBits_4_e (h : am_H) (x0 x1 x2 : Int) : Mo_deepBits_4 h x0 x1 x2 = if x2 < 0 then Mo_deepBits_10 h x0 x1 0 1 else ck_ (0 ≤ x0) (ck_ (0 ≤ (rf_ h x0 83)) (ck_ (0 ≤ x2 ∧ x2 < ln_ h (rf_ h x0 83)) (if (rd_ h (rf_ h x0 83) x2) = 0 then Mo_deepBits_4 h x0 x1 (w32 (x2 + (-1))) else ck_ (0 ≤ x0) (ck_ (0 ≤ (rf_ h x0 82)) (ck_ (0 ≤ (w32 (4 * x2)) ∧ (w32 (4 * x2)) < ln_ h (rf_ h x0 82)) (if 0 ≤ (rd_ h (rf_ h x0 82) (w32 (4 * x2))) then Mo_deepBits_4 h x0 x1 (w32 (x2 + (-1))) else ck_ (0 ≤ x0) (ck_ (0 ≤ x0) (ck_ (0 ≤ (rf_ h x0 82)) (ck_ (0 ≤ (w32 ((w32 (4 * x2)) + 1)) ∧ (w32 ((w32 (4 * x2)) + 1)) < ln_ h (rf_ h x0 82)) (ck_ (0 ≤ (rf_ h x0 83)) (ck_ (0 ≤ (rd_ h (rf_ h x0 82) (w32 ((w32 (4 * x2)) + 1))) ∧ (rd_ h (rf_ h x0 82) (w32 ((w32 (4 * x2)) + 1))) < ln_ h (rf_ h x0 83)) (Mo_deepBits_4 (wr_ h (rf_ h x0 83) (rd_ h (rf_ h x0 82) (w32 ((w32 (4 * x2)) + 1))) 0) x0 x1 (w32 (x2 + (-1))))))))))))))) := (ff_of bk_301_4 [(22, x0), (0, x1), (0, x2), (9, 0)] [] h).trans (by
  show (if x2 < 0 then JJ 301 9 [(22, x0), (0, x1), (0, x2), (9, 0)] [] h else JJ 301 5 [(22, x0), (0, x1), (0, x2), (9, 0)] [] h) = _
  simp only [jt_301_5, jt_301_9, ck_or1, ck_or2, rf_wr, ln_wr, nn_wr, rf_cp, ln_cp, nn_cp, ln_wf, nn_wf, rd_wf, nn_nw]
  try rfl)
theorem jt_301_15 (h : am_H) (d1 d3 : am_V) (x0 x2 : Int) : JJ 301 15 [(22, x0), d1, (0, x2), d3] [] h = ck_ (0 ≤ x0) (bd_ (Mo_plainTried h x0) fun h1 _ => some (h1, x2)) := (jj_of bk_301_15 _ _ h).trans ((ff_of bk_301_15 [(22, x0), (9, 0), (0, x2), (9, 0)] [] h).trans (by
  show (ck_ (0 ≤ x0) (bd_ (CC 188 [(22, x0)] h) fun h1 _ => some (h1, x2))) = _
  simp only [cc_188, ck_or1, ck_or2, rf_wr, ln_wr, nn_wr, rf_cp, ln_cp, nn_cp, ln_wf, nn_wf, rd_wf, nn_nw]
  try rfl))
theorem jt_301_14 (h : am_H) (d2 : am_V) (x0 x1 x3 s0 s1 : Int) : JJ 301 14 [(22, x0), (0, x1), d2, (0, x3)] [(0, s0), (0, s1)] h = Mo_deepBits_10 h x0 x1 (or_ s1 s0) (w32 (x3 + 1)) := (jj_of bk_301_14 _ _ h).trans ((ff_of bk_301_14 [(22, x0), (0, x1), (9, 0), (0, x3)] [(0, s0), (0, s1)] h).trans (by
  show (JJ 301 10 [(22, x0), (0, x1), (0, or_ s1 s0), (0, w32 (x3 + 1))] [] h) = _
  simp only [jt_301_10, ck_or1, ck_or2, rf_wr, ln_wr, nn_wr, rf_cp, ln_cp, nn_cp, ln_wf, nn_wf, rd_wf, nn_nw]
  try rfl))
theorem jt_301_13 (h : am_H) (d2 : am_V) (x0 x1 x3 s0 : Int) : JJ 301 13 [(22, x0), (0, x1), d2, (0, x3)] [(0, s0)] h = Mo_deepBits_10 h x0 x1 (or_ s0 0) (w32 (x3 + 1)) := (jj_of bk_301_13 _ _ h).trans ((ff_of bk_301_13 [(22, x0), (0, x1), (9, 0), (0, x3)] [(0, s0)] h).trans (by
  show (JJ 301 14 [(22, x0), (0, x1), (9, 0), (0, x3)] [(0, 0), (0, s0)] h) = _
  simp only [jt_301_14, ck_or1, ck_or2, rf_wr, ln_wr, nn_wr, rf_cp, ln_cp, nn_cp, ln_wf, nn_wf, rd_wf, nn_nw]
  try rfl))
set_option maxRecDepth 20000 in
theorem jt_301_12 (h : am_H) (d2 : am_V) (x0 x1 x3 s0 : Int) : JJ 301 12 [(22, x0), (0, x1), d2, (0, x3)] [(0, s0)] h = Mo_deepBits_10 h x0 x1 (or_ s0 (w32 (1 * 2 ^ ((w32 (x3 - 1)) % 32 : Int).toNat))) (w32 (x3 + 1)) := (jj_of bk_301_12 _ _ h).trans ((ff_of bk_301_12 [(22, x0), (0, x1), (9, 0), (0, x3)] [(0, s0)] h).trans (by
  show (JJ 301 14 [(22, x0), (0, x1), (9, 0), (0, x3)] [(0, w32 (1 * 2 ^ ((w32 (x3 - 1)) % 32 : Int).toNat)), (0, s0)] h) = _
  simp only [jt_301_14, ck_or1, ck_or2, rf_wr, ln_wr, nn_wr, rf_cp, ln_cp, nn_cp, ln_wf, nn_wf, rd_wf, nn_nw]
  try rfl))
set_option maxRecDepth 20000 in
theorem jt_301_11 (h : am_H) (x0 x1 x2 x3 : Int) : JJ 301 11 [(22, x0), (0, x1), (0, x2), (0, x3)] [] h = ck_ (0 ≤ x0) (bd_ (Mo_fits h x0 x1 x3) fun h1 v2 => if v2 = 0 then Mo_deepBits_10 h1 x0 x1 (or_ x2 0) (w32 (x3 + 1)) else Mo_deepBits_10 h1 x0 x1 (or_ x2 (w32 (1 * 2 ^ ((w32 (x3 - 1)) % 32 : Int).toNat))) (w32 (x3 + 1))) := (jj_of bk_301_11 _ _ h).trans ((ff_of bk_301_11 [(22, x0), (0, x1), (0, x2), (0, x3)] [] h).trans (by
  show (ck_ (0 ≤ x0) (bd_ (CC 300 [(22, x0), (0, x1), (0, x3)] h) fun h1 v2 => if v2 = 0 then JJ 301 13 [(22, x0), (0, x1), (0, x2), (0, x3)] [(0, x2)] h1 else JJ 301 12 [(22, x0), (0, x1), (0, x2), (0, x3)] [(0, x2)] h1)) = _
  simp only [cc_300, jt_301_12, jt_301_13, ck_or1, ck_or2, rf_wr, ln_wr, nn_wr, rf_cp, ln_cp, nn_cp, ln_wf, nn_wf, rd_wf, nn_nw]
  try rfl))
set_option maxRecDepth 20000 in
theorem Mo_deepBits_10_e (h : am_H) (x0 x1 x2 x3 : Int) : Mo_deepBits_10 h x0 x1 x2 x3 = if 6 ≤ x3 then ck_ (0 ≤ x0) (bd_ (Mo_plainTried h x0) fun h1 _ => some (h1, x2)) else ck_ (0 ≤ x0) (bd_ (Mo_fits h x0 x1 x3) fun h3 v4 => if v4 = 0 then Mo_deepBits_10 h3 x0 x1 (or_ x2 0) (w32 (x3 + 1)) else Mo_deepBits_10 h3 x0 x1 (or_ x2 (w32 (1 * 2 ^ ((w32 (x3 - 1)) % 32 : Int).toNat))) (w32 (x3 + 1))) := (ff_of bk_301_10 [(22, x0), (0, x1), (0, x2), (0, x3)] [] h).trans (by
  show (if 6 ≤ x3 then JJ 301 15 [(22, x0), (0, x1), (0, x2), (0, x3)] [] h else JJ 301 11 [(22, x0), (0, x1), (0, x2), (0, x3)] [] h) = _
  simp only [jt_301_11, jt_301_15, ck_or1, ck_or2, rf_wr, ln_wr, nn_wr, rf_cp, ln_cp, nn_cp, ln_wf, nn_wf, rd_wf, nn_nw]
  try rfl)
theorem cc_301 (h : am_H) (x0 x1 : Int) : CC 301 [(22, x0), (0, x1)] h = Mo_deepBits h x0 x1 := cc_of pk_301 _ h
set_option maxRecDepth 20000 in
theorem pk_302 : am_prog 302 = some cd_302 := rfl
theorem bk_302_0 : bk_ am_prog 302 0 = some ([true, true], (bl_302_0, 9999)) := bk_of pk_302 rfl
theorem bk_302_1 : bk_ am_prog 302 1 = some ([true, true], (bl_302_1, 9999)) := bk_of pk_302 rfl
theorem bk_302_2 : bk_ am_prog 302 2 = some ([false, false], (bl_302_2, 3)) := bk_of pk_302 rfl
theorem bk_302_3 : bk_ am_prog 302 3 = some ([false, false], (bl_302_3, 9999)) := bk_of pk_302 rfl
theorem jt_302_3 (h : am_H) (d0 d1 : am_V) (s0 : Int) : JJ 302 3 [d0, d1] [(0, s0)] h = some (h, s0) := (jj_of bk_302_3 _ _ h).trans (ff_of bk_302_3 [(9, 0), (9, 0)] [(0, s0)] h)
theorem jt_302_2 (h : am_H) (d0 d1 : am_V) : JJ 302 2 [d0, d1] [] h = some (h, (-1)) := (jj_of bk_302_2 _ _ h).trans ((ff_of bk_302_2 [(9, 0), (9, 0)] [] h).trans (by
  show (JJ 302 3 [(9, 0), (9, 0)] [(0, (-1))] h) = _
  simp only [jt_302_3, ck_or1, ck_or2, rf_wr, ln_wr, nn_wr, rf_cp, ln_cp, nn_cp, ln_wf, nn_wf, rd_wf, nn_nw]
  try rfl))
theorem jt_302_1 (h : am_H) (x0 x1 : Int) : JJ 302 1 [(22, x0), (0, x1)] [] h = ck_ (0 ≤ x0) (bd_ (Mo_deepBits h x0 x1) fun h1 v2 => some (h1, v2)) := (jj_of bk_302_1 _ _ h).trans ((ff_of bk_302_1 [(22, x0), (0, x1)] [] h).trans (by
  show (ck_ (0 ≤ x0) (bd_ (CC 301 [(22, x0), (0, x1)] h) fun h1 v2 => JJ 302 3 [(22, x0), (0, x1)] [(0, v2)] h1)) = _
  simp only [cc_301, jt_302_3, ck_or1, ck_or2, rf_wr, ln_wr, nn_wr, rf_cp, ln_cp, nn_cp, ln_wf, nn_wf, rd_wf, nn_nw]
  try rfl))
theorem Mo_deep_e (h : am_H) (x0 x1 : Int) : Mo_deep h x0 x1 = ck_ (0 ≤ x0) (ck_ (0 ≤ x0) (bd_ (Mo_isTurn (wr_ h x0 2 0) x0 x1) fun h1 v2 => if v2 = 0 then some (h1, (-1)) else ck_ (0 ≤ x0) (bd_ (Mo_deepBits h1 x0 x1) fun h3 v4 => some (h3, v4)))) := (ff_of bk_302_0 [(22, x0), (0, x1)] [] h).trans (by
  show (ck_ (0 ≤ x0) (ck_ (0 ≤ x0) (bd_ (CC 237 [(22, x0), (0, x1)] (wr_ h x0 2 0)) fun h1 v2 => if v2 = 0 then JJ 302 2 [(22, x0), (0, x1)] [] h1 else JJ 302 1 [(22, x0), (0, x1)] [] h1))) = _
  simp only [cc_237, jt_302_1, jt_302_2, ck_or1, ck_or2, rf_wr, ln_wr, nn_wr, rf_cp, ln_cp, nn_cp, ln_wf, nn_wf, rd_wf, nn_nw]
  try rfl)
theorem cc_302 (h : am_H) (x0 x1 : Int) : CC 302 [(22, x0), (0, x1)] h = Mo_deep h x0 x1 := cc_of pk_302 _ h
set_option maxRecDepth 20000 in
theorem pk_303 : am_prog 303 = some cd_303 := rfl
theorem bk_303_0 : bk_ am_prog 303 0 = some ([true, true, true, false, false, false, false], (bl_303_0, 1)) := bk_of pk_303 rfl
theorem bk_303_1 : bk_ am_prog 303 1 = some ([true, true, true, true, true, false, false], (bl_303_1, 9999)) := bk_of pk_303 rfl
theorem bk_303_2 : bk_ am_prog 303 2 = some ([true, true, true, true, true, false, false], (bl_303_2, 3)) := bk_of pk_303 rfl
theorem bk_303_3 : bk_ am_prog 303 3 = some ([true, true, true, true, true, true, true], (bl_303_3, 9999)) := bk_of pk_303 rfl
theorem bk_303_4 : bk_ am_prog 303 4 = some ([true, true, true, true, true, true, true], (bl_303_4, 9999)) := bk_of pk_303 rfl
theorem bk_303_5 : bk_ am_prog 303 5 = some ([true, true, true, true, true, false, true], (bl_303_5, 9999)) := bk_of pk_303 rfl
theorem bk_303_6 : bk_ am_prog 303 6 = some ([true, true, true, true, true, false, true], (bl_303_6, 9999)) := bk_of pk_303 rfl
theorem bk_303_7 : bk_ am_prog 303 7 = some ([true, true, true, true, true, false, true], (bl_303_7, 9999)) := bk_of pk_303 rfl
theorem bk_303_8 : bk_ am_prog 303 8 = some ([true, true, true, true, true, false, true], (bl_303_8, 9)) := bk_of pk_303 rfl
theorem bk_303_9 : bk_ am_prog 303 9 = some ([true, true, true, true, true, false, true], (bl_303_9, 9999)) := bk_of pk_303 rfl
theorem bk_303_10 : bk_ am_prog 303 10 = some ([true, true, true, true, true, true, false], (bl_303_10, 9999)) := bk_of pk_303 rfl
theorem bk_303_11 : bk_ am_prog 303 11 = some ([true, true, true, false, true, true, false], (bl_303_11, 9999)) := bk_of pk_303 rfl
theorem bk_303_12 : bk_ am_prog 303 12 = some ([true, true, true, true, true, false, false], (bl_303_12, 13)) := bk_of pk_303 rfl
theorem bk_303_13 : bk_ am_prog 303 13 = some ([true, true, true, false, true, false, false], (bl_303_13, 9999)) := bk_of pk_303 rfl
theorem bk_303_14 : bk_ am_prog 303 14 = some ([false, false, false, true, false, false, false], (bl_303_14, 9999)) := bk_of pk_303 rfl
theorem jt_303_1 (h : am_H) (d5 d6 : am_V) (x0 x1 x2 x3 x4 : Int) : JJ 303 1 [(22, x0), (0, x1), (0, x2), (0, x3), (0, x4), d5, d6] [] h = Mo_worstAt_1 h x0 x1 x2 x3 x4 := jj_of bk_303_1 _ _ h
theorem jt_303_3 (h : am_H) (x0 x1 x2 x3 x4 x5 x6 : Int) : JJ 303 3 [(22, x0), (0, x1), (0, x2), (0, x3), (0, x4), (0, x5), (0, x6)] [] h = Mo_worstAt_3 h x0 x1 x2 x3 x4 x5 x6 := jj_of bk_303_3 _ _ h
theorem Mo_worstAt_e (h : am_H) (x0 x1 x2 : Int) : Mo_worstAt h x0 x1 x2 = Mo_worstAt_1 h x0 x1 x2 0 0 := (ff_of bk_303_0 [(22, x0), (0, x1), (0, x2), (9, 0), (9, 0), (9, 0), (9, 0)] [] h).trans (by
  show (JJ 303 1 [(22, x0), (0, x1), (0, x2), (0, 0), (0, 0), (9, 0), (9, 0)] [] h) = _
  simp only [jt_303_1, ck_or1, ck_or2, rf_wr, ln_wr, nn_wr, rf_cp, ln_cp, nn_cp, ln_wf, nn_wf, rd_wf, nn_nw]
  try rfl)
theorem jt_303_14 (h : am_H) (d0 d1 d2 d4 d5 d6 : am_V) (x3 : Int) : JJ 303 14 [d0, d1, d2, (0, x3), d4, d5, d6] [] h = some (h, x3) := (jj_of bk_303_14 _ _ h).trans (ff_of bk_303_14 [(9, 0), (9, 0), (9, 0), (0, x3), (9, 0), (9, 0), (9, 0)] [] h)
theorem jt_303_2 (h : am_H) (d5 d6 : am_V) (x0 x1 x2 x3 x4 : Int) : JJ 303 2 [(22, x0), (0, x1), (0, x2), (0, x3), (0, x4), d5, d6] [] h = Mo_worstAt_3 h x0 x1 x2 x3 x4 0 0 := (jj_of bk_303_2 _ _ h).trans ((ff_of bk_303_2 [(22, x0), (0, x1), (0, x2), (0, x3), (0, x4), (9, 0), (9, 0)] [] h).trans (by
  show (JJ 303 3 [(22, x0), (0, x1), (0, x2), (0, x3), (0, x4), (0, 0), (0, 0)] [] h) = _
  simp only [jt_303_3, ck_or1, ck_or2, rf_wr, ln_wr, nn_wr, rf_cp, ln_cp, nn_cp, ln_wf, nn_wf, rd_wf, nn_nw]
  try rfl))
theorem Mo_worstAt_1_e (h : am_H) (x0 x1 x2 x3 x4 : Int) : Mo_worstAt_1 h x0 x1 x2 x3 x4 = if 5 ≤ x4 then some (h, x3) else Mo_worstAt_3 h x0 x1 x2 x3 x4 0 0 := (ff_of bk_303_1 [(22, x0), (0, x1), (0, x2), (0, x3), (0, x4), (9, 0), (9, 0)] [] h).trans (by
  show (if 5 ≤ x4 then JJ 303 14 [(22, x0), (0, x1), (0, x2), (0, x3), (0, x4), (9, 0), (9, 0)] [] h else JJ 303 2 [(22, x0), (0, x1), (0, x2), (0, x3), (0, x4), (9, 0), (9, 0)] [] h) = _
  simp only [jt_303_14, jt_303_2, ck_or1, ck_or2, rf_wr, ln_wr, nn_wr, rf_cp, ln_cp, nn_cp, ln_wf, nn_wf, rd_wf, nn_nw]
  try rfl)
theorem jt_303_13 (h : am_H) (d3 d5 d6 : am_V) (x0 x1 x2 x4 s0 : Int) : JJ 303 13 [(22, x0), (0, x1), (0, x2), d3, (0, x4), d5, d6] [(0, s0)] h = Mo_worstAt_1 h x0 x1 x2 s0 (w32 (x4 + 1)) := (jj_of bk_303_13 _ _ h).trans ((ff_of bk_303_13 [(22, x0), (0, x1), (0, x2), (9, 0), (0, x4), (9, 0), (9, 0)] [(0, s0)] h).trans (by
  show (JJ 303 1 [(22, x0), (0, x1), (0, x2), (0, s0), (0, w32 (x4 + 1)), (9, 0), (9, 0)] [] h) = _
  simp only [jt_303_1, ck_or1, ck_or2, rf_wr, ln_wr, nn_wr, rf_cp, ln_cp, nn_cp, ln_wf, nn_wf, rd_wf, nn_nw]
  try rfl))
theorem jt_303_12 (h : am_H) (d5 d6 : am_V) (x0 x1 x2 x3 x4 : Int) : JJ 303 12 [(22, x0), (0, x1), (0, x2), (0, x3), (0, x4), d5, d6] [] h = Mo_worstAt_1 h x0 x1 x2 x3 (w32 (x4 + 1)) := (jj_of bk_303_12 _ _ h).trans ((ff_of bk_303_12 [(22, x0), (0, x1), (0, x2), (0, x3), (0, x4), (9, 0), (9, 0)] [] h).trans (by
  show (JJ 303 13 [(22, x0), (0, x1), (0, x2), (0, x3), (0, x4), (9, 0), (9, 0)] [(0, x3)] h) = _
  simp only [jt_303_13, ck_or1, ck_or2, rf_wr, ln_wr, nn_wr, rf_cp, ln_cp, nn_cp, ln_wf, nn_wf, rd_wf, nn_nw]
  try rfl))
theorem jt_303_11 (h : am_H) (d3 d6 : am_V) (x0 x1 x2 x4 x5 : Int) : JJ 303 11 [(22, x0), (0, x1), (0, x2), d3, (0, x4), (0, x5), d6] [] h = Mo_worstAt_1 h x0 x1 x2 x5 (w32 (x4 + 1)) := (jj_of bk_303_11 _ _ h).trans ((ff_of bk_303_11 [(22, x0), (0, x1), (0, x2), (9, 0), (0, x4), (0, x5), (9, 0)] [] h).trans (by
  show (JJ 303 13 [(22, x0), (0, x1), (0, x2), (9, 0), (0, x4), (0, x5), (9, 0)] [(0, x5)] h) = _
  simp only [jt_303_13, ck_or1, ck_or2, rf_wr, ln_wr, nn_wr, rf_cp, ln_cp, nn_cp, ln_wf, nn_wf, rd_wf, nn_nw]
  try rfl))
theorem jt_303_10 (h : am_H) (d6 : am_V) (x0 x1 x2 x3 x4 x5 : Int) : JJ 303 10 [(22, x0), (0, x1), (0, x2), (0, x3), (0, x4), (0, x5), d6] [] h = if x5 ≤ x3 then Mo_worstAt_1 h x0 x1 x2 x3 (w32 (x4 + 1)) else Mo_worstAt_1 h x0 x1 x2 x5 (w32 (x4 + 1)) := (jj_of bk_303_10 _ _ h).trans ((ff_of bk_303_10 [(22, x0), (0, x1), (0, x2), (0, x3), (0, x4), (0, x5), (9, 0)] [] h).trans (by
  show (if x5 ≤ x3 then JJ 303 12 [(22, x0), (0, x1), (0, x2), (0, x3), (0, x4), (0, x5), (9, 0)] [] h else JJ 303 11 [(22, x0), (0, x1), (0, x2), (0, x3), (0, x4), (0, x5), (9, 0)] [] h) = _
  simp only [jt_303_11, jt_303_12, ck_or1, ck_or2, rf_wr, ln_wr, nn_wr, rf_cp, ln_cp, nn_cp, ln_wf, nn_wf, rd_wf, nn_nw]
  try rfl))
theorem jt_303_9 (h : am_H) (d5 : am_V) (x0 x1 x2 x3 x4 x6 s0 s1 : Int) : JJ 303 9 [(22, x0), (0, x1), (0, x2), (0, x3), (0, x4), d5, (0, x6)] [(0, s0), (0, s1)] h = Mo_worstAt_3 h x0 x1 x2 x3 x4 (w32 (s1 + s0)) (w32 (x6 + 1)) := (jj_of bk_303_9 _ _ h).trans ((ff_of bk_303_9 [(22, x0), (0, x1), (0, x2), (0, x3), (0, x4), (9, 0), (0, x6)] [(0, s0), (0, s1)] h).trans (by
  show (JJ 303 3 [(22, x0), (0, x1), (0, x2), (0, x3), (0, x4), (0, w32 (s1 + s0)), (0, w32 (x6 + 1))] [] h) = _
  simp only [jt_303_3, ck_or1, ck_or2, rf_wr, ln_wr, nn_wr, rf_cp, ln_cp, nn_cp, ln_wf, nn_wf, rd_wf, nn_nw]
  try rfl))
theorem jt_303_8 (h : am_H) (d5 : am_V) (x0 x1 x2 x3 x4 x6 s0 : Int) : JJ 303 8 [(22, x0), (0, x1), (0, x2), (0, x3), (0, x4), d5, (0, x6)] [(0, s0)] h = Mo_worstAt_3 h x0 x1 x2 x3 x4 (w32 (s0 + 0)) (w32 (x6 + 1)) := (jj_of bk_303_8 _ _ h).trans ((ff_of bk_303_8 [(22, x0), (0, x1), (0, x2), (0, x3), (0, x4), (9, 0), (0, x6)] [(0, s0)] h).trans (by
  show (JJ 303 9 [(22, x0), (0, x1), (0, x2), (0, x3), (0, x4), (9, 0), (0, x6)] [(0, 0), (0, s0)] h) = _
  simp only [jt_303_9, ck_or1, ck_or2, rf_wr, ln_wr, nn_wr, rf_cp, ln_cp, nn_cp, ln_wf, nn_wf, rd_wf, nn_nw]
  try rfl))
theorem jt_303_7 (h : am_H) (d5 : am_V) (x0 x1 x2 x3 x4 x6 s0 : Int) : JJ 303 7 [(22, x0), (0, x1), (0, x2), (0, x3), (0, x4), d5, (0, x6)] [(0, s0)] h = Mo_worstAt_3 h x0 x1 x2 x3 x4 (w32 (s0 + 1)) (w32 (x6 + 1)) := (jj_of bk_303_7 _ _ h).trans ((ff_of bk_303_7 [(22, x0), (0, x1), (0, x2), (0, x3), (0, x4), (9, 0), (0, x6)] [(0, s0)] h).trans (by
  show (JJ 303 9 [(22, x0), (0, x1), (0, x2), (0, x3), (0, x4), (9, 0), (0, x6)] [(0, 1), (0, s0)] h) = _
  simp only [jt_303_9, ck_or1, ck_or2, rf_wr, ln_wr, nn_wr, rf_cp, ln_cp, nn_cp, ln_wf, nn_wf, rd_wf, nn_nw]
  try rfl))
set_option maxRecDepth 20000 in
theorem jt_303_6 (h : am_H) (d5 : am_V) (x0 x1 x2 x3 x4 x6 s0 : Int) : JJ 303 6 [(22, x0), (0, x1), (0, x2), (0, x3), (0, x4), d5, (0, x6)] [(0, s0)] h = ck_ (0 ≤ x0) (ck_ (0 ≤ (rf_ h x0 84)) (ck_ (0 ≤ (w32 ((w32 (5 * x4)) + x1)) ∧ (w32 ((w32 (5 * x4)) + x1)) < ln_ h (rf_ h x0 84)) (ck_ (0 ≤ x0) (ck_ (0 ≤ (rf_ h x0 84)) (ck_ (0 ≤ (w32 ((w32 (5 * x6)) + x1)) ∧ (w32 ((w32 (5 * x6)) + x1)) < ln_ h (rf_ h x0 84)) (if (rd_ h (rf_ h x0 84) (w32 ((w32 (5 * x4)) + x1))) ≠ (rd_ h (rf_ h x0 84) (w32 ((w32 (5 * x6)) + x1))) then Mo_worstAt_3 h x0 x1 x2 x3 x4 (w32 (s0 + 0)) (w32 (x6 + 1)) else Mo_worstAt_3 h x0 x1 x2 x3 x4 (w32 (s0 + 1)) (w32 (x6 + 1)))))))) := (jj_of bk_303_6 _ _ h).trans ((ff_of bk_303_6 [(22, x0), (0, x1), (0, x2), (0, x3), (0, x4), (9, 0), (0, x6)] [(0, s0)] h).trans (by
  show (ck_ (0 ≤ x0) (ck_ (0 ≤ (rf_ h x0 84)) (ck_ (0 ≤ (w32 ((w32 (5 * x4)) + x1)) ∧ (w32 ((w32 (5 * x4)) + x1)) < ln_ h (rf_ h x0 84)) (ck_ (0 ≤ x0) (ck_ (0 ≤ (rf_ h x0 84)) (ck_ (0 ≤ (w32 ((w32 (5 * x6)) + x1)) ∧ (w32 ((w32 (5 * x6)) + x1)) < ln_ h (rf_ h x0 84)) (if (rd_ h (rf_ h x0 84) (w32 ((w32 (5 * x4)) + x1))) ≠ (rd_ h (rf_ h x0 84) (w32 ((w32 (5 * x6)) + x1))) then JJ 303 8 [(22, x0), (0, x1), (0, x2), (0, x3), (0, x4), (9, 0), (0, x6)] [(0, s0)] h else JJ 303 7 [(22, x0), (0, x1), (0, x2), (0, x3), (0, x4), (9, 0), (0, x6)] [(0, s0)] h))))))) = _
  simp only [jt_303_7, jt_303_8, ck_or1, ck_or2, rf_wr, ln_wr, nn_wr, rf_cp, ln_cp, nn_cp, ln_wf, nn_wf, rd_wf, nn_nw]
  try rfl))
set_option maxRecDepth 20000 in
theorem jt_303_5 (h : am_H) (d5 : am_V) (x0 x1 x2 x3 x4 x6 s0 : Int) : JJ 303 5 [(22, x0), (0, x1), (0, x2), (0, x3), (0, x4), d5, (0, x6)] [(0, s0)] h = bd_ (Mo_isOf h x2 x6) fun h1 v2 => if v2 = 0 then Mo_worstAt_3 h1 x0 x1 x2 x3 x4 (w32 (s0 + 0)) (w32 (x6 + 1)) else ck_ (0 ≤ x0) (ck_ (0 ≤ (rf_ h1 x0 84)) (ck_ (0 ≤ (w32 ((w32 (5 * x4)) + x1)) ∧ (w32 ((w32 (5 * x4)) + x1)) < ln_ h1 (rf_ h1 x0 84)) (ck_ (0 ≤ x0) (ck_ (0 ≤ (rf_ h1 x0 84)) (ck_ (0 ≤ (w32 ((w32 (5 * x6)) + x1)) ∧ (w32 ((w32 (5 * x6)) + x1)) < ln_ h1 (rf_ h1 x0 84)) (if (rd_ h1 (rf_ h1 x0 84) (w32 ((w32 (5 * x4)) + x1))) ≠ (rd_ h1 (rf_ h1 x0 84) (w32 ((w32 (5 * x6)) + x1))) then Mo_worstAt_3 h1 x0 x1 x2 x3 x4 (w32 (s0 + 0)) (w32 (x6 + 1)) else Mo_worstAt_3 h1 x0 x1 x2 x3 x4 (w32 (s0 + 1)) (w32 (x6 + 1)))))))) := (jj_of bk_303_5 _ _ h).trans ((ff_of bk_303_5 [(22, x0), (0, x1), (0, x2), (0, x3), (0, x4), (9, 0), (0, x6)] [(0, s0)] h).trans (by
  show (bd_ (CC 197 [(0, x2), (0, x6)] h) fun h1 v2 => if v2 = 0 then JJ 303 8 [(22, x0), (0, x1), (0, x2), (0, x3), (0, x4), (9, 0), (0, x6)] [(0, s0)] h1 else JJ 303 6 [(22, x0), (0, x1), (0, x2), (0, x3), (0, x4), (9, 0), (0, x6)] [(0, s0)] h1) = _
  simp only [cc_197, jt_303_6, jt_303_8, ck_or1, ck_or2, rf_wr, ln_wr, nn_wr, rf_cp, ln_cp, nn_cp, ln_wf, nn_wf, rd_wf, nn_nw]
  try rfl))
set_option maxRecDepth 20000 in
theorem jt_303_4 (h : am_H) (x0 x1 x2 x3 x4 x5 x6 : Int) : JJ 303 4 [(22, x0), (0, x1), (0, x2), (0, x3), (0, x4), (0, x5), (0, x6)] [] h = bd_ (Mo_isOf h x2 x4) fun h1 v2 => if v2 = 0 then Mo_worstAt_3 h1 x0 x1 x2 x3 x4 (w32 (x5 + 0)) (w32 (x6 + 1)) else bd_ (Mo_isOf h1 x2 x6) fun h3 v4 => if v4 = 0 then Mo_worstAt_3 h3 x0 x1 x2 x3 x4 (w32 (x5 + 0)) (w32 (x6 + 1)) else ck_ (0 ≤ x0) (ck_ (0 ≤ (rf_ h3 x0 84)) (ck_ (0 ≤ (w32 ((w32 (5 * x4)) + x1)) ∧ (w32 ((w32 (5 * x4)) + x1)) < ln_ h3 (rf_ h3 x0 84)) (ck_ (0 ≤ x0) (ck_ (0 ≤ (rf_ h3 x0 84)) (ck_ (0 ≤ (w32 ((w32 (5 * x6)) + x1)) ∧ (w32 ((w32 (5 * x6)) + x1)) < ln_ h3 (rf_ h3 x0 84)) (if (rd_ h3 (rf_ h3 x0 84) (w32 ((w32 (5 * x4)) + x1))) ≠ (rd_ h3 (rf_ h3 x0 84) (w32 ((w32 (5 * x6)) + x1))) then Mo_worstAt_3 h3 x0 x1 x2 x3 x4 (w32 (x5 + 0)) (w32 (x6 + 1)) else Mo_worstAt_3 h3 x0 x1 x2 x3 x4 (w32 (x5 + 1)) (w32 (x6 + 1)))))))) := (jj_of bk_303_4 _ _ h).trans ((ff_of bk_303_4 [(22, x0), (0, x1), (0, x2), (0, x3), (0, x4), (0, x5), (0, x6)] [] h).trans (by
  show (bd_ (CC 197 [(0, x2), (0, x4)] h) fun h1 v2 => if v2 = 0 then JJ 303 8 [(22, x0), (0, x1), (0, x2), (0, x3), (0, x4), (0, x5), (0, x6)] [(0, x5)] h1 else JJ 303 5 [(22, x0), (0, x1), (0, x2), (0, x3), (0, x4), (0, x5), (0, x6)] [(0, x5)] h1) = _
  simp only [cc_197, jt_303_5, jt_303_8, ck_or1, ck_or2, rf_wr, ln_wr, nn_wr, rf_cp, ln_cp, nn_cp, ln_wf, nn_wf, rd_wf, nn_nw]
  try rfl))
set_option maxRecDepth 20000 in
theorem Mo_worstAt_3_e (h : am_H) (x0 x1 x2 x3 x4 x5 x6 : Int) : Mo_worstAt_3 h x0 x1 x2 x3 x4 x5 x6 = if 5 ≤ x6 then (if x5 ≤ x3 then Mo_worstAt_1 h x0 x1 x2 x3 (w32 (x4 + 1)) else Mo_worstAt_1 h x0 x1 x2 x5 (w32 (x4 + 1))) else bd_ (Mo_isOf h x2 x4) fun h1 v2 => if v2 = 0 then Mo_worstAt_3 h1 x0 x1 x2 x3 x4 (w32 (x5 + 0)) (w32 (x6 + 1)) else bd_ (Mo_isOf h1 x2 x6) fun h3 v4 => if v4 = 0 then Mo_worstAt_3 h3 x0 x1 x2 x3 x4 (w32 (x5 + 0)) (w32 (x6 + 1)) else ck_ (0 ≤ x0) (ck_ (0 ≤ (rf_ h3 x0 84)) (ck_ (0 ≤ (w32 ((w32 (5 * x4)) + x1)) ∧ (w32 ((w32 (5 * x4)) + x1)) < ln_ h3 (rf_ h3 x0 84)) (ck_ (0 ≤ x0) (ck_ (0 ≤ (rf_ h3 x0 84)) (ck_ (0 ≤ (w32 ((w32 (5 * x6)) + x1)) ∧ (w32 ((w32 (5 * x6)) + x1)) < ln_ h3 (rf_ h3 x0 84)) (if (rd_ h3 (rf_ h3 x0 84) (w32 ((w32 (5 * x4)) + x1))) ≠ (rd_ h3 (rf_ h3 x0 84) (w32 ((w32 (5 * x6)) + x1))) then Mo_worstAt_3 h3 x0 x1 x2 x3 x4 (w32 (x5 + 0)) (w32 (x6 + 1)) else Mo_worstAt_3 h3 x0 x1 x2 x3 x4 (w32 (x5 + 1)) (w32 (x6 + 1)))))))) := (ff_of bk_303_3 [(22, x0), (0, x1), (0, x2), (0, x3), (0, x4), (0, x5), (0, x6)] [] h).trans (by
  show (if 5 ≤ x6 then JJ 303 10 [(22, x0), (0, x1), (0, x2), (0, x3), (0, x4), (0, x5), (0, x6)] [] h else JJ 303 4 [(22, x0), (0, x1), (0, x2), (0, x3), (0, x4), (0, x5), (0, x6)] [] h) = _
  simp only [jt_303_10, jt_303_4, ck_or1, ck_or2, rf_wr, ln_wr, nn_wr, rf_cp, ln_cp, nn_cp, ln_wf, nn_wf, rd_wf, nn_nw]
  try rfl)
theorem cc_303 (h : am_H) (x0 x1 x2 : Int) : CC 303 [(22, x0), (0, x1), (0, x2)] h = Mo_worstAt h x0 x1 x2 := cc_of pk_303 _ h
set_option maxRecDepth 20000 in
theorem pk_304 : am_prog 304 = some cd_304 := rfl
theorem bk_304_0 : bk_ am_prog 304 0 = some ([true, true, true, true, false, false, false], (bl_304_0, 9999)) := bk_of pk_304 rfl
theorem bk_304_1 : bk_ am_prog 304 1 = some ([true, true, true, true, false, false, false], (bl_304_1, 9999)) := bk_of pk_304 rfl
theorem bk_304_2 : bk_ am_prog 304 2 = some ([true, true, true, true, false, false, false], (bl_304_2, 9999)) := bk_of pk_304 rfl
theorem bk_304_3 : bk_ am_prog 304 3 = some ([false, false, false, false, false, false, false], (bl_304_3, 9999)) := bk_of pk_304 rfl
theorem bk_304_4 : bk_ am_prog 304 4 = some ([true, true, true, true, false, false, false], (bl_304_4, 5)) := bk_of pk_304 rfl
theorem bk_304_5 : bk_ am_prog 304 5 = some ([true, true, true, true, true, true, false], (bl_304_5, 9999)) := bk_of pk_304 rfl
theorem bk_304_6 : bk_ am_prog 304 6 = some ([true, true, true, true, true, true, false], (bl_304_6, 7)) := bk_of pk_304 rfl
theorem bk_304_7 : bk_ am_prog 304 7 = some ([true, true, true, true, true, true, true], (bl_304_7, 9999)) := bk_of pk_304 rfl
theorem bk_304_8 : bk_ am_prog 304 8 = some ([true, true, true, true, true, true, true], (bl_304_8, 9999)) := bk_of pk_304 rfl
theorem bk_304_9 : bk_ am_prog 304 9 = some ([true, true, true, true, true, true, false], (bl_304_9, 9999)) := bk_of pk_304 rfl
theorem bk_304_10 : bk_ am_prog 304 10 = some ([true, false, false, true, true, false, false], (bl_304_10, 11)) := bk_of pk_304 rfl
theorem bk_304_11 : bk_ am_prog 304 11 = some ([true, false, false, true, true, true, true], (bl_304_11, 9999)) := bk_of pk_304 rfl
theorem bk_304_12 : bk_ am_prog 304 12 = some ([true, false, false, true, true, true, true], (bl_304_12, 9999)) := bk_of pk_304 rfl
theorem bk_304_13 : bk_ am_prog 304 13 = some ([true, false, false, true, true, false, true], (bl_304_13, 9999)) := bk_of pk_304 rfl
theorem bk_304_14 : bk_ am_prog 304 14 = some ([true, false, false, true, true, true, true], (bl_304_14, 15)) := bk_of pk_304 rfl
theorem bk_304_15 : bk_ am_prog 304 15 = some ([true, false, false, true, true, false, true], (bl_304_15, 9999)) := bk_of pk_304 rfl
theorem bk_304_16 : bk_ am_prog 304 16 = some ([true, false, false, true, true, true, false], (bl_304_16, 9999)) := bk_of pk_304 rfl
theorem bk_304_17 : bk_ am_prog 304 17 = some ([false, false, false, false, false, true, false], (bl_304_17, 9999)) := bk_of pk_304 rfl
theorem bk_304_18 : bk_ am_prog 304 18 = some ([true, false, false, false, true, true, false], (bl_304_18, 19)) := bk_of pk_304 rfl
theorem bk_304_19 : bk_ am_prog 304 19 = some ([false, false, false, false, false, false, false], (bl_304_19, 9999)) := bk_of pk_304 rfl
theorem jt_304_5 (h : am_H) (d6 : am_V) (x0 x1 x2 x3 x4 x5 : Int) : JJ 304 5 [(22, x0), (0, x1), (0, x2), (0, x3), (0, x4), (0, x5), d6] [] h = Mo_ask_5 h x0 x1 x2 x3 x4 x5 := jj_of bk_304_5 _ _ h
theorem jt_304_7 (h : am_H) (x0 x1 x2 x3 x4 x5 x6 : Int) : JJ 304 7 [(22, x0), (0, x1), (0, x2), (0, x3), (0, x4), (0, x5), (0, x6)] [] h = Mo_ask_7 h x0 x1 x2 x3 x4 x5 x6 := jj_of bk_304_7 _ _ h
theorem jt_304_11 (h : am_H) (d1 d2 : am_V) (x0 x3 x4 x5 x6 : Int) : JJ 304 11 [(22, x0), d1, d2, (0, x3), (0, x4), (0, x5), (0, x6)] [] h = Mo_ask_11 h x0 x3 x4 x5 x6 := jj_of bk_304_11 _ _ h
theorem jt_304_3 (h : am_H) (d0 d1 d2 d3 d4 d5 d6 : am_V) : JJ 304 3 [d0, d1, d2, d3, d4, d5, d6] [] h = some (h, (-1)) := (jj_of bk_304_3 _ _ h).trans (ff_of bk_304_3 [(9, 0), (9, 0), (9, 0), (9, 0), (9, 0), (9, 0), (9, 0)] [] h)
theorem jt_304_4 (h : am_H) (d4 d5 d6 : am_V) (x0 x1 x2 x3 : Int) : JJ 304 4 [(22, x0), (0, x1), (0, x2), (0, x3), d4, d5, d6] [] h = ck_ (0 ≤ x0) (bd_ (Mo_deepBits h x0 x1) fun h1 v2 => Mo_ask_5 h1 x0 x1 x2 x3 v2 0) := (jj_of bk_304_4 _ _ h).trans ((ff_of bk_304_4 [(22, x0), (0, x1), (0, x2), (0, x3), (9, 0), (9, 0), (9, 0)] [] h).trans (by
  show (ck_ (0 ≤ x0) (bd_ (CC 301 [(22, x0), (0, x1)] h) fun h1 v2 => JJ 304 5 [(22, x0), (0, x1), (0, x2), (0, x3), (0, v2), (0, 0), (9, 0)] [] h1)) = _
  simp only [cc_301, jt_304_5, ck_or1, ck_or2, rf_wr, ln_wr, nn_wr, rf_cp, ln_cp, nn_cp, ln_wf, nn_wf, rd_wf, nn_nw]
  try rfl))
theorem jt_304_2 (h : am_H) (d4 d5 d6 : am_V) (x0 x1 x2 x3 : Int) : JJ 304 2 [(22, x0), (0, x1), (0, x2), (0, x3), d4, d5, d6] [] h = bd_ (Mo_isIn h x3 0 1) fun h1 v2 => if v2 ≠ 0 then ck_ (0 ≤ x0) (bd_ (Mo_deepBits h1 x0 x1) fun h3 v4 => Mo_ask_5 h3 x0 x1 x2 x3 v4 0) else some (h1, (-1)) := (jj_of bk_304_2 _ _ h).trans ((ff_of bk_304_2 [(22, x0), (0, x1), (0, x2), (0, x3), (9, 0), (9, 0), (9, 0)] [] h).trans (by
  show (bd_ (CC 196 [(0, x3), (0, 0), (0, 1)] h) fun h1 v2 => if v2 ≠ 0 then JJ 304 4 [(22, x0), (0, x1), (0, x2), (0, x3), (9, 0), (9, 0), (9, 0)] [] h1 else JJ 304 3 [(22, x0), (0, x1), (0, x2), (0, x3), (9, 0), (9, 0), (9, 0)] [] h1) = _
  simp only [cc_196, jt_304_3, jt_304_4, ck_or1, ck_or2, rf_wr, ln_wr, nn_wr, rf_cp, ln_cp, nn_cp, ln_wf, nn_wf, rd_wf, nn_nw]
  try rfl))
theorem jt_304_1 (h : am_H) (d4 d5 d6 : am_V) (x0 x1 x2 x3 : Int) : JJ 304 1 [(22, x0), (0, x1), (0, x2), (0, x3), d4, d5, d6] [] h = bd_ (Mo_isIn h x2 1 60) fun h1 v2 => if v2 = 0 then some (h1, (-1)) else bd_ (Mo_isIn h1 x3 0 1) fun h3 v4 => if v4 ≠ 0 then ck_ (0 ≤ x0) (bd_ (Mo_deepBits h3 x0 x1) fun h5 v6 => Mo_ask_5 h5 x0 x1 x2 x3 v6 0) else some (h3, (-1)) := (jj_of bk_304_1 _ _ h).trans ((ff_of bk_304_1 [(22, x0), (0, x1), (0, x2), (0, x3), (9, 0), (9, 0), (9, 0)] [] h).trans (by
  show (bd_ (CC 196 [(0, x2), (0, 1), (0, 60)] h) fun h1 v2 => if v2 = 0 then JJ 304 3 [(22, x0), (0, x1), (0, x2), (0, x3), (9, 0), (9, 0), (9, 0)] [] h1 else JJ 304 2 [(22, x0), (0, x1), (0, x2), (0, x3), (9, 0), (9, 0), (9, 0)] [] h1) = _
  simp only [cc_196, jt_304_2, jt_304_3, ck_or1, ck_or2, rf_wr, ln_wr, nn_wr, rf_cp, ln_cp, nn_cp, ln_wf, nn_wf, rd_wf, nn_nw]
  try rfl))
theorem Mo_ask_e (h : am_H) (x0 x1 x2 x3 : Int) : Mo_ask h x0 x1 x2 x3 = ck_ (0 ≤ x0) (ck_ (0 ≤ x0) (bd_ (Mo_isTurn (wr_ h x0 2 0) x0 x1) fun h1 v2 => if v2 = 0 then some (h1, (-1)) else bd_ (Mo_isIn h1 x2 1 60) fun h3 v4 => if v4 = 0 then some (h3, (-1)) else bd_ (Mo_isIn h3 x3 0 1) fun h5 v6 => if v6 ≠ 0 then ck_ (0 ≤ x0) (bd_ (Mo_deepBits h5 x0 x1) fun h7 v8 => Mo_ask_5 h7 x0 x1 x2 x3 v8 0) else some (h5, (-1)))) := (ff_of bk_304_0 [(22, x0), (0, x1), (0, x2), (0, x3), (9, 0), (9, 0), (9, 0)] [] h).trans (by
  show (ck_ (0 ≤ x0) (ck_ (0 ≤ x0) (bd_ (CC 237 [(22, x0), (0, x1)] (wr_ h x0 2 0)) fun h1 v2 => if v2 = 0 then JJ 304 3 [(22, x0), (0, x1), (0, x2), (0, x3), (9, 0), (9, 0), (9, 0)] [] h1 else JJ 304 1 [(22, x0), (0, x1), (0, x2), (0, x3), (9, 0), (9, 0), (9, 0)] [] h1))) = _
  simp only [cc_237, jt_304_1, jt_304_3, ck_or1, ck_or2, rf_wr, ln_wr, nn_wr, rf_cp, ln_cp, nn_cp, ln_wf, nn_wf, rd_wf, nn_nw]
  try rfl)
theorem jt_304_10 (h : am_H) (d1 d2 d5 d6 : am_V) (x0 x3 x4 : Int) : JJ 304 10 [(22, x0), d1, d2, (0, x3), (0, x4), d5, d6] [] h = ck_ (0 ≤ x0) (bd_ (Mo_plainTried h x0) fun h1 _ => Mo_ask_11 h1 x0 x3 x4 0 1) := (jj_of bk_304_10 _ _ h).trans ((ff_of bk_304_10 [(22, x0), (9, 0), (9, 0), (0, x3), (0, x4), (9, 0), (9, 0)] [] h).trans (by
  show (ck_ (0 ≤ x0) (bd_ (CC 188 [(22, x0)] h) fun h1 _ => JJ 304 11 [(22, x0), (9, 0), (9, 0), (0, x3), (0, x4), (0, 0), (0, 1)] [] h1)) = _
  simp only [cc_188, jt_304_11, ck_or1, ck_or2, rf_wr, ln_wr, nn_wr, rf_cp, ln_cp, nn_cp, ln_wf, nn_wf, rd_wf, nn_nw]
  try rfl))
theorem jt_304_6 (h : am_H) (d6 : am_V) (x0 x1 x2 x3 x4 x5 : Int) : JJ 304 6 [(22, x0), (0, x1), (0, x2), (0, x3), (0, x4), (0, x5), d6] [] h = ck_ (0 ≤ x0) (bd_ (Mo_layDeep h x0 x1 (w32 (x5 + 1))) fun h1 _ => ck_ (0 ≤ x0) (bd_ (Mo_goMany h1 x0 x2) fun h3 _ => Mo_ask_7 h3 x0 x1 x2 x3 x4 x5 0)) := (jj_of bk_304_6 _ _ h).trans ((ff_of bk_304_6 [(22, x0), (0, x1), (0, x2), (0, x3), (0, x4), (0, x5), (9, 0)] [] h).trans (by
  show (ck_ (0 ≤ x0) (bd_ (CC 299 [(22, x0), (0, x1), (0, w32 (x5 + 1))] h) fun h1 _ => ck_ (0 ≤ x0) (bd_ (CC 254 [(22, x0), (0, x2)] h1) fun h3 _ => JJ 304 7 [(22, x0), (0, x1), (0, x2), (0, x3), (0, x4), (0, x5), (0, 0)] [] h3))) = _
  simp only [cc_254, cc_299, jt_304_7, ck_or1, ck_or2, rf_wr, ln_wr, nn_wr, rf_cp, ln_cp, nn_cp, ln_wf, nn_wf, rd_wf, nn_nw]
  try rfl))
theorem Mo_ask_5_e (h : am_H) (x0 x1 x2 x3 x4 x5 : Int) : Mo_ask_5 h x0 x1 x2 x3 x4 x5 = if 5 ≤ x5 then ck_ (0 ≤ x0) (bd_ (Mo_plainTried h x0) fun h1 _ => Mo_ask_11 h1 x0 x3 x4 0 1) else ck_ (0 ≤ x0) (bd_ (Mo_layDeep h x0 x1 (w32 (x5 + 1))) fun h3 _ => ck_ (0 ≤ x0) (bd_ (Mo_goMany h3 x0 x2) fun h5 _ => Mo_ask_7 h5 x0 x1 x2 x3 x4 x5 0)) := (ff_of bk_304_5 [(22, x0), (0, x1), (0, x2), (0, x3), (0, x4), (0, x5), (9, 0)] [] h).trans (by
  show (if 5 ≤ x5 then JJ 304 10 [(22, x0), (0, x1), (0, x2), (0, x3), (0, x4), (0, x5), (9, 0)] [] h else JJ 304 6 [(22, x0), (0, x1), (0, x2), (0, x3), (0, x4), (0, x5), (9, 0)] [] h) = _
  simp only [jt_304_10, jt_304_6, ck_or1, ck_or2, rf_wr, ln_wr, nn_wr, rf_cp, ln_cp, nn_cp, ln_wf, nn_wf, rd_wf, nn_nw]
  try rfl)
theorem jt_304_9 (h : am_H) (d6 : am_V) (x0 x1 x2 x3 x4 x5 : Int) : JJ 304 9 [(22, x0), (0, x1), (0, x2), (0, x3), (0, x4), (0, x5), d6] [] h = Mo_ask_5 h x0 x1 x2 x3 x4 (w32 (x5 + 1)) := (jj_of bk_304_9 _ _ h).trans ((ff_of bk_304_9 [(22, x0), (0, x1), (0, x2), (0, x3), (0, x4), (0, x5), (9, 0)] [] h).trans (by
  show (JJ 304 5 [(22, x0), (0, x1), (0, x2), (0, x3), (0, x4), (0, w32 (x5 + 1)), (9, 0)] [] h) = _
  simp only [jt_304_5, ck_or1, ck_or2, rf_wr, ln_wr, nn_wr, rf_cp, ln_cp, nn_cp, ln_wf, nn_wf, rd_wf, nn_nw]
  try rfl))
set_option maxRecDepth 20000 in
theorem jt_304_8 (h : am_H) (x0 x1 x2 x3 x4 x5 x6 : Int) : JJ 304 8 [(22, x0), (0, x1), (0, x2), (0, x3), (0, x4), (0, x5), (0, x6)] [] h = ck_ (0 ≤ x0) (ck_ (0 ≤ x0) (ck_ (0 ≤ (rf_ h x0 32)) (ck_ (0 ≤ x1 ∧ x1 < ln_ h (rf_ h x0 32)) (ck_ (0 ≤ x0) (bd_ (Mo_sizeAt h x0 1 (rd_ h (rf_ h x0 32) x1) x6) fun h1 v2 => ck_ (0 ≤ (rf_ h x0 84)) (ck_ (0 ≤ (w32 ((w32 (5 * x5)) + x6)) ∧ (w32 ((w32 (5 * x5)) + x6)) < ln_ h1 (rf_ h x0 84)) (Mo_ask_7 (wr_ h1 (rf_ h x0 84) (w32 ((w32 (5 * x5)) + x6)) v2) x0 x1 x2 x3 x4 x5 (w32 (x6 + 1))))))))) := (jj_of bk_304_8 _ _ h).trans ((ff_of bk_304_8 [(22, x0), (0, x1), (0, x2), (0, x3), (0, x4), (0, x5), (0, x6)] [] h).trans (by
  show (ck_ (0 ≤ x0) (ck_ (0 ≤ x0) (ck_ (0 ≤ (rf_ h x0 32)) (ck_ (0 ≤ x1 ∧ x1 < ln_ h (rf_ h x0 32)) (ck_ (0 ≤ x0) (bd_ (CC 240 [(22, x0), (0, 1), (0, rd_ h (rf_ h x0 32) x1), (0, x6)] h) fun h1 v2 => ck_ (0 ≤ (rf_ h x0 84)) (ck_ (0 ≤ (w32 ((w32 (5 * x5)) + x6)) ∧ (w32 ((w32 (5 * x5)) + x6)) < ln_ h1 (rf_ h x0 84)) (JJ 304 7 [(22, x0), (0, x1), (0, x2), (0, x3), (0, x4), (0, x5), (0, w32 (x6 + 1))] [] (wr_ h1 (rf_ h x0 84) (w32 ((w32 (5 * x5)) + x6)) v2))))))))) = _
  simp only [cc_240, jt_304_7, ck_or1, ck_or2, rf_wr, ln_wr, nn_wr, rf_cp, ln_cp, nn_cp, ln_wf, nn_wf, rd_wf, nn_nw]
  try rfl))
theorem Mo_ask_7_e (h : am_H) (x0 x1 x2 x3 x4 x5 x6 : Int) : Mo_ask_7 h x0 x1 x2 x3 x4 x5 x6 = if 5 ≤ x6 then Mo_ask_5 h x0 x1 x2 x3 x4 (w32 (x5 + 1)) else ck_ (0 ≤ x0) (ck_ (0 ≤ x0) (ck_ (0 ≤ (rf_ h x0 32)) (ck_ (0 ≤ x1 ∧ x1 < ln_ h (rf_ h x0 32)) (ck_ (0 ≤ x0) (bd_ (Mo_sizeAt h x0 1 (rd_ h (rf_ h x0 32) x1) x6) fun h1 v2 => ck_ (0 ≤ (rf_ h x0 84)) (ck_ (0 ≤ (w32 ((w32 (5 * x5)) + x6)) ∧ (w32 ((w32 (5 * x5)) + x6)) < ln_ h1 (rf_ h x0 84)) (Mo_ask_7 (wr_ h1 (rf_ h x0 84) (w32 ((w32 (5 * x5)) + x6)) v2) x0 x1 x2 x3 x4 x5 (w32 (x6 + 1))))))))) := (ff_of bk_304_7 [(22, x0), (0, x1), (0, x2), (0, x3), (0, x4), (0, x5), (0, x6)] [] h).trans (by
  show (if 5 ≤ x6 then JJ 304 9 [(22, x0), (0, x1), (0, x2), (0, x3), (0, x4), (0, x5), (0, x6)] [] h else JJ 304 8 [(22, x0), (0, x1), (0, x2), (0, x3), (0, x4), (0, x5), (0, x6)] [] h) = _
  simp only [jt_304_8, jt_304_9, ck_or1, ck_or2, rf_wr, ln_wr, nn_wr, rf_cp, ln_cp, nn_cp, ln_wf, nn_wf, rd_wf, nn_nw]
  try rfl)
theorem jt_304_19 (h : am_H) (d0 d1 d2 d3 d4 d5 d6 : am_V) (s0 : Int) : JJ 304 19 [d0, d1, d2, d3, d4, d5, d6] [(0, s0)] h = some (h, s0) := (jj_of bk_304_19 _ _ h).trans (ff_of bk_304_19 [(9, 0), (9, 0), (9, 0), (9, 0), (9, 0), (9, 0), (9, 0)] [(0, s0)] h)
theorem jt_304_18 (h : am_H) (d1 d2 d3 d6 : am_V) (x0 x4 x5 : Int) : JJ 304 18 [(22, x0), d1, d2, d3, (0, x4), (0, x5), d6] [] h = ck_ (0 ≤ x0) (bd_ (Mo_worstAt h x0 x5 x4) fun h1 v2 => some (h1, v2)) := (jj_of bk_304_18 _ _ h).trans ((ff_of bk_304_18 [(22, x0), (9, 0), (9, 0), (9, 0), (0, x4), (0, x5), (9, 0)] [] h).trans (by
  show (ck_ (0 ≤ x0) (bd_ (CC 303 [(22, x0), (0, x5), (0, x4)] h) fun h1 v2 => JJ 304 19 [(22, x0), (9, 0), (9, 0), (9, 0), (0, x4), (0, x5), (9, 0)] [(0, v2)] h1)) = _
  simp only [cc_303, jt_304_19, ck_or1, ck_or2, rf_wr, ln_wr, nn_wr, rf_cp, ln_cp, nn_cp, ln_wf, nn_wf, rd_wf, nn_nw]
  try rfl))
theorem jt_304_17 (h : am_H) (d0 d1 d2 d3 d4 d6 : am_V) (x5 : Int) : JJ 304 17 [d0, d1, d2, d3, d4, (0, x5), d6] [] h = some (h, x5) := (jj_of bk_304_17 _ _ h).trans ((ff_of bk_304_17 [(9, 0), (9, 0), (9, 0), (9, 0), (9, 0), (0, x5), (9, 0)] [] h).trans (by
  show (JJ 304 19 [(9, 0), (9, 0), (9, 0), (9, 0), (9, 0), (0, x5), (9, 0)] [(0, x5)] h) = _
  simp only [jt_304_19, ck_or1, ck_or2, rf_wr, ln_wr, nn_wr, rf_cp, ln_cp, nn_cp, ln_wf, nn_wf, rd_wf, nn_nw]
  try rfl))
theorem jt_304_16 (h : am_H) (d1 d2 d6 : am_V) (x0 x3 x4 x5 : Int) : JJ 304 16 [(22, x0), d1, d2, (0, x3), (0, x4), (0, x5), d6] [] h = if x3 ≠ 0 then ck_ (0 ≤ x0) (bd_ (Mo_worstAt h x0 x5 x4) fun h1 v2 => some (h1, v2)) else some (h, x5) := (jj_of bk_304_16 _ _ h).trans ((ff_of bk_304_16 [(22, x0), (9, 0), (9, 0), (0, x3), (0, x4), (0, x5), (9, 0)] [] h).trans (by
  show (if x3 ≠ 0 then JJ 304 18 [(22, x0), (9, 0), (9, 0), (0, x3), (0, x4), (0, x5), (9, 0)] [] h else JJ 304 17 [(22, x0), (9, 0), (9, 0), (0, x3), (0, x4), (0, x5), (9, 0)] [] h) = _
  simp only [jt_304_17, jt_304_18, ck_or1, ck_or2, rf_wr, ln_wr, nn_wr, rf_cp, ln_cp, nn_cp, ln_wf, nn_wf, rd_wf, nn_nw]
  try rfl))
theorem jt_304_15 (h : am_H) (d1 d2 d5 : am_V) (x0 x3 x4 x6 s0 : Int) : JJ 304 15 [(22, x0), d1, d2, (0, x3), (0, x4), d5, (0, x6)] [(0, s0)] h = Mo_ask_11 h x0 x3 x4 s0 (w32 (x6 + 1)) := (jj_of bk_304_15 _ _ h).trans ((ff_of bk_304_15 [(22, x0), (9, 0), (9, 0), (0, x3), (0, x4), (9, 0), (0, x6)] [(0, s0)] h).trans (by
  show (JJ 304 11 [(22, x0), (9, 0), (9, 0), (0, x3), (0, x4), (0, s0), (0, w32 (x6 + 1))] [] h) = _
  simp only [jt_304_11, ck_or1, ck_or2, rf_wr, ln_wr, nn_wr, rf_cp, ln_cp, nn_cp, ln_wf, nn_wf, rd_wf, nn_nw]
  try rfl))
theorem jt_304_14 (h : am_H) (d1 d2 : am_V) (x0 x3 x4 x5 x6 : Int) : JJ 304 14 [(22, x0), d1, d2, (0, x3), (0, x4), (0, x5), (0, x6)] [] h = Mo_ask_11 h x0 x3 x4 x5 (w32 (x6 + 1)) := (jj_of bk_304_14 _ _ h).trans ((ff_of bk_304_14 [(22, x0), (9, 0), (9, 0), (0, x3), (0, x4), (0, x5), (0, x6)] [] h).trans (by
  show (JJ 304 15 [(22, x0), (9, 0), (9, 0), (0, x3), (0, x4), (0, x5), (0, x6)] [(0, x5)] h) = _
  simp only [jt_304_15, ck_or1, ck_or2, rf_wr, ln_wr, nn_wr, rf_cp, ln_cp, nn_cp, ln_wf, nn_wf, rd_wf, nn_nw]
  try rfl))
theorem jt_304_13 (h : am_H) (d1 d2 d5 : am_V) (x0 x3 x4 x6 : Int) : JJ 304 13 [(22, x0), d1, d2, (0, x3), (0, x4), d5, (0, x6)] [] h = Mo_ask_11 h x0 x3 x4 x6 (w32 (x6 + 1)) := (jj_of bk_304_13 _ _ h).trans ((ff_of bk_304_13 [(22, x0), (9, 0), (9, 0), (0, x3), (0, x4), (9, 0), (0, x6)] [] h).trans (by
  show (JJ 304 15 [(22, x0), (9, 0), (9, 0), (0, x3), (0, x4), (9, 0), (0, x6)] [(0, x6)] h) = _
  simp only [jt_304_15, ck_or1, ck_or2, rf_wr, ln_wr, nn_wr, rf_cp, ln_cp, nn_cp, ln_wf, nn_wf, rd_wf, nn_nw]
  try rfl))
theorem jt_304_12 (h : am_H) (d1 d2 : am_V) (x0 x3 x4 x5 x6 : Int) : JJ 304 12 [(22, x0), d1, d2, (0, x3), (0, x4), (0, x5), (0, x6)] [] h = ck_ (0 ≤ x0) (bd_ (Mo_worstAt h x0 x6 x4) fun h1 v2 => ck_ (0 ≤ x0) (bd_ (Mo_worstAt h1 x0 x5 x4) fun h3 v4 => if v4 ≤ v2 then Mo_ask_11 h3 x0 x3 x4 x5 (w32 (x6 + 1)) else Mo_ask_11 h3 x0 x3 x4 x6 (w32 (x6 + 1)))) := (jj_of bk_304_12 _ _ h).trans ((ff_of bk_304_12 [(22, x0), (9, 0), (9, 0), (0, x3), (0, x4), (0, x5), (0, x6)] [] h).trans (by
  show (ck_ (0 ≤ x0) (bd_ (CC 303 [(22, x0), (0, x6), (0, x4)] h) fun h1 v2 => ck_ (0 ≤ x0) (bd_ (CC 303 [(22, x0), (0, x5), (0, x4)] h1) fun h3 v4 => if v4 ≤ v2 then JJ 304 14 [(22, x0), (9, 0), (9, 0), (0, x3), (0, x4), (0, x5), (0, x6)] [] h3 else JJ 304 13 [(22, x0), (9, 0), (9, 0), (0, x3), (0, x4), (0, x5), (0, x6)] [] h3))) = _
  simp only [cc_303, jt_304_13, jt_304_14, ck_or1, ck_or2, rf_wr, ln_wr, nn_wr, rf_cp, ln_cp, nn_cp, ln_wf, nn_wf, rd_wf, nn_nw]
  try rfl))
theorem Mo_ask_11_e (h : am_H) (x0 x3 x4 x5 x6 : Int) : Mo_ask_11 h x0 x3 x4 x5 x6 = if 5 ≤ x6 then (if x3 ≠ 0 then ck_ (0 ≤ x0) (bd_ (Mo_worstAt h x0 x5 x4) fun h1 v2 => some (h1, v2)) else some (h, x5)) else ck_ (0 ≤ x0) (bd_ (Mo_worstAt h x0 x6 x4) fun h3 v4 => ck_ (0 ≤ x0) (bd_ (Mo_worstAt h3 x0 x5 x4) fun h5 v6 => if v6 ≤ v4 then Mo_ask_11 h5 x0 x3 x4 x5 (w32 (x6 + 1)) else Mo_ask_11 h5 x0 x3 x4 x6 (w32 (x6 + 1)))) := (ff_of bk_304_11 [(22, x0), (9, 0), (9, 0), (0, x3), (0, x4), (0, x5), (0, x6)] [] h).trans (by
  show (if 5 ≤ x6 then JJ 304 16 [(22, x0), (9, 0), (9, 0), (0, x3), (0, x4), (0, x5), (0, x6)] [] h else JJ 304 12 [(22, x0), (9, 0), (9, 0), (0, x3), (0, x4), (0, x5), (0, x6)] [] h) = _
  simp only [jt_304_12, jt_304_16, ck_or1, ck_or2, rf_wr, ln_wr, nn_wr, rf_cp, ln_cp, nn_cp, ln_wf, nn_wf, rd_wf, nn_nw]
  try rfl)
theorem cc_304 (h : am_H) (x0 x1 x2 x3 : Int) : CC 304 [(22, x0), (0, x1), (0, x2), (0, x3)] h = Mo_ask h x0 x1 x2 x3 := cc_of pk_304 _ h
set_option maxRecDepth 20000 in
theorem pk_305 : am_prog 305 = some cd_305 := rfl
theorem bk_305_0 : bk_ am_prog 305 0 = some ([true, true, true, true, false, false, false, false], (bl_305_0, 9999)) := bk_of pk_305 rfl
theorem bk_305_1 : bk_ am_prog 305 1 = some ([true, true, true, true, false, false, false, false], (bl_305_1, 9999)) := bk_of pk_305 rfl
theorem bk_305_2 : bk_ am_prog 305 2 = some ([true, true, true, true, false, false, false, false], (bl_305_2, 9999)) := bk_of pk_305 rfl
theorem bk_305_3 : bk_ am_prog 305 3 = some ([false, false, false, false, false, false, false, false], (bl_305_3, 9999)) := bk_of pk_305 rfl
theorem bk_305_4 : bk_ am_prog 305 4 = some ([true, true, true, true, false, false, false, false], (bl_305_4, 5)) := bk_of pk_305 rfl
theorem bk_305_5 : bk_ am_prog 305 5 = some ([true, false, true, true, true, false, true, true], (bl_305_5, 9999)) := bk_of pk_305 rfl
theorem bk_305_6 : bk_ am_prog 305 6 = some ([true, false, true, true, true, false, true, true], (bl_305_6, 9999)) := bk_of pk_305 rfl
theorem bk_305_7 : bk_ am_prog 305 7 = some ([true, false, true, true, true, false, false, true], (bl_305_7, 9999)) := bk_of pk_305 rfl
theorem bk_305_8 : bk_ am_prog 305 8 = some ([true, false, true, true, true, false, false, true], (bl_305_8, 9)) := bk_of pk_305 rfl
theorem bk_305_9 : bk_ am_prog 305 9 = some ([true, false, true, true, true, false, false, true], (bl_305_9, 9999)) := bk_of pk_305 rfl
theorem bk_305_10 : bk_ am_prog 305 10 = some ([true, false, false, false, true, false, true, false], (bl_305_10, 9999)) := bk_of pk_305 rfl
theorem jt_305_5 (h : am_H) (d1 d5 : am_V) (x0 x2 x3 x4 x6 x7 : Int) : JJ 305 5 [(22, x0), d1, (0, x2), (0, x3), (1, x4), d5, (0, x6), (0, x7)] [] h = Mo_chance_5 h x0 x2 x3 x4 x6 x7 := jj_of bk_305_5 _ _ h
theorem jt_305_3 (h : am_H) (d0 d1 d2 d3 d4 d5 d6 d7 : am_V) : JJ 305 3 [d0, d1, d2, d3, d4, d5, d6, d7] [] h = some (h, (-1)) := (jj_of bk_305_3 _ _ h).trans (ff_of bk_305_3 [(9, 0), (9, 0), (9, 0), (9, 0), (9, 0), (9, 0), (9, 0), (9, 0)] [] h)
theorem jt_305_4 (h : am_H) (d4 d5 d6 d7 : am_V) (x0 x1 x2 x3 : Int) : JJ 305 4 [(22, x0), (0, x1), (0, x2), (0, x3), d4, d5, d6, d7] [] h = ck_ (0 ≤ x0) (ck_ (0 ≤ x0) (Mo_chance_5 (wr_ h x0 60 x1) x0 x2 x3 (rd_ h x0 60) 0 0)) := (jj_of bk_305_4 _ _ h).trans ((ff_of bk_305_4 [(22, x0), (0, x1), (0, x2), (0, x3), (9, 0), (9, 0), (9, 0), (9, 0)] [] h).trans (by
  show (ck_ (0 ≤ x0) (ck_ (0 ≤ x0) (JJ 305 5 [(22, x0), (0, x1), (0, x2), (0, x3), (1, rd_ h x0 60), (9, 0), (0, 0), (0, 0)] [] (wr_ h x0 60 x1)))) = _
  simp only [jt_305_5, ck_or1, ck_or2, rf_wr, ln_wr, nn_wr, rf_cp, ln_cp, nn_cp, ln_wf, nn_wf, rd_wf, nn_nw]
  try rfl))
theorem jt_305_2 (h : am_H) (d4 d5 d6 d7 : am_V) (x0 x1 x2 x3 : Int) : JJ 305 2 [(22, x0), (0, x1), (0, x2), (0, x3), d4, d5, d6, d7] [] h = bd_ (Mo_isIn h x3 0 20) fun h1 v2 => if v2 ≠ 0 then ck_ (0 ≤ x0) (ck_ (0 ≤ x0) (Mo_chance_5 (wr_ h1 x0 60 x1) x0 x2 x3 (rd_ h1 x0 60) 0 0)) else some (h1, (-1)) := (jj_of bk_305_2 _ _ h).trans ((ff_of bk_305_2 [(22, x0), (0, x1), (0, x2), (0, x3), (9, 0), (9, 0), (9, 0), (9, 0)] [] h).trans (by
  show (bd_ (CC 196 [(0, x3), (0, 0), (0, 20)] h) fun h1 v2 => if v2 ≠ 0 then JJ 305 4 [(22, x0), (0, x1), (0, x2), (0, x3), (9, 0), (9, 0), (9, 0), (9, 0)] [] h1 else JJ 305 3 [(22, x0), (0, x1), (0, x2), (0, x3), (9, 0), (9, 0), (9, 0), (9, 0)] [] h1) = _
  simp only [cc_196, jt_305_3, jt_305_4, ck_or1, ck_or2, rf_wr, ln_wr, nn_wr, rf_cp, ln_cp, nn_cp, ln_wf, nn_wf, rd_wf, nn_nw]
  try rfl))
theorem jt_305_1 (h : am_H) (d4 d5 d6 d7 : am_V) (x0 x1 x2 x3 : Int) : JJ 305 1 [(22, x0), (0, x1), (0, x2), (0, x3), d4, d5, d6, d7] [] h = bd_ (Mo_isIn h x2 1 99) fun h1 v2 => if v2 = 0 then some (h1, (-1)) else bd_ (Mo_isIn h1 x3 0 20) fun h3 v4 => if v4 ≠ 0 then ck_ (0 ≤ x0) (ck_ (0 ≤ x0) (Mo_chance_5 (wr_ h3 x0 60 x1) x0 x2 x3 (rd_ h3 x0 60) 0 0)) else some (h3, (-1)) := (jj_of bk_305_1 _ _ h).trans ((ff_of bk_305_1 [(22, x0), (0, x1), (0, x2), (0, x3), (9, 0), (9, 0), (9, 0), (9, 0)] [] h).trans (by
  show (bd_ (CC 196 [(0, x2), (0, 1), (0, 99)] h) fun h1 v2 => if v2 = 0 then JJ 305 3 [(22, x0), (0, x1), (0, x2), (0, x3), (9, 0), (9, 0), (9, 0), (9, 0)] [] h1 else JJ 305 2 [(22, x0), (0, x1), (0, x2), (0, x3), (9, 0), (9, 0), (9, 0), (9, 0)] [] h1) = _
  simp only [cc_196, jt_305_2, jt_305_3, ck_or1, ck_or2, rf_wr, ln_wr, nn_wr, rf_cp, ln_cp, nn_cp, ln_wf, nn_wf, rd_wf, nn_nw]
  try rfl))
theorem Mo_chance_e (h : am_H) (x0 x1 x2 x3 : Int) : Mo_chance h x0 x1 x2 x3 = ck_ (0 ≤ x0) (if x1 < 0 then some (wr_ h x0 2 0, (-1)) else bd_ (Mo_isIn (wr_ h x0 2 0) x2 1 99) fun h1 v2 => if v2 = 0 then some (h1, (-1)) else bd_ (Mo_isIn h1 x3 0 20) fun h3 v4 => if v4 ≠ 0 then ck_ (0 ≤ x0) (ck_ (0 ≤ x0) (Mo_chance_5 (wr_ h3 x0 60 x1) x0 x2 x3 (rd_ h3 x0 60) 0 0)) else some (h3, (-1))) := (ff_of bk_305_0 [(22, x0), (0, x1), (0, x2), (0, x3), (9, 0), (9, 0), (9, 0), (9, 0)] [] h).trans (by
  show (ck_ (0 ≤ x0) (if x1 < 0 then JJ 305 3 [(22, x0), (0, x1), (0, x2), (0, x3), (9, 0), (9, 0), (9, 0), (9, 0)] [] (wr_ h x0 2 0) else JJ 305 1 [(22, x0), (0, x1), (0, x2), (0, x3), (9, 0), (9, 0), (9, 0), (9, 0)] [] (wr_ h x0 2 0))) = _
  simp only [jt_305_1, jt_305_3, ck_or1, ck_or2, rf_wr, ln_wr, nn_wr, rf_cp, ln_cp, nn_cp, ln_wf, nn_wf, rd_wf, nn_nw]
  try rfl)
theorem jt_305_10 (h : am_H) (d1 d2 d3 d5 d7 : am_V) (x0 x4 x6 : Int) : JJ 305 10 [(22, x0), d1, d2, d3, (1, x4), d5, (0, x6), d7] [] h = ck_ (0 ≤ x0) (ck_ (0 ≤ x0) (some (wr_ (wr_ h x0 61 0) x0 60 x4, x6))) := (jj_of bk_305_10 _ _ h).trans (ff_of bk_305_10 [(22, x0), (9, 0), (9, 0), (9, 0), (1, x4), (9, 0), (0, x6), (9, 0)] [] h)
theorem jt_305_9 (h : am_H) (d1 d5 d6 : am_V) (x0 x2 x3 x4 x7 s0 s1 : Int) : JJ 305 9 [(22, x0), d1, (0, x2), (0, x3), (1, x4), d5, d6, (0, x7)] [(0, s0), (0, s1)] h = Mo_chance_5 h x0 x2 x3 x4 (w32 (s1 + s0)) (w32 (x7 + 1)) := (jj_of bk_305_9 _ _ h).trans ((ff_of bk_305_9 [(22, x0), (9, 0), (0, x2), (0, x3), (1, x4), (9, 0), (9, 0), (0, x7)] [(0, s0), (0, s1)] h).trans (by
  show (JJ 305 5 [(22, x0), (9, 0), (0, x2), (0, x3), (1, x4), (9, 0), (0, w32 (s1 + s0)), (0, w32 (x7 + 1))] [] h) = _
  simp only [jt_305_5, ck_or1, ck_or2, rf_wr, ln_wr, nn_wr, rf_cp, ln_cp, nn_cp, ln_wf, nn_wf, rd_wf, nn_nw]
  try rfl))
theorem jt_305_8 (h : am_H) (d1 d5 d6 : am_V) (x0 x2 x3 x4 x7 s0 : Int) : JJ 305 8 [(22, x0), d1, (0, x2), (0, x3), (1, x4), d5, d6, (0, x7)] [(0, s0)] h = Mo_chance_5 h x0 x2 x3 x4 (w32 (s0 + 0)) (w32 (x7 + 1)) := (jj_of bk_305_8 _ _ h).trans ((ff_of bk_305_8 [(22, x0), (9, 0), (0, x2), (0, x3), (1, x4), (9, 0), (9, 0), (0, x7)] [(0, s0)] h).trans (by
  show (JJ 305 9 [(22, x0), (9, 0), (0, x2), (0, x3), (1, x4), (9, 0), (9, 0), (0, x7)] [(0, 0), (0, s0)] h) = _
  simp only [jt_305_9, ck_or1, ck_or2, rf_wr, ln_wr, nn_wr, rf_cp, ln_cp, nn_cp, ln_wf, nn_wf, rd_wf, nn_nw]
  try rfl))
theorem jt_305_7 (h : am_H) (d1 d5 d6 : am_V) (x0 x2 x3 x4 x7 s0 : Int) : JJ 305 7 [(22, x0), d1, (0, x2), (0, x3), (1, x4), d5, d6, (0, x7)] [(0, s0)] h = Mo_chance_5 h x0 x2 x3 x4 (w32 (s0 + 1)) (w32 (x7 + 1)) := (jj_of bk_305_7 _ _ h).trans ((ff_of bk_305_7 [(22, x0), (9, 0), (0, x2), (0, x3), (1, x4), (9, 0), (9, 0), (0, x7)] [(0, s0)] h).trans (by
  show (JJ 305 9 [(22, x0), (9, 0), (0, x2), (0, x3), (1, x4), (9, 0), (9, 0), (0, x7)] [(0, 1), (0, s0)] h) = _
  simp only [jt_305_9, ck_or1, ck_or2, rf_wr, ln_wr, nn_wr, rf_cp, ln_cp, nn_cp, ln_wf, nn_wf, rd_wf, nn_nw]
  try rfl))
theorem jt_305_6 (h : am_H) (d1 d5 : am_V) (x0 x2 x3 x4 x6 x7 : Int) : JJ 305 6 [(22, x0), d1, (0, x2), (0, x3), (1, x4), d5, (0, x6), (0, x7)] [] h = ck_ (0 ≤ x0) (bd_ (Mo_layTried h x0) fun h1 _ => ck_ (0 ≤ x0) (ck_ (0 ≤ x0) (bd_ (Mo_goMany (wr_ h1 x0 61 1) x0 x2) fun h3 _ => ck_ (0 ≤ x0) (bd_ (Mo_chippedMany h3 x0 1) fun h5 v6 => if v6 < x3 then Mo_chance_5 h5 x0 x2 x3 x4 (w32 (x6 + 0)) (w32 (x7 + 1)) else Mo_chance_5 h5 x0 x2 x3 x4 (w32 (x6 + 1)) (w32 (x7 + 1)))))) := (jj_of bk_305_6 _ _ h).trans ((ff_of bk_305_6 [(22, x0), (9, 0), (0, x2), (0, x3), (1, x4), (9, 0), (0, x6), (0, x7)] [] h).trans (by
  show (ck_ (0 ≤ x0) (bd_ (CC 234 [(22, x0)] h) fun h1 _ => ck_ (0 ≤ x0) (ck_ (0 ≤ x0) (bd_ (CC 254 [(22, x0), (0, x2)] (wr_ h1 x0 61 1)) fun h3 _ => ck_ (0 ≤ x0) (bd_ (CC 257 [(22, x0), (0, 1)] h3) fun h5 v6 => if v6 < x3 then JJ 305 8 [(22, x0), (9, 0), (0, x2), (0, x3), (1, x4), (9, 0), (0, x6), (0, x7)] [(0, x6)] h5 else JJ 305 7 [(22, x0), (9, 0), (0, x2), (0, x3), (1, x4), (9, 0), (0, x6), (0, x7)] [(0, x6)] h5))))) = _
  simp only [cc_257, cc_254, cc_234, jt_305_7, jt_305_8, ck_or1, ck_or2, rf_wr, ln_wr, nn_wr, rf_cp, ln_cp, nn_cp, ln_wf, nn_wf, rd_wf, nn_nw]
  try rfl))
theorem Mo_chance_5_e (h : am_H) (x0 x2 x3 x4 x6 x7 : Int) : Mo_chance_5 h x0 x2 x3 x4 x6 x7 = if 10 ≤ x7 then ck_ (0 ≤ x0) (ck_ (0 ≤ x0) (some (wr_ (wr_ h x0 61 0) x0 60 x4, x6))) else ck_ (0 ≤ x0) (bd_ (Mo_layTried h x0) fun h1 _ => ck_ (0 ≤ x0) (ck_ (0 ≤ x0) (bd_ (Mo_goMany (wr_ h1 x0 61 1) x0 x2) fun h3 _ => ck_ (0 ≤ x0) (bd_ (Mo_chippedMany h3 x0 1) fun h5 v6 => if v6 < x3 then Mo_chance_5 h5 x0 x2 x3 x4 (w32 (x6 + 0)) (w32 (x7 + 1)) else Mo_chance_5 h5 x0 x2 x3 x4 (w32 (x6 + 1)) (w32 (x7 + 1)))))) := (ff_of bk_305_5 [(22, x0), (9, 0), (0, x2), (0, x3), (1, x4), (9, 0), (0, x6), (0, x7)] [] h).trans (by
  show (if 10 ≤ x7 then JJ 305 10 [(22, x0), (9, 0), (0, x2), (0, x3), (1, x4), (9, 0), (0, x6), (0, x7)] [] h else JJ 305 6 [(22, x0), (9, 0), (0, x2), (0, x3), (1, x4), (9, 0), (0, x6), (0, x7)] [] h) = _
  simp only [jt_305_10, jt_305_6, ck_or1, ck_or2, rf_wr, ln_wr, nn_wr, rf_cp, ln_cp, nn_cp, ln_wf, nn_wf, rd_wf, nn_nw]
  try rfl)
theorem cc_305 (h : am_H) (x0 x1 x2 x3 : Int) : CC 305 [(22, x0), (0, x1), (0, x2), (0, x3)] h = Mo_chance h x0 x1 x2 x3 := cc_of pk_305 _ h
set_option maxRecDepth 20000 in
theorem pk_306 : am_prog 306 = some cd_306 := rfl
theorem bk_306_0 : bk_ am_prog 306 0 = some ([true, true, true, true], (bl_306_0, 9999)) := bk_of pk_306 rfl
theorem bk_306_1 : bk_ am_prog 306 1 = some ([true, true, true, true], (bl_306_1, 9999)) := bk_of pk_306 rfl
theorem bk_306_2 : bk_ am_prog 306 2 = some ([true, true, true, true], (bl_306_2, 9999)) := bk_of pk_306 rfl
theorem bk_306_3 : bk_ am_prog 306 3 = some ([true, true, true, true], (bl_306_3, 9999)) := bk_of pk_306 rfl
theorem bk_306_4 : bk_ am_prog 306 4 = some ([false, false, false, false], (bl_306_4, 9999)) := bk_of pk_306 rfl
theorem bk_306_5 : bk_ am_prog 306 5 = some ([true, true, true, true], (bl_306_5, 9999)) := bk_of pk_306 rfl
theorem bk_306_6 : bk_ am_prog 306 6 = some ([false, false, false, false], (bl_306_6, 9999)) := bk_of pk_306 rfl
theorem bk_306_7 : bk_ am_prog 306 7 = some ([true, true, true, true], (bl_306_7, 9999)) := bk_of pk_306 rfl
theorem bk_306_8 : bk_ am_prog 306 8 = some ([true, true, true, true], (bl_306_8, 9999)) := bk_of pk_306 rfl
theorem bk_306_9 : bk_ am_prog 306 9 = some ([true, true, true, true], (bl_306_9, 10)) := bk_of pk_306 rfl
theorem bk_306_10 : bk_ am_prog 306 10 = some ([true, true, true, true], (bl_306_10, 9999)) := bk_of pk_306 rfl
theorem bk_306_11 : bk_ am_prog 306 11 = some ([true, true, true, true], (bl_306_11, 9999)) := bk_of pk_306 rfl
theorem bk_306_12 : bk_ am_prog 306 12 = some ([true, true, true, true], (bl_306_12, 13)) := bk_of pk_306 rfl
theorem bk_306_13 : bk_ am_prog 306 13 = some ([true, true, true, true], (bl_306_13, 9999)) := bk_of pk_306 rfl
theorem bk_306_14 : bk_ am_prog 306 14 = some ([true, true, true, true], (bl_306_14, 9999)) := bk_of pk_306 rfl
theorem bk_306_15 : bk_ am_prog 306 15 = some ([true, true, false, true], (bl_306_15, 16)) := bk_of pk_306 rfl
theorem bk_306_16 : bk_ am_prog 306 16 = some ([true, true, false, true], (bl_306_16, 9999)) := bk_of pk_306 rfl
theorem bk_306_17 : bk_ am_prog 306 17 = some ([true, true, false, true], (bl_306_17, 9999)) := bk_of pk_306 rfl
theorem bk_306_18 : bk_ am_prog 306 18 = some ([true, true, false, true], (bl_306_18, 19)) := bk_of pk_306 rfl
theorem bk_306_19 : bk_ am_prog 306 19 = some ([true, true, false, true], (bl_306_19, 9999)) := bk_of pk_306 rfl
theorem bk_306_20 : bk_ am_prog 306 20 = some ([true, false, false, true], (bl_306_20, 9999)) := bk_of pk_306 rfl
theorem bk_306_21 : bk_ am_prog 306 21 = some ([true, false, false, true], (bl_306_21, 22)) := bk_of pk_306 rfl
theorem bk_306_22 : bk_ am_prog 306 22 = some ([true, false, false, true], (bl_306_22, 9999)) := bk_of pk_306 rfl
theorem jt_306_7 (h : am_H) (x0 x1 x2 x3 : Int) : JJ 306 7 [(22, x0), (0, x1), (0, x2), (0, x3)] [] h = Mo_tried_7 h x0 x1 x2 x3 := jj_of bk_306_7 _ _ h
theorem jt_306_13 (h : am_H) (x0 x1 x2 x3 s0 s1 : Int) : JJ 306 13 [(22, x0), (0, x1), (0, x2), (0, x3)] [(0, s0), (22, s1)] h = Mo_tried_13 h x0 x1 x2 x3 s0 s1 := jj_of bk_306_13 _ _ h
theorem jt_306_19 (h : am_H) (d2 : am_V) (x0 x1 x3 s0 s1 : Int) : JJ 306 19 [(22, x0), (0, x1), d2, (0, x3)] [(0, s0), (22, s1)] h = Mo_tried_19 h x0 x1 x3 s0 s1 := jj_of bk_306_19 _ _ h
theorem jt_306_6 (h : am_H) (d0 d1 d2 d3 : am_V) : JJ 306 6 [d0, d1, d2, d3] [] h = some (h, (-1)) := (jj_of bk_306_6 _ _ h).trans (ff_of bk_306_6 [(9, 0), (9, 0), (9, 0), (9, 0)] [] h)
theorem jt_306_5 (h : am_H) (x0 x1 x2 x3 : Int) : JJ 306 5 [(22, x0), (0, x1), (0, x2), (0, x3)] [] h = if x2 = 0 then Mo_tried_7 h x0 x1 x2 x3 else some (h, (-1)) := (jj_of bk_306_5 _ _ h).trans ((ff_of bk_306_5 [(22, x0), (0, x1), (0, x2), (0, x3)] [] h).trans (by
  show (if x2 = 0 then JJ 306 7 [(22, x0), (0, x1), (0, x2), (0, x3)] [] h else JJ 306 6 [(22, x0), (0, x1), (0, x2), (0, x3)] [] h) = _
  simp only [jt_306_6, jt_306_7, ck_or1, ck_or2, rf_wr, ln_wr, nn_wr, rf_cp, ln_cp, nn_cp, ln_wf, nn_wf, rd_wf, nn_nw]
  try rfl))
theorem jt_306_4 (h : am_H) (d0 d1 d2 d3 : am_V) : JJ 306 4 [d0, d1, d2, d3] [] h = some (h, (-1)) := (jj_of bk_306_4 _ _ h).trans ((ff_of bk_306_4 [(9, 0), (9, 0), (9, 0), (9, 0)] [] h).trans (by
  show (JJ 306 6 [(9, 0), (9, 0), (9, 0), (9, 0)] [] h) = _
  simp only [jt_306_6, ck_or1, ck_or2, rf_wr, ln_wr, nn_wr, rf_cp, ln_cp, nn_cp, ln_wf, nn_wf, rd_wf, nn_nw]
  try rfl))
theorem jt_306_3 (h : am_H) (x0 x1 x2 x3 : Int) : JJ 306 3 [(22, x0), (0, x1), (0, x2), (0, x3)] [] h = ck_ (0 ≤ x0) (bd_ (Mo_isMaid h x0 x2) fun h1 v2 => if v2 ≠ 0 then Mo_tried_7 h1 x0 x1 x2 x3 else some (h1, (-1))) := (jj_of bk_306_3 _ _ h).trans ((ff_of bk_306_3 [(22, x0), (0, x1), (0, x2), (0, x3)] [] h).trans (by
  show (ck_ (0 ≤ x0) (bd_ (CC 235 [(22, x0), (0, x2)] h) fun h1 v2 => if v2 ≠ 0 then JJ 306 7 [(22, x0), (0, x1), (0, x2), (0, x3)] [] h1 else JJ 306 4 [(22, x0), (0, x1), (0, x2), (0, x3)] [] h1)) = _
  simp only [cc_235, jt_306_4, jt_306_7, ck_or1, ck_or2, rf_wr, ln_wr, nn_wr, rf_cp, ln_cp, nn_cp, ln_wf, nn_wf, rd_wf, nn_nw]
  try rfl))
theorem jt_306_2 (h : am_H) (x0 x1 x2 x3 : Int) : JJ 306 2 [(22, x0), (0, x1), (0, x2), (0, x3)] [] h = if x1 ≠ 2 then (if x2 = 0 then Mo_tried_7 h x0 x1 x2 x3 else some (h, (-1))) else ck_ (0 ≤ x0) (bd_ (Mo_isMaid h x0 x2) fun h1 v2 => if v2 ≠ 0 then Mo_tried_7 h1 x0 x1 x2 x3 else some (h1, (-1))) := (jj_of bk_306_2 _ _ h).trans ((ff_of bk_306_2 [(22, x0), (0, x1), (0, x2), (0, x3)] [] h).trans (by
  show (if x1 ≠ 2 then JJ 306 5 [(22, x0), (0, x1), (0, x2), (0, x3)] [] h else JJ 306 3 [(22, x0), (0, x1), (0, x2), (0, x3)] [] h) = _
  simp only [jt_306_3, jt_306_5, ck_or1, ck_or2, rf_wr, ln_wr, nn_wr, rf_cp, ln_cp, nn_cp, ln_wf, nn_wf, rd_wf, nn_nw]
  try rfl))
theorem jt_306_1 (h : am_H) (x0 x1 x2 x3 : Int) : JJ 306 1 [(22, x0), (0, x1), (0, x2), (0, x3)] [] h = bd_ (Mo_isIn h x3 0 200) fun h1 v2 => if v2 = 0 then some (h1, (-1)) else if x1 ≠ 2 then (if x2 = 0 then Mo_tried_7 h1 x0 x1 x2 x3 else some (h1, (-1))) else ck_ (0 ≤ x0) (bd_ (Mo_isMaid h1 x0 x2) fun h3 v4 => if v4 ≠ 0 then Mo_tried_7 h3 x0 x1 x2 x3 else some (h3, (-1))) := (jj_of bk_306_1 _ _ h).trans ((ff_of bk_306_1 [(22, x0), (0, x1), (0, x2), (0, x3)] [] h).trans (by
  show (bd_ (CC 196 [(0, x3), (0, 0), (0, 200)] h) fun h1 v2 => if v2 = 0 then JJ 306 6 [(22, x0), (0, x1), (0, x2), (0, x3)] [] h1 else JJ 306 2 [(22, x0), (0, x1), (0, x2), (0, x3)] [] h1) = _
  simp only [cc_196, jt_306_2, jt_306_6, ck_or1, ck_or2, rf_wr, ln_wr, nn_wr, rf_cp, ln_cp, nn_cp, ln_wf, nn_wf, rd_wf, nn_nw]
  try rfl))
theorem Mo_tried_e (h : am_H) (x0 x1 x2 x3 : Int) : Mo_tried h x0 x1 x2 x3 = ck_ (0 ≤ x0) (bd_ (Mo_isIn (wr_ h x0 2 0) x1 0 4) fun h1 v2 => if v2 = 0 then some (h1, (-1)) else bd_ (Mo_isIn h1 x3 0 200) fun h3 v4 => if v4 = 0 then some (h3, (-1)) else if x1 ≠ 2 then (if x2 = 0 then Mo_tried_7 h3 x0 x1 x2 x3 else some (h3, (-1))) else ck_ (0 ≤ x0) (bd_ (Mo_isMaid h3 x0 x2) fun h5 v6 => if v6 ≠ 0 then Mo_tried_7 h5 x0 x1 x2 x3 else some (h5, (-1)))) := (ff_of bk_306_0 [(22, x0), (0, x1), (0, x2), (0, x3)] [] h).trans (by
  show (ck_ (0 ≤ x0) (bd_ (CC 196 [(0, x1), (0, 0), (0, 4)] (wr_ h x0 2 0)) fun h1 v2 => if v2 = 0 then JJ 306 6 [(22, x0), (0, x1), (0, x2), (0, x3)] [] h1 else JJ 306 1 [(22, x0), (0, x1), (0, x2), (0, x3)] [] h1)) = _
  simp only [cc_196, jt_306_1, jt_306_6, ck_or1, ck_or2, rf_wr, ln_wr, nn_wr, rf_cp, ln_cp, nn_cp, ln_wf, nn_wf, rd_wf, nn_nw]
  try rfl)
theorem jt_306_12 (h : am_H) (x0 x1 x2 x3 s0 : Int) : JJ 306 12 [(22, x0), (0, x1), (0, x2), (0, x3)] [(22, s0)] h = Mo_tried_13 h x0 x1 x2 x3 0 s0 := (jj_of bk_306_12 _ _ h).trans ((ff_of bk_306_12 [(22, x0), (0, x1), (0, x2), (0, x3)] [(22, s0)] h).trans (by
  show (JJ 306 13 [(22, x0), (0, x1), (0, x2), (0, x3)] [(0, 0), (22, s0)] h) = _
  simp only [jt_306_13, ck_or1, ck_or2, rf_wr, ln_wr, nn_wr, rf_cp, ln_cp, nn_cp, ln_wf, nn_wf, rd_wf, nn_nw]
  try rfl))
theorem jt_306_11 (h : am_H) (x0 x1 x2 x3 s0 : Int) : JJ 306 11 [(22, x0), (0, x1), (0, x2), (0, x3)] [(22, s0)] h = Mo_tried_13 h x0 x1 x2 x3 1 s0 := (jj_of bk_306_11 _ _ h).trans ((ff_of bk_306_11 [(22, x0), (0, x1), (0, x2), (0, x3)] [(22, s0)] h).trans (by
  show (JJ 306 13 [(22, x0), (0, x1), (0, x2), (0, x3)] [(0, 1), (22, s0)] h) = _
  simp only [jt_306_13, ck_or1, ck_or2, rf_wr, ln_wr, nn_wr, rf_cp, ln_cp, nn_cp, ln_wf, nn_wf, rd_wf, nn_nw]
  try rfl))
theorem jt_306_10 (h : am_H) (x0 x1 x2 x3 s0 s1 : Int) : JJ 306 10 [(22, x0), (0, x1), (0, x2), (0, x3)] [(0, s0), (22, s1)] h = ck_ (0 ≤ s1) (ck_ (s0 = 0 ∨ s0 = 1) (if x1 ≠ 1 then Mo_tried_13 (wr_ h s1 62 s0) x0 x1 x2 x3 0 x0 else Mo_tried_13 (wr_ h s1 62 s0) x0 x1 x2 x3 1 x0)) := (jj_of bk_306_10 _ _ h).trans ((ff_of bk_306_10 [(22, x0), (0, x1), (0, x2), (0, x3)] [(0, s0), (22, s1)] h).trans (by
  show (ck_ (0 ≤ s1) (ck_ (s0 = 0 ∨ s0 = 1) (if x1 ≠ 1 then JJ 306 12 [(22, x0), (0, x1), (0, x2), (0, x3)] [(22, x0)] (wr_ h s1 62 s0) else JJ 306 11 [(22, x0), (0, x1), (0, x2), (0, x3)] [(22, x0)] (wr_ h s1 62 s0)))) = _
  simp only [jt_306_11, jt_306_12, ck_or1, ck_or2, rf_wr, ln_wr, nn_wr, rf_cp, ln_cp, nn_cp, ln_wf, nn_wf, rd_wf, nn_nw]
  try rfl))
theorem jt_306_9 (h : am_H) (x0 x1 x2 x3 s0 : Int) : JJ 306 9 [(22, x0), (0, x1), (0, x2), (0, x3)] [(22, s0)] h = ck_ (0 ≤ s0) (if x1 ≠ 1 then Mo_tried_13 (wr_ h s0 62 0) x0 x1 x2 x3 0 x0 else Mo_tried_13 (wr_ h s0 62 0) x0 x1 x2 x3 1 x0) := (jj_of bk_306_9 _ _ h).trans ((ff_of bk_306_9 [(22, x0), (0, x1), (0, x2), (0, x3)] [(22, s0)] h).trans (by
  show (JJ 306 10 [(22, x0), (0, x1), (0, x2), (0, x3)] [(0, 0), (22, s0)] h) = _
  simp only [jt_306_10, ck_or1, ck_or2, rf_wr, ln_wr, nn_wr, rf_cp, ln_cp, nn_cp, ln_wf, nn_wf, rd_wf, nn_nw]
  try rfl))
theorem jt_306_8 (h : am_H) (x0 x1 x2 x3 s0 : Int) : JJ 306 8 [(22, x0), (0, x1), (0, x2), (0, x3)] [(22, s0)] h = ck_ (0 ≤ s0) (if x1 ≠ 1 then Mo_tried_13 (wr_ h s0 62 1) x0 x1 x2 x3 0 x0 else Mo_tried_13 (wr_ h s0 62 1) x0 x1 x2 x3 1 x0) := (jj_of bk_306_8 _ _ h).trans ((ff_of bk_306_8 [(22, x0), (0, x1), (0, x2), (0, x3)] [(22, s0)] h).trans (by
  show (JJ 306 10 [(22, x0), (0, x1), (0, x2), (0, x3)] [(0, 1), (22, s0)] h) = _
  simp only [jt_306_10, ck_or1, ck_or2, rf_wr, ln_wr, nn_wr, rf_cp, ln_cp, nn_cp, ln_wf, nn_wf, rd_wf, nn_nw]
  try rfl))
theorem Mo_tried_7_e (h : am_H) (x0 x1 x2 x3 : Int) : Mo_tried_7 h x0 x1 x2 x3 = ck_ (0 ≤ x0) (bd_ (Mo_layTried h x0) fun h1 _ => if x1 ≠ 0 then ck_ (0 ≤ x0) (if x1 ≠ 1 then Mo_tried_13 (wr_ h1 x0 62 0) x0 x1 x2 x3 0 x0 else Mo_tried_13 (wr_ h1 x0 62 0) x0 x1 x2 x3 1 x0) else ck_ (0 ≤ x0) (if x1 ≠ 1 then Mo_tried_13 (wr_ h1 x0 62 1) x0 x1 x2 x3 0 x0 else Mo_tried_13 (wr_ h1 x0 62 1) x0 x1 x2 x3 1 x0)) := (ff_of bk_306_7 [(22, x0), (0, x1), (0, x2), (0, x3)] [] h).trans (by
  show (ck_ (0 ≤ x0) (bd_ (CC 234 [(22, x0)] h) fun h1 _ => if x1 ≠ 0 then JJ 306 9 [(22, x0), (0, x1), (0, x2), (0, x3)] [(22, x0)] h1 else JJ 306 8 [(22, x0), (0, x1), (0, x2), (0, x3)] [(22, x0)] h1)) = _
  simp only [cc_234, jt_306_8, jt_306_9, ck_or1, ck_or2, rf_wr, ln_wr, nn_wr, rf_cp, ln_cp, nn_cp, ln_wf, nn_wf, rd_wf, nn_nw]
  try rfl)
theorem jt_306_18 (h : am_H) (d2 : am_V) (x0 x1 x3 s0 : Int) : JJ 306 18 [(22, x0), (0, x1), d2, (0, x3)] [(22, s0)] h = Mo_tried_19 h x0 x1 x3 0 s0 := (jj_of bk_306_18 _ _ h).trans ((ff_of bk_306_18 [(22, x0), (0, x1), (9, 0), (0, x3)] [(22, s0)] h).trans (by
  show (JJ 306 19 [(22, x0), (0, x1), (9, 0), (0, x3)] [(0, 0), (22, s0)] h) = _
  simp only [jt_306_19, ck_or1, ck_or2, rf_wr, ln_wr, nn_wr, rf_cp, ln_cp, nn_cp, ln_wf, nn_wf, rd_wf, nn_nw]
  try rfl))
theorem jt_306_17 (h : am_H) (d2 : am_V) (x0 x1 x3 s0 : Int) : JJ 306 17 [(22, x0), (0, x1), d2, (0, x3)] [(22, s0)] h = Mo_tried_19 h x0 x1 x3 1 s0 := (jj_of bk_306_17 _ _ h).trans ((ff_of bk_306_17 [(22, x0), (0, x1), (9, 0), (0, x3)] [(22, s0)] h).trans (by
  show (JJ 306 19 [(22, x0), (0, x1), (9, 0), (0, x3)] [(0, 1), (22, s0)] h) = _
  simp only [jt_306_19, ck_or1, ck_or2, rf_wr, ln_wr, nn_wr, rf_cp, ln_cp, nn_cp, ln_wf, nn_wf, rd_wf, nn_nw]
  try rfl))
theorem jt_306_16 (h : am_H) (d2 : am_V) (x0 x1 x3 s0 s1 : Int) : JJ 306 16 [(22, x0), (0, x1), d2, (0, x3)] [(0, s0), (22, s1)] h = ck_ (0 ≤ s1) (if x1 ≠ 3 then Mo_tried_19 (wr_ h s1 66 s0) x0 x1 x3 0 x0 else Mo_tried_19 (wr_ h s1 66 s0) x0 x1 x3 1 x0) := (jj_of bk_306_16 _ _ h).trans ((ff_of bk_306_16 [(22, x0), (0, x1), (9, 0), (0, x3)] [(0, s0), (22, s1)] h).trans (by
  show (ck_ (0 ≤ s1) (if x1 ≠ 3 then JJ 306 18 [(22, x0), (0, x1), (9, 0), (0, x3)] [(22, x0)] (wr_ h s1 66 s0) else JJ 306 17 [(22, x0), (0, x1), (9, 0), (0, x3)] [(22, x0)] (wr_ h s1 66 s0))) = _
  simp only [jt_306_17, jt_306_18, ck_or1, ck_or2, rf_wr, ln_wr, nn_wr, rf_cp, ln_cp, nn_cp, ln_wf, nn_wf, rd_wf, nn_nw]
  try rfl))
theorem jt_306_15 (h : am_H) (d2 : am_V) (x0 x1 x3 s0 : Int) : JJ 306 15 [(22, x0), (0, x1), d2, (0, x3)] [(22, s0)] h = ck_ (0 ≤ s0) (if x1 ≠ 3 then Mo_tried_19 (wr_ h s0 66 (-1)) x0 x1 x3 0 x0 else Mo_tried_19 (wr_ h s0 66 (-1)) x0 x1 x3 1 x0) := (jj_of bk_306_15 _ _ h).trans ((ff_of bk_306_15 [(22, x0), (0, x1), (9, 0), (0, x3)] [(22, s0)] h).trans (by
  show (JJ 306 16 [(22, x0), (0, x1), (9, 0), (0, x3)] [(0, (-1)), (22, s0)] h) = _
  simp only [jt_306_16, ck_or1, ck_or2, rf_wr, ln_wr, nn_wr, rf_cp, ln_cp, nn_cp, ln_wf, nn_wf, rd_wf, nn_nw]
  try rfl))
theorem jt_306_14 (h : am_H) (x0 x1 x2 x3 s0 : Int) : JJ 306 14 [(22, x0), (0, x1), (0, x2), (0, x3)] [(22, s0)] h = ck_ (0 ≤ s0) (if x1 ≠ 3 then Mo_tried_19 (wr_ h s0 66 x2) x0 x1 x3 0 x0 else Mo_tried_19 (wr_ h s0 66 x2) x0 x1 x3 1 x0) := (jj_of bk_306_14 _ _ h).trans ((ff_of bk_306_14 [(22, x0), (0, x1), (0, x2), (0, x3)] [(22, s0)] h).trans (by
  show (JJ 306 16 [(22, x0), (0, x1), (0, x2), (0, x3)] [(0, x2), (22, s0)] h) = _
  simp only [jt_306_16, ck_or1, ck_or2, rf_wr, ln_wr, nn_wr, rf_cp, ln_cp, nn_cp, ln_wf, nn_wf, rd_wf, nn_nw]
  try rfl))
theorem Mo_tried_13_e (h : am_H) (x0 x1 x2 x3 s0 s1 : Int) : Mo_tried_13 h x0 x1 x2 x3 s0 s1 = ck_ (0 ≤ s1) (ck_ (s0 = 0 ∨ s0 = 1) (if x1 ≠ 2 then ck_ (0 ≤ x0) (if x1 ≠ 3 then Mo_tried_19 (wr_ (wr_ h s1 63 s0) x0 66 (-1)) x0 x1 x3 0 x0 else Mo_tried_19 (wr_ (wr_ h s1 63 s0) x0 66 (-1)) x0 x1 x3 1 x0) else ck_ (0 ≤ x0) (if x1 ≠ 3 then Mo_tried_19 (wr_ (wr_ h s1 63 s0) x0 66 x2) x0 x1 x3 0 x0 else Mo_tried_19 (wr_ (wr_ h s1 63 s0) x0 66 x2) x0 x1 x3 1 x0))) := (ff_of bk_306_13 [(22, x0), (0, x1), (0, x2), (0, x3)] [(0, s0), (22, s1)] h).trans (by
  show (ck_ (0 ≤ s1) (ck_ (s0 = 0 ∨ s0 = 1) (if x1 ≠ 2 then JJ 306 15 [(22, x0), (0, x1), (0, x2), (0, x3)] [(22, x0)] (wr_ h s1 63 s0) else JJ 306 14 [(22, x0), (0, x1), (0, x2), (0, x3)] [(22, x0)] (wr_ h s1 63 s0)))) = _
  simp only [jt_306_14, jt_306_15, ck_or1, ck_or2, rf_wr, ln_wr, nn_wr, rf_cp, ln_cp, nn_cp, ln_wf, nn_wf, rd_wf, nn_nw]
  try rfl)
theorem jt_306_22 (h : am_H) (d1 d2 : am_V) (x0 x3 s0 s1 : Int) : JJ 306 22 [(22, x0), d1, d2, (0, x3)] [(0, s0), (22, s1)] h = ck_ (0 ≤ s1) (ck_ (s0 = 0 ∨ s0 = 1) (ck_ (0 ≤ x0) (bd_ (Mo_goMany (wr_ h s1 65 s0) x0 x3) fun h1 _ => ck_ (0 ≤ x0) (bd_ (Mo_plainTried h1 x0) fun h3 _ => ck_ (0 ≤ x0) (bd_ (Mo_gapsAll h3 x0 1) fun h5 v6 => some (h5, v6)))))) := (jj_of bk_306_22 _ _ h).trans ((ff_of bk_306_22 [(22, x0), (9, 0), (9, 0), (0, x3)] [(0, s0), (22, s1)] h).trans (by
  show (ck_ (0 ≤ s1) (ck_ (s0 = 0 ∨ s0 = 1) (ck_ (0 ≤ x0) (bd_ (CC 254 [(22, x0), (0, x3)] (wr_ h s1 65 s0)) fun h1 _ => ck_ (0 ≤ x0) (bd_ (CC 188 [(22, x0)] h1) fun h3 _ => ck_ (0 ≤ x0) (bd_ (CC 258 [(22, x0), (0, 1)] h3) fun h5 v6 => some (h5, v6))))))) = _
  simp only [cc_258, cc_254, cc_188, ck_or1, ck_or2, rf_wr, ln_wr, nn_wr, rf_cp, ln_cp, nn_cp, ln_wf, nn_wf, rd_wf, nn_nw]
  try rfl))
theorem jt_306_21 (h : am_H) (d1 d2 : am_V) (x0 x3 s0 : Int) : JJ 306 21 [(22, x0), d1, d2, (0, x3)] [(22, s0)] h = ck_ (0 ≤ s0) (ck_ (0 ≤ x0) (bd_ (Mo_goMany (wr_ h s0 65 0) x0 x3) fun h1 _ => ck_ (0 ≤ x0) (bd_ (Mo_plainTried h1 x0) fun h3 _ => ck_ (0 ≤ x0) (bd_ (Mo_gapsAll h3 x0 1) fun h5 v6 => some (h5, v6))))) := (jj_of bk_306_21 _ _ h).trans ((ff_of bk_306_21 [(22, x0), (9, 0), (9, 0), (0, x3)] [(22, s0)] h).trans (by
  show (JJ 306 22 [(22, x0), (9, 0), (9, 0), (0, x3)] [(0, 0), (22, s0)] h) = _
  simp only [jt_306_22, ck_or1, ck_or2, rf_wr, ln_wr, nn_wr, rf_cp, ln_cp, nn_cp, ln_wf, nn_wf, rd_wf, nn_nw]
  try rfl))
theorem jt_306_20 (h : am_H) (d1 d2 : am_V) (x0 x3 s0 : Int) : JJ 306 20 [(22, x0), d1, d2, (0, x3)] [(22, s0)] h = ck_ (0 ≤ s0) (ck_ (0 ≤ x0) (bd_ (Mo_goMany (wr_ h s0 65 1) x0 x3) fun h1 _ => ck_ (0 ≤ x0) (bd_ (Mo_plainTried h1 x0) fun h3 _ => ck_ (0 ≤ x0) (bd_ (Mo_gapsAll h3 x0 1) fun h5 v6 => some (h5, v6))))) := (jj_of bk_306_20 _ _ h).trans ((ff_of bk_306_20 [(22, x0), (9, 0), (9, 0), (0, x3)] [(22, s0)] h).trans (by
  show (JJ 306 22 [(22, x0), (9, 0), (9, 0), (0, x3)] [(0, 1), (22, s0)] h) = _
  simp only [jt_306_22, ck_or1, ck_or2, rf_wr, ln_wr, nn_wr, rf_cp, ln_cp, nn_cp, ln_wf, nn_wf, rd_wf, nn_nw]
  try rfl))
theorem Mo_tried_19_e (h : am_H) (x0 x1 x3 s0 s1 : Int) : Mo_tried_19 h x0 x1 x3 s0 s1 = ck_ (0 ≤ s1) (ck_ (s0 = 0 ∨ s0 = 1) (if x1 ≠ 4 then ck_ (0 ≤ x0) (ck_ (0 ≤ x0) (bd_ (Mo_goMany (wr_ (wr_ h s1 64 s0) x0 65 0) x0 x3) fun h1 _ => ck_ (0 ≤ x0) (bd_ (Mo_plainTried h1 x0) fun h3 _ => ck_ (0 ≤ x0) (bd_ (Mo_gapsAll h3 x0 1) fun h5 v6 => some (h5, v6))))) else ck_ (0 ≤ x0) (ck_ (0 ≤ x0) (bd_ (Mo_goMany (wr_ (wr_ h s1 64 s0) x0 65 1) x0 x3) fun h7 _ => ck_ (0 ≤ x0) (bd_ (Mo_plainTried h7 x0) fun h9 _ => ck_ (0 ≤ x0) (bd_ (Mo_gapsAll h9 x0 1) fun h11 v12 => some (h11, v12))))))) := (ff_of bk_306_19 [(22, x0), (0, x1), (9, 0), (0, x3)] [(0, s0), (22, s1)] h).trans (by
  show (ck_ (0 ≤ s1) (ck_ (s0 = 0 ∨ s0 = 1) (if x1 ≠ 4 then JJ 306 21 [(22, x0), (0, x1), (9, 0), (0, x3)] [(22, x0)] (wr_ h s1 64 s0) else JJ 306 20 [(22, x0), (0, x1), (9, 0), (0, x3)] [(22, x0)] (wr_ h s1 64 s0)))) = _
  simp only [jt_306_20, jt_306_21, ck_or1, ck_or2, rf_wr, ln_wr, nn_wr, rf_cp, ln_cp, nn_cp, ln_wf, nn_wf, rd_wf, nn_nw]
  try rfl)
theorem cc_306 (h : am_H) (x0 x1 x2 x3 : Int) : CC 306 [(22, x0), (0, x1), (0, x2), (0, x3)] h = Mo_tried h x0 x1 x2 x3 := cc_of pk_306 _ h
set_option maxRecDepth 20000 in
theorem pk_307 : am_prog 307 = some cd_307 := rfl
theorem bk_307_0 : bk_ am_prog 307 0 = some ([true, true, true, false], (bl_307_0, 1)) := bk_of pk_307 rfl
theorem bk_307_1 : bk_ am_prog 307 1 = some ([true, true, true, true], (bl_307_1, 9999)) := bk_of pk_307 rfl
theorem bk_307_2 : bk_ am_prog 307 2 = some ([true, true, true, true], (bl_307_2, 9999)) := bk_of pk_307 rfl
theorem bk_307_3 : bk_ am_prog 307 3 = some ([true, true, true, false], (bl_307_3, 4)) := bk_of pk_307 rfl
theorem bk_307_4 : bk_ am_prog 307 4 = some ([true, true, true, true], (bl_307_4, 9999)) := bk_of pk_307 rfl
theorem bk_307_5 : bk_ am_prog 307 5 = some ([true, true, true, true], (bl_307_5, 9999)) := bk_of pk_307 rfl
theorem bk_307_6 : bk_ am_prog 307 6 = some ([false, false, false, false], (bl_307_6, 9999)) := bk_of pk_307 rfl
theorem jt_307_1 (h : am_H) (x0 x1 x2 x3 : Int) : JJ 307 1 [(22, x0), (30, x1), (0, x2), (0, x3)] [] h = Mo_take_1 h x0 x1 x2 x3 := jj_of bk_307_1 _ _ h
theorem jt_307_4 (h : am_H) (x0 x1 x2 x3 : Int) : JJ 307 4 [(22, x0), (30, x1), (0, x2), (0, x3)] [] h = Mo_take_4 h x0 x1 x2 x3 := jj_of bk_307_4 _ _ h
theorem Mo_take_e (h : am_H) (x0 x1 x2 : Int) : Mo_take h x0 x1 x2 = Mo_take_1 h x0 x1 x2 0 := (ff_of bk_307_0 [(22, x0), (30, x1), (0, x2), (9, 0)] [] h).trans (by
  show (JJ 307 1 [(22, x0), (30, x1), (0, x2), (0, 0)] [] h) = _
  simp only [jt_307_1, ck_or1, ck_or2, rf_wr, ln_wr, nn_wr, rf_cp, ln_cp, nn_cp, ln_wf, nn_wf, rd_wf, nn_nw]
  try rfl)
theorem jt_307_3 (h : am_H) (d3 : am_V) (x0 x1 x2 : Int) : JJ 307 3 [(22, x0), (30, x1), (0, x2), d3] [] h = Mo_take_4 h x0 x1 x2 0 := (jj_of bk_307_3 _ _ h).trans ((ff_of bk_307_3 [(22, x0), (30, x1), (0, x2), (9, 0)] [] h).trans (by
  show (JJ 307 4 [(22, x0), (30, x1), (0, x2), (0, 0)] [] h) = _
  simp only [jt_307_4, ck_or1, ck_or2, rf_wr, ln_wr, nn_wr, rf_cp, ln_cp, nn_cp, ln_wf, nn_wf, rd_wf, nn_nw]
  try rfl))
set_option maxRecDepth 20000 in
theorem jt_307_2 (h : am_H) (x0 x1 x2 x3 : Int) : JJ 307 2 [(22, x0), (30, x1), (0, x2), (0, x3)] [] h = ck_ (0 ≤ x0) (ck_ (0 ≤ x1) (ck_ (0 ≤ (w32 (x2 + x3)) ∧ (w32 (x2 + x3)) < ln_ h x1) (ck_ (0 ≤ (rf_ h x0 52)) (ck_ (0 ≤ x3 ∧ x3 < ln_ h (rf_ h x0 52)) (ck_ (0 ≤ x0) (ck_ (0 ≤ x1) (ck_ (0 ≤ (w32 ((w32 (x2 + 4)) + x3)) ∧ (w32 ((w32 (x2 + 4)) + x3)) < ln_ h x1) (ck_ (0 ≤ (rf_ h x0 54)) (ck_ (0 ≤ x3 ∧ x3 < ln_ h (rf_ h x0 54)) (Mo_take_1 (wr_ (wr_ h (rf_ h x0 52) x3 (rd_ h x1 (w32 (x2 + x3)))) (rf_ h x0 54) x3 (rd_ (wr_ h (rf_ h x0 52) x3 (rd_ h x1 (w32 (x2 + x3)))) x1 (w32 ((w32 (x2 + 4)) + x3)))) x0 x1 x2 (w32 (x3 + 1)))))))))))) := (jj_of bk_307_2 _ _ h).trans ((ff_of bk_307_2 [(22, x0), (30, x1), (0, x2), (0, x3)] [] h).trans (by
  show (ck_ (0 ≤ x0) (ck_ (0 ≤ x1) (ck_ (0 ≤ (w32 (x2 + x3)) ∧ (w32 (x2 + x3)) < ln_ h x1) (ck_ (0 ≤ (rf_ h x0 52)) (ck_ (0 ≤ x3 ∧ x3 < ln_ h (rf_ h x0 52)) (ck_ (0 ≤ x0) (ck_ (0 ≤ x1) (ck_ (0 ≤ (w32 ((w32 (x2 + 4)) + x3)) ∧ (w32 ((w32 (x2 + 4)) + x3)) < ln_ h x1) (ck_ (0 ≤ (rf_ h x0 54)) (ck_ (0 ≤ x3 ∧ x3 < ln_ h (rf_ h x0 54)) (JJ 307 1 [(22, x0), (30, x1), (0, x2), (0, w32 (x3 + 1))] [] (wr_ (wr_ h (rf_ h x0 52) x3 (rd_ h x1 (w32 (x2 + x3)))) (rf_ h x0 54) x3 (rd_ (wr_ h (rf_ h x0 52) x3 (rd_ h x1 (w32 (x2 + x3)))) x1 (w32 ((w32 (x2 + 4)) + x3))))))))))))))) = _
  simp only [jt_307_1, ck_or1, ck_or2, rf_wr, ln_wr, nn_wr, rf_cp, ln_cp, nn_cp, ln_wf, nn_wf, rd_wf, nn_nw]
  try rfl))
theorem Mo_take_1_e (h : am_H) (x0 x1 x2 x3 : Int) : Mo_take_1 h x0 x1 x2 x3 = if 4 ≤ x3 then Mo_take_4 h x0 x1 x2 0 else ck_ (0 ≤ x0) (ck_ (0 ≤ x1) (ck_ (0 ≤ (w32 (x2 + x3)) ∧ (w32 (x2 + x3)) < ln_ h x1) (ck_ (0 ≤ (rf_ h x0 52)) (ck_ (0 ≤ x3 ∧ x3 < ln_ h (rf_ h x0 52)) (ck_ (0 ≤ x0) (ck_ (0 ≤ x1) (ck_ (0 ≤ (w32 ((w32 (x2 + 4)) + x3)) ∧ (w32 ((w32 (x2 + 4)) + x3)) < ln_ h x1) (ck_ (0 ≤ (rf_ h x0 54)) (ck_ (0 ≤ x3 ∧ x3 < ln_ h (rf_ h x0 54)) (Mo_take_1 (wr_ (wr_ h (rf_ h x0 52) x3 (rd_ h x1 (w32 (x2 + x3)))) (rf_ h x0 54) x3 (rd_ (wr_ h (rf_ h x0 52) x3 (rd_ h x1 (w32 (x2 + x3)))) x1 (w32 ((w32 (x2 + 4)) + x3)))) x0 x1 x2 (w32 (x3 + 1)))))))))))) := (ff_of bk_307_1 [(22, x0), (30, x1), (0, x2), (0, x3)] [] h).trans (by
  show (if 4 ≤ x3 then JJ 307 3 [(22, x0), (30, x1), (0, x2), (0, x3)] [] h else JJ 307 2 [(22, x0), (30, x1), (0, x2), (0, x3)] [] h) = _
  simp only [jt_307_2, jt_307_3, ck_or1, ck_or2, rf_wr, ln_wr, nn_wr, rf_cp, ln_cp, nn_cp, ln_wf, nn_wf, rd_wf, nn_nw]
  try rfl)
theorem jt_307_6 (h : am_H) (d0 d1 d2 d3 : am_V) : JJ 307 6 [d0, d1, d2, d3] [] h = some (h, 0) := (jj_of bk_307_6 _ _ h).trans (ff_of bk_307_6 [(9, 0), (9, 0), (9, 0), (9, 0)] [] h)
set_option maxRecDepth 20000 in
theorem jt_307_5 (h : am_H) (x0 x1 x2 x3 : Int) : JJ 307 5 [(22, x0), (30, x1), (0, x2), (0, x3)] [] h = ck_ (0 ≤ x0) (ck_ (0 ≤ x1) (ck_ (0 ≤ (w32 ((w32 (x2 + 8)) + x3)) ∧ (w32 ((w32 (x2 + 8)) + x3)) < ln_ h x1) (ck_ (0 ≤ (rf_ h x0 53)) (ck_ (0 ≤ x3 ∧ x3 < ln_ h (rf_ h x0 53)) (ck_ (0 ≤ x0) (ck_ (0 ≤ x1) (ck_ (0 ≤ (w32 ((w32 (x2 + 28)) + x3)) ∧ (w32 ((w32 (x2 + 28)) + x3)) < ln_ h x1) (ck_ (0 ≤ (rf_ h x0 55)) (ck_ (0 ≤ x3 ∧ x3 < ln_ h (rf_ h x0 55)) (Mo_take_4 (wr_ (wr_ h (rf_ h x0 53) x3 (rd_ h x1 (w32 ((w32 (x2 + 8)) + x3)))) (rf_ h x0 55) x3 (rd_ (wr_ h (rf_ h x0 53) x3 (rd_ h x1 (w32 ((w32 (x2 + 8)) + x3)))) x1 (w32 ((w32 (x2 + 28)) + x3)))) x0 x1 x2 (w32 (x3 + 1)))))))))))) := (jj_of bk_307_5 _ _ h).trans ((ff_of bk_307_5 [(22, x0), (30, x1), (0, x2), (0, x3)] [] h).trans (by
  show (ck_ (0 ≤ x0) (ck_ (0 ≤ x1) (ck_ (0 ≤ (w32 ((w32 (x2 + 8)) + x3)) ∧ (w32 ((w32 (x2 + 8)) + x3)) < ln_ h x1) (ck_ (0 ≤ (rf_ h x0 53)) (ck_ (0 ≤ x3 ∧ x3 < ln_ h (rf_ h x0 53)) (ck_ (0 ≤ x0) (ck_ (0 ≤ x1) (ck_ (0 ≤ (w32 ((w32 (x2 + 28)) + x3)) ∧ (w32 ((w32 (x2 + 28)) + x3)) < ln_ h x1) (ck_ (0 ≤ (rf_ h x0 55)) (ck_ (0 ≤ x3 ∧ x3 < ln_ h (rf_ h x0 55)) (JJ 307 4 [(22, x0), (30, x1), (0, x2), (0, w32 (x3 + 1))] [] (wr_ (wr_ h (rf_ h x0 53) x3 (rd_ h x1 (w32 ((w32 (x2 + 8)) + x3)))) (rf_ h x0 55) x3 (rd_ (wr_ h (rf_ h x0 53) x3 (rd_ h x1 (w32 ((w32 (x2 + 8)) + x3)))) x1 (w32 ((w32 (x2 + 28)) + x3))))))))))))))) = _
  simp only [jt_307_4, ck_or1, ck_or2, rf_wr, ln_wr, nn_wr, rf_cp, ln_cp, nn_cp, ln_wf, nn_wf, rd_wf, nn_nw]
  try rfl))
theorem Mo_take_4_e (h : am_H) (x0 x1 x2 x3 : Int) : Mo_take_4 h x0 x1 x2 x3 = if 20 ≤ x3 then some (h, 0) else ck_ (0 ≤ x0) (ck_ (0 ≤ x1) (ck_ (0 ≤ (w32 ((w32 (x2 + 8)) + x3)) ∧ (w32 ((w32 (x2 + 8)) + x3)) < ln_ h x1) (ck_ (0 ≤ (rf_ h x0 53)) (ck_ (0 ≤ x3 ∧ x3 < ln_ h (rf_ h x0 53)) (ck_ (0 ≤ x0) (ck_ (0 ≤ x1) (ck_ (0 ≤ (w32 ((w32 (x2 + 28)) + x3)) ∧ (w32 ((w32 (x2 + 28)) + x3)) < ln_ h x1) (ck_ (0 ≤ (rf_ h x0 55)) (ck_ (0 ≤ x3 ∧ x3 < ln_ h (rf_ h x0 55)) (Mo_take_4 (wr_ (wr_ h (rf_ h x0 53) x3 (rd_ h x1 (w32 ((w32 (x2 + 8)) + x3)))) (rf_ h x0 55) x3 (rd_ (wr_ h (rf_ h x0 53) x3 (rd_ h x1 (w32 ((w32 (x2 + 8)) + x3)))) x1 (w32 ((w32 (x2 + 28)) + x3)))) x0 x1 x2 (w32 (x3 + 1)))))))))))) := (ff_of bk_307_4 [(22, x0), (30, x1), (0, x2), (0, x3)] [] h).trans (by
  show (if 20 ≤ x3 then JJ 307 6 [(22, x0), (30, x1), (0, x2), (0, x3)] [] h else JJ 307 5 [(22, x0), (30, x1), (0, x2), (0, x3)] [] h) = _
  simp only [jt_307_5, jt_307_6, ck_or1, ck_or2, rf_wr, ln_wr, nn_wr, rf_cp, ln_cp, nn_cp, ln_wf, nn_wf, rd_wf, nn_nw]
  try rfl)
theorem cc_307 (h : am_H) (x0 x1 x2 : Int) : CC 307 [(22, x0), (30, x1), (0, x2)] h = Mo_take h x0 x1 x2 := cc_of pk_307 _ h
set_option maxRecDepth 20000 in
theorem pk_308 : am_prog 308 = some cd_308 := rfl
theorem bk_308_0 : bk_ am_prog 308 0 = some ([true, false], (bl_308_0, 9999)) := bk_of pk_308 rfl
theorem bk_308_1 : bk_ am_prog 308 1 = some ([false, false], (bl_308_1, 9999)) := bk_of pk_308 rfl
theorem bk_308_2 : bk_ am_prog 308 2 = some ([true, false], (bl_308_2, 3)) := bk_of pk_308 rfl
theorem bk_308_3 : bk_ am_prog 308 3 = some ([true, true], (bl_308_3, 9999)) := bk_of pk_308 rfl
theorem bk_308_4 : bk_ am_prog 308 4 = some ([true, true], (bl_308_4, 9999)) := bk_of pk_308 rfl
theorem bk_308_5 : bk_ am_prog 308 5 = some ([true, false], (bl_308_5, 9999)) := bk_of pk_308 rfl
theorem jt_308_3 (h : am_H) (x0 x1 : Int) : JJ 308 3 [(22, x0), (0, x1)] [] h = Mo_undo_3 h x0 x1 := jj_of bk_308_3 _ _ h
theorem jt_308_2 (h : am_H) (d1 : am_V) (x0 : Int) : JJ 308 2 [(22, x0), d1] [] h = ck_ (0 ≤ x0) (ck_ (0 ≤ x0) (ck_ (0 ≤ x0) (ck_ (0 ≤ x0) (ck_ (0 ≤ x0) (bd_ (Mo_take (wr_ h x0 85 (w32 ((rd_ h x0 85) - 1))) x0 (rf_ h x0 86) (w32 (48 * (rd_ (wr_ h x0 85 (w32 ((rd_ h x0 85) - 1))) x0 85)))) fun h1 _ => Mo_undo_3 h1 x0 0))))) := (jj_of bk_308_2 _ _ h).trans ((ff_of bk_308_2 [(22, x0), (9, 0)] [] h).trans (by
  show (ck_ (0 ≤ x0) (ck_ (0 ≤ x0) (ck_ (0 ≤ x0) (ck_ (0 ≤ x0) (ck_ (0 ≤ x0) (bd_ (CC 307 [(22, x0), (30, rf_ h x0 86), (0, w32 (48 * (rd_ (wr_ h x0 85 (w32 ((rd_ h x0 85) - 1))) x0 85)))] (wr_ h x0 85 (w32 ((rd_ h x0 85) - 1)))) fun h1 _ => JJ 308 3 [(22, x0), (0, 0)] [] h1)))))) = _
  simp only [cc_307, jt_308_3, ck_or1, ck_or2, rf_wr, ln_wr, nn_wr, rf_cp, ln_cp, nn_cp, ln_wf, nn_wf, rd_wf, nn_nw]
  try rfl))
theorem jt_308_1 (h : am_H) (d0 d1 : am_V) : JJ 308 1 [d0, d1] [] h = some (h, (-1)) := (jj_of bk_308_1 _ _ h).trans (ff_of bk_308_1 [(9, 0), (9, 0)] [] h)
theorem Mo_undo_e (h : am_H) (x0 : Int) : Mo_undo h x0 = ck_ (0 ≤ x0) (ck_ (0 ≤ x0) (if (rd_ (wr_ h x0 2 0) x0 85) ≠ 0 then ck_ (0 ≤ x0) (ck_ (0 ≤ x0) (ck_ (0 ≤ x0) (ck_ (0 ≤ x0) (ck_ (0 ≤ x0) (bd_ (Mo_take (wr_ (wr_ h x0 2 0) x0 85 (w32 ((rd_ (wr_ h x0 2 0) x0 85) - 1))) x0 (rf_ h x0 86) (w32 (48 * (rd_ (wr_ (wr_ h x0 2 0) x0 85 (w32 ((rd_ (wr_ h x0 2 0) x0 85) - 1))) x0 85)))) fun h1 _ => Mo_undo_3 h1 x0 0))))) else some (wr_ h x0 2 0, (-1)))) := (ff_of bk_308_0 [(22, x0), (9, 0)] [] h).trans (by
  show (ck_ (0 ≤ x0) (ck_ (0 ≤ x0) (if (rd_ (wr_ h x0 2 0) x0 85) ≠ 0 then JJ 308 2 [(22, x0), (9, 0)] [] (wr_ h x0 2 0) else JJ 308 1 [(22, x0), (9, 0)] [] (wr_ h x0 2 0)))) = _
  simp only [jt_308_1, jt_308_2, ck_or1, ck_or2, rf_wr, ln_wr, nn_wr, rf_cp, ln_cp, nn_cp, ln_wf, nn_wf, rd_wf, nn_nw]
  try rfl)
theorem jt_308_5 (h : am_H) (d1 : am_V) (x0 : Int) : JJ 308 5 [(22, x0), d1] [] h = ck_ (0 ≤ x0) (some (h, rd_ h x0 85)) := (jj_of bk_308_5 _ _ h).trans (ff_of bk_308_5 [(22, x0), (9, 0)] [] h)
set_option maxRecDepth 20000 in
theorem jt_308_4 (h : am_H) (x0 x1 : Int) : JJ 308 4 [(22, x0), (0, x1)] [] h = ck_ (0 ≤ x0) (ck_ (0 ≤ x0) (ck_ (0 ≤ x0) (ck_ (0 ≤ (rf_ h x0 87)) (ck_ (0 ≤ (w32 ((w32 (20 * (rd_ h x0 85))) + x1)) ∧ (w32 ((w32 (20 * (rd_ h x0 85))) + x1)) < ln_ h (rf_ h x0 87)) (ck_ (0 ≤ (rf_ h x0 56)) (ck_ (0 ≤ x1 ∧ x1 < ln_ h (rf_ h x0 56)) (ck_ ((rd_ h (rf_ h x0 87) (w32 ((w32 (20 * (rd_ h x0 85))) + x1))) = 0 ∨ (rd_ h (rf_ h x0 87) (w32 ((w32 (20 * (rd_ h x0 85))) + x1))) = 1) (Mo_undo_3 (wr_ h (rf_ h x0 56) x1 (rd_ h (rf_ h x0 87) (w32 ((w32 (20 * (rd_ h x0 85))) + x1)))) x0 (w32 (x1 + 1)))))))))) := (jj_of bk_308_4 _ _ h).trans ((ff_of bk_308_4 [(22, x0), (0, x1)] [] h).trans (by
  show (ck_ (0 ≤ x0) (ck_ (0 ≤ x0) (ck_ (0 ≤ x0) (ck_ (0 ≤ (rf_ h x0 87)) (ck_ (0 ≤ (w32 ((w32 (20 * (rd_ h x0 85))) + x1)) ∧ (w32 ((w32 (20 * (rd_ h x0 85))) + x1)) < ln_ h (rf_ h x0 87)) (ck_ (0 ≤ (rf_ h x0 56)) (ck_ (0 ≤ x1 ∧ x1 < ln_ h (rf_ h x0 56)) (ck_ ((rd_ h (rf_ h x0 87) (w32 ((w32 (20 * (rd_ h x0 85))) + x1))) = 0 ∨ (rd_ h (rf_ h x0 87) (w32 ((w32 (20 * (rd_ h x0 85))) + x1))) = 1) (JJ 308 3 [(22, x0), (0, w32 (x1 + 1))] [] (wr_ h (rf_ h x0 56) x1 (rd_ h (rf_ h x0 87) (w32 ((w32 (20 * (rd_ h x0 85))) + x1))))))))))))) = _
  simp only [jt_308_3, ck_or1, ck_or2, rf_wr, ln_wr, nn_wr, rf_cp, ln_cp, nn_cp, ln_wf, nn_wf, rd_wf, nn_nw]
  try rfl))
theorem Mo_undo_3_e (h : am_H) (x0 x1 : Int) : Mo_undo_3 h x0 x1 = if 20 ≤ x1 then ck_ (0 ≤ x0) (some (h, rd_ h x0 85)) else ck_ (0 ≤ x0) (ck_ (0 ≤ x0) (ck_ (0 ≤ x0) (ck_ (0 ≤ (rf_ h x0 87)) (ck_ (0 ≤ (w32 ((w32 (20 * (rd_ h x0 85))) + x1)) ∧ (w32 ((w32 (20 * (rd_ h x0 85))) + x1)) < ln_ h (rf_ h x0 87)) (ck_ (0 ≤ (rf_ h x0 56)) (ck_ (0 ≤ x1 ∧ x1 < ln_ h (rf_ h x0 56)) (ck_ ((rd_ h (rf_ h x0 87) (w32 ((w32 (20 * (rd_ h x0 85))) + x1))) = 0 ∨ (rd_ h (rf_ h x0 87) (w32 ((w32 (20 * (rd_ h x0 85))) + x1))) = 1) (Mo_undo_3 (wr_ h (rf_ h x0 56) x1 (rd_ h (rf_ h x0 87) (w32 ((w32 (20 * (rd_ h x0 85))) + x1)))) x0 (w32 (x1 + 1)))))))))) := (ff_of bk_308_3 [(22, x0), (0, x1)] [] h).trans (by
  show (if 20 ≤ x1 then JJ 308 5 [(22, x0), (0, x1)] [] h else JJ 308 4 [(22, x0), (0, x1)] [] h) = _
  simp only [jt_308_4, jt_308_5, ck_or1, ck_or2, rf_wr, ln_wr, nn_wr, rf_cp, ln_cp, nn_cp, ln_wf, nn_wf, rd_wf, nn_nw]
  try rfl)
theorem cc_308 (h : am_H) (x0 : Int) : CC 308 [(22, x0)] h = Mo_undo h x0 := cc_of pk_308 _ h
set_option maxRecDepth 20000 in
theorem pk_309 : am_prog 309 = some cd_309 := rfl
theorem bk_309_0 : bk_ am_prog 309 0 = some ([true, false], (bl_309_0, 1)) := bk_of pk_309 rfl
theorem bk_309_1 : bk_ am_prog 309 1 = some ([true, true], (bl_309_1, 9999)) := bk_of pk_309 rfl
theorem bk_309_2 : bk_ am_prog 309 2 = some ([true, true], (bl_309_2, 9999)) := bk_of pk_309 rfl
theorem bk_309_3 : bk_ am_prog 309 3 = some ([true, false], (bl_309_3, 4)) := bk_of pk_309 rfl
theorem bk_309_4 : bk_ am_prog 309 4 = some ([true, true], (bl_309_4, 9999)) := bk_of pk_309 rfl
theorem bk_309_5 : bk_ am_prog 309 5 = some ([true, true], (bl_309_5, 9999)) := bk_of pk_309 rfl
theorem bk_309_6 : bk_ am_prog 309 6 = some ([true, false], (bl_309_6, 9999)) := bk_of pk_309 rfl
theorem jt_309_1 (h : am_H) (x0 x1 : Int) : JJ 309 1 [(22, x0), (0, x1)] [] h = Mo_keep_1 h x0 x1 := jj_of bk_309_1 _ _ h
theorem jt_309_4 (h : am_H) (x0 x1 : Int) : JJ 309 4 [(22, x0), (0, x1)] [] h = Mo_keep_4 h x0 x1 := jj_of bk_309_4 _ _ h
theorem Mo_keep_e (h : am_H) (x0 : Int) : Mo_keep h x0 = ck_ (0 ≤ x0) (ck_ (0 ≤ x0) (ck_ (0 ≤ x0) (ck_ (0 ≤ x0) (bd_ (Mo_put (wr_ (wr_ h x0 2 0) x0 88 1) x0 (rf_ h x0 89) 0) fun h1 _ => Mo_keep_1 h1 x0 0)))) := (ff_of bk_309_0 [(22, x0), (9, 0)] [] h).trans (by
  show (ck_ (0 ≤ x0) (ck_ (0 ≤ x0) (ck_ (0 ≤ x0) (ck_ (0 ≤ x0) (bd_ (CC 264 [(22, x0), (30, rf_ h x0 89), (0, 0)] (wr_ (wr_ h x0 2 0) x0 88 1)) fun h1 _ => JJ 309 1 [(22, x0), (0, 0)] [] h1))))) = _
  simp only [cc_264, jt_309_1, ck_or1, ck_or2, rf_wr, ln_wr, nn_wr, rf_cp, ln_cp, nn_cp, ln_wf, nn_wf, rd_wf, nn_nw]
  try rfl)
theorem jt_309_3 (h : am_H) (d1 : am_V) (x0 : Int) : JJ 309 3 [(22, x0), d1] [] h = Mo_keep_4 h x0 0 := (jj_of bk_309_3 _ _ h).trans ((ff_of bk_309_3 [(22, x0), (9, 0)] [] h).trans (by
  show (JJ 309 4 [(22, x0), (0, 0)] [] h) = _
  simp only [jt_309_4, ck_or1, ck_or2, rf_wr, ln_wr, nn_wr, rf_cp, ln_cp, nn_cp, ln_wf, nn_wf, rd_wf, nn_nw]
  try rfl))
theorem jt_309_2 (h : am_H) (x0 x1 : Int) : JJ 309 2 [(22, x0), (0, x1)] [] h = ck_ (0 ≤ x0) (ck_ (0 ≤ x0) (ck_ (0 ≤ (rf_ h x0 56)) (ck_ (0 ≤ x1 ∧ x1 < ln_ h (rf_ h x0 56)) (ck_ (0 ≤ (rf_ h x0 90)) (ck_ (0 ≤ x1 ∧ x1 < ln_ h (rf_ h x0 90)) (ck_ ((rd_ h (rf_ h x0 56) x1) = 0 ∨ (rd_ h (rf_ h x0 56) x1) = 1) (Mo_keep_1 (wr_ h (rf_ h x0 90) x1 (rd_ h (rf_ h x0 56) x1)) x0 (w32 (x1 + 1))))))))) := (jj_of bk_309_2 _ _ h).trans ((ff_of bk_309_2 [(22, x0), (0, x1)] [] h).trans (by
  show (ck_ (0 ≤ x0) (ck_ (0 ≤ x0) (ck_ (0 ≤ (rf_ h x0 56)) (ck_ (0 ≤ x1 ∧ x1 < ln_ h (rf_ h x0 56)) (ck_ (0 ≤ (rf_ h x0 90)) (ck_ (0 ≤ x1 ∧ x1 < ln_ h (rf_ h x0 90)) (ck_ ((rd_ h (rf_ h x0 56) x1) = 0 ∨ (rd_ h (rf_ h x0 56) x1) = 1) (JJ 309 1 [(22, x0), (0, w32 (x1 + 1))] [] (wr_ h (rf_ h x0 90) x1 (rd_ h (rf_ h x0 56) x1)))))))))) = _
  simp only [jt_309_1, ck_or1, ck_or2, rf_wr, ln_wr, nn_wr, rf_cp, ln_cp, nn_cp, ln_wf, nn_wf, rd_wf, nn_nw]
  try rfl))
theorem Mo_keep_1_e (h : am_H) (x0 x1 : Int) : Mo_keep_1 h x0 x1 = if 20 ≤ x1 then Mo_keep_4 h x0 0 else ck_ (0 ≤ x0) (ck_ (0 ≤ x0) (ck_ (0 ≤ (rf_ h x0 56)) (ck_ (0 ≤ x1 ∧ x1 < ln_ h (rf_ h x0 56)) (ck_ (0 ≤ (rf_ h x0 90)) (ck_ (0 ≤ x1 ∧ x1 < ln_ h (rf_ h x0 90)) (ck_ ((rd_ h (rf_ h x0 56) x1) = 0 ∨ (rd_ h (rf_ h x0 56) x1) = 1) (Mo_keep_1 (wr_ h (rf_ h x0 90) x1 (rd_ h (rf_ h x0 56) x1)) x0 (w32 (x1 + 1))))))))) := (ff_of bk_309_1 [(22, x0), (0, x1)] [] h).trans (by
  show (if 20 ≤ x1 then JJ 309 3 [(22, x0), (0, x1)] [] h else JJ 309 2 [(22, x0), (0, x1)] [] h) = _
  simp only [jt_309_2, jt_309_3, ck_or1, ck_or2, rf_wr, ln_wr, nn_wr, rf_cp, ln_cp, nn_cp, ln_wf, nn_wf, rd_wf, nn_nw]
  try rfl)
set_option maxRecDepth 20000 in
theorem jt_309_6 (h : am_H) (d1 : am_V) (x0 : Int) : JJ 309 6 [(22, x0), d1] [] h = ck_ (0 ≤ x0) (ck_ (0 ≤ x0) (ck_ (0 ≤ (rf_ h x0 58)) (ck_ (0 ≤ (0 : Int) ∧ (0 : Int) < ln_ h (rf_ h x0 58)) (ck_ (0 ≤ (rf_ h x0 91)) (ck_ (0 ≤ (4 : Int) ∧ (4 : Int) < ln_ h (rf_ h x0 91)) (ck_ (0 ≤ x0) (ck_ (0 ≤ x0) (ck_ (0 ≤ (rf_ h x0 59)) (ck_ (0 ≤ (0 : Int) ∧ (0 : Int) < ln_ h (rf_ h x0 59)) (ck_ (0 ≤ (rf_ h x0 91)) (ck_ (0 ≤ (5 : Int) ∧ (5 : Int) < ln_ h (rf_ h x0 91)) (ck_ (0 ≤ x0) (ck_ (0 ≤ x0) (ck_ (0 ≤ x0) (ck_ (0 ≤ (rf_ h x0 59)) (ck_ (0 ≤ (0 : Int) ∧ (0 : Int) < ln_ h (rf_ h x0 59)) (some (wr_ (wr_ (wr_ h (rf_ h x0 91) 4 (rd_ h (rf_ h x0 58) 0)) (rf_ h x0 91) 5 (rd_ (wr_ h (rf_ h x0 91) 4 (rd_ h (rf_ h x0 58) 0)) (rf_ h x0 59) 0)) x0 92 (rd_ (wr_ (wr_ h (rf_ h x0 91) 4 (rd_ h (rf_ h x0 58) 0)) (rf_ h x0 91) 5 (rd_ (wr_ h (rf_ h x0 91) 4 (rd_ h (rf_ h x0 58) 0)) (rf_ h x0 59) 0)) x0 60), rd_ (wr_ (wr_ (wr_ h (rf_ h x0 91) 4 (rd_ h (rf_ h x0 58) 0)) (rf_ h x0 91) 5 (rd_ (wr_ h (rf_ h x0 91) 4 (rd_ h (rf_ h x0 58) 0)) (rf_ h x0 59) 0)) x0 92 (rd_ (wr_ (wr_ h (rf_ h x0 91) 4 (rd_ h (rf_ h x0 58) 0)) (rf_ h x0 91) 5 (rd_ (wr_ h (rf_ h x0 91) 4 (rd_ h (rf_ h x0 58) 0)) (rf_ h x0 59) 0)) x0 60)) (rf_ h x0 59) 0)))))))))))))))))) := (jj_of bk_309_6 _ _ h).trans (ff_of bk_309_6 [(22, x0), (9, 0)] [] h)
theorem jt_309_5 (h : am_H) (x0 x1 : Int) : JJ 309 5 [(22, x0), (0, x1)] [] h = ck_ (0 ≤ x0) (ck_ (0 ≤ x0) (ck_ (0 ≤ (rf_ h x0 57)) (ck_ (0 ≤ x1 ∧ x1 < ln_ h (rf_ h x0 57)) (ck_ (0 ≤ (rf_ h x0 91)) (ck_ (0 ≤ x1 ∧ x1 < ln_ h (rf_ h x0 91)) (Mo_keep_4 (wr_ h (rf_ h x0 91) x1 (rd_ h (rf_ h x0 57) x1)) x0 (w32 (x1 + 1)))))))) := (jj_of bk_309_5 _ _ h).trans ((ff_of bk_309_5 [(22, x0), (0, x1)] [] h).trans (by
  show (ck_ (0 ≤ x0) (ck_ (0 ≤ x0) (ck_ (0 ≤ (rf_ h x0 57)) (ck_ (0 ≤ x1 ∧ x1 < ln_ h (rf_ h x0 57)) (ck_ (0 ≤ (rf_ h x0 91)) (ck_ (0 ≤ x1 ∧ x1 < ln_ h (rf_ h x0 91)) (JJ 309 4 [(22, x0), (0, w32 (x1 + 1))] [] (wr_ h (rf_ h x0 91) x1 (rd_ h (rf_ h x0 57) x1))))))))) = _
  simp only [jt_309_4, ck_or1, ck_or2, rf_wr, ln_wr, nn_wr, rf_cp, ln_cp, nn_cp, ln_wf, nn_wf, rd_wf, nn_nw]
  try rfl))
set_option maxRecDepth 20000 in
theorem Mo_keep_4_e (h : am_H) (x0 x1 : Int) : Mo_keep_4 h x0 x1 = if 4 ≤ x1 then ck_ (0 ≤ x0) (ck_ (0 ≤ x0) (ck_ (0 ≤ (rf_ h x0 58)) (ck_ (0 ≤ (0 : Int) ∧ (0 : Int) < ln_ h (rf_ h x0 58)) (ck_ (0 ≤ (rf_ h x0 91)) (ck_ (0 ≤ (4 : Int) ∧ (4 : Int) < ln_ h (rf_ h x0 91)) (ck_ (0 ≤ x0) (ck_ (0 ≤ x0) (ck_ (0 ≤ (rf_ h x0 59)) (ck_ (0 ≤ (0 : Int) ∧ (0 : Int) < ln_ h (rf_ h x0 59)) (ck_ (0 ≤ (rf_ h x0 91)) (ck_ (0 ≤ (5 : Int) ∧ (5 : Int) < ln_ h (rf_ h x0 91)) (ck_ (0 ≤ x0) (ck_ (0 ≤ x0) (ck_ (0 ≤ x0) (ck_ (0 ≤ (rf_ h x0 59)) (ck_ (0 ≤ (0 : Int) ∧ (0 : Int) < ln_ h (rf_ h x0 59)) (some (wr_ (wr_ (wr_ h (rf_ h x0 91) 4 (rd_ h (rf_ h x0 58) 0)) (rf_ h x0 91) 5 (rd_ (wr_ h (rf_ h x0 91) 4 (rd_ h (rf_ h x0 58) 0)) (rf_ h x0 59) 0)) x0 92 (rd_ (wr_ (wr_ h (rf_ h x0 91) 4 (rd_ h (rf_ h x0 58) 0)) (rf_ h x0 91) 5 (rd_ (wr_ h (rf_ h x0 91) 4 (rd_ h (rf_ h x0 58) 0)) (rf_ h x0 59) 0)) x0 60), rd_ (wr_ (wr_ (wr_ h (rf_ h x0 91) 4 (rd_ h (rf_ h x0 58) 0)) (rf_ h x0 91) 5 (rd_ (wr_ h (rf_ h x0 91) 4 (rd_ h (rf_ h x0 58) 0)) (rf_ h x0 59) 0)) x0 92 (rd_ (wr_ (wr_ h (rf_ h x0 91) 4 (rd_ h (rf_ h x0 58) 0)) (rf_ h x0 91) 5 (rd_ (wr_ h (rf_ h x0 91) 4 (rd_ h (rf_ h x0 58) 0)) (rf_ h x0 59) 0)) x0 60)) (rf_ h x0 59) 0)))))))))))))))))) else ck_ (0 ≤ x0) (ck_ (0 ≤ x0) (ck_ (0 ≤ (rf_ h x0 57)) (ck_ (0 ≤ x1 ∧ x1 < ln_ h (rf_ h x0 57)) (ck_ (0 ≤ (rf_ h x0 91)) (ck_ (0 ≤ x1 ∧ x1 < ln_ h (rf_ h x0 91)) (Mo_keep_4 (wr_ h (rf_ h x0 91) x1 (rd_ h (rf_ h x0 57) x1)) x0 (w32 (x1 + 1)))))))) := (ff_of bk_309_4 [(22, x0), (0, x1)] [] h).trans (by
  show (if 4 ≤ x1 then JJ 309 6 [(22, x0), (0, x1)] [] h else JJ 309 5 [(22, x0), (0, x1)] [] h) = _
  simp only [jt_309_5, jt_309_6, ck_or1, ck_or2, rf_wr, ln_wr, nn_wr, rf_cp, ln_cp, nn_cp, ln_wf, nn_wf, rd_wf, nn_nw]
  try rfl)
theorem cc_309 (h : am_H) (x0 : Int) : CC 309 [(22, x0)] h = Mo_keep h x0 := cc_of pk_309 _ h
set_option maxRecDepth 20000 in
theorem pk_310 : am_prog 310 = some cd_310 := rfl
theorem bk_310_0 : bk_ am_prog 310 0 = some ([true, false], (bl_310_0, 9999)) := bk_of pk_310 rfl
theorem bk_310_1 : bk_ am_prog 310 1 = some ([false, false], (bl_310_1, 9999)) := bk_of pk_310 rfl
theorem bk_310_2 : bk_ am_prog 310 2 = some ([true, false], (bl_310_2, 3)) := bk_of pk_310 rfl
theorem bk_310_3 : bk_ am_prog 310 3 = some ([true, true], (bl_310_3, 9999)) := bk_of pk_310 rfl
theorem bk_310_4 : bk_ am_prog 310 4 = some ([true, true], (bl_310_4, 9999)) := bk_of pk_310 rfl
theorem bk_310_5 : bk_ am_prog 310 5 = some ([true, false], (bl_310_5, 6)) := bk_of pk_310 rfl
theorem bk_310_6 : bk_ am_prog 310 6 = some ([true, true], (bl_310_6, 9999)) := bk_of pk_310 rfl
theorem bk_310_7 : bk_ am_prog 310 7 = some ([true, true], (bl_310_7, 9999)) := bk_of pk_310 rfl
theorem bk_310_8 : bk_ am_prog 310 8 = some ([true, false], (bl_310_8, 9999)) := bk_of pk_310 rfl
theorem jt_310_3 (h : am_H) (x0 x1 : Int) : JJ 310 3 [(22, x0), (0, x1)] [] h = Mo_back_3 h x0 x1 := jj_of bk_310_3 _ _ h
theorem jt_310_6 (h : am_H) (x0 x1 : Int) : JJ 310 6 [(22, x0), (0, x1)] [] h = Mo_back_6 h x0 x1 := jj_of bk_310_6 _ _ h
theorem jt_310_2 (h : am_H) (d1 : am_V) (x0 : Int) : JJ 310 2 [(22, x0), d1] [] h = ck_ (0 ≤ x0) (ck_ (0 ≤ x0) (bd_ (Mo_take h x0 (rf_ h x0 89) 0) fun h1 _ => Mo_back_3 h1 x0 0)) := (jj_of bk_310_2 _ _ h).trans ((ff_of bk_310_2 [(22, x0), (9, 0)] [] h).trans (by
  show (ck_ (0 ≤ x0) (ck_ (0 ≤ x0) (bd_ (CC 307 [(22, x0), (30, rf_ h x0 89), (0, 0)] h) fun h1 _ => JJ 310 3 [(22, x0), (0, 0)] [] h1))) = _
  simp only [cc_307, jt_310_3, ck_or1, ck_or2, rf_wr, ln_wr, nn_wr, rf_cp, ln_cp, nn_cp, ln_wf, nn_wf, rd_wf, nn_nw]
  try rfl))
theorem jt_310_1 (h : am_H) (d0 d1 : am_V) : JJ 310 1 [d0, d1] [] h = some (h, (-1)) := (jj_of bk_310_1 _ _ h).trans (ff_of bk_310_1 [(9, 0), (9, 0)] [] h)
theorem Mo_back_e (h : am_H) (x0 : Int) : Mo_back h x0 = ck_ (0 ≤ x0) (ck_ (0 ≤ x0) (if (rd_ (wr_ h x0 2 0) x0 88) ≠ 0 then ck_ (0 ≤ x0) (ck_ (0 ≤ x0) (bd_ (Mo_take (wr_ h x0 2 0) x0 (rf_ h x0 89) 0) fun h1 _ => Mo_back_3 h1 x0 0)) else some (wr_ h x0 2 0, (-1)))) := (ff_of bk_310_0 [(22, x0), (9, 0)] [] h).trans (by
  show (ck_ (0 ≤ x0) (ck_ (0 ≤ x0) (if (rd_ (wr_ h x0 2 0) x0 88) ≠ 0 then JJ 310 2 [(22, x0), (9, 0)] [] (wr_ h x0 2 0) else JJ 310 1 [(22, x0), (9, 0)] [] (wr_ h x0 2 0)))) = _
  simp only [jt_310_1, jt_310_2, ck_or1, ck_or2, rf_wr, ln_wr, nn_wr, rf_cp, ln_cp, nn_cp, ln_wf, nn_wf, rd_wf, nn_nw]
  try rfl)
theorem jt_310_5 (h : am_H) (d1 : am_V) (x0 : Int) : JJ 310 5 [(22, x0), d1] [] h = Mo_back_6 h x0 0 := (jj_of bk_310_5 _ _ h).trans ((ff_of bk_310_5 [(22, x0), (9, 0)] [] h).trans (by
  show (JJ 310 6 [(22, x0), (0, 0)] [] h) = _
  simp only [jt_310_6, ck_or1, ck_or2, rf_wr, ln_wr, nn_wr, rf_cp, ln_cp, nn_cp, ln_wf, nn_wf, rd_wf, nn_nw]
  try rfl))
theorem jt_310_4 (h : am_H) (x0 x1 : Int) : JJ 310 4 [(22, x0), (0, x1)] [] h = ck_ (0 ≤ x0) (ck_ (0 ≤ x0) (ck_ (0 ≤ (rf_ h x0 90)) (ck_ (0 ≤ x1 ∧ x1 < ln_ h (rf_ h x0 90)) (ck_ (0 ≤ (rf_ h x0 56)) (ck_ (0 ≤ x1 ∧ x1 < ln_ h (rf_ h x0 56)) (ck_ ((rd_ h (rf_ h x0 90) x1) = 0 ∨ (rd_ h (rf_ h x0 90) x1) = 1) (Mo_back_3 (wr_ h (rf_ h x0 56) x1 (rd_ h (rf_ h x0 90) x1)) x0 (w32 (x1 + 1))))))))) := (jj_of bk_310_4 _ _ h).trans ((ff_of bk_310_4 [(22, x0), (0, x1)] [] h).trans (by
  show (ck_ (0 ≤ x0) (ck_ (0 ≤ x0) (ck_ (0 ≤ (rf_ h x0 90)) (ck_ (0 ≤ x1 ∧ x1 < ln_ h (rf_ h x0 90)) (ck_ (0 ≤ (rf_ h x0 56)) (ck_ (0 ≤ x1 ∧ x1 < ln_ h (rf_ h x0 56)) (ck_ ((rd_ h (rf_ h x0 90) x1) = 0 ∨ (rd_ h (rf_ h x0 90) x1) = 1) (JJ 310 3 [(22, x0), (0, w32 (x1 + 1))] [] (wr_ h (rf_ h x0 56) x1 (rd_ h (rf_ h x0 90) x1)))))))))) = _
  simp only [jt_310_3, ck_or1, ck_or2, rf_wr, ln_wr, nn_wr, rf_cp, ln_cp, nn_cp, ln_wf, nn_wf, rd_wf, nn_nw]
  try rfl))
theorem Mo_back_3_e (h : am_H) (x0 x1 : Int) : Mo_back_3 h x0 x1 = if 20 ≤ x1 then Mo_back_6 h x0 0 else ck_ (0 ≤ x0) (ck_ (0 ≤ x0) (ck_ (0 ≤ (rf_ h x0 90)) (ck_ (0 ≤ x1 ∧ x1 < ln_ h (rf_ h x0 90)) (ck_ (0 ≤ (rf_ h x0 56)) (ck_ (0 ≤ x1 ∧ x1 < ln_ h (rf_ h x0 56)) (ck_ ((rd_ h (rf_ h x0 90) x1) = 0 ∨ (rd_ h (rf_ h x0 90) x1) = 1) (Mo_back_3 (wr_ h (rf_ h x0 56) x1 (rd_ h (rf_ h x0 90) x1)) x0 (w32 (x1 + 1))))))))) := (ff_of bk_310_3 [(22, x0), (0, x1)] [] h).trans (by
  show (if 20 ≤ x1 then JJ 310 5 [(22, x0), (0, x1)] [] h else JJ 310 4 [(22, x0), (0, x1)] [] h) = _
  simp only [jt_310_4, jt_310_5, ck_or1, ck_or2, rf_wr, ln_wr, nn_wr, rf_cp, ln_cp, nn_cp, ln_wf, nn_wf, rd_wf, nn_nw]
  try rfl)
set_option maxRecDepth 20000 in
theorem jt_310_8 (h : am_H) (d1 : am_V) (x0 : Int) : JJ 310 8 [(22, x0), d1] [] h = ck_ (0 ≤ x0) (ck_ (0 ≤ x0) (ck_ (0 ≤ (rf_ h x0 91)) (ck_ (0 ≤ (4 : Int) ∧ (4 : Int) < ln_ h (rf_ h x0 91)) (ck_ (0 ≤ (rf_ h x0 58)) (ck_ (0 ≤ (0 : Int) ∧ (0 : Int) < ln_ h (rf_ h x0 58)) (ck_ (0 ≤ x0) (ck_ (0 ≤ x0) (ck_ (0 ≤ (rf_ h x0 91)) (ck_ (0 ≤ (5 : Int) ∧ (5 : Int) < ln_ h (rf_ h x0 91)) (ck_ (0 ≤ (rf_ h x0 59)) (ck_ (0 ≤ (0 : Int) ∧ (0 : Int) < ln_ h (rf_ h x0 59)) (ck_ (0 ≤ x0) (ck_ (0 ≤ x0) (ck_ (0 ≤ x0) (ck_ (0 ≤ x0) (ck_ (0 ≤ (rf_ h x0 59)) (ck_ (0 ≤ (0 : Int) ∧ (0 : Int) < ln_ h (rf_ h x0 59)) (some (wr_ (wr_ (wr_ (wr_ h (rf_ h x0 58) 0 (rd_ h (rf_ h x0 91) 4)) (rf_ h x0 59) 0 (rd_ (wr_ h (rf_ h x0 58) 0 (rd_ h (rf_ h x0 91) 4)) (rf_ h x0 91) 5)) x0 60 (rd_ (wr_ (wr_ h (rf_ h x0 58) 0 (rd_ h (rf_ h x0 91) 4)) (rf_ h x0 59) 0 (rd_ (wr_ h (rf_ h x0 58) 0 (rd_ h (rf_ h x0 91) 4)) (rf_ h x0 91) 5)) x0 92)) x0 85 0, rd_ (wr_ (wr_ (wr_ (wr_ h (rf_ h x0 58) 0 (rd_ h (rf_ h x0 91) 4)) (rf_ h x0 59) 0 (rd_ (wr_ h (rf_ h x0 58) 0 (rd_ h (rf_ h x0 91) 4)) (rf_ h x0 91) 5)) x0 60 (rd_ (wr_ (wr_ h (rf_ h x0 58) 0 (rd_ h (rf_ h x0 91) 4)) (rf_ h x0 59) 0 (rd_ (wr_ h (rf_ h x0 58) 0 (rd_ h (rf_ h x0 91) 4)) (rf_ h x0 91) 5)) x0 92)) x0 85 0) (rf_ h x0 59) 0))))))))))))))))))) := (jj_of bk_310_8 _ _ h).trans (ff_of bk_310_8 [(22, x0), (9, 0)] [] h)
theorem jt_310_7 (h : am_H) (x0 x1 : Int) : JJ 310 7 [(22, x0), (0, x1)] [] h = ck_ (0 ≤ x0) (ck_ (0 ≤ x0) (ck_ (0 ≤ (rf_ h x0 91)) (ck_ (0 ≤ x1 ∧ x1 < ln_ h (rf_ h x0 91)) (ck_ (0 ≤ (rf_ h x0 57)) (ck_ (0 ≤ x1 ∧ x1 < ln_ h (rf_ h x0 57)) (Mo_back_6 (wr_ h (rf_ h x0 57) x1 (rd_ h (rf_ h x0 91) x1)) x0 (w32 (x1 + 1)))))))) := (jj_of bk_310_7 _ _ h).trans ((ff_of bk_310_7 [(22, x0), (0, x1)] [] h).trans (by
  show (ck_ (0 ≤ x0) (ck_ (0 ≤ x0) (ck_ (0 ≤ (rf_ h x0 91)) (ck_ (0 ≤ x1 ∧ x1 < ln_ h (rf_ h x0 91)) (ck_ (0 ≤ (rf_ h x0 57)) (ck_ (0 ≤ x1 ∧ x1 < ln_ h (rf_ h x0 57)) (JJ 310 6 [(22, x0), (0, w32 (x1 + 1))] [] (wr_ h (rf_ h x0 57) x1 (rd_ h (rf_ h x0 91) x1))))))))) = _
  simp only [jt_310_6, ck_or1, ck_or2, rf_wr, ln_wr, nn_wr, rf_cp, ln_cp, nn_cp, ln_wf, nn_wf, rd_wf, nn_nw]
  try rfl))
set_option maxRecDepth 20000 in
theorem Mo_back_6_e (h : am_H) (x0 x1 : Int) : Mo_back_6 h x0 x1 = if 4 ≤ x1 then ck_ (0 ≤ x0) (ck_ (0 ≤ x0) (ck_ (0 ≤ (rf_ h x0 91)) (ck_ (0 ≤ (4 : Int) ∧ (4 : Int) < ln_ h (rf_ h x0 91)) (ck_ (0 ≤ (rf_ h x0 58)) (ck_ (0 ≤ (0 : Int) ∧ (0 : Int) < ln_ h (rf_ h x0 58)) (ck_ (0 ≤ x0) (ck_ (0 ≤ x0) (ck_ (0 ≤ (rf_ h x0 91)) (ck_ (0 ≤ (5 : Int) ∧ (5 : Int) < ln_ h (rf_ h x0 91)) (ck_ (0 ≤ (rf_ h x0 59)) (ck_ (0 ≤ (0 : Int) ∧ (0 : Int) < ln_ h (rf_ h x0 59)) (ck_ (0 ≤ x0) (ck_ (0 ≤ x0) (ck_ (0 ≤ x0) (ck_ (0 ≤ x0) (ck_ (0 ≤ (rf_ h x0 59)) (ck_ (0 ≤ (0 : Int) ∧ (0 : Int) < ln_ h (rf_ h x0 59)) (some (wr_ (wr_ (wr_ (wr_ h (rf_ h x0 58) 0 (rd_ h (rf_ h x0 91) 4)) (rf_ h x0 59) 0 (rd_ (wr_ h (rf_ h x0 58) 0 (rd_ h (rf_ h x0 91) 4)) (rf_ h x0 91) 5)) x0 60 (rd_ (wr_ (wr_ h (rf_ h x0 58) 0 (rd_ h (rf_ h x0 91) 4)) (rf_ h x0 59) 0 (rd_ (wr_ h (rf_ h x0 58) 0 (rd_ h (rf_ h x0 91) 4)) (rf_ h x0 91) 5)) x0 92)) x0 85 0, rd_ (wr_ (wr_ (wr_ (wr_ h (rf_ h x0 58) 0 (rd_ h (rf_ h x0 91) 4)) (rf_ h x0 59) 0 (rd_ (wr_ h (rf_ h x0 58) 0 (rd_ h (rf_ h x0 91) 4)) (rf_ h x0 91) 5)) x0 60 (rd_ (wr_ (wr_ h (rf_ h x0 58) 0 (rd_ h (rf_ h x0 91) 4)) (rf_ h x0 59) 0 (rd_ (wr_ h (rf_ h x0 58) 0 (rd_ h (rf_ h x0 91) 4)) (rf_ h x0 91) 5)) x0 92)) x0 85 0) (rf_ h x0 59) 0))))))))))))))))))) else ck_ (0 ≤ x0) (ck_ (0 ≤ x0) (ck_ (0 ≤ (rf_ h x0 91)) (ck_ (0 ≤ x1 ∧ x1 < ln_ h (rf_ h x0 91)) (ck_ (0 ≤ (rf_ h x0 57)) (ck_ (0 ≤ x1 ∧ x1 < ln_ h (rf_ h x0 57)) (Mo_back_6 (wr_ h (rf_ h x0 57) x1 (rd_ h (rf_ h x0 91) x1)) x0 (w32 (x1 + 1)))))))) := (ff_of bk_310_6 [(22, x0), (0, x1)] [] h).trans (by
  show (if 4 ≤ x1 then JJ 310 8 [(22, x0), (0, x1)] [] h else JJ 310 7 [(22, x0), (0, x1)] [] h) = _
  simp only [jt_310_7, jt_310_8, ck_or1, ck_or2, rf_wr, ln_wr, nn_wr, rf_cp, ln_cp, nn_cp, ln_wf, nn_wf, rd_wf, nn_nw]
  try rfl)
theorem cc_310 (h : am_H) (x0 : Int) : CC 310 [(22, x0)] h = Mo_back h x0 := cc_of pk_310 _ h
set_option maxRecDepth 20000 in
theorem pk_311 : am_prog 311 = some cd_311 := rfl
theorem bk_311_0 : bk_ am_prog 311 0 = some ([true, true, false, false], (bl_311_0, 9999)) := bk_of pk_311 rfl
theorem bk_311_1 : bk_ am_prog 311 1 = some ([true, false, false, false], (bl_311_1, 9999)) := bk_of pk_311 rfl
theorem bk_311_2 : bk_ am_prog 311 2 = some ([true, false, false, false], (bl_311_2, 9999)) := bk_of pk_311 rfl
theorem bk_311_3 : bk_ am_prog 311 3 = some ([true, false, false, false], (bl_311_3, 9999)) := bk_of pk_311 rfl
theorem bk_311_4 : bk_ am_prog 311 4 = some ([true, false, false, false], (bl_311_4, 9999)) := bk_of pk_311 rfl
theorem bk_311_5 : bk_ am_prog 311 5 = some ([true, false, false, false], (bl_311_5, 9999)) := bk_of pk_311 rfl
theorem bk_311_6 : bk_ am_prog 311 6 = some ([true, false, false, false], (bl_311_6, 9999)) := bk_of pk_311 rfl
theorem bk_311_7 : bk_ am_prog 311 7 = some ([true, false, false, false], (bl_311_7, 9999)) := bk_of pk_311 rfl
theorem bk_311_8 : bk_ am_prog 311 8 = some ([true, false, false, false], (bl_311_8, 9999)) := bk_of pk_311 rfl
theorem bk_311_9 : bk_ am_prog 311 9 = some ([true, false, false, false], (bl_311_9, 9999)) := bk_of pk_311 rfl
theorem bk_311_10 : bk_ am_prog 311 10 = some ([true, false, false, false], (bl_311_10, 9999)) := bk_of pk_311 rfl
theorem bk_311_11 : bk_ am_prog 311 11 = some ([true, false, false, false], (bl_311_11, 9999)) := bk_of pk_311 rfl
theorem bk_311_12 : bk_ am_prog 311 12 = some ([true, false, true, false], (bl_311_12, 13)) := bk_of pk_311 rfl
theorem bk_311_13 : bk_ am_prog 311 13 = some ([true, false, true, true], (bl_311_13, 9999)) := bk_of pk_311 rfl
theorem bk_311_14 : bk_ am_prog 311 14 = some ([true, false, true, true], (bl_311_14, 9999)) := bk_of pk_311 rfl
theorem bk_311_15 : bk_ am_prog 311 15 = some ([false, false, true, false], (bl_311_15, 9999)) := bk_of pk_311 rfl
theorem bk_311_16 : bk_ am_prog 311 16 = some ([true, false, true, false], (bl_311_16, 17)) := bk_of pk_311 rfl
theorem bk_311_17 : bk_ am_prog 311 17 = some ([true, false, true, true], (bl_311_17, 9999)) := bk_of pk_311 rfl
theorem bk_311_18 : bk_ am_prog 311 18 = some ([true, false, true, true], (bl_311_18, 9999)) := bk_of pk_311 rfl
theorem bk_311_19 : bk_ am_prog 311 19 = some ([false, false, true, false], (bl_311_19, 9999)) := bk_of pk_311 rfl
theorem bk_311_20 : bk_ am_prog 311 20 = some ([true, false, false, false], (bl_311_20, 9999)) := bk_of pk_311 rfl
theorem bk_311_21 : bk_ am_prog 311 21 = some ([true, false, false, false], (bl_311_21, 9999)) := bk_of pk_311 rfl
theorem bk_311_22 : bk_ am_prog 311 22 = some ([true, false, false, false], (bl_311_22, 9999)) := bk_of pk_311 rfl
theorem bk_311_23 : bk_ am_prog 311 23 = some ([false, false, false, false], (bl_311_23, 9999)) := bk_of pk_311 rfl
theorem jt_311_13 (h : am_H) (d1 : am_V) (x0 x2 x3 : Int) : JJ 311 13 [(22, x0), d1, (0, x2), (0, x3)] [] h = Mo_count_13 h x0 x2 x3 := jj_of bk_311_13 _ _ h
theorem jt_311_17 (h : am_H) (d1 : am_V) (x0 x2 x3 : Int) : JJ 311 17 [(22, x0), d1, (0, x2), (0, x3)] [] h = Mo_count_17 h x0 x2 x3 := jj_of bk_311_17 _ _ h
theorem jt_311_23 (h : am_H) (d0 d1 d2 d3 : am_V) : JJ 311 23 [d0, d1, d2, d3] [] h = some (h, (-1)) := (jj_of bk_311_23 _ _ h).trans (ff_of bk_311_23 [(9, 0), (9, 0), (9, 0), (9, 0)] [] h)
theorem jt_311_1 (h : am_H) (d1 d2 d3 : am_V) (x0 : Int) : JJ 311 1 [(22, x0), d1, d2, d3] [] h = ck_ (0 ≤ x0) (some (h, rd_ h x0 12)) := (jj_of bk_311_1 _ _ h).trans (ff_of bk_311_1 [(22, x0), (9, 0), (9, 0), (9, 0)] [] h)
theorem jt_311_2 (h : am_H) (d1 d2 d3 : am_V) (x0 : Int) : JJ 311 2 [(22, x0), d1, d2, d3] [] h = ck_ (0 ≤ x0) (some (h, rd_ h x0 13)) := (jj_of bk_311_2 _ _ h).trans (ff_of bk_311_2 [(22, x0), (9, 0), (9, 0), (9, 0)] [] h)
theorem jt_311_3 (h : am_H) (d1 d2 d3 : am_V) (x0 : Int) : JJ 311 3 [(22, x0), d1, d2, d3] [] h = ck_ (0 ≤ x0) (some (h, rd_ h x0 14)) := (jj_of bk_311_3 _ _ h).trans (ff_of bk_311_3 [(22, x0), (9, 0), (9, 0), (9, 0)] [] h)
theorem jt_311_4 (h : am_H) (d1 d2 d3 : am_V) (x0 : Int) : JJ 311 4 [(22, x0), d1, d2, d3] [] h = ck_ (0 ≤ x0) (some (h, rd_ h x0 15)) := (jj_of bk_311_4 _ _ h).trans (ff_of bk_311_4 [(22, x0), (9, 0), (9, 0), (9, 0)] [] h)
theorem jt_311_5 (h : am_H) (d1 d2 d3 : am_V) (x0 : Int) : JJ 311 5 [(22, x0), d1, d2, d3] [] h = ck_ (0 ≤ x0) (some (h, rd_ h x0 16)) := (jj_of bk_311_5 _ _ h).trans (ff_of bk_311_5 [(22, x0), (9, 0), (9, 0), (9, 0)] [] h)
theorem jt_311_6 (h : am_H) (d1 d2 d3 : am_V) (x0 : Int) : JJ 311 6 [(22, x0), d1, d2, d3] [] h = ck_ (0 ≤ x0) (ck_ (0 ≤ (rf_ h x0 59)) (ck_ (0 ≤ (0 : Int) ∧ (0 : Int) < ln_ h (rf_ h x0 59)) (some (h, rd_ h (rf_ h x0 59) 0)))) := (jj_of bk_311_6 _ _ h).trans (ff_of bk_311_6 [(22, x0), (9, 0), (9, 0), (9, 0)] [] h)
theorem jt_311_7 (h : am_H) (d1 d2 d3 : am_V) (x0 : Int) : JJ 311 7 [(22, x0), d1, d2, d3] [] h = ck_ (0 ≤ x0) (bd_ (Mo_rightMany h x0 0) fun h1 v2 => some (h1, v2)) := (jj_of bk_311_7 _ _ h).trans ((ff_of bk_311_7 [(22, x0), (9, 0), (9, 0), (9, 0)] [] h).trans (by
  show (ck_ (0 ≤ x0) (bd_ (CC 255 [(22, x0), (0, 0)] h) fun h1 v2 => some (h1, v2))) = _
  simp only [cc_255, ck_or1, ck_or2, rf_wr, ln_wr, nn_wr, rf_cp, ln_cp, nn_cp, ln_wf, nn_wf, rd_wf, nn_nw]
  try rfl))
theorem jt_311_8 (h : am_H) (d1 d2 d3 : am_V) (x0 : Int) : JJ 311 8 [(22, x0), d1, d2, d3] [] h = ck_ (0 ≤ x0) (bd_ (Mo_properMany h x0 0) fun h1 v2 => some (h1, v2)) := (jj_of bk_311_8 _ _ h).trans ((ff_of bk_311_8 [(22, x0), (9, 0), (9, 0), (9, 0)] [] h).trans (by
  show (ck_ (0 ≤ x0) (bd_ (CC 256 [(22, x0), (0, 0)] h) fun h1 v2 => some (h1, v2))) = _
  simp only [cc_256, ck_or1, ck_or2, rf_wr, ln_wr, nn_wr, rf_cp, ln_cp, nn_cp, ln_wf, nn_wf, rd_wf, nn_nw]
  try rfl))
theorem jt_311_9 (h : am_H) (d1 d2 d3 : am_V) (x0 : Int) : JJ 311 9 [(22, x0), d1, d2, d3] [] h = ck_ (0 ≤ x0) (bd_ (Mo_gapsAll h x0 0) fun h1 v2 => some (h1, v2)) := (jj_of bk_311_9 _ _ h).trans ((ff_of bk_311_9 [(22, x0), (9, 0), (9, 0), (9, 0)] [] h).trans (by
  show (ck_ (0 ≤ x0) (bd_ (CC 258 [(22, x0), (0, 0)] h) fun h1 v2 => some (h1, v2))) = _
  simp only [cc_258, ck_or1, ck_or2, rf_wr, ln_wr, nn_wr, rf_cp, ln_cp, nn_cp, ln_wf, nn_wf, rd_wf, nn_nw]
  try rfl))
theorem jt_311_10 (h : am_H) (d1 d2 d3 : am_V) (x0 : Int) : JJ 311 10 [(22, x0), d1, d2, d3] [] h = ck_ (0 ≤ x0) (bd_ (Mo_chippedMany h x0 0) fun h1 v2 => some (h1, v2)) := (jj_of bk_311_10 _ _ h).trans ((ff_of bk_311_10 [(22, x0), (9, 0), (9, 0), (9, 0)] [] h).trans (by
  show (ck_ (0 ≤ x0) (bd_ (CC 257 [(22, x0), (0, 0)] h) fun h1 v2 => some (h1, v2))) = _
  simp only [cc_257, ck_or1, ck_or2, rf_wr, ln_wr, nn_wr, rf_cp, ln_cp, nn_cp, ln_wf, nn_wf, rd_wf, nn_nw]
  try rfl))
theorem jt_311_11 (h : am_H) (d1 d2 d3 : am_V) (x0 : Int) : JJ 311 11 [(22, x0), d1, d2, d3] [] h = ck_ (0 ≤ x0) (ck_ (0 ≤ (rf_ h x0 58)) (ck_ (0 ≤ (0 : Int) ∧ (0 : Int) < ln_ h (rf_ h x0 58)) (some (h, rd_ h (rf_ h x0 58) 0)))) := (jj_of bk_311_11 _ _ h).trans (ff_of bk_311_11 [(22, x0), (9, 0), (9, 0), (9, 0)] [] h)
theorem jt_311_12 (h : am_H) (d1 d3 : am_V) (x0 x2 : Int) : JJ 311 12 [(22, x0), d1, (0, x2), d3] [] h = Mo_count_13 h x0 x2 0 := (jj_of bk_311_12 _ _ h).trans ((ff_of bk_311_12 [(22, x0), (9, 0), (0, x2), (9, 0)] [] h).trans (by
  show (JJ 311 13 [(22, x0), (9, 0), (0, x2), (0, 0)] [] h) = _
  simp only [jt_311_13, ck_or1, ck_or2, rf_wr, ln_wr, nn_wr, rf_cp, ln_cp, nn_cp, ln_wf, nn_wf, rd_wf, nn_nw]
  try rfl))
theorem jt_311_16 (h : am_H) (d1 d3 : am_V) (x0 x2 : Int) : JJ 311 16 [(22, x0), d1, (0, x2), d3] [] h = Mo_count_17 h x0 x2 0 := (jj_of bk_311_16 _ _ h).trans ((ff_of bk_311_16 [(22, x0), (9, 0), (0, x2), (9, 0)] [] h).trans (by
  show (JJ 311 17 [(22, x0), (9, 0), (0, x2), (0, 0)] [] h) = _
  simp only [jt_311_17, ck_or1, ck_or2, rf_wr, ln_wr, nn_wr, rf_cp, ln_cp, nn_cp, ln_wf, nn_wf, rd_wf, nn_nw]
  try rfl))
theorem jt_311_20 (h : am_H) (d1 d2 d3 : am_V) (x0 : Int) : JJ 311 20 [(22, x0), d1, d2, d3] [] h = ck_ (0 ≤ x0) (some (h, rd_ h x0 80)) := (jj_of bk_311_20 _ _ h).trans (ff_of bk_311_20 [(22, x0), (9, 0), (9, 0), (9, 0)] [] h)
theorem jt_311_21 (h : am_H) (d1 d2 d3 : am_V) (x0 : Int) : JJ 311 21 [(22, x0), d1, d2, d3] [] h = ck_ (0 ≤ x0) (bd_ (Mo_knownBy h x0) fun h1 v2 => some (h1, v2)) := (jj_of bk_311_21 _ _ h).trans ((ff_of bk_311_21 [(22, x0), (9, 0), (9, 0), (9, 0)] [] h).trans (by
  show (ck_ (0 ≤ x0) (bd_ (CC 297 [(22, x0)] h) fun h1 v2 => some (h1, v2))) = _
  simp only [cc_297, ck_or1, ck_or2, rf_wr, ln_wr, nn_wr, rf_cp, ln_cp, nn_cp, ln_wf, nn_wf, rd_wf, nn_nw]
  try rfl))
theorem jt_311_22 (h : am_H) (d1 d2 d3 : am_V) (x0 : Int) : JJ 311 22 [(22, x0), d1, d2, d3] [] h = ck_ (0 ≤ x0) (some (h, rd_ h x0 85)) := (jj_of bk_311_22 _ _ h).trans (ff_of bk_311_22 [(22, x0), (9, 0), (9, 0), (9, 0)] [] h)
set_option maxRecDepth 20000 in
theorem Mo_count_e (h : am_H) (x0 x1 : Int) : Mo_count h x0 x1 = ck_ (0 ≤ x0) (if x1 = 0 then ck_ (0 ≤ x0) (some (wr_ h x0 2 0, rd_ (wr_ h x0 2 0) x0 12)) else if x1 = 1 then ck_ (0 ≤ x0) (some (wr_ h x0 2 0, rd_ (wr_ h x0 2 0) x0 13)) else if x1 = 2 then ck_ (0 ≤ x0) (some (wr_ h x0 2 0, rd_ (wr_ h x0 2 0) x0 14)) else if x1 = 3 then ck_ (0 ≤ x0) (some (wr_ h x0 2 0, rd_ (wr_ h x0 2 0) x0 15)) else if x1 = 4 then ck_ (0 ≤ x0) (some (wr_ h x0 2 0, rd_ (wr_ h x0 2 0) x0 16)) else if x1 = 5 then ck_ (0 ≤ x0) (ck_ (0 ≤ (rf_ h x0 59)) (ck_ (0 ≤ (0 : Int) ∧ (0 : Int) < ln_ h (rf_ h x0 59)) (some (wr_ h x0 2 0, rd_ (wr_ h x0 2 0) (rf_ h x0 59) 0)))) else if x1 = 6 then ck_ (0 ≤ x0) (bd_ (Mo_rightMany (wr_ h x0 2 0) x0 0) fun h9 v10 => some (h9, v10)) else if x1 = 7 then ck_ (0 ≤ x0) (bd_ (Mo_properMany (wr_ h x0 2 0) x0 0) fun h7 v8 => some (h7, v8)) else if x1 = 8 then ck_ (0 ≤ x0) (bd_ (Mo_gapsAll (wr_ h x0 2 0) x0 0) fun h5 v6 => some (h5, v6)) else if x1 = 9 then ck_ (0 ≤ x0) (bd_ (Mo_chippedMany (wr_ h x0 2 0) x0 0) fun h3 v4 => some (h3, v4)) else if x1 = 10 then ck_ (0 ≤ x0) (ck_ (0 ≤ (rf_ h x0 58)) (ck_ (0 ≤ (0 : Int) ∧ (0 : Int) < ln_ h (rf_ h x0 58)) (some (wr_ h x0 2 0, rd_ (wr_ h x0 2 0) (rf_ h x0 58) 0)))) else if x1 = 11 then Mo_count_13 (wr_ h x0 2 0) x0 0 0 else if x1 = 12 then Mo_count_17 (wr_ h x0 2 0) x0 0 0 else if x1 = 13 then ck_ (0 ≤ x0) (some (wr_ h x0 2 0, rd_ (wr_ h x0 2 0) x0 80)) else if x1 = 14 then ck_ (0 ≤ x0) (bd_ (Mo_knownBy (wr_ h x0 2 0) x0) fun h1 v2 => some (h1, v2)) else if x1 = 15 then ck_ (0 ≤ x0) (some (wr_ h x0 2 0, rd_ (wr_ h x0 2 0) x0 85)) else some (wr_ h x0 2 0, (-1))) := (ff_of bk_311_0 [(22, x0), (0, x1), (9, 0), (9, 0)] [] h).trans (by
  show (ck_ (0 ≤ x0) (if x1 = 0 then JJ 311 1 [(22, x0), (0, x1), (0, 0), (9, 0)] [] (wr_ h x0 2 0) else if x1 = 1 then JJ 311 2 [(22, x0), (0, x1), (0, 0), (9, 0)] [] (wr_ h x0 2 0) else if x1 = 2 then JJ 311 3 [(22, x0), (0, x1), (0, 0), (9, 0)] [] (wr_ h x0 2 0) else if x1 = 3 then JJ 311 4 [(22, x0), (0, x1), (0, 0), (9, 0)] [] (wr_ h x0 2 0) else if x1 = 4 then JJ 311 5 [(22, x0), (0, x1), (0, 0), (9, 0)] [] (wr_ h x0 2 0) else if x1 = 5 then JJ 311 6 [(22, x0), (0, x1), (0, 0), (9, 0)] [] (wr_ h x0 2 0) else if x1 = 6 then JJ 311 7 [(22, x0), (0, x1), (0, 0), (9, 0)] [] (wr_ h x0 2 0) else if x1 = 7 then JJ 311 8 [(22, x0), (0, x1), (0, 0), (9, 0)] [] (wr_ h x0 2 0) else if x1 = 8 then JJ 311 9 [(22, x0), (0, x1), (0, 0), (9, 0)] [] (wr_ h x0 2 0) else if x1 = 9 then JJ 311 10 [(22, x0), (0, x1), (0, 0), (9, 0)] [] (wr_ h x0 2 0) else if x1 = 10 then JJ 311 11 [(22, x0), (0, x1), (0, 0), (9, 0)] [] (wr_ h x0 2 0) else if x1 = 11 then JJ 311 12 [(22, x0), (0, x1), (0, 0), (9, 0)] [] (wr_ h x0 2 0) else if x1 = 12 then JJ 311 16 [(22, x0), (0, x1), (0, 0), (9, 0)] [] (wr_ h x0 2 0) else if x1 = 13 then JJ 311 20 [(22, x0), (0, x1), (0, 0), (9, 0)] [] (wr_ h x0 2 0) else if x1 = 14 then JJ 311 21 [(22, x0), (0, x1), (0, 0), (9, 0)] [] (wr_ h x0 2 0) else if x1 = 15 then JJ 311 22 [(22, x0), (0, x1), (0, 0), (9, 0)] [] (wr_ h x0 2 0) else JJ 311 23 [(22, x0), (0, x1), (0, 0), (9, 0)] [] (wr_ h x0 2 0))) = _
  simp only [jt_311_1, jt_311_10, jt_311_11, jt_311_12, jt_311_16, jt_311_2, jt_311_20, jt_311_21, jt_311_22, jt_311_23, jt_311_3, jt_311_4, jt_311_5, jt_311_6, jt_311_7, jt_311_8, jt_311_9, ck_or1, ck_or2, rf_wr, ln_wr, nn_wr, rf_cp, ln_cp, nn_cp, ln_wf, nn_wf, rd_wf, nn_nw]
  try rfl)
theorem jt_311_15 (h : am_H) (d0 d1 d3 : am_V) (x2 : Int) : JJ 311 15 [d0, d1, (0, x2), d3] [] h = some (h, x2) := (jj_of bk_311_15 _ _ h).trans (ff_of bk_311_15 [(9, 0), (9, 0), (0, x2), (9, 0)] [] h)
theorem jt_311_14 (h : am_H) (d1 : am_V) (x0 x2 x3 : Int) : JJ 311 14 [(22, x0), d1, (0, x2), (0, x3)] [] h = ck_ (0 ≤ x0) (ck_ (0 ≤ (rf_ h x0 57)) (ck_ (0 ≤ x3 ∧ x3 < ln_ h (rf_ h x0 57)) (Mo_count_13 h x0 (w32 (x2 + (rd_ h (rf_ h x0 57) x3))) (w32 (x3 + 1))))) := (jj_of bk_311_14 _ _ h).trans ((ff_of bk_311_14 [(22, x0), (9, 0), (0, x2), (0, x3)] [] h).trans (by
  show (ck_ (0 ≤ x0) (ck_ (0 ≤ (rf_ h x0 57)) (ck_ (0 ≤ x3 ∧ x3 < ln_ h (rf_ h x0 57)) (JJ 311 13 [(22, x0), (9, 0), (0, w32 (x2 + (rd_ h (rf_ h x0 57) x3))), (0, w32 (x3 + 1))] [] h)))) = _
  simp only [jt_311_13, ck_or1, ck_or2, rf_wr, ln_wr, nn_wr, rf_cp, ln_cp, nn_cp, ln_wf, nn_wf, rd_wf, nn_nw]
  try rfl))
theorem Mo_count_13_e (h : am_H) (x0 x2 x3 : Int) : Mo_count_13 h x0 x2 x3 = ck_ (0 ≤ x0) (if (rd_ h x0 12) ≤ x3 then some (h, x2) else ck_ (0 ≤ x0) (ck_ (0 ≤ (rf_ h x0 57)) (ck_ (0 ≤ x3 ∧ x3 < ln_ h (rf_ h x0 57)) (Mo_count_13 h x0 (w32 (x2 + (rd_ h (rf_ h x0 57) x3))) (w32 (x3 + 1)))))) := (ff_of bk_311_13 [(22, x0), (9, 0), (0, x2), (0, x3)] [] h).trans (by
  show (ck_ (0 ≤ x0) (if (rd_ h x0 12) ≤ x3 then JJ 311 15 [(22, x0), (9, 0), (0, x2), (0, x3)] [] h else JJ 311 14 [(22, x0), (9, 0), (0, x2), (0, x3)] [] h)) = _
  simp only [jt_311_14, jt_311_15, ck_or1, ck_or2, rf_wr, ln_wr, nn_wr, rf_cp, ln_cp, nn_cp, ln_wf, nn_wf, rd_wf, nn_nw]
  try rfl)
theorem jt_311_19 (h : am_H) (d0 d1 d3 : am_V) (x2 : Int) : JJ 311 19 [d0, d1, (0, x2), d3] [] h = some (h, x2) := (jj_of bk_311_19 _ _ h).trans (ff_of bk_311_19 [(9, 0), (9, 0), (0, x2), (9, 0)] [] h)
theorem jt_311_18 (h : am_H) (d1 : am_V) (x0 x2 x3 : Int) : JJ 311 18 [(22, x0), d1, (0, x2), (0, x3)] [] h = ck_ (0 ≤ x0) (ck_ (0 ≤ (rf_ h x0 55)) (ck_ (0 ≤ x3 ∧ x3 < ln_ h (rf_ h x0 55)) (Mo_count_17 h x0 (w32 (x2 + (rd_ h (rf_ h x0 55) x3))) (w32 (x3 + 1))))) := (jj_of bk_311_18 _ _ h).trans ((ff_of bk_311_18 [(22, x0), (9, 0), (0, x2), (0, x3)] [] h).trans (by
  show (ck_ (0 ≤ x0) (ck_ (0 ≤ (rf_ h x0 55)) (ck_ (0 ≤ x3 ∧ x3 < ln_ h (rf_ h x0 55)) (JJ 311 17 [(22, x0), (9, 0), (0, w32 (x2 + (rd_ h (rf_ h x0 55) x3))), (0, w32 (x3 + 1))] [] h)))) = _
  simp only [jt_311_17, ck_or1, ck_or2, rf_wr, ln_wr, nn_wr, rf_cp, ln_cp, nn_cp, ln_wf, nn_wf, rd_wf, nn_nw]
  try rfl))
theorem Mo_count_17_e (h : am_H) (x0 x2 x3 : Int) : Mo_count_17 h x0 x2 x3 = ck_ (0 ≤ x0) (if (rd_ h x0 14) ≤ x3 then some (h, x2) else ck_ (0 ≤ x0) (ck_ (0 ≤ (rf_ h x0 55)) (ck_ (0 ≤ x3 ∧ x3 < ln_ h (rf_ h x0 55)) (Mo_count_17 h x0 (w32 (x2 + (rd_ h (rf_ h x0 55) x3))) (w32 (x3 + 1)))))) := (ff_of bk_311_17 [(22, x0), (9, 0), (0, x2), (0, x3)] [] h).trans (by
  show (ck_ (0 ≤ x0) (if (rd_ h x0 14) ≤ x3 then JJ 311 19 [(22, x0), (9, 0), (0, x2), (0, x3)] [] h else JJ 311 18 [(22, x0), (9, 0), (0, x2), (0, x3)] [] h)) = _
  simp only [jt_311_18, jt_311_19, ck_or1, ck_or2, rf_wr, ln_wr, nn_wr, rf_cp, ln_cp, nn_cp, ln_wf, nn_wf, rd_wf, nn_nw]
  try rfl)
theorem cc_311 (h : am_H) (x0 x1 : Int) : CC 311 [(22, x0), (0, x1)] h = Mo_count h x0 x1 := cc_of pk_311 _ h
