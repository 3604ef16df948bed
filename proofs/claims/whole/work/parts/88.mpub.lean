/-! ahead, right when, tried, in the reference -/
section
variable {h : am_H} {T W I : Tx} {U : Int → Tx} {Q : Tx}
theorem Mo_ahead_t (g0 : MN h T W I U Q) (sv : SV T W I U Q) {n x i : Int} (k : ok_ahd T n x i) : ∃ h', Mo_ahead h 94 n x i = some (h', ahd_ T W (zn_ T M0_ n.toNat W) x i) ∧ MN h' T W I U Q ∧ Mq h h' := by
  obtain ⟨k1, k2, k3, k4, k5, k6⟩ := k
  have u := sv.1
  have v := sv.2.1
  have v0 := v.1
  have X0 := Mq_2 h 0
  have g := MN_q g0 v X0
  obtain ⟨ha, a1, a2, a3, a4⟩ := M_try g v
  obtain ⟨hb, b1, b2, b3⟩ := Mo_goMany_s u (mk_V (by omega) (by omega) (by omega) (Or.inl rfl)) k1 (by omega) a3 v
  have Xb := Mq_MG b3 rfl
  have gb := MN_q a2 v Xb
  have vb : WV T (zn_ T M0_ n.toNat W) := zn_v u _ _ v
  have wb : MW hb 1 T (zn_ T M0_ n.toNat W) := b2.2.2.2.1
  have e1 : rd_ hb 126 1 = zn_ T M0_ n.toNat W 6 1 := wb.2.2.2.2.2.2.2.2
  have e0 : rd_ hb 126 0 = W 6 1 := gb.2.2.2.1.2.2.2.2.2.2.2.2
  have e7 : Mo_ahead_7 (wr_ h 94 2 0) 94 n x i = some (hb, ahd_ T W (zn_ T M0_ n.toNat W) x i) := by
    rw [Mo_ahead_7_e]
    repeat rw [ck_t (by omega)]
    rw [a1, bd_v]
    repeat rw [ck_t (by omega)]
    rw [b1, bd_v]
    simp only [Mo_rightMany_s b2.1 b2.2.1 wb vb, Mo_properMany_s b2.1 b2.2.1 wb vb, Mo_chippedMany_s b2.1 b2.2.1 wb vb, bd_v, mr57 b2.1, ml125 b2.1, mr58 b2.1, ml126 b2.1]
    rw [e1, e0]
    repeat rw [ck_t (by omega)]
    unfold ahd_
    by_cases x0 : x = 0
    · rw [if_pos x0, if_pos x0]
    · rw [if_neg x0, if_neg x0]
      by_cases x1 : x = 1
      · rw [if_pos x1, if_pos x1]
        repeat rw [ck_t (by omega)]
      · rw [if_neg x1, if_neg x1]
        by_cases x2 : x = 2
        · have := k5 x2
          have e5 := wb.2.2.2.1 i this.1 this.2
          rw [if_pos x2, if_pos x2, w32_i (by omega) (by omega)]
          repeat rw [ck_t (by omega)]
          rw [← e5]
          rfl
        · rw [if_neg x2, if_neg x2]
          by_cases x3 : x = 3
          · rw [if_pos x3, if_pos x3]
            repeat rw [ck_t (by omega)]
          · rw [if_neg x3, if_neg x3]
            by_cases x4 : x = 4
            · rw [if_pos x4, if_pos x4]
              repeat rw [ck_t (by omega)]
            · have := k6 (by omega)
              rw [if_neg x4, if_neg x4, Mo_gapsOf_s b2.1 b2.2.1 wb vb this.1 this.2, bd_v]
              repeat rw [ck_t (by omega)]
  refine ⟨hb, ?_, gb, Mq_tr X0 (Mq_tr a4 Xb)⟩
  rw [Mo_ahead_e, ck_t (by omega), Mo_isIn_t k1 k2, bd_v, if_neg (by omega), Mo_isIn_t k3 k4, bd_v, if_neg (by omega)]
  repeat rw [ck_t (by omega)]
  by_cases x2 : x = 2
  · have := k5 x2
    rw [if_neg (by omega), Mo_isMaid_t g.2.1 this.1 this.2, bd_v, if_neg (by omega), if_pos (by omega), e7]
  · rw [if_pos x2]
    by_cases x5 : x = 5
    · have := k6 x5
      rw [if_neg (by omega), Mo_isPile_t g.2.1 this.1 this.2, bd_v, if_pos (by omega), e7]
    · rw [if_pos x5, e7]
theorem Mo_ahead_f (g0 : MN h T W I U Q) (v : WV T W) {n x i : Int} (k : ¬ ok_ahd T n x i) : Mo_ahead h 94 n x i = some (wr_ h 94 2 0, -1) := by
  have g := MN_q g0 v (Mq_2 h 0)
  rw [Mo_ahead_e, ck_t (by omega)]
  by_cases c1 : 0 ≤ n ∧ n ≤ 200
  · rw [Mo_isIn_t c1.1 c1.2, bd_v, if_neg (by omega)]
    by_cases c2 : 0 ≤ x ∧ x ≤ 5
    · rw [Mo_isIn_t c2.1 c2.2, bd_v, if_neg (by omega)]
      repeat rw [ck_t (by omega)]
      by_cases x2 : x = 2
      · have : ¬ (0 ≤ i ∧ i < T 0 0) := fun q => k ⟨by omega, by omega, by omega, by omega, fun _ => q, fun q => by omega⟩
        rw [if_neg (by omega), Mo_isMaid_f g.2.1 this, bd_v, if_pos rfl]
      · have x5 : x = 5 := by
          apply Classical.byContradiction
          intro q
          exact k ⟨by omega, by omega, by omega, by omega, fun q => by omega, fun q => by omega⟩
        have : ¬ (0 ≤ i ∧ i < T 0 1) := fun q => k ⟨by omega, by omega, by omega, by omega, fun q => by omega, fun _ => q⟩
        rw [if_pos x2, if_neg (by omega), Mo_isPile_f g.2.1 this, bd_v, if_neg (by omega)]
    · rw [Mo_isIn_f c2, bd_v, if_pos rfl]
  · rw [Mo_isIn_f c1, bd_v, if_pos rfl]
theorem Mo_rightWhen_lp (u : TV T) {p : Int} (p0 : 0 ≤ p) (p1 : p < T 0 1) (w : WV T W) : ∀ (m : Nat) (k : Int) (V : Tx) (h : am_H), MN h T W I U Q → MS h 1 T V M0_ → WV T V → 0 ≤ k → k + m = 200 → ∃ h', Mo_rightWhen_3 h 94 p k = some (h', rw_ T p m k V) ∧ MN h' T W I U Q ∧ Mq h h' := by
  intro m
  induction m with
  | zero =>
    intro k V h g s v hk hm
    refine ⟨h, ?_, g, Mq_refl h⟩
    rw [Mo_rightWhen_3_e, if_pos (by omega)]
    rfl
  | succ m ih =>
    intro k V h g s v hk hm
    rw [Mo_rightWhen_3_e, if_neg (by omega), ck_t (by omega), Mo_isRight_s s.1 s.2.1 s.2.2.2.1 v p0 p1, bd_v]
    unfold rw_
    cases hr : Rt T V p with
    | true =>
      rw [if_neg (show ¬ bz true = 0 by decide), if_pos rfl]
      exact ⟨h, rfl, g, Mq_refl h⟩
    | false =>
      rw [if_pos (show bz false = 0 from rfl), if_neg (by decide)]
      obtain ⟨ha, a1, a2, a3⟩ := Mo_minuteGoes_s u (mk_V (by omega) (by omega) (by omega) (Or.inl rfl)) s v
      have X := Mq_MG a3 rfl
      obtain ⟨h', i1, i2, i3⟩ := ih (k + 1) (zp_ T M0_ V) ha (MN_q g w X) a2 (zp_v v u) (by omega) (by omega)
      refine ⟨h', ?_, i2, Mq_tr X i3⟩
      rw [ck_t (by omega), a1, bd_v, w32_i (by omega) (by omega), i1]
theorem Mo_rightWhen_t (g0 : MN h T W I U Q) (sv : SV T W I U Q) {p : Int} (p0 : 0 ≤ p) (p1 : p < T 0 1) : ∃ h', Mo_rightWhen h 94 p = some (h', rw_ T p 200 0 W) ∧ MN h' T W I U Q ∧ Mq h h' := by
  have v := sv.2.1
  have X0 := Mq_2 h 0
  have g := MN_q g0 v X0
  obtain ⟨ha, a1, a2, a3, a4⟩ := M_try g v
  obtain ⟨hb, b1, b2, b3⟩ := Mo_rightWhen_lp sv.1 p0 p1 v 200 0 W ha a2 a3 v (by omega) (by omega)
  refine ⟨hb, ?_, b2, Mq_tr X0 (Mq_tr a4 b3)⟩
  rw [Mo_rightWhen_e]
  repeat rw [ck_t (by omega)]
  rw [Mo_isPile_t g.2.1 p0 p1, bd_v, if_pos (by omega), ck_t (by omega), a1, bd_v, b1]
theorem Mo_rightWhen_f (g0 : MN h T W I U Q) (v : WV T W) {p : Int} (k : ¬ (0 ≤ p ∧ p < T 0 1)) : Mo_rightWhen h 94 p = some (wr_ h 94 2 0, -1) := by
  have g := MN_q g0 v (Mq_2 h 0)
  rw [Mo_rightWhen_e]
  repeat rw [ck_t (by omega)]
  rw [Mo_isPile_f g.2.1 k, bd_v, if_neg (by omega)]
theorem Mo_tried_t (g0 : MN h T W I U Q) (sv : SV T W I U Q) {x i n : Int} (k : ok_try T x i n) : ∃ h', Mo_tried h 94 x i n = some (h', Gm T (zn_ T (tM_ x i) n.toNat W)) ∧ MN h' T W I U Q ∧ Mq h h' := by
  obtain ⟨k1, k2, k3, k4, k5, k6⟩ := k
  have u := sv.1
  have v := sv.2.1
  have v0 := v.1
  have X0 := Mq_2 h 0
  have g := MN_q g0 v X0
  obtain ⟨ha, a1, a2, a3, a4⟩ := M_try g v
  have mv : MV (tM_ x i) := mk_V (by omega) (by omega) (by split <;> omega) (Or.inl rfl)
  -- the five fields as they are written
  have zz : fz_ ha (wr_ (wr_ (wr_ (wr_ (wr_ ha 94 62 (if x = 0 then 1 else 0)) 94 63 (if x = 1 then 1 else 0)) 94 66 (if x = 2 then i else -1)) 94 64 (if x = 3 then 1 else 0)) 94 65 (if x = 4 then 1 else 0)) (fun _ => False) (fun k => 61 ≤ k ∧ k ≤ 68) := fz_tr (fz_wf ⟨by omega, by omega⟩) (fz_tr (fz_wf ⟨by omega, by omega⟩) (fz_tr (fz_wf ⟨by omega, by omega⟩) (fz_tr (fz_wf ⟨by omega, by omega⟩) (fz_wf ⟨by omega, by omega⟩))))
  have Xc := Mq_X (MX_pl zz)
  have mc : MS (wr_ (wr_ (wr_ (wr_ (wr_ ha 94 62 (if x = 0 then 1 else 0)) 94 63 (if x = 1 then 1 else 0)) 94 66 (if x = 2 then i else -1)) 94 64 (if x = 3 then 1 else 0)) 94 65 (if x = 4 then 1 else 0)) 1 T W (tM_ x i) := by
    obtain ⟨s1, s2, s3, s4, s5, -⟩ := a3
    refine ⟨fz_ShM zz s1, MT_fz s2 zz (fun _ _ _ q => q) (by intro k p q; omega), ML_fm s3 zz (fun _ _ _ q => q), MW_fz s4 zz (fun _ _ _ q => q), ?_, fun q => by cases q⟩
    obtain ⟨m1, m2, m3, m4, m5, m6, m7, m8⟩ := s5
    unfold MM tM_ M0_ mk_M at *
    simp only [rd_wa]
    simp at *
    exact ⟨m1, m7, m8⟩
  obtain ⟨hb, b1, b2, b3⟩ := Mo_goMany_s u mv k3 (by omega) mc v
  have Xb := Mq_MG b3 rfl
  obtain ⟨hd, d1, d2, d3⟩ := Mo_plainTried_s hb
  have Xd := Mq_X (MX_pl d3)
  have X := Mq_tr X0 (Mq_tr a4 (Mq_tr Xc (Mq_tr Xb Xd)))
  have gd := MN_q g0 v X
  have vb : WV T (zn_ T (tM_ x i) n.toNat W) := zn_v u _ _ v
  have wd : MW hd 1 T (zn_ T (tM_ x i) n.toNat W) := MW_fz b2.2.2.2.1 d3 (fun _ _ _ q => q)
  have e19 : ∀ a b c, Mo_tried_19 (wr_ (wr_ (wr_ ha 94 62 a) 94 63 b) 94 66 c) 94 x n (if x = 3 then 1 else 0) 94 = (bd_ (Mo_goMany (wr_ (wr_ (wr_ (wr_ (wr_ ha 94 62 a) 94 63 b) 94 66 c) 94 64 (if x = 3 then 1 else 0)) 94 65 (if x = 4 then 1 else 0)) 94 n) fun h1 _ => ck_ (0 ≤ (94 : Int)) (bd_ (Mo_plainTried h1 94) fun h3 _ => ck_ (0 ≤ (94 : Int)) (bd_ (Mo_gapsAll h3 94 1) fun h5 v6 => some (h5, v6)))) := by
    intro a b c
    rw [Mo_tried_19_e, ck_t (by omega), ck_t (by split <;> omega)]
    by_cases x4 : x = 4
    · rw [if_neg (by omega), if_pos x4]
      repeat rw [ck_t (by omega)]
    · rw [if_pos x4, if_neg x4]
      repeat rw [ck_t (by omega)]
  have e13 : ∀ a, Mo_tried_13 (wr_ ha 94 62 a) 94 x i n (if x = 1 then 1 else 0) 94 = Mo_tried_19 (wr_ (wr_ (wr_ ha 94 62 a) 94 63 (if x = 1 then 1 else 0)) 94 66 (if x = 2 then i else -1)) 94 x n (if x = 3 then 1 else 0) 94 := by
    intro a
    rw [Mo_tried_13_e, ck_t (by omega), ck_t (by split <;> omega)]
    by_cases x2 : x = 2
    · rw [if_neg (by omega), if_pos x2]
      repeat rw [ck_t (by omega)]
      by_cases x3 : x = 3
      · omega
      · rw [if_pos x3, if_neg x3]
    · rw [if_pos x2, if_neg x2]
      repeat rw [ck_t (by omega)]
      by_cases x3 : x = 3
      · rw [if_neg (by omega), if_pos x3]
      · rw [if_pos x3, if_neg x3]
  have e7 : Mo_tried_7 (wr_ h 94 2 0) 94 x i n = some (hd, Gm T (zn_ T (tM_ x i) n.toNat W)) := by
    rw [Mo_tried_7_e]
    repeat rw [ck_t (by omega)]
    rw [a1, bd_v]
    have fin : Mo_tried_13 (wr_ ha 94 62 (if x = 0 then 1 else 0)) 94 x i n (if x = 1 then 1 else 0) 94 = some (hd, Gm T (zn_ T (tM_ x i) n.toNat W)) := by
      rw [e13, e19, b1, bd_v, ck_t (by omega), d1, bd_v, ck_t (by omega), Mo_gapsAll_s (fz_ShM d3 b2.1) (MT_fz b2.2.1 d3 (fun _ _ _ q => q) (by intro k p q; omega)) wd vb, bd_v]
    rw [← fin]
    repeat rw [ck_t (by omega)]
    by_cases x0 : x = 0
    · rw [if_neg (by omega), if_pos x0]
      repeat rw [ck_t (by omega)]
      by_cases x1 : x = 1
      · omega
      · rw [if_pos x1, if_neg x1]
    · rw [if_pos x0, if_neg x0]
      repeat rw [ck_t (by omega)]
      by_cases x1 : x = 1
      · rw [if_neg (by omega), if_pos x1]
      · rw [if_pos x1, if_neg x1]
  refine ⟨hd, ?_, gd, X⟩
  rw [Mo_tried_e, ck_t (by omega), Mo_isIn_t k1 k2, bd_v, if_neg (by omega), Mo_isIn_t k3 k4, bd_v, if_neg (by omega)]
  by_cases x2 : x = 2
  · have := k5 x2
    rw [if_neg (by omega)]
    repeat rw [ck_t (by omega)]
    rw [Mo_isMaid_t g.2.1 this.1 this.2, bd_v, if_pos (by omega), e7]
  · have := k6 x2
    rw [if_pos x2, if_pos this, e7]
theorem Mo_tried_f (g0 : MN h T W I U Q) (v : WV T W) {x i n : Int} (k : ¬ ok_try T x i n) : Mo_tried h 94 x i n = some (wr_ h 94 2 0, -1) := by
  have g := MN_q g0 v (Mq_2 h 0)
  rw [Mo_tried_e, ck_t (by omega)]
  by_cases c1 : 0 ≤ x ∧ x ≤ 4
  · rw [Mo_isIn_t c1.1 c1.2, bd_v, if_neg (by omega)]
    by_cases c2 : 0 ≤ n ∧ n ≤ 200
    · rw [Mo_isIn_t c2.1 c2.2, bd_v, if_neg (by omega)]
      by_cases x2 : x = 2
      · have : ¬ (0 ≤ i ∧ i < T 0 0) := fun q => k ⟨by omega, by omega, by omega, by omega, fun _ => q, fun q => absurd x2 q⟩
        rw [if_neg (by omega)]
        repeat rw [ck_t (by omega)]
        rw [Mo_isMaid_f g.2.1 this, bd_v, if_neg (by omega)]
      · have : ¬ i = 0 := fun q => k ⟨by omega, by omega, by omega, by omega, fun q => absurd q x2, fun _ => q⟩
        rw [if_pos x2, if_neg this]
    · rw [Mo_isIn_f c2, bd_v, if_pos rfl]
  · rw [Mo_isIn_f c1, bd_v, if_pos rfl]
end
