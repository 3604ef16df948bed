/-! what the reference asks of its search -/
theorem sM_00 {H : Int} (h0 : 0 ≤ H) (h5 : H ≤ 5) : sM_ H (fun k => k) (fun _ => 0) = 0 := by
  obtain ⟨n, e, hn⟩ := h5_ h0 h5
  subst e
  rcases hn with q | q | q | q | q | q <;> subst q <;> decide +kernel
theorem mF_q {h h' : am_H} (z : fzF h h') : Mq h h' := Mq_fz z (fun x q => by unfold mQA; omega) (fun k q => by unfold mQF; omega)
/-- how far, in how many rows, by which turn first -/
def few_ (T W : Tx) (p w : Int) : Int := (Bu_ w (W 0 p)).1 (stC T W p w)
def way_ (T W : Tx) (p w : Int) : Int := (Bu_ w (W 0 p)).2.1 (stC T W p w)
def fst_ (w H s : Int) : Nat → Int → Int
  | 0, _ => -2
  | n + 1, d => if (Bu_ w H).1 (nC_ w H s d) = w32 ((Bu_ w H).1 s - 1) then d else fst_ w H s n (d + 1)
def kA_ (a b t : Nat) : Bool := (List.range a).all fun i : Nat => (List.range b).all fun j : Nat => decide (te8 t 4 (i * b + j) < 15)
theorem kA_s {a b t : Nat} {N : Int} (eN : N = (a * b : Nat)) (hb : 0 < b) (k : kA_ a b t = true) {s : Int} (s0 : 0 ≤ s) (s1 : s < N) : ((te8 t 4 s.toNat : Nat) : Int) < 15 := by
  unfold kA_ at k
  simp only [decide_eq_true_eq, List.all_eq_true, List.mem_range] at k
  have lt : s.toNat < a * b := by omega
  have := k (s.toNat / b) (Nat.div_lt_of_lt_mul (by rw [Nat.mul_comm]; exact lt)) (s.toNat % b) (Nat.mod_lt _ hb)
  rw [show s.toNat / b * b + s.toNat % b = s.toNat from Nat.div_add_mod' _ _] at this
  omega
set_option maxRecDepth 100000 in
set_option maxHeartbeats 4000000 in
theorem kA_00 : kA_ 1 1 DD_00 = true := by decide +kernel
set_option maxRecDepth 100000 in
set_option maxHeartbeats 4000000 in
theorem kA_01 : kA_ 1 1 DD_01 = true := by decide +kernel
set_option maxRecDepth 100000 in
set_option maxHeartbeats 4000000 in
theorem kA_02 : kA_ 2 1 DD_02 = true := by decide +kernel
set_option maxRecDepth 100000 in
set_option maxHeartbeats 4000000 in
theorem kA_03 : kA_ 6 1 DD_03 = true := by decide +kernel
set_option maxRecDepth 100000 in
set_option maxHeartbeats 4000000 in
theorem kA_04 : kA_ 24 1 DD_04 = true := by decide +kernel
set_option maxRecDepth 100000 in
set_option maxHeartbeats 4000000 in
theorem kA_05 : kA_ 120 1 DD_05 = true := by decide +kernel
set_option maxRecDepth 100000 in
set_option maxHeartbeats 4000000 in
theorem kA_10 : kA_ 1 1 DD_10 = true := by decide +kernel
set_option maxRecDepth 100000 in
set_option maxHeartbeats 4000000 in
theorem kA_11 : kA_ 1 2 DD_11 = true := by decide +kernel
set_option maxRecDepth 100000 in
set_option maxHeartbeats 4000000 in
theorem kA_12 : kA_ 2 4 DD_12 = true := by decide +kernel
set_option maxRecDepth 100000 in
set_option maxHeartbeats 4000000 in
theorem kA_13 : kA_ 6 8 DD_13 = true := by decide +kernel
set_option maxRecDepth 100000 in
set_option maxHeartbeats 4000000 in
theorem kA_14 : kA_ 24 16 DD_14 = true := by decide +kernel
set_option maxRecDepth 100000 in
set_option maxHeartbeats 4000000 in
theorem kA_15 : kA_ 120 32 DD_15 = true := by decide +kernel
theorem D1_lt {w H s : Int} (h0 : 0 ≤ H) (h5 : H ≤ 5) (w0 : w = 0 ∨ w = 1) (s0 : 0 ≤ s) (s1 : s < nN_ w H) : D1_ w H s < 15 := by
  have hh : H = 0 ∨ H = 1 ∨ H = 2 ∨ H = 3 ∨ H = 4 ∨ H = 5 := by omega
  rcases w0 with e | e <;> rcases hh with q | q | q | q | q | q <;> subst e <;> subst q
  · exact kA_s (a := 1) (b := 1) (t := DD_00) rfl (by decide) kA_00 s0 s1
  · exact kA_s (a := 1) (b := 1) (t := DD_01) rfl (by decide) kA_01 s0 s1
  · exact kA_s (a := 2) (b := 1) (t := DD_02) rfl (by decide) kA_02 s0 s1
  · exact kA_s (a := 6) (b := 1) (t := DD_03) rfl (by decide) kA_03 s0 s1
  · exact kA_s (a := 24) (b := 1) (t := DD_04) rfl (by decide) kA_04 s0 s1
  · exact kA_s (a := 120) (b := 1) (t := DD_05) rfl (by decide) kA_05 s0 s1
  · exact kA_s (a := 1) (b := 1) (t := DD_10) rfl (by decide) kA_10 s0 s1
  · exact kA_s (a := 1) (b := 2) (t := DD_11) rfl (by decide) kA_11 s0 s1
  · exact kA_s (a := 2) (b := 4) (t := DD_12) rfl (by decide) kA_12 s0 s1
  · exact kA_s (a := 6) (b := 8) (t := DD_13) rfl (by decide) kA_13 s0 s1
  · exact kA_s (a := 24) (b := 16) (t := DD_14) rfl (by decide) kA_14 s0 s1
  · exact kA_s (a := 120) (b := 32) (t := DD_15) rfl (by decide) kA_15 s0 s1
section
variable {h : am_H} {T W I : Tx} {U : Int → Tx} {Q : Tx}
theorem Bu_r {w H s : Int} (h0 : 0 ≤ H) (h5 : H ≤ 5) (w0 : w = 0 ∨ w = 1) (s0 : 0 ≤ s) (s1 : s < nN_ w H) : (Bu_ w H).1 s = (if D1_ w H s < 15 then D1_ w H s else -1) := by
  obtain ⟨k, I, e⟩ := Bu_I h0 h5 w0
  exact bI_end (G1_ h0 h5 w0) I e s0 s1
theorem Bu_p {w H s : Int} (h0 : 0 ≤ H) (h5 : H ≤ 5) (w0 : w = 0 ∨ w = 1) (s0 : 0 ≤ s) (s1 : s < nN_ w H) : (Bu_ w H).1 s = D1_ w H s ∧ 0 ≤ (Bu_ w H).1 s ∧ (Bu_ w H).1 s < 15 := by
  have r := Bu_r h0 h5 w0 s0 s1
  have l := D1_lt h0 h5 w0 s0 s1
  have p := (G1_ h0 h5 w0).2.1 s s0 s1
  rw [if_pos l] at r
  omega
theorem Mo_far_p {H w : Int} (g : MN h T W I U Q) (v : WV T W) (h0 : 0 ≤ H) (h5 : H ≤ 5) (w0 : w = 0 ∨ w = 1) : ∃ h' b', Mo_layFar h 94 H 0 w = some (h', 0) ∧ MB h' b' ∧ bL_ (ph_ w H (fun k => k) (fun _ => 0)) (nN_ w H) (Bu_ w H) b' ∧ MN h' T W I U Q ∧ fzF h h' := by
  obtain ⟨h', b', a, b, c, d⟩ := Mo_layFar_s (w := w) g.1 h0 h5 w0 (VP_id H) (VB_0 H) (fun _ _ _ _ => rfl)
  rw [sM_00 h0 h5] at a
  exact ⟨h', b', a, b, c, MN_q g v (mF_q d), d⟩
theorem st_b {p w : Int} (v : WV T W) (p0 : 0 ≤ p) (p1 : p < T 0 1) : 0 ≤ stC T W p w ∧ stC T W p w < nN_ w (W 0 p) ∧ ph_ w (W 0 p) (fun k => k) (fun _ => 0) (stC T W p w) = stM T W p w ∧ 0 ≤ stM T W p w ∧ stM T W p w < 3840 := by
  have hh := v.2.1 p p0 p1
  have r := (Rk_v v p0 p1).1
  have f := Fw_b (w := w) v p0 p1
  have a := sC_b (w := w) (by omega) hh.2 r f
  have b := sM_b (by omega) hh.2 r f
  exact ⟨a.1, a.2, ph_id (by omega) hh.2 r f Fw_0, b.1, b.2⟩
theorem Mo_fw (g0 : MN h T W I U Q) (sv : SV T W I U Q) {p w : Int} (p0 : 0 ≤ p) (p1 : p < T 0 1) (w0 : w = 0 ∨ w = 1) : ∃ h1 h2 b', Mo_layFar h 94 (W 0 p) 0 w = some (h1, 0) ∧ Mo_codeOfPile h1 94 p w = some (h2, stM T W p w) ∧ MN h1 T W I U Q ∧ MN h2 T W I U Q ∧ Mq h h2 ∧ MB h2 b' ∧ bL_ (ph_ w (W 0 p) (fun k => k) (fun _ => 0)) (nN_ w (W 0 p)) (Bu_ w (W 0 p)) b' := by
  have v := sv.2.1
  have hh := v.2.1 p p0 p1
  obtain ⟨h1, b', a1, a2, a3, a4, a5⟩ := Mo_far_p (H := W 0 p) (w := w) g0 v (by omega) hh.2 w0
  obtain ⟨h2, c1, c2, c3, c4⟩ := Mo_codeOfPile_s (p := p) (w := w) a4 v p0 p1 w0
  exact ⟨h1, h2, b', a1, c1, a4, c3, Mq_tr (mF_q a5) (mR_q c4), MB_R a2 c4, a3⟩
theorem Mo_fewest_t (g0 : MN h T W I U Q) (sv : SV T W I U Q) {p w : Int} (p0 : 0 ≤ p) (p1 : p < T 0 1) (w0 : w = 0 ∨ w = 1) : ∃ h', Mo_fewest h 94 p w = some (h', few_ T W p w) ∧ MN h' T W I U Q ∧ Mq h h' := by
  have v := sv.2.1
  have v0 := v.1
  have hh := v.2.1 p p0 p1
  have q2 := Mq_2 h 0
  have g := MN_q g0 v q2
  obtain ⟨h1, h2, b', a1, a2, g1, g2, q, m, L⟩ := Mo_fw g sv p0 p1 w0
  have st := st_b (w := w) v p0 p1
  have y0 : rd_ (wr_ h 94 2 0) 120 p = W 0 p := by have := g.2.2.2.1.2.1 p p0 p1; simpa using this
  refine ⟨h2, ?_, g2, Mq_tr q2 q⟩
  rw [Mo_fewest_e, ck_t (by omega), ck_t (by omega), Mo_isPile_t g.2.1 p0 p1, bd_v, if_neg (by omega), Mo_isIn_t (by omega) (by omega), bd_v, if_pos (by omega)]
  simp only [mr52 g.1, ml120 g.1, y0]
  rw [ck_t (by omega), ck_t (by omega), ck_t (by omega), ck_t (by omega), a1, bd_v, ck_t (by omega), ck_t (by omega), a2, bd_v]
  simp only [mr71 g1.1, ml129 g2.1]
  rw [ck_t (by omega), ck_t (by omega), m.1 _ st.2.2.2.1 st.2.2.2.2, ← st.2.2.1]
  exact so_v (L.1 _ st.1 st.2.1)
theorem Mo_ways_t (g0 : MN h T W I U Q) (sv : SV T W I U Q) {p w : Int} (p0 : 0 ≤ p) (p1 : p < T 0 1) (w0 : w = 0 ∨ w = 1) : ∃ h', Mo_ways h 94 p w = some (h', way_ T W p w) ∧ MN h' T W I U Q ∧ Mq h h' := by
  have v := sv.2.1
  have v0 := v.1
  have hh := v.2.1 p p0 p1
  have q2 := Mq_2 h 0
  have g := MN_q g0 v q2
  obtain ⟨h1, h2, b', a1, a2, g1, g2, q, m, L⟩ := Mo_fw g sv p0 p1 w0
  have st := st_b (w := w) v p0 p1
  have y0 : rd_ (wr_ h 94 2 0) 120 p = W 0 p := by have := g.2.2.2.1.2.1 p p0 p1; simpa using this
  refine ⟨h2, ?_, g2, Mq_tr q2 q⟩
  rw [Mo_ways_e, ck_t (by omega), ck_t (by omega), Mo_isPile_t g.2.1 p0 p1, bd_v, if_neg (by omega), Mo_isIn_t (by omega) (by omega), bd_v, if_pos (by omega)]
  simp only [mr52 g.1, ml120 g.1, y0]
  rw [ck_t (by omega), ck_t (by omega), ck_t (by omega), ck_t (by omega), a1, bd_v, ck_t (by omega), ck_t (by omega), a2, bd_v]
  simp only [mr72 g1.1, ml130 g2.1]
  rw [ck_t (by omega), ck_t (by omega), m.2.1 _ st.2.2.2.1 st.2.2.2.2, ← st.2.2.1]
  exact so_v (L.2.1 _ st.1 st.2.1 (Bu_p (by omega) hh.2 w0 st.1 st.2.1).2.1)
theorem Mo_first_lp {p w : Int} {b' : Br} (v : WV T W) (p0 : 0 ≤ p) (p1 : p < T 0 1) (w0 : w = 0 ∨ w = 1) (L : bL_ (ph_ w (W 0 p) (fun k => k) (fun _ => 0)) (nN_ w (W 0 p)) (Bu_ w (W 0 p)) b') : ∀ (n : Nat) (d : Int) (h : am_H), MN h T W I U Q → MB h b' → 1 ≤ d → d + n = W 0 p + 1 → ∃ h', Mo_first_4 h 94 p w (stM T W p w) d = some (h', fst_ w (W 0 p) (stC T W p w) n d) ∧ MN h' T W I U Q ∧ Mq h h' := by
  intro n
  induction n with
  | zero =>
    intro d h g m d0 hd
    have v0 := v.1
    have y0 : rd_ h 120 p = W 0 p := by have := g.2.2.2.1.2.1 p p0 p1; simpa using this
    rw [Mo_first_4_e]
    simp only [mr52 g.1, ml120 g.1, y0]
    rw [ck_t (by omega), ck_t (by omega), ck_t (by omega), if_pos (by omega)]
    exact ⟨h, rfl, g, Mq_refl h⟩
  | succ n ih =>
    intro d h g m d0 hd
    have v0 := v.1
    have hh := v.2.1 p p0 p1
    have st := st_b (w := w) v p0 p1
    have y0 : rd_ h 120 p = W 0 p := by have := g.2.2.2.1.2.1 p p0 p1; simpa using this
    obtain ⟨h1, x1, x2⟩ := Mo_turnedCode_s (h := h) (H := W 0 p) (c := stM T W p w) (d := d) (w := w) g.1 (by omega) hh.2 (by omega) (by omega)
    have nf := ph_f (w := w) (by omega) hh.2 (VP_id (W 0 p)) (VB_0 (W 0 p)) _ d st.1 st.2.1 d0 (by omega)
    have nb := nC_b (w := w) (H := W 0 p) (by omega) hh.2 _ d st.1 st.2.1 d0 (by omega)
    have fb := ph_b (w := w) (Y := fun _ => 0) (by omega) hh.2 (VP_id (W 0 p)) nb.1 nb.2
    rw [st.2.2.1] at nf
    rw [nf] at x1
    have g1 := MN_q g v (mR_q x2)
    have m1 := MB_R m x2
    have r1 := L.1 _ nb.1 nb.2
    have r2 := L.1 _ st.1 st.2.1
    rw [st.2.2.1] at r2
    obtain ⟨h2, y1, y2, y3⟩ := ih (d + 1) h1 g1 m1 (by omega) (by omega)
    rw [Mo_first_4_e]
    simp only [mr52 g.1, ml120 g.1, mr71 g.1, y0]
    rw [ck_t (by omega), ck_t (by omega), ck_t (by omega), if_neg (by omega), ck_t (by omega), ck_t (by omega), ck_t (by omega), ck_t (by omega), ck_t (by omega), x1, bd_v]
    simp only [mr71 g1.1, ml129 g1.1]
    rw [ck_t (by omega), ck_t (by omega), ck_t (by omega), ck_t (by omega), ck_t (by omega), m1.1 _ fb.1 fb.2, m1.1 _ st.2.2.2.1 st.2.2.2.2, r1, r2, w32_i (x := d + 1) (by omega) (by omega)]
    unfold fst_
    by_cases q : (Bu_ w (W 0 p)).1 (nC_ w (W 0 p) (stC T W p w) d) = w32 ((Bu_ w (W 0 p)).1 (stC T W p w) - 1)
    · rw [if_neg (fun z => z q), if_pos q]
      exact ⟨h1, rfl, g1, mR_q x2⟩
    · rw [if_pos q, if_neg q]
      exact ⟨h2, y1, y2, Mq_tr (mR_q x2) y3⟩
theorem Mo_first_t (g0 : MN h T W I U Q) (sv : SV T W I U Q) {p w : Int} (p0 : 0 ≤ p) (p1 : p < T 0 1) (w0 : w = 0 ∨ w = 1) : ∃ h', Mo_first h 94 p w = some (h', fst_ w (W 0 p) (stC T W p w) (W 0 p).toNat 1) ∧ MN h' T W I U Q ∧ Mq h h' := by
  have v := sv.2.1
  have v0 := v.1
  have hh := v.2.1 p p0 p1
  have q2 := Mq_2 h 0
  have g := MN_q g0 v q2
  obtain ⟨h1, h2, b', a1, a2, g1, g2, q, m, L⟩ := Mo_fw g sv p0 p1 w0
  have y0 : rd_ (wr_ h 94 2 0) 120 p = W 0 p := by have := g.2.2.2.1.2.1 p p0 p1; simpa using this
  obtain ⟨h3, c1, c2, c3⟩ := Mo_first_lp v p0 p1 w0 L (W 0 p).toNat 1 h2 g2 m (by omega) (by omega)
  refine ⟨h3, ?_, c2, Mq_tr q2 (Mq_tr q c3)⟩
  rw [Mo_first_e, ck_t (by omega), ck_t (by omega), Mo_isPile_t g.2.1 p0 p1, bd_v, if_neg (by omega), Mo_isIn_t (by omega) (by omega), bd_v, if_pos (by omega)]
  simp only [mr52 g.1, ml120 g.1, y0]
  rw [ck_t (by omega), ck_t (by omega), ck_t (by omega), ck_t (by omega), a1, bd_v, ck_t (by omega), a2, bd_v]
  exact c1
theorem Mo_fewest_f (g0 : MN h T W I U Q) (v : WV T W) {p w : Int} (c : ¬ ((0 ≤ p ∧ p < T 0 1) ∧ 0 ≤ w ∧ w ≤ 1)) : Mo_fewest h 94 p w = some (wr_ h 94 2 0, -1) := by
  have g := MN_q g0 v (Mq_2 h 0)
  rw [Mo_fewest_e, ck_t (by omega), ck_t (by omega)]
  by_cases q : 0 ≤ p ∧ p < T 0 1
  · rw [Mo_isPile_t g.2.1 q.1 q.2, bd_v, if_neg (by omega), Mo_isIn_f (fun z => c ⟨q, z⟩), bd_v, if_neg (by omega)]
  · rw [Mo_isPile_f g.2.1 q, bd_v, if_pos (by omega)]
theorem Mo_ways_f (g0 : MN h T W I U Q) (v : WV T W) {p w : Int} (c : ¬ ((0 ≤ p ∧ p < T 0 1) ∧ 0 ≤ w ∧ w ≤ 1)) : Mo_ways h 94 p w = some (wr_ h 94 2 0, -1) := by
  have g := MN_q g0 v (Mq_2 h 0)
  rw [Mo_ways_e, ck_t (by omega), ck_t (by omega)]
  by_cases q : 0 ≤ p ∧ p < T 0 1
  · rw [Mo_isPile_t g.2.1 q.1 q.2, bd_v, if_neg (by omega), Mo_isIn_f (fun z => c ⟨q, z⟩), bd_v, if_neg (by omega)]
  · rw [Mo_isPile_f g.2.1 q, bd_v, if_pos (by omega)]
theorem Mo_first_f (g0 : MN h T W I U Q) (v : WV T W) {p w : Int} (c : ¬ ((0 ≤ p ∧ p < T 0 1) ∧ 0 ≤ w ∧ w ≤ 1)) : Mo_first h 94 p w = some (wr_ h 94 2 0, -1) := by
  have g := MN_q g0 v (Mq_2 h 0)
  rw [Mo_first_e, ck_t (by omega), ck_t (by omega)]
  by_cases q : 0 ≤ p ∧ p < T 0 1
  · rw [Mo_isPile_t g.2.1 q.1 q.2, bd_v, if_neg (by omega), Mo_isIn_f (fun z => c ⟨q, z⟩), bd_v, if_neg (by omega)]
  · rw [Mo_isPile_f g.2.1 q, bd_v, if_pos (by omega)]
/-- how many of a row are so -/
def tl_ (f : Int → Int) (k : Int) : Nat → Int
  | 0 => 0
  | n + 1 => tl_ f k n + if f n = k then 1 else 0
theorem tl_b (f : Int → Int) (k : Int) : ∀ n : Nat, 0 ≤ tl_ f k n ∧ tl_ f k n ≤ n := by
  intro n
  induction n with
  | zero => exact ⟨Int.le_refl _, Int.le_refl _⟩
  | succ n ih =>
    unfold tl_
    split <;> omega
def mt1_ (w H i : Int) : Int := (Bu_ w H).1 ((Bu_ w H).2.2.1 i)
def fur_ (w H : Int) : Int := mt1_ w H ((Bu_ w H).2.2.2 - 1)
def hwm_ (w H x : Int) : Int := tl_ (mt1_ w H) x (Bu_ w H).2.2.2.toNat
theorem Bu_m {w H : Int} (h0 : 0 ≤ H) (h5 : H ≤ 5) (w0 : w = 0 ∨ w = 1) : 1 ≤ (Bu_ w H).2.2.2 ∧ (Bu_ w H).2.2.2 ≤ nN_ w H := by
  obtain ⟨k, I, e⟩ := Bu_I h0 h5 w0
  have n := nN_v (w := w) h0 h5
  exact ⟨I.1.1, bI_m I (by omega)⟩
theorem Mo_met {H w : Int} {b' : Br} (h0 : 0 ≤ H) (h5 : H ≤ 5) (w0 : w = 0 ∨ w = 1) (m : MB h b') (L : bL_ (ph_ w H (fun k => k) (fun _ => 0)) (nN_ w H) (Bu_ w H) b') {i : Int} (i0 : 0 ≤ i) (i1 : i < (Bu_ w H).2.2.2) : 0 ≤ rd_ h 131 i ∧ rd_ h 131 i < 3840 ∧ rd_ h 129 (rd_ h 131 i) = mt1_ w H i := by
  have bm := Bu_m h0 h5 w0
  have n := nN_v (w := w) h0 h5
  obtain ⟨e, c0, c1, c2⟩ := L.2.2.2.1 i i0 i1
  have fb := ph_b (w := w) (Y := fun _ => 0) h0 h5 (VP_id H) c0 c1
  rw [m.2.2.1 i i0 (by omega), e]
  exact ⟨fb.1, fb.2, by rw [m.1 _ fb.1 fb.2]; exact L.1 _ c0 c1⟩
theorem Mo_furthest_t (g0 : MN h T W I U Q) (sv : SV T W I U Q) {H w : Int} (h0 : 0 ≤ H) (h5 : H ≤ 5) (w0 : w = 0 ∨ w = 1) : ∃ h', Mo_furthest h 94 H w = some (h', fur_ w H) ∧ MN h' T W I U Q ∧ Mq h h' := by
  have v := sv.2.1
  have q2 := Mq_2 h 0
  have g := MN_q g0 v q2
  obtain ⟨h1, b', a1, a2, a3, a4, a5⟩ := Mo_far_p g v h0 h5 w0
  have bm := Bu_m h0 h5 w0
  have n := nN_v (w := w) h0 h5
  have e := Mo_met h0 h5 w0 a2 a3 (i := (Bu_ w H).2.2.2 - 1) (by omega) (by omega)
  have e2 : rd_ h1 94 74 = (Bu_ w H).2.2.2 := by rw [a2.2.2.2]; exact a3.2.2.1
  refine ⟨h1, ?_, a4, Mq_tr q2 (mF_q a5)⟩
  rw [Mo_furthest_e, ck_t (by omega), Mo_isIn_t h0 h5, bd_v, if_neg (by omega), Mo_isIn_t (by omega) (by omega), bd_v, if_pos (by omega), ck_t (by omega), a1, bd_v, e2, w32_i (by omega) (by omega)]
  simp only [mr71 a4.1, mr73 a4.1, ml129 a4.1, ml131 a4.1]
  repeat rw [ck_t (by omega)]
  exact so_v e.2.2
theorem Mo_furthest_f (h : am_H) {H w : Int} (c : ¬ ((0 ≤ H ∧ H ≤ 5) ∧ 0 ≤ w ∧ w ≤ 1)) : Mo_furthest h 94 H w = some (wr_ h 94 2 0, -1) := by
  rw [Mo_furthest_e, ck_t (by omega)]
  by_cases q : 0 ≤ H ∧ H ≤ 5
  · rw [Mo_isIn_t q.1 q.2, bd_v, if_neg (by omega), Mo_isIn_f (fun z => c ⟨q, z⟩), bd_v, if_neg (by omega)]
  · rw [Mo_isIn_f q, bd_v, if_pos (by omega)]
theorem Mo_howMany_lp {H w x : Int} {b' : Br} (s : ShM h) (h0 : 0 ≤ H) (h5 : H ≤ 5) (w0 : w = 0 ∨ w = 1) (m : MB h b') (L : bL_ (ph_ w H (fun k => k) (fun _ => 0)) (nN_ w H) (Bu_ w H) b') : ∀ (n i : Nat), (i : Int) + n = (Bu_ w H).2.2.2 → Mo_howMany_5 h 94 x (tl_ (mt1_ w H) x i) i = some (h, hwm_ w H x) := by
  intro n
  have e2 : rd_ h 94 74 = (Bu_ w H).2.2.2 := by rw [m.2.2.2]; exact L.2.2.1
  have bm := Bu_m h0 h5 w0
  have nv := nN_v (w := w) h0 h5
  induction n with
  | zero =>
    intro i hi
    rw [Mo_howMany_5_e, ck_t (by omega), e2, if_pos (by omega)]
    unfold hwm_
    rw [show (Bu_ w H).2.2.2.toNat = i by omega]
  | succ n ih =>
    intro i hi
    have e := Mo_met h0 h5 w0 m L (i := i) (by omega) (by omega)
    have tb := tl_b (mt1_ w H) x i
    have k := ih (i + 1) (by omega)
    unfold tl_ at k
    rw [Mo_howMany_5_e, ck_t (by omega), e2, if_neg (by omega)]
    simp only [mr71 s, mr73 s, ml129 s, ml131 s]
    repeat rw [ck_t (by omega)]
    rw [e.2.2]
    have ec : ((i + 1 : Nat) : Int) = (i : Int) + 1 := by omega
    rw [ec] at k
    by_cases q : mt1_ w H i = x
    · rw [if_neg (fun z => z q), w32_i (x := (i : Int) + 1) (by omega) (by omega), w32_i (by omega) (by omega)]
      rw [if_pos q] at k
      exact k
    · rw [if_pos q, w32_i (x := (i : Int) + 1) (by omega) (by omega), w32_i (by omega) (by omega)]
      rw [if_neg q] at k
      exact k
theorem Mo_howMany_t (g0 : MN h T W I U Q) (sv : SV T W I U Q) {H w x : Int} (h0 : 0 ≤ H) (h5 : H ≤ 5) (w0 : w = 0 ∨ w = 1) (x0 : 0 ≤ x) (x1 : x ≤ 20) : ∃ h', Mo_howMany h 94 H w x = some (h', hwm_ w H x) ∧ MN h' T W I U Q ∧ Mq h h' := by
  have v := sv.2.1
  have q2 := Mq_2 h 0
  have g := MN_q g0 v q2
  obtain ⟨h1, b', a1, a2, a3, a4, a5⟩ := Mo_far_p g v h0 h5 w0
  have bm := Bu_m h0 h5 w0
  refine ⟨h1, ?_, a4, Mq_tr q2 (mF_q a5)⟩
  rw [Mo_howMany_e, ck_t (by omega), Mo_isIn_t h0 h5, bd_v, if_neg (by omega), Mo_isIn_t (by omega) (by omega), bd_v, if_neg (by omega), Mo_isIn_t x0 x1, bd_v, if_pos (by omega), ck_t (by omega), a1, bd_v]
  exact Mo_howMany_lp a4.1 h0 h5 w0 a2 a3 (Bu_ w H).2.2.2.toNat 0 (by omega)
theorem Mo_howMany_f (h : am_H) {H w x : Int} (c : ¬ ((0 ≤ H ∧ H ≤ 5) ∧ (0 ≤ w ∧ w ≤ 1) ∧ 0 ≤ x ∧ x ≤ 20)) : Mo_howMany h 94 H w x = some (wr_ h 94 2 0, -1) := by
  rw [Mo_howMany_e, ck_t (by omega)]
  by_cases q : 0 ≤ H ∧ H ≤ 5
  · rw [Mo_isIn_t q.1 q.2, bd_v, if_neg (by omega)]
    by_cases r : 0 ≤ w ∧ w ≤ 1
    · rw [Mo_isIn_t r.1 r.2, bd_v, if_neg (by omega), Mo_isIn_f (fun z => c ⟨q, r, z⟩), bd_v, if_neg (by omega)]
    · rw [Mo_isIn_f r, bd_v, if_pos (by omega)]
  · rw [Mo_isIn_f q, bd_v, if_pos (by omega)]
end
