/-! turn, move, crack, undo, keep, back, in the reference -/
section
variable {h : am_H} {T W I : Tx} {U : Int → Tx} {Q : Tx}
/-- remembered, and the call's own field laid -/
theorem M_rem (g0 : MN h T W I U Q) (v : WV T W) : ∃ h', Mo_remember (wr_ h 94 2 0) 94 = some (h', 0) ∧ ShM h' ∧ MT h' T ∧ MW h' 0 T W ∧ BB h' ∧ MU h' T (rU U (Q 4 2) W) (rN (Q 4 2)) ∧ rd_ h' 94 60 = W 6 2 ∧ fz_ h h' nA nF := by
  have X0 := Mq_2 h 0
  have g := MN_q g0 v X0
  obtain ⟨h', a1, a2, a3⟩ := Mo_remember_s g.1 g.2.2.2.1 v g.2.2.2.2.2.1 g.2.2.2.2.2.2.1
  refine ⟨h', a1, fz_ShM a3 g.1, MT_fz g.2.1 a3 (by intro a p q; omega) (by intro k p q; omega), MW_fz g.2.2.2.1 a3 (by intro a p q; omega), fun x p q => by rw [a3.2.1 124 (by omega) (by omega)]; exact g.2.2.2.2.2.1 x p q, a2, by rw [a3.2.2 60 (by omega)]; exact g.2.2.2.2.1, fz_tr (fz_mo X0.1 (fun a q => by unfold mQA at q; unfold nA; omega) (fun k q => by unfold mQF at q; unfold nF; omega)) (fz_mo a3 (fun a q => by unfold nA; omega) (fun k q => by unfold nF; omega))⟩
/-- behind remembering, a step within the halves -/
theorem M_act {ha h' : am_H} (g0 : MN h T W I U Q) {V : Tx} (z : fz_ h ha nA nF) (mu : MU ha T (rU U (Q 4 2) W) (rN (Q 4 2))) (n60 : rd_ ha 94 60 = W 6 2) (f : fr_ ha h' (fun a => 120 ≤ a ∧ a ≤ 124)) (o : MW h' 0 T V) (nv : V 6 2 = W 6 2) (b : BB h') : MN h' T V I (rU U (Q 4 2) W) (up_ Q 4 2 (rN (Q 4 2))) ∧ Fm_ h h' := by
  have zf : fz_ ha h' (fun a => 120 ≤ a ∧ a ≤ 124) (fun _ => False) := fz_fr f (fun _ q => q) (by omega)
  have Z : fz_ h h' nA nF := fz_tr z (fz_mo zf (fun a q => by unfold nA; omega) (fun _ q => q.elim))
  exact ⟨MN_gen g0 Z o (by rw [zf.2.2 60 (fun q => q), n60, nv]) b (MU_fz mu zf (by omega) (by omega) (fun q => q)), Fm_fz Z (fun a q => by unfold nA at q; omega)⟩
theorem Mo_turn_t (g0 : MN h T W I U Q) (sv : SV T W I U Q) {p d : Int} (h1 : 0 ≤ p) (h2 : p < T 0 1) (h3 : 1 ≤ d) (h4 : d ≤ W 0 p) : ∃ h', Mo_turn h 94 p d = some (h', Gp T (Tn W p d) p) ∧ MN h' T (Tn W p d) I (rU U (Q 4 2) W) (up_ Q 4 2 (rN (Q 4 2))) ∧ Fm_ h h' := by
  have v := sv.2.1
  have v0 := v.1
  have g := MN_q g0 v (Mq_2 h 0)
  have yp : rd_ (wr_ h 94 2 0) 120 p = W 0 p := by have := g.2.2.2.1.2.1 p h1 h2; simpa using this
  obtain ⟨ha, a1, a2, a3, a4, a5, a6, a7, a8⟩ := M_rem g0 v
  obtain ⟨hb, b1, b2, b3, b4⟩ := Mo_turnsBy_s a2 a4 v h1 h2 h3 h4
  have vt := Tn_v v h1 h2 h3 h4
  obtain ⟨gb, Fb⟩ := M_act g0 a8 a6 a7 (fr_mo b3 (fun a q => by omega)) b2 rfl (fun x p q => by rw [b3.2 124 (by omega)]; exact a5 x p q)
  refine ⟨hb, ?_, gb, Fb⟩
  rw [Mo_turn_e]
  repeat rw [ck_t (by omega)]
  rw [Mo_isPile_t g.2.1 h1 h2, bd_v, if_neg (by omega)]
  simp only [mr52 g.1, ml120 g.1, yp]
  repeat rw [ck_t (by omega)]
  rw [Mo_isIn_t h3 h4, bd_v, if_pos (by omega)]
  repeat rw [ck_t (by omega)]
  rw [a1, bd_v]
  repeat rw [ck_t (by omega)]
  rw [b1, bd_v]
  repeat rw [ck_t (by omega)]
  rw [Mo_gapsOf_s gb.1 gb.2.1 b2 vt h1 h2, bd_v]
theorem Mo_turn_f (g0 : MN h T W I U Q) (v : WV T W) {p d : Int} (k : ¬ (0 ≤ p ∧ p < T 0 1 ∧ 1 ≤ d ∧ d ≤ W 0 p)) : Mo_turn h 94 p d = some (wr_ h 94 2 0, -1) := by
  have v0 := v.1
  have g := MN_q g0 v (Mq_2 h 0)
  rw [Mo_turn_e]
  repeat rw [ck_t (by omega)]
  by_cases c : 0 ≤ p ∧ p < T 0 1
  · have yp : rd_ (wr_ h 94 2 0) 120 p = W 0 p := by have := g.2.2.2.1.2.1 p c.1 c.2; simpa using this
    rw [Mo_isPile_t g.2.1 c.1 c.2, bd_v, if_neg (by omega)]
    simp only [mr52 g.1, ml120 g.1, yp]
    repeat rw [ck_t (by omega)]
    rw [Mo_isIn_f (fun q => k ⟨c.1, c.2, q.1, q.2⟩), bd_v, if_neg (by omega)]
  · rw [Mo_isPile_f g.2.1 c, bd_v, if_pos rfl]
theorem Mo_move_pre (g : MN h T W I U Q) (v : WV T W) {p q : Int} (k : ok_mv T p q) (e2 : rd_ h 94 2 = 0) : Mo_move h 94 p q = (if W 0 p = 0 then some (h, -2) else if W 0 q = 5 then some (h, -2) else if hz_ T W q (Zs T W p 0) then Mo_move_8 h 94 p q (W 0 q) else some (h, -2)) := by
  obtain ⟨k1, k2, k3, k4, k5⟩ := k
  have v0 := v.1
  have yp : rd_ h 120 p = W 0 p := by have := g.2.2.2.1.2.1 p k1 k2; simpa using this
  have yq : rd_ h 120 q = W 0 q := by have := g.2.2.2.1.2.1 q k3 k4; simpa using this
  rw [Mo_move_e, wr_same e2]
  repeat rw [ck_t (by omega)]
  rw [Mo_isPile_t g.2.1 k1 k2, bd_v, if_neg (by omega)]
  repeat rw [ck_t (by omega)]
  rw [Mo_isPile_t g.2.1 k3 k4, bd_v, if_neg (by omega), if_pos k5]
  simp only [mr52 g.1, ml120 g.1, yp, yq]
  repeat rw [ck_t (by omega)]
  by_cases c1 : W 0 p = 0
  · rw [if_pos c1, if_pos c1]
  · rw [if_neg c1, if_neg c1]
    repeat rw [ck_t (by omega)]
    by_cases c2 : W 0 q = 5
    · rw [if_neg (by omega), if_pos c2]
    · rw [if_pos c2, if_neg c2, Mo_moveChk g.1 g.2.1 g.2.2.2.1 v k1 k2 k3 k4]
theorem Mo_mv2 (h : am_H) (p q : Int) : Mo_move h 94 p q = Mo_move (wr_ h 94 2 0) 94 p q := by
  rw [Mo_move_e, Mo_move_e (wr_ h 94 2 0), wr_same (h := wr_ h 94 2 0) (rd_ws _ _ _ _)]
theorem Mo_move_t (g0 : MN h T W I U Q) (sv : SV T W I U Q) {p q : Int} (k : ok_mv T p q) (m : do_mv T W p q) : ∃ h', Mo_move h 94 p q = some (h', W 0 q + 1) ∧ MN h' T (Mv W p q) I (rU U (Q 4 2) W) (up_ Q 4 2 (rN (Q 4 2))) ∧ Fm_ h h' := by
  obtain ⟨k1, k2, k3, k4, k5⟩ := id k
  obtain ⟨m1, m2, m3⟩ := m
  have v := sv.2.1
  have v0 := v.1
  have g := MN_q g0 v (Mq_2 h 0)
  have bp := v.2.1 p k1 k2
  have bq := v.2.1 q k3 k4
  have yq : rd_ (wr_ h 94 2 0) 120 q = W 0 q := by have := g.2.2.2.1.2.1 q k3 k4; simpa using this
  obtain ⟨ha, a1, a2, a3, a4, a5, a6, a7, a8⟩ := M_rem g0 v
  have l5 : rd_ ha 121 (5 * p) = W 3 (5 * p) := by have := a4.2.2.2.2.1 p 0 k1 k2 (by omega) (by omega); simpa using this
  obtain ⟨hb, b1, b2, b3, b4⟩ := Mo_moved_s a2 a4 v k1 k2 k3 k4 k5 (by omega) (by omega)
  obtain ⟨gb, Fb⟩ := M_act g0 a8 a6 a7 (fr_mo b3 (fun a q => by omega)) b2 rfl (fun x p q => by rw [b3.2 124 (by omega)]; exact a5 x p q)
  refine ⟨hb, ?_, gb, Fb⟩
  rw [Mo_mv2, Mo_move_pre g v k (rd_ws _ _ _ _), if_neg m1, if_neg m2, if_pos m3, Mo_move_8_e]
  simp only [mr52 g.1, ml120 g.1, yq]
  repeat rw [ck_t (by omega)]
  rw [if_pos (by omega)]
  repeat rw [ck_t (by omega)]
  rw [a1, bd_v]
  simp only [mr53 a2, ml121 a2]
  rw [w32_i (by omega) (by omega), l5]
  repeat rw [ck_t (by omega)]
  rw [b1]
theorem Mo_move_n (g0 : MN h T W I U Q) (v : WV T W) {p q : Int} (k : ok_mv T p q) (m : ¬ do_mv T W p q) : Mo_move h 94 p q = some (wr_ h 94 2 0, -2) := by
  have g := MN_q g0 v (Mq_2 h 0)
  rw [Mo_mv2, Mo_move_pre g v k (rd_ws _ _ _ _)]
  by_cases c1 : W 0 p = 0
  · rw [if_pos c1]
  · rw [if_neg c1]
    by_cases c2 : W 0 q = 5
    · rw [if_pos c2]
    · rw [if_neg c2, if_neg (fun q => m ⟨c1, c2, q⟩)]
theorem Mo_move_f (g0 : MN h T W I U Q) (v : WV T W) {p q : Int} (k : ¬ ok_mv T p q) : Mo_move h 94 p q = some (wr_ h 94 2 0, -1) := by
  have g := MN_q g0 v (Mq_2 h 0)
  rw [Mo_move_e]
  repeat rw [ck_t (by omega)]
  by_cases c : 0 ≤ p ∧ p < T 0 1
  · rw [Mo_isPile_t g.2.1 c.1 c.2, bd_v, if_neg (by omega)]
    repeat rw [ck_t (by omega)]
    by_cases c2 : 0 ≤ q ∧ q < T 0 1
    · rw [Mo_isPile_t g.2.1 c2.1 c2.2, bd_v, if_neg (by omega), if_neg (fun e => k ⟨c.1, c.2, c2.1, c2.2, e⟩)]
    · rw [Mo_isPile_f g.2.1 c2, bd_v, if_pos rfl]
  · rw [Mo_isPile_f g.2.1 c, bd_v, if_pos rfl]
theorem Mo_crack_t (g0 : MN h T W I U Q) (sv : SV T W I U Q) {p k : Int} (c : ok_ck T W p k) : ∃ h', Mo_crack h 94 p k = some (h', 1) ∧ MN h' T (up_ W 5 (W 3 (5 * p + k)) 1) I (rU U (Q 4 2) W) (up_ Q 4 2 (rN (Q 4 2))) ∧ Fm_ h h' := by
  obtain ⟨c1, c2, c3, c4, c5⟩ := c
  have v := sv.2.1
  have v0 := v.1
  have g := MN_q g0 v (Mq_2 h 0)
  obtain ⟨q1, q2, q3⟩ := Pa_in v c1 c2 c3 c4
  have y7 : rd_ (wr_ h 94 2 0) 124 (W 3 (5 * p + k)) = W 5 (W 3 (5 * p + k)) := by have := g.2.2.2.1.2.2.2.2.2.2.1 _ q2 q3; simpa using this
  obtain ⟨ha, a1, a2, a3, a4, a5, a6, a7, a8⟩ := M_rem g0 v
  have oc := (MW_ch a4 v q2 q3 1).1
  rw [show 20 * (0 : Int) + W 3 (5 * p + k) = W 3 (5 * p + k) by omega] at oc
  obtain ⟨gb, Fb⟩ := M_act g0 a8 a6 a7 (fr_wr (by omega)) oc rfl (fun x p q => by
    rw [rd_wa]
    split
    · exact Or.inr rfl
    · exact a5 x p q)
  refine ⟨_, ?_, gb, Fb⟩
  rw [Mo_crack_e]
  repeat rw [ck_t (by omega)]
  rw [Mo_isPile_t g.2.1 c1 c2, bd_v, if_pos (by omega)]
  repeat rw [ck_t (by omega)]
  rw [Mo_plateAt_s g.1 g.2.2.2.1 v c1 c2, bd_v, q1, if_neg (by omega)]
  simp only [mr56 g.1, ml124 g.1, y7]
  repeat rw [ck_t (by omega)]
  rw [if_pos c5]
  repeat rw [ck_t (by omega)]
  rw [a1, bd_v]
  simp only [mr56 a2, ml124 a2]
  repeat rw [ck_t (by omega)]
theorem Mo_crack_f (g0 : MN h T W I U Q) (v : WV T W) {p k : Int} (c : ¬ ok_ck T W p k) : Mo_crack h 94 p k = some (wr_ h 94 2 0, 0) := by
  have v0 := v.1
  have g := MN_q g0 v (Mq_2 h 0)
  rw [Mo_crack_e]
  repeat rw [ck_t (by omega)]
  by_cases d : 0 ≤ p ∧ p < T 0 1
  · rw [Mo_isPile_t g.2.1 d.1 d.2, bd_v, if_pos (by omega)]
    repeat rw [ck_t (by omega)]
    rw [Mo_plateAt_s g.1 g.2.2.2.1 v d.1 d.2, bd_v]
    by_cases e : 0 ≤ k ∧ k < W 0 p
    · obtain ⟨q1, q2, q3⟩ := Pa_in v d.1 d.2 e.1 e.2
      have y7 : rd_ (wr_ h 94 2 0) 124 (W 3 (5 * p + k)) = W 5 (W 3 (5 * p + k)) := by have := g.2.2.2.1.2.2.2.2.2.2.1 _ q2 q3; simpa using this
      rw [q1, if_neg (by omega)]
      simp only [mr56 g.1, ml124 g.1, y7]
      repeat rw [ck_t (by omega)]
      rw [if_neg (fun z => c ⟨d.1, d.2, e.1, e.2, z⟩)]
    · have : Pa T W p k = -1 := by unfold Pa; rw [if_neg (fun z => e ⟨z.2.2.1, z.2.2.2⟩)]
      rw [this, if_pos (by omega)]
  · rw [Mo_isPile_f g.2.1 d, bd_v, if_neg (by omega)]
theorem Mo_undo_t (g0 : MN h T W I U Q) (sv : SV T W I U Q) (n : Q 4 2 ≠ 0) : ∃ h', Mo_undo h 94 = some (h', Q 4 2 - 1) ∧ MN h' T (mw_ (U (Q 4 2 - 1)) W) I U (up_ Q 4 2 (Q 4 2 - 1)) ∧ Fm_ h h' := by
  obtain ⟨h', a1, -, a3, a4, a5, a6⟩ := Mo_undo_s g0.1 g0.2.2.2.1 sv.2.1 g0.2.2.2.2.2.1 g0.2.2.2.2.2.2.1
  obtain ⟨b1, b2⟩ := a3 n
  have Z : fz_ h h' nA nF := fz_mo a5 (fun a q => by unfold nA; omega) (fun k q => by unfold nF; omega)
  refine ⟨h', by rw [a1, if_neg n], MN_gen g0 Z b1 ?_ a4 b2, Fm_fz Z (fun a q => by unfold nA at q; omega)⟩
  rw [a5.2.2 60 (by omega)]; exact g0.2.2.2.2.1
theorem Mo_undo_f (g0 : MN h T W I U Q) (sv : SV T W I U Q) (n : Q 4 2 = 0) : Mo_undo h 94 = some (wr_ h 94 2 0, -1) := by
  obtain ⟨h', a1, a2, -⟩ := Mo_undo_s g0.1 g0.2.2.2.1 sv.2.1 g0.2.2.2.2.2.1 g0.2.2.2.2.2.2.1
  rw [a1, a2 n, if_pos n]
theorem Mo_keep_t (g0 : MN h T W I U Q) (sv : SV T W I U Q) : ∃ h', Mo_keep h 94 = some (h', W 6 0) ∧ MN h' T W W U (up_ Q 4 3 1) ∧ Fm_ h h' := by
  obtain ⟨s, t, l, m, n, b, u, im, q, tp, fa, wd⟩ := id g0
  obtain ⟨h', a1, a2, z⟩ := Mo_keep_s s m sv.2.1 b im n
  have R : ∀ a, ¬ (140 ≤ a ∧ a ≤ 142) → a ≠ 94 → ∀ k, rd_ h' a k = rd_ h a k := z.2.1
  have e4 : ∀ j, j ≠ 3 → up_ Q 4 3 1 4 j = Q 4 j := fun j q => by rw [up_s, if_neg q]
  refine ⟨h', a1, ⟨fz_ShM z s, MT_fz t z (by intro a p q; omega) (by intro k p q; omega), ML_fm l z (by intro a p q; omega), MW_fz m z (by intro a p q; omega), by rw [z.2.2 60 (by omega)]; exact n, fun x p q => by rw [R 124 (by omega) (by omega)]; exact b x p q, by rw [e4 2 (by omega)]; exact MU_fz u z (by omega) (by omega) (by omega), by rw [up_s, if_pos rfl]; exact a2, ?_, ⟨by rw [e4 4 (by omega), z.2.2 1 (by omega)]; exact tp.1, fun k p q => by rw [R 95 (by omega) (by omega)]; exact tp.2 k p (by rw [e4 4 (by omega)] at q; exact q)⟩, ⟨by rw [e4 5 (by omega), z.2.2 4 (by omega)]; exact fa.1, by rw [e4 6 (by omega), z.2.2 5 (by omega)]; exact fa.2⟩, fun i p q => by rw [R 96 (by omega) (by omega)]; exact wd i p q⟩, Fm_fz z (fun a q => by omega)⟩
  obtain ⟨x, y, w⟩ := QM_fz q z (by omega) (by omega) (by omega)
  exact ⟨by rw [e4 0 (by omega)]; exact x, by rw [e4 1 (by omega)]; exact y, fun i p q => w i p (by rw [e4 0 (by omega)] at q; exact q)⟩
theorem Mo_back_t (g0 : MN h T W I U Q) (sv : SV T W I U Q) (n : Q 4 3 = 1) : ∃ h', Mo_back h 94 = some (h', I 6 0) ∧ MN h' T I I U (up_ Q 4 2 0) ∧ Fm_ h h' := by
  obtain ⟨h', a1, -, a3, a4, a5, a6⟩ := Mo_back_s g0.1 g0.2.2.2.1 sv.2.1 g0.2.2.2.2.2.1 g0.2.2.2.2.2.2.2.1
  obtain ⟨b1, b2, b3⟩ := a3 (by omega)
  have Z : fz_ h h' nA nF := fz_mo a5 (fun a q => by unfold nA; omega) (fun k q => by unfold nF; omega)
  obtain ⟨u1, u2, u3, u4, u5⟩ := g0.2.2.2.2.2.2.1
  refine ⟨h', by rw [a1, if_neg (by omega)], MN_gen g0 Z b1 b2 a4 ⟨b3, by omega, by omega, fun i p q => by omega, fun x p q => by rw [a5.2.1 139 (by omega) (by omega)]; exact u5 x p q⟩, Fm_fz Z (fun a q => by unfold nA at q; omega)⟩
theorem Mo_back_f (g0 : MN h T W I U Q) (sv : SV T W I U Q) (n : Q 4 3 = 0) : Mo_back h 94 = some (wr_ h 94 2 0, -1) := by
  obtain ⟨h', a1, a2, -⟩ := Mo_back_s g0.1 g0.2.2.2.1 sv.2.1 g0.2.2.2.2.2.1 g0.2.2.2.2.2.2.2.1
  rw [a1, a2 n, if_pos n]
end
