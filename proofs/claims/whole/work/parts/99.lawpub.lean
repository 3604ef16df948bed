/-! law, on both sides -/
section
variable {h : am_H} {T W I : Tx} {U : Int → Tx} {Q : Tx}
def ok_lw (T : Tx) (k m p d : Int) : Prop := (0 ≤ k ∧ k ≤ 2) ∧ (0 ≤ m ∧ m < T 0 0) ∧ (0 ≤ p ∧ p < T 0 1) ∧ 1 ≤ d ∧ d ≤ 5
def lw_ (T W : Tx) (k m p d : Int) : Int := if T 14 k ≤ T 13 k then -9223372036854775808 else (lv_ T (nv_ T W m p d k) k).getD (-9223372036854775808)
theorem Pp_law_t (g : CI h T W I U Q) (sv : SV T W I U Q) {k m p d : Int} (c : ok_lw T k m p d) : ∃ h', Pp_law h 0 k m p d = some (h', lw_ T W k m p d) ∧ CI h' T W I U Q ∧ Fs_ h h' := by
  obtain ⟨⟨c1, c2⟩, ⟨c3, c4⟩, ⟨c5, c6⟩, c7, c8⟩ := c
  have w := g.2.2.1
  obtain ⟨t, cb, ct⟩ := CI_B g
  have ht := ct.1
  obtain ⟨ha, a1, a2, a3, a4⟩ := La_lookAt_s (h := h) (l := 74) (t := t) (w := 47) (m := m) (p := p) (d := d) (by omega) (cr74_0 g.1) (cl75 g.1)
  have F1 : Fs_ h ha := by
    refine ⟨⟨a3, fun a x k => (a4 a (fun e => x (by rw [e]; unfold Sc; omega)) k).1, fun a x k => (a4 a (fun e => x (by rw [e]; unfold ScR; omega)) k).2⟩, ?_⟩
    intro q
    obtain ⟨q1, q2, q3, q4, q5, q6, q7⟩ := q
    exact ⟨by rw [(a4 2 (by omega) 0).2]; exact q1, by rw [(a4 2 (by omega) 1).2]; exact q2, by rw [(a4 3 (by omega) 0).2]; exact q3, by rw [(a4 5 (by omega) 0).2]; exact q4, a2.2.1, by rw [(a4 76 (by omega) 0).2]; exact q6, by rw [(a4 77 (by omega) 0).2]; exact q7⟩
  have ga := CI_F g F1
  have cta := CT_F ct F1
  obtain ⟨hb, b1, b2, b3⟩ := La_value_s a2 ga.2.2.1 cta.2.2.2.1 sv.2.1 sv.1 c5 c6 c3 c4 (by omega) (by omega) c1 (by omega) (by omega) (by omega) (-9223372036854775808)
  have F := Fs_tr F1 (Fs_fr b2 (fun a q => by unfold Sc; omega))
  refine ⟨hb, ?_, CI_F g F, F⟩
  rw [Pp_law_e, if_neg (by omega), if_neg (by omega)]
  simp only [cr0_7 g.1]
  repeat rw [ck_t (by omega)]
  rw [Wo_hasMaid_t w c3 c4, bd_v, if_neg (by omega)]
  simp only [cr0_7 g.1]
  repeat rw [ck_t (by omega)]
  rw [Wo_hasPile_t w c5 c6, bd_v, if_neg (by omega), if_neg (by omega), if_pos c8]
  simp only [cr0_7 g.1, cr0_11 g.1, ct.2.1]
  repeat rw [ck_t (by omega)]
  rw [a1, bd_v]
  simp only [cr0_11 ga.1]
  repeat rw [ck_t (by omega)]
  rw [b1, bd_v]
  rfl
theorem Pp_law_f (g : CI h T W I U Q) {k m p d : Int} (c : ¬ ok_lw T k m p d) : Pp_law h 0 k m p d = some (h, -9223372036854775808) := by
  have w := g.2.2.1
  rw [Pp_law_e]
  by_cases c1 : k < 0
  · rw [if_pos c1]
  · rw [if_neg c1]
    by_cases c2 : 3 ≤ k
    · rw [if_pos c2]
    · rw [if_neg c2]
      simp only [cr0_7 g.1]
      repeat rw [ck_t (by omega)]
      by_cases c3 : 0 ≤ m ∧ m < T 0 0
      · rw [Wo_hasMaid_t w c3.1 c3.2, bd_v, if_neg (by omega)]
        simp only [cr0_7 g.1]
        repeat rw [ck_t (by omega)]
        by_cases c4 : 0 ≤ p ∧ p < T 0 1
        · rw [Wo_hasPile_t w c4.1 c4.2, bd_v, if_neg (by omega)]
          by_cases c5 : d < 1
          · rw [if_pos c5]
          · rw [if_neg c5, if_neg (fun q => c ⟨⟨by omega, by omega⟩, c3, c4, by omega, q⟩)]
        · rw [Wo_hasPile_f w c4, bd_v, if_pos rfl]
      · rw [Wo_hasMaid_f w c3, bd_v, if_pos rfl]
/-- the names as the law k sees them -/
theorem NM_1 {ha : am_H} {m p d : Int} (n : NM ha (nv_ T W m p d 0)) : NM (wr_ ha 118 0 (Zs T W p 0)) (nv_ T W m p d 1) := by
  intro x p q
  rw [rd_wa]
  by_cases e : x = 0
  · rw [if_pos e, e]
    unfold nv_
    rw [if_pos rfl, if_pos rfl]
  · rw [if_neg e, n x p q]
    unfold nv_
    rw [if_neg e, if_neg e]
theorem Mo_law_t (g0 : MN h T W I U Q) (sv : SV T W I U Q) {k m p d : Int} (c : ok_lw T k m p d) : ∃ h', Mo_law h 94 k m p d = some (h', lw_ T W k m p d) ∧ MN h' T W I U Q ∧ Mq h h' := by
  obtain ⟨⟨c1, c2⟩, ⟨c3, c4⟩, ⟨c5, c6⟩, c7, c8⟩ := c
  have v := sv.2.1
  have X0 := Mq_2 h 0
  have g := MN_q g0 v X0
  have y := g.2.2.1.1 k c1 (by omega)
  unfold lw_
  rw [Mo_law_e]
  rw [ck_t (by omega), Mo_isIn_t c1 c2, bd_v, if_neg (by omega)]
  simp only [mr35 g.1, ml110 g.1, y]
  repeat rw [ck_t (by omega)]
  by_cases e : T 14 k ≤ T 13 k
  · rw [if_pos e, if_neg (c := T 13 k < T 14 k) (by omega), if_pos rfl]
    exact ⟨_, rfl, g, X0⟩
  · rw [if_neg e, if_pos (c := T 13 k < T 14 k) (by omega), if_neg (by omega)]
    rw [Mo_isMaid_t g.2.1 c3 c4, bd_v, if_neg (by omega)]
    repeat rw [ck_t (by omega)]
    rw [Mo_isPile_t g.2.1 c5 c6, bd_v, if_neg (by omega), Mo_isIn_t c7 c8, bd_v, if_pos (by omega)]
    repeat rw [ck_t (by omega)]
    obtain ⟨ha, a1, a2, a3⟩ := Mo_lay_s g.1 g.2.1 g.2.2.2.1 v c5 c6 c3 c4 (d := d) (by omega) (by omega)
    have Xa : Mq h ha := Mq_tr X0 (Mq_fz a3 (fun x q => by unfold mQA; omega) (fun k q => q.elim))
    have ga := MN_q g0 v Xa
    rw [a1, bd_v]
    have fin : ∀ hb, NM hb (nv_ T W m p d k) → Mq h hb → ∃ h', (bd_ (Mo_lawOf hb 94 k) fun h11 v12 => ck_ (0 ≤ (94 : Int)) (if rd_ h11 94 51 = 0 then some (h11, v12) else some (h11, -9223372036854775808))) = some (h', (lv_ T (nv_ T W m p d k) k).getD (-9223372036854775808)) ∧ MN h' T W I U Q ∧ Mq h h' := by
      intro hb nb Xb
      have gb := MN_q g0 v Xb
      obtain ⟨hc, d1, d2, d3⟩ := Mo_lawOf_s gb.1 gb.2.2.1 nb sv.1 (nv_b v sv.1 k c5 c6 c3 c4 (by omega) (by omega)) c1 (by omega) (by omega)
      have Xc : Mq h hc := Mq_tr Xb (Mq_fz d3 (fun x q => by unfold mQA; omega) (fun k q => by unfold mQF; omega))
      refine ⟨hc, ?_, MN_q g0 v Xc, Xc⟩
      rw [d1, bd_v, d2, ck_t (by omega)]
      cases lv_ T (nv_ T W m p d k) k with
      | none => rfl
      | some r => rfl
    by_cases e1 : k = 1
    · rw [if_neg (by omega)]
      rw [Mo_sizeAt_s ga.1 ga.2.1 ga.2.2.2.1 v c5 c6, bd_v]
      simp only [mr49 ga.1, ml118 ga.1]
      repeat rw [ck_t (by omega)]
      have z : fz_ ha (wr_ ha 118 0 (Zs T W p 0)) (fun a => a = 118) (fun _ => False) := fz_wr rfl (by omega)
      exact fin _ (by rw [e1]; exact NM_1 a2) (Mq_tr Xa (Mq_fz z (fun x q => by unfold mQA; omega) (fun k q => q.elim)))
    · rw [if_pos e1]
      exact fin ha (by rw [nv_k T W m p d e1]; exact a2) Xa
theorem Mo_law_f (g0 : MN h T W I U Q) (v : WV T W) {k m p d : Int} (c : ¬ ok_lw T k m p d) : Mo_law h 94 k m p d = some (wr_ h 94 2 0, -9223372036854775808) := by
  have g := MN_q g0 v (Mq_2 h 0)
  rw [Mo_law_e, ck_t (by omega)]
  by_cases c1 : 0 ≤ k ∧ k ≤ 2
  · have y := g.2.2.1.1 k c1.1 (by omega)
    rw [Mo_isIn_t c1.1 c1.2, bd_v, if_neg (by omega)]
    simp only [mr35 g.1, ml110 g.1, y]
    repeat rw [ck_t (by omega)]
    by_cases e : T 13 k < T 14 k
    · rw [if_pos e, if_neg (by omega)]
      by_cases c3 : 0 ≤ m ∧ m < T 0 0
      · rw [Mo_isMaid_t g.2.1 c3.1 c3.2, bd_v, if_neg (by omega)]
        repeat rw [ck_t (by omega)]
        by_cases c4 : 0 ≤ p ∧ p < T 0 1
        · rw [Mo_isPile_t g.2.1 c4.1 c4.2, bd_v, if_neg (by omega), Mo_isIn_f (fun q => c ⟨c1, c3, c4, q.1, q.2⟩), bd_v, if_neg (by omega)]
        · rw [Mo_isPile_f g.2.1 c4, bd_v, if_pos rfl]
      · rw [Mo_isMaid_f g.2.1 c3, bd_v, if_pos rfl]
    · rw [if_neg e, if_pos rfl]
  · rw [Mo_isIn_f c1, bd_v, if_pos rfl]
end
