/-! the line of a plate in the reference: behind the loop -/
section
variable {B : Int → Int} {n c s : Int} {h : am_H} {T : Tx}
theorem Mo_pl7_e {P z q1 p : Int} (g : MP h T c s) (r : MR h B n p) (w : WVt T) (P0 : 0 ≤ P) (P1 : P < T 0 1) (hp : T 4 P < 5) : ∃ h' v, Mo_plateLine_7 h 94 q1 P z (T 4 P) = some (h', v) ∧ mpE_ h' B n v (pe_L B n p T c s P z) ∧ fk_ h h' := by
  have wv := w.1
  have w4 := w.2.1 P P0 P1
  have l20 := WVt_20 w P0 P1 hp
  have e2 := (g.2.2.2.2.1 P P0 P1).2
  rw [Mo_plateLine_7_e]
  simp only [mr27 g.1, ml102 g.1]
  rw [w32_i (x := 4 + P) (by omega) (by omega), e2, ck_t (by omega), ck_t (by omega), ck_t (by omega), if_pos (c := T 4 P ≤ T 4 P) (Int.le_refl _), ck_t (by omega)]
  obtain ⟨h1, v1, d1, f1, d2⟩ := Mo_number_s (lo := 0) (hi := 1) r (by omega) (by omega)
  rw [d1, bd_v]
  have m1 := MP_L g f1
  unfold pe_L
  rcases d2 with ⟨n2, ew, r1, g1⟩ | ⟨n2, ew, w1⟩
  · rw [ew, if_pos (c := (1 : Int) ≠ 0) (by omega), if_neg (c := nm_f B n p 0 1 ≠ 0) (fun y => y n2)]
    have e19 := m1.2.1.2.2.1
    have e2b := (m1.2.2.2.2.1 P P0 P1).2
    have mp := MP_plate (z := z) (f := tk_v B n p) m1 w P0 P1 hp
    simp only [mr29 m1.1, ml104 m1.1, mr30 m1.1, ml105 m1.1, mr27 m1.1, ml102 m1.1, mr28 m1.1, ml103 m1.1, rd_wo (show (94 : Int) ≠ 104 by omega), rd_wo (show (94 : Int) ≠ 105 by omega), rd_wo (show (94 : Int) ≠ 103 by omega), rd_wo (show (94 : Int) ≠ 102 by omega), rd_wo (show (102 : Int) ≠ 104 by omega), rd_wo (show (102 : Int) ≠ 105 by omega), rd_wo (show (102 : Int) ≠ 103 by omega), e19, g1]
    rw [e2b, w32_i (x := 20 + T 0 2) (by omega) (by omega), w32_i (x := 5 * P) (by omega) (by omega), w32_i (x := 20 + 5 * P) (by omega) (by omega), w32_i (x := 20 + 5 * P + T 4 P) (by omega) (by omega), w32_i (x := T 4 P + 1) (by omega) (by omega), w32_i (x := T 0 2 + 1) (by omega) (by omega), show 20 + 5 * P + T 4 P = 20 + (5 * P + T 4 P) by omega]
    repeat rw [ck_t (by omega)]
    refine ⟨_, 1, rfl, Or.inr ⟨tk_n B n p, _, c, s, rfl, rfl, mp, ?_⟩, fk_t (fzY_k f1) (fk_t (fk_w (by unfold pk_; omega)) (fk_t (fk_w (by unfold pk_; omega)) (fk_t (fk_w (by unfold pk_; omega)) (fk_t (fk_w (by unfold pk_; omega)) (fk_w (by unfold pk_; omega))))))⟩
    have r5 := MR_o (a := 102) (k := 4 + P) (v := T 4 P + 1) (MR_o (a := 103) (k := 20 + (5 * P + T 4 P)) (v := T 0 2) (MR_o (a := 105) (k := 20 + T 0 2) (v := tk_v B n p) (MR_o (a := 104) (k := 20 + T 0 2) (v := z) r1 (by omega)) (by omega)) (by omega)) (by omega)
    exact ⟨MT_w r5.1 (by omega), by rw [rd_wk (by omega)]; exact r5.2.1, by rw [rd_wk (by omega), rd_wk (by omega)]; exact r5.2.2⟩
  · rw [ew, if_neg (c := (0 : Int) ≠ 0) (by omega), if_pos (c := nm_f B n p 0 1 ≠ 0) n2]
    exact ⟨h1, 0, rfl, Or.inl ⟨n2, rfl, w1⟩, fzY_k f1⟩
end
