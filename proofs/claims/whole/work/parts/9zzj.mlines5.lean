/-! lines of chipping and of the number in the reference, all of them -/
theorem wr_sm2 {h : am_H} {a k v : Int} (e : rd_ h a k = v) : wr_ h a k v = h := by
  refine Prod.ext (funext fun b => funext fun j => ?_) rfl
  show rd_ (wr_ h a k v) b j = rd_ h b j
  rw [rd_wr]
  by_cases q : b = a ∧ j = k
  · rw [if_pos q, q.1, q.2, e]
  · rw [if_neg q]
section
variable {B : Int → Int} {n p c s : Int} {h : am_H} {T : Tx}
theorem Mo_chipL {p0 : Int} (m : MP h T c s) (r : MR h B n p0) : ∃ h' v, Mo_onceLine h 94 0 100 = some (h', v) ∧ mpE_ h' B n v (chL_ B n (tp_ B n p0) (tk_n B n p0) T c s) ∧ fk_ h h' := by
  have ef := m.2.2.1.1
  rw [Mo_onceLine_e, mr22 m.1, ml97 m.1, ef]
  repeat rw [ck_t (by omega)]
  unfold chL_
  by_cases q : c = 0
  · rw [if_pos (c := c = 0) q, if_pos (c := c = 0) q]
    have m0 : MP (wr_ h 97 0 1) T 1 s := by
      have y := MP_chip (v := T 0 5) m
      rw [wr_sm2 (h := wr_ h 97 0 1) (by rw [rd_wo (by omega)]; exact m.2.2.1.2.2.1), up_same] at y
      exact y
    obtain ⟨h1, a1, a2, a3⟩ := Mo_token_s (MTk_o (a := 97) (k := 0) (v := 1) r.1 (by omega))
    generalize tk_n B n p0 = p at *
    have m1 := MP_L m0 (fzY_K a3)
    repeat rw [ck_t (by omega)]
    rw [a1, bd_v, ck_t (by omega)]
    have F1 : fk_ h h1 := fk_t (fk_w (by unfold pk_; omega)) (fzY_k (fzY_K a3))
    obtain ⟨h3, v3, d1, d2, d3⟩ := Mo_number_s (lo := 0) (hi := 100) a2 (by omega) (by omega)
    rw [d1, bd_v]
    have m3 := MP_L m1 d2
    have F3 : fk_ h h3 := fk_t F1 (fzY_k d2)
    rcases d3 with ⟨n2, ew, r3, e11⟩ | ⟨n2, ew, w3⟩
    · rw [ew, if_pos (c := (1 : Int) ≠ 0) (by omega), if_neg (c := nm_f B n p 0 100 ≠ 0) (fun z => z n2), mr23 m3.1, ml98 m3.1, e11, w32_i (x := 2 + 0) (by omega) (by omega), show (2 : Int) + 0 = 2 by omega]
      repeat rw [ck_t (by omega)]
      have m4 := MP_chip (v := tk_v B n p) m3
      rw [wr_sm2 (h := h3) (a := 97) (k := 0) m3.2.2.1.1] at m4
      exact ⟨_, 1, rfl, Or.inr ⟨tk_n B n p, _, _, _, rfl, rfl, m4, MR_o r3 (by omega)⟩, fk_t F3 (fk_w (by unfold pk_; omega))⟩
    · rw [ew, if_neg (c := (0 : Int) ≠ 0) (by omega), if_pos (c := nm_f B n p 0 100 ≠ 0) n2]
      exact ⟨h3, 0, rfl, Or.inl ⟨n2, rfl, w3⟩, F3⟩
  · obtain ⟨h', b1, b2, b3⟩ := Mo_wrongB 3 r.2.1
    rw [if_neg (c := c = 0) q, if_neg (c := c = 0) q, b1]
    exact ⟨h', 0, rfl, Or.inl ⟨by show (3 : Int) ≠ 0; omega, rfl, b2⟩, fzY_k b3⟩
theorem Mo_seedL {p0 : Int} (m : MP h T c s) (r : MR h B n p0) : ∃ h' v, Mo_onceLine h 94 1 99999 = some (h', v) ∧ mpE_ h' B n v (seL_ B n (tp_ B n p0) (tk_n B n p0) T c s) ∧ fk_ h h' := by
  have ef := m.2.2.1.2.1
  rw [Mo_onceLine_e, mr22 m.1, ml97 m.1, ef]
  repeat rw [ck_t (by omega)]
  unfold seL_
  by_cases q : s = 0
  · rw [if_pos (c := s = 0) q, if_pos (c := s = 0) q]
    have m0 : MP (wr_ h 97 1 1) T c 1 := by
      have y := MP_seed (v := T 0 6) m
      rw [wr_sm2 (h := wr_ h 97 1 1) (by rw [rd_wo (by omega)]; exact m.2.2.1.2.2.2), up_same] at y
      exact y
    obtain ⟨h1, a1, a2, a3⟩ := Mo_token_s (MTk_o (a := 97) (k := 1) (v := 1) r.1 (by omega))
    generalize tk_n B n p0 = p at *
    have m1 := MP_L m0 (fzY_K a3)
    repeat rw [ck_t (by omega)]
    rw [a1, bd_v, ck_t (by omega)]
    have F1 : fk_ h h1 := fk_t (fk_w (by unfold pk_; omega)) (fzY_k (fzY_K a3))
    obtain ⟨h3, v3, d1, d2, d3⟩ := Mo_number_s (lo := 0) (hi := 99999) a2 (by omega) (by omega)
    rw [d1, bd_v]
    have m3 := MP_L m1 d2
    have F3 : fk_ h h3 := fk_t F1 (fzY_k d2)
    rcases d3 with ⟨n2, ew, r3, e11⟩ | ⟨n2, ew, w3⟩
    · rw [ew, if_pos (c := (1 : Int) ≠ 0) (by omega), if_neg (c := nm_f B n p 0 99999 ≠ 0) (fun z => z n2), mr23 m3.1, ml98 m3.1, e11, w32_i (x := 2 + 1) (by omega) (by omega), show (2 : Int) + 1 = 3 by omega]
      repeat rw [ck_t (by omega)]
      have m4 := MP_seed (v := tk_v B n p) m3
      rw [wr_sm2 (h := h3) (a := 97) (k := 1) m3.2.2.1.2.1] at m4
      exact ⟨_, 1, rfl, Or.inr ⟨tk_n B n p, _, _, _, rfl, rfl, m4, MR_o r3 (by omega)⟩, fk_t F3 (fk_w (by unfold pk_; omega))⟩
    · rw [ew, if_neg (c := (0 : Int) ≠ 0) (by omega), if_pos (c := nm_f B n p 0 99999 ≠ 0) n2]
      exact ⟨h3, 0, rfl, Or.inl ⟨n2, rfl, w3⟩, F3⟩
  · obtain ⟨h', b1, b2, b3⟩ := Mo_wrongB 3 r.2.1
    rw [if_neg (c := s = 0) q, if_neg (c := s = 0) q, b1]
    exact ⟨h', 0, rfl, Or.inl ⟨by show (3 : Int) ≠ 0; omega, rfl, b2⟩, fzY_k b3⟩
end
