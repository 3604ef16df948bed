/-! lines of maids and piles in the reference -/
section
variable {B : Int → Int} {n p c s : Int} {h : am_H} {T : Tx}
theorem MP_w {a k v : Int} (m : MP h T c s) (q : (a = 99 ∨ a = 100) ∧ k = 4 + T 0 0 ∨ a = 101 ∧ k = 4 + T 0 1 ∨ (106 ≤ a ∧ a ≤ 109) ∧ k = 14 + T 0 3) : MP (wr_ h a k v) T c s := by
  obtain ⟨a0, a1, a2, a3, a4, a5, a6, a7, a8, a9, a10, a11⟩ := m
  have R : ∀ b j, ¬ (b = a ∧ j = k) → rd_ (wr_ h a k v) b j = rd_ h b j := fun b j z => by rw [rd_wr, if_neg z]
  refine ⟨ShM_of rfl a0, ?_, ?_, ?_, ?_, ?_, ?_, ?_, ?_, ?_, ?_, ?_⟩
  · rw [R _ _ (by omega), R _ _ (by omega), R _ _ (by omega), R _ _ (by omega), R _ _ (by omega), R _ _ (by omega)]; exact a1
  · rw [R _ _ (by omega), R _ _ (by omega), R _ _ (by omega), R _ _ (by omega)]; exact a2
  · intro j x y
    rw [R _ _ (by omega), R _ _ (by omega)]; exact a3 j x y
  · intro j x y
    rw [R _ _ (by omega), R _ _ (by omega)]; exact a4 j x y
  · intro j x y
    rw [R _ _ (by omega)]; exact a5 j x y
  · intro p k p0 p1 k0 k1
    rw [R _ _ (by omega)]; exact a6 p k p0 p1 k0 k1
  · intro j x y
    rw [R _ _ (by omega), R _ _ (by omega)]; exact a7 j x y
  · intro j x y
    rw [R _ _ (by omega), R _ _ (by omega), R _ _ (by omega), R _ _ (by omega)]; exact a8 j x y
  · intro j x y
    rw [R _ _ (by omega)]; exact a9 j x y
  · intro j x y z
    rw [R _ _ (by omega), R _ _ (by omega)]; exact a10 j x y z
  · intro k i x y z w
    exact KR_c (fun b y z => R _ _ (by omega)) (a11 k i x y z w)
theorem MP_maid {v x : Int} (m : MP h T c s) (e : rd_ h 99 (4 + T 0 0) = v) (e2 : rd_ h 100 (4 + T 0 0) = x) : MP (wr_ h 94 17 (T 0 0 + 1)) (mdT_ T v x) c s := by
  obtain ⟨a0, ⟨b0, b1, b2, b3, b4, b5⟩, a2, a3, a4, a5, a6, a7, a8, a9, a10, a11⟩ := m
  have u0 : ∀ k, k ≠ 0 → mdT_ T v x 0 k = T 0 k := fun k q => by unfold mdT_; rw [up_s, if_neg q, up_o _ _ _ (by decide), up_o _ _ _ (by decide)]
  have u00 : mdT_ T v x 0 0 = T 0 0 + 1 := by unfold mdT_; rw [up_s, if_pos rfl]
  have u1 : ∀ j, mdT_ T v x 1 j = if j = T 0 0 then v else T 1 j := fun j => by unfold mdT_; rw [up_o _ _ _ (by decide), up_o _ _ _ (by decide), up_s]
  have u2 : ∀ j, mdT_ T v x 2 j = if j = T 0 0 then x else T 2 j := fun j => by unfold mdT_; rw [up_o _ _ _ (by decide), up_s, up_o _ _ _ (by decide)]
  have uf : ∀ f : Nat, f ≠ 0 → f ≠ 1 → f ≠ 2 → mdT_ T v x f = T f := fun f a b d => by unfold mdT_; rw [up_o _ _ _ a, up_o _ _ _ d, up_o _ _ _ b]
  have R : ∀ b j, b ≠ 94 → rd_ (wr_ h 94 17 (T 0 0 + 1)) b j = rd_ h b j := fun b j z => rd_wo z
  unfold MP
  rw [u00, u0 1 (by omega), u0 2 (by omega), u0 3 (by omega), u0 4 (by omega), u0 5 (by omega), u0 6 (by omega), uf 3 (by decide) (by decide) (by decide), uf 4 (by decide) (by decide) (by decide), uf 5 (by decide) (by decide) (by decide), uf 6 (by decide) (by decide) (by decide), uf 7 (by decide) (by decide) (by decide), uf 8 (by decide) (by decide) (by decide), uf 9 (by decide) (by decide) (by decide), uf 10 (by decide) (by decide) (by decide), uf 11 (by decide) (by decide) (by decide), uf 12 (by decide) (by decide) (by decide), uf 13 (by decide) (by decide) (by decide), uf 14 (by decide) (by decide) (by decide)]
  refine ⟨ShM_of rfl a0, ⟨rd_ws _ _ _ _, by rw [rd_wk (by omega)]; exact b1, by rw [rd_wk (by omega)]; exact b2, by rw [rd_wk (by omega)]; exact b3, by rw [rd_wk (by omega)]; exact b4, by rw [rd_wk (by omega)]; exact b5⟩, a2, ?_, a4, a5, a6, a7, a8, a9, a10, fun k i x y z w => KR_c (fun b y z => R _ _ (by omega)) (a11 k i x y z w)⟩
  intro j j0 j1
  rw [R _ _ (by omega), R _ _ (by omega), u1, u2]
  by_cases q : j = T 0 0
  · rw [if_pos q, if_pos q, q]; exact ⟨e, e2⟩
  · rw [if_neg q, if_neg q]; exact a3 j j0 (by omega)
theorem Mo_maidL {p0 : Int} (m : MP h T c s) (r : MR h B n p0) (w : WVr T) : ∃ h' v, Mo_maidLine h 94 = some (h', v) ∧ mpE_ h' B n v (mdL_ B n (tp_ B n p0) (tk_n B n p0) T c s) ∧ fk_ h h' := by
  unfold WVr at w
  have e17 := m.2.1.1
  rw [Mo_maidLine_e, e17, ck_t (by omega)]
  unfold mdL_
  by_cases q : T 0 0 < 4
  · rw [if_pos (c := T 0 0 ≠ 4) (by omega), if_pos (c := T 0 0 < 4) q, ck_t (by omega)]
    obtain ⟨h1, a1, a2, a3⟩ := Mo_token_s r.1
    generalize tk_n B n p0 = p at *
    have m1 := MP_L m (fzY_K a3)
    rw [a1, bd_v]
    simp only [mr24 m1.1, m1.2.1.1]
    repeat rw [ck_t (by omega)]
    obtain ⟨h3, v3, b1, b2⟩ := Mo_newName_s (a := 99) (N := T 0 0) (P := T 1) a2 (by omega) (ml99 m1.1) (by omega) q (fun j x y => (m1.2.2.2.1 j x y).1)
    rw [b1, bd_v]
    have F1 : fk_ h h1 := fzY_k (fzY_K a3)
    rcases b2 with ⟨n1, ev, r3, f3⟩ | ⟨n1, ev, w3, f3⟩
    · rw [ev, if_pos (c := (1 : Int) ≠ 0) (by omega), if_neg (c := nn_f B n p (T 1) (T 0 0) ≠ 0) (fun z => z n1), ck_t (by omega)]
      have m3 := MP_L (MP_w (a := 99) (k := 4 + T 0 0) (v := tk_v B n p) m1 (Or.inl ⟨Or.inl rfl, rfl⟩)) f3
      have F3 : fk_ h h3 := fk_t F1 (fk_t (fk_w (by unfold pk_; omega)) (fzY_k f3))
      have e99 : rd_ h3 99 (4 + T 0 0) = tk_v B n p := by rw [f3.2.1 99 (fun z => z) (by omega), rd_ws]
      obtain ⟨h5, v5, d1, d2, d3⟩ := Mo_number_s (lo := 0) (hi := 9) r3 (by omega) (by omega)
      rw [d1, bd_v]
      have m5 := MP_L m3 d2
      have F5 : fk_ h h5 := fk_t F3 (fzY_k d2)
      rcases d3 with ⟨n2, ew, r5, e11⟩ | ⟨n2, ew, w5⟩
      · rw [ew, if_pos (c := (1 : Int) ≠ 0) (by omega), if_neg (c := nm_f B n (tk_n B n p) 0 9 ≠ 0) (fun z => z n2)]
        simp only [mr25 m5.1, m5.2.1.1, e11, ml100 m5.1, rd_wo (show (94 : Int) ≠ 100 by omega)]
        rw [w32_i (x := 4 + T 0 0) (by omega) (by omega), w32_i (x := T 0 0 + 1) (by omega) (by omega)]
        repeat rw [ck_t (by omega)]
        have m6 := MP_w (a := 100) (k := 4 + T 0 0) (v := tk_v B n (tk_n B n p)) m5 (Or.inl ⟨Or.inr rfl, rfl⟩)
        have m7 := MP_maid (v := tk_v B n p) (x := tk_v B n (tk_n B n p)) m6 (by rw [rd_wo (by omega), d2.2.1 99 (fun z => z) (by omega)]; exact e99) (rd_ws _ _ _ _)
        refine ⟨_, 1, rfl, Or.inr ⟨tk_n B n (tk_n B n p), _, c, s, rfl, rfl, m7, ?_⟩, fk_t F5 (fk_t (fk_w (by unfold pk_; omega)) (fk_w (by unfold pk_; omega)))⟩
        have r6 := MR_o (a := 100) (k := 4 + T 0 0) (v := tk_v B n (tk_n B n p)) r5 (by omega)
        exact ⟨MT_w r6.1 (by omega), by rw [rd_wk (by omega)]; exact r6.2.1, by rw [rd_wk (by omega), rd_wk (by omega)]; exact r6.2.2⟩
      · rw [ew, if_neg (c := (0 : Int) ≠ 0) (by omega), if_pos (c := nm_f B n (tk_n B n p) 0 9 ≠ 0) n2]
        exact ⟨h5, 0, rfl, Or.inl ⟨n2, rfl, w5⟩, F5⟩
    · rw [ev, if_neg (c := (0 : Int) ≠ 0) (by omega), if_pos (c := nn_f B n p (T 1) (T 0 0) ≠ 0) n1]
      exact ⟨h3, 0, rfl, Or.inl ⟨n1, rfl, w3⟩, fk_t F1 (fzY_k f3)⟩
  · obtain ⟨h', b1, b2, b3⟩ := Mo_wrongB 2 r.2.1
    rw [if_neg (c := T 0 0 ≠ 4) (by omega), if_neg (c := T 0 0 < 4) q, ck_t (by omega), b1]
    exact ⟨h', 0, rfl, Or.inl ⟨by show (2 : Int) ≠ 0; omega, rfl, b2⟩, fzY_k b3⟩
end
