/-! lines of piles, of chipping, of the number in the reference -/
section
variable {B : Int → Int} {n p c s : Int} {h : am_H} {T : Tx}
theorem MP_pile {v : Int} (m : MP h T c s) (P0 : 0 ≤ T 0 1) (P4 : T 0 1 < 4) (e : rd_ h 101 (4 + T 0 1) = v) : MP (wr_ h 94 18 (T 0 1 + 1)) (piT_ T v) c s := by
  obtain ⟨a0, ⟨b0, b1, b2, b3, b4, b5⟩, a2, a3, a4, a5, a6, a7, a8, a9, a10, a11⟩ := m
  have u0 : ∀ k, k ≠ 1 → piT_ T v 0 k = T 0 k := fun k q => by unfold piT_; rw [up_s, if_neg q, up_o _ _ _ (by decide), up_o _ _ _ (by decide)]
  have u01 : piT_ T v 0 1 = T 0 1 + 1 := by unfold piT_; rw [up_s, if_pos rfl]
  have u3 : ∀ j, piT_ T v 3 j = if j = T 0 1 then v else T 3 j := fun j => by unfold piT_; rw [up_o _ _ _ (by decide), up_o _ _ _ (by decide), up_s]
  have u4 : ∀ j, piT_ T v 4 j = if j = T 0 1 then 0 else T 4 j := fun j => by unfold piT_; rw [up_o _ _ _ (by decide), up_s, up_o _ _ _ (by decide)]
  have uf : ∀ f : Nat, f ≠ 0 → f ≠ 3 → f ≠ 4 → piT_ T v f = T f := fun f a b d => by unfold piT_; rw [up_o _ _ _ a, up_o _ _ _ d, up_o _ _ _ b]
  have R : ∀ b j, b ≠ 94 → rd_ (wr_ h 94 18 (T 0 1 + 1)) b j = rd_ h b j := fun b j z => rd_wo z
  unfold MP
  rw [u01, u0 0 (by omega), u0 2 (by omega), u0 3 (by omega), u0 4 (by omega), u0 5 (by omega), u0 6 (by omega), uf 1 (by decide) (by decide) (by decide), uf 2 (by decide) (by decide) (by decide), uf 5 (by decide) (by decide) (by decide), uf 6 (by decide) (by decide) (by decide), uf 7 (by decide) (by decide) (by decide), uf 8 (by decide) (by decide) (by decide), uf 9 (by decide) (by decide) (by decide), uf 10 (by decide) (by decide) (by decide), uf 11 (by decide) (by decide) (by decide), uf 12 (by decide) (by decide) (by decide), uf 13 (by decide) (by decide) (by decide), uf 14 (by decide) (by decide) (by decide)]
  refine ⟨ShM_of rfl a0, ⟨by rw [rd_wk (by omega)]; exact b0, rd_ws _ _ _ _, by rw [rd_wk (by omega)]; exact b2, by rw [rd_wk (by omega)]; exact b3, by rw [rd_wk (by omega)]; exact b4, by rw [rd_wk (by omega)]; exact b5⟩, a2, a3, ?_, ?_, ?_, a7, a8, a9, a10, fun k i x y z w => KR_c (fun b y z => R _ _ (by omega)) (a11 k i x y z w)⟩
  · intro j j0 j1
    rw [R _ _ (by omega), R _ _ (by omega), u3, u4]
    by_cases q : j = T 0 1
    · rw [if_pos q, if_pos q, q]; exact ⟨e, a5 _ (Int.le_refl _) P4⟩
    · rw [if_neg q, if_neg q]; exact a4 j j0 (by omega)
  · intro j j0 j1
    rw [R _ _ (by omega)]; exact a5 j (by omega) j1
  · intro p k p0 p1 k0 k1
    rw [u4] at k1
    by_cases q : p = T 0 1
    · rw [if_pos q] at k1; omega
    · rw [if_neg q] at k1
      rw [R _ _ (by omega)]; exact a6 p k p0 (by omega) k0 k1
theorem Mo_pileL {p0 : Int} (m : MP h T c s) (r : MR h B n p0) (w : WVr T) : ∃ h' v, Mo_pileLine h 94 = some (h', v) ∧ mpE_ h' B n v (piL_ B n (tp_ B n p0) (tk_n B n p0) T c s) ∧ fk_ h h' := by
  unfold WVr at w
  have e18 := m.2.1.2.1
  rw [Mo_pileLine_e, e18, ck_t (by omega)]
  unfold piL_
  by_cases q : T 0 1 < 4
  · rw [if_pos (c := T 0 1 ≠ 4) (by omega), if_pos (c := T 0 1 < 4) q, ck_t (by omega)]
    obtain ⟨h1, a1, a2, a3⟩ := Mo_token_s r.1
    generalize tk_n B n p0 = p at *
    have m1 := MP_L m (fzY_K a3)
    rw [a1, bd_v]
    simp only [mr26 m1.1, m1.2.1.2.1]
    repeat rw [ck_t (by omega)]
    obtain ⟨h3, v3, b1, b2⟩ := Mo_newName_s (a := 101) (N := T 0 1) (P := T 3) a2 (by omega) (ml101 m1.1) (by omega) q (fun j x y => (m1.2.2.2.2.1 j x y).1)
    rw [b1, bd_v]
    have F1 : fk_ h h1 := fzY_k (fzY_K a3)
    rcases b2 with ⟨n1, ev, r3, f3⟩ | ⟨n1, ev, w3, f3⟩
    · rw [ev, if_pos (c := (1 : Int) ≠ 0) (by omega), if_neg (c := nn_f B n p (T 3) (T 0 1) ≠ 0) (fun z => z n1)]
      have m3 := MP_L (MP_w (a := 101) (k := 4 + T 0 1) (v := tk_v B n p) m1 (Or.inr (Or.inl ⟨rfl, rfl⟩))) f3
      have F3 : fk_ h h3 := fk_t F1 (fk_t (fk_w (by unfold pk_; omega)) (fzY_k f3))
      have e99 : rd_ h3 101 (4 + T 0 1) = tk_v B n p := by rw [f3.2.1 101 (fun z => z) (by omega), rd_ws]
      rw [m3.2.1.2.1, w32_i (x := T 0 1 + 1) (by omega) (by omega)]
      repeat rw [ck_t (by omega)]
      refine ⟨_, 1, rfl, Or.inr ⟨tk_n B n p, _, c, s, rfl, rfl, MP_pile m3 (by omega) q e99, ?_⟩, fk_t F3 (fk_w (by unfold pk_; omega))⟩
      exact ⟨MT_w r3.1 (by omega), by rw [rd_wk (by omega)]; exact r3.2.1, by rw [rd_wk (by omega), rd_wk (by omega)]; exact r3.2.2⟩
    · rw [ev, if_neg (c := (0 : Int) ≠ 0) (by omega), if_pos (c := nn_f B n p (T 3) (T 0 1) ≠ 0) n1]
      exact ⟨h3, 0, rfl, Or.inl ⟨n1, rfl, w3⟩, fk_t F1 (fzY_k f3)⟩
  · obtain ⟨h', b1, b2, b3⟩ := Mo_wrongB 2 r.2.1
    rw [if_neg (c := T 0 1 ≠ 4) (by omega), if_neg (c := T 0 1 < 4) q, ck_t (by omega), b1]
    exact ⟨h', 0, rfl, Or.inl ⟨by show (2 : Int) ≠ 0; omega, rfl, b2⟩, fzY_k b3⟩
theorem MP_chip {v : Int} (m : MP h T c s) : MP (wr_ (wr_ h 97 0 1) 98 2 v) (up_ T 0 5 v) 1 s := by
  obtain ⟨a0, a1, ⟨d0, d1, d2, d3⟩, a3, a4, a5, a6, a7, a8, a9, a10, a11⟩ := m
  have u0 : ∀ k, k ≠ 5 → up_ T 0 5 v 0 k = T 0 k := fun k q => by rw [up_s, if_neg q]
  have us : up_ T 0 5 v 0 5 = v := by rw [up_s, if_pos rfl]
  have uf : ∀ f : Nat, f ≠ 0 → up_ T 0 5 v f = T f := fun f a => up_o _ _ _ a
  have R : ∀ b j, b ≠ 97 → b ≠ 98 → rd_ (wr_ (wr_ h 97 0 1) 98 2 v) b j = rd_ h b j := fun b j y z => by rw [rd_wo z, rd_wo y]
  unfold MP
  rw [us, u0 0 (by omega), u0 1 (by omega), u0 2 (by omega), u0 3 (by omega), u0 4 (by omega), u0 6 (by omega), uf 1 (by decide), uf 2 (by decide), uf 3 (by decide), uf 4 (by decide), uf 5 (by decide), uf 6 (by decide), uf 7 (by decide), uf 8 (by decide), uf 9 (by decide), uf 10 (by decide), uf 11 (by decide), uf 12 (by decide), uf 13 (by decide), uf 14 (by decide)]
  refine ⟨ShM_of rfl a0, ?_, ?_, ?_, ?_, ?_, ?_, ?_, ?_, ?_, ?_, fun k i x y z w => KR_c (fun b y z => R _ _ (by omega) (by omega)) (a11 k i x y z w)⟩
  · rw [R _ _ (by omega) (by omega), R _ _ (by omega) (by omega), R _ _ (by omega) (by omega), R _ _ (by omega) (by omega), R _ _ (by omega) (by omega), R _ _ (by omega) (by omega)]; exact a1
  · simp only [rd_wr]
    simp
    exact ⟨d1, d3⟩
  · intro j x y
    rw [R _ _ (by omega) (by omega), R _ _ (by omega) (by omega)]; exact a3 j x y
  · intro j x y
    rw [R _ _ (by omega) (by omega), R _ _ (by omega) (by omega)]; exact a4 j x y
  · intro j x y
    rw [R _ _ (by omega) (by omega)]; exact a5 j x y
  · intro p k p0 p1 k0 k1
    rw [R _ _ (by omega) (by omega)]; exact a6 p k p0 p1 k0 k1
  · intro j x y
    rw [R _ _ (by omega) (by omega), R _ _ (by omega) (by omega)]; exact a7 j x y
  · intro j x y
    rw [R _ _ (by omega) (by omega), R _ _ (by omega) (by omega), R _ _ (by omega) (by omega), R _ _ (by omega) (by omega)]; exact a8 j x y
  · intro j x y
    rw [R _ _ (by omega) (by omega)]; exact a9 j x y
  · intro j x y z
    rw [R _ _ (by omega) (by omega), R _ _ (by omega) (by omega)]; exact a10 j x y z
theorem MP_seed {v : Int} (m : MP h T c s) : MP (wr_ (wr_ h 97 1 1) 98 3 v) (up_ T 0 6 v) c 1 := by
  obtain ⟨a0, a1, ⟨d0, d1, d2, d3⟩, a3, a4, a5, a6, a7, a8, a9, a10, a11⟩ := m
  have u0 : ∀ k, k ≠ 6 → up_ T 0 6 v 0 k = T 0 k := fun k q => by rw [up_s, if_neg q]
  have us : up_ T 0 6 v 0 6 = v := by rw [up_s, if_pos rfl]
  have uf : ∀ f : Nat, f ≠ 0 → up_ T 0 6 v f = T f := fun f a => up_o _ _ _ a
  have R : ∀ b j, b ≠ 97 → b ≠ 98 → rd_ (wr_ (wr_ h 97 1 1) 98 3 v) b j = rd_ h b j := fun b j y z => by rw [rd_wo z, rd_wo y]
  unfold MP
  rw [us, u0 0 (by omega), u0 1 (by omega), u0 2 (by omega), u0 3 (by omega), u0 4 (by omega), u0 5 (by omega), uf 1 (by decide), uf 2 (by decide), uf 3 (by decide), uf 4 (by decide), uf 5 (by decide), uf 6 (by decide), uf 7 (by decide), uf 8 (by decide), uf 9 (by decide), uf 10 (by decide), uf 11 (by decide), uf 12 (by decide), uf 13 (by decide), uf 14 (by decide)]
  refine ⟨ShM_of rfl a0, ?_, ?_, ?_, ?_, ?_, ?_, ?_, ?_, ?_, ?_, fun k i x y z w => KR_c (fun b y z => R _ _ (by omega) (by omega)) (a11 k i x y z w)⟩
  · rw [R _ _ (by omega) (by omega), R _ _ (by omega) (by omega), R _ _ (by omega) (by omega), R _ _ (by omega) (by omega), R _ _ (by omega) (by omega), R _ _ (by omega) (by omega)]; exact a1
  · simp only [rd_wr]
    simp
    exact ⟨d0, d2⟩
  · intro j x y
    rw [R _ _ (by omega) (by omega), R _ _ (by omega) (by omega)]; exact a3 j x y
  · intro j x y
    rw [R _ _ (by omega) (by omega), R _ _ (by omega) (by omega)]; exact a4 j x y
  · intro j x y
    rw [R _ _ (by omega) (by omega)]; exact a5 j x y
  · intro p k p0 p1 k0 k1
    rw [R _ _ (by omega) (by omega)]; exact a6 p k p0 p1 k0 k1
  · intro j x y
    rw [R _ _ (by omega) (by omega), R _ _ (by omega) (by omega)]; exact a7 j x y
  · intro j x y
    rw [R _ _ (by omega) (by omega), R _ _ (by omega) (by omega), R _ _ (by omega) (by omega), R _ _ (by omega) (by omega)]; exact a8 j x y
  · intro j x y
    rw [R _ _ (by omega) (by omega)]; exact a9 j x y
  · intro j x y z
    rw [R _ _ (by omega) (by omega), R _ _ (by omega) (by omega)]; exact a10 j x y z
end
