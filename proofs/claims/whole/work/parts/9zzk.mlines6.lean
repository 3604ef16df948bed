/-! the line of a turn in the reference -/
section
variable {B : Int → Int} {n c s : Int} {h : am_H} {T : Tx}
theorem MP_turn {m p d x : Int} (g : MP h T c s) (e6 : rd_ h 106 (14 + T 0 3) = m) (e7 : rd_ h 107 (14 + T 0 3) = p) (e8 : rd_ h 108 (14 + T 0 3) = d) (e9 : rd_ h 109 (14 + T 0 3) = x) : MP (wr_ h 94 20 (T 0 3 + 1)) (tuT_ T m p d x) c s := by
  obtain ⟨a0, ⟨b0, b1, b2, b3, b4, b5⟩, a2, a3, a4, a5, a6, a7, a8, a9, a10, a11⟩ := g
  have u0 : ∀ k, k ≠ 3 → tuT_ T m p d x 0 k = T 0 k := fun k q => by unfold tuT_; rw [up_s, if_neg q, up_o _ _ _ (by decide), up_o _ _ _ (by decide), up_o _ _ _ (by decide), up_o _ _ _ (by decide)]
  have u03 : tuT_ T m p d x 0 3 = T 0 3 + 1 := by unfold tuT_; rw [up_s, if_pos rfl]
  have u8 : ∀ j, tuT_ T m p d x 8 j = if j = T 0 3 then m else T 8 j := fun j => by unfold tuT_; rw [up_o _ _ _ (by decide), up_o _ _ _ (by decide), up_o _ _ _ (by decide), up_o _ _ _ (by decide), up_s]
  have u9 : ∀ j, tuT_ T m p d x 9 j = if j = T 0 3 then p else T 9 j := fun j => by unfold tuT_; rw [up_o _ _ _ (by decide), up_o _ _ _ (by decide), up_o _ _ _ (by decide), up_s, up_o _ _ _ (by decide)]
  have u10 : ∀ j, tuT_ T m p d x 10 j = if j = T 0 3 then d else T 10 j := fun j => by unfold tuT_; rw [up_o _ _ _ (by decide), up_o _ _ _ (by decide), up_s, up_o _ _ _ (by decide), up_o _ _ _ (by decide)]
  have u11 : ∀ j, tuT_ T m p d x 11 j = if j = T 0 3 then x else T 11 j := fun j => by unfold tuT_; rw [up_o _ _ _ (by decide), up_s, up_o _ _ _ (by decide), up_o _ _ _ (by decide), up_o _ _ _ (by decide)]
  have uf : ∀ f : Nat, f ≠ 0 → (f < 8 ∨ 11 < f) → tuT_ T m p d x f = T f := fun f a b => by unfold tuT_; rw [up_o _ _ _ a, up_o _ _ _ (by omega), up_o _ _ _ (by omega), up_o _ _ _ (by omega), up_o _ _ _ (by omega)]
  have R : ∀ b j, b ≠ 94 → rd_ (wr_ h 94 20 (T 0 3 + 1)) b j = rd_ h b j := fun b j z => rd_wo z
  unfold MP
  rw [u03, u0 0 (by omega), u0 1 (by omega), u0 2 (by omega), u0 4 (by omega), u0 5 (by omega), u0 6 (by omega), uf 1 (by decide) (by decide), uf 2 (by decide) (by decide), uf 3 (by decide) (by decide), uf 4 (by decide) (by decide), uf 5 (by decide) (by decide), uf 6 (by decide) (by decide), uf 7 (by decide) (by decide), uf 12 (by decide) (by decide), uf 13 (by decide) (by decide), uf 14 (by decide) (by decide)]
  refine ⟨ShM_of rfl a0, ⟨by rw [rd_wk (by omega)]; exact b0, by rw [rd_wk (by omega)]; exact b1, by rw [rd_wk (by omega)]; exact b2, rd_ws _ _ _ _, by rw [rd_wk (by omega)]; exact b4, by rw [rd_wk (by omega)]; exact b5⟩, a2, a3, a4, a5, a6, a7, ?_, a9, a10, fun k i x y z w => KR_c (fun b y z => R _ _ (by omega)) (a11 k i x y z w)⟩
  intro j j0 j1
  rw [R _ _ (by omega), R _ _ (by omega), R _ _ (by omega), R _ _ (by omega), u8, u9, u10, u11]
  by_cases q : j = T 0 3
  · rw [if_pos q, if_pos q, if_pos q, if_pos q, q]; exact ⟨e6, e7, e8, e9⟩
  · rw [if_neg q, if_neg q, if_neg q, if_neg q]; exact a8 j j0 (by omega)
theorem Mo_turnL {p0 : Int} (m : MP h T c s) (r : MR h B n p0) (w : WVr T) : ∃ h' v, Mo_turnLine h 94 = some (h', v) ∧ mpE_ h' B n v (tuL_ B n (tp_ B n p0) (tk_n B n p0) T c s) ∧ fk_ h h' := by
  unfold WVr at w
  have e20 := m.2.1.2.2.2.1
  rw [Mo_turnLine_e, e20, ck_t (by omega)]
  unfold tuL_
  by_cases q : T 0 3 < 14
  · rw [if_pos (c := T 0 3 ≠ 14) (by omega), if_pos (c := T 0 3 < 14) q, ck_t (by omega)]
    obtain ⟨h1, a1, a2, a3⟩ := Mo_token_s r.1
    generalize tk_n B n p0 = p at *
    have m1 := MP_L m (fzY_K a3)
    have F1 : fk_ h h1 := fzY_k (fzY_K a3)
    have e201 : rd_ h1 94 20 = T 0 3 := m1.2.1.2.2.2.1
    rw [a1, bd_v]
    simp only [mr24 m1.1, m1.2.1.1, e201]
    rw [w32_i (x := 14 + T 0 3) (by omega) (by omega)]
    repeat rw [ck_t (by omega)]
    obtain ⟨h3, v3, b1, f3, b2⟩ := Mo_thereIn_s (a := 99) (N := T 0 0) (P := T 1) a2 (by omega) (ml99 m1.1) (by omega) (by omega) (fun j x y => (m1.2.2.2.1 j x y).1)
    rw [b1, bd_v]
    have m3 := MP_L m1 f3
    have F3 : fk_ h h3 := fk_t F1 (fzY_k f3)
    rcases b2 with ⟨n1, ev, r3, g3⟩ | ⟨n1, ev, w3⟩
    · rw [ev, if_pos (c := (1 : Int) ≠ 0) (by omega), if_neg (c := tn_f B n p (T 1) (T 0 0) ≠ 0) (fun z => z n1)]
      have m4 := MP_w (a := 106) (k := 14 + T 0 3) (v := fx_ (T 1) (tk_v B n p) (T 0 0).toNat 0) m3 (Or.inr (Or.inr ⟨by omega, rfl⟩))
      have r4 := MR_o (a := 106) (k := 14 + T 0 3) (v := fx_ (T 1) (tk_v B n p) (T 0 0).toNat 0) r3 (by omega)
      have F4 : fk_ h (wr_ h3 106 (14 + T 0 3) (fx_ (T 1) (tk_v B n p) (T 0 0).toNat 0)) := fk_t F3 (fk_w (by unfold pk_; omega))
      have e6 : rd_ (wr_ h3 106 (14 + T 0 3) (fx_ (T 1) (tk_v B n p) (T 0 0).toNat 0)) 106 (14 + T 0 3) = fx_ (T 1) (tk_v B n p) (T 0 0).toNat 0 := rd_ws _ _ _ _
      rw [g3]
      simp only [mr31 m3.1, ml106 m3.1, mr26 m3.1]
      generalize wr_ h3 106 (14 + T 0 3) (fx_ (T 1) (tk_v B n p) (T 0 0).toNat 0) = g4 at m4 r4 F4 e6 ⊢
      rw [m4.2.1.2.1]
      repeat rw [ck_t (by omega)]
      obtain ⟨h5, v5, c1, f5, c2⟩ := Mo_thereIn_s (a := 101) (N := T 0 1) (P := T 3) r4 (by omega) (ml101 m4.1) (by omega) (by omega) (fun j x y => (m4.2.2.2.2.1 j x y).1)
      rw [c1, bd_v]
      have m5 := MP_L m4 f5
      have F5 : fk_ h h5 := fk_t F4 (fzY_k f5)
      rcases c2 with ⟨n2, ew, r5, g5⟩ | ⟨n2, ew, w5⟩
      · rw [ew, if_pos (c := (1 : Int) ≠ 0) (by omega), if_neg (c := tn_f B n (tk_n B n p) (T 3) (T 0 1) ≠ 0) (fun z => z n2), g5]
        have m6 := MP_w (a := 107) (k := 14 + T 0 3) (v := fx_ (T 3) (tk_v B n (tk_n B n p)) (T 0 1).toNat 0) m5 (Or.inr (Or.inr ⟨by omega, rfl⟩))
        have r6 := MR_o (a := 107) (k := 14 + T 0 3) (v := fx_ (T 3) (tk_v B n (tk_n B n p)) (T 0 1).toNat 0) r5 (by omega)
        have F6' : fk_ h (wr_ h5 107 (14 + T 0 3) (fx_ (T 3) (tk_v B n (tk_n B n p)) (T 0 1).toNat 0)) := fk_t F5 (fk_w (by unfold pk_; omega))
        have e7 : rd_ (wr_ h5 107 (14 + T 0 3) (fx_ (T 3) (tk_v B n (tk_n B n p)) (T 0 1).toNat 0)) 107 (14 + T 0 3) = fx_ (T 3) (tk_v B n (tk_n B n p)) (T 0 1).toNat 0 := rd_ws _ _ _ _
        have e6b : rd_ (wr_ h5 107 (14 + T 0 3) (fx_ (T 3) (tk_v B n (tk_n B n p)) (T 0 1).toNat 0)) 106 (14 + T 0 3) = fx_ (T 1) (tk_v B n p) (T 0 0).toNat 0 := by rw [rd_wo (by omega), f5.2.1 106 (fun z => z) (by omega)]; exact e6
        simp only [mr32 m5.1, ml107 m5.1]
        repeat rw [ck_t (by omega)]
        generalize wr_ h5 107 (14 + T 0 3) (fx_ (T 3) (tk_v B n (tk_n B n p)) (T 0 1).toNat 0) = g6 at m6 r6 F6' e7 e6b ⊢
        obtain ⟨h7, v7, d1, f7, d2⟩ := Mo_number_s (lo := 1) (hi := 5) r6 (by omega) (by omega)
        rw [d1, bd_v]
        have m7 := MP_L m6 f7
        have F7 : fk_ h h7 := fk_t F6' (fzY_k f7)
        rcases d2 with ⟨n3, ex, r7, g7⟩ | ⟨n3, ex, w7⟩
        · rw [ex, if_pos (c := (1 : Int) ≠ 0) (by omega), if_neg (c := nm_f B n (tk_n B n (tk_n B n p)) 1 5 ≠ 0) (fun z => z n3), g7]
          have m8 := MP_w (a := 108) (k := 14 + T 0 3) (v := tk_v B n (tk_n B n (tk_n B n p))) m7 (Or.inr (Or.inr ⟨by omega, rfl⟩))
          have r8 := MR_o (a := 108) (k := 14 + T 0 3) (v := tk_v B n (tk_n B n (tk_n B n p))) r7 (by omega)
          have F8 : fk_ h (wr_ h7 108 (14 + T 0 3) (tk_v B n (tk_n B n (tk_n B n p)))) := fk_t F7 (fk_w (by unfold pk_; omega))
          have e8 : rd_ (wr_ h7 108 (14 + T 0 3) (tk_v B n (tk_n B n (tk_n B n p)))) 108 (14 + T 0 3) = tk_v B n (tk_n B n (tk_n B n p)) := rd_ws _ _ _ _
          have e7b : rd_ (wr_ h7 108 (14 + T 0 3) (tk_v B n (tk_n B n (tk_n B n p)))) 107 (14 + T 0 3) = fx_ (T 3) (tk_v B n (tk_n B n p)) (T 0 1).toNat 0 := by rw [rd_wo (by omega), f7.2.1 107 (fun z => z) (by omega)]; exact e7
          have e6c : rd_ (wr_ h7 108 (14 + T 0 3) (tk_v B n (tk_n B n (tk_n B n p)))) 106 (14 + T 0 3) = fx_ (T 1) (tk_v B n p) (T 0 0).toNat 0 := by rw [rd_wo (by omega), f7.2.1 106 (fun z => z) (by omega)]; exact e6b
          simp only [mr33 m7.1, ml108 m7.1]
          repeat rw [ck_t (by omega)]
          generalize wr_ h7 108 (14 + T 0 3) (tk_v B n (tk_n B n (tk_n B n p))) = g8 at m8 r8 F8 e8 e7b e6c ⊢
          obtain ⟨h9, v9, i1, f9, i2⟩ := Mo_number_s (lo := 0) (hi := 99) r8 (by omega) (by omega)
          rw [i1, bd_v]
          have m9 := MP_L m8 f9
          have F9 : fk_ h h9 := fk_t F8 (fzY_k f9)
          rcases i2 with ⟨n4, ey, r9, g9⟩ | ⟨n4, ey, w9⟩
          · rw [ey, if_pos (c := (1 : Int) ≠ 0) (by omega), if_neg (c := nm_f B n (tk_n B n (tk_n B n (tk_n B n p))) 0 99 ≠ 0) (fun z => z n4), g9]
            have mA := MP_w (a := 109) (k := 14 + T 0 3) (v := tk_v B n (tk_n B n (tk_n B n (tk_n B n p)))) m9 (Or.inr (Or.inr ⟨by omega, rfl⟩))
            have rA := MR_o (a := 109) (k := 14 + T 0 3) (v := tk_v B n (tk_n B n (tk_n B n (tk_n B n p)))) r9 (by omega)
            have mB := MP_turn (m := fx_ (T 1) (tk_v B n p) (T 0 0).toNat 0) (p := fx_ (T 3) (tk_v B n (tk_n B n p)) (T 0 1).toNat 0) (d := tk_v B n (tk_n B n (tk_n B n p))) (x := tk_v B n (tk_n B n (tk_n B n (tk_n B n p)))) mA (by rw [rd_wo (by omega), f9.2.1 106 (fun z => z) (by omega)]; exact e6c) (by rw [rd_wo (by omega), f9.2.1 107 (fun z => z) (by omega)]; exact e7b) (by rw [rd_wo (by omega), f9.2.1 108 (fun z => z) (by omega)]; exact e8) (rd_ws _ _ _ _)
            simp only [mr34 m9.1, ml109 m9.1]
            rw [mA.2.1.2.2.2.1, w32_i (x := T 0 3 + 1) (by omega) (by omega)]
            repeat rw [ck_t (by omega)]
            refine ⟨_, 1, rfl, Or.inr ⟨_, _, c, s, rfl, rfl, mB, ?_⟩, fk_t F9 (fk_t (fk_w (by unfold pk_; omega)) (fk_w (by unfold pk_; omega)))⟩
            exact ⟨MT_w rA.1 (by omega), by rw [rd_wk (by omega)]; exact rA.2.1, by rw [rd_wk (by omega), rd_wk (by omega)]; exact rA.2.2⟩
          · rw [ey, if_neg (c := (0 : Int) ≠ 0) (by omega), if_pos (c := nm_f B n (tk_n B n (tk_n B n (tk_n B n p))) 0 99 ≠ 0) n4]
            exact ⟨h9, 0, rfl, Or.inl ⟨n4, rfl, w9⟩, F9⟩
        · rw [ex, if_neg (c := (0 : Int) ≠ 0) (by omega), if_pos (c := nm_f B n (tk_n B n (tk_n B n p)) 1 5 ≠ 0) n3]
          exact ⟨h7, 0, rfl, Or.inl ⟨n3, rfl, w7⟩, F7⟩
      · rw [ew, if_neg (c := (0 : Int) ≠ 0) (by omega), if_pos (c := tn_f B n (tk_n B n p) (T 3) (T 0 1) ≠ 0) n2]
        exact ⟨h5, 0, rfl, Or.inl ⟨n2, rfl, w5⟩, F5⟩
    · rw [ev, if_neg (c := (0 : Int) ≠ 0) (by omega), if_pos (c := tn_f B n p (T 1) (T 0 0) ≠ 0) n1]
      exact ⟨h3, 0, rfl, Or.inl ⟨n1, rfl, w3⟩, F3⟩
  · obtain ⟨h', b1, b2, b3⟩ := Mo_wrongB 2 r.2.1
    rw [if_neg (c := T 0 3 ≠ 14) (by omega), if_neg (c := T 0 3 < 14) q, ck_t (by omega), b1]
    exact ⟨h', 0, rfl, Or.inl ⟨by show (2 : Int) ≠ 0; omega, rfl, b2⟩, fzY_k b3⟩
end
