/-! the line of a plate in the reference, all of it -/
section
variable {B : Int → Int} {n c s : Int} {h : am_H} {T : Tx}
theorem plP_b {p : Int} (q1 : tn_f B n p (T 3) (T 0 1) = 0) : 0 ≤ plP_ B n p T ∧ plP_ B n p T < T 0 1 := by
  unfold tn_f at q1
  have fv := fx_v (P := T 3) (c := tk_v B n p) (T 0 1).toNat 0
  unfold plP_
  by_cases y : tk_k B n p = 3
  · rw [if_pos y] at q1
    by_cases x : 0 ≤ fx_ (T 3) (tk_v B n p) (T 0 1).toNat 0
    · rcases fv with ⟨u, _⟩ | ⟨u, v, _⟩ <;> omega
    · rw [if_neg x] at q1; omega
  · rw [if_neg y] at q1; omega
theorem Mo_plateL {p0 : Int} (m : MP h T c s) (r : MR h B n p0) (w : WVt T) : ∃ h' v, Mo_plateLine h 94 = some (h', v) ∧ mpE_ h' B n v (plL_ B n (tk_n B n p0) T c s) ∧ fk_ h h' := by
  have wv := w.1
  rw [Mo_plateLine_e, ck_t (by omega)]
  obtain ⟨h1, a1, a2, a3⟩ := Mo_token_s r.1
  generalize tk_n B n p0 = p at *
  have m1 := MP_L m (fzY_K a3)
  have F1 : fk_ h h1 := fzY_k (fzY_K a3)
  have e10 := a2.2.1
  rw [a1, bd_v]
  simp only [mr26 m1.1, m1.2.1.2.1]
  repeat rw [ck_t (by omega)]
  obtain ⟨h3, v3, b1, f3, b2⟩ := Mo_thereIn_s (a := 101) (N := T 0 1) (P := T 3) a2 (by omega) (ml101 m1.1) (by omega) (by omega) (fun j x y => (m1.2.2.2.2.1 j x y).1)
  rw [b1, bd_v]
  have m3 := MP_L m1 f3
  have F3 : fk_ h h3 := fk_t F1 (fzY_k f3)
  unfold plL_
  rcases b2 with ⟨n1, ev, r3, g3⟩ | ⟨n1, ev, w3⟩
  · rw [ev, if_pos (c := (1 : Int) ≠ 0) (by omega), if_neg (c := tn_f B n p (T 3) (T 0 1) ≠ 0) (fun z => z n1)]
    have pb := plP_b n1
    have ep : fx_ (T 3) (tk_v B n p) (T 0 1).toNat 0 = plP_ B n p T := rfl
    rw [ep] at g3
    generalize plP_ B n p T = P at *
    have w4 := w.2.1 P pb.1 pb.2
    have e4 := (m3.2.2.2.2.1 P pb.1 pb.2).2
    simp only [mr27 m3.1, ml102 m3.1, g3]
    rw [w32_i (x := 4 + P) (by omega) (by omega), e4]
    repeat rw [ck_t (by omega)]
    by_cases q5 : T 4 P < 5
    · rw [if_pos (c := T 4 P ≠ 5) (by omega), if_pos (c := T 4 P < 5) q5]
      repeat rw [ck_t (by omega)]
      obtain ⟨h5, v5, d1, f5, d2⟩ := Mo_number_s (lo := 1) (hi := 99) r3 (by omega) (by omega)
      rw [d1, bd_v]
      have m5 := MP_L m3 f5
      have F5 : fk_ h h5 := fk_t F3 (fzY_k f5)
      have e103 := r3.2.1
      rcases d2 with ⟨n2, ew, r5, g5⟩ | ⟨n2, ew, w5⟩
      · rw [ew, if_pos (c := (1 : Int) ≠ 0) (by omega), if_neg (c := nm_f B n (tk_n B n p) 1 99 ≠ 0) (fun z => z n2), g5, e103, ck_t (by omega), Mo_pl7_lp m5 w pb.1 pb.2 (T 4 P).toNat 0 (by omega) (by omega)]
        have eh : hz_ T (W0_ T (T 0 6)) P (tk_v B n (tk_n B n p)) = av_ (fun k => decide (Zs T (W0_ T (T 0 6)) P k ≠ tk_v B n (tk_n B n p))) (T 4 P).toNat 0 := rfl
        rw [eh]
        by_cases z : av_ (fun k => decide (Zs T (W0_ T (T 0 6)) P k ≠ tk_v B n (tk_n B n p))) (T 4 P).toNat 0 = true
        · rw [if_pos z, if_pos z]
          obtain ⟨h7, v7, i1, i2, i3⟩ := Mo_pl7_e (z := tk_v B n (tk_n B n p)) (q1 := tp_ B n (tk_n B n p)) m5 r5 w pb.1 pb.2 q5
          exact ⟨h7, v7, i1, i2, fk_t F5 i3⟩
        · rw [if_neg z, if_neg z]
          obtain ⟨h7, i1, i2, i3⟩ := Mo_wrongB (h := wr_ h5 94 10 (tp_ B n (tk_n B n p))) 3 (rd_ws _ _ _ _)
          exact ⟨h7, 0, i1, Or.inl ⟨by show (3 : Int) ≠ 0; omega, rfl, i2⟩, fk_t F5 (fk_t (fk_w (by unfold pk_; omega)) (fzY_k i3))⟩
      · rw [ew, if_neg (c := (0 : Int) ≠ 0) (by omega), if_pos (c := nm_f B n (tk_n B n p) 1 99 ≠ 0) n2]
        exact ⟨h5, 0, rfl, Or.inl ⟨n2, rfl, w5⟩, F5⟩
    · rw [if_neg (c := T 4 P ≠ 5) (by omega), if_neg (c := T 4 P < 5) q5, e10]
      repeat rw [ck_t (by omega)]
      obtain ⟨h7, i1, i2, i3⟩ := Mo_wrongB (h := wr_ h3 94 10 (tp_ B n p)) 2 (rd_ws _ _ _ _)
      exact ⟨h7, 0, i1, Or.inl ⟨by show (2 : Int) ≠ 0; omega, rfl, i2⟩, fk_t F3 (fk_t (fk_w (by unfold pk_; omega)) (fzY_k i3))⟩
  · rw [ev, if_neg (c := (0 : Int) ≠ 0) (by omega), if_pos (c := tn_f B n p (T 3) (T 0 1) ≠ 0) n1]
    exact ⟨h3, 0, rfl, Or.inl ⟨n1, rfl, w3⟩, F3⟩
end
