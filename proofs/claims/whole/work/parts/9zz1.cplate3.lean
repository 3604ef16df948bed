/-! the line of a plate in the class, all of it -/
def plP_ (B : Int → Int) (n p : Int) (T : Tx) : Int := fx_ (T 3) (tk_v B n p) (T 0 1).toNat 0
def plL_ (B : Int → Int) (n p : Int) (T : Tx) (c s : Int) : lRs_ := if tn_f B n p (T 3) (T 0 1) ≠ 0 then (tn_f B n p (T 3) (T 0 1), tp_ B n p, 0, T, c, s) else if T 4 (plP_ B n p T) < 5 then (if nm_f B n (tk_n B n p) 1 99 ≠ 0 then (nm_f B n (tk_n B n p) 1 99, tp_ B n (tk_n B n p), 0, T, c, s) else if hz_ T (W0_ T (T 0 6)) (plP_ B n p T) (tk_v B n (tk_n B n p)) then pe_L B n (tk_n B n (tk_n B n p)) T c s (plP_ B n p T) (tk_v B n (tk_n B n p)) else (3, tp_ B n (tk_n B n p), 0, T, c, s)) else (2, tp_ B n p, 0, T, c, s)
section
variable {B : Int → Int} {n t c s : Int} {T : Tx}
theorem Re_plate {h : am_H} {p : Int} (r : RT h t T c s) (k : TKh h B n p) (w : WVt T) : ∃ h', Re_readPlate h 2 = some (h', (plL_ B n p T c s).1) ∧ lnE_ h' t B n (plL_ B n p T c s) ∧ frl_ t h h' := by
  have tb : 7 ≤ t ∧ t ≤ 27 := by have := r.1; omega
  have wv := w.1
  have W := WVt_W w
  have S := fun (_ : Unit) => RT_sh r
  have rP : ∀ {g : am_H}, RT g t T c s → ∀ j, 0 ≤ j → j < T 0 1 → rd_ g (t + 12) j = T 3 j := fun y j a b => y.2.2.2.1.2.2.2.1 j a b
  have sw6 : ∀ {g : am_H}, RT g t T c s → rf_ g (t + 1) 6 = t + 2 := fun y => by rw [y.2.2.2.2.1.1.2.1]; omega
  have ln2 : ∀ {g : am_H}, RT g t T c s → ln_ g (t + 2) = 4 := fun y => by have := y.2.2.2.2.1.1.2.2.2.2.2.2.2.2.2.1; rw [show t + 1 + 1 = t + 2 by omega] at this; exact this
  have rh : ∀ {g : am_H}, RT g t T c s → ∀ P, 0 ≤ P → P < T 0 1 → rd_ g (t + 2) P = T 4 P := fun y P a b => by have := y.2.2.2.2.1.2.2.1 P a b; rw [show t + 1 + 1 = t + 2 by omega] at this; exact this
  rw [Re_readPlate_e]
  simp only [(S ()).1.1, (S ()).2.1.1, (S ()).2.1.2.2.1, (S ()).2.2.2.2.2]
  repeat rw [ck_t (by omega)]
  obtain ⟨h1, a1, a2, a3, a4⟩ := Re_told (a := t + 12) (N := T 0 1) (P := T 3) r k (by omega) (by omega) (by omega) (by omega) (S ()).2.2.1.2.1 (rP r)
  rw [a1, bd_v]
  unfold plL_
  by_cases q1 : tn_f B n p (T 3) (T 0 1) = 0
  · rw [if_pos (c := tn_f B n p (T 3) (T 0 1) = 0) q1, if_neg (c := tn_f B n p (T 3) (T 0 1) ≠ 0) (fun z => z q1)]
    have S1 := fun (_ : Unit) => RT_sh a2
    have ix := Pp_indexOf_lp (h := h1) (a := t + 12) (N := T 0 1) (c := tk_v B n p) (P := T 3) (by omega) (by rw [(S1 ()).2.2.1.2.1]; omega) (by omega) (rP a2) (T 0 1).toNat 0 (by omega) (by omega)
    have pb : 0 ≤ plP_ B n p T ∧ plP_ B n p T < T 0 1 := by
      unfold tn_f at q1
      have fv := fx_v (P := T 3) (c := tk_v B n p) (T 0 1).toNat 0
      unfold plP_
      by_cases y : tk_k B n p = 3
      · rw [if_pos y] at q1
        by_cases x : 0 ≤ fx_ (T 3) (tk_v B n p) (T 0 1).toNat 0
        · rcases fv with ⟨u, _⟩ | ⟨u, v, _⟩ <;> omega
        · rw [if_neg x] at q1; omega
      · rw [if_neg y] at q1; omega
    have ep : fx_ (T 3) (tk_v B n p) (T 0 1).toNat 0 = plP_ B n p T := rfl
    simp only [(S1 ()).1.1, (S1 ()).1.2, (S1 ()).2.1.1, (S1 ()).2.1.2.2.1, (S1 ()).2.2.2.2.2, a3.2.2.2]
    repeat rw [ck_t (by omega)]
    rw [Pp_indexOf_e, ix, bd_v, ep]
    generalize plP_ B n p T = P at *
    simp only [(S1 ()).1.1, (S1 ()).2.1.1]
    repeat rw [ck_t (by omega)]
    rw [Wo_hasPile_t a2.2.2.2.2.1 pb.1 pb.2, bd_v, if_neg (by omega)]
    simp only [(S1 ()).1.1, (S1 ()).2.1.1, sw6 a2, ln2 a2, rh a2 P pb.1 pb.2]
    repeat rw [ck_t (by omega)]
    by_cases q5 : T 4 P < 5
    · rw [if_pos (c := T 4 P < 5) q5, if_pos (c := T 4 P < 5) q5, Re_readPlate_5_e]
      repeat rw [ck_t (by omega)]
      obtain ⟨h2, b1, b2, b3, b4⟩ := Re_num (lo := 1) (hi := 99) a2 a3.1
      rw [b1, bd_v]
      have S2 := fun (_ : Unit) => RT_sh b2
      have F2 : frl_ t h h2 := frl_t (frl_3 a4) (frl_3 b4)
      by_cases q3 : nm_f B n (tk_n B n p) 1 99 = 0
      · rw [if_pos (c := nm_f B n (tk_n B n p) 1 99 = 0) q3, if_neg (c := nm_f B n (tk_n B n p) 1 99 ≠ 0) (fun z => z q3)]
        simp only [(S2 ()).1.1, (S2 ()).1.2, (S2 ()).2.1.1, b3.2.2.2]
        repeat rw [ck_t (by omega)]
        rw [Wo_hasPile_t b2.2.2.2.2.1 pb.1 pb.2, bd_v, if_neg (by omega)]
        simp only [(S2 ()).1.1, (S2 ()).2.1.1]
        repeat rw [ck_t (by omega)]
        rw [Wo_hasSize_s b2.2.2.2.2.1 W pb.1 pb.2, bd_v]
        cases hz : hz_ T (W0_ T (T 0 6)) P (tk_v B n (tk_n B n p)) with
        | true =>
          rw [if_pos (c := true = true) rfl, if_pos rfl, if_pos (c := true = true) rfl]
          obtain ⟨h3, d1, d2, d3⟩ := Re_plate10 (z := tk_v B n (tk_n B n p)) b2 b3.1 w pb.1 pb.2 q5
          exact ⟨h3, d1, d2, frl_t F2 d3⟩
        | false =>
          rw [if_neg (c := false = true) (by simp), if_neg (c := (1 : Int) = 0) (by omega), if_neg (c := false = true) (by simp)]
          exact ⟨h2, rfl, ⟨fun _ => b3.2.2.1, fun z => by have z' : (3 : Int) = 0 := z; omega⟩, F2⟩
      · rw [if_neg (c := nm_f B n (tk_n B n p) 1 99 = 0) q3, if_pos (c := nm_f B n (tk_n B n p) 1 99 ≠ 0) q3]
        exact ⟨h2, rfl, ⟨fun _ => b3.2.2.1, fun z => absurd z q3⟩, F2⟩
    · rw [if_neg (c := T 4 P < 5) q5, if_neg (c := T 4 P < 5) q5]
      exact ⟨h1, rfl, ⟨fun _ => a3.2.2.1, fun z => by have z' : (2 : Int) = 0 := z; omega⟩, frl_3 a4⟩
  · rw [if_neg (c := tn_f B n p (T 3) (T 0 1) = 0) q1, if_pos (c := tn_f B n p (T 3) (T 0 1) ≠ 0) q1]
    exact ⟨h1, rfl, ⟨fun _ => a3.2.2.1, fun z => absurd z q1⟩, frl_3 a4⟩
end
