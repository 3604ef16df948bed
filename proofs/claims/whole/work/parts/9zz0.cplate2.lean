/-! the line of a plate in the class, its end -/
def pe_L (B : Int → Int) (n p : Int) (T : Tx) (c s P z : Int) : lRs_ := if nm_f B n p 0 1 ≠ 0 then (nm_f B n p 0 1, tp_ B n p, 0, T, c, s) else smE_ B n (tk_n B n p) (plT_ T P z (tk_v B n p)) c s
section
variable {B : Int → Int} {n t c s : Int} {T : Tx}
theorem Wo_addPlate_s {h : am_H} {P z f : Int} (r : RT h t T c s) (w : WVt T) (P0 : 0 ≤ P) (P1 : P < T 0 1) (hp : T 4 P < 5) : Wo_addPlate h (t + 1) P z f = some (pw_h h t P (T 4 P) (T 0 2) z f, 0) := by
  have lt := WVt_20 w P0 P1 hp
  have tb : 7 ≤ t ∧ t ≤ 27 := by have := r.1; omega
  have ht := w.2.1 P P0 P1
  have b0 := w.1
  obtain ⟨sw, ⟨w0, w1, w2, w3, w4, w5⟩, p1, -⟩ := id r.2.2.2.2.1
  have S := fun (_ : Unit) => sw
  clear sw
  have e1 : rd_ h (t + 2) P = T 4 P := by have := p1 P P0 P1; rw [show t + 1 + 1 = t + 2 by omega] at this; exact this
  have f6 : rf_ h (t + 1) 6 = t + 2 := by rw [(S ()).2.1]; omega
  have f9 : rf_ h (t + 1) 9 = t + 5 := by rw [(S ()).2.2.2.2.1]; omega
  have f10 : rf_ h (t + 1) 10 = t + 6 := by rw [(S ()).2.2.2.2.2.1]; omega
  have f11 : rf_ h (t + 1) 11 = t + 7 := by rw [(S ()).2.2.2.2.2.2.1]; omega
  have f12 : rf_ h (t + 1) 12 = t + 8 := by rw [(S ()).2.2.2.2.2.2.2.1]; omega
  have l2 : ln_ h (t + 2) = 4 := by have := (S ()).2.2.2.2.2.2.2.2.2.1; rw [show t + 1 + 1 = t + 2 by omega] at this; exact this
  have l5 : ln_ h (t + 5) = 20 := by have := (S ()).2.2.2.2.2.2.2.2.2.2.2.2.1; rw [show t + 1 + 4 = t + 5 by omega] at this; exact this
  have l6 : ln_ h (t + 6) = 20 := by have := (S ()).2.2.2.2.2.2.2.2.2.2.2.2.2.1; rw [show t + 1 + 5 = t + 6 by omega] at this; exact this
  have l7 : ln_ h (t + 7) = 20 := by have := (S ()).2.2.2.2.2.2.2.2.2.2.2.2.2.2.1; rw [show t + 1 + 6 = t + 7 by omega] at this; exact this
  have l8 : ln_ h (t + 8) = 20 := by have := (S ()).2.2.2.2.2.2.2.2.2.2.2.2.2.2.2.1; rw [show t + 1 + 7 = t + 8 by omega] at this; exact this
  have hasp := Wo_hasPile_t r.2.2.2.2.1 P0 P1
  have ei : w32 (w32 (P * 5) + T 4 P) = 5 * P + T 4 P := by rw [w32_i (x := P * 5) (by omega) (by omega), w32_i (by omega) (by omega)]; omega
  rw [Wo_addPlate_e]
  repeat rw [ck_t (by omega)]
  rw [hasp, bd_v, if_neg (by omega)]
  have z1 : ∀ k v, rd_ (wr_ h (t + 5) k v) (t + 1) 2 = T 0 2 := fun k v => by rw [rd_wo (by omega)]; exact w2
  have z2 : ∀ k v k' v', rd_ (wr_ (wr_ h (t + 5) k v) (t + 6) k' v') (t + 1) 2 = T 0 2 := fun k v k' v' => by rw [rd_wo (by omega)]; exact z1 k v
  have z3 : ∀ k v k' v' k2 v2, rd_ (wr_ (wr_ (wr_ h (t + 5) k v) (t + 6) k' v') (t + 7) k2 v2) (t + 1) 2 = T 0 2 := fun k v k' v' k2 v2 => by rw [rd_wo (by omega)]; exact z2 k v k' v'
  have z4 : ∀ k v k' v' k2 v2 k3 v3, rd_ (wr_ (wr_ (wr_ (wr_ h (t + 5) k v) (t + 6) k' v') (t + 7) k2 v2) (t + 8) k3 v3) (t + 2) P = T 4 P := fun k v k' v' k2 v2 k3 v3 => by rw [rd_wo (by omega), rd_wo (by omega), rd_wo (by omega), rd_wo (by omega)]; exact e1
  have z5 : ∀ k v k' v' k2 v2 k3 v3 k4 v4, rd_ (wr_ (wr_ (wr_ (wr_ (wr_ h (t + 5) k v) (t + 6) k' v') (t + 7) k2 v2) (t + 8) k3 v3) (t + 2) k4 v4) (t + 1) 2 = T 0 2 := fun k v k' v' k2 v2 k3 v3 k4 v4 => by rw [rd_wo (by omega), rd_wo (by omega)]; exact z3 k v k' v' k2 v2
  simp only [f6, f9, f10, f11, f12, l2, l5, l6, l7, l8, e1, w2, ei, z1, z2, z3, z4, z5, rf_wr, ln_wr]
  repeat rw [ck_t (by omega)]
  rw [if_neg (by omega)]
  repeat rw [ck_t (by omega)]
  rw [if_neg (by omega)]
  repeat rw [ck_t (by omega)]
  rw [w32_i (x := T 4 P + 1) (by omega) (by omega), w32_i (x := T 0 2 + 1) (by omega) (by omega)]
  rfl
theorem Re_plate10 {h : am_H} {p P z : Int} (r : RT h t T c s) (k : TKh h B n p) (w : WVt T) (P0 : 0 ≤ P) (P1 : P < T 0 1) (hp : T 4 P < 5) : ∃ h', Re_readPlate_10 h 2 P z = some (h', (pe_L B n p T c s P z).1) ∧ lnE_ h' t B n (pe_L B n p T c s P z) ∧ frl_ t h h' := by
  have tb : 7 ≤ t ∧ t ≤ 27 := by have := r.1; omega
  obtain ⟨h1, a1, a2, a3, a4⟩ := Re_num (lo := 0) (hi := 1) r k
  rw [Re_readPlate_10_e]
  repeat rw [ck_t (by omega)]
  rw [a1, bd_v]
  unfold pe_L
  by_cases q : nm_f B n p 0 1 = 0
  · rw [if_pos (c := nm_f B n p 0 1 = 0) q, if_neg (c := nm_f B n p 0 1 ≠ 0) (fun z => z q)]
    have S := fun (_ : Unit) => RT_sh a2
    have r4 := RT_plate (z := z) (f := tk_v B n p) a2 w P0 P1 hp
    have F : fr_ h1 (pw_h h1 t P (T 4 P) (T 0 2) z (tk_v B n p)) (fun b => t + 1 ≤ b ∧ b ≤ t + 8) := fr_tr (fr_wr ⟨by omega, by omega⟩) (fr_tr (fr_wr ⟨by omega, by omega⟩) (fr_tr (fr_wr ⟨by omega, by omega⟩) (fr_tr (fr_wr ⟨by omega, by omega⟩) (fr_tr (fr_wr ⟨by omega, by omega⟩) (fr_wr ⟨by omega, by omega⟩)))))
    have k4 := TK_fr a3.1 F (by omega) (by omega) (by omega)
    obtain ⟨h5, d1, d2, d3⟩ := Re_fi r4 k4
    refine ⟨h5, ?_, d2, frl_t (frl_3 a4) (frl_t (fr_mo F (fun b y => Or.inr ⟨by omega, by omega⟩)) d3)⟩
    simp only [(S ()).1.1, (S ()).1.2, (S ()).2.1.1, a3.2.2.2]
    repeat rw [ck_t (by omega)]
    rw [Wo_addPlate_s a2 w P0 P1 hp, bd_v]
    repeat rw [ck_t (by omega)]
    rw [d1, bd_v]
  · rw [if_neg (c := nm_f B n p 0 1 = 0) q, if_pos (c := nm_f B n p 0 1 ≠ 0) q]
    exact ⟨h1, rfl, ⟨fun _ => a3.2.2.1, fun z => absurd z q⟩, frl_3 a4⟩
end
