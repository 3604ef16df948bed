/-! the line of a law in the class, all of it; lines, pure -/
def lwL_ (B : Int → Int) (n p : Int) (T : Tx) (c s : Int) : lRs_ := if tk_k B n p < 17 ∨ 19 < tk_k B n p then (1, tp_ B n p, 0, T, c, s) else if T 13 (tk_k B n p - 17) < T 14 (tk_k B n p - 17) then (3, tp_ B n p, 0, T, c, s) else if (fml_ B n 701 (tk_n B n p) (fsS_ T)).1 ≠ 0 then ((fml_ B n 701 (tk_n B n p) (fsS_ T)).1, (fml_ B n 701 (tk_n B n p) (fsS_ T)).2.1, 0, T, c, s) else (0, 0, (fml_ B n 701 (tk_n B n p) (fsS_ T)).2.2.1, lwT_ T (tk_k B n p - 17) (fml_ B n 701 (tk_n B n p) (fsS_ T)).2.2.2.1 (fml_ B n 701 (tk_n B n p) (fsS_ T)).2.2.2.2, c, s)
section
variable {B : Int → Int} {n t c s : Int} {T : Tx}
theorem Re_law {h : am_H} {p : Int} (r : RT h t T c s) (k : TKh h B n p) (z : 0 ≤ T 0 4) (z1 : T 0 4 ≤ 64) : ∃ h', Re_readLaw h 2 = some (h', (lwL_ B n p T c s).1) ∧ lnE_ h' t B n (lwL_ B n p T c s) ∧ flq_ t h h' := by
  have tb : 7 ≤ t ∧ t ≤ 27 := by have := r.1; omega
  obtain ⟨h1, a1, a2, a3, a4⟩ := Re_step r k
  have Q1 : flq_ t h h1 := flq_f a4 (fun a q => Or.inl q)
  have b20 : ∀ {g : am_H}, RT g t T c s → rf_ g 2 0 = 3 := fun y => cr2_0 y.2.1
  rw [Re_readLaw_e]
  simp only [b20 r]
  rw [ck_t (by omega), ck_t (by omega), a1, bd_v]
  simp only [b20 a2, a3.2.1, a2.2.2.1]
  unfold lwL_
  repeat rw [ck_t (by omega)]
  by_cases q1 : tk_k B n p < 17
  · rw [if_pos (c := tk_k B n p < 17) q1, if_pos (c := tk_k B n p < 17 ∨ 19 < tk_k B n p) (Or.inl q1)]
    exact ⟨h1, rfl, ⟨fun _ => a3.2.2.1, fun y => absurd (show (1 : Int) = 0 from y) (by omega)⟩, Q1⟩
  · rw [if_neg (c := tk_k B n p < 17) q1]
    repeat rw [ck_t (by omega)]
    by_cases q2 : tk_k B n p ≤ 19
    · rw [if_pos (c := tk_k B n p ≤ 19) q2, if_neg (c := tk_k B n p < 17 ∨ 19 < tk_k B n p) (by omega), w32_i (x := tk_k B n p - 17) (by omega) (by omega)]
      repeat rw [ck_t (by omega)]
      rw [To_hasLaw_s a2.2.2.2.1 (k := tk_k B n p - 17) (by omega) (by omega), bd_v]
      by_cases q3 : T 13 (tk_k B n p - 17) < T 14 (tk_k B n p - 17)
      · rw [if_neg (c := T 14 (tk_k B n p - 17) ≤ T 13 (tk_k B n p - 17)) (by omega), if_neg (c := (1 : Int) = 0) (by omega), if_pos (c := T 13 (tk_k B n p - 17) < T 14 (tk_k B n p - 17)) q3]
        exact ⟨h1, rfl, ⟨fun _ => a3.2.2.1, fun y => absurd (show (3 : Int) = 0 from y) (by omega)⟩, Q1⟩
      · rw [if_pos (c := T 14 (tk_k B n p - 17) ≤ T 13 (tk_k B n p - 17)) (by omega), if_pos (c := (0 : Int) = 0) rfl, if_neg (c := T 13 (tk_k B n p - 17) < T 14 (tk_k B n p - 17)) q3]
        have r3 : rd_ h1 t 3 = T 0 4 := a2.2.2.2.1.2.1.2.2.2
        obtain ⟨h5, d1, d2, d3, d4⟩ := Fo_read_s a2 a3.1 z z1
        have sh := a2.2.2.2.1.1
        have s22 : rf_ h5 2 2 = t := by rw [d4.1.2.2 2 (by omega)]; exact a2.2.2.1
        have s15 : rf_ h5 t 15 = t + 18 := by rw [d4.1.2.2 t (by omega)]; exact sh.2.2.2.2.2.2.2.2.2.2.1
        have s16 : rf_ h5 t 16 = t + 19 := by rw [d4.1.2.2 t (by omega)]; exact sh.2.2.2.2.2.2.2.2.2.2.2.1
        have l18 : ln_ h5 (t + 18) = 3 := by rw [fq_ln d4.1]; exact sh.2.2.2.2.2.2.2.2.2.2.2.2.2.2.2.2.2.2.2.2.1
        have l19 : ln_ h5 (t + 19) = 3 := by rw [fq_ln d4.1]; exact sh.2.2.2.2.2.2.2.2.2.2.2.2.2.2.2.2.2.2.2.2.2
        clear sh
        simp only [cr2_1 a2.2.1, b20 a2, a2.2.2.1]
        repeat rw [ck_t (by omega)]
        rw [d1, bd_v]
        simp only [s22, s15, s16, l18, l19, r3]
        repeat rw [ck_t (by omega)]
        rw [rd_wo (show t ≠ t + 18 by omega)]
        have QW : ∀ x, flq_ t h (wr_ (wr_ h5 (t + 18) (tk_k B n p - 17) (T 0 4)) (t + 19) (tk_k B n p - 17) x) := fun x => flq_t Q1 (flq_t d4 (flq_f (fr_tr (fr_wr (A := F6 t) (Or.inr (Or.inr (Or.inr ⟨by omega, by omega⟩)))) (fr_wr (Or.inr (Or.inr (Or.inr ⟨by omega, by omega⟩))))) (fun a q => q)))
        by_cases e0 : (fml_ B n 701 (tk_n B n p) (fsS_ T)).1 = 0
        · rw [if_neg (c := (fml_ B n 701 (tk_n B n p) (fsS_ T)).1 ≠ 0) (fun y => y e0)]
          obtain ⟨x1, h3, x2, x3, x4⟩ := d3 e0
          have fv := fml_v 701 (tk_n B n p) (fsS_ T) (fsS_V z z1) e0
          have r6 := RT_law (l := tk_k B n p - 17) x3 x4 fv.2.2
          rw [← x2] at r6
          have e3 : rd_ h5 t 3 = (fml_ B n 701 (tk_n B n p) (fsS_ T)).2.2.2.2 := by rw [x2, rd_ws]
          rw [e3, e0]
          refine ⟨_, rfl, ⟨fun y => absurd rfl y, fun _ => ⟨r6, ?_⟩⟩, QW _⟩
          exact TK_fr x1 (fr_tr (fr_wr (A := fun b => b = t + 18 ∨ b = t + 19) (Or.inl rfl)) (fr_wr (Or.inr rfl))) (by omega) (by omega) (by omega)
        · rw [if_pos (c := (fml_ B n 701 (tk_n B n p) (fsS_ T)).1 ≠ 0) e0]
          exact ⟨_, rfl, ⟨fun _ => by rw [rd_wo (show (3 : Int) ≠ t + 19 by omega), rd_wo (show (3 : Int) ≠ t + 18 by omega)]; exact d2 e0, fun y => absurd y e0⟩, QW _⟩
    · rw [if_neg (c := tk_k B n p ≤ 19) q2, if_pos (c := tk_k B n p < 17 ∨ 19 < tk_k B n p) (by omega)]
      exact ⟨h1, rfl, ⟨fun _ => a3.2.2.1, fun y => absurd (show (1 : Int) = 0 from y) (by omega)⟩, Q1⟩
end
def lin_ (B : Int → Int) (n p : Int) (T : Tx) (c s : Int) : lRs_ := if tk_k B n p = 10 then mdL_ B n (tp_ B n p) (tk_n B n p) T c s else if tk_k B n p = 11 then piL_ B n (tp_ B n p) (tk_n B n p) T c s else if tk_k B n p = 12 then plL_ B n (tk_n B n p) T c s else if tk_k B n p = 13 then tuL_ B n (tp_ B n p) (tk_n B n p) T c s else if tk_k B n p = 14 then chL_ B n (tp_ B n p) (tk_n B n p) T c s else if tk_k B n p = 15 then seL_ B n (tp_ B n p) (tk_n B n p) T c s else if tk_k B n p = 16 then lwL_ B n (tk_n B n p) T c s else (1, tp_ B n p, 0, T, c, s)
def rdl_ (B : Int → Int) (n : Int) : Nat → Int → Tx → Int → Int → Int × Int × Tx
  | 0, p, T, _, _ => (1, tp_ B n p, T)
  | f + 1, p, T, c, s => if tk_k B n p = 0 then (0, 0, T) else if (lin_ B n p T c s).1 ≠ 0 then ((lin_ B n p T c s).1, (lin_ B n p T c s).2.1, T) else rdl_ B n f (lin_ B n p T c s).2.2.1 (up_ (lin_ B n p T c s).2.2.2.1 0 7 ((lin_ B n p T c s).2.2.2.1 0 7 + 1)) (lin_ B n p T c s).2.2.2.2.1 (lin_ B n p T c s).2.2.2.2.2
theorem rdl_s (B : Int → Int) (n : Int) (f : Nat) (p : Int) (T : Tx) (c s : Int) : rdl_ B n (f + 1) p T c s = if tk_k B n p = 0 then (0, 0, T) else if (lin_ B n p T c s).1 ≠ 0 then ((lin_ B n p T c s).1, (lin_ B n p T c s).2.1, T) else rdl_ B n f (lin_ B n p T c s).2.2.1 (up_ (lin_ B n p T c s).2.2.2.1 0 7 ((lin_ B n p T c s).2.2.2.1 0 7 + 1)) (lin_ B n p T c s).2.2.2.2.1 (lin_ B n p T c s).2.2.2.2.2 := rfl
section
variable {B : Int → Int} {n t c s : Int} {T : Tx}
theorem Re_readLine_s {h : am_H} {p : Int} (r : RT h t T c s) (k : Tok h B n p) (w : WVt T) (v : TV T) : ∃ h', Re_readLine h 2 = some (h', (lin_ B n p T c s).1) ∧ lnE_ h' t B n (lin_ B n p T c s) ∧ flq_ t h h' := by
  have wr : WVr T := by have a := w.1; have b := v.1; unfold WVr; omega
  have v4 : 0 ≤ T 0 4 ∧ T 0 4 ≤ 64 := by have b := v.1; omega
  rw [Re_readLine_e]
  simp only [cr2_0 r.2.1, k.2.1]
  repeat rw [ck_t (by omega)]
  unfold lin_
  have e5 := k.2.2.1
  by_cases q0 : tk_k B n p = 10
  · rw [if_pos q0, if_pos q0]
    obtain ⟨h', a1, a2, a3⟩ := Re_maid r k.1 e5 wr
    rw [a1, bd_v]
    exact ⟨h', rfl, a2, flq_l a3⟩
  rw [if_neg q0, if_neg q0]
  by_cases q1 : tk_k B n p = 11
  · rw [if_pos q1, if_pos q1]
    obtain ⟨h', a1, a2, a3⟩ := Re_pile r k.1 e5 wr
    rw [a1]
    repeat rw [ck_t (by omega)]
    rw [bd_v]
    exact ⟨h', rfl, a2, flq_l a3⟩
  rw [if_neg q1, if_neg q1]
  by_cases q2 : tk_k B n p = 12
  · rw [if_pos q2, if_pos q2]
    obtain ⟨h', a1, a2, a3⟩ := Re_plate r k.1 w
    rw [a1]
    repeat rw [ck_t (by omega)]
    rw [bd_v]
    exact ⟨h', rfl, a2, flq_l a3⟩
  rw [if_neg q2, if_neg q2]
  by_cases q3 : tk_k B n p = 13
  · rw [if_pos q3, if_pos q3]
    obtain ⟨h', a1, a2, a3⟩ := Re_turn r k.1 e5 wr
    rw [a1]
    repeat rw [ck_t (by omega)]
    rw [bd_v]
    exact ⟨h', rfl, a2, flq_l a3⟩
  rw [if_neg q3, if_neg q3]
  by_cases q4 : tk_k B n p = 14
  · rw [if_pos q4, if_pos q4]
    obtain ⟨h', a1, a2, a3⟩ := Re_chip r k.1 e5
    rw [a1]
    repeat rw [ck_t (by omega)]
    rw [bd_v]
    exact ⟨h', rfl, a2, flq_l a3⟩
  rw [if_neg q4, if_neg q4]
  by_cases q5 : tk_k B n p = 15
  · rw [if_pos q5, if_pos q5]
    obtain ⟨h', a1, a2, a3⟩ := Re_seed r k.1 e5
    rw [a1]
    repeat rw [ck_t (by omega)]
    rw [bd_v]
    exact ⟨h', rfl, a2, flq_l a3⟩
  rw [if_neg q5, if_neg q5]
  by_cases q6 : tk_k B n p = 16
  · rw [if_pos q6, if_pos q6]
    obtain ⟨h', a1, a2, a3⟩ := Re_law r k.1 v4.1 v4.2
    rw [a1]
    repeat rw [ck_t (by omega)]
    rw [bd_v]
    exact ⟨h', rfl, a2, a3⟩
  rw [if_neg q6, if_neg q6]
  exact ⟨h, rfl, ⟨fun _ => e5, fun y => absurd (show (1 : Int) = 0 from y) (by omega)⟩, flq_f (fr_refl h (F6 t)) (fun a q => q)⟩
end
