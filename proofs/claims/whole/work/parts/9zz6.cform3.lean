/-! a formula in the class: a part, a joint -/
def FCs (h : am_H) (t : Int) (T : Tx) (c s : Int) (S : fS_) : Prop := FC h t T c s S.1 S.2.1 S.2.2.1 S.2.2.2.1 S.2.2.2.2.1 S.2.2.2.2.2.1 S.2.2.2.2.2.2
def FVs (F : Int) (S : fS_) : Prop := FV F S.1 S.2.1 S.2.2.1 S.2.2.2.1 S.2.2.2.2.1 S.2.2.2.2.2.1 S.2.2.2.2.2.2
section
variable {t c s op tk o wp mn : Int} {T : Tx} {ws : List Int} {K : Int → Int}
theorem Fo_tp17_l {h : am_H} {k v : Int} (f : FC h t T c s ws op tk K o wp mn) (z : 0 ≤ T 0 4) (o0 : T 0 4 ≤ o) (o1 : o < 64) (t0 : 0 ≤ tk) (t1 : tk < 64) (ev : rd_ h 3 6 = v) (kk : k = 2 ∧ 0 ≤ v ∧ v ≤ 9999 ∨ (23 ≤ k ∧ k ≤ 29)) : ∃ h', Fo_takePart_17 h 5 k = some (h', 0) ∧ FC h' t T c s ws op (tk + 1) (ku_ K o (if k = 2 then -1 - v else k)) (o + 1) 0 mn ∧ fr_ h h' (F5 t) := by
  have S := fun (_ : Unit) => FC_sh f
  have f1 : FC (wr_ h 5 5 (tk + 1)) t T c s ws op (tk + 1) K o wp mn := FC_w f (by omega) f.2.2.2.1 rfl rfl rfl rfl rfl
  obtain ⟨h2, a1, a2, a3⟩ := Fo_put_s (w := if k = 2 then -1 - v else k) f1 z o0 o1
  refine ⟨wr_ h2 5 7 0, ?_, FC_w a2 (by omega) a2.2.2.2.1 rfl rfl rfl rfl rfl, fr_tr (fr_wr (Or.inl rfl)) (fr_tr a3 (fr_wr (Or.inl rfl)))⟩
  rw [Fo_takePart_17_e]
  simp only [(S ()).2.2.2.2.2.2.1, (S ()).2.2.1.1]
  rw [w32_i (x := tk + 1) (by omega) (by omega), rd_wo (by omega), ev]
  repeat rw [ck_t (by omega)]
  rw [if_pos (by omega)]
  by_cases q : k = 2
  · rw [if_pos q, w32_i (by omega) (by omega)] at *
    rw [if_neg (fun y => y q)]
    repeat rw [ck_t (by omega)]
    rw [a1, bd_v, ck_t (by omega)]
  · rw [if_neg q] at *
    rw [if_pos q]
    repeat rw [ck_t (by omega)]
    rw [a1, bd_v, ck_t (by omega)]
theorem Fo_tp17_n {h : am_H} (f : FC h t T c s ws op tk K o wp mn) (t0 : 0 ≤ tk) (t1 : tk < 64) (l : (ws.length : Int) < 72) : ∃ h', Fo_takePart_17 h 5 22 = some (h', 0) ∧ FC h' t T c s (22 :: ws) op (tk + 1) K o wp mn ∧ fr_ h h' (F5 t) := by
  have S := fun (_ : Unit) => FC_sh f
  have f1 : FC (wr_ h 5 5 (tk + 1)) t T c s ws op (tk + 1) K o wp mn := FC_w f (by omega) f.2.2.2.1 rfl rfl rfl rfl rfl
  obtain ⟨h2, a1, a2, a3⟩ := Fo_await_s (w := 22) f1 l
  refine ⟨h2, ?_, a2, fr_tr (fr_wr (Or.inl rfl)) a3⟩
  rw [Fo_takePart_17_e]
  simp only [(S ()).2.2.2.2.2.2.1]
  rw [w32_i (x := tk + 1) (by omega) (by omega)]
  repeat rw [ck_t (by omega)]
  rw [if_neg (fun y => y rfl)]
  repeat rw [ck_t (by omega)]
  rw [a1, bd_v]
theorem Fo_takePart_s {h : am_H} {k v : Int} (f : FC h t T c s ws op tk K o 1 mn) (g : FV (T 0 4) ws op tk K o 1 mn) (ek : rd_ h 3 4 = k) (ev : rd_ h 3 6 = v) (vb : k = 2 → 0 ≤ v) : ∃ h', Fo_takePart h 5 = some (h', (tpt_ k v ws op tk K o mn).1) ∧ ((tpt_ k v ws op tk K o mn).1 = 0 → FCs h' t T c s (tpt_ k v ws op tk K o mn).2) ∧ fr_ h h' (F5 t) := by
  have S := fun (_ : Unit) => FC_sh f
  obtain ⟨g1, g2, g3, g4, g5, g6, g7, g8, g9⟩ := g
  have cv := ct_v ws
  have g3' : o + nb_ ws = tk := g3
  clear g9 g8
  have bad : ∀ x : Int, x ≠ 0 → ∀ Z : fS_, ∃ h', (some (h, x) : am_O) = some (h', ((x, Z) : Int × fS_).1) ∧ (((x, Z) : Int × fS_).1 = 0 → FCs h' t T c s ((x, Z) : Int × fS_).2) ∧ fr_ h h' (F5 t) := fun x x0 Z => ⟨h, rfl, fun y => absurd y x0, fr_refl _ _⟩
  have leaf : (k = 2 ∨ (23 ≤ k ∧ k ≤ 29)) → ∃ h', Fo_takePart_13 h 5 k = some (h', (if 64 ≤ tk ∨ (k = 2 ∧ 9999 < v) then ((2, (ws, op, tk, K, o, 1, mn)) : Int × fS_) else (0, (ws, op, tk + 1, ku_ K o (if k = 2 then -1 - v else k), o + 1, 0, mn))).1) ∧ ((if 64 ≤ tk ∨ (k = 2 ∧ 9999 < v) then ((2, (ws, op, tk, K, o, 1, mn)) : Int × fS_) else (0, (ws, op, tk + 1, ku_ K o (if k = 2 then -1 - v else k), o + 1, 0, mn))).1 = 0 → FCs h' t T c s (if 64 ≤ tk ∨ (k = 2 ∧ 9999 < v) then ((2, (ws, op, tk, K, o, 1, mn)) : Int × fS_) else (0, (ws, op, tk + 1, ku_ K o (if k = 2 then -1 - v else k), o + 1, 0, mn))).2) ∧ fr_ h h' (F5 t) := by
    intro lf
    rw [Fo_takePart_13_e]
    simp only [(S ()).2.2.2.2.2.2.1, (S ()).2.2.1.1]
    rw [ev, ck_t (by omega)]
    by_cases q1 : 64 ≤ tk
    · rw [if_pos q1, if_pos (c := 64 ≤ tk ∨ (k = 2 ∧ 9999 < v)) (Or.inl q1)]
      exact bad 2 (by omega) _
    · rw [if_neg q1]
      by_cases q2 : k = 2
      · rw [if_neg (fun y => y q2), ck_t (by omega), ck_t (by omega)]
        by_cases q3 : v ≤ 9999
        · rw [if_pos q3, if_neg (c := 64 ≤ tk ∨ (k = 2 ∧ 9999 < v)) (by omega)]
          obtain ⟨h', a1, a2, a3⟩ := Fo_tp17_l (k := k) f (by omega) (by omega) (by omega) (by omega) (by omega) ev (Or.inl ⟨q2, vb q2, q3⟩)
          exact ⟨h', a1, fun _ => a2, a3⟩
        · rw [if_neg q3, if_pos (c := 64 ≤ tk ∨ (k = 2 ∧ 9999 < v)) (Or.inr ⟨q2, by omega⟩)]
          exact bad 2 (by omega) _
      · rw [if_pos q2, if_neg (c := 64 ≤ tk ∨ (k = 2 ∧ 9999 < v)) (by omega)]
        obtain ⟨h', a1, a2, a3⟩ := Fo_tp17_l (k := k) f (by omega) (by omega) (by omega) (by omega) (by omega) ev (Or.inr (by omega))
        exact ⟨h', a1, fun _ => a2, a3⟩
  rw [Fo_takePart_e]
  simp only [(S ()).2.2.1.1, (S ()).2.2.2.2.2.1, (S ()).2.2.2.2.2.2.2.2.2]
  rw [ek]
  repeat rw [ck_t (by omega)]
  unfold tpt_
  by_cases q1 : k = 40
  · rw [if_neg (fun y => y q1), if_pos q1]
    by_cases q2 : op < 8
    · rw [if_pos q2, if_pos q2, w32_i (x := op + 1) (by omega) (by omega)]
      repeat rw [ck_t (by omega)]
      have f1 : FC (wr_ h 5 4 (op + 1)) t T c s ws (op + 1) tk K o 1 mn := FC_w f (by omega) f.2.2.2.1 rfl rfl rfl rfl rfl
      have f2 : FC (wr_ (wr_ h 5 4 (op + 1)) 5 8 1) t T c s ws (op + 1) tk K o 1 1 := FC_w f1 (by omega) f1.2.2.2.1 rfl rfl rfl rfl rfl
      obtain ⟨h2, a1, a2, a3⟩ := Fo_await_s (w := 40) f2 (by omega)
      rw [a1, bd_v]
      exact ⟨h2, rfl, fun _ => a2, fr_tr (fr_wr (Or.inl rfl)) (fr_tr (fr_wr (Or.inl rfl)) a3)⟩
    · rw [if_neg q2, if_neg q2]
      exact bad 2 (by omega) _
  · rw [if_pos q1, if_neg q1]
    by_cases q2 : k = 2 ∨ (23 ≤ k ∧ k ≤ 29)
    · rw [if_pos (c := k = 2 ∨ (23 ≤ k ∧ k ≤ 29)) q2]
      have l7 : Fo_takePart_7 h 5 k = Fo_takePart_13 h 5 k := by rw [Fo_takePart_7_e, if_pos (by omega)]
      by_cases q3 : k = 2
      · rw [if_pos q3, l7]
        exact leaf q2
      · rw [if_neg q3, if_neg (by omega), if_neg (by omega), l7]
        exact leaf q2
    · rw [if_neg (c := k = 2 ∨ (23 ≤ k ∧ k ≤ 29)) q2, if_neg (c := k = 2) (by omega)]
      by_cases q3 : k = 22
      · rw [if_pos (c := k < 23) (by omega), if_neg (c := (0 : Int) ≠ 0) (by omega), if_neg (fun y => y q3)]
        by_cases q4 : mn = 0
        · rw [if_neg (fun y => y q4), if_neg (c := k = 22 ∧ mn ≠ 0) (by omega)]
          exact bad 1 (by omega) _
        · rw [if_pos q4, if_pos (c := k = 22 ∧ mn ≠ 0) ⟨q3, q4⟩, Fo_takePart_13_e]
          simp only [(S ()).2.2.2.2.2.2.1]
          rw [ck_t (by omega)]
          by_cases q5 : 64 ≤ tk
          · rw [if_pos q5, if_pos q5]
            exact bad 2 (by omega) _
          · rw [if_neg q5, if_neg q5, if_pos (c := k ≠ 2) (by omega), q3]
            obtain ⟨h', a1, a2, a3⟩ := Fo_tp17_n f (by omega) (by omega) (by omega)
            exact ⟨h', a1, fun _ => a2, a3⟩
      · rw [if_neg (c := k = 22 ∧ mn ≠ 0) (by omega)]
        by_cases q4 : k < 23
        · rw [if_pos q4, if_neg (c := (0 : Int) ≠ 0) (by omega), if_pos q3]
          exact bad 1 (by omega) _
        · rw [if_neg q4, if_pos (c := 29 < k) (by omega), if_neg (c := (0 : Int) ≠ 0) (by omega), if_pos q3]
          exact bad 1 (by omega) _
theorem Fo_tj16 {h : am_H} {k : Int} (f : FC h t T c s ws op tk K o wp mn) (t0 : 0 ≤ tk) (l : tk < 64 → (ws.length : Int) < 72) : ∃ h', Fo_takeJoint_16 h 5 k = some (h', if 64 ≤ tk then 2 else 0) ∧ (¬ 64 ≤ tk → FC h' t T c s (k :: ws) op (tk + 1) K o 1 (if k = 20 ∨ k = 21 then 1 else 0)) ∧ fr_ h h' (F5 t) := by
  have S := fun (_ : Unit) => FC_sh f
  rw [Fo_takeJoint_16_e]
  simp only [(S ()).2.2.2.2.2.2.1]
  rw [ck_t (by omega)]
  by_cases q : 64 ≤ tk
  · rw [if_neg (by omega), if_pos q]
    exact ⟨h, rfl, fun y => absurd q y, fr_refl _ _⟩
  · rw [if_pos (by omega), if_neg q, w32_i (x := tk + 1) (by omega) (by omega)]
    have f1 : FC (wr_ h 5 5 (tk + 1)) t T c s ws op (tk + 1) K o wp mn := FC_w f (by omega) f.2.2.2.1 rfl rfl rfl rfl rfl
    have f2 : FC (wr_ (wr_ h 5 5 (tk + 1)) 5 7 1) t T c s ws op (tk + 1) K o 1 mn := FC_w f1 (by omega) f1.2.2.2.1 rfl rfl rfl rfl rfl
    have f3 : ∀ x : Int, FC (wr_ (wr_ (wr_ h 5 5 (tk + 1)) 5 7 1) 5 8 x) t T c s ws op (tk + 1) K o 1 x := fun x => FC_w f2 (by omega) f2.2.2.2.1 rfl rfl rfl rfl rfl
    have fin : ∀ x : Int, (if k = 20 ∨ k = 21 then (1 : Int) else 0) = x → ∃ h', (bd_ (Fo_await (wr_ (wr_ (wr_ h 5 5 (tk + 1)) 5 7 1) 5 8 x) 5 k) fun h1 v2 => some (h1, v2)) = some (h', 0) ∧ (¬ 64 ≤ tk → FC h' t T c s (k :: ws) op (tk + 1) K o 1 (if k = 20 ∨ k = 21 then 1 else 0)) ∧ fr_ h h' (F5 t) := fun x ex => by
      obtain ⟨h2, a1, a2, a3⟩ := Fo_await_s (w := k) (f3 x) (l (by omega))
      rw [a1, bd_v, ex]
      exact ⟨h2, rfl, fun _ => a2, fr_tr (fr_wr (Or.inl rfl)) (fr_tr (fr_wr (Or.inl rfl)) (fr_tr (fr_wr (Or.inl rfl)) a3))⟩
    repeat rw [ck_t (by omega)]
    by_cases q1 : k = 20
    · rw [if_pos q1]
      repeat rw [ck_t (by omega)]
      exact fin 1 (by rw [if_pos (Or.inl q1)])
    · rw [if_neg q1]
      by_cases q2 : k = 21
      · rw [if_neg (fun y => y q2)]
        repeat rw [ck_t (by omega)]
        exact fin 1 (by rw [if_pos (Or.inr q2)])
      · rw [if_pos q2]
        repeat rw [ck_t (by omega)]
        exact fin 0 (by rw [if_neg (by omega)])
theorem Fo_takeJoint_s {h : am_H} {k : Int} (f : FC h t T c s ws op tk K o 0 mn) (g : FV (T 0 4) ws op tk K o 0 mn) (ek : rd_ h 3 4 = k) : ∃ h', Fo_takeJoint h 5 = some (h', (tjt_ k ws op tk K o mn).1) ∧ ((tjt_ k ws op tk K o mn).1 = 0 → FCs h' t T c s (tjt_ k ws op tk K o mn).2) ∧ fr_ h h' (F5 t) := by
  have S := fun (_ : Unit) => FC_sh f
  obtain ⟨g1, g2, g3, g4, g5, g6, g7, g8, g9⟩ := g
  have cv := ct_v ws
  rw [show 1 + bj_ ws - 0 = 1 + bj_ ws by omega] at g9
  have PV := fun (m : Int) (m1 : 1 ≤ m) => pd_v (F := T 0 4) m1 ws K o g1.1 g1.2 g8 g9
  have P1 := fun (_ : Unit) => pd_1 g1.1 g1.2 g8 g9
  clear g9 g8
  rw [Fo_takeJoint_e]
  simp only [(S ()).2.2.1.1, (S ()).2.2.2.2.2.1]
  rw [ek]
  repeat rw [ck_t (by omega)]
  have third : ¬ (k = 41 ∧ 0 < op) → ∃ h', Fo_takeJoint_3 h 5 k = some (h', (tjt_ k ws op tk K o mn).1) ∧ ((tjt_ k ws op tk K o mn).1 = 0 → FCs h' t T c s (tjt_ k ws op tk K o mn).2) ∧ fr_ h h' (F5 t) := by
    intro q
    unfold tjt_
    rw [if_neg (c := k = 41 ∧ 0 < op) q, Fo_takeJoint_3_e, Fo_strength_s, bd_v]
    by_cases q1 : fsr_ k = 0
    · rw [if_pos q1, if_pos (c := fsr_ k = 0 ∨ k = 22) (Or.inl q1)]
      exact ⟨h, rfl, fun y => absurd (show (1 : Int) = 0 from y) (by omega), fr_refl _ _⟩
    · rw [if_neg q1]
      by_cases q2 : k = 22
      · rw [if_neg (fun y => y q2), if_pos (c := fsr_ k = 0 ∨ k = 22) (Or.inr q2)]
        exact ⟨h, rfl, fun y => absurd (show (1 : Int) = 0 from y) (by omega), fr_refl _ _⟩
      · rw [if_pos q2, if_neg (c := fsr_ k = 0 ∨ k = 22) (by omega), Fo_strength_s, bd_v, show fsr_ 32 = 4 by decide]
        obtain ⟨h1, a1, a2, a3⟩ := Fo_putDown_s (m := lst_ k) (lst_1 q1) g1.1 ws h K o f g1.2 (by omega) (by omega)
        have pv := PV (lst_ k) (lst_1 q1)
        have pl := pd_len (m := lst_ k) ws K o
        have cq := ct_v (pd_ (lst_ k) ws K o).1
        obtain ⟨h2, b1, b2, b3⟩ := Fo_tj16 (k := k) a2 (by omega) (fun y => by have := pv.2.1; have := pv.2.2.1; omega)
        have S1 := fun (_ : Unit) => FC_sh a2
        have F2 := fr_tr a3 b3
        have end_ : ¬ (fsr_ k = 4 ∧ fsr_ ((pd_ (lst_ k) ws K o).1.headD 0) = 4) → ∃ h', Fo_takeJoint_16 h1 5 k = some (h', (if fsr_ k = 4 ∧ fsr_ ((pd_ (lst_ k) ws K o).1.headD 0) = 4 then ((1, (ws, op, tk, K, o, 0, mn)) : Int × fS_) else if 64 ≤ tk then (2, (ws, op, tk, K, o, 0, mn)) else (0, (k :: (pd_ (lst_ k) ws K o).1, op, tk + 1, (pd_ (lst_ k) ws K o).2.1, (pd_ (lst_ k) ws K o).2.2, 1, if k = 20 ∨ k = 21 then 1 else 0))).1) ∧ ((if fsr_ k = 4 ∧ fsr_ ((pd_ (lst_ k) ws K o).1.headD 0) = 4 then ((1, (ws, op, tk, K, o, 0, mn)) : Int × fS_) else if 64 ≤ tk then (2, (ws, op, tk, K, o, 0, mn)) else (0, (k :: (pd_ (lst_ k) ws K o).1, op, tk + 1, (pd_ (lst_ k) ws K o).2.1, (pd_ (lst_ k) ws K o).2.2, 1, if k = 20 ∨ k = 21 then 1 else 0))).1 = 0 → FCs h' t T c s (if fsr_ k = 4 ∧ fsr_ ((pd_ (lst_ k) ws K o).1.headD 0) = 4 then ((1, (ws, op, tk, K, o, 0, mn)) : Int × fS_) else if 64 ≤ tk then (2, (ws, op, tk, K, o, 0, mn)) else (0, (k :: (pd_ (lst_ k) ws K o).1, op, tk + 1, (pd_ (lst_ k) ws K o).2.1, (pd_ (lst_ k) ws K o).2.2, 1, if k = 20 ∨ k = 21 then 1 else 0))).2) ∧ fr_ h h' (F5 t) := by
          intro nc
          rw [if_neg nc, b1]
          by_cases y : 64 ≤ tk
          · rw [if_pos y, if_pos y]
            exact ⟨h2, rfl, fun z => absurd (show (2 : Int) = 0 from z) (by omega), F2⟩
          · rw [if_neg y, if_neg y]
            exact ⟨h2, rfl, fun _ => b2 y, F2⟩
        by_cases q4 : fsr_ k = 4
        · have l5 : lst_ k = 5 := by unfold lst_; rw [if_pos q4]
          have a1' : Fo_putDown h 5 5 = some (h1, 0) := by have y := a1; rw [l5] at y; exact y
          rw [if_neg (fun y => y q4), if_neg (c := (1 : Int) = 0) (by omega), Fo_takeJoint_12_e, q4, w32_i (x := 4 + 1) (by omega) (by omega), ck_t (by omega), show (4 : Int) + 1 = 5 by omega, a1', bd_v, if_neg (c := (1 : Int) = 0) (by omega)]
          rw [q4] at end_
          rw [(S1 ()).2.2.2.2.1, (S1 ()).2.1.1, (S1 ()).2.1.2, ck_t (by omega)]
          cases e : (pd_ (lst_ k) ws K o).1 with
          | nil =>
            rw [e] at end_ pl
            have e0 : (([] : List Int).length : Int) = 0 := rfl
            rw [if_pos (by omega)]
            exact end_ (fun y => absurd y.2 (by decide))
          | cons w r =>
            rw [e] at end_ pl
            have e1 : ((w :: r).length : Int) = (r.length : Int) + 1 := by simp
            have ew : rd_ h1 6 r.length = w := by have := a2.2.2.2.1; rw [e] at this; exact this.1
            rw [if_neg (by omega), e1, w32_i (x := (r.length : Int) + 1 - 1) (by omega) (by omega), show (r.length : Int) + 1 - 1 = r.length by omega]
            repeat rw [ck_t (by omega)]
            rw [ew, Fo_strength_s, bd_v]
            by_cases q5 : fsr_ w = 4
            · rw [if_neg (fun y => y q5), if_pos (c := (4 : Int) = 4 ∧ fsr_ ((w :: r).headD 0) = 4) ⟨rfl, q5⟩]
              exact ⟨h1, rfl, fun y => absurd (show (1 : Int) = 0 from y) (by omega), a3⟩
            · rw [if_pos q5]
              exact end_ (fun y => q5 y.2)
        · have l5 : lst_ k = fsr_ k := by unfold lst_; rw [if_neg q4]
          rw [if_pos q4, if_pos (c := (0 : Int) = 0) rfl, Fo_takeJoint_12_e, ck_t (by omega)]
          have a1' : Fo_putDown h 5 (fsr_ k) = some (h1, 0) := by rw [← l5]; exact a1
          rw [a1', bd_v, if_pos (c := (0 : Int) = 0) rfl]
          exact end_ (fun y => q4 y.1)
  by_cases q1 : k = 41
  · rw [if_neg (fun y => y q1)]
    by_cases q2 : op ≤ 0
    · rw [if_pos q2]
      exact third (by omega)
    · rw [if_neg q2]
      obtain ⟨h1, a1, a2, a3⟩ := Fo_putDown_s (m := 1) (by omega) g1.1 ws h K o f g1.2 (by omega) (by omega)
      have pl := pd_len (m := 1) ws K o
      have S1 := fun (_ : Unit) => FC_sh a2
      unfold tjt_
      rw [if_pos (c := k = 41 ∧ 0 < op) ⟨q1, by omega⟩, a1, bd_v]
      rcases P1 () with ⟨_, y⟩ | ⟨r, y⟩
      · omega
      · have e1 : ((40 :: r).length : Int) = (r.length : Int) + 1 := by simp
        rw [y] at pl a2 ⊢
        have S2 := fun (_ : Unit) => FC_sh a2
        have f1 : FC (wr_ h1 5 3 r.length) t T c s r op tk (pd_ 1 ws K o).2.1 (pd_ 1 ws K o).2.2 0 mn := FC_w a2 (by omega) a2.2.2.2.1.2 rfl rfl rfl rfl rfl
        have f2 : FC (wr_ (wr_ h1 5 3 r.length) 5 4 (op - 1)) t T c s r (op - 1) tk (pd_ 1 ws K o).2.1 (pd_ 1 ws K o).2.2 0 mn := FC_w f1 (by omega) f1.2.2.2.1 rfl rfl rfl rfl rfl
        refine ⟨wr_ (wr_ h1 5 3 r.length) 5 4 (op - 1), ?_, fun _ => f2, fr_tr a3 (fr_tr (fr_wr (Or.inl rfl)) (fr_wr (Or.inl rfl)))⟩
        rw [(S2 ()).2.2.2.2.1, e1, w32_i (x := (r.length : Int) + 1 - 1) (by omega) (by omega), show (r.length : Int) + 1 - 1 = r.length by omega, rd_wk (by omega), (S2 ()).2.2.2.2.2.1, w32_i (x := op - 1) (by omega) (by omega)]
        repeat rw [ck_t (by omega)]
  · rw [if_pos q1]
    exact third (by omega)
end
