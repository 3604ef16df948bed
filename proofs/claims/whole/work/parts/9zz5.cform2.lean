/-! a formula in the class: its steps -/
def FC (h : am_H) (t : Int) (T : Tx) (c s : Int) (ws : List Int) (op tk : Int) (K : Int → Int) (o wp mn : Int) : Prop := RT h t T c s ∧ (rf_ h 5 1 = 3 ∧ rf_ h 5 2 = t) ∧ (rd_ h 5 3 = ws.length ∧ rd_ h 5 4 = op ∧ rd_ h 5 5 = tk ∧ rd_ h 5 6 = o ∧ rd_ h 5 7 = wp ∧ rd_ h 5 8 = mn) ∧ wl_ (rd_ h 6) (fun x => x) ws ∧ ∀ j, T 0 4 ≤ j → j < o → rd_ h (t + 17) j = K j
def F5 (t a : Int) : Prop := a = 5 ∨ a = 6 ∨ a = t + 17
theorem Fo_strength_s (h : am_H) (k : Int) : Fo_strength h k = some (h, fsr_ k) := by
  rw [Fo_strength_e]
  by_cases q : 20 ≤ k ∧ k ≤ 39
  · have c : k = 20 ∨ k = 21 ∨ k = 22 ∨ k = 23 ∨ k = 24 ∨ k = 25 ∨ k = 26 ∨ k = 27 ∨ k = 28 ∨ k = 29 ∨ k = 30 ∨ k = 31 ∨ k = 32 ∨ k = 33 ∨ k = 34 ∨ k = 35 ∨ k = 36 ∨ k = 37 ∨ k = 38 ∨ k = 39 := by omega
    rcases c with c | c | c | c | c | c | c | c | c | c | c | c | c | c | c | c | c | c | c | c <;> subst c <;> rfl
  · unfold fsr_
    repeat rw [if_neg (by omega)]
section
variable {t c s op tk o wp mn : Int} {T : Tx} {ws : List Int} {K : Int → Int}
theorem RT_kw {h : am_H} {k v : Int} (r : RT h t T c s) (q : T 0 4 ≤ k) : RT (wr_ h (t + 17) k v) t T c s := by
  obtain ⟨t0, sc, r2, ⟨sh, ⟨f0, f1, f2, f3⟩, o1, o2, o3, o4, o5⟩, w, e4, e5⟩ := r
  have f : fr_ h (wr_ h (t + 17) k v) (fun b => b = t + 17) := fr_wr rfl
  refine ⟨t0, ShC_of rfl sc, r2, ⟨ShT_of rfl sh, ⟨by rw [rd_wo (by omega)]; exact f0, by rw [rd_wo (by omega)]; exact f1, by rw [rd_wo (by omega)]; exact f2, by rw [rd_wo (by omega)]; exact f3⟩, ?_, ?_, ?_, ?_, ?_⟩, WO_fr w f (fun x y z => by omega), by rw [rd_wo (by omega)]; exact e4, by rw [rd_wo (by omega)]; exact e5⟩
  · intro j j0 j1
    rw [rd_wo (by omega), rd_wo (by omega)]; exact o1 j j0 j1
  · intro j j0 j1
    rw [rd_wo (by omega)]; exact o2 j j0 j1
  · intro j j0 j1
    rw [rd_wo (by omega), rd_wo (by omega), rd_wo (by omega), rd_wo (by omega)]; exact o3 j j0 j1
  · intro j j0 j1
    rw [rd_wk (by omega)]; exact o4 j j0 j1
  · intro j j0 j1
    rw [rd_wo (by omega), rd_wo (by omega)]; exact o5 j j0 j1
theorem FC_sh {h : am_H} (f : FC h t T c s ws op tk K o wp mn) : (7 ≤ t ∧ t ≤ 27) ∧ (rf_ h 5 0 = 6 ∧ ln_ h 6 = 72) ∧ (rf_ h 5 1 = 3 ∧ rf_ h 5 2 = t) ∧ (rf_ h t 14 = t + 17 ∧ ln_ h (t + 17) = 64) ∧ (rd_ h 5 3 = ws.length ∧ rd_ h 5 4 = op ∧ rd_ h 5 5 = tk ∧ rd_ h 5 6 = o ∧ rd_ h 5 7 = wp ∧ rd_ h 5 8 = mn) := by
  obtain ⟨r, a, b, d, e⟩ := f
  have sh := r.2.2.2.1.1
  exact ⟨by have := r.1; omega, ⟨cr5_0 r.2.1, cl6 r.2.1⟩, a, ⟨sh.2.2.2.2.2.2.2.2.2.1, sh.2.2.2.2.2.2.2.2.2.2.2.2.2.2.2.2.2.2.2.1⟩, b⟩
/-- a number of the formula's own is written -/
theorem FC_w {h : am_H} {k v : Int} {ws' : List Int} {op' tk' wp' mn' : Int} (f : FC h t T c s ws op tk K o wp mn) (k6 : k ≠ 6) (l : wl_ (rd_ h 6) (fun x => x) ws') (e3 : (if k = 3 then v else (ws.length : Int)) = ws'.length) (e4 : (if k = 4 then v else op) = op') (e5 : (if k = 5 then v else tk) = tk') (e7 : (if k = 7 then v else wp) = wp') (e8 : (if k = 8 then v else mn) = mn') : FC (wr_ h 5 k v) t T c s ws' op' tk' K o wp' mn' := by
  obtain ⟨r, a, ⟨b3, b4, b5, b6, b7, b8⟩, d, e⟩ := f
  have tb : 7 ≤ t ∧ t ≤ 27 := by have := r.1; omega
  have F : fr_ h (wr_ h 5 k v) (fun x => x = 5) := fr_wr rfl
  have g : ∀ x j : Int, rd_ h 5 j = x → rd_ (wr_ h 5 k v) 5 j = if k = j then v else x := fun x j y => by
    rw [rd_wa]
    by_cases z : j = k
    · rw [if_pos z, if_pos z.symm]
    · rw [if_neg z, if_neg (fun q => z q.symm)]; exact y
  refine ⟨RT_fr r F (fun x p q => by omega), a, ⟨by rw [g _ _ b3]; exact e3, by rw [g _ _ b4]; exact e4, by rw [g _ _ b5]; exact e5, by rw [g _ _ b6, if_neg k6], by rw [g _ _ b7]; exact e7, by rw [g _ _ b8]; exact e8⟩, wl_cg l (fun j _ _ => rd_wo (by omega)), fun j x y => by rw [rd_wo (by omega)]; exact e j x y⟩
theorem Fo_put_s {h : am_H} {w : Int} (f : FC h t T c s ws op tk K o wp mn) (z : 0 ≤ T 0 4) (o0 : T 0 4 ≤ o) (o1 : o < 64) : ∃ h', Fo_put h 5 w = some (h', 0) ∧ FC h' t T c s ws op tk (ku_ K o w) (o + 1) wp mn ∧ fr_ h h' (F5 t) := by
  have S := fun (_ : Unit) => FC_sh f
  have tb := (S ()).1
  refine ⟨wr_ (wr_ h (t + 17) o w) 5 6 (o + 1), ?_, ?_, fr_tr (fr_wr (Or.inr (Or.inr rfl))) (fr_wr (Or.inl rfl))⟩
  · rw [Fo_put_e]
    simp only [(S ()).2.2.2.2.2.2.2.1, (S ()).2.2.1.2, (S ()).2.2.2.1.1, (S ()).2.2.2.1.2]
    repeat rw [ck_t (by omega)]
    rw [if_neg (by omega)]
    repeat rw [ck_t (by omega)]
    rw [rd_wo (by omega), (S ()).2.2.2.2.2.2.2.1, w32_i (by omega) (by omega)]
  · obtain ⟨r, a, ⟨b3, b4, b5, b6, b7, b8⟩, d, e⟩ := f
    have F : fr_ (wr_ h (t + 17) o w) (wr_ (wr_ h (t + 17) o w) 5 6 (o + 1)) (fun x => x = 5) := fr_wr rfl
    refine ⟨RT_fr (RT_kw r o0) F (fun x p q => by omega), a, ⟨?_, ?_, ?_, rd_ws _ _ _ _, ?_, ?_⟩, wl_cg d (fun j _ _ => by rw [rd_wo (by omega), rd_wo (by omega)]), fun j x y => ?_⟩
    · rw [rd_wk (by omega), rd_wo (by omega)]; exact b3
    · rw [rd_wk (by omega), rd_wo (by omega)]; exact b4
    · rw [rd_wk (by omega), rd_wo (by omega)]; exact b5
    · rw [rd_wk (by omega), rd_wo (by omega)]; exact b7
    · rw [rd_wk (by omega), rd_wo (by omega)]; exact b8
    · rw [rd_wo (by omega), rd_wa]
      unfold ku_
      by_cases q : j = o
      · rw [if_pos q, if_pos q]
      · rw [if_neg q, if_neg q]; exact e j x (by omega)
theorem Fo_await_s {h : am_H} {w : Int} (f : FC h t T c s ws op tk K o wp mn) (l : (ws.length : Int) < 72) : ∃ h', Fo_await h 5 w = some (h', 0) ∧ FC h' t T c s (w :: ws) op tk K o wp mn ∧ fr_ h h' (F5 t) := by
  have S := fun (_ : Unit) => FC_sh f
  have tb := (S ()).1
  have e1 : ((w :: ws).length : Int) = (ws.length : Int) + 1 := by simp
  refine ⟨wr_ (wr_ h 6 ws.length w) 5 3 (ws.length + 1), ?_, ?_, fr_tr (fr_wr (Or.inr (Or.inl rfl))) (fr_wr (Or.inl rfl))⟩
  · rw [Fo_await_e]
    simp only [(S ()).2.2.2.2.1, (S ()).2.1.1, (S ()).2.1.2]
    repeat rw [ck_t (by omega)]
    rw [if_pos (by omega)]
    repeat rw [ck_t (by omega)]
    rw [rd_wo (by omega), (S ()).2.2.2.2.1, w32_i (by omega) (by omega)]
  · obtain ⟨r, a, ⟨b3, b4, b5, b6, b7, b8⟩, d, e⟩ := f
    have F : fr_ h (wr_ (wr_ h 6 ws.length w) 5 3 (ws.length + 1)) (fun x => x = 5 ∨ x = 6) := fr_tr (fr_wr (Or.inr rfl)) (fr_wr (Or.inl rfl))
    refine ⟨RT_fr r F (fun x p q => by omega), a, ⟨by rw [rd_ws, e1], ?_, ?_, ?_, ?_, ?_⟩, ⟨?_, wl_cg d (fun j _ _ => by rw [rd_wo (by omega), rd_wk (by omega)])⟩, fun j x y => ?_⟩
    · rw [rd_wk (by omega), rd_wo (by omega)]; exact b4
    · rw [rd_wk (by omega), rd_wo (by omega)]; exact b5
    · rw [rd_wk (by omega), rd_wo (by omega)]; exact b6
    · rw [rd_wk (by omega), rd_wo (by omega)]; exact b7
    · rw [rd_wk (by omega), rd_wo (by omega)]; exact b8
    · rw [rd_wo (by omega), rd_ws]
    · rw [rd_wo (by omega), rd_wo (by omega)]; exact e j x y
theorem Fo_putDown_s {m : Int} (m1 : 1 ≤ m) (z : 0 ≤ T 0 4) : ∀ (ws : List Int) (h : am_H) (K : Int → Int) (o : Int), FC h t T c s ws op tk K o wp mn → T 0 4 ≤ o → o + nb_ ws ≤ 64 → (ws.length : Int) ≤ 72 → ∃ h', Fo_putDown h 5 m = some (h', 0) ∧ FC h' t T c s (pd_ m ws K o).1 op tk (pd_ m ws K o).2.1 (pd_ m ws K o).2.2 wp mn ∧ fr_ h h' (F5 t) := by
  intro ws
  induction ws with
  | nil =>
    intro h K o f o0 _ _
    have S := fun (_ : Unit) => FC_sh f
    refine ⟨h, ?_, f, fr_refl _ _⟩
    have e0 : (([] : List Int).length : Int) = 0 := rfl
    rw [Fo_putDown_e, (S ()).2.2.2.2.1, ck_t (by omega), if_pos (by omega)]
  | cons w r ih =>
    intro h K o f o0 ob lb
    have S := fun (_ : Unit) => FC_sh f
    have e1 : ((w :: r).length : Int) = (r.length : Int) + 1 := by simp
    have ew : rd_ h 6 r.length = w := f.2.2.2.1.1
    rw [Fo_putDown_e]
    simp only [(S ()).2.2.2.2.1, (S ()).2.1.1, (S ()).2.1.2, rd_ws]
    rw [e1, ck_t (by omega), if_neg (by omega), w32_i (x := (r.length : Int) + 1 - 1) (by omega) (by omega), show (r.length : Int) + 1 - 1 = r.length by omega]
    repeat rw [ck_t (by omega)]
    rw [ew, Fo_strength_s, bd_v, pd_c]
    by_cases q : fsr_ w < m
    · rw [if_pos q, if_pos q]
      exact ⟨h, rfl, f, fr_refl _ _⟩
    · rw [if_neg q, if_neg q]
      have n40 : w ≠ 40 := fun e => by rw [e, fsr_40] at q; omega
      have cv := ct_v r
      rw [nb_c, if_neg n40] at ob
      have f1 : FC (wr_ h 5 3 r.length) t T c s r op tk K o wp mn := FC_w f (by omega) f.2.2.2.1.2 rfl rfl rfl rfl rfl
      obtain ⟨h2, a1, a2, a3⟩ := Fo_put_s (w := w) f1 z o0 (by omega)
      obtain ⟨h3, b1, b2, b3⟩ := ih h2 (ku_ K o w) (o + 1) a2 (by omega) (by omega) (by omega)
      refine ⟨h3, ?_, b2, fr_tr (fr_wr (Or.inl rfl)) (fr_tr a3 b3)⟩
      simp only [(S ()).2.1.1, (S ()).2.1.2, (S ()).2.2.2.2.1, rd_ws]
      rw [e1, w32_i (x := (r.length : Int) + 1 - 1) (by omega) (by omega), show (r.length : Int) + 1 - 1 = r.length by omega]
      repeat rw [ck_t (by omega)]
      rw [rd_wo (by omega), ew, a1, bd_v, b1]
end
