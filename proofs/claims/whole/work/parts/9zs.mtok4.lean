/-! a token in the reference, all of it -/
section
variable {B : Int → Int} {n : Int}
theorem Mo_signToken_s {h : am_H} {s : Int} (t : MTk h B n s) (s1 : s < n) : ∃ h', Mo_signToken h 94 = some (h', 0) ∧ MTk h' B n (sn_k B n s).2 ∧ rd_ h' 94 10 = rd_ h 94 10 ∧ MRk (sn_k B n s).1 0 (rd_ h' 94 8) (rd_ h' 94 9) ∧ fzK h h' := by
  obtain ⟨a, b, c, d, e⟩ := id t
  have es := e s (by omega) s1
  have t1 : MTk (wr_ (wr_ h 94 9 (B s % 256)) 94 7 (s + 1)) B n (s + 1) := MT_n (MT_w t (by omega)) (by omega) (by omega)
  have e9 : rd_ (wr_ (wr_ h 94 9 (B s % 256)) 94 7 (s + 1)) 94 9 = B s % 256 := by rw [rd_wk (by omega), rd_ws]
  have e10 : rd_ (wr_ (wr_ h 94 9 (B s % 256)) 94 7 (s + 1)) 94 10 = rd_ h 94 10 := by rw [rd_wk (by omega), rd_wk (by omega)]
  have Z1 : fzK h (wr_ (wr_ h 94 9 (B s % 256)) 94 7 (s + 1)) := fz_tr (fz_wf ⟨by omega, by omega⟩) (fz_wf ⟨by omega, by omega⟩)
  have r7 : rd_ (wr_ h 94 9 (B s % 256)) 94 7 = s := by rw [rd_wk (by omega)]; exact c.2
  rw [Mo_signToken_e]
  simp only [mr0 a, ml95 a, c.2, es.1, r7, w32_i (x := s + 1) (by omega) (by omega)]
  generalize wr_ (wr_ h 94 9 (B s % 256)) 94 7 (s + 1) = h1 at t1 e9 e10 Z1 ⊢
  obtain ⟨ta, tb, tc, td, te⟩ := id t1
  simp only [e9, tc.1, tc.2]
  rw [ck_t (by omega), ck_t (by omega), ck_t (by omega), ck_t (by omega), ck_t (by omega), ck_t (by omega), ck_t (by omega), ck_t (by omega)]
  have cmp : (B s = 60 ∨ B s = 61 ∨ B s = 62) → ∃ h', (ck_ (0 ≤ (94 : Int)) (ck_ (0 ≤ (94 : Int)) (if n ≤ s + 1 then Mo_signToken_6 h1 94 0 else ck_ (0 ≤ (94 : Int)) (ck_ (0 ≤ (94 : Int)) (ck_ (0 ≤ (95 : Int)) (ck_ (0 ≤ s + 1 ∧ s + 1 < 700) (Mo_signToken_6 h1 94 (rd_ h1 95 (s + 1)))))))) : am_O) = some (h', 0) ∧ MTk h' B n (sn_k B n s).2 ∧ rd_ h' 94 10 = rd_ h 94 10 ∧ MRk (sn_k B n s).1 0 (rd_ h' 94 8) (rd_ h' 94 9) ∧ fzK h h' := by
    intro q
    rw [ck_t (by omega), ck_t (by omega)]
    have em : B s % 256 = B s := by omega
    rw [em] at e9
    have fin : ∀ y, y = (if s + 1 < n then B (s + 1) % 256 else 0) → ∃ h', Mo_signToken_6 h1 94 y = some (h', 0) ∧ MTk h' B n (sn_k B n s).2 ∧ rd_ h' 94 10 = rd_ h 94 10 ∧ MRk (sn_k B n s).1 0 (rd_ h' 94 8) (rd_ h' 94 9) ∧ fzK h h' := by
      intro y yy
      obtain ⟨h', z1, z2, z3, z4, z5, z6, z7⟩ := Mo_sg_6 t1 e9 (by omega) q yy rfl
      exact ⟨h', z1, z2, z6.trans e10, by rw [z3, z4]; exact Or.inr (Or.inr (Or.inr (Or.inr (Or.inr (Or.inl ⟨z5.1, z5.2, rfl, rfl⟩))))), fz_tr Z1 z7⟩
    by_cases r : n ≤ s + 1
    · rw [if_pos r]
      exact fin 0 (by rw [if_neg (by omega)])
    · have e2 := te (s + 1) (by omega) (by omega)
      rw [if_neg r, ck_t (by omega), ck_t (by omega), ck_t (by omega), ck_t (by omega), e2.1]
      exact fin _ (by rw [if_pos (by omega)])
  have four : ∀ K, MRk (sg_k (B s)) 0 K (B s % 256) → sg_k (B s) ≠ 30 → sg_k (B s) ≠ 35 → ∃ h', (some (wr_ h1 94 8 K, (0 : Int)) : am_O) = some (h', 0) ∧ MTk h' B n (sn_k B n s).2 ∧ rd_ h' 94 10 = rd_ h 94 10 ∧ MRk (sn_k B n s).1 0 (rd_ h' 94 8) (rd_ h' 94 9) ∧ fzK h h' := by
    intro K mk n1 n2
    have en : sn_k B n s = (sg_k (B s), s + 1) := by unfold sn_k; rw [if_neg (by omega)]
    rw [en]
    exact ⟨_, rfl, MT_w t1 (by omega), by rw [rd_wk (by omega)]; exact e10, by rw [rd_ws, rd_wk (by omega), e9]; exact mk, fz_tr Z1 (fz_wf ⟨by omega, by omega⟩)⟩
  by_cases q60 : B s = 60
  · rw [if_pos (c := B s % 256 = 60) (by omega)]
    exact cmp (Or.inl q60)
  rw [if_neg (c := B s % 256 = 60) (by omega)]
  rw [ck_t (by omega)]
  by_cases q62 : B s = 62
  · rw [if_pos (c := B s % 256 = 62) (by omega)]
    exact cmp (Or.inr (Or.inr q62))
  rw [if_neg (c := B s % 256 = 62) (by omega)]
  rw [ck_t (by omega)]
  by_cases q61 : B s = 61
  · rw [if_neg (c := B s % 256 ≠ 61) (by omega)]
    exact cmp (Or.inr (Or.inl q61))
  rw [if_pos (c := B s % 256 ≠ 61) (by omega)]
  rw [ck_t (by omega)]
  by_cases q59 : B s = 59
  · have sk : sg_k (B s) = 42 := by rw [q59]; rfl
    rw [if_pos (c := B s % 256 = 59) (by omega), if_neg (c := (1 : Int) = 0) (by omega), ck_t (by omega)]
    refine four 4 ?_ (by omega) (by omega)
    rw [sk, q59]
    exact Or.inr (Or.inr (Or.inr (Or.inr (Or.inr (Or.inr ⟨by omega, by omega, rfl, rfl⟩)))))
  rw [if_neg (c := B s % 256 = 59) (by omega)]
  rw [ck_t (by omega)]
  by_cases q40 : B s = 40
  · have sk : sg_k (B s) = 40 := by rw [q40]; rfl
    rw [if_pos (c := B s % 256 = 40) (by omega), if_neg (c := (1 : Int) = 0) (by omega), ck_t (by omega)]
    refine four 4 ?_ (by omega) (by omega)
    rw [sk, q40]
    exact Or.inr (Or.inr (Or.inr (Or.inr (Or.inr (Or.inr ⟨by omega, by omega, rfl, rfl⟩)))))
  rw [if_neg (c := B s % 256 = 40) (by omega)]
  rw [ck_t (by omega)]
  by_cases q41 : B s = 41
  · have sk : sg_k (B s) = 41 := by rw [q41]; rfl
    rw [if_pos (c := B s % 256 = 41) (by omega), if_neg (c := (1 : Int) = 0) (by omega), ck_t (by omega)]
    refine four 4 ?_ (by omega) (by omega)
    rw [sk, q41]
    exact Or.inr (Or.inr (Or.inr (Or.inr (Or.inr (Or.inr ⟨by omega, by omega, rfl, rfl⟩)))))
  rw [if_neg (c := B s % 256 = 41) (by omega)]
  rw [ck_t (by omega)]
  by_cases q43 : B s = 43
  · have sk : sg_k (B s) = 36 := by rw [q43]; rfl
    rw [if_pos (c := B s % 256 = 43) (by omega), if_neg (c := (1 : Int) = 0) (by omega), ck_t (by omega)]
    refine four 4 ?_ (by omega) (by omega)
    rw [sk, q43]
    exact Or.inr (Or.inr (Or.inr (Or.inr (Or.inr (Or.inr ⟨by omega, by omega, rfl, rfl⟩)))))
  rw [if_neg (c := B s % 256 = 43) (by omega)]
  rw [ck_t (by omega)]
  by_cases q45 : B s = 45
  · have sk : sg_k (B s) = 37 := by rw [q45]; rfl
    rw [if_pos (c := B s % 256 = 45) (by omega), if_neg (c := (1 : Int) = 0) (by omega), ck_t (by omega)]
    refine four 4 ?_ (by omega) (by omega)
    rw [sk, q45]
    exact Or.inr (Or.inr (Or.inr (Or.inr (Or.inr (Or.inr ⟨by omega, by omega, rfl, rfl⟩)))))
  rw [if_neg (c := B s % 256 = 45) (by omega)]
  rw [ck_t (by omega)]
  by_cases q42 : B s = 42
  · have sk : sg_k (B s) = 38 := by rw [q42]; rfl
    rw [if_pos (c := B s % 256 = 42) (by omega), if_neg (c := (1 : Int) = 0) (by omega), ck_t (by omega)]
    refine four 4 ?_ (by omega) (by omega)
    rw [sk, q42]
    exact Or.inr (Or.inr (Or.inr (Or.inr (Or.inr (Or.inr ⟨by omega, by omega, rfl, rfl⟩)))))
  rw [if_neg (c := B s % 256 = 42) (by omega)]
  rw [ck_t (by omega)]
  by_cases q47 : B s = 47
  · have sk : sg_k (B s) = 39 := by rw [q47]; rfl
    rw [if_pos (c := B s % 256 = 47) (by omega), if_neg (c := (1 : Int) = 0) (by omega), ck_t (by omega)]
    refine four 4 ?_ (by omega) (by omega)
    rw [sk, q47]
    exact Or.inr (Or.inr (Or.inr (Or.inr (Or.inr (Or.inr ⟨by omega, by omega, rfl, rfl⟩)))))
  rw [if_neg (c := B s % 256 = 47) (by omega)]
  rw [ck_t (by omega)]
  have sk : sg_k (B s) = 1 := by
    unfold sg_k
    rw [if_neg q40, if_neg q41, if_neg q42, if_neg q43, if_neg q45, if_neg q47, if_neg q59, if_neg q60, if_neg q61, if_neg q62]
  by_cases q37 : B s % 256 = 37
  · rw [if_neg (fun z => z q37), if_neg (c := (1 : Int) = 0) (by omega), ck_t (by omega)]
    refine four 4 ?_ (by omega) (by omega)
    rw [sk]
    exact Or.inr (Or.inl ⟨rfl, Or.inr ⟨rfl, q37⟩⟩)
  · rw [if_pos q37, if_pos (c := True) trivial, ck_t (by omega)]
    refine four 6 ?_ (by omega) (by omega)
    rw [sk]
    exact Or.inr (Or.inl ⟨rfl, Or.inl rfl⟩)
theorem Mo_token_s {h : am_H} {p : Int} (t : MTk h B n p) : ∃ h', Mo_token h 94 = some (h', 0) ∧ MR h' B n p ∧ fzK h h' := by
  have p0 := t.2.2.2.1
  obtain ⟨h1, a1, a2, a3⟩ := Mo_tk_ws (n - p).toNat p h t (by omega)
  have es : fe_ (isW B) (n - p).toNat p = tp_ B n p := rfl
  rw [es] at a2
  have tv := tp_v (B := B) (n := n) (p := p) (by omega)
  rw [a1]
  unfold MR tk_n tk_k tk_v
  generalize tp_ B n p = s at *
  obtain ⟨a, b, c, d, e⟩ := id a2
  have t2 : MTk (wr_ h1 94 10 s) B n s := MT_w a2 (by omega)
  have Z2 : fzK h (wr_ h1 94 10 s) := fz_tr a3 (fz_wf ⟨by omega, by omega⟩)
  have e10 : rd_ (wr_ h1 94 10 s) 94 10 = s := rd_ws _ _ _ _
  rw [Mo_token_4_e, c.2, ck_t (by omega), ck_t (by omega), ck_t (by omega), ck_t (by omega), t2.2.2.1.1, t2.2.2.1.2]
  generalize wr_ h1 94 10 s = h2 at t2 Z2 e10 ⊢
  obtain ⟨ta, tb, tc, td, te⟩ := id t2
  by_cases q : n ≤ s
  · rw [if_neg (c := s ≠ n) (by omega), if_pos q, if_pos q, if_pos q, ck_t (by omega)]
    exact ⟨_, rfl, ⟨MT_w t2 (by omega), by rw [rd_wk (by omega)]; exact e10, by rw [rd_ws]; exact Or.inl ⟨rfl, rfl⟩⟩, fz_tr Z2 (fz_wf ⟨by omega, by omega⟩)⟩
  · rw [if_pos (c := s ≠ n) (by omega), if_neg q, if_neg q, if_neg q, ck_t (by omega), ck_t (by omega), Mo_isSmall_s t2 (by omega) (by omega), bd_v, if_pos (c := s < n) (by omega)]
    cases l : isL B s with
    | true =>
      rw [bz_t, if_neg (by omega), if_pos (c := true = true) rfl, if_pos (c := true = true) rfl, if_pos (c := true = true) rfl]
      obtain ⟨h', y1, y2, y3, y4, y5⟩ := Mo_tk_7 (s := s) (by omega) (by omega) l (n - s).toNat s h2 t2 (by omega) (Int.le_refl _) rfl e10
      exact ⟨h', y1, ⟨y2, y3, y4⟩, fz_tr Z2 y5⟩
    | false =>
      rw [bz_f, if_pos rfl, if_neg (c := false = true) (by simp), if_neg (c := false = true) (by simp), if_neg (c := false = true) (by simp), ck_t (by omega), ck_t (by omega), tc.2, Mo_isDigit_s t2 (by omega) (by omega), bd_v, if_pos (c := s < n) (by omega)]
      cases dg : isD B s with
      | true =>
        rw [bz_t, if_neg (by omega), if_pos (c := true = true) rfl, if_pos (c := true = true) rfl, if_pos (c := true = true) rfl, ck_t (by omega), ck_t (by omega)]
        obtain ⟨h', y1, y2, y3, y4, y5, y6⟩ := Mo_tk_18 (B := B) (n := n) (n - s).toNat s 0 0 (wr_ (wr_ h2 94 8 3) 94 9 0) (MT_w (MT_w t2 (by omega)) (by omega)) (by omega) (rd_ws _ _ _ _) (Or.inl ⟨rfl, by omega, by omega⟩)
        have y4' : rd_ h' 94 8 = 3 := by rw [y4, rd_wk (by omega), rd_ws]
        refine ⟨h', y1, ⟨y2, by rw [y5, rd_wk (by omega), rd_wk (by omega)]; exact e10, ?_⟩, fz_tr Z2 (fz_tr (fz_tr (fz_wf ⟨by omega, by omega⟩) (fz_wf ⟨by omega, by omega⟩)) y6)⟩
        exact Or.inr (Or.inr (Or.inl ⟨rfl, y4', y3⟩))
      | false =>
        rw [bz_f, if_pos rfl, if_neg (c := false = true) (by simp), if_neg (c := false = true) (by simp), if_neg (c := false = true) (by simp), ck_t (by omega)]
        obtain ⟨h', y1, y2, y3, y4, y5⟩ := Mo_signToken_s t2 (by omega)
        rw [y1, bd_v]
        exact ⟨h', rfl, ⟨y2, y3.trans e10, y4⟩, fz_tr Z2 y5⟩
end
