/-! names, the end of a line, in the reference -/
section
variable {B : Int → Int} {n p : Int} {h : am_H}
theorem MTk_o {a k v : Int} (t : MTk h B n p) (q : a ≠ 94 ∧ a ≠ 95 ∧ a ≠ 96) : MTk (wr_ h a k v) B n p := by
  obtain ⟨x, b, c, d, e⟩ := t
  exact ⟨ShM_of rfl x, fun i y z => by rw [rd_wo (by omega)]; exact b i y z, ⟨by rw [rd_wo (by omega)]; exact c.1, by rw [rd_wo (by omega)]; exact c.2⟩, ⟨d.1, d.2.1, d.2.2.1, by rw [rd_wo (by omega)]; exact d.2.2.2.1, by rw [rd_wo (by omega)]; exact d.2.2.2.2⟩, fun k y z => by rw [rd_wo (by omega)]; exact e k y z⟩
theorem MR_o {a k v : Int} (r : MR h B n p) (q : a ≠ 94 ∧ a ≠ 95 ∧ a ≠ 96) : MR (wr_ h a k v) B n p := ⟨MTk_o r.1 q, by rw [rd_wo (by omega)]; exact r.2.1, by rw [rd_wo (by omega), rd_wo (by omega)]; exact r.2.2⟩
theorem Mo_newName_s {a N : Int} {P : Int → Int} (r : MR h B n p) (a1 : 99 ≤ a) (la : ln_ h a = 8) (N0 : 0 ≤ N) (N4 : N < 4) (row : ∀ j, 0 ≤ j → j < N → rd_ h a (4 + j) = P j) : ∃ h' v, Mo_newName h 94 a 4 N = some (h', v) ∧ ((nn_f B n p P N = 0 ∧ v = 1 ∧ MR h' B n (tk_n B n p) ∧ fzY (wr_ h a (4 + N) (tk_v B n p)) h') ∨ (nn_f B n p P N ≠ 0 ∧ v = 0 ∧ mwE_ h' (nn_f B n p P N) (tp_ B n p) ∧ fzY h h')) := by
  have m := MRk_3 r.2.2
  rw [Mo_newName_e, ck_t (by omega)]
  unfold nn_f
  by_cases q : tk_k B n p = 3
  · obtain ⟨mk, mx⟩ := m.1 q
    have fi := Mo_find_o (h := h) (a := a) (N := N) (c := tk_v B n p) (b := 4) (P := P) (by omega) (by omega) (by omega) (by omega) row N.toNat 0 (by omega) (by omega)
    rw [if_pos mk, if_pos q, ck_t (by omega), mx, Mo_find_e, fi, bd_v]
    by_cases y : fx_ P (tk_v B n p) N.toNat 0 < 0
    · rw [if_pos (c := fx_ P (tk_v B n p) N.toNat 0 < 0) y, if_pos (c := fx_ P (tk_v B n p) N.toNat 0 < 0) y, mx, w32_i (x := 4 + N) (by omega) (by omega), la]
      repeat rw [ck_t (by omega)]
      obtain ⟨h', b1, b2, b3⟩ := Mo_token_s (MTk_o (a := a) (k := 4 + N) (v := tk_v B n p) r.1 (by omega))
      rw [b1, bd_v]
      exact ⟨h', 1, rfl, Or.inl ⟨rfl, rfl, b2, fzY_K b3⟩⟩
    · obtain ⟨h', b1, b2, b3⟩ := Mo_wrongB 3 r.2.1
      rw [if_neg (c := fx_ P (tk_v B n p) N.toNat 0 < 0) y, if_neg (c := fx_ P (tk_v B n p) N.toNat 0 < 0) y, ck_t (by omega), b1]
      exact ⟨h', 0, rfl, Or.inr ⟨by omega, rfl, b2, b3⟩⟩
  · obtain ⟨h', b1, b2, b3⟩ := Mo_wrongB 1 r.2.1
    rw [if_neg (m.2 q), if_neg q, ck_t (by omega), b1]
    exact ⟨h', 0, rfl, Or.inr ⟨by omega, rfl, b2, b3⟩⟩
theorem Mo_thereIn_s {a N : Int} {P : Int → Int} (r : MR h B n p) (a1 : 99 ≤ a) (la : ln_ h a = 8) (N0 : 0 ≤ N) (N4 : N ≤ 4) (row : ∀ j, 0 ≤ j → j < N → rd_ h a (4 + j) = P j) : ∃ h' v, Mo_thereIn h 94 a 4 N = some (h', v) ∧ fzY h h' ∧ ((tn_f B n p P N = 0 ∧ v = 1 ∧ MR h' B n (tk_n B n p) ∧ rd_ h' 94 11 = fx_ P (tk_v B n p) N.toNat 0) ∨ (tn_f B n p P N ≠ 0 ∧ v = 0 ∧ mwE_ h' (tn_f B n p P N) (tp_ B n p))) := by
  have m := MRk_3 r.2.2
  rw [Mo_thereIn_e, ck_t (by omega)]
  unfold tn_f
  by_cases q : tk_k B n p = 3
  · obtain ⟨mk, mx⟩ := m.1 q
    have fi := Mo_find_o (h := h) (a := a) (N := N) (c := tk_v B n p) (b := 4) (P := P) (by omega) (by omega) (by omega) (by omega) row N.toNat 0 (by omega) (by omega)
    rw [if_pos mk, if_pos q, ck_t (by omega), mx, Mo_find_e, fi, bd_v]
    by_cases y : 0 ≤ fx_ P (tk_v B n p) N.toNat 0
    · rw [if_pos (c := 0 ≤ fx_ P (tk_v B n p) N.toNat 0) y, if_pos (c := 0 ≤ fx_ P (tk_v B n p) N.toNat 0) y, ck_t (by omega)]
      obtain ⟨h', b1, b2, b3⟩ := Mo_token_s r.1
      rw [b1, bd_v, ck_t (by omega)]
      exact ⟨_, 1, rfl, fzY_t (fzY_K b3) (fzY_w (by omega) (by omega)), Or.inl ⟨rfl, rfl, MR_11 b2, rd_ws _ _ _ _⟩⟩
    · obtain ⟨h', b1, b2, b3⟩ := Mo_wrongB 4 r.2.1
      rw [if_neg (c := 0 ≤ fx_ P (tk_v B n p) N.toNat 0) y, if_neg (c := 0 ≤ fx_ P (tk_v B n p) N.toNat 0) y, ck_t (by omega), b1]
      exact ⟨h', 0, rfl, b3, Or.inr ⟨by omega, rfl, b2⟩⟩
  · obtain ⟨h', b1, b2, b3⟩ := Mo_wrongB 1 r.2.1
    rw [if_neg (m.2 q), if_neg q, ck_t (by omega), b1]
    exact ⟨h', 0, rfl, b3, Or.inr ⟨by omega, rfl, b2⟩⟩
theorem Mo_isSign_s (x : Int) : Mo_isSign h 94 x = some (h, if rd_ h 94 8 = 4 ∧ rd_ h 94 9 = x then 1 else 0) := by
  rw [Mo_isSign_e, ck_t (by omega)]
  by_cases q : rd_ h 94 8 = 4
  · rw [if_neg (fun z => z q), ck_t (by omega)]
    by_cases y : rd_ h 94 9 = x
    · rw [if_neg (fun z => z y), if_pos ⟨q, y⟩]
    · rw [if_pos y, if_neg (fun z => y z.2)]
  · rw [if_pos q, if_neg (fun z => q z.1)]
/-- behind a line in the reference; a line that went as far as its end -/
def mnE_ (h : am_H) (B : Int → Int) (n v : Int) (R : lRs_) : Prop := (R.1 ≠ 0 ∧ v = 0 ∧ mwE_ h R.1 R.2.1) ∨ (R.1 = 0 ∧ v = 1 ∧ MP h R.2.2.2.1 R.2.2.2.2.1 R.2.2.2.2.2 ∧ MR h B n R.2.2.1)
def mpE_ (h : am_H) (B : Int → Int) (n v : Int) (R : lRs_) : Prop := (R.1 ≠ 0 ∧ v = 0 ∧ mwE_ h R.1 R.2.1) ∨ ∃ p T c s, R = smE_ B n p T c s ∧ v = 1 ∧ MP h T c s ∧ MR h B n p
noncomputable def mtl_ (h : am_H) (v : Int) : am_O := if v ≠ 0 then ck_ (0 ≤ (94 : Int)) (bd_ (Mo_isSign h 94 59) fun h1 v2 => if v2 ≠ 0 then ck_ (0 ≤ (94 : Int)) (bd_ (Mo_token h1 94) fun h3 _ => some (h3, 1)) else ck_ (0 ≤ (94 : Int)) (bd_ (Mo_wrong h1 94 1) fun h5 v6 => ck_ (v6 = 0 ∨ v6 = 1) (some (h5, v6)))) else some (h, 0)
theorem mtl_s {v : Int} {R : lRs_} (m : mpE_ h B n v R) : ∃ h' v', mtl_ h v = some (h', v') ∧ mnE_ h' B n v' R ∧ fk_ h h' := by
  unfold mtl_
  rcases m with ⟨m1, m2, m3⟩ | ⟨p, T, c, s, m1, m2, m3, m4⟩
  · rw [if_neg (fun z => z m2)]
    exact ⟨h, 0, rfl, Or.inl ⟨m1, rfl, m3⟩, fk_refl h⟩
  · rw [if_pos (by omega), ck_t (by omega), Mo_isSign_s, bd_v, m1]
    have mk := MRk_42 m4.2.2
    unfold smE_ sc_f
    by_cases q : tk_k B n p = 42
    · rw [if_pos (mk.1 q), if_pos (c := (1 : Int) ≠ 0) (by omega), if_neg (c := tk_k B n p ≠ 42) (fun z => z q), if_neg (c := (0 : Int) ≠ 0) (by omega), ck_t (by omega)]
      obtain ⟨h', b1, b2, b3⟩ := Mo_token_s m4.1
      rw [b1, bd_v]
      exact ⟨h', 1, rfl, Or.inr ⟨rfl, rfl, MP_L m3 (fzY_K b3), b2⟩, fzY_k (fzY_K b3)⟩
    · obtain ⟨h', b1, b2, b3⟩ := Mo_wrongB 1 m4.2.1
      rw [if_neg (mk.2 q), if_neg (c := (0 : Int) ≠ 0) (by omega), if_pos (c := tk_k B n p ≠ 42) q, if_pos (c := (1 : Int) ≠ 0) (by omega), ck_t (by omega), b1]
      exact ⟨h', 0, rfl, Or.inl ⟨by show (1 : Int) ≠ 0; omega, rfl, b2⟩, fzY_k b3⟩
end
