/-! lines of a text in the class: what a line is made of -/
/-- the text that is being read -/
def RT (h : am_H) (t : Int) (T : Tx) (c s : Int) : Prop := (t = 7 ∨ t = 27) ∧ ShC h ∧ rf_ h 2 2 = t ∧ TO h t T ∧ WO h (t + 1) T (W0_ T (T 0 6)) ∧ rd_ h t 4 = c ∧ rd_ h t 5 = s
def WVr (T : Tx) : Prop := 0 ≤ T 0 0 ∧ T 0 0 ≤ 4 ∧ 0 ≤ T 0 1 ∧ T 0 1 ≤ 4 ∧ 0 ≤ T 0 2 ∧ T 0 2 ≤ 20 ∧ 0 ≤ T 0 3 ∧ T 0 3 ≤ 14
theorem RT_fr {h h' : am_H} {t c s : Int} {T : Tx} {A : Int → Prop} (r : RT h t T c s) (f : fr_ h h' A) (n : ∀ a, t ≤ a → a ≤ t + 19 → ¬ A a) : RT h' t T c s := by
  obtain ⟨a, b, d, e, g, i, j⟩ := r
  exact ⟨a, ShC_of f.1 b, by rw [fr_rf f]; exact d, TO_fr e f n, WO_fr g f (fun x p q => n x (by omega) (by omega)), by rw [f.2 t (n t (by omega) (by omega))]; exact i, by rw [f.2 t (n t (by omega) (by omega))]; exact j⟩
theorem TK_fr {h h' : am_H} {B : Int → Int} {n p : Int} {A : Int → Prop} (t : TKh h B n p) (f : fr_ h h' A) (n1 : ¬ A 1) (n3 : ¬ A 3) (n4 : ¬ A 4) : TKh h' B n p := by
  obtain ⟨a, b, c, d, e⟩ := t
  exact ⟨by rw [fr_rf f, fr_rf f, fr_ln f, fr_ln f]; exact a, by rw [f.2 3 n3, f.2 3 n3]; exact b, c, fun k x y => by rw [f.2 1 n1]; exact d k x y, fun i x y => by rw [f.2 4 n4]; exact e i x y⟩
/-- what a token is at fault for -/
def nm_f (B : Int → Int) (n p lo hi : Int) : Int := if tk_k B n p = 2 then (if tk_v B n p < lo then 2 else if tk_v B n p ≤ hi then 0 else 2) else 1
def sc_f (B : Int → Int) (n p : Int) : Int := if tk_k B n p ≠ 42 then 1 else 0
def tn_f (B : Int → Int) (n p : Int) (P : Int → Int) (N : Int) : Int := if tk_k B n p = 3 then (if 0 ≤ fx_ P (tk_v B n p) N.toNat 0 then 0 else 4) else 1
def nn_f (B : Int → Int) (n p : Int) (P : Int → Int) (N : Int) : Int := if tk_k B n p = 3 then (if fx_ P (tk_v B n p) N.toNat 0 < 0 then 0 else 3) else 1
/-- a token behind which the text stands as it stood -/
def Tok (h : am_H) (B : Int → Int) (n p : Int) : Prop := TKh h B n (tk_n B n p) ∧ rd_ h 3 4 = tk_k B n p ∧ rd_ h 3 5 = tp_ B n p ∧ rd_ h 3 6 = tk_v B n p
section
variable {B : Int → Int} {n t c s : Int} {T : Tx}
theorem Re_step {h : am_H} {p : Int} (r : RT h t T c s) (k : TKh h B n p) : ∃ h', Tk_step h 3 = some (h', 0) ∧ RT h' t T c s ∧ Tok h' B n p ∧ fr_ h h' (fun a => a = 3) := by
  obtain ⟨h', a1, a2, a3, a4, a5, a6⟩ := Tk_step_s k
  have := r.1
  exact ⟨h', a1, RT_fr r a6 (fun a p q => by omega), ⟨a2, a3, a4, a5⟩, a6⟩
theorem Re_num {h : am_H} {p lo hi : Int} (r : RT h t T c s) (k : TKh h B n p) : ∃ h', Re_readNumber h 2 lo hi = some (h', nm_f B n p lo hi) ∧ RT h' t T c s ∧ Tok h' B n p ∧ fr_ h h' (fun a => a = 3) := by
  obtain ⟨h', a1, a2, a3, a4⟩ := Re_step r k
  refine ⟨h', ?_, a2, a3, a4⟩
  rw [Re_readNumber_e]
  simp only [cr2_0 r.2.1]
  rw [ck_t (by omega), ck_t (by omega), a1, bd_v]
  simp only [cr2_0 a2.2.1, a3.2.1, a3.2.2.2]
  unfold nm_f
  rw [ck_t (by omega), ck_t (by omega)]
  by_cases q : tk_k B n p = 2
  · rw [if_pos q, if_pos q, ck_t (by omega), ck_t (by omega)]
    by_cases q1 : tk_v B n p < lo
    · rw [if_pos q1, if_pos q1]
    · rw [if_neg q1, if_neg q1, ck_t (by omega), ck_t (by omega)]
      by_cases q2 : tk_v B n p ≤ hi
      · rw [if_pos q2, if_pos q2]
      · rw [if_neg q2, if_neg q2]
  · rw [if_neg q, if_neg q]
theorem Re_semi {h : am_H} {p : Int} (r : RT h t T c s) (k : TKh h B n p) : ∃ h', Re_readSemicolon h 2 = some (h', sc_f B n p) ∧ RT h' t T c s ∧ Tok h' B n p ∧ fr_ h h' (fun a => a = 3) := by
  obtain ⟨h', a1, a2, a3, a4⟩ := Re_step r k
  refine ⟨h', ?_, a2, a3, a4⟩
  rw [Re_readSemicolon_e]
  simp only [cr2_0 r.2.1]
  rw [ck_t (by omega), ck_t (by omega), a1, bd_v]
  simp only [cr2_0 a2.2.1, a3.2.1]
  unfold sc_f
  rw [ck_t (by omega), ck_t (by omega)]
  by_cases q : tk_k B n p = 42
  · rw [if_neg (fun z => z q), if_neg (fun z => z q)]
  · rw [if_pos q, if_pos q]
theorem Re_told {h : am_H} {p a N : Int} {P : Int → Int} (r : RT h t T c s) (k : TKh h B n p) (a0 : 0 ≤ a) (an : a ≠ 3) (N0 : 0 ≤ N) (N4 : N ≤ 4) (la : ln_ h a = 4) (row : ∀ j, 0 ≤ j → j < N → rd_ h a j = P j) : ∃ h', Re_readToldName h 2 a N = some (h', tn_f B n p P N) ∧ RT h' t T c s ∧ Tok h' B n p ∧ fr_ h h' (fun a => a = 3) := by
  obtain ⟨h', a1, a2, a3, a4⟩ := Re_step r k
  refine ⟨h', ?_, a2, a3, a4⟩
  have ix := Pp_indexOf_lp (h := h') (a := a) (N := N) (c := tk_v B n p) (P := P) a0 (by rw [fr_ln a4, la]; omega) (by omega) (fun j x y => by rw [a4.2 a an]; exact row j x y) N.toNat 0 (by omega) (by omega)
  rw [Re_readToldName_e]
  simp only [cr2_0 r.2.1]
  rw [ck_t (by omega), ck_t (by omega), a1, bd_v]
  simp only [cr2_0 a2.2.1, a3.2.1, a3.2.2.2]
  unfold tn_f
  rw [ck_t (by omega), ck_t (by omega)]
  by_cases q : tk_k B n p = 3
  · rw [if_pos q, if_pos q, ck_t (by omega), ck_t (by omega), Pp_indexOf_e, ix, bd_v]
    by_cases q1 : 0 ≤ fx_ P (tk_v B n p) N.toNat 0
    · rw [if_pos q1, if_pos q1]
    · rw [if_neg q1, if_neg q1]
  · rw [if_neg q, if_neg q]
/-- a new name: it is written down where there is no fault -/
theorem Re_nname {h : am_H} {p a N : Int} {P : Int → Int} (r : RT h t T c s) (k : TKh h B n p) (a0 : 0 ≤ a) (an : a ≠ 3) (N0 : 0 ≤ N) (N4 : N < 4) (la : ln_ h a = 4) (row : ∀ j, 0 ≤ j → j < N → rd_ h a j = P j) : ∃ h1 h', Re_readNewName h 2 a N = some (h', nn_f B n p P N) ∧ RT h1 t T c s ∧ Tok h1 B n p ∧ fr_ h h1 (fun a => a = 3) ∧ (nn_f B n p P N ≠ 0 → h' = h1) ∧ (nn_f B n p P N = 0 → h' = wr_ h1 a N (tk_v B n p)) := by
  obtain ⟨h1, a1, a2, a3, a4⟩ := Re_step r k
  have ix := Pp_indexOf_lp (h := h1) (a := a) (N := N) (c := tk_v B n p) (P := P) a0 (by rw [fr_ln a4, la]; omega) (by omega) (fun j x y => by rw [a4.2 a an]; exact row j x y) N.toNat 0 (by omega) (by omega)
  have la1 : ln_ h1 a = 4 := by rw [fr_ln a4]; exact la
  rw [Re_readNewName_e]
  simp only [cr2_0 r.2.1]
  rw [ck_t (by omega), ck_t (by omega), a1, bd_v]
  simp only [cr2_0 a2.2.1, a3.2.1, a3.2.2.2]
  unfold nn_f
  rw [ck_t (by omega), ck_t (by omega)]
  by_cases q : tk_k B n p = 3
  · rw [if_pos q, if_pos q, ck_t (by omega), ck_t (by omega), Pp_indexOf_e, ix, bd_v]
    by_cases q1 : fx_ P (tk_v B n p) N.toNat 0 < 0
    · rw [if_pos q1, if_pos q1, la1]
      simp only [cr2_0 a2.2.1, a3.2.2.2, la1]
      rw [ck_t (by omega), if_neg (by omega), ck_t (by omega), ck_t (by omega), ck_t (by omega), ck_t (by omega)]
      exact ⟨h1, _, rfl, a2, a3, a4, fun z => absurd rfl z, fun _ => rfl⟩
    · rw [if_neg q1, if_neg q1]
      exact ⟨h1, h1, rfl, a2, a3, a4, fun _ => rfl, fun z => by omega⟩
  · rw [if_neg q, if_neg q]
    exact ⟨h1, h1, rfl, a2, a3, a4, fun _ => rfl, fun z => by omega⟩
end
