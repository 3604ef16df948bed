/-! a line of a text, its lines, in the reference -/
section
variable {B : Int → Int} {n p c s : Int} {h : am_H} {T : Tx}
theorem mln_ {h1 : am_H} {y : Int} {R : lRs_} (a2 : mpE_ h1 B n y R) (a3 : fk_ h h1) : ∃ h' y', mtl_ h1 y = some (h', y') ∧ mnE_ h' B n y' R ∧ fk_ h h' := by
  obtain ⟨h2, y2, b1, b2, b3⟩ := mtl_s a2
  exact ⟨h2, y2, b1, b2, fk_t a3 b3⟩
theorem Mo_lineRead_s (m : MP h T c s) (r : MR h B n p) (w : WVt T) (v : TV T) (pn : p ≤ n) : ∃ h' y, Mo_lineRead h 94 = some (h', y) ∧ mnE_ h' B n y (lin_ B n p T c s) ∧ fk_ h h' := by
  have wr : WVr T := by have a := w.1; have b := v.1; unfold WVr; omega
  have ml := fun (_ : Unit) => MRk_l r.2.2
  have bad : ∃ h' y, (bd_ (Mo_wrong h 94 1) fun h5 v6 => ck_ (v6 = 0 ∨ v6 = 1) (some (h5, v6))) = some (h', y) ∧ mnE_ h' B n y (1, tp_ B n p, 0, T, c, s) ∧ fk_ h h' := by
    obtain ⟨h', b1, b2, b3⟩ := Mo_wrongB 1 r.2.1
    exact ⟨h', 0, b1, Or.inl ⟨by show (1 : Int) ≠ 0; omega, rfl, b2⟩, fzY_k b3⟩
  rw [Mo_lineRead_e, ck_t (by omega)]
  unfold lin_
  by_cases q : 10 ≤ tk_k B n p ∧ tk_k B n p ≤ 16
  · clear bad
    have y1 := (ml ()).2.1 (by omega) (by omega)
    have y2 := (ml ()).2.2.1 (by omega) (by omega)
    rw [if_neg (c := rd_ h 94 8 ≠ 1) (fun x => x y1), ck_t (by omega), y2, if_pos (c := tk_k B n p - 10 ≤ 6) (by omega), ck_t (by omega)]
    by_cases q0 : tk_k B n p = 10
    · rw [if_pos (c := tk_k B n p - 10 = 0) (by omega), if_pos (c := tk_k B n p = 10) q0, ck_t (by omega)]
      obtain ⟨h1, y, a1, a2, a3⟩ := Mo_maidL m r wr
      rw [a1, bd_v]
      exact mln_ a2 a3
    rw [if_neg (c := tk_k B n p - 10 = 0) (by omega), if_neg (c := tk_k B n p = 10) q0]
    by_cases q1 : tk_k B n p = 11
    · rw [if_pos (c := tk_k B n p - 10 = 1) (by omega), if_pos (c := tk_k B n p = 11) q1, ck_t (by omega)]
      obtain ⟨h1, y, a1, a2, a3⟩ := Mo_pileL m r wr
      rw [a1, bd_v]
      exact mln_ a2 a3
    rw [if_neg (c := tk_k B n p - 10 = 1) (by omega), if_neg (c := tk_k B n p = 11) q1]
    by_cases q2 : tk_k B n p = 12
    · rw [if_pos (c := tk_k B n p - 10 = 2) (by omega), if_pos (c := tk_k B n p = 12) q2, ck_t (by omega)]
      obtain ⟨h1, y, a1, a2, a3⟩ := Mo_plateL m r w
      rw [a1, bd_v]
      exact mln_ a2 a3
    rw [if_neg (c := tk_k B n p - 10 = 2) (by omega), if_neg (c := tk_k B n p = 12) q2]
    by_cases q3 : tk_k B n p = 13
    · rw [if_pos (c := tk_k B n p - 10 = 3) (by omega), if_pos (c := tk_k B n p = 13) q3, ck_t (by omega)]
      obtain ⟨h1, y, a1, a2, a3⟩ := Mo_turnL m r wr
      rw [a1, bd_v]
      exact mln_ a2 a3
    rw [if_neg (c := tk_k B n p - 10 = 3) (by omega), if_neg (c := tk_k B n p = 13) q3]
    by_cases q4 : tk_k B n p = 14
    · rw [if_pos (c := tk_k B n p - 10 = 4) (by omega), if_pos (c := tk_k B n p = 14) q4, ck_t (by omega)]
      obtain ⟨h1, y, a1, a2, a3⟩ := Mo_chipL m r
      rw [a1, bd_v]
      exact mln_ a2 a3
    rw [if_neg (c := tk_k B n p - 10 = 4) (by omega), if_neg (c := tk_k B n p = 14) q4]
    by_cases q5 : tk_k B n p = 15
    · rw [if_pos (c := tk_k B n p - 10 = 5) (by omega), if_pos (c := tk_k B n p = 15) q5, ck_t (by omega)]
      obtain ⟨h1, y, a1, a2, a3⟩ := Mo_seedL m r
      rw [a1, bd_v]
      exact mln_ a2 a3
    rw [if_neg (c := tk_k B n p - 10 = 5) (by omega), if_neg (c := tk_k B n p = 15) q5, if_pos (c := tk_k B n p = 16) (by omega)]
    obtain ⟨h1, y, a1, a2, a3⟩ := Mo_law_s m r v pn
    exact ⟨h1, y, a1, a2, a3⟩
  · rw [if_neg (c := tk_k B n p = 10) (by omega), if_neg (c := tk_k B n p = 11) (by omega), if_neg (c := tk_k B n p = 12) (by omega), if_neg (c := tk_k B n p = 13) (by omega), if_neg (c := tk_k B n p = 14) (by omega), if_neg (c := tk_k B n p = 15) (by omega), if_neg (c := tk_k B n p = 16) (by omega)]
    by_cases y1 : rd_ h 94 8 = 1
    · have yk := (ml ()).1 y1
      have ya := (ml ()).2.2.1
      have yb := (ml ()).2.2.2
      have y9 : ¬ rd_ h 94 9 ≤ 6 := by
        by_cases x : tk_k B n p ≤ 19
        · have := ya (by omega) x
          omega
        · have := yb (by omega) (by omega)
          omega
      rw [if_neg (c := rd_ h 94 8 ≠ 1) (fun x => x y1), ck_t (by omega), if_neg (c := rd_ h 94 9 ≤ 6) y9, ck_t (by omega)]
      exact bad
    · rw [if_pos (c := rd_ h 94 8 ≠ 1) y1, ck_t (by omega)]
      exact bad
theorem MP_7 {x : Int} (m : MP h T c s) : MP h (up_ T 0 7 x) c s := by
  have u0 : ∀ k, k ≠ 7 → up_ T 0 7 x 0 k = T 0 k := fun k q => by rw [up_s, if_neg q]
  have uf : ∀ f : Nat, f ≠ 0 → up_ T 0 7 x f = T f := fun f a => up_o _ _ _ a
  unfold MP at *
  rw [u0 0 (by omega), u0 1 (by omega), u0 2 (by omega), u0 3 (by omega), u0 4 (by omega), u0 5 (by omega), u0 6 (by omega), uf 1 (by decide), uf 2 (by decide), uf 3 (by decide), uf 4 (by decide), uf 5 (by decide), uf 6 (by decide), uf 7 (by decide), uf 8 (by decide), uf 9 (by decide), uf 10 (by decide), uf 11 (by decide), uf 12 (by decide), uf 13 (by decide), uf 14 (by decide)]
  exact m
theorem Mo_text_lp : ∀ (f : Nat) (p i : Int) (h : am_H) (T : Tx) (c s : Int), MP h T c s → MR h B n p → WVt T → TV T → T 0 7 = i → p ≤ n → n - p < f → i + f = n + 1 → 0 ≤ i → ∃ h', fk_ h h' ∧ (((rdl_ B n f p T c s).1 ≠ 0 ∧ Mo_text_4 h 94 i = some (h', -1) ∧ mwE_ h' (rdl_ B n f p T c s).1 (rdl_ B n f p T c s).2.1) ∨ ((rdl_ B n f p T c s).1 = 0 ∧ (∃ c' s', MP h' (rdl_ B n f p T c s).2.2 c' s') ∧ Z4 h' ∧ Mo_text_4 h 94 i = bd_ (Mo_keepText h' 94) fun h1 _ => some (h1, (rdl_ B n f p T c s).2.2 0 7))) := by
  intro f
  induction f with
  | zero =>
    intro p i h T c s m r w v e pn pf fi i0
    omega
  | succ f ih =>
    intro p i h T c s m r w v e pn pf fi i0
    have n7 := r.1.2.2.2.1.2.2.1
    have nv := tk_nv (B := B) (n := n) (p := p) pn
    have tv := tp_v (B := B) (n := n) (p := p) pn
    have m0 := fun (_ : Unit) => MRk_0 r.2.2
    rw [rdl_s, Mo_text_4_e, ck_t (by omega)]
    by_cases q : tk_k B n p = 0
    · rw [if_pos q, if_pos (c := rd_ h 94 8 = 0) ((m0 ()).1 q), ck_t (by omega)]
      refine ⟨h, fk_refl h, Or.inr ⟨rfl, ⟨c, s, m⟩, r.1.2.2.2.1.2.2.2, ?_⟩⟩
      rw [← e]
    · have nk := nv.2.2 q
      rw [if_neg q, if_neg (c := rd_ h 94 8 = 0) ((m0 ()).2 q), ck_t (by omega)]
      obtain ⟨h1, y, a1, a2, a3⟩ := Mo_lineRead_s m r w v pn
      have lv := lin_v (B := B) (c := c) (s := s) w v pn
      rw [a1, bd_v]
      rcases a2 with ⟨b1, b2, b3⟩ | ⟨b1, b2, b3, b4⟩
      · rw [if_pos b1, if_neg (c := y ≠ 0) (fun x => x b2)]
        exact ⟨h1, a3, Or.inl ⟨b1, rfl, b3⟩⟩
      · obtain ⟨c1, c2, c3, c4, c5⟩ := lv b1
        rw [if_neg (fun x => x b1), if_pos (c := y ≠ 0) (by omega), w32_i (x := i + 1) (by omega) (by omega)]
        have ex : (lin_ B n p T c s).2.2.2.1 0 7 + 1 = i + 1 := by rw [c3, e]
        rw [ex]
        obtain ⟨h', d1, d2⟩ := ih (lin_ B n p T c s).2.2.1 (i + 1) h1 (up_ (lin_ B n p T c s).2.2.2.1 0 7 (i + 1)) _ _ (MP_7 b3) b4 (WVt_ln c1) (TV_0 c2 (Or.inr (Or.inr ⟨rfl, by unfold i32_; omega⟩))) (by rw [up_s, if_pos rfl]) c5 (by omega) (by omega) (by omega)
        exact ⟨h', fk_t a3 d1, d2⟩
end
