/-! an empty text in the class -/
def emT : Tx := fun _ _ => 0
theorem To_clear_lp {t : Int} (t0 : 7 ≤ t ∧ t ≤ 27) : ∀ (m : Nat) (k : Int) (h : am_H), ShT h t → 0 ≤ k → k + m = 3 → (∀ j, 0 ≤ j → j < k → rd_ h (t + 18) j = 0 ∧ rd_ h (t + 19) j = 0) → ∃ h', To_clear_1 h t k = some (h', 0) ∧ (∀ j, 0 ≤ j → j < 3 → rd_ h' (t + 18) j = 0 ∧ rd_ h' (t + 19) j = 0) ∧ fr_ h h' (fun a => a = t + 18 ∨ a = t + 19) := by
  intro m
  induction m with
  | zero =>
    intro k h sh k0 hk q
    have e : k = 3 := by omega
    rw [e] at q ⊢
    exact ⟨h, by rw [To_clear_1_e, if_pos (by omega)], q, fr_refl _ _⟩
  | succ m ih =>
    intro k h sh k0 hk q
    have S := fun (_ : Unit) => sh
    obtain ⟨h', a1, a2, a3⟩ := ih (k + 1) (wr_ (wr_ h (t + 18) k 0) (t + 19) k 0) (ShT_of rfl sh) (by omega) (by omega) (fun j j0 j1 => by
      rw [rd_wo (show t + 18 ≠ t + 19 by omega), rd_wa, rd_wa, rd_wo (show t + 19 ≠ t + 18 by omega)]
      by_cases e : j = k
      · rw [if_pos e, if_pos e]; exact ⟨rfl, rfl⟩
      · rw [if_neg e, if_neg e]; exact q j j0 (by omega))
    refine ⟨h', ?_, a2, fr_tr (fr_tr (fr_wr (Or.inl rfl)) (fr_wr (Or.inr rfl))) a3⟩
    have f15 : rf_ h t 15 = t + 18 := (S ()).2.2.2.2.2.2.2.2.2.2.1
    have f16 : rf_ h t 16 = t + 19 := (S ()).2.2.2.2.2.2.2.2.2.2.2.1
    have l18 : ln_ h (t + 18) = 3 := (S ()).2.2.2.2.2.2.2.2.2.2.2.2.2.2.2.2.2.2.2.2.1
    have l19 : ln_ h (t + 19) = 3 := (S ()).2.2.2.2.2.2.2.2.2.2.2.2.2.2.2.2.2.2.2.2.2
    clear sh
    rw [To_clear_1_e, if_neg (by omega)]
    simp only [f15, f16, l18, l19, rf_wr, ln_wr]
    repeat rw [ck_t (by omega)]
    rw [w32_i (x := k + 1) (by omega) (by omega), a1]
theorem To_clear_s {h : am_H} {t : Int} (t0 : t = 7 ∨ t = 27) (sc : ShC h) (r2 : rf_ h 2 2 = t) (sh : ShT h t) (sw : ShW h (t + 1)) : ∃ h', To_clear h t = some (h', 0) ∧ RT h' t emT 0 0 ∧ fr_ h h' (fun a => t ≤ a ∧ a ≤ t + 19) := by
  have tb : 7 ≤ t ∧ t ≤ 27 := by omega
  have f6 : rf_ h t 6 = t + 1 := sh.2.1
  obtain ⟨g, eg⟩ : ∃ x, x = wr_ (wr_ (wr_ (wr_ (wr_ (wr_ (wr_ (wr_ (wr_ (wr_ (wr_ (wr_ h t 0 0) t 1 0) t 2 0) t 3 0) t 4 0) t 5 0) (t + 1) 0 0) (t + 1) 1 0) (t + 1) 2 0) (t + 1) 3 0) (t + 1) 4 0) (t + 1) 5 0 := ⟨_, rfl⟩
  have g2 : g.2 = h.2 := by rw [eg]; rfl
  have w1 : ∀ k, 0 ≤ k → k ≤ 5 → rd_ g (t + 1) k = 0 := fun k k0 k1 => by
    rw [eg]
    simp only [rd_wr]
    have : k = 0 ∨ k = 1 ∨ k = 2 ∨ k = 3 ∨ k = 4 ∨ k = 5 := by omega
    rcases this with e | e | e | e | e | e <;> subst e <;> simp
  have wt : ∀ k, 0 ≤ k → k ≤ 5 → rd_ g t k = 0 := fun k k0 k1 => by
    rw [eg]
    rw [rd_wo (by omega), rd_wo (by omega), rd_wo (by omega), rd_wo (by omega), rd_wo (by omega), rd_wo (by omega)]
    simp only [rd_wr]
    have : k = 0 ∨ k = 1 ∨ k = 2 ∨ k = 3 ∨ k = 4 ∨ k = 5 := by omega
    rcases this with e | e | e | e | e | e <;> subst e <;> simp
  have F : fr_ h g (fun a => t ≤ a ∧ a ≤ t + 19) := ⟨g2, fun a q k => by
    have n1 : a ≠ t := by omega
    have n2 : a ≠ t + 1 := by omega
    rw [eg, rd_wo n2, rd_wo n2, rd_wo n2, rd_wo n2, rd_wo n2, rd_wo n2, rd_wo n1, rd_wo n1, rd_wo n1, rd_wo n1, rd_wo n1, rd_wo n1]⟩
  obtain ⟨h', a1, a2, a3⟩ := To_clear_lp tb 3 0 g (ShT_of g2 sh) (by omega) (by omega) (fun j j0 j1 => by omega)
  have e2 : h'.2 = h.2 := a3.1.trans g2
  have q1 : ∀ k, 0 ≤ k → k ≤ 5 → rd_ h' (t + 1) k = 0 := fun k k0 k1 => by rw [a3.2 (t + 1) (by omega)]; exact w1 k k0 k1
  have q0 : ∀ k, 0 ≤ k → k ≤ 5 → rd_ h' t k = 0 := fun k k0 k1 => by rw [a3.2 t (by omega)]; exact wt k k0 k1
  refine ⟨h', ?_, ⟨t0, ShC_of e2 sc, by unfold rf_; rw [e2]; exact r2, ⟨ShT_of e2 sh, ⟨q0 0 (by omega) (by omega), q0 1 (by omega) (by omega), q0 2 (by omega) (by omega), q0 3 (by omega) (by omega)⟩, fun j a b => ?_, fun j a b => ?_, fun j a b => ?_, fun j a b => ?_, a2⟩, ⟨ShW_of e2 sw, ⟨q1 0 (by omega) (by omega), q1 1 (by omega) (by omega), q1 2 (by omega) (by omega), q1 3 (by omega) (by omega), q1 4 (by omega) (by omega), q1 5 (by omega) (by omega)⟩, fun p a b => ?_, fun p a b => ?_, fun p a b => ?_, fun p k a b => ?_, fun p a b => ?_, fun p a b => ?_, fun p a b => ?_⟩, q0 4 (by omega) (by omega), q0 5 (by omega) (by omega)⟩, fr_tr F (fr_mo a3 (fun a q => ⟨by omega, by omega⟩))⟩
  · rw [To_clear_e]
    simp only [f6]
    repeat rw [ck_t (by omega)]
    rw [Wo_clear_e]
    repeat rw [ck_t (by omega)]
    rw [bd_v, ← eg, a1]
  all_goals (have b' : _ < (0 : Int) := b; omega)
