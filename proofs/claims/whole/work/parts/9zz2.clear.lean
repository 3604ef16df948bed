/-! an empty text in the class -/
def emT : Tx := fun _ _ => 0
theorem To_clear_lp {t : Int} (t0 : 7 ≤ t ∧ t ≤ 27) : ∀ (m : Nat) (k : Int) (h : am_H), ShT h t → 0 ≤ k → k + m = 3 → (∀ j, 0 ≤ j → j < k → rd_ h (t + 18) j = 0 ∧ rd_ h (t + 19) j = 0) → ∃ h', To_clear_1 h t k = some (h', 0) ∧ (∀ j, 0 ≤ j → j < 3 → rd_ h' (t + 18) j = 0 ∧ rd_ h' (t + 19) j = 0) ∧ fr_ h h' (fun a => a = t + 18 ∨ a = t + 19) := by
  intro m
  induction m with
  | zero =>
    intro k h sh k0 hk q
    have e : k = 3 := by omega
    rw [e] at q ⊢
    exact ⟨h, by rw [To_clear_1_e, if_pos (by omega)], q, fr_refl _ _⟩
  | succ m ih =>
    intro k h sh k0 hk q
    have S := fun (_ : Unit) => sh
    obtain ⟨h', a1, a2, a3⟩ := ih (k + 1) (wr_ (wr_ h (t + 18) k 0) (t + 19) k 0) (ShT_of rfl sh) (by omega) (by omega) (fun j j0 j1 => by
      rw [rd_wo (show t + 18 ≠ t + 19 by omega), rd_wa, rd_wa, rd_wo (show t + 19 ≠ t + 18 by omega)]
      by_cases e : j = k
      · rw [if_pos e, if_pos e]; exact ⟨rfl, rfl⟩
      · rw [if_neg e, if_neg e]; exact q j j0 (by omega))
    refine ⟨h', ?_, a2, fr_tr (fr_tr (fr_wr (Or.inl rfl)) (fr_wr (Or.inr rfl))) a3⟩
    have f15 : rf_ h t 15 = t + 18 := (S ()).2.2.2.2.2.2.2.2.2.2.1
    have f16 : rf_ h t 16 = t + 19 := (S ()).2.2.2.2.2.2.2.2.2.2.2.1
    have l18 : ln_ h (t + 18) = 3 := (S ()).2.2.2.2.2.2.2.2.2.2.2.2.2.2.2.2.2.2.2.2.1
    have l19 : ln_ h (t + 19) = 3 := (S ()).2.2.2.2.2.2.2.2.2.2.2.2.2.2.2.2.2.2.2.2.2
    clear sh
    rw [To_clear_1_e, if_neg (by omega)]
    simp only [f15, f16, l18, l19, rf_wr, ln_wr]
    repeat rw [ck_t (by omega)]
    rw [w32_i (x := k + 1) (by omega) (by omega), a1]
