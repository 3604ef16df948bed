/-! match in the reference -/
def VGc (P M : Int) (C sk : Int → Int) (c : Int) : Prop := VG P P M C sk (gP_ P M c)
def uc_ (P M : Int) (C : Int → Int) (c : Int) : Int := 1000 * mny_ P (gP_ P M c) M.toNat - su_ P C (gP_ P M c) M.toNat
section
variable {h : am_H} {T W I : Tx} {U : Int → Tx} {Q : Tx} {K S : Int}
theorem Mo_isOf_s (h : am_H) {x p : Int} (q : btt_ x p = 0 ∨ btt_ x p = 1) : Mo_isOf h x p = some (h, btt_ x p) := by
  rw [Mo_isOf_e]
  have e : an_ (x / 2 ^ (p % 32 : Int).toNat) 1 = btt_ x p := rfl
  rw [e]
  rcases q with z | z
  · rw [if_pos (by omega), z]
  · rw [if_neg (by omega), z]
def fzL (h h' : am_H) : Prop := fz_ h h' (fun _ => False) (fun k => k = 77 ∨ k = 78)
theorem mL_q {h h' : am_H} (z : fzL h h') : Mq h h' := Mq_fz z (fun x q => absurd q id) (fun k q => by unfold mQF; omega)
theorem Mo_lays_lp (v : WV T W) {C : Int → Int} (Cb : ∀ p, 0 ≤ p → p < T 0 1 → 0 ≤ C p ∧ C p ≤ 20) {c : Int} (eb : ∀ m, 0 ≤ m → m < T 0 0 → 0 ≤ gP_ (T 0 1) (T 0 0) c m ∧ gP_ (T 0 1) (T 0 0) c m ≤ T 0 1) : ∀ (n : Nat) (h : am_H) (x : Int), (n : Int) ≤ T 0 0 → MN h T W I U Q → RW h 134 (T 0 1) C → 0 ≤ x → x < 16 → (∀ p, 0 ≤ p → p < 4 → (btt_ x p ≠ 0 ↔ ∃ i, (n : Int) ≤ i ∧ i < T 0 0 ∧ gP_ (T 0 1) (T 0 0) c i = p ∧ p < T 0 1)) → (∀ m, (n : Int) ≤ m → m < T 0 0 → gP_ (T 0 1) (T 0 0) c m = T 0 1 ∨ (gP_ (T 0 1) (T 0 0) c m < T 0 1 ∧ 1 ≤ C (gP_ (T 0 1) (T 0 0) c m) ∧ C (gP_ (T 0 1) (T 0 0) c m) ≤ T 2 m)) → (∀ i j, (n : Int) ≤ i → i < j → j < T 0 0 → gP_ (T 0 1) (T 0 0) c i = gP_ (T 0 1) (T 0 0) c j → gP_ (T 0 1) (T 0 0) c i = T 0 1) → rd_ h 94 77 = mny_ (T 0 1) (gP_ (T 0 1) (T 0 0) c) (T 0 0).toNat - mny_ (T 0 1) (gP_ (T 0 1) (T 0 0) c) n → rd_ h 94 78 = su_ (T 0 1) C (gP_ (T 0 1) (T 0 0) c) (T 0 0).toNat - su_ (T 0 1) C (gP_ (T 0 1) (T 0 0) c) n → ∃ h' r, Mo_laysMatch_1 h 94 134 (rs_ (T 0 1) (T 0 0 - n).toNat c) x (n - 1 : Int) = some (h', r) ∧ (VGc (T 0 1) (T 0 0) C (T 2) c → r = 1 ∧ rd_ h' 94 77 = mny_ (T 0 1) (gP_ (T 0 1) (T 0 0) c) (T 0 0).toNat ∧ rd_ h' 94 78 = su_ (T 0 1) C (gP_ (T 0 1) (T 0 0) c) (T 0 0).toNat) ∧ (¬ VGc (T 0 1) (T 0 0) C (T 2) c → r = 0) ∧ MN h' T W I U Q ∧ RW h' 134 (T 0 1) C ∧ fzL h h' := by
  intro n
  have v0 := v.1
  have w1 : w32 (T 0 1 + 1) = T 0 1 + 1 := w32_i (by omega) (by omega)
  have mB := mny_b (T 0 1) (gP_ (T 0 1) (T 0 0) c)
  have eb2 : ∀ m, 0 ≤ m → m < T 0 0 → gP_ (T 0 1) (T 0 0) c m = T 0 1 ∨ (0 ≤ C (gP_ (T 0 1) (T 0 0) c m) ∧ C (gP_ (T 0 1) (T 0 0) c m) ≤ 20) := fun m a b => by
    have := eb m a b
    by_cases q : gP_ (T 0 1) (T 0 0) c m = T 0 1
    · exact Or.inl q
    · exact Or.inr (Cb _ this.1 (by omega))
  have sB := su_b (z := T 0 1) (C := C) (e := gP_ (T 0 1) (T 0 0) c)
  induction n with
  | zero =>
    intro h x n1 g r x0 x1 bx a1 a2 d7 d8
    refine ⟨h, 1, by rw [Mo_laysMatch_1_e, if_pos (by omega)], fun _ => ⟨rfl, ?_, ?_⟩, fun q => absurd (⟨fun m p q => a1 m (by omega) q, fun i j p q s e => a2 i j (by omega) q s e⟩ : VG _ _ _ _ _ _) q, g, r, fz_refl _ _ _⟩
    · rw [d7]; show _ - (0 : Int) = _; omega
    · rw [d8]; show _ - (0 : Int) = _; omega
  | succ n ih =>
    intro h x n1 g r x0 x1 bx a1 a2 d7 d8
    have en : (((n + 1 : Nat) : Int) - 1) = n := by omega
    have ed : Int.tmod (rs_ (T 0 1) (T 0 0 - ((n + 1 : Nat) : Int)).toNat c) (w32 (T 0 1 + 1)) = gP_ (T 0 1) (T 0 0) c n := by
      unfold gP_
      rw [show T 0 0 - ((n + 1 : Nat) : Int) = T 0 0 - 1 - (n : Int) by omega]
    have er : w32 (Int.tdiv (rs_ (T 0 1) (T 0 0 - ((n + 1 : Nat) : Int)).toNat c) (w32 (T 0 1 + 1))) = rs_ (T 0 1) (T 0 0 - (n : Int)).toNat c := by
      rw [show (T 0 0 - (n : Int)).toNat = (T 0 0 - ((n + 1 : Nat) : Int)).toNat + 1 by omega]
      rfl
    have en1 := eb n (by omega) (by omega)
    have e12 : rd_ h 94 12 = T 0 0 := g.2.1.1.1
    have e13 : rd_ h 94 13 = T 0 1 := g.2.1.1.2.1
    have bigM := mB (T 0 0).toNat
    have bigS := sB (T 0 0).toNat (fun m p q => eb2 m p (by omega))
    have litM := mB n
    have litS := sB n (fun m p q => eb2 m p (by omega))
    have mM := mB (n + 1)
    rw [mny_s1] at d7
    rw [su_s1] at d8
    have bad : ∀ (P : Prop), (¬ (gP_ (T 0 1) (T 0 0) c n = T 0 1 ∨ (gP_ (T 0 1) (T 0 0) c n < T 0 1 ∧ 1 ≤ C (gP_ (T 0 1) (T 0 0) c n) ∧ C (gP_ (T 0 1) (T 0 0) c n) ≤ T 2 n))) → ∃ h' r', some (h, (0 : Int)) = some (h', r') ∧ (VGc (T 0 1) (T 0 0) C (T 2) c → r' = 1 ∧ rd_ h' 94 77 = mny_ (T 0 1) (gP_ (T 0 1) (T 0 0) c) (T 0 0).toNat ∧ rd_ h' 94 78 = su_ (T 0 1) C (gP_ (T 0 1) (T 0 0) c) (T 0 0).toNat) ∧ (¬ VGc (T 0 1) (T 0 0) C (T 2) c → r' = 0) ∧ MN h' T W I U Q ∧ RW h' 134 (T 0 1) C ∧ fzL h h' := fun _ q => ⟨h, 0, rfl, fun vv => absurd (vv.1 n (by omega) (by omega)) q, fun _ => rfl, g, r, fz_refl _ _ _⟩
    rw [Mo_laysMatch_1_e, en, if_neg (by omega)]
    simp only [e13]
    rw [ck_t (by omega), ck_t (by omega), ck_t (by omega), ck_t (by omega), ck_t (by omega)]
    simp only [ed, er]
    by_cases q : gP_ (T 0 1) (T 0 0) c n = T 0 1
    · rw [if_neg (fun z => z q), w32_i (x := (n : Int) + -1) (by omega) (by omega)]
      rw [if_pos q] at d7 d8
      have := ih h x (by omega) g r x0 x1 (fun p p0 p1 => by
        rw [bx p p0 p1]
        constructor
        · intro ⟨i, a, b, d⟩; exact ⟨i, by omega, b, d⟩
        · intro ⟨i, a, b, d, d'⟩
          have : i ≠ n := fun z => by rw [z, q] at d; omega
          exact ⟨i, by omega, b, d, d'⟩) (fun m a b => by
          by_cases z : m = n
          · rw [z]; exact Or.inl q
          · exact a1 m (by omega) b) (fun i j a b d e => by
          by_cases z : i = n
          · rw [z]; exact q
          · exact a2 i j (by omega) b d e) (by omega) (by omega)
      exact this
    · rw [if_pos q]
      rw [if_neg q] at d7 d8
      have bq := fun (_ : Unit) => bx (gP_ (T 0 1) (T 0 0) c n) en1.1 (by omega)
      have bs := bto_s x0 x1 en1.1 (by omega : gP_ (T 0 1) (T 0 0) c n < 4)
      have rc := r (gP_ (T 0 1) (T 0 0) c n) en1.1 (by omega)
      have cb := Cb (gP_ (T 0 1) (T 0 0) c n) en1.1 (by omega)
      have sk : rd_ h 100 n = T 2 n := g.2.1.2.2.1 n (by omega) (by omega)
      rw [Mo_isOf_s h bs.2.1, bd_v]
      by_cases qt : btt_ x (gP_ (T 0 1) (T 0 0) c n) ≠ 0
      · rw [if_pos qt]
        obtain ⟨i, a, b, d, d'⟩ := (bq ()).mp qt
        exact ⟨h, 0, rfl, fun vv => by
          have := vv.2 n i (by omega) (by omega) b d.symm
          omega, fun _ => rfl, g, r, fz_refl _ _ _⟩
      · rw [if_neg qt]
        simp only [ml134 g.1, rc, mr25 g.1, ml100 g.1, sk]
        rw [ck_t (by omega), ck_t (by omega)]
        by_cases qz : C (gP_ (T 0 1) (T 0 0) c n) < 1
        · rw [if_pos qz]
          exact bad True (by omega)
        · rw [if_neg qz, ck_t (by omega), ck_t (by omega), ck_t (by omega), ck_t (by omega), ck_t (by omega)]
          by_cases qs : C (gP_ (T 0 1) (T 0 0) c n) ≤ T 2 n
          · rw [if_pos qs, ck_t (by omega), ck_t (by omega), ck_t (by omega), ck_t (by omega), ck_t (by omega), ck_t (by omega)]
            have h78 : rd_ (wr_ h 94 77 (w32 (rd_ h 94 77 + 1))) 94 78 = rd_ h 94 78 := rd_wk (by omega)
            have h134 : rd_ (wr_ h 94 77 (w32 (rd_ h 94 77 + 1))) 134 (gP_ (T 0 1) (T 0 0) c n) = C (gP_ (T 0 1) (T 0 0) c n) := by rw [rd_wo (by omega)]; exact rc
            rw [h78, h134, w32_i (x := (n : Int) + -1) (by omega) (by omega), w32_i (x := rd_ h 94 77 + 1) (by omega) (by omega), w32_i (x := rd_ h 94 78 + C (gP_ (T 0 1) (T 0 0) c n)) (by omega) (by omega)]
            have Z : fzL h (wr_ (wr_ h 94 77 (rd_ h 94 77 + 1)) 94 78 (rd_ h 94 78 + C (gP_ (T 0 1) (T 0 0) c n))) := fz_tr (fz_wf (Or.inl rfl)) (fz_wf (Or.inr rfl))
            obtain ⟨h', r', y1, y2, y3, y4, y5, y6⟩ := ih (wr_ (wr_ h 94 77 (rd_ h 94 77 + 1)) 94 78 (rd_ h 94 78 + C (gP_ (T 0 1) (T 0 0) c n))) (bto_ x (gP_ (T 0 1) (T 0 0) c n)) (by omega) (MN_q g v (mL_q Z)) (RW_o (RW_o r (by omega)) (by omega)) bs.1.1 bs.1.2 (fun p p0 p1 => by
              rw [bs.2.2 p p0 p1]
              by_cases z : p = gP_ (T 0 1) (T 0 0) c n
              · rw [if_pos z]
                exact ⟨fun _ => ⟨n, by omega, by omega, z.symm, by omega⟩, fun _ => by omega⟩
              · rw [if_neg z, bx p p0 p1]
                constructor
                · intro ⟨i, a, b, d⟩; exact ⟨i, by omega, b, d⟩
                · intro ⟨i, a, b, d, d'⟩
                  have : i ≠ n := fun y => z (by rw [← d, y])
                  exact ⟨i, by omega, b, d, d'⟩) (fun m a b => by
                by_cases z : m = n
                · rw [z]; exact Or.inr ⟨by omega, by omega, qs⟩
                · exact a1 m (by omega) b) (fun i j a b d e => by
                by_cases z : i = n
                · rw [z] at e
                  exact absurd ((bq ()).mpr ⟨j, by omega, d, e.symm, by omega⟩) qt
                · exact a2 i j (by omega) b d e) (by rw [rd_wk (by omega), rd_ws]; omega) (by rw [rd_ws]; omega)
            exact ⟨h', r', y1, y2, y3, y4, y5, fz_tr Z y6⟩
          · rw [if_neg qs]
            exact bad True (by omega)
end
