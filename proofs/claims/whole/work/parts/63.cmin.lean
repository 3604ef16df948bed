/-! a turn, in the class -/
section
variable {h : am_H} {t w : Int} {T W : Tx}
theorem WO_ti (o : WO h w T W) {m : Int} (z : Int) : WO (wr_ h (w + 3) m z) w T (up_ W 2 m z) := by
  obtain ⟨s, ⟨e0, e1, e2, e3, e4, e5⟩, f1, f2, f3, f4, f5, f6, f7⟩ := o
  refine ⟨ShW_of rfl s, ?_, ?_, ?_, ?_, ?_, ?_, ?_, ?_⟩
  · rw [rd_wo (by omega), rd_wo (by omega), rd_wo (by omega), rd_wo (by omega), rd_wo (by omega), rd_wo (by omega)]
    exact ⟨e0, e1, e2, e3, e4, e5⟩
  · intro j a b
    rw [rd_wo (by omega)]; exact f1 j a b
  · intro j a b
    rw [rd_wo (by omega)]; exact f2 j a b
  · intro j a b
    rw [rd_wa, up_s]
    split
    · rfl
    · exact f3 j a b
  · intro j k a b c d
    rw [rd_wo (by omega)]; exact f4 j k a b c d
  · intro j a b
    rw [rd_wo (by omega)]; exact f5 j a b
  · intro j a b
    rw [rd_wo (by omega)]; exact f6 j a b
  · intro j a b
    rw [rd_wo (by omega)]; exact f7 j a b
theorem WO_ch (o : WO h w T W) {j : Int} (z : Int) : WO (wr_ h (w + 7) j z) w T (up_ W 5 j z) := by
  obtain ⟨s, ⟨e0, e1, e2, e3, e4, e5⟩, f1, f2, f3, f4, f5, f6, f7⟩ := o
  refine ⟨ShW_of rfl s, ?_, ?_, ?_, ?_, ?_, ?_, ?_, ?_⟩
  · rw [rd_wo (by omega), rd_wo (by omega), rd_wo (by omega), rd_wo (by omega), rd_wo (by omega), rd_wo (by omega)]
    exact ⟨e0, e1, e2, e3, e4, e5⟩
  · intro j a b
    rw [rd_wo (by omega)]; exact f1 j a b
  · intro j a b
    rw [rd_wo (by omega)]; exact f2 j a b
  · intro j a b
    rw [rd_wo (by omega)]; exact f3 j a b
  · intro j k a b c d
    rw [rd_wo (by omega)]; exact f4 j k a b c d
  · intro j a b
    rw [rd_wo (by omega)]; exact f5 j a b
  · intro j a b
    rw [rd_wo (by omega)]; exact f6 j a b
  · intro j a b
    rw [rd_wa, up_s]
    split
    · rfl
    · exact f7 j a b
theorem WO_mi (o : WO h w T W)  (z : Int) : WO (wr_ h w 3 z) w T (up_ W 6 0 z) := by
  obtain ⟨s, ⟨e0, e1, e2, e3, e4, e5⟩, f1, f2, f3, f4, f5, f6, f7⟩ := o
  refine ⟨ShW_of rfl s, ?_, ?_, ?_, ?_, ?_, ?_, ?_, ?_⟩
  · simp only [rd_wa, up_s, e0, e1, e2, e3, e4, e5]
    simp
  · intro j a b
    rw [rd_wo (by omega)]; exact f1 j a b
  · intro j a b
    rw [rd_wo (by omega)]; exact f2 j a b
  · intro j a b
    rw [rd_wo (by omega)]; exact f3 j a b
  · intro j k a b c d
    rw [rd_wo (by omega)]; exact f4 j k a b c d
  · intro j a b
    rw [rd_wo (by omega)]; exact f5 j a b
  · intro j a b
    rw [rd_wo (by omega)]; exact f6 j a b
  · intro j a b
    rw [rd_wo (by omega)]; exact f7 j a b
theorem WO_id (o : WO h w T W)  (z : Int) : WO (wr_ h w 4 z) w T (up_ W 6 1 z) := by
  obtain ⟨s, ⟨e0, e1, e2, e3, e4, e5⟩, f1, f2, f3, f4, f5, f6, f7⟩ := o
  refine ⟨ShW_of rfl s, ?_, ?_, ?_, ?_, ?_, ?_, ?_, ?_⟩
  · simp only [rd_wa, up_s, e0, e1, e2, e3, e4, e5]
    simp
  · intro j a b
    rw [rd_wo (by omega)]; exact f1 j a b
  · intro j a b
    rw [rd_wo (by omega)]; exact f2 j a b
  · intro j a b
    rw [rd_wo (by omega)]; exact f3 j a b
  · intro j k a b c d
    rw [rd_wo (by omega)]; exact f4 j k a b c d
  · intro j a b
    rw [rd_wo (by omega)]; exact f5 j a b
  · intro j a b
    rw [rd_wo (by omega)]; exact f6 j a b
  · intro j a b
    rw [rd_wo (by omega)]; exact f7 j a b
theorem WO_nu (o : WO h w T W)  (z : Int) : WO (wr_ h w 5 z) w T (up_ W 6 2 z) := by
  obtain ⟨s, ⟨e0, e1, e2, e3, e4, e5⟩, f1, f2, f3, f4, f5, f6, f7⟩ := o
  refine ⟨ShW_of rfl s, ?_, ?_, ?_, ?_, ?_, ?_, ?_, ?_⟩
  · simp only [rd_wa, up_s, e0, e1, e2, e3, e4, e5]
    simp
  · intro j a b
    rw [rd_wo (by omega)]; exact f1 j a b
  · intro j a b
    rw [rd_wo (by omega)]; exact f2 j a b
  · intro j a b
    rw [rd_wo (by omega)]; exact f3 j a b
  · intro j k a b c d
    rw [rd_wo (by omega)]; exact f4 j k a b c d
  · intro j a b
    rw [rd_wo (by omega)]; exact f5 j a b
  · intro j a b
    rw [rd_wo (by omega)]; exact f6 j a b
  · intro j a b
    rw [rd_wo (by omega)]; exact f7 j a b
theorem Wo_chipTop_s (o : WO h w T W) (v : WV T W) {p : Int} (h1 : 0 ≤ p) (h2 : p < T 0 1) (h3 : 1 ≤ W 0 p) : Wo_chipTop h w p = some (wr_ h (w + 7) (W 3 (5 * p)) 1, 0) := by
  obtain ⟨⟨w0, s6, s7, s8, s9, s10, s11, s12, s13, l1, l2, l3, l4, l5, l6, l7, l8⟩, -⟩ := id o
  have v0 := v.1
  obtain ⟨q1, q2, q3⟩ := Pa_in v (k := 0) h1 h2 (by omega) (by omega)
  rw [Int.add_zero] at q1 q2 q3
  rw [Wo_chipTop_e, Wo_plateAt_s o v, bd_v, q1, s12, l7]
  repeat first | rw [ck_t (by omega)] | rw [if_neg (by omega)] | rw [if_pos (by omega)] | simp (disch := omega) only [w32_i]
theorem Mi_within_s (h : am_H) (x : Int) {mo : Int} (h0 : 0 ≤ mo) (h1 : mo < 2147483648) : Mi_within h x mo = some (h, wi_ x mo) := by
  rw [Mi_within_e]
  have := wi_b (v := x) h0
  unfold wi_ at *
  rw [w32_i (by omega) (by omega)]
/-- who lets minutes go by, at 76: told t, world w, by what M -/
def MiO (h : am_H) (t w : Int) (M : Int → Int) : Prop := rf_ h 76 0 = 77 ∧ rf_ h 76 1 = t ∧ rf_ h 76 2 = w ∧ rf_ h 77 0 = 78 ∧ ln_ h 78 = 64 ∧ ∀ k, 3 ≤ k → k ≤ 7 → rd_ h 76 k = M k
theorem MiO_fq {h' : am_H} {M : Int → Int} {A B : Int → Prop} (g : MiO h t w M) (f : fq_ h h' A B) (na : ¬ A 76) (nb : ¬ B 76) (n7 : rf_ h' 77 0 = 78) : MiO h' t w M := by
  obtain ⟨a, b, c, d, e, i⟩ := g
  refine ⟨by rw [f.2.2 76 nb]; exact a, by rw [f.2.2 76 nb]; exact b, by rw [f.2.2 76 nb]; exact c, n7, by rw [fq_ln f]; exact e, fun k x y => by rw [f.2.1 76 na]; exact i k x y⟩
theorem tmod_b (x : Int) (hx : 0 ≤ x) : 0 ≤ Int.tmod x 100 ∧ Int.tmod x 100 < 100 := ⟨Int.tmod_nonneg _ hx, Int.tmod_lt_of_pos x (by omega)⟩
theorem Mi_chips_s {M : Int → Int} (g : MiO h t w M) (o : WO h w T W) (v : WV T W) (od : Int) (h0 : 0 ≤ od) (h1 : od ≤ 100) (hm : M 3 = 0 ∨ M 3 = 1) : ∃ h', Mi_chips h 76 od = some (h', bz (ci_ (M 3) od (nu_ (M 3) od W))) ∧ WO h' w T (nu_ (M 3) od W) ∧ fr_ h h' (fun a => a = w) := by
  obtain ⟨a, b, c, d, e, i⟩ := g
  have i3 := i 3 (by omega) (by omega)
  obtain ⟨⟨w0, -⟩, ⟨-, -, -, -, -, e5⟩, -⟩ := id o
  rw [Mi_chips_e]
  simp only [c, i3, ck_t w0, lc_ge]
  rw [ck_t (by omega)]
  unfold ci_ nu_ dn_
  by_cases c1 : M 3 = 0
  · have cc : decide (M 3 ≠ 0 ∧ od ≠ 0 ∧ od ≠ 100) = false := decide_eq_false (by omega)
    simp only [cc, Bool.false_eq_true, ↓reduceIte]
    rw [if_neg (by omega), if_pos c1]
    refine ⟨h, ?_, o, fr_refl _ _⟩
    by_cases c2 : od < 50
    · rw [if_pos c2, decide_eq_false (by omega)]; rfl
    · rw [if_neg c2, decide_eq_true (by omega)]; rfl
  · rw [if_pos c1]
    by_cases c2 : od = 0
    · have cc : decide (M 3 ≠ 0 ∧ od ≠ 0 ∧ od ≠ 100) = false := decide_eq_false (by omega)
      simp only [cc, Bool.false_eq_true, ↓reduceIte]
      rw [if_pos c2, if_pos (by omega), if_neg c1]
      refine ⟨h, ?_, o, fr_refl _ _⟩
      rw [decide_eq_false (by omega)]; rfl
    · rw [if_neg c2]
      by_cases c3 : od = 100
      · have cc : decide (M 3 ≠ 0 ∧ od ≠ 0 ∧ od ≠ 100) = false := decide_eq_false (by omega)
        simp only [cc, Bool.false_eq_true, ↓reduceIte]
        rw [if_neg (by omega), if_neg (by omega), if_neg c1]
        refine ⟨h, ?_, o, fr_refl _ _⟩
        rw [decide_eq_true c3]; rfl
      · have cc : decide (M 3 ≠ 0 ∧ od ≠ 0 ∧ od ≠ 100) = true := decide_eq_true ⟨c1, c2, c3⟩
        simp only [cc, ↓reduceIte]
        rw [if_pos c3]
        rw [ck_t (by omega), ck_t (by omega), ck_t (by omega), rd_ws, e5, ck_t (by omega), ck_t (by omega)]
        refine ⟨wr_ h w 5 (nm_ (W 6 2)), ?_, WO_nu o _, fr_wr rfl⟩
        have nb := al_mask (w64 (w64 (W 6 2 * 1103515245) + 12345))
        rw [up_s, if_pos rfl]
        have t0 : 0 ≤ Int.tdiv (nm_ (W 6 2)) 65536 := Int.tdiv_nonneg nb.1 (by omega)
        have t1 := Int.natAbs_tdiv_le_natAbs (nm_ (W 6 2)) 65536
        have t2 : nm_ (W 6 2) ≤ 2147483647 := nb.2
        have t3 : 0 ≤ nm_ (W 6 2) := nb.1
        show (if od ≤ Int.tmod (w64 (Int.tdiv (nm_ (W 6 2)) 65536)) 100 then some (wr_ h w 5 (nm_ (W 6 2)), (0 : Int)) else some (wr_ h w 5 (nm_ (W 6 2)), 1)) = _
        rw [w64_i (by omega) (by omega)]
        by_cases c4 : od ≤ Int.tmod (Int.tdiv (nm_ (W 6 2)) 65536) 100
        · rw [if_pos c4, decide_eq_false (by omega)]; rfl
        · rw [if_neg c4, decide_eq_true (by omega)]; rfl
end
