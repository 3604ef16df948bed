/-! a turn, in the reference: its steps put together -/
section
variable {h : am_H} {b m p d : Int} {T W : Tx} {M : Int → Int}
theorem Mo_idle_s (g : MS h b T W M) : ck_ (0 ≤ (94 : Int)) (ck_ (0 ≤ (126 : Int)) (ck_ (0 ≤ b ∧ b < 2) (ck_ (0 ≤ (126 : Int)) (ck_ (0 ≤ b ∧ b < 2) (some (wr_ h 126 b (w32 (rd_ h 126 b + 1)), (0 : Int))))))) = some (wr_ h 126 b (w32 (W 6 1 + 1)), 0) ∧ MS (wr_ h 126 b (w32 (W 6 1 + 1))) b T (up_ W 6 1 (w32 (W 6 1 + 1))) M ∧ MG h (wr_ h 126 b (w32 (W 6 1 + 1))) b M := by
  have b0 := g.2.2.2.1.1
  have e : rd_ h 126 b = W 6 1 := g.2.2.2.1.2.2.2.2.2.2.2.2
  rw [e]
  have q := MW_id g.2.2.2.1 (w32 (W 6 1 + 1))
  refine ⟨?_, MS_half g (fr_wr ⟨by omega, by omega⟩) q.2 q.1 rfl (fun x => Or.inl (rd_wo (by omega)))⟩
  repeat rw [ck_t (by omega)]
/-- chipping -/
theorem Mo_chip_s (g : MS h b T W M) (v : WV T W) (h1 : 0 ≤ p) (h2 : p < T 0 1) (h3 : 1 ≤ W 0 p) (c : Bool) : ∃ h', Mo_turnsOne_15 h 94 b p (bz c) = some (h', 0) ∧ MS h' b T (if c then up_ W 5 (W 3 (5 * p)) 1 else W) M ∧ MG h h' b M := by
  have b0 := g.2.2.2.1.1
  have v0 := v.1
  rw [Mo_turnsOne_15_e]
  cases c with
  | false =>
    rw [if_pos (show bz false = 0 from rfl)]
    exact ⟨h, rfl, g, MG_refl _ _ _⟩
  | true =>
    obtain ⟨q1, q2, q3⟩ := Pa_in v (k := 0) h1 h2 (by omega) (by omega)
    rw [Int.add_zero] at q1 q2 q3
    rw [if_neg (show ¬ bz true = 0 by decide)]
    repeat rw [ck_t (by omega)]
    rw [Mo_plateAt_s g.1 g.2.2.2.1 v h1 h2, bd_v, q1]
    simp only [mr56 g.1, ml124 g.1]
    simp (disch := omega) only [w32_i]
    repeat rw [ck_t (by omega)]
    have q := MW_ch g.2.2.2.1 v q2 q3 1
    have z := MS_half g (fr_wr ⟨by omega, by omega⟩) q.2 q.1 rfl (fun x => by
      rw [rd_wa]
      split
      · exact Or.inr rfl
      · exact Or.inl rfl)
    exact ⟨_, rfl, z.1, z.2⟩
theorem Mo_number1_s (g : MS h b T W M) (v : WV T W) (hM : M 3 = 1) : ∃ h', Mo_number1 h 94 100 = some (h', Int.tmod (Int.tdiv (nm_ (W 6 2)) 65536) 100) ∧ MS h' b T (up_ W 6 2 (nm_ (W 6 2))) M ∧ MG h h' b M := by
  have e := g.2.2.2.2.2 hM
  rw [Mo_number1_e]
  rw [rd_ws, e]
  repeat rw [ck_t (by omega)]
  have nb := al_mask (w64 (w64 (W 6 2 * 1103515245) + 12345))
  have t0 : 0 ≤ Int.tdiv (nm_ (W 6 2)) 65536 := Int.tdiv_nonneg nb.1 (by omega)
  have t1 := Int.natAbs_tdiv_le_natAbs (nm_ (W 6 2)) 65536
  have t2 : nm_ (W 6 2) ≤ 2147483647 := nb.2
  have t3 : 0 ≤ nm_ (W 6 2) := nb.1
  have t4 := tmod_b _ t0
  have z : fz_ h (wr_ h 94 60 (nm_ (W 6 2))) (fun _ => False) (fun x => x = 60) := fz_wf rfl
  obtain ⟨a, c, d, o, f, -⟩ := id g
  refine ⟨wr_ h 94 60 (nm_ (W 6 2)), ?_, ⟨fz_ShM z a, MT_fz c z (fun _ _ _ q => q) (by intro k p q; omega), ML_fm d z (fun _ _ _ q => q), ?_, MM_fz f z (by intro k p q; omega), fun _ => by rw [rd_ws, up_s, if_pos rfl]⟩, fz_mo z (fun _ q => q.elim) (fun _ q => Or.inr q), hf_fz z (fun _ _ _ q => q) b, fun q => by omega, fun x => Or.inl (rd_wo (by omega))⟩
  · show some (wr_ h 94 60 (nm_ (W 6 2)), w32 (Int.tmod (w64 (Int.tdiv (nm_ (W 6 2)) 65536)) 100)) = _
    rw [w64_i (by omega) (by omega), w32_i (by omega) (by omega)]
  · obtain ⟨b0, g0, g1, g2, g3, g4, g5, g6, g7⟩ := MW_fz o z (fun _ _ _ q => q)
    exact ⟨b0, g0, g1, g2, g3, g4, g5, by rw [up_s, if_neg (by omega)]; exact g6, by rw [up_s, if_neg (by omega)]; exact g7⟩
theorem Mo_odds_s (g : MS h b T W M) (v : WV T W) (h1 : 0 ≤ p) (h2 : p < T 0 1) (h3 : 1 ≤ W 0 p) (hM : M 3 = 0 ∨ M 3 = 1) {o : Int} (o0 : 0 ≤ o) (o1 : o ≤ 100) :
    ∃ h', (if o = 100 then Mo_turnsOne_15 h 94 b p 1 else if o ≤ 0 then Mo_turnsOne_15 h 94 b p 0 else ck_ (0 ≤ (94 : Int)) (if rd_ h 94 61 = 0 then (if o < 50 then Mo_turnsOne_15 h 94 b p 0 else Mo_turnsOne_15 h 94 b p 1) else ck_ (0 ≤ (94 : Int)) (bd_ (Mo_number1 h 94 100) fun h7 v8 => if o ≤ v8 then Mo_turnsOne_15 h7 94 b p 0 else Mo_turnsOne_15 h7 94 b p 1))) = some (h', 0) ∧
      MS h' b T (if ci_ (M 3) o (nu_ (M 3) o W) then up_ (nu_ (M 3) o W) 5 (W 3 (5 * p)) 1 else nu_ (M 3) o W) M ∧ MG h h' b M := by
  have e61 := g.2.2.2.2.1.1
  unfold ci_ nu_ dn_
  by_cases c1 : M 3 ≠ 0 ∧ o ≠ 0 ∧ o ≠ 100
  · have cc : decide (M 3 ≠ 0 ∧ o ≠ 0 ∧ o ≠ 100) = true := decide_eq_true c1
    simp only [cc, ↓reduceIte]
    rw [if_neg c1.2.2, if_neg (by omega), e61, if_neg c1.1]
    repeat rw [ck_t (by omega)]
    obtain ⟨ha, a1, a2, a3⟩ := Mo_number1_s g v (by omega)
    rw [a1, bd_v, up_s, if_pos rfl]
    obtain ⟨h', d1, d2, d3⟩ := Mo_chip_s a2 (nu_v v _) h1 h2 h3 (decide (Int.tmod (Int.tdiv (nm_ (W 6 2)) 65536) 100 < o))
    refine ⟨h', ?_, d2, MG_tr a3 d3⟩
    rw [← d1]
    by_cases c2 : o ≤ Int.tmod (Int.tdiv (nm_ (W 6 2)) 65536) 100
    · rw [if_pos c2, decide_eq_false (by omega)]; rfl
    · rw [if_neg c2, decide_eq_true (by omega)]; rfl
  · have cc : decide (M 3 ≠ 0 ∧ o ≠ 0 ∧ o ≠ 100) = false := decide_eq_false c1
    simp only [cc, Bool.false_eq_true, ↓reduceIte]
    obtain ⟨h', d1, d2, d3⟩ := Mo_chip_s g v h1 h2 h3 (if M 3 = 0 then decide (50 ≤ o) else decide (o = 100))
    refine ⟨h', ?_, d2, d3⟩
    rw [← d1, e61]
    by_cases c2 : M 3 = 0
    · rw [if_pos c2, if_pos c2]
      by_cases c3 : o = 100
      · rw [if_pos c3, decide_eq_true (by omega)]; rfl
      · rw [if_neg c3]
        by_cases c4 : o ≤ 0
        · rw [if_pos c4, decide_eq_false (by omega)]; rfl
        · rw [if_neg c4, ck_t (by omega)]
          by_cases c5 : o < 50
          · rw [if_pos c5, decide_eq_false (by omega)]; rfl
          · rw [if_neg c5, decide_eq_true (by omega)]; rfl
    · rw [if_neg (c := M 3 = 0) c2, if_neg (c := M 3 = 0) c2]
      by_cases c3 : o = 100
      · rw [if_pos c3, decide_eq_true c3]; rfl
      · rw [if_neg c3, if_pos (by omega), decide_eq_false c3]; rfl
theorem Mo_turnsOne_s (g : MS h b T W M) (v : WV T W) (u : TV T) (h1 : 0 ≤ p) (h2 : p < T 0 1) (h3 : 0 ≤ m) (h4 : m < T 0 0) (h5 : 0 ≤ d) (h6 : d ≤ 6) (hM : M 3 = 0 ∨ M 3 = 1) :
    ∃ h', Mo_turnsOne h 94 b m p d = some (h', 0) ∧ MS h' b T (zt_ T (M 3) (if M 4 = 0 then 1 else 0) W m p d) M ∧ MG h h' b M := by
  have b0 := g.2.2.2.1.1
  have v0 := v.1
  have Eb := fun x => nv_b v u 0 h1 h2 h3 h4 h5 h6 x
  obtain ⟨ha, a1, a2, a3⟩ := Mo_lay_s g.1 g.2.1 g.2.2.2.1 v h1 h2 h3 h4 h5 h6
  have ga := MS_lay g a3
  obtain ⟨hb, b1, b2⟩ := Mo_isHeeded_s ga.1 ga.2.2.1 a2 u Eb ga.2.2.2.2.1.2.1 (by split <;> omega)
  have gb := MS_law ga b2
  have nb : NM hb (nv_ T W m p d 0) := fun x p q => by rw [b2.2.1 118 (by omega) (by omega)]; exact a2 x p q
  have ev : (if T 14 2 ≤ T 13 2 then 1 else (lv_ T (nv_ T W m p d 0) 2).getD 1) = hv_ T W m p d := by
    unfold hv_
    rw [nv_k T W m p d (k := 2) (by omega)]
  rw [ev] at b1
  have Gb : MG h hb b M := MG_tr (MG_lay a3) (MG_law b2)
  obtain ⟨i1, i2, i3⟩ := Mo_idle_s gb
  rw [Mo_turnsOne_e]
  repeat rw [ck_t (by omega)]
  rw [a1, bd_v]
  repeat rw [ck_t (by omega)]
  rw [b1, bd_v, zt_r]
  have idle : ∃ h', some (wr_ hb 126 b (w32 (W 6 1 + 1)), (0 : Int)) = some (h', 0) ∧ MS h' b T (up_ W 6 1 (w32 (W 6 1 + 1))) M ∧ MG h h' b M := ⟨_, rfl, i2, MG_tr Gb i3⟩
  by_cases c1 : (if M 4 = 0 then (1 : Int) else 0) = 0 ∧ hv_ T W m p d = 0
  · rw [if_pos c1, if_pos rfl, if_pos (Or.inl c1)]
    simp only [mr58 gb.1, ml126 gb.1, i1]
    exact idle
  · rw [if_neg c1, if_neg (by omega)]
    repeat rw [ck_t (by omega)]
    rw [Mo_highOf_s gb.1 gb.2.2.2.1 h1 h2 v, bd_v]
    by_cases c2 : d < 1 ∨ W 0 p < d
    · rw [if_pos (Or.inr c2)]
      simp only [mr58 gb.1, ml126 gb.1, i1]
      by_cases c3 : W 0 p < d
      · rw [if_pos c3]; exact idle
      · rw [if_neg c3, if_neg (by omega)]; exact idle
    · rw [if_neg (by omega), if_pos (by omega), if_neg (by rintro (q | q); exact c1 q; exact c2 q)]
      repeat rw [ck_t (by omega)]
      obtain ⟨hc, c3, c4⟩ := Mo_boundLaw_s gb.1 gb.2.2.1 nb u Eb (k := 0) (by omega) (by omega) (wo := d) (mo := 999) (by omega) (by omega) (by omega)
      have gc := MS_law gb c4
      have eb : 0 ≤ ef_ T W m p d ∧ ef_ T W m p d ≤ 999 := wi_b (by omega)
      have c3' : Mo_boundLaw hb 94 0 d 999 = some (hc, ef_ T W m p d) := c3
      rw [c3', bd_v]
      repeat rw [ck_t (by omega)]
      obtain ⟨hd, d1, d2, d3, d4⟩ := Mo_turnsBy_s gc.1 gc.2.2.2.1 v h1 h2 (d := d) (by omega) (by omega)
      obtain ⟨gd, Gd⟩ := MS_half gc (fr_mo d3 fun a q => by omega) d4 d2 rfl (fun x => Or.inl (d3.2 124 (by omega) x))
      have vd := Tn_v v h1 h2 (d := d) (by omega) (by omega)
      have ti := gd.2.2.2.1.2.2.2.1 m h3 h4
      have tb := vd.2.2.2.2.2.2.2.2.1 m h3 h4
      rw [d1, bd_v]
      simp only [mr57 gd.1, ml125 gd.1]
      simp (disch := omega) only [w32_i]
      rw [ti]
      repeat rw [ck_t (by omega)]
      -- tired
      have te : ∃ h', Mo_turnsOne_7 hd 94 b m p d (if 99999 < Tn W p d 2 m + ef_ T W m p d then 99999 else Tn W p d 2 m + ef_ T W m p d) (4 * b + m) 125 = some (h', 0) ∧ MS h' b T (zr_ T (M 3) W m p d) M ∧ MG hd h' b M := by
        have q := MW_ti gd.2.2.2.1 vd h3 h4 (if 99999 < Tn W p d 2 m + ef_ T W m p d then 99999 else Tn W p d 2 m + ef_ T W m p d)
        obtain ⟨ge, Ge⟩ := MS_half gd (fr_wr ⟨by omega, by omega⟩) q.2 q.1 rfl (fun x => Or.inl (rd_wo (by omega)))
        have we : up_ (Tn W p d) 2 m (if 99999 < Tn W p d 2 m + ef_ T W m p d then 99999 else Tn W p d 2 m + ef_ T W m p d) = ti_ (Tn W p d) m (ef_ T W m p d) := rfl
        rw [we] at ge
        have ve := ti_v vd eb.1 h3 h4
        have Ee := fun x => nv_b ve u 1 h1 h2 h3 h4 h5 h6 x
        obtain ⟨hf, f1, f2, f3⟩ := Mo_lay_s ge.1 ge.2.1 ge.2.2.2.1 ve h1 h2 h3 h4 h5 h6
        have gf := MS_lay ge f3
        rw [Mo_turnsOne_7_e]
        simp only [ml125 gd.1]
        repeat rw [ck_t (by omega)]
        rw [f1, bd_v]
        repeat rw [ck_t (by omega)]
        rw [Mo_sizeAt_s gf.1 gf.2.1 gf.2.2.2.1 ve h1 h2, bd_v]
        simp only [mr49 gf.1, ml118 gf.1, mr23 gf.1, ml98 gf.1]
        repeat rw [ck_t (by omega)]
        have f4 : fz_ hf (wr_ hf 118 0 (Zs T (ti_ (Tn W p d) m (ef_ T W m p d)) p 0)) (fun a => a = 118) (fun _ => False) := fz_wr rfl (by omega)
        have gg := MS_lay gf f4
        have ng : NM (wr_ hf 118 0 (Zs T (ti_ (Tn W p d) m (ef_ T W m p d)) p 0)) (nv_ T (ti_ (Tn W p d) m (ef_ T W m p d)) m p d 1) := by
          intro x p0 p1
          rw [rd_wa]
          by_cases c : x = 0
          · rw [if_pos c]
            unfold nv_
            rw [if_pos c, if_pos rfl]
          · rw [if_neg c, f2 x p0 p1]
            unfold nv_
            rw [if_neg c, if_neg c]
        have chip : rd_ (wr_ hf 118 0 (Zs T (ti_ (Tn W p d) m (ef_ T W m p d)) p 0)) 98 0 = T 0 5 := gg.2.1.1.2.2.2.2.2.1
        have u0 := u.1
        obtain ⟨hi, j1, j2⟩ := Mo_boundLaw_s gg.1 gg.2.2.1 ng u Ee (k := 1) (by omega) (by omega) (wo := T 0 5) (mo := 100) (by omega) (by omega) (by omega)
        have gi := MS_law gg j2
        have j1' : Mo_boundLaw (wr_ hf 118 0 (Zs T (ti_ (Tn W p d) m (ef_ T W m p d)) p 0)) 94 1 (T 0 5) 100 = some (hi, od_ T (ti_ (Tn W p d) m (ef_ T W m p d)) m p d) := j1
        rw [chip, j1', bd_v]
        have ob : 0 ≤ od_ T (ti_ (Tn W p d) m (ef_ T W m p d)) m p d ∧ od_ T (ti_ (Tn W p d) m (ef_ T W m p d)) m p d ≤ 100 := wi_b (by omega)
        obtain ⟨h', k1, k2, k3⟩ := Mo_odds_s gi ve h1 h2 (show 1 ≤ W 0 p by omega) hM ob.1 ob.2
        exact ⟨h', k1, k2, MG_tr Ge (MG_tr (MG_lay f3) (MG_tr (MG_lay f4) (MG_tr (MG_law j2) k3)))⟩
      obtain ⟨h', t1, t2, t3⟩ := te
      refine ⟨h', ?_, t2, MG_tr Gb (MG_tr (MG_law c4) (MG_tr Gd t3))⟩
      rw [← t1]
      by_cases c5 : 99999 < Tn W p d 2 m + ef_ T W m p d
      · rw [if_pos (by omega), if_pos c5]
      · rw [if_neg c5]
        by_cases c6 : 99999 ≤ Tn W p d 2 m + ef_ T W m p d
        · rw [if_pos c6]
          congr 1
          omega
        · rw [if_neg c6]
          repeat rw [ck_t (by omega)]
end
