/-! fewest, ways, first, furthest, howMany, apart in the class; apart in the reference -/
section
variable {h : am_H} {T W I : Tx} {U : Int → Tx} {Q : Tx} {K S : Int}
theorem CJ_st (g : CJ h T W I U Q K S) (sv : SV T W I U Q) {p w : Int} (p0 : 0 ≤ p) (p1 : p < T 0 1) (wq : w = 0 ∨ w = 1) : ∃ h1 h2 c, Pp_chartOf h 0 (W 0 p) w = some (h1, c) ∧ Wo_state h1 47 p w = some (h2, stC T W p w) ∧ CJ h1 T W I U Q K S ∧ CJ h2 T W I U Q K S ∧ CHu h2 (rf_ h2 0 16) ∧ CHc h2 (rf_ h2 0 16) c w (W 0 p) ∧ rf_ h2 90 (6 * w + W 0 p) = c ∧ lb_ h h2 := by
  have v := sv.2.1
  have hh := v.2.1 p p0 p1
  obtain ⟨h1, c, a1, a2, a3, a4, a5, a6⟩ := CJ_ch g (H := W 0 p) (w := w) (by omega) hh.2 wq
  obtain ⟨h2, b1, b2, b3⟩ := Wo_state_s (b := 47) v p0 p1 wq a2.1.2.2.1
  have F : Fs_ h1 h2 := Fs_fr b3 (fun a q => by unfold Sc; omega)
  have e : rf_ h2 0 16 = rf_ h1 0 16 := (Fc_S F).2
  exact ⟨h1, h2, c, a1, b1, a2, CJ_F a2 F, by rw [e]; exact CHu_hi a3 (hi_Fs F), by rw [e]; exact CHc_hi a4 (hi_Fs F), by rw [(Fc_S F).1.2.2 90 (by omega)]; exact a5, lb_tr a6 (lb_Fc (Fc_S F))⟩
theorem Pp_fewest_t (g : CJ h T W I U Q K S) (sv : SV T W I U Q) {p w : Int} (p0 : 0 ≤ p) (p1 : p < T 0 1) (wq : w = 0 ∨ w = 1) : ∃ h', Pp_fewest h 0 p w = some (h', few_ T W p w) ∧ CJ h' T W I U Q K S ∧ lb_ h h' := by
  have v := sv.2.1
  have v0 := v.1
  have hh := v.2.1 p p0 p1
  have st := st_b (w := w) v p0 p1
  obtain ⟨h1, h2, c, a1, a2, g1, g2, b3, b4, _, L⟩ := CJ_st g sv p0 p1 wq
  have o := g.1.2.2.1
  obtain ⟨⟨w0, s6, s7, s8, s9, s10, s11, s12, s13, l1, l2, l3, l4, l5, l6, l7, l8⟩, ⟨e0, e1, e2, e3, e4, e5⟩, f1, f2, f3, f4, f5, f6, f7⟩ := id o
  have c0 := b4.1.1
  refine ⟨h2, ?_, g2, L⟩
  rw [Pp_fewest_e]
  simp only [cr0_7 g.1.1]
  rw [ck_t (by omega), ck_t (by omega), Wo_hasPile_t o p0 p1, bd_v, if_neg (by omega), if_neg (by omega), if_pos (by omega)]
  simp only [cr0_7 g.1.1, s6, l1, f1 p p0 p1]
  rw [ck_t (by omega), ck_t (by omega), ck_t (by omega), ck_t (by omega), ck_t (by omega), a1, bd_v]
  simp only [cr0_7 g1.1.1]
  rw [ck_t (by omega), ck_t (by omega), a2, bd_v, ck_t (by omega), Ch_leastOf_s b4.1 b4.2.1 st.1 st.2.1, bd_v]
  rfl
theorem Pp_fewest_f (g : CI h T W I U Q) {p w : Int} (c : ¬ ((0 ≤ p ∧ p < T 0 1) ∧ 0 ≤ w ∧ w ≤ 1)) : Pp_fewest h 0 p w = some (h, -1) := by
  have o := g.2.2.1
  rw [Pp_fewest_e]
  simp only [cr0_7 g.1]
  rw [ck_t (by omega), ck_t (by omega)]
  by_cases q : 0 ≤ p ∧ p < T 0 1
  · rw [Wo_hasPile_t o q.1 q.2, bd_v, if_neg (by omega)]
    by_cases r : w < 0
    · rw [if_pos r]
    · rw [if_neg r, if_neg (fun z => c ⟨q, by omega, z⟩)]
  · rw [Wo_hasPile_f o q, bd_v, if_pos rfl]
theorem Pp_ways_t (g : CJ h T W I U Q K S) (sv : SV T W I U Q) {p w : Int} (p0 : 0 ≤ p) (p1 : p < T 0 1) (wq : w = 0 ∨ w = 1) : ∃ h', Pp_ways h 0 p w = some (h', way_ T W p w) ∧ CJ h' T W I U Q K S ∧ lb_ h h' := by
  have v := sv.2.1
  have v0 := v.1
  have hh := v.2.1 p p0 p1
  have st := st_b (w := w) v p0 p1
  obtain ⟨h1, h2, c, a1, a2, g1, g2, b3, b4, _, L⟩ := CJ_st g sv p0 p1 wq
  have o := g.1.2.2.1
  obtain ⟨⟨w0, s6, s7, s8, s9, s10, s11, s12, s13, l1, l2, l3, l4, l5, l6, l7, l8⟩, ⟨e0, e1, e2, e3, e4, e5⟩, f1, f2, f3, f4, f5, f6, f7⟩ := id o
  have c0 := b4.1.1
  refine ⟨h2, ?_, g2, L⟩
  rw [Pp_ways_e]
  simp only [cr0_7 g.1.1]
  rw [ck_t (by omega), ck_t (by omega), Wo_hasPile_t o p0 p1, bd_v, if_neg (by omega), if_neg (by omega), if_pos (by omega)]
  simp only [cr0_7 g.1.1, s6, l1, f1 p p0 p1]
  rw [ck_t (by omega), ck_t (by omega), ck_t (by omega), ck_t (by omega), ck_t (by omega), a1, bd_v]
  simp only [cr0_7 g1.1.1]
  rw [ck_t (by omega), ck_t (by omega), a2, bd_v, ck_t (by omega), Ch_rowsOf_s b4.1 b4.2.1 st.1 st.2.1, bd_v]
  rfl
theorem Pp_ways_f (g : CI h T W I U Q) {p w : Int} (c : ¬ ((0 ≤ p ∧ p < T 0 1) ∧ 0 ≤ w ∧ w ≤ 1)) : Pp_ways h 0 p w = some (h, -1) := by
  have o := g.2.2.1
  rw [Pp_ways_e]
  simp only [cr0_7 g.1]
  rw [ck_t (by omega), ck_t (by omega)]
  by_cases q : 0 ≤ p ∧ p < T 0 1
  · rw [Wo_hasPile_t o q.1 q.2, bd_v, if_neg (by omega)]
    by_cases r : w < 0
    · rw [if_pos r]
    · rw [if_neg r, if_neg (fun z => c ⟨q, by omega, z⟩)]
  · rw [Wo_hasPile_f o q, bd_v, if_pos rfl]
theorem Pp_first_t (g : CJ h T W I U Q K S) (sv : SV T W I U Q) {p w : Int} (p0 : 0 ≤ p) (p1 : p < T 0 1) (wq : w = 0 ∨ w = 1) : ∃ h', Pp_first h 0 p w = some (h', fst_ w (W 0 p) (stC T W p w) (W 0 p).toNat 1) ∧ CJ h' T W I U Q K S ∧ lb_ h h' := by
  have v := sv.2.1
  have v0 := v.1
  have hh := v.2.1 p p0 p1
  have st := st_b (w := w) v p0 p1
  obtain ⟨h1, h2, c, a1, a2, g1, g2, b3, b4, _, L⟩ := CJ_st g sv p0 p1 wq
  have o := g.1.2.2.1
  obtain ⟨⟨w0, s6, s7, s8, s9, s10, s11, s12, s13, l1, l2, l3, l4, l5, l6, l7, l8⟩, ⟨e0, e1, e2, e3, e4, e5⟩, f1, f2, f3, f4, f5, f6, f7⟩ := id o
  have c0 := b4.1.1
  refine ⟨h2, ?_, g2, L⟩
  rw [Pp_first_e]
  simp only [cr0_7 g.1.1]
  rw [ck_t (by omega), ck_t (by omega), Wo_hasPile_t o p0 p1, bd_v, if_neg (by omega), if_neg (by omega), if_pos (by omega)]
  simp only [cr0_7 g.1.1, s6, l1, f1 p p0 p1]
  rw [ck_t (by omega), ck_t (by omega), ck_t (by omega), ck_t (by omega), ck_t (by omega), a1, bd_v]
  simp only [cr0_7 g1.1.1]
  rw [ck_t (by omega), ck_t (by omega), a2, bd_v, ck_t (by omega), Ch_nearing_s (by omega) hh.2 wq b3 b4.1 b4.2.1 st.1 st.2.1, bd_v]
theorem Pp_first_f (g : CI h T W I U Q) {p w : Int} (c : ¬ ((0 ≤ p ∧ p < T 0 1) ∧ 0 ≤ w ∧ w ≤ 1)) : Pp_first h 0 p w = some (h, -1) := by
  have o := g.2.2.1
  rw [Pp_first_e]
  simp only [cr0_7 g.1]
  rw [ck_t (by omega), ck_t (by omega)]
  by_cases q : 0 ≤ p ∧ p < T 0 1
  · rw [Wo_hasPile_t o q.1 q.2, bd_v, if_neg (by omega)]
    by_cases r : w < 0
    · rw [if_pos r]
    · rw [if_neg r, if_neg (fun z => c ⟨q, by omega, z⟩)]
  · rw [Wo_hasPile_f o q, bd_v, if_pos rfl]
theorem Pp_furthest_t (g : CJ h T W I U Q K S) {H w : Int} (h0 : 0 ≤ H) (h5 : H ≤ 5) (wq : w = 0 ∨ w = 1) : ∃ h', Pp_furthest h 0 H w = some (h', fur_ w H) ∧ CJ h' T W I U Q K S ∧ lb_ h h' := by
  obtain ⟨h1, c, a1, a2, a3, a4, a5, a6⟩ := CJ_ch g h0 h5 wq
  have c0 := a4.1.1
  have f0 := (fur_v h0 h5 wq).1
  refine ⟨h1, ?_, a2, a6⟩
  rw [Pp_furthest_e, if_neg (by omega), if_neg (by omega), if_neg (by omega), if_pos (by omega), ck_t (by omega), a1, bd_v, ck_t (by omega), Ch_furthestLeast_e, Ch_furthest_lp h0 h5 wq a4.1 a4.2.1 21 0 0 (by omega) (by omega) (fun q => by omega), bd_v]
theorem Pp_furthest_f (h : am_H) {H w : Int} (c : ¬ ((0 ≤ H ∧ H ≤ 5) ∧ 0 ≤ w ∧ w ≤ 1)) : Pp_furthest h 0 H w = some (h, -1) := by
  rw [Pp_furthest_e]
  by_cases q1 : H < 0
  · rw [if_pos q1]
  · rw [if_neg q1]
    by_cases q2 : 5 < H
    · rw [if_pos q2]
    · rw [if_neg q2]
      by_cases q3 : w < 0
      · rw [if_pos q3]
      · rw [if_neg q3, if_neg (fun z => c ⟨by omega, by omega, z⟩)]
theorem Pp_howMany_t (g : CJ h T W I U Q K S) {H w x : Int} (h0 : 0 ≤ H) (h5 : H ≤ 5) (wq : w = 0 ∨ w = 1) (x0 : 0 ≤ x) (x1 : x ≤ 20) : ∃ h', Pp_howMany h 0 H w x = some (h', hwm_ w H x) ∧ CJ h' T W I U Q K S ∧ lb_ h h' := by
  obtain ⟨h1, c, a1, a2, a3, a4, a5, a6⟩ := CJ_ch g h0 h5 wq
  have c0 := a4.1.1
  refine ⟨h1, ?_, a2, a6⟩
  rw [Pp_howMany_e, if_neg (by omega), if_neg (by omega), if_neg (by omega), if_neg (by omega), if_neg (by omega), if_pos (by omega), ck_t (by omega), a1, bd_v, ck_t (by omega), Ch_statesAt_e, if_neg (by omega), if_pos (by omega)]
  simp only [a4.1.2.2.2.1.2.2, a4.1.2.2.2.2.1]
  rw [ck_t (by omega), ck_t (by omega), ck_t (by omega), bd_v, a4.2.1.2.2 x x0 x1]
theorem Pp_howMany_f (h : am_H) {H w x : Int} (c : ¬ ((0 ≤ H ∧ H ≤ 5) ∧ (0 ≤ w ∧ w ≤ 1) ∧ 0 ≤ x ∧ x ≤ 20)) : Pp_howMany h 0 H w x = some (h, -1) := by
  rw [Pp_howMany_e]
  by_cases q1 : H < 0
  · rw [if_pos q1]
  · rw [if_neg q1]
    by_cases q2 : 5 < H
    · rw [if_pos q2]
    · rw [if_neg q2]
      by_cases q3 : w < 0
      · rw [if_pos q3]
      · rw [if_neg q3]
        by_cases q4 : 1 < w
        · rw [if_pos q4]
        · rw [if_neg q4]
          by_cases q5 : x < 0
          · rw [if_pos q5]
          · rw [if_neg q5, if_neg (fun z => c ⟨by omega, by omega, by omega, z⟩)]
/-- apart -/
theorem Pp_sA_lp {p q w : Int} (sv : SV T W I U Q) (p0 : 0 ≤ p) (p1 : p < T 0 1) (q0 : 0 ≤ q) (q1 : q < T 0 1) (e : W 0 p = W 0 q) : ∀ (n : Nat) (k f : Int) (h : am_H), CJ h T W I U Q K S → 0 ≤ k → k + n = W 0 p → i32_ f → RW h 91 k (av1_ T W p q) → ∃ h', Pp_stateAgainst_1 h 0 p q w (W 0 p) f k = Pp_stateAgainst_1 h' 0 p q w (W 0 p) (ff_ (af_ T W p q 1) n k f) (W 0 p) ∧ RW h' 91 (W 0 p) (av1_ T W p q) ∧ CJ h' T W I U Q K S ∧ Fs_ h h' := by
  intro n
  have v := sv.2.1
  have hh := v.2.1 p p0 p1
  obtain ⟨A1, A2⟩ := av1_s v p0 p1 q0 q1 e
  induction n with
  | zero =>
    intro k f h g k0 hk hf r
    have z : k = W 0 p := by omega
    rw [z] at r ⊢
    exact ⟨h, rfl, r, g, Fs_refl h⟩
  | succ n ih =>
    intro k f h g k0 hk hf r
    have o := g.1.2.2.1
    have ak := A1 k k0 (by omega)
    have F1 : Fs_ h (wr_ h 91 k (av1_ T W p q k)) := Fs_fr (fr_wr (A := fun a => a = 91) rfl) (fun a z => by unfold Sc; omega)
    have g1 := CJ_F g F1
    have r1 : RW (wr_ h 91 k (av1_ T W p q k)) 91 (k + 1) (av1_ T W p q) := RW_gr r rfl
    have ff : ∀ z, or_ f z = or_ f z := fun _ => rfl
    obtain ⟨h', b1, b2, b3, b4⟩ := ih (k + 1) (or_ f (w32 (af_ T W p q 1 k * 2 ^ (k % 32 : Int).toNat))) (wr_ h 91 k (av1_ T W p q k)) g1 (by omega) (by omega) (or_in _ _) r1
    refine ⟨h', ?_, b2, b3, Fs_tr F1 b4⟩
    have pr : Wo_placeOfRank h 47 q (Rk T W p k) = some (h, av1_ T W p q k) := by
      have hq := v.2.1 q q0 q1
      rw [Wo_placeOfRank_e, Wo_placeOfRank_lp o v q0 q1 (W 0 q).toNat 0 (by omega) (by omega)]
      rfl
    rw [Pp_stateAgainst_1_e, if_neg (by omega)]
    simp only [cr0_7 g.1.1, cr0_17 g.1.1]
    rw [ck_t (by omega), ck_t (by omega), ck_t (by omega), ck_t (by omega), Wo_rankAt_s o v p0 p1, bd_v, ck_t (by omega), pr, bd_v]
    simp only [cl91 g.1.1, cr0_7 g.1.1, cr0_17 g.1.1]
    rw [ck_t (by omega), ck_t (by omega), ck_t (by omega), ck_t (by omega), Wo_faceAt_s g1.1.2.2.1 v, bd_v]
    simp only [cl91 g1.1.1, cr0_7 g1.1.1, cr0_17 g1.1.1, rd_ws]
    rw [ck_t (by omega), ck_t (by omega), ck_t (by omega), ck_t (by omega), ck_t (by omega), Wo_faceAt_s g1.1.2.2.1 v, bd_v, w32_i (x := k + 1) (by omega) (by omega)]
    unfold ff_
    by_cases z : Fs T W p k = Fs T W q (av1_ T W p q k)
    · have ez : af_ T W p q 1 k = 0 := by unfold af_; rw [if_pos rfl, if_pos z]
      rw [if_pos z]
      rw [ez, show w32 (0 * 2 ^ (k % 32 : Int).toNat) = 0 by rw [Int.zero_mul]; rfl, or_0 hf] at b1 ⊢
      exact b1
    · have ez : af_ T W p q 1 k = 1 := by unfold af_; rw [if_pos rfl, if_neg z]
      rw [if_neg z]
      rw [ez] at b1 ⊢
      exact b1
theorem Pp_sA_s {p q w : Int} (g : CJ h T W I U Q K S) (sv : SV T W I U Q) (p0 : 0 ≤ p) (p1 : p < T 0 1) (q0 : 0 ≤ q) (q1 : q < T 0 1) (e : W 0 p = W 0 q) (wq : w = 0 ∨ w = 1) : ∃ h', Pp_stateAgainst h 0 p q w = some (h', aps_ T W p q w) ∧ CJ h' T W I U Q K S ∧ Fs_ h h' := by
  have v := sv.2.1
  have hh := v.2.1 p p0 p1
  have v0 := v.1
  obtain ⟨h', a1, a2, a3, a4⟩ := Pp_sA_lp (w := w) sv p0 p1 q0 q1 e (W 0 p).toNat 0 0 h g (by omega) (by omega) ⟨by omega, by omega⟩ (fun k x y => by omega)
  have o := g.1.2.2.1
  obtain ⟨⟨w0, s6, s7, s8, s9, s10, s11, s12, s13, l1, l2, l3, l4, l5, l6, l7, l8⟩, ⟨e0, e1, e2, e3, e4, e5⟩, f1, f2, f3, f4, f5, f6, f7⟩ := id o
  obtain ⟨A1, A2⟩ := av1_s v p0 p1 q0 q1 e
  have ov := oV_ (by omega) hh.2 A2
  have fb := oF_ (by omega) hh.2 (af_b T W p q 1 (W 0 p))
  refine ⟨h', ?_, a3, a4⟩
  rw [Pp_stateAgainst_e]
  simp only [cr0_7 g.1.1, s6, l1, f1 p p0 p1]
  rw [ck_t (by omega), ck_t (by omega), ck_t (by omega), ck_t (by omega), a1, Pp_stateAgainst_1_e, if_pos (by omega), ck_t (by omega)]
  simp only [cr0_17 a3.1.1]
  rw [Pp_orderOf_s (by omega) (by rw [cl91 a3.1.1]; omega) (by omega) (by omega) a2, bd_v, fb.2.2.2]
  unfold aps_ sC_
  rcases wq with z | z
  · rw [if_neg (by omega), if_neg (by omega)]
    rfl
  · rw [if_pos (by omega), if_pos z]
    have n2 := (oN_ (by omega) hh.2 ov.1.1 ov.1.2 fb.1.1 fb.1.2).1
    rw [z]
    exact so_v n2
theorem Pp_apart_t (g : CJ h T W I U Q K S) (sv : SV T W I U Q) {p q w : Int} (p0 : 0 ≤ p) (p1 : p < T 0 1) (q0 : 0 ≤ q) (q1 : q < T 0 1) (wq : w = 0 ∨ w = 1) : ∃ h', Pp_apart h 0 p q w = some (h', if W 0 p = W 0 q then apt_ T W p q w else -2) ∧ CJ h' T W I U Q K S ∧ lb_ h h' := by
  have v := sv.2.1
  have v0 := v.1
  have hh := v.2.1 p p0 p1
  have o := g.1.2.2.1
  obtain ⟨⟨w0, s6, s7, s8, s9, s10, s11, s12, s13, l1, l2, l3, l4, l5, l6, l7, l8⟩, ⟨e0, e1, e2, e3, e4, e5⟩, f1, f2, f3, f4, f5, f6, f7⟩ := id o
  rw [Pp_apart_e]
  simp only [cr0_7 g.1.1]
  rw [ck_t (by omega), ck_t (by omega), Wo_hasPile_t o p0 p1, bd_v, if_neg (by omega)]
  simp only [cr0_7 g.1.1]
  rw [ck_t (by omega), ck_t (by omega), Wo_hasPile_t o q0 q1, bd_v, if_neg (by omega), if_neg (by omega), if_pos (by omega)]
  simp only [cr0_7 g.1.1, s6, l1, f1 p p0 p1, f1 q q0 q1]
  rw [ck_t (by omega), ck_t (by omega), ck_t (by omega), ck_t (by omega), ck_t (by omega), ck_t (by omega), ck_t (by omega), ck_t (by omega)]
  by_cases e : W 0 p = W 0 q
  · obtain ⟨h1, c, a1, a2, a3, a4, a5, a6⟩ := CJ_ch g (H := W 0 p) (w := w) (by omega) hh.2 wq
    obtain ⟨h2, b1, b2, b3⟩ := Pp_sA_s a2 sv p0 p1 q0 q1 e wq
    have e16 : rf_ h2 0 16 = rf_ h1 0 16 := (Fc_S b3).2
    have b4 := CHc_hi a4 (hi_Fs b3)
    have c0 := b4.1.1
    have st := ap_ph (w := w) v p0 p1 q0 q1 e
    refine ⟨h2, ?_, b2, lb_tr a6 (lb_Fc (Fc_S b3))⟩
    rw [if_pos e, if_pos e, ck_t (by omega), ck_t (by omega), ck_t (by omega), ck_t (by omega), ck_t (by omega), a1, bd_v, ck_t (by omega), b1, bd_v, ck_t (by omega), Ch_leastOf_s b4.1 b4.2.1 st.2.1 st.2.2, bd_v]
    rfl
  · rw [if_neg e, if_neg e]
    exact ⟨h, rfl, g, lb_refl h⟩
theorem Pp_apart_f (g : CI h T W I U Q) {p q w : Int} (c : ¬ ((0 ≤ p ∧ p < T 0 1) ∧ (0 ≤ q ∧ q < T 0 1) ∧ 0 ≤ w ∧ w ≤ 1)) : Pp_apart h 0 p q w = some (h, -1) := by
  have o := g.2.2.1
  rw [Pp_apart_e]
  simp only [cr0_7 g.1]
  rw [ck_t (by omega), ck_t (by omega)]
  by_cases q1 : 0 ≤ p ∧ p < T 0 1
  · rw [Wo_hasPile_t o q1.1 q1.2, bd_v, if_neg (by omega)]
    simp only [cr0_7 g.1]
    rw [ck_t (by omega), ck_t (by omega)]
    by_cases q2 : 0 ≤ q ∧ q < T 0 1
    · rw [Wo_hasPile_t o q2.1 q2.2, bd_v, if_neg (by omega)]
      by_cases r : w < 0
      · rw [if_pos r]
      · rw [if_neg r, if_neg (fun z => c ⟨q1, q2, by omega, z⟩)]
    · rw [Wo_hasPile_f o q2, bd_v, if_pos rfl]
  · rw [Wo_hasPile_f o q1, bd_v, if_pos rfl]
theorem Mo_apart_t (g0 : MN h T W I U Q) (sv : SV T W I U Q) {p q w : Int} (p0 : 0 ≤ p) (p1 : p < T 0 1) (q0 : 0 ≤ q) (q1 : q < T 0 1) (wq : w = 0 ∨ w = 1) : ∃ h', Mo_apart h 94 p q w = some (h', if W 0 p = W 0 q then apt_ T W p q w else -2) ∧ MN h' T W I U Q ∧ Mq h h' := by
  have v := sv.2.1
  have v0 := v.1
  have hh := v.2.1 p p0 p1
  have q2 := Mq_2 h 0
  have g := MN_q g0 v q2
  have y0 : rd_ (wr_ h 94 2 0) 120 p = W 0 p := by have := g.2.2.2.1.2.1 p p0 p1; simpa using this
  have y1 : rd_ (wr_ h 94 2 0) 120 q = W 0 q := by have := g.2.2.2.1.2.1 q q0 q1; simpa using this
  rw [Mo_apart_e, ck_t (by omega), ck_t (by omega), Mo_isPile_t g.2.1 p0 p1, bd_v, if_neg (by omega), ck_t (by omega), Mo_isPile_t g.2.1 q0 q1, bd_v, if_neg (by omega), Mo_isIn_t (by omega) (by omega), bd_v, if_pos (by omega)]
  simp only [mr52 g.1, ml120 g.1, y0, y1]
  rw [ck_t (by omega), ck_t (by omega), ck_t (by omega), ck_t (by omega), ck_t (by omega), ck_t (by omega)]
  by_cases e : W 0 p = W 0 q
  · obtain ⟨h1, a1, a2, a3, a4⟩ := Mo_codeOfPile_s (p := q) (w := w) g v q0 q1 wq
    obtain ⟨h2, b', b1, b2, b3, b4⟩ := Mo_layFar_s (h := h1) (w := w) (H := W 0 q) a3.1 (by omega) (by omega) wq (Rk_v v q0 q1).1 (Fw_b (w := w) v q0 q1) Fw_0
    have g2 := MN_q a3 v (mF_q b4)
    obtain ⟨h3, c1, c2, c3, c4⟩ := Mo_codeOfPile_s (p := p) (w := w) g2 v p0 p1 wq
    have m3 := MB_R b2 c4
    have st := st_b (w := w) v p0 p1
    have ap := ap_ph (w := w) v p0 p1 q0 q1 e
    rw [← e] at b3 b1
    refine ⟨h3, ?_, c3, Mq_tr q2 (Mq_tr (mR_q a4) (Mq_tr (mF_q b4) (mR_q c4)))⟩
    rw [if_pos e, if_pos e, ck_t (by omega), ck_t (by omega), ck_t (by omega), ck_t (by omega), a1, bd_v, ck_t (by omega)]
    have sme : stM T W q w = sM_ (W 0 p) (Rk T W q) (Fw T W q w) := by unfold stM; rw [e]
    rw [sme, b1, bd_v, ck_t (by omega), ck_t (by omega), c1, bd_v]
    simp only [mr71 g2.1, ml129 c3.1]
    rw [ck_t (by omega), ck_t (by omega), m3.1 _ st.2.2.2.1 st.2.2.2.2, ← ap.1]
    exact so_v (b3.1 _ ap.2.1 ap.2.2)
  · rw [if_neg e, if_neg e]
    exact ⟨_, rfl, g, q2⟩
theorem Mo_apart_f (g0 : MN h T W I U Q) (v : WV T W) {p q w : Int} (c : ¬ ((0 ≤ p ∧ p < T 0 1) ∧ (0 ≤ q ∧ q < T 0 1) ∧ 0 ≤ w ∧ w ≤ 1)) : Mo_apart h 94 p q w = some (wr_ h 94 2 0, -1) := by
  have g := MN_q g0 v (Mq_2 h 0)
  rw [Mo_apart_e, ck_t (by omega), ck_t (by omega)]
  by_cases q1 : 0 ≤ p ∧ p < T 0 1
  · rw [Mo_isPile_t g.2.1 q1.1 q1.2, bd_v, if_neg (by omega), ck_t (by omega)]
    by_cases q2 : 0 ≤ q ∧ q < T 0 1
    · rw [Mo_isPile_t g.2.1 q2.1 q2.2, bd_v, if_neg (by omega), Mo_isIn_f (fun z => c ⟨q1, q2, z⟩), bd_v, if_neg (by omega)]
    · rw [Mo_isPile_f g.2.1 q2, bd_v, if_pos (by omega)]
  · rw [Mo_isPile_f g.2.1 q1, bd_v, if_pos (by omega)]
end
