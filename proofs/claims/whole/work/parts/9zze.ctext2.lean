/-! text that holds, in the class -/
section
variable {h : am_H} {T W I Q : Tx} {U : Int → Tx} {n : Int}
theorem rdA_v (sv : SV T W I U Q) (n0 : 0 ≤ n) (n1 : n ≤ Q 4 4) (z : (rdA_ (Q 5) n).1 = 0) : WVt (rdA_ (Q 5) n).2.2 ∧ TV (rdA_ (Q 5) n).2.2 := by
  have tv := sv.2.2.2.2.2.2.1
  exact rdl_v (n + 1).toNat 0 0 emT 0 0 emT_W emT_V rfl (by omega) (by omega) n0 z
theorem Pp_text_s (g : CI h T W I U Q) (sv : SV T W I U Q) (n0 : 0 ≤ n) (n1 : n ≤ Q 4 4) (z : (rdA_ (Q 5) n).1 = 0) : ∃ h', Pp_text h 0 n = some (h', (rdA_ (Q 5) n).2.2 0 7) ∧ CI h' (rdA_ (Q 5) n).2.2 (W0_ (rdA_ (Q 5) n).2.2 ((rdA_ (Q 5) n).2.2 0 6)) I U (tQs_ Q) ∧ Fc_ h h' := by
  obtain ⟨t, h1, t0, r5, r6, a1, a2, a3, -, a4, a5⟩ := Pp_text_r g sv n0 n1
  have tb : 7 ≤ t ∧ t ≤ 27 := by omega
  obtain ⟨c, s, rt⟩ := a3 z
  have vv := rdA_v sv n0 n1 z
  rw [z] at a1
  generalize (rdA_ (Q 5) n).2.2 = T' at *
  have wv := WVt_W vv.1
  have x5 : rf_ h1 0 5 = 34 - t := by rw [a4.1.2.2 0 (by omega)]; exact r5
  have x6 : rf_ h1 0 6 = t := by rw [a4.1.2.2 0 (by omega)]; exact r6
  -- the two texts change places
  have g3 : ∃ g, g = wf_ (wf_ (wr_ (wr_ h1 0 2 0) 0 3 (-1)) 0 5 t) 0 6 (34 - t) := ⟨_, rfl⟩
  obtain ⟨g3, eg⟩ := g3
  have sg : ShC g3 := by rw [eg]; exact ShC_w0 (ShC_w0 (ShC_of rfl a5) (Or.inl rfl)) (Or.inr rfl)
  have y5 : rf_ g3 0 5 = t := by rw [eg, rf_wf, if_neg (by omega), rf_wf, if_pos ⟨rfl, rfl⟩]
  have y6 : rf_ g3 0 6 = 34 - t := by rw [eg, rf_wf, if_pos ⟨rfl, rfl⟩]
  have fg : fq_ h1 g3 (fun a => a = 0) (fun a => a = 0) := by
    rw [eg]
    exact ⟨rfl, fun a q k => by show rd_ (wr_ (wr_ h1 0 2 0) 0 3 (-1)) a k = _; rw [rd_wo q, rd_wo q], fun a q k => by rw [rf_wo q, rf_wo q]; rfl⟩
  have z0g : ∀ k, k ≠ 2 → k ≠ 3 → rd_ g3 0 k = rd_ h1 0 k := fun k x y => by rw [eg]; show rd_ (wr_ (wr_ h1 0 2 0) 0 3 (-1)) 0 k = _; rw [rd_wk y, rd_wk x]
  have z2g : rd_ g3 0 2 = 0 := by rw [eg]; show rd_ (wr_ (wr_ h1 0 2 0) 0 3 (-1)) 0 2 = _; rw [rd_wk (by omega), rd_ws]
  have z3g : rd_ g3 0 3 = -1 := by rw [eg]; show rd_ (wr_ (wr_ h1 0 2 0) 0 3 (-1)) 0 3 = _; rw [rd_ws]
  have og : TO g3 t T' := TO_fq rt.2.2.2.1 fg (fun a p q => by omega) (by omega)
  have wg : WO g3 (t + 1) T' (W0_ T' (T' 0 6)) := WO_fq rt.2.2.2.2.1 fg (fun a p q => by omega) (by omega)
  obtain ⟨gs, ⟨tt, c1, c2, c3, c4, c5, c6, c7⟩, gw, s5, s6, im, tp, fa, se, d, lg⟩ := id g
  have et : tt = 34 - t := by omega
  subst et
  have FR : fq_ h h1 (fun a => a = 0 ∨ F6 t a) (fun a => a = 2 ∨ a = 3 ∨ a = 5) := fq_tr (fq_fr (fr_wr (Or.inl rfl))) (fq_mo a4.1 (fun a q => Or.inr q) (fun a q => q))
  have FG : fq_ h g3 (fun a => a = 0 ∨ F6 t a) (fun a => a = 0 ∨ a = 2 ∨ a = 3 ∨ a = 5) := fq_tr (fq_mo FR (fun a q => q) (fun a q => Or.inr q)) (fq_mo fg (fun a q => Or.inl q) (fun a q => Or.inl q))
  have s47 : ShW g3 47 := ShW_q (fq_ln FG) (FG.2.2 47 (by omega)) gw.1
  obtain ⟨h4, b1, b2, b3⟩ := Wo_copy_s s47 wg wv (by omega)
  have sc4 : ShC h4 := ShC_of b3.1 sg
  have F5' : fr_ h4 (wr_ (wr_ (wr_ (wr_ h4 0 10 0) 79 3 0) 83 6 0) 83 7 (-1)) (fun a => a = 0 ∨ a = 79 ∨ a = 83) := fr_tr (fr_tr (fr_tr (fr_wr (Or.inl rfl)) (fr_wr (Or.inr (Or.inl rfl)))) (fr_wr (Or.inr (Or.inr rfl)))) (fr_wr (Or.inr (Or.inr rfl)))
  have FA : fq_ h (wr_ (wr_ (wr_ (wr_ h4 0 10 0) 79 3 0) 83 6 0) 83 7 (-1)) (fun a => a = 0 ∨ F6 t a ∨ (47 ≤ a ∧ a ≤ 54) ∨ a = 79 ∨ a = 83) (fun a => a = 0 ∨ a = 2 ∨ a = 3 ∨ a = 5) := fq_tr (fq_mo FG (fun a q => by rcases q with q | q; exact Or.inl q; exact Or.inr (Or.inl q)) (fun a q => q)) (fq_tr (fq_fr (fr_mo b3 (fun a q => Or.inr (Or.inr (Or.inl ⟨by omega, by omega⟩))))) (fq_fr (fr_mo F5' (fun a q => by rcases q with q | q | q; exact Or.inl q; exact Or.inr (Or.inr (Or.inr (Or.inl q))); exact Or.inr (Or.inr (Or.inr (Or.inr q)))))))
  have o7 : rd_ h4 t 0 = T' 0 7 := by rw [b3.2 t (by omega)]; exact og.2.1.1
  have r45 : rf_ h4 0 5 = t := by rw [fr_rf b3]; exact y5
  refine ⟨wr_ (wr_ (wr_ (wr_ h4 0 10 0) 79 3 0) 83 6 0) 83 7 (-1), ?_, ?_, ?_⟩
  · rw [Pp_text_e, if_neg (by omega), tp.1, ck_t (by omega), if_pos n1, cr0_4 gs, cr0_0 gs, r6]
    repeat rw [ck_t (by omega)]
    rw [a1, bd_v, rd_ws, if_neg (c := (0 : Int) ≠ 0) (by omega), Pp_text_6_e]
    repeat rw [ck_t (by omega)]
    rw [rd_wk (show (2 : Int) ≠ 3 by omega), rd_ws, if_pos (c := (0 : Int) = 0) rfl, rf_wr, rf_wr, x5, x6, ← eg, y5, cr0_7 sg, og.1.2.1]
    repeat rw [ck_t (by omega)]
    rw [b1, bd_v, cr0_13 sc4]
    repeat rw [ck_t (by omega)]
    rw [Do_forget_e, ck_t (by omega), bd_v]
    simp only [rf_wr, cr0_14 sc4]
    repeat rw [ck_t (by omega)]
    rw [Se_forget_e, ck_t (by omega), ck_t (by omega), bd_v]
    simp only [rf_wr, r45]
    repeat rw [ck_t (by omega)]
    rw [rd_wo (by omega), rd_wo (by omega), rd_wo (by omega), rd_wo (by omega), o7]
  · have sc : ShC (wr_ (wr_ (wr_ (wr_ h4 0 10 0) 79 3 0) 83 6 0) 83 7 (-1)) := ShC_of F5'.1 sc4
    have z0 : ∀ k, k ≠ 10 → rd_ (wr_ (wr_ (wr_ (wr_ h4 0 10 0) 79 3 0) 83 6 0) 83 7 (-1)) 0 k = rd_ g3 0 k := fun k x => by rw [rd_wo (by omega), rd_wo (by omega), rd_wo (by omega), rd_wk x, b3.2 0 (by omega)]
    have z10 : rd_ (wr_ (wr_ (wr_ (wr_ h4 0 10 0) 79 3 0) 83 6 0) 83 7 (-1)) 0 10 = 0 := by rw [rd_wo (by omega), rd_wo (by omega), rd_wo (by omega), rd_ws]
    have z1 : rd_ g3 0 1 = 0 := by rw [z0g 1 (by omega) (by omega), a4.1.2.1 0 (by unfold F6; omega), rd_ws]
    have e86 : rd_ (wr_ (wr_ (wr_ (wr_ h4 0 10 0) 79 3 0) 83 6 0) 83 7 (-1)) 83 6 = 0 := by rw [rd_wk (by omega), rd_ws]
    have e87 : rd_ (wr_ (wr_ (wr_ (wr_ h4 0 10 0) 79 3 0) 83 6 0) 83 7 (-1)) 83 7 = -1 := rd_ws _ _ _ _
    have e93 : rd_ (wr_ (wr_ (wr_ (wr_ h4 0 10 0) 79 3 0) 83 6 0) 83 7 (-1)) 79 3 = 0 := by rw [rd_wo (by omega), rd_wo (by omega), rd_ws]
    have e94 : rd_ (wr_ (wr_ (wr_ (wr_ h4 0 10 0) 79 3 0) 83 6 0) 83 7 (-1)) 79 4 = rd_ h 79 4 := by rw [rd_wo (by omega), rd_wo (by omega), rd_wk (by omega), rd_wo (by omega), b3.2 79 (by omega), FG.2.1 79 (by unfold F6; omega)]
    have oh : TO (wr_ (wr_ (wr_ (wr_ h4 0 10 0) 79 3 0) 83 6 0) 83 7 (-1)) t T' := TO_fr (TO_fr og b3 (fun a p q => by omega)) F5' (fun a p q => by omega)
    have wh : WO (wr_ (wr_ (wr_ (wr_ h4 0 10 0) 79 3 0) 83 6 0) 83 7 (-1)) (t + 1) T' (W0_ T' (T' 0 6)) := WO_fr (WO_fr wg b3 (fun a p q => by omega)) F5' (fun a p q => by omega)
    have wn : WO (wr_ (wr_ (wr_ (wr_ h4 0 10 0) 79 3 0) 83 6 0) 83 7 (-1)) 47 T' (W0_ T' (T' 0 6)) := WO_fr b2 F5' (fun a p q => by omega)
    have q5 : rf_ (wr_ (wr_ (wr_ (wr_ h4 0 10 0) 79 3 0) 83 6 0) 83 7 (-1)) 0 5 = t := by rw [fr_rf F5']; exact r45
    have q6 : rf_ (wr_ (wr_ (wr_ (wr_ h4 0 10 0) 79 3 0) 83 6 0) 83 7 (-1)) 0 6 = 34 - t := by rw [fr_rf F5', fr_rf b3]; exact y6
    generalize wr_ (wr_ (wr_ (wr_ h4 0 10 0) 79 3 0) 83 6 0) 83 7 (-1) = h' at FA sc z0 z10 e86 e87 e93 e94 oh wh wn q5 q6 ⊢
    have k0 : tQs_ Q 4 0 = 0 := by rw [tQs_4]; rfl
    have k1 : tQs_ Q 4 1 = -1 := by rw [tQs_4]; rfl
    have k2 : tQs_ Q 4 2 = 0 := by rw [tQs_4]; rfl
    have k3 : tQs_ Q 4 3 = 0 := by rw [tQs_4]; rfl
    have k4 : tQs_ Q 4 4 = 0 := by rw [tQs_4]; rfl
    have k5 : tQs_ Q 4 5 = 0 := by rw [tQs_4]; rfl
    have k6 : tQs_ Q 4 6 = -1 := by rw [tQs_4]; rfl
    have shT : ShT h' (34 - t) := ShT_q (fq_ln FA) (FA.2.2 _ (by omega)) c4.1
    have shW : ShW h' (35 - t) := by have y := c5.1; rw [show 34 - t + 1 = 35 - t by omega] at y; exact ShW_q (fq_ln FA) (FA.2.2 _ (by omega)) y
    have d4 : 0 ≤ rd_ h 79 4 ∧ rd_ h 79 4 < 20 := ⟨d.2.2.2.1, d.2.2.2.2.1⟩
    refine ⟨sc, ⟨t, t0, q5, q6, oh, wh, shT, shW⟩, wn, ShW_q (fq_ln FA) (FA.2.2 56 (by omega)) s5, ShW_q (fq_ln FA) (FA.2.2 65 (by omega)) s6, ?_, ?_, ?_, ?_, ?_, ?_⟩
    · rw [k3]
      exact ⟨z10, fun q => by omega⟩
    · rw [k4]
      exact ⟨by rw [z0 1 (by omega)]; exact z1, fun k p q => by omega⟩
    · rw [k5, k6]
      exact ⟨by rw [z0 2 (by omega)]; exact z2g, by rw [z0 3 (by omega)]; exact z3g⟩
    · refine ⟨by rw [k0]; exact e86, by rw [k1]; exact e87, fun i p q => ?_⟩
      rw [k0] at q
      omega
    · rw [k2]
      exact ⟨e93, by omega, by omega, by omega, by omega, fun i p q => by omega, fun i p q => by omega⟩
    · intro i p q
      rw [FA.2.1 4 (by unfold F6; omega)]; exact lg i p q
  · refine ⟨fq_mo FA (fun a q => by unfold F6 at q; omega) (fun a q => by omega), ?_⟩
    rw [fr_rf F5', fr_rf b3, eg, rf_wf, if_neg (by omega), rf_wf, if_neg (by omega), rf_wr, rf_wr, FR.2.2 0 (by omega)]
end
