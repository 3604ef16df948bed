/-! new cells above leave all below as it was -/
def lwr_ (h h' : am_H) : Prop := (∀ a k, a < 144 → rd_ h' a k = rd_ h a k) ∧ (∀ a, a < 144 → ln_ h' a = ln_ h a) ∧ ∀ a k, a < 144 → a ≠ 90 → ¬ (a = 0 ∧ k = 16) → rf_ h' a k = rf_ h a k
theorem lwr_tr {h h1 h2 : am_H} (x : lwr_ h h1) (y : lwr_ h1 h2) : lwr_ h h2 := ⟨fun a k q => (y.1 a k q).trans (x.1 a k q), fun a q => (y.2.1 a q).trans (x.2.1 a q), fun a k p q r => (y.2.2 a k p q r).trans (x.2.2 a k p q r)⟩
theorem lwr_refl (h : am_H) : lwr_ h h := ⟨fun _ _ _ => rfl, fun _ _ => rfl, fun _ _ _ _ _ => rfl⟩
theorem lwr_ag {B : Int} {h h' : am_H} (x : agB_ B h h') (q : 144 ≤ B) : lwr_ h h' := ⟨fun a k r => (x.2.2 a (by omega)).1 k, fun a r => (x.2.2 a (by omega)).2.2, fun a k r _ _ => (x.2.2 a (by omega)).2.1 k⟩
theorem lwr_16 (h : am_H) (v : Int) : lwr_ h (wf_ h 0 16 v) := ⟨fun _ _ _ => rfl, fun _ _ => rfl, fun a k _ _ q => if_neg q⟩
theorem lwr_90 (h : am_H) (k v : Int) : lwr_ h (wf_ h 90 k v) := ⟨fun _ _ _ => rfl, fun _ _ => rfl, fun a k _ q _ => rf_wo q⟩
/-- the class's part, the reference's part -/
def la_ (h h' : am_H) : Prop := (∀ a k, a < 94 → rd_ h' a k = rd_ h a k) ∧ (∀ a, a < 94 → ln_ h' a = ln_ h a) ∧ ∀ a k, a < 94 → a ≠ 90 → ¬ (a = 0 ∧ k = 16) → rf_ h' a k = rf_ h a k
def lb_ (h h' : am_H) : Prop := (∀ a k, 94 ≤ a → a < 144 → rd_ h' a k = rd_ h a k) ∧ (∀ a, 94 ≤ a → a < 144 → ln_ h' a = ln_ h a) ∧ ∀ a k, 94 ≤ a → a < 144 → rf_ h' a k = rf_ h a k
theorem lb_tr {h h1 h2 : am_H} (x : lb_ h h1) (y : lb_ h1 h2) : lb_ h h2 := ⟨fun a k p q => (y.1 a k p q).trans (x.1 a k p q), fun a p q => (y.2.1 a p q).trans (x.2.1 a p q), fun a k p q => (y.2.2 a k p q).trans (x.2.2 a k p q)⟩
theorem lb_refl (h : am_H) : lb_ h h := ⟨fun _ _ _ _ => rfl, fun _ _ _ => rfl, fun _ _ _ _ => rfl⟩
theorem la_lw {h h' : am_H} (x : lwr_ h h') : la_ h h' := ⟨fun a k q => x.1 a k (by omega), fun a q => x.2.1 a (by omega), fun a k p q r => x.2.2 a k (by omega) q r⟩
theorem lb_lw {h h' : am_H} (x : lwr_ h h') : lb_ h h' := ⟨fun a k p q => x.1 a k q, fun a p q => x.2.1 a q, fun a k p q => x.2.2 a k q (by omega) (by omega)⟩
theorem la_Fm {h h' : am_H} (f : Fm_ h h') : la_ h h' := ⟨fun a k q => f.2 a (by omega) k, fun a _ => fr_ln f a, fun a k _ _ _ => fr_rf f a k⟩
theorem lb_Fc {h h' : am_H} (f : Fc_ h h') : lb_ h h' := ⟨fun a k p q => f.1.2.1 a (by omega) k, fun a _ _ => fq_ln f.1 a, fun a k p q => f.1.2.2 a (by omega) k⟩
section
variable {h h' : am_H} {T W I : Tx} {U : Int → Tx} {Q : Tx}
theorem WO_la (L : la_ h h') {w : Int} (w0 : 0 ≤ w) (w1 : w + 8 < 90) (o : WO h w T W) : WO h' w T W := by
  obtain ⟨L1, L2, L3⟩ := L
  unfold WO ShW at *
  simp (disch := omega) only [L1, L2, L3]
  exact o
theorem ShW_la (L : la_ h h') {w : Int} (w0 : 0 ≤ w) (w1 : w + 8 < 90) (o : ShW h w) : ShW h' w := by
  obtain ⟨L1, L2, L3⟩ := L
  unfold ShW at *
  simp (disch := omega) only [L1, L2, L3]
  exact o
theorem ShT_la (L : la_ h h') {t : Int} (w0 : 1 ≤ t) (w1 : t + 19 < 90) (o : ShT h t) : ShT h' t := by
  obtain ⟨L1, L2, L3⟩ := L
  unfold ShT at *
  simp (disch := omega) only [L1, L2, L3]
  exact o
theorem TO_la (L : la_ h h') {t : Int} (w0 : 1 ≤ t) (w1 : t + 19 < 90) (o : TO h t T) : TO h' t T := by
  refine ⟨ShT_la L w0 w1 o.1, ?_⟩
  have o2 := o.2
  obtain ⟨L1, L2, L3⟩ := L
  simp (disch := omega) only [L1]
  exact o2
theorem CT_la (L : la_ h h') {t : Int} (o : CT h t T) : CT h' t T := by
  obtain ⟨a, b, c, d, e, f, g⟩ := o
  exact ⟨a, by rw [L.2.2 0 5 (by omega) (by omega) (by omega)]; exact b, by rw [L.2.2 0 6 (by omega) (by omega) (by omega)]; exact c, TO_la L (by omega) (by omega) d, WO_la L (by omega) (by omega) e, ShT_la L (by omega) (by omega) f, ShW_la L (by omega) (by omega) g⟩
theorem ShC_la (L : la_ h h') (o : ShC h) : ShC h' := by
  obtain ⟨L1, L2, L3⟩ := L
  unfold ShC at *
  simp (disch := omega) only [L1, L2, L3]
  exact o
theorem CI_la (L : la_ h h') (g : CI h T W I U Q) : CI h' T W I U Q := by
  obtain ⟨s, ⟨t, ct⟩, w, s5, s6, im, tp, fa, se, d, lg⟩ := g
  have L1 := L.1
  refine ⟨ShC_la L s, ⟨t, CT_la L ct⟩, WO_la L (by omega) (by omega) w, ShW_la L (by omega) (by omega) s5, ShW_la L (by omega) (by omega) s6, ⟨by rw [L1 0 10 (by omega)]; exact im.1, fun q => WO_la L (by omega) (by omega) (im.2 q)⟩, ⟨by rw [L1 0 1 (by omega)]; exact tp.1, fun k p q => by rw [L1 1 k (by omega)]; exact tp.2 k p q⟩, ⟨by rw [L1 0 2 (by omega)]; exact fa.1, by rw [L1 0 3 (by omega)]; exact fa.2⟩, SE_R se (fun a p q k => L1 a k (by omega)), ?_, fun i p q => by rw [L1 4 i (by omega)]; exact lg i p q⟩
  unfold DO at *
  simp (disch := omega) only [L1]
  exact d
theorem MN_lb (L : lb_ h h') (g : MN h T W I U Q) : MN h' T W I U Q := by
  obtain ⟨a, b, c, d, e, f, i, j, k, l, m, n⟩ := g
  obtain ⟨L1, L2, L3⟩ := L
  refine ⟨?_, ?_, ⟨?_, ?_, ?_⟩, ?_, by rw [L1 94 60 (by omega) (by omega)]; exact e, ?_, ?_, ?_, ?_, ⟨by rw [L1 94 1 (by omega) (by omega)]; exact l.1, fun k p q => by rw [L1 95 k (by omega) (by omega)]; exact l.2 k p q⟩, ⟨by rw [L1 94 4 (by omega) (by omega)]; exact m.1, by rw [L1 94 5 (by omega) (by omega)]; exact m.2⟩, fun i p q => by rw [L1 96 i (by omega) (by omega)]; exact n i p q⟩
  · unfold ShM at *
    simp (disch := omega) only [L2, L3]
    exact a
  · unfold MT at *
    simp (disch := omega) only [L1]
    exact b
  · simp (disch := omega) only [L1]
    exact c.1
  · simp (disch := omega) only [L1]
    exact c.2.1
  · intro x y p q r s
    exact KN_fr (fun k => L1 113 k (by omega) (by omega)) (fun k => L1 114 k (by omega) (by omega)) (fun k => L1 115 k (by omega) (by omega)) (c.2.2 x y p q r s)
  · refine ⟨d.1, ?_⟩
    have d2 := d.2
    simp (disch := omega) only [L1]
    exact d2
  · unfold BB at *
    simp (disch := omega) only [L1]
    exact f
  · unfold MU SN B1 at *
    simp (disch := omega) only [L1]
    exact i
  · unfold MI SN B1 at *
    simp (disch := omega) only [L1]
    exact j
  · unfold QM at *
    simp (disch := omega) only [L1]
    exact k
/-- the class and its charts and its room -/
theorem Pp_chartOf_2s {K S : Int} {w H : Int} (s : ShC h) (g : CH h) (r : RM h K S) (n0 : 144 ≤ nn_ h) (u : CHu h (rf_ h 0 16)) (h0 : 0 ≤ H) (h5 : H ≤ 5) (w0 : w = 0 ∨ w = 1) : ∃ h' c, Pp_chartOf_2 h 0 H w = some (h', c) ∧ CH h' ∧ RM h' K S ∧ 144 ≤ nn_ h' ∧ rf_ h' 90 (6 * w + H) = c ∧ CHu h' (rf_ h' 0 16) ∧ CHc h' (rf_ h' 0 16) c w H ∧ lwr_ h h' := by
  have nv := nN_v (w := w) h0 h5
  have u1 := u.1
  have gg : ∀ w H, (w = 0 ∨ w = 1) → 0 ≤ H → H ≤ 5 → rf_ h 90 (6 * w + H) = -1 ∨ CHc h (rf_ h 0 16) (rf_ h 90 (6 * w + H)) w H := by
    rcases g with q | q
    · have := q.1
      omega
    · exact q.2
  have ew : w32 (w32 (w * 6) + H) = 6 * w + H := by rw [w32_i (x := w * 6) (by omega) (by omega), w32_i (by omega) (by omega)]; omega
  have l90 : ln_ h 90 = 12 := cl90 s
  rcases gg w H w0 h0 h5 with q | q
  · obtain ⟨h1, a1, a2, a3, a4, a5, a6, a7⟩ := Ch_new_s (h := h) (u := rf_ h 0 16) n0 h0 h5 w0
    have A1 := a3.2.2
    have L1 : lwr_ h h1 := lwr_ag a3 n0
    have s1 := ShC_la (la_lw L1) s
    have e16 : rf_ h1 0 16 = rf_ h 0 16 := (A1 0 (by omega)).2.1 16
    have e90 : ∀ i, rf_ h1 90 i = rf_ h 90 i := fun i => (A1 90 (by omega)).2.1 i
    have L2 := lwr_90 h1 (6 * w + H) (nn_ h)
    have H2 : hi_ h1 (wf_ h1 90 (6 * w + H) (nn_ h)) := hi_wf (by omega)
    have s2 := ShC_la (la_lw L2) s1
    have H1 : hi_ h h1 := hi_agB a3 (Int.le_refl _)
    obtain ⟨h3, b1, b2, b3, b4, b5, b6, b7⟩ := Ch_measure_s (h := wf_ h1 90 (6 * w + H) (nn_ h)) h0 h5 w0 (u := rf_ h 0 16) (c := nn_ h) (by omega) (CHs_hi a2 H2) (CHu_hi (CHu_hi u H1) H2) a4 a6
    have A3 := b5.2.2
    have L3 : lwr_ (wf_ h1 90 (6 * w + H) (nn_ h)) h3 := lwr_ag b5 (by omega)
    have s3 := ShC_la (la_lw L3) s2
    have f16 : rf_ h3 0 16 = rf_ h 0 16 := by rw [(A3 0 (by omega)).2.1, rf_wo (by omega)]; exact e16
    have f90 : ∀ i, i ≠ 6 * w + H → rf_ h3 90 i = rf_ h 90 i := fun i hi => by rw [(A3 90 (by omega)).2.1, rf_wk hi]; exact e90 i
    have f9c : rf_ h3 90 (6 * w + H) = nn_ h := by rw [(A3 90 (by omega)).2.1, rf_ws]
    have HI : hi_ h h3 := ⟨by omega, fun a p z => by
      have l := H1.2 a p z
      have m := H2.2 a p (by omega)
      have n := A3 a (by omega)
      exact ⟨fun k => (n.1 k).trans ((m.1 k).trans (l.1 k)), fun k => (n.2.1 k).trans ((m.2.1 k).trans (l.2.1 k)), n.2.2.trans (m.2.2.trans l.2.2)⟩⟩
    have c7 : rf_ h3 (nn_ h) 7 = -1 := by rw [(A3 (nn_ h) (by omega)).2.1, rf_wo (by omega)]; exact a7.1
    have c8 : rf_ h3 (nn_ h) 8 = -1 := by rw [(A3 (nn_ h) (by omega)).2.1, rf_wo (by omega)]; exact a7.2
    have CC : CHc h3 (rf_ h 0 16) (nn_ h) w H := ⟨b2, b4, Or.inl c7, Or.inl c8⟩
    refine ⟨h3, nn_ h, ?_, ?_, ?_, by omega, f9c, by rw [f16]; exact b3, by rw [f16]; exact CC, lwr_tr L1 (lwr_tr L2 L3)⟩
    · rw [Pp_chartOf_2_e, ew]
      simp only [cr0_15 s, l90, q]
      rw [ck_t (by omega), ck_t (by omega), ck_t (by omega), if_pos (by omega), ck_t (by omega), ck_t (by omega), ck_t (by omega), show rf_ (nw_ h 0 11) 0 16 = rf_ h 0 16 from rf_nwo (by omega) 16, a1, bd_v, ck_t (by omega), ck_t (by omega)]
      simp only [cr0_15 s2, rf_ws, cl90 s1]
      rw [ck_t (by omega), ck_t (by omega), ck_t (by omega), ck_t (by omega), ck_t (by omega), b1, bd_v]
      simp only [cr0_15 s3, cl90 s3, f9c]
      rw [ck_t (by omega), ck_t (by omega), ck_t (by omega)]
    · refine Or.inr ⟨by rw [f16]; exact b3, fun w' H' w0' h0' h5' => ?_⟩
      rw [f16]
      by_cases e : 6 * w' + H' = 6 * w + H
      · have e1 : w' = w := by omega
        have e2 : H' = H := by omega
        subst e1; subst e2
        rw [f9c]
        exact Or.inr CC
      · rw [f90 _ e]
        rcases gg w' H' w0' h0' h5' with z | z
        · exact Or.inl z
        · exact Or.inr (CHc_hi z HI)
    · have pe : ∀ a b d i, i ≠ 6 * w + H → 0 ≤ i → i < 12 → pcr_ a b d h3 i = pcr_ a b d h i := by
        intro a b d i hi i0 i1
        unfold pcr_
        rw [f90 i hi]
        rcases CH_c g i0 i1 with z | z
        · rw [if_pos (Or.inl z), if_pos (Or.inl z), if_pos (Or.inl z), if_pos (Or.inl z)]
        · rw [(HI.2 _ z.1 z.2).2.1, (HI.2 _ z.1 z.2).2.1]
      have p3 : ∀ a b d, pcr_ a b d h3 (6 * w + H) = b + d ∧ pcr_ a b d h (6 * w + H) = a + b + d := by
        intro a b d
        unfold pcr_ fl1
        rw [f9c, q, c7, c8, if_neg (c := nn_ h < 0) (by omega), if_pos (c := nn_ h < 0 ∨ (-1 : Int) < 0) (Or.inr (by omega)), if_pos (c := (-1 : Int) < 0) (by omega), if_pos (c := (-1 : Int) < 0 ∨ rf_ h (-1) 7 < 0) (Or.inl (by omega)), if_pos (c := (-1 : Int) < 0 ∨ rf_ h (-1) 8 < 0) (Or.inl (by omega))]
        omega
      have sm : ∀ a b d, sm_ (pcr_ a b d h3) 12 = sm_ (pcr_ a b d h) 12 - a := by
        intro a b d
        have := sm_2 (f := pcr_ a b d h) (g := pcr_ a b d h3) (j := 6 * w + H) 12 (fun i i0 i1 hi => pe a b d i hi i0 i1)
        rw [this, if_pos (by omega), (p3 a b d).1, (p3 a b d).2]
        omega
      unfold RM
      rw [sm, sm, f16]
      have r1 := r.1
      have r2 := r.2
      have e1 : nn_ h3 = nn_ h + 5 := b6
      have e2 : ss_ h3 = ss_ h1 + nN_ w H := b7
      omega
  · refine ⟨h, rf_ h 90 (6 * w + H), ?_, g, r, n0, rfl, u, q, lwr_refl h⟩
    have c0 := q.1.1
    rw [Pp_chartOf_2_e, ew]
    simp only [cr0_15 s, l90]
    rw [ck_t (by omega), ck_t (by omega), ck_t (by omega), if_neg (by omega), ck_t (by omega), ck_t (by omega), ck_t (by omega)]
theorem Pp_chartOf_s {K S : Int} {w H : Int} (s : ShC h) (g : CH h) (r : RM h K S) (n0 : 144 ≤ nn_ h) (h0 : 0 ≤ H) (h5 : H ≤ 5) (w0 : w = 0 ∨ w = 1) : ∃ h' c, Pp_chartOf h 0 H w = some (h', c) ∧ CH h' ∧ RM h' K S ∧ 144 ≤ nn_ h' ∧ rf_ h' 90 (6 * w + H) = c ∧ CHu h' (rf_ h' 0 16) ∧ CHc h' (rf_ h' 0 16) c w H ∧ lwr_ h h' := by
  rcases id g with ⟨a, b⟩ | ⟨a, b⟩
  · obtain ⟨h1, a1, a2, a3, a4, a5⟩ := Tu_new_s (h := h) n0
    have A1 := a3.2.2
    have L1 := lwr_ag a3 n0
    have L2 := lwr_16 h1 (nn_ h)
    have e16 : rf_ (wf_ h1 0 16 (nn_ h)) 0 16 = nn_ h := rf_ws _ _ _ _
    have e90 : ∀ i, rf_ (wf_ h1 0 16 (nn_ h)) 90 i = rf_ h 90 i := fun i => by rw [rf_wo (by omega)]; exact (A1 90 (by omega)).2.1 i
    have u2 : CHu (wf_ h1 0 16 (nn_ h)) (nn_ h) := CHu_hi a2 (hi_wf (by omega))
    have g2 : CH (wf_ h1 0 16 (nn_ h)) := Or.inr ⟨by rw [e16]; exact u2, fun w H w0 h0 h5 => Or.inl (by rw [e90]; exact b _ (by omega) (by omega))⟩
    have r2 : RM (wf_ h1 0 16 (nn_ h)) K S := by
      have pe : ∀ a' b' d, sm_ (pcr_ a' b' d (wf_ h1 0 16 (nn_ h))) 12 = sm_ (pcr_ a' b' d h) 12 := by
        intro a' b' d
        have := sm_2 (f := pcr_ a' b' d h) (g := pcr_ a' b' d (wf_ h1 0 16 (nn_ h))) (j := -1) 12 (fun i i0 i1 hi => by
          unfold pcr_
          have z := b i i0 i1
          rw [e90, z, if_pos (Or.inl (by omega)), if_pos (Or.inl (by omega)), if_pos (Or.inl (by omega)), if_pos (Or.inl (by omega))])
        rw [this, if_neg (by omega)]
        omega
      unfold RM
      rw [pe, pe, e16]
      have r1 := r.1
      have r2 := r.2
      unfold fl1 at *
      rw [a] at r1 r2
      rw [if_pos (by omega)] at r1 r2
      rw [if_neg (by omega)]
      have e1 : nn_ (wf_ h1 0 16 (nn_ h)) = nn_ h + 4 := a4
      have e2 : ss_ (wf_ h1 0 16 (nn_ h)) = ss_ h + 767 := a5
      omega
    have n2 : 144 ≤ nn_ (wf_ h1 0 16 (nn_ h)) := by show 144 ≤ nn_ h1; omega
    obtain ⟨h3, c, b1, b2, b3, b4, b5, b6, b7, b8⟩ := Pp_chartOf_2s (ShC_la (la_lw L2) (ShC_la (la_lw L1) s)) g2 r2 n2 (by rw [e16]; exact u2) h0 h5 w0
    refine ⟨h3, c, ?_, b2, b3, b4, b5, b6, b7, lwr_tr L1 (lwr_tr L2 b8)⟩
    rw [Pp_chartOf_e, ck_t (by omega), if_pos (by omega), ck_t (by omega), a1, bd_v, ck_t (by omega)]
    exact b1
  · obtain ⟨h3, c, b1, b2⟩ := Pp_chartOf_2s s g r n0 a h0 h5 w0
    refine ⟨h3, c, ?_, b2⟩
    have a0 := a.1
    rw [Pp_chartOf_e, ck_t (by omega), if_neg (by omega)]
    exact b1
end
