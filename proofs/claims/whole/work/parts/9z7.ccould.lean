/-! could in the class: the whole of it -/
section
variable {u c w H : Int}
theorem Ch_reach_s {h : am_H} {r : Int} (h0 : 0 ≤ H) (h5 : H ≤ 5) (w0 : w = 0 ∨ w = 1) (S : CHs h u c w H) (U : CHu h u) (e7 : rf_ h c 7 = r) (lr : ln_ h r = 10) (ur : u + 3 ≤ r) (cr : c + 4 ≤ r) (en : nn_ h = r + 1) (zr : ∀ k, rd_ h r k = 0) : ∃ h', Ch_reach h c = some (h', 0) ∧ RW h' r 10 (cld_ w H) ∧ agB_ r h h' ∧ rf_ h' c 7 = r ∧ ln_ h' r = 10 ∧ nn_ h' = r + 3 ∧ ss_ h' = ss_ h + 4 * nN_ w H := by
  have nv := nN_v (w := w) h0 h5
  have G := G2_ h0 h5 w0
  have ni := n2_b (w := w) h0 h5
  have S1 := S.1
  have S3 := S.2.2.1
  have g1 : agB_ (r + 1) h (nw_ h 20 (2 * nN_ w H)) := agB_nw 20 (by omega) (by omega)
  have n1 : nn_ (nw_ h 20 (2 * nN_ w H)) = r + 2 := by rw [nn_nw, en]; omega
  have l1 : ln_ (nw_ h 20 (2 * nN_ w H)) (r + 1) = 2 * nN_ w H := by rw [← en]; exact ln_nwn _ _ _
  have z1 : ∀ k, rd_ (nw_ h 20 (2 * nN_ w H)) (r + 1) k = 0 := fun k => by rw [← en]; exact rd_nwn _ _ _ _
  have d1 : rd_ (nw_ h 20 (2 * nN_ w H)) c 3 = nN_ w H := by rw [(g1.2.2 c (by omega)).1]; exact S3.2.2
  have s1 : ss_ (nw_ h 20 (2 * nN_ w H)) = ss_ h + 2 * nN_ w H := rfl
  have k1 : Ch_reach h c = Ch_reach_1 (nw_ (nw_ h 20 (2 * nN_ w H)) 20 (2 * nN_ w H)) c (r + 1) (r + 1 + 1) 1 := by
    rw [Ch_reach_e]
    simp only [S3.2.2, w32_i (x := 2 * nN_ w H) (by omega) (by omega), d1, en]
    rw [ck_t (by omega), ck_t (by omega), ck_t (by omega), ck_t (by omega)]
  generalize nw_ h 20 (2 * nN_ w H) = h1 at g1 n1 l1 z1 d1 s1 k1
  have g2 : agB_ (r + 2) h1 (nw_ h1 20 (2 * nN_ w H)) := agB_nw 20 (by omega) (by omega)
  have n2 : nn_ (nw_ h1 20 (2 * nN_ w H)) = r + 3 := by rw [nn_nw, n1]; omega
  have l2 : ln_ (nw_ h1 20 (2 * nN_ w H)) (r + 1 + 1) = 2 * nN_ w H := by rw [show r + 1 + 1 = nn_ h1 by omega]; exact ln_nwn _ _ _
  have z2 : ∀ k, rd_ (nw_ h1 20 (2 * nN_ w H)) (r + 1 + 1) k = 0 := fun k => by rw [show r + 1 + 1 = nn_ h1 by omega]; exact rd_nwn _ _ _ _
  have s2 : ss_ (nw_ h1 20 (2 * nN_ w H)) = ss_ h1 + 2 * nN_ w H := rfl
  generalize nw_ h1 20 (2 * nN_ w H) = h2 at g2 n2 l2 z2 s2 k1
  have l1' : ln_ h2 (r + 1) = 2 * nN_ w H := by rw [(g2.2.2 (r + 1) (by omega)).2.2]; exact l1
  have z1' : ∀ k, rd_ h2 (r + 1) k = 0 := fun k => by rw [(g2.2.2 (r + 1) (by omega)).1]; exact z1 k
  have g : agB_ (r + 1) h h2 := agB_tr g1 (agB_mo g2 (by omega))
  have A := g.2.2
  have hh : hi_ h h2 := hi_agB g (by omega)
  have T2 := CHs_hi S hh
  have U2 := CHu_hi U hh
  have e72 : rf_ h2 c 7 = r := by rw [(A c (by omega)).2.1]; exact e7
  have lr2 : ln_ h2 r = 10 := by rw [(A r (by omega)).2.2]; exact lr
  obtain ⟨h3, a1, a2, a3⟩ := Ch_rc_1 (c := c) (a := r + 1) (N := 2 * nN_ w H) (by omega) (by omega) (2 * nN_ w H - 1).toNat 1 h2 (by omega) (by omega) l1' (fun k p q => by
    have e : k = 0 := by omega
    rw [e]
    show _ = if (0 : Int) = 0 then 0 else -1
    rw [if_pos rfl]
    exact z1' _)
  have m3 : CR h3 (r + 1) (2 * nN_ w H) (b0_ 0 (fun _ => 0) (fun _ => 0)) := by
    refine ⟨fun k p q => by rw [a2 k p q]; rfl, ?_⟩
    intro i p q
    have q' : i < 1 := q
    have e : i = 0 := by omega
    rw [e, a3.2 (r + 1 + 1) (by omega), z2]
    rfl
  obtain ⟨h4, b1, b2, b3⟩ := Ch_rc_4 (u := u) (c := c) (w := w) (H := H) (r := r) (a := r + 1) h0 h5 w0 ur cr rfl (2 * nN_ w H).toNat 0 h3 (b0_ 0 (fun _ => 0) (fun _ => 0)) (by omega) (by omega) (by show (0 : Int) ≤ 1; omega) (bI_0 G _ _) (CHs_fr T2 a3 (by omega)) (CHu_fr U2 a3 (by omega) (by omega)) (by rw [fr_rf a3]; exact e72) (by rw [fr_ln a3]; exact lr2) (by rw [fr_ln a3]; exact l1') (by rw [fr_ln a3]; exact l2) m3 (by
    intro t t0 t1
    rw [a3.2 r (by omega), (A r (by omega)).1, zr]
    rfl)
  have FF : fr_ h2 h4 (fun x => r ≤ x) := fr_tr (fr_mo a3 (fun x z => by omega)) b3
  refine ⟨h4, ?_, ?_, agB_tr (agB_mo g (by omega)) (agB_fr FF (fun x q => q)), by rw [fr_rf FF]; exact e72, by rw [fr_ln FF]; exact lr2, by rw [fr_nn FF]; exact n2, by rw [fr_ss FF]; omega⟩
  · rw [k1, a1, Ch_reach_1_e, ck_t (by omega), show ln_ h3 (r + 1) = 2 * nN_ w H by rw [fr_ln a3]; exact l1', if_pos (by omega)]
    exact b1
  · intro t t0 t1
    rw [b2 t t0 (by omega), ← cld_q h0 h5 w0 t0 (by omega)]
    obtain ⟨kk, I, ie⟩ := bu_I G ni h0 (by omega) (2 * nN_ w H).toNat 0 (b0_ 0 (fun _ => 0) (fun _ => 0)) (by omega) (bI_0 G _ _)
    generalize bu_ (n2_ w H) H (2 * nN_ w H).toNat 0 (b0_ 0 (fun _ => 0) (fun _ => 0)) = b at I ie
    have b0 := I.1.1
    refine (tl_inj b.2.2.2.toNat b.2.2.1 (fun x => rq_ H t (D2_ w H x)) (fun s p q => ?_) (fun s t' p q z => ?_) (fun x x0 x1 e => ?_)).symm
    · have := I.2.1 s p (by omega)
      omega
    · exact (I.2.2.1 s t' p q (by omega)).1
    · have lt : D2_ w H x ≤ t := by
        unfold rq_ at e
        by_cases z : D2_ w H x ≤ t
        · exact z
        · rw [if_neg (fun y => z y.1)] at e
          omega
      have ge := G.2.1 x x0 (by omega)
      have be := bI_end G I ie x0 (by omega : x < 2 * nN_ w H)
      rw [if_pos (by omega)] at be
      rcases I.2.2.2.1 x x0 (by omega) with y | ⟨i, i0, i1, ei⟩
      · omega
      · exact ⟨i, i0, by omega, ei⟩
end
section
variable {h : am_H} {T W I : Tx} {U : Int → Tx} {Q : Tx} {K S : Int}
theorem lwr_hx {h h' : am_H} {B : Int} (x : ∀ a, a < B → (∀ k, rd_ h' a k = rd_ h a k) ∧ (∀ k, rf_ h' a k = rf_ h a k) ∧ ln_ h' a = ln_ h a) (q : 144 ≤ B) : lwr_ h h' := ⟨fun a k r => (x a (by omega)).1 k, fun a r => (x a (by omega)).2.2, fun a k r _ _ => (x a (by omega)).2.1 k⟩
theorem Ch_reachedBy_s {c w H t : Int} (g : CJ h T W I U Q K S) (h0 : 0 ≤ H) (h5 : H ≤ 5) (w0 : w = 0 ∨ w = 1) (uu : CHu h (rf_ h 0 16)) (k : CHc h (rf_ h 0 16) c w H) (ec : rf_ h 90 (6 * w + H) = c) (t0 : 0 ≤ t) (t1 : t ≤ 9) : ∃ h', Ch_reachedBy h c t = some (h', cld_ w H t) ∧ CJ h' T W I U Q K S ∧ lb_ h h' := by
  have nv := nN_v (w := w) h0 h5
  have k1 := k.1.1
  have u1 := uu.1
  rw [Ch_reachedBy_e, if_neg (by omega), if_pos (by omega), ck_t (by omega)]
  rcases id k.2.2.1 with q | q
  · have n0 : ln_ (nw_ h 20 10) (nn_ h) = 10 := ln_nwn _ _ _
    have z0 : ∀ k, rd_ (nw_ h 20 10) (nn_ h) k = 0 := fun k => rd_nwn _ _ _ _
    have g0 : agB_ (nn_ h) h (nw_ h 20 10) := agB_nw 20 (by omega) (Int.le_refl _)
    have m0 : nn_ (nw_ h 20 10) = nn_ h + 1 := nn_nw _ _ _
    have s0 : ss_ (nw_ h 20 10) = ss_ h + 10 := rfl
    generalize hr : nn_ h = r at *
    generalize nw_ h 20 10 = h1 at n0 z0 g0 m0 s0 ⊢
    have A0 := g0.2.2
    have B0 : ∀ a, a < r → (∀ k, rd_ (wf_ h1 c 7 r) a k = rd_ h a k) ∧ (∀ k, ¬ (a = c ∧ k = 7) → rf_ (wf_ h1 c 7 r) a k = rf_ h a k) ∧ ln_ (wf_ h1 c 7 r) a = ln_ h a := fun a z => ⟨(A0 a z).1, fun k y => by rw [rf_wf, if_neg y]; exact (A0 a z).2.1 k, (A0 a z).2.2⟩
    have X0 : hx_ h (wf_ h1 c 7 r) c := ⟨by show nn_ h ≤ nn_ h1; omega, fun a p z => ⟨fun k _ => (B0 a (by omega)).1 k, fun k y => (B0 a (by omega)).2.1 k (fun x => (y x.1).1 x.2), (B0 a (by omega)).2.2⟩⟩
    obtain ⟨h2, a1, a2, a3, a4, a5, a6, a7⟩ := Ch_reach_s (h := wf_ h1 c 7 r) (r := r) h0 h5 w0 (CHs_hx k.1 X0) (CHu_hx uu k1.2.2 X0) (rf_ws _ _ _ _) n0 (by omega) (by omega) m0 z0
    have A3 := a3.2.2
    have C0 : ∀ a, a < r → (∀ k, rd_ h2 a k = rd_ h a k) ∧ (∀ k, ¬ (a = c ∧ k = 7) → rf_ h2 a k = rf_ h a k) ∧ ln_ h2 a = ln_ h a := fun a z => ⟨fun k => ((A3 a z).1 k).trans ((B0 a z).1 k), fun k y => ((A3 a z).2.1 k).trans ((B0 a z).2.1 k y), (A3 a z).2.2.trans (B0 a z).2.2⟩
    have X : hx_ h h2 c := ⟨by omega, fun a p z => ⟨fun k _ => (C0 a (by omega)).1 k, fun k y => (C0 a (by omega)).2.1 k (fun x => (y x.1).1 x.2), (C0 a (by omega)).2.2⟩⟩
    have L : lwr_ h h2 := lwr_hx (B := 144) (fun a z => ⟨(C0 a (by omega)).1, fun k => (C0 a (by omega)).2.1 k (by omega), (C0 a (by omega)).2.2⟩) (Int.le_refl _)
    have e16 : rf_ h2 0 16 = rf_ h 0 16 := (C0 0 (by omega)).2.1 16 (by omega)
    have e90 : ∀ i, rf_ h2 90 i = rf_ h 90 i := fun i => (C0 90 (by omega)).2.1 i (by omega)
    have R7 : CHr h2 c w H := by
      unfold CHr
      rw [a4]
      exact ⟨by omega, by omega, a5, a2⟩
    have e8 : rf_ h2 c 8 = rf_ h c 8 := (C0 c (by omega)).2.1 8 (by omega)
    have M8 : rf_ h2 c 8 = -1 ∨ CHm h2 c w H := by
      rcases k.2.2.2 with z | z
      · exact Or.inl (by rw [e8]; exact z)
      · exact Or.inr (CHm_hx h0 h5 w0 z k1.2.2 X e8)
    obtain ⟨y1, y2, y3, y4⟩ := CH_hx g.2.1 h0 h5 w0 uu k ec X e16 e90 (Or.inr R7) M8
    have RR : RM h2 K S := by
      have f9 : ∀ i, 0 ≤ i → i < 12 → i ≠ 6 * w + H → rf_ h 90 i < 0 ∨ (rf_ h 90 i ≠ c ∧ 144 ≤ rf_ h 90 i ∧ rf_ h 90 i < nn_ h) := by
        intro i i0 i1 ni
        rcases CH_c g.2.1 i0 i1 with z | z
        · exact Or.inl z
        · refine Or.inr ⟨fun e => ni ?_, z⟩
          rcases g.2.1 with ⟨x, _⟩ | ⟨_, b⟩
          · omega
          · rcases b (i / 6) (i % 6) (by omega) (by omega) (by omega) with v | v
            · rw [show 6 * (i / 6) + i % 6 = i by omega] at v; omega
            · rw [show 6 * (i / 6) + i % 6 = i by omega, e] at v
              have v1 := v.1.2.2.1
              have v2 := k.1.2.2.1
              omega
      have pe : ∀ a b d i, 0 ≤ i → i < 12 → i ≠ 6 * w + H → pcr_ a b d h2 i = pcr_ a b d h i := by
        intro a b d i i0 i1 ni
        unfold pcr_
        rw [e90]
        rcases f9 i i0 i1 ni with z | ⟨z1, z2, z3⟩
        · rw [if_pos (Or.inl z), if_pos (Or.inl z), if_pos (Or.inl z), if_pos (Or.inl z)]
        · rw [(C0 _ (by omega)).2.1 7 (fun x => z1 x.1), (C0 _ (by omega)).2.1 8 (fun x => z1 x.1)]
      have p3 : ∀ a b d, pcr_ a b d h2 (6 * w + H) = pcr_ a b d h (6 * w + H) - b := by
        intro a b d
        unfold pcr_
        rw [e90, ec, a4, q, e8, if_neg (c := c < 0 ∨ r < 0) (by omega), if_pos (c := c < 0 ∨ -1 < 0) (Or.inr (by omega))]
        omega
      have sm : ∀ a b d, sm_ (pcr_ a b d h2) 12 = sm_ (pcr_ a b d h) 12 - b := by
        intro a b d
        have := sm_2 (f := pcr_ a b d h) (g := pcr_ a b d h2) (j := 6 * w + H) 12 (fun i i0 i1 hi => pe a b d i i0 i1 hi)
        rw [this, if_pos (by omega), p3]
        omega
      unfold RM
      rw [sm, sm, e16]
      have r1 := g.2.2.1.1
      have r2 := g.2.2.1.2
      have x1 : ss_ h2 = ss_ h1 + 4 * nN_ w H := a7
      omega
    refine ⟨h2, ?_, ⟨CI_la (la_lw L) g.1, y1, RR, by omega⟩, lb_lw L⟩
    rw [if_pos (by omega), ck_t (by omega), ck_t (by omega), ck_t (by omega), a1, bd_v, ck_t (by omega), a4, a5, ck_t (by omega), ck_t (by omega), a2 t t0 (by omega)]
  · obtain ⟨q1, q2, q3, q4⟩ := q
    refine ⟨h, ?_, g, lb_refl h⟩
    rw [if_neg (by omega), ck_t (by omega), ck_t (by omega), ck_t (by omega), q4 t t0 (by omega)]
theorem Pp_could_t (g : CJ h T W I U Q K S) (sv : SV T W I U Q) {p w t : Int} (p0 : 0 ≤ p) (p1 : p < T 0 1) (wq : w = 0 ∨ w = 1) (t0 : 0 ≤ t) (t1 : t ≤ 9) : ∃ h', Pp_could h 0 p w t = some (h', cld_ w (W 0 p) t) ∧ CJ h' T W I U Q K S ∧ lb_ h h' := by
  have v := sv.2.1
  have v0 := v.1
  have hh := v.2.1 p p0 p1
  obtain ⟨h1, c, a1, a2, a3, a4, a5, a6⟩ := CJ_ch g (H := W 0 p) (w := w) (by omega) hh.2 wq
  obtain ⟨h2, b1, b2, b3⟩ := Ch_reachedBy_s a2 (by omega) hh.2 wq a3 a4 a5 t0 t1
  have o := g.1.2.2.1
  obtain ⟨⟨w0, s6, s7, s8, s9, s10, s11, s12, s13, l1, l2, l3, l4, l5, l6, l7, l8⟩, ⟨e0, e1, e2, e3, e4, e5⟩, f1, f2, f3, f4, f5, f6, f7⟩ := id o
  have c0 := a4.1.1
  refine ⟨h2, ?_, b2, lb_tr a6 b3⟩
  rw [Pp_could_e]
  simp only [cr0_7 g.1.1]
  rw [ck_t (by omega), ck_t (by omega), Wo_hasPile_t o p0 p1, bd_v, if_neg (by omega), if_neg (by omega), if_neg (by omega), if_neg (by omega), if_pos (by omega)]
  simp only [cr0_7 g.1.1, s6, l1, f1 p p0 p1]
  rw [ck_t (by omega), ck_t (by omega), ck_t (by omega), ck_t (by omega), ck_t (by omega), a1, bd_v, ck_t (by omega), b1, bd_v]
theorem Pp_could_f (g : CI h T W I U Q) {p w t : Int} (c : ¬ ((0 ≤ p ∧ p < T 0 1) ∧ (0 ≤ w ∧ w ≤ 1) ∧ 0 ≤ t ∧ t ≤ 9)) : Pp_could h 0 p w t = some (h, -1) := by
  have o := g.2.2.1
  rw [Pp_could_e]
  simp only [cr0_7 g.1]
  rw [ck_t (by omega), ck_t (by omega)]
  by_cases q : 0 ≤ p ∧ p < T 0 1
  · rw [Wo_hasPile_t o q.1 q.2, bd_v, if_neg (by omega)]
    by_cases r : w < 0
    · rw [if_pos r]
    · rw [if_neg r]
      by_cases r2 : 1 < w
      · rw [if_pos r2]
      · rw [if_neg r2]
        by_cases r3 : t < 0
        · rw [if_pos r3]
        · rw [if_neg r3, if_neg (fun z => c ⟨q, by omega, by omega, z⟩)]
  · rw [Wo_hasPile_f o q, bd_v, if_pos rfl]
end
