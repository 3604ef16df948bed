/-! the class between calls. Q 4: 2 how many can be undone, 3 whether there is an image, 4 how much is on the tape, 5 the fault, 6 its place; Q 5 the tape -/
def lang_ : List Int := [437555200, 546706432, 549507232, 693712896, 109363200, 642945024, 404455424, 174276180, 119573856, 273846272, 522190848, 48365568, 486146048, 647828480, 140005632, 278110208, 649376128, 681120896, 236473344, 446125701]
def LG (h : am_H) : Prop := ∀ i, 0 ≤ i → i < 20 → rd_ h 4 i = lang_.getD i.toNat 0
def CT (h : am_H) (t : Int) (T : Tx) : Prop := (t = 7 ∨ t = 27) ∧ rf_ h 0 5 = t ∧ rf_ h 0 6 = 34 - t ∧ TO h t T ∧ WO h (t + 1) T (W0_ T (T 0 6)) ∧ ShT h (34 - t) ∧ ShW h (35 - t)
def CI (h : am_H) (T W I : Tx) (U : Int → Tx) (Q : Tx) : Prop := ShC h ∧ (∃ t, CT h t T) ∧ WO h 47 T W ∧ ShW h 56 ∧ ShW h 65 ∧ (rd_ h 0 10 = Q 4 3 ∧ (Q 4 3 = 1 → WO h 65 T I)) ∧ (rd_ h 0 1 = Q 4 4 ∧ ∀ k, 0 ≤ k → k < Q 4 4 → rd_ h 1 k = Q 5 k) ∧ (rd_ h 0 2 = Q 4 5 ∧ rd_ h 0 3 = Q 4 6) ∧ SE h Q ∧ DO h T W U (Q 4 2) ∧ LG h
/-- all that holds of the pure rows -/
def SV (T W I : Tx) (U : Int → Tx) (Q : Tx) : Prop := TV T ∧ WV T W ∧ WV T (W0_ T (T 0 6)) ∧ QV T Q ∧ (Q 4 3 = 0 ∨ Q 4 3 = 1) ∧ (Q 4 3 = 1 → WV T I) ∧ (0 ≤ Q 4 4 ∧ Q 4 4 ≤ 700) ∧ ∀ k, 0 ≤ k → k < Q 4 4 → -128 ≤ Q 5 k ∧ Q 5 k < 128
theorem CT_F {h h' : am_H} {t : Int} {T : Tx} (g : CT h t T) (f : Fs_ h h') : CT h' t T := by
  obtain ⟨a, b, c, d, e, i, j⟩ := g
  have r0 := f.1.2.2 0 (by unfold ScR; omega)
  exact ⟨a, by rw [r0]; exact b, by rw [r0]; exact c, TO_fq d f.1 (by intro a p q; unfold Sc; omega) (by unfold ScR; omega), WO_fq e f.1 (by intro a p q; unfold Sc; omega) (by unfold ScR; omega), ShT_q (fq_ln f.1) (f.1.2.2 _ (by unfold ScR; omega)) i, ShW_q (fq_ln f.1) (f.1.2.2 _ (by unfold ScR; omega)) j⟩
theorem CI_F {h h' : am_H} {T W I : Tx} {U : Int → Tx} {Q : Tx} (g : CI h T W I U Q) (f : Fs_ h h') : CI h' T W I U Q := by
  obtain ⟨s, ⟨t, ct⟩, w, s5, s6, im, tp, fa, se, d, lg⟩ := g
  have R : ∀ a, ¬ Sc a → ∀ k, rd_ h' a k = rd_ h a k := f.1.2.1
  refine ⟨Fs_C f s, ⟨t, CT_F ct f⟩, WO_fq w f.1 (by intro a p q; unfold Sc; omega) (by unfold ScR; omega), ShW_q (fq_ln f.1) (f.1.2.2 56 (by unfold ScR; omega)) s5, ShW_q (fq_ln f.1) (f.1.2.2 65 (by unfold ScR; omega)) s6, ⟨by rw [R 0 (by unfold Sc; omega)]; exact im.1, fun q => WO_fq (im.2 q) f.1 (by intro a p q; unfold Sc; omega) (by unfold ScR; omega)⟩, ⟨by rw [R 0 (by unfold Sc; omega)]; exact tp.1, fun k p q => by rw [R 1 (by unfold Sc; omega)]; exact tp.2 k p q⟩, ⟨by rw [R 0 (by unfold Sc; omega)]; exact fa.1, by rw [R 0 (by unfold Sc; omega)]; exact fa.2⟩, SE_R se (fun a p q k => R a (by unfold Sc; omega) k), DO_R d (fun a p q k => R a (by unfold Sc; omega) k), fun i p q => by rw [R 4 (by unfold Sc; omega)]; exact lg i p q⟩
section
variable {h : am_H} {T W I : Tx} {U : Int → Tx} {Q : Tx}
theorem CI_B (g : CI h T W I U Q) : ∃ t, CB h t T Q ∧ CT h t T := by
  obtain ⟨s, ⟨t, ct⟩, w, s5, s6, im, tp, fa, se, d, lg⟩ := g
  exact ⟨t, ⟨s, ct.1, ct.2.1, ct.2.2.2.1, ct.2.2.2.2.1, s5, se⟩, ct⟩
theorem Fs_begin {h h' : am_H} {t w : Int} {M : Int → Int} (b3 : fq_ h h' (fun a => a = 76) (fun a => a = 76)) (b2 : MiO h' t w M) : Fs_ h h' := ⟨fq_mo b3 (fun a q => by unfold Sc; omega) (fun a q => by unfold ScR; omega), fun q => by
    obtain ⟨k1, k2, k3, k4, k5, k6, k7⟩ := q
    exact ⟨by rw [b3.2.2 2 (by omega)]; exact k1, by rw [b3.2.2 2 (by omega)]; exact k2, by rw [b3.2.2 3 (by omega)]; exact k3, by rw [b3.2.2 5 (by omega)]; exact k4, by rw [b3.2.2 74 (by omega)]; exact k5, b2.1, b2.2.2.2.1⟩⟩
/-- the scullery of now is laid for trying -/
theorem C_try (g : CI h T W I U Q) (v : WV T W) : ∃ t ha hb, CT h t T ∧ Wo_copy h 56 47 = some (ha, 0) ∧ CI ha T W I U Q ∧ CT ha t T ∧ WO ha 56 T W ∧ Fs_ h ha ∧ Mi_begin ha 76 t 56 = some (hb, 0) ∧ CI hb T W I U Q ∧ CT hb t T ∧ WO hb 56 T W ∧ MiO hb t 56 (mk_M 0 (-1) (-1) (-1) 0) ∧ Fs_ ha hb := by
  obtain ⟨s, ⟨t, ct⟩, w, s5, -⟩ := id g
  obtain ⟨ha, a1, a2, a3⟩ := Wo_copy_s s5 w v (by omega)
  have Fa : Fs_ h ha := Fs_fr a3 (fun a q => by unfold Sc; omega)
  have ga := CI_F g Fa
  obtain ⟨hb, b1, b2, b3⟩ := Mi_begin_s (t := t) (w := 56) ga.1
  have Fb : Fs_ ha hb := Fs_begin b3 b2
  exact ⟨t, ha, hb, ct, a1, ga, CT_F ct Fa, a2, Fa, b1, CI_F ga Fb, CT_F (CT_F ct Fa) Fb, WO_fq a2 b3 (by intro a p q; omega) (by omega), b2, Fb⟩
/-- minutes go by in the trial world -/
theorem C_pass (g : CI h T W I U Q) {t : Int} (ct : CT h t T) {V : Tx} (o : WO h 56 T V) {M : Int → Int} (hM : MV M) (m : MiO h t 56 M) (u : TV T) (v : WV T V) {n : Int} (n0 : 0 ≤ n) (n1 : n ≤ 1000) : ∃ h', Mi_passAll h 76 n = some (h', 0) ∧ CI h' T W I U Q ∧ CT h' t T ∧ WO h' 56 T (zn_ T M n.toNat V) ∧ MiO h' t 56 M ∧ Fs_ h h' := by
  have ht := ct.1
  obtain ⟨h', a1, a2, a3, a4⟩ := Mi_passAll_s u (t := t) (w := 56) (by omega) (by omega) (by omega) (by omega) hM n0 n1 m o ct.2.2.2.1 v
  have F := Fs_min a4 a3 g.1
  exact ⟨h', a1, CI_F g F, CT_F ct F, a2, a3, F⟩
/-- what is ahead -/
def ahd_ (T W V : Tx) (x i : Int) : Int := if x = 0 then Rm T V else if x = 1 then Pm T V else if x = 2 then V 2 i else if x = 3 then Cm T V else if x = 4 then w32 (V 6 1 - W 6 1) else Gp T V i
def ok_ahd (T : Tx) (n x i : Int) : Prop := 0 ≤ n ∧ n ≤ 200 ∧ 0 ≤ x ∧ x ≤ 5 ∧ (x = 2 → 0 ≤ i ∧ i < T 0 0) ∧ (x = 5 → 0 ≤ i ∧ i < T 0 1)
theorem Pp_ahead_in (g : CI h T W I U Q) (sv : SV T W I U Q) {n x i : Int} (k : ok_ahd T n x i) : ∃ h', Pp_ahead_12 h 0 n x i = some (h', ahd_ T W (zn_ T M0_ n.toNat W) x i) ∧ CI h' T W I U Q ∧ Fs_ h h' := by
  obtain ⟨k1, k2, k3, k4, k5, k6⟩ := k
  have u := sv.1
  have v := sv.2.1
  have v0 := v.1
  obtain ⟨t, ha, hb, ct, a1, ga, cta, wa, Fa, b1, gb, ctb, wb, mb, Fb⟩ := C_try g v
  obtain ⟨hc, c1, gc, ctc, wc, mc, Fc⟩ := C_pass gb ctb wb (mk_V (by omega) (by omega) (by omega) (Or.inl rfl)) mb u v k1 (by omega)
  have vc : WV T (zn_ T M0_ n.toNat W) := zn_v u _ _ v
  have wc' : WO hc 56 T (zn_ T M0_ n.toNat W) := wc
  refine ⟨hc, ?_, gc, Fs_tr Fa (Fs_tr Fb Fc)⟩
  rw [Pp_ahead_12_e]
  simp only [cr0_8 g.1, cr0_7 g.1]
  repeat rw [ck_t (by omega)]
  rw [a1, bd_v]
  simp only [cr0_12 ga.1, cr0_8 ga.1, cta.2.1]
  repeat rw [ck_t (by omega)]
  rw [b1, bd_v]
  simp only [cr0_12 gb.1]
  repeat rw [ck_t (by omega)]
  rw [c1, bd_v]
  obtain ⟨-, -, -, s8, -, -, -, -, -, -, -, l3, -⟩ := id wc'.1
  simp only [cr0_8 gc.1, cr0_7 gc.1, Wo_rightPiles_s wc' vc, Wo_properPiles_s wc' vc, Wo_chippedPlates_s wc' vc, bd_v, s8, l3]
  have e4 : rd_ hc 56 4 = zn_ T M0_ n.toNat W 6 1 := wc'.2.1.2.2.2.2.1
  have e4' : rd_ hc 47 4 = W 6 1 := gc.2.2.1.2.1.2.2.2.2.1
  rw [e4, e4']
  repeat rw [ck_t (by omega)]
  unfold ahd_
  by_cases x0 : x = 0
  · rw [if_pos x0, if_pos x0]
  · rw [if_neg x0, if_neg x0]
    by_cases x1 : x = 1
    · rw [if_pos x1, if_pos x1]
    · rw [if_neg x1, if_neg x1]
      by_cases x2 : x = 2
      · have := k5 x2
        rw [if_pos x2, if_pos x2]
        repeat rw [ck_t (by omega)]
        rw [wc'.2.2.2.2.1 i this.1 this.2]
      · rw [if_neg x2, if_neg x2]
        by_cases x3 : x = 3
        · rw [if_pos x3, if_pos x3]
          repeat rw [ck_t (by omega)]
        · rw [if_neg x3, if_neg x3]
          by_cases x4 : x = 4
          · rw [if_pos x4, if_pos x4]
            repeat rw [ck_t (by omega)]
          · have := k6 (by omega)
            rw [if_neg x4, if_neg x4, Wo_gaps_s wc' vc this.1 this.2, bd_v]
            repeat rw [ck_t (by omega)]
theorem Pp_ahead_t (g : CI h T W I U Q) (sv : SV T W I U Q) {n x i : Int} (k : ok_ahd T n x i) : ∃ h', Pp_ahead h 0 n x i = some (h', ahd_ T W (zn_ T M0_ n.toNat W) x i) ∧ CI h' T W I U Q ∧ Fs_ h h' := by
  have w := g.2.2.1
  obtain ⟨h', a1, a2, a3⟩ := Pp_ahead_in g sv k
  obtain ⟨k1, k2, k3, k4, k5, k6⟩ := id k
  refine ⟨h', ?_, a2, a3⟩
  rw [Pp_ahead_e, if_neg (by omega), if_neg (by omega), if_neg (by omega), if_neg (by omega), Pp_ahead_6_e, if_neg (by omega)]
  simp only [cr0_7 g.1]
  repeat rw [ck_t (by omega)]
  by_cases x2 : x = 2
  · have := k5 x2
    rw [if_neg (by omega), Wo_hasMaid_t w this.1 this.2, bd_v, if_neg (by omega), if_pos (by omega), a1]
  · rw [if_pos x2]
    by_cases x5 : x = 5
    · have := k6 x5
      rw [if_neg (by omega), Wo_hasPile_t w this.1 this.2, bd_v, if_pos (by omega), a1]
    · rw [if_pos x5, a1]
theorem Pp_ahead_f (g : CI h T W I U Q) {n x i : Int} (k : ¬ ok_ahd T n x i) : Pp_ahead h 0 n x i = some (h, -1) := by
  have w := g.2.2.1
  have e0 : Pp_ahead_6 h 0 n x i 0 = some (h, -1) := by rw [Pp_ahead_6_e, if_pos rfl]
  rw [Pp_ahead_e]
  by_cases c1 : n < 0
  · rw [if_pos c1, e0]
  · rw [if_neg c1]
    by_cases c2 : 200 < n
    · rw [if_pos c2, e0]
    · rw [if_neg c2]
      by_cases c3 : x < 0
      · rw [if_pos c3, e0]
      · rw [if_neg c3]
        by_cases c4 : 5 < x
        · rw [if_pos c4, e0]
        · rw [if_neg c4, Pp_ahead_6_e, if_neg (by omega)]
          simp only [cr0_7 g.1]
          repeat rw [ck_t (by omega)]
          by_cases x2 : x = 2
          · have : ¬ (0 ≤ i ∧ i < T 0 0) := fun q => k ⟨by omega, by omega, by omega, by omega, fun _ => q, fun q => by omega⟩
            rw [if_neg (by omega), Wo_hasMaid_f w this, bd_v, if_pos rfl]
          · have x5 : x = 5 := by
              apply Classical.byContradiction
              intro q
              exact k ⟨by omega, by omega, by omega, by omega, fun q => by omega, fun q => by omega⟩
            have : ¬ (0 ≤ i ∧ i < T 0 1) := fun q => k ⟨by omega, by omega, by omega, by omega, fun q => by omega, fun _ => q⟩
            rw [if_pos x2, if_neg (by omega), Wo_hasPile_f w this, bd_v, if_neg (by omega)]
/-- tried otherwise -/
def ok_try (T : Tx) (x i n : Int) : Prop := 0 ≤ x ∧ x ≤ 4 ∧ 0 ≤ n ∧ n ≤ 200 ∧ (x = 2 → 0 ≤ i ∧ i < T 0 0) ∧ (x ≠ 2 → i = 0)
def tM_ (x i : Int) : Int → Int := mk_M 0 x (if x = 2 then i else -1) (-1) 0
theorem Pp_tried_t (g : CI h T W I U Q) (sv : SV T W I U Q) {x i n : Int} (k : ok_try T x i n) : ∃ h', Pp_tried h 0 x i n = some (h', Gm T (zn_ T (tM_ x i) n.toNat W)) ∧ CI h' T W I U Q ∧ Fs_ h h' := by
  have w := g.2.2.1
  obtain ⟨k1, k2, k3, k4, k5, k6⟩ := id k
  have u := sv.1
  have v := sv.2.1
  have v0 := v.1
  obtain ⟨t, ha, hb, ct, a1, ga, cta, wa, Fa, b1, gb, ctb, wb, mb, Fb⟩ := C_try g v
  obtain ⟨hc, c1, c2, c3⟩ := Mi_tryOtherwise_s mb x i
  have Fc : Fs_ hb hc := Fs_fr c3 (fun a q => by unfold Sc; omega)
  have gc := CI_F gb Fc
  have mv : MV (tM_ x i) := mk_V (by omega) (by omega) (by split <;> omega) (Or.inl rfl)
  obtain ⟨hd, d1, gd, ctd, wd, md, Fd⟩ := C_pass gc (CT_F ctb Fc) (WO_fr wb c3 (by intro a p q; omega)) mv c2 u v k3 (by omega)
  have vd : WV T (zn_ T (tM_ x i) n.toNat W) := zn_v u _ _ v
  refine ⟨hd, ?_, gd, Fs_tr Fa (Fs_tr Fb (Fs_tr Fc Fd))⟩
  have e12 : Pp_tried_12 h 0 x i n = some (hd, Gm T (zn_ T (tM_ x i) n.toNat W)) := by
    rw [Pp_tried_12_e]
    simp only [cr0_8 g.1, cr0_7 g.1]
    repeat rw [ck_t (by omega)]
    rw [a1, bd_v]
    simp only [cr0_12 ga.1, cr0_8 ga.1, cta.2.1]
    repeat rw [ck_t (by omega)]
    rw [b1, bd_v]
    simp only [cr0_12 gb.1]
    repeat rw [ck_t (by omega)]
    rw [c1, bd_v]
    simp only [cr0_12 gc.1]
    repeat rw [ck_t (by omega)]
    rw [d1, bd_v]
    simp only [cr0_8 gd.1]
    repeat rw [ck_t (by omega)]
    rw [Wo_gapsOfAll_s wd vd, bd_v]
    all_goals rfl
  rw [Pp_tried_e, if_neg (by omega), if_neg (by omega), if_neg (by omega), if_neg (by omega), Pp_tried_6_e, if_neg (by omega)]
  simp only [cr0_7 g.1]
  repeat rw [ck_t (by omega)]
  by_cases x2 : x = 2
  · have := k5 x2
    rw [if_neg (by omega), Wo_hasMaid_t w this.1 this.2, bd_v, if_neg (by omega), if_pos x2, e12]
  · have := k6 x2
    rw [if_pos x2, if_neg x2, if_pos this, e12]
theorem Pp_tried_f (g : CI h T W I U Q) {x i n : Int} (k : ¬ ok_try T x i n) : Pp_tried h 0 x i n = some (h, -1) := by
  have w := g.2.2.1
  have e0 : Pp_tried_6 h 0 x i n 0 = some (h, -1) := by rw [Pp_tried_6_e, if_pos rfl]
  rw [Pp_tried_e]
  by_cases c1 : x < 0
  · rw [if_pos c1, e0]
  · rw [if_neg c1]
    by_cases c2 : 4 < x
    · rw [if_pos c2, e0]
    · rw [if_neg c2]
      by_cases c3 : n < 0
      · rw [if_pos c3, e0]
      · rw [if_neg c3]
        by_cases c4 : 200 < n
        · rw [if_pos c4, e0]
        · rw [if_neg c4, Pp_tried_6_e, if_neg (by omega)]
          simp only [cr0_7 g.1]
          repeat rw [ck_t (by omega)]
          by_cases x2 : x = 2
          · have : ¬ (0 ≤ i ∧ i < T 0 0) := fun q => k ⟨by omega, by omega, by omega, by omega, fun _ => q, fun q => absurd x2 q⟩
            rw [if_neg (by omega), Wo_hasMaid_f w this, bd_v, if_pos rfl]
          · have : ¬ i = 0 := fun q => k ⟨by omega, by omega, by omega, by omega, fun q => absurd q x2, fun _ => q⟩
            rw [if_pos x2, if_neg x2, if_neg this]
/-- right when -/
def rw_ (T : Tx) (p : Int) : Nat → Int → Tx → Int
  | 0, _, _ => -2
  | n + 1, k, V => if Rt T V p then k else rw_ T p n (k + 1) (zp_ T M0_ V)
theorem Pp_rightWhen_lp (u : TV T) {p t : Int} (p0 : 0 ≤ p) (p1 : p < T 0 1) : ∀ (m : Nat) (k : Int) (V : Tx) (h : am_H), CI h T W I U Q → CT h t T → WO h 56 T V → MiO h t 56 M0_ → WV T V → 0 ≤ k → k + m = 200 → ∃ h', Pp_rightWhen_3 h 0 p k = some (h', rw_ T p m k V) ∧ CI h' T W I U Q ∧ Fs_ h h' := by
  intro m
  induction m with
  | zero =>
    intro k V h g ct o mi v hk hm
    refine ⟨h, ?_, g, Fs_refl h⟩
    rw [Pp_rightWhen_3_e, if_pos (by omega)]
    rfl
  | succ m ih =>
    intro k V h g ct o mi v hk hm
    have ht := ct.1
    rw [Pp_rightWhen_3_e, if_neg (by omega)]
    simp only [cr0_8 g.1]
    repeat rw [ck_t (by omega)]
    rw [Wo_isRight_s o v p0 p1, bd_v]
    unfold rw_
    cases hr : Rt T V p with
    | true =>
      rw [if_neg (show ¬ bz true = 0 by decide), if_pos rfl]
      exact ⟨h, rfl, g, Fs_refl h⟩
    | false =>
      rw [if_pos (show bz false = 0 from rfl), if_neg (by decide)]
      obtain ⟨ha, a1, a2, a3, a4⟩ := Mi_pass_s u (t := t) (w := 56) (by omega) (by omega) (by omega) (by omega) (mk_V (by omega) (by omega) (by omega) (Or.inl rfl)) mi o ct.2.2.2.1 v
      have F := Fs_min a4 a3 g.1
      obtain ⟨h', i1, i2, i3⟩ := ih (k + 1) (zp_ T M0_ V) ha (CI_F g F) (CT_F ct F) a2 a3 (zp_v v u) (by omega) (by omega)
      refine ⟨h', ?_, i2, Fs_tr F i3⟩
      simp only [cr0_12 g.1]
      repeat rw [ck_t (by omega)]
      rw [a1, bd_v, w32_i (by omega) (by omega), i1]
theorem Pp_rightWhen_t (g : CI h T W I U Q) (sv : SV T W I U Q) {p : Int} (p0 : 0 ≤ p) (p1 : p < T 0 1) : ∃ h', Pp_rightWhen h 0 p = some (h', rw_ T p 200 0 W) ∧ CI h' T W I U Q ∧ Fs_ h h' := by
  have w := g.2.2.1
  have u := sv.1
  have v := sv.2.1
  obtain ⟨t, ha, hb, ct, a1, ga, cta, wa, Fa, b1, gb, ctb, wb, mb, Fb⟩ := C_try g v
  obtain ⟨hc, c1, c2, c3⟩ := Pp_rightWhen_lp u p0 p1 200 0 W hb gb ctb wb mb v (by omega) (by omega)
  refine ⟨hc, ?_, c2, Fs_tr Fa (Fs_tr Fb c3)⟩
  rw [Pp_rightWhen_e]
  simp only [cr0_7 g.1]
  repeat rw [ck_t (by omega)]
  rw [Wo_hasPile_t w p0 p1, bd_v, if_pos (by omega)]
  simp only [cr0_8 g.1, cr0_7 g.1]
  repeat rw [ck_t (by omega)]
  rw [a1, bd_v]
  simp only [cr0_12 ga.1, cr0_8 ga.1, cta.2.1]
  repeat rw [ck_t (by omega)]
  rw [b1, bd_v, c1]
theorem Pp_rightWhen_f (g : CI h T W I U Q) {p : Int} (k : ¬ (0 ≤ p ∧ p < T 0 1)) : Pp_rightWhen h 0 p = some (h, -1) := by
  have w := g.2.2.1
  rw [Pp_rightWhen_e]
  simp only [cr0_7 g.1]
  repeat rw [ck_t (by omega)]
  rw [Wo_hasPile_f w k, bd_v, if_neg (by omega)]
end
