/-! go, turn, move, crack, undo, keep, back, in the class -/
def An_ (a : Int) : Prop := Sc a ∨ (47 ≤ a ∧ a ≤ 54) ∨ (79 ≤ a ∧ a ≤ 82)
section
variable {h : am_H} {T W I : Tx} {U : Int → Tx} {Q : Tx}
theorem CI_gen {h h' : am_H} (g : CI h T W I U Q) {V : Tx} (f : fq_ h h' An_ ScR) (kr : Kr h → Kr h') (o : WO h' 47 T V) {U' : Int → Tx} {k : Int} (d : DO h' T V U' k) : CI h' T V I U' (up_ Q 4 2 k) ∧ Fc_ h h' := by
  obtain ⟨s, ⟨t, c1, c2, c3, c4, c5, c6, c7⟩, w, s5, s6, im, tp, fa, se, -, lg⟩ := g
  have R : ∀ a, ¬ An_ a → ∀ k, rd_ h' a k = rd_ h a k := f.2.1
  have r0 := f.2.2 0 (by unfold ScR; omega)
  have e4 : ∀ j, j ≠ 2 → up_ Q 4 2 k 4 j = Q 4 j := fun j q => by rw [up_s, if_neg q]
  refine ⟨⟨ShC_q f s (kr (Kr_of s)), ⟨t, c1, by rw [r0]; exact c2, by rw [r0]; exact c3, TO_fq c4 f (by intro a p q; unfold An_ Sc; omega) (by unfold ScR; omega), WO_fq c5 f (by intro a p q; unfold An_ Sc; omega) (by unfold ScR; omega), ShT_q (fq_ln f) (f.2.2 _ (by unfold ScR; omega)) c6, ShW_q (fq_ln f) (f.2.2 _ (by unfold ScR; omega)) c7⟩, o, ShW_q (fq_ln f) (f.2.2 56 (by unfold ScR; omega)) s5, ShW_q (fq_ln f) (f.2.2 65 (by unfold ScR; omega)) s6, ?_, ?_, ?_, ?_, ?_, ?_⟩, fq_mo f (fun a q => by unfold An_ Sc at q; omega) (fun a q => by unfold ScR at q; omega), r0 16⟩
  · rw [e4 3 (by omega), R 0 (by unfold An_ Sc; omega)]
    exact ⟨im.1, fun q => WO_fq (im.2 q) f (by intro a p q; unfold An_ Sc; omega) (by unfold ScR; omega)⟩
  · rw [e4 4 (by omega), R 0 (by unfold An_ Sc; omega)]
    exact ⟨tp.1, fun j p q => by rw [R 1 (by unfold An_ Sc; omega)]; exact tp.2 j p q⟩
  · rw [e4 5 (by omega), e4 6 (by omega), R 0 (by unfold An_ Sc; omega), R 0 (by unfold An_ Sc; omega)]; exact fa
  · have se' := SE_R se (h' := h') (fun a p q k => R a (by unfold An_ Sc; omega) k)
    obtain ⟨x, y, z⟩ := se'
    exact ⟨by rw [e4 0 (by omega)]; exact x, by rw [e4 1 (by omega)]; exact y, fun i p q => z i p (by rw [e4 0 (by omega)] at q; exact q)⟩
  · rw [up_s, if_pos rfl]; exact d
  · intro i p q
    rw [R 4 (by unfold An_ Sc; omega)]; exact lg i p q
theorem Kr_fr {h h' : am_H} {A : Int → Prop} (x : fr_ h h' A) (q : Kr h) : Kr h' := by
  unfold Kr at *
  simp only [fr_rf x]
  exact q
theorem up_same (Q : Tx) (f : Nat) (k : Int) : up_ Q f k (Q f k) = Q := by
  funext g j
  unfold up_
  split
  · rename_i e
    subst e
    dsimp only
    split
    · rename_i e; rw [e]
    · rfl
  · rfl
def gN_ (Q : Tx) (n : Int) : Int := if n ≤ 0 then Q 4 2 else 0
theorem Do_forget_s {n : Int} (d : DO h T W U n) (V : Tx) : Do_forget h 79 = some (wr_ h 79 3 0, 0) ∧ DO (wr_ h 79 3 0) T V U 0 := by
  refine ⟨by rw [Do_forget_e, ck_t (by omega)], rd_ws _ _ _ _, by omega, by omega, ?_, ?_, fun i p q => by omega, fun i p q => by omega⟩
  · rw [rd_wk (by omega)]; exact d.2.2.2.1
  · rw [rd_wk (by omega)]; exact d.2.2.2.2.1
theorem Pp_go6_s (g : CI h T W I U Q) (sv : SV T W I U Q) {n : Int} (n0 : 0 ≤ n) (n1 : n ≤ 200) (hU : n ≤ 0 ∨ Q 4 2 = 0) : ∃ h', Pp_go_6 h 0 n = some (h', zn_ T dM_ n.toNat W 6 0) ∧ CI h' T (zn_ T dM_ n.toNat W) I U Q ∧ Fc_ h h' := by
  have u := sv.1
  have v := sv.2.1
  obtain ⟨s, ⟨t, ct⟩, w, s5, s6, im, tp, fa, se, d, lg⟩ := id g
  have ht := ct.1
  obtain ⟨hb, b1, b2, b3⟩ := Mi_begin_s (t := t) (w := 47) s
  have Fb : Fs_ h hb := Fs_begin b3 b2
  have gb := CI_F g Fb
  obtain ⟨hc, c1, c2, c3⟩ := Mi_byNumbers_s b2
  have Fc : Fs_ hb hc := Fs_fr c3 (fun a q => by unfold Sc; omega)
  have gc := CI_F gb Fc
  have ctc := CT_F (CT_F ct Fb) Fc
  obtain ⟨hd, d1, d2, d3, d4⟩ := Mi_passAll_s u (t := t) (w := 47) (by omega) (by omega) (by omega) (by omega) dM_V n0 (by omega) c2 gc.2.2.1 ctc.2.2.2.1 v
  have f : fq_ hc hd An_ ScR := fq_mo d4 (fun a q => by unfold mA at q; unfold An_ Sc; omega) (fun a q => by unfold ScR; omega)
  have kr : Kr hc → Kr hd := fun q => by
    obtain ⟨k1, k2, k3, k4, k5, k6, k7⟩ := q
    exact ⟨by rw [d4.2.2 2 (by omega)]; exact k1, by rw [d4.2.2 2 (by omega)]; exact k2, by rw [d4.2.2 3 (by omega)]; exact k3, by rw [d4.2.2 5 (by omega)]; exact k4, by rw [d4.2.2 74 (by omega)]; exact k5, d3.1, d3.2.2.2.1⟩
  have dd : DO hd T (zn_ T dM_ n.toNat W) U (Q 4 2) := by
    have old := DO_R gc.2.2.2.2.2.2.2.2.2.1 (h' := hd) (fun a p q k => d4.2.1 a (by unfold mA; omega) k)
    rcases hU with hU | hU
    · rw [show n.toNat = 0 by omega]; exact old
    · obtain ⟨o1, o2, o3, o4, o5, o6, o7⟩ := old
      exact ⟨o1, o2, o3, o4, o5, fun i p q => by omega, fun i p q => by omega⟩
  obtain ⟨gd, Fd⟩ := CI_gen gc f kr d2 dd
  rw [up_same] at gd
  refine ⟨hd, ?_, gd, Fc_tr (Fc_S Fb) (Fc_tr (Fc_S Fc) Fd)⟩
  rw [Pp_go_6_e]
  simp only [cr0_12 s, cr0_7 s, ct.2.1]
  repeat rw [ck_t (by omega)]
  rw [b1, bd_v]
  simp only [cr0_12 gb.1]
  repeat rw [ck_t (by omega)]
  rw [c1, bd_v]
  simp only [cr0_12 gc.1]
  repeat rw [ck_t (by omega)]
  rw [d1, bd_v]
  simp only [cr0_7 gd.1]
  repeat rw [ck_t (by omega)]
  rw [d2.2.1.2.2.2.1]
def ok_go (W : Tx) (n : Int) : Prop := 0 ≤ n ∧ n ≤ 200 ∧ w32 (W 6 0 + n) ≤ 9000
theorem Pp_go_t (g : CI h T W I U Q) (sv : SV T W I U Q) {n : Int} (k : ok_go W n) : ∃ h', Pp_go h 0 n = some (h', zn_ T dM_ n.toNat W 6 0) ∧ CI h' T (zn_ T dM_ n.toNat W) I U (up_ Q 4 2 (gN_ Q n)) ∧ Fc_ h h' := by
  obtain ⟨k1, k2, k3⟩ := k
  have w := g.2.2.1
  have e3 := w.2.1.2.2.2.1
  by_cases c : n ≤ 0
  · obtain ⟨h', a1, a2, a3⟩ := Pp_go6_s g sv k1 k2 (Or.inl c)
    refine ⟨h', ?_, ?_, a3⟩
    · rw [Pp_go_e, if_neg (by omega), if_neg (by omega)]
      simp only [cr0_7 g.1, e3]
      repeat rw [ck_t (by omega)]
      rw [if_pos k3, if_pos c, a1]
    · unfold gN_
      rw [if_pos c, up_same]
      exact a2
  · obtain ⟨f1, f2⟩ := Do_forget_s g.2.2.2.2.2.2.2.2.2.1 W
    have F : fr_ h (wr_ h 79 3 0) (fun a => a = 79) := fr_wr rfl
    obtain ⟨ga, Fa⟩ := CI_gen g (fq_fr (fr_mo F (fun a q => by unfold An_; omega))) (Kr_fr F) (WO_fr w F (by intro a p q; omega)) f2
    have sva : SV T W I U (up_ Q 4 2 0) := by
      obtain ⟨x1, x2, x3, x4, x5, x6, x7, x8⟩ := sv
      exact ⟨x1, x2, x3, x4, x5, x6, x7, x8⟩
    obtain ⟨h', a1, a2, a3⟩ := Pp_go6_s ga sva k1 k2 (Or.inr (by rw [up_s, if_pos rfl]))
    refine ⟨h', ?_, ?_, Fc_tr Fa a3⟩
    · rw [Pp_go_e, if_neg (by omega), if_neg (by omega)]
      simp only [cr0_7 g.1, e3, cr0_13 g.1]
      repeat rw [ck_t (by omega)]
      rw [if_pos k3, if_neg c]
      repeat rw [ck_t (by omega)]
      rw [f1, bd_v, a1]
    · unfold gN_
      rw [if_neg c]
      exact a2
theorem Pp_go_f (g : CI h T W I U Q) {n : Int} (k : ¬ ok_go W n) : Pp_go h 0 n = some (h, -1) := by
  have e3 := g.2.2.1.2.1.2.2.2.1
  rw [Pp_go_e]
  by_cases c1 : n < 0
  · rw [if_pos c1]
  · rw [if_neg c1]
    by_cases c2 : 200 < n
    · rw [if_pos c2]
    · rw [if_neg c2]
      simp only [cr0_7 g.1, e3]
      repeat rw [ck_t (by omega)]
      rw [if_neg (fun q => k ⟨by omega, by omega, q⟩)]
/-- what the actions make of what can be undone -/
theorem Pp_turn_t (g : CI h T W I U Q) (sv : SV T W I U Q) {p d : Int} (h1 : 0 ≤ p) (h2 : p < T 0 1) (h3 : 1 ≤ d) (h4 : d ≤ W 0 p) : ∃ h', Pp_turn h 0 p d = some (h', Gp T (Tn W p d) p) ∧ CI h' T (Tn W p d) I (rU U (Q 4 2) W) (up_ Q 4 2 (rN (Q 4 2))) ∧ Fc_ h h' := by
  have v := sv.2.1
  have v0 := v.1
  have w := g.2.2.1
  have yp := w.2.2.1 p h1 h2
  obtain ⟨-, s6, -, -, -, -, -, -, -, l1, -⟩ := id w.1
  obtain ⟨ha, a1, a2, a3⟩ := Wo_turnOver_s w v h1 h2 h3 h4
  have sa := ShC_of a3.1 g.1
  have vt := Tn_v v h1 h2 h3 h4
  have iv : IV T 0 p d (Tn W p d) W := Or.inl ⟨rfl, h1, h2, h3, h4, Tb_inv v h1 h2 h3 h4⟩
  obtain ⟨hb, b1, b2, b3⟩ := Do_note_s sa (DO_R g.2.2.2.2.2.2.2.2.2.1 (h' := ha) (fun a p q k => a3.2 a (by omega) k)) v iv
  have wb := WO_fr a2 b3 (by intro a p q; omega)
  have F : fr_ h hb (fun a => (47 ≤ a ∧ a ≤ 54) ∨ (79 ≤ a ∧ a ≤ 82)) := fr_tr (fr_mo a3 (fun a q => by omega)) (fr_mo b3 (fun a q => by omega))
  obtain ⟨gb, Fb⟩ := CI_gen g (fq_fr (fr_mo F (fun a q => by unfold An_; omega))) (Kr_fr F) wb b2
  refine ⟨hb, ?_, gb, Fb⟩
  rw [Pp_turn_e]
  simp only [cr0_7 g.1]
  repeat rw [ck_t (by omega)]
  rw [Wo_hasPile_t w h1 h2, bd_v, if_neg (by omega), if_neg (by omega)]
  simp only [cr0_7 g.1, s6, l1, yp]
  repeat rw [ck_t (by omega)]
  rw [if_pos h4]
  repeat rw [ck_t (by omega)]
  rw [a1, bd_v]
  simp only [cr0_13 sa]
  repeat rw [ck_t (by omega)]
  rw [b1, bd_v]
  simp only [cr0_7 gb.1]
  repeat rw [ck_t (by omega)]
  rw [Wo_gaps_s wb vt h1 h2, bd_v]
theorem Pp_turn_f (g : CI h T W I U Q) (v : WV T W) {p d : Int} (k : ¬ (0 ≤ p ∧ p < T 0 1 ∧ 1 ≤ d ∧ d ≤ W 0 p)) : Pp_turn h 0 p d = some (h, -1) := by
  have w := g.2.2.1
  have v0 := v.1
  rw [Pp_turn_e]
  simp only [cr0_7 g.1]
  repeat rw [ck_t (by omega)]
  by_cases c : 0 ≤ p ∧ p < T 0 1
  · have yp := w.2.2.1 p c.1 c.2
    obtain ⟨-, s6, -, -, -, -, -, -, -, l1, -⟩ := id w.1
    rw [Wo_hasPile_t w c.1 c.2, bd_v, if_neg (by omega)]
    by_cases c2 : d < 1
    · rw [if_pos c2]
    · rw [if_neg c2]
      simp only [cr0_7 g.1, s6, l1, yp]
      repeat rw [ck_t (by omega)]
      rw [if_neg (fun q => k ⟨c.1, c.2, by omega, q⟩)]
  · rw [Wo_hasPile_f w c, bd_v, if_pos rfl]
end
