/-! move, crack, undo, keep, back, in the class -/
section
variable {h : am_H} {T W I : Tx} {U : Int → Tx} {Q : Tx}
def ok_mv (T : Tx) (p q : Int) : Prop := 0 ≤ p ∧ p < T 0 1 ∧ 0 ≤ q ∧ q < T 0 1 ∧ p ≠ q
def do_mv (T W : Tx) (p q : Int) : Prop := W 0 p ≠ 0 ∧ W 0 q ≠ 5 ∧ hz_ T W q (Zs T W p 0) = true
theorem Pp_move_pre (g : CI h T W I U Q) (v : WV T W) {p q : Int} (k : ok_mv T p q) : Pp_move h 0 p q = (if W 0 p = 0 then some (h, -2) else if 5 ≤ W 0 q then some (h, -2) else if hz_ T W q (Zs T W p 0) then ck_ (0 ≤ (0 : Int)) (ck_ (0 ≤ (47 : Int)) (bd_ (Wo_lift h 47 p q) fun h9 _ => ck_ (0 ≤ (0 : Int)) (ck_ (0 ≤ (rf_ h9 0 13)) (bd_ (Do_note h9 (rf_ h9 0 13) 1 p q) fun h11 _ => ck_ (0 ≤ (0 : Int)) (ck_ (0 ≤ (rf_ h11 0 7)) (ck_ (0 ≤ (rf_ h11 (rf_ h11 0 7) 6)) (ck_ (0 ≤ q ∧ q < ln_ h11 (rf_ h11 (rf_ h11 0 7) 6)) (some (h11, rd_ h11 (rf_ h11 (rf_ h11 0 7) 6) q))))))))) else some (h, -2)) := by
  obtain ⟨k1, k2, k3, k4, k5⟩ := k
  have w := g.2.2.1
  have v0 := v.1
  have yp := w.2.2.1 p k1 k2
  have yq := w.2.2.1 q k3 k4
  obtain ⟨-, s6, -, -, -, -, -, -, -, l1, -⟩ := id w.1
  rw [Pp_move_e]
  simp only [cr0_7 g.1]
  repeat rw [ck_t (by omega)]
  rw [Wo_hasPile_t w k1 k2, bd_v, if_neg (by omega)]
  simp only [cr0_7 g.1]
  repeat rw [ck_t (by omega)]
  rw [Wo_hasPile_t w k3 k4, bd_v, if_neg (by omega), if_pos k5]
  simp only [cr0_7 g.1, s6, l1, yp, yq]
  repeat rw [ck_t (by omega)]
  by_cases c1 : W 0 p = 0
  · rw [if_pos c1, if_pos c1]
  · rw [if_neg c1, if_neg c1]
    repeat rw [ck_t (by omega)]
    by_cases c2 : 5 ≤ W 0 q
    · rw [if_pos c2, if_pos c2]
    · rw [if_neg c2, if_neg c2]
      repeat rw [ck_t (by omega)]
      rw [Wo_sizeAt_s w v, bd_v]
      repeat rw [ck_t (by omega)]
      rw [Wo_hasSize_s w v k3 k4, bd_v]
      simp only [cr0_7 g.1]
      cases hz_ T W q (Zs T W p 0)
      · rw [if_neg (show ¬ false = true by decide), if_neg (show ¬ (1 : Int) = 0 by decide), if_neg (show ¬ false = true by decide)]
      · rw [if_pos (show true = true from rfl), if_pos (show (0 : Int) = 0 from rfl), if_pos (show true = true from rfl)]
        repeat rw [ck_t (by omega)]
theorem Pp_move_t (g : CI h T W I U Q) (sv : SV T W I U Q) {p q : Int} (k : ok_mv T p q) (m : do_mv T W p q) : ∃ h', Pp_move h 0 p q = some (h', W 0 q + 1) ∧ CI h' T (Mv W p q) I (rU U (Q 4 2) W) (up_ Q 4 2 (rN (Q 4 2))) ∧ Fc_ h h' := by
  obtain ⟨k1, k2, k3, k4, k5⟩ := id k
  obtain ⟨m1, m2, m3⟩ := m
  have v := sv.2.1
  have v0 := v.1
  have w := g.2.2.1
  have bp := v.2.1 p k1 k2
  have bq := v.2.1 q k3 k4
  have ns := hz_t m3
  obtain ⟨ha, a1, a2, a3⟩ := Wo_lift_s w v k1 k2 k3 k4 k5 (by omega) (by omega)
  have sa := ShC_of a3.1 g.1
  have vt := Mv_v v k1 k2 k3 k4 k5 (by omega) (by omega) ns
  have e0p : Mv W p q 0 p = W 0 p - 1 := by rw [Mv_0, if_pos rfl]
  have e0q : Mv W p q 0 q = W 0 q + 1 := by rw [Mv_0, if_neg (by omega), if_pos rfl]
  have iv : IV T 1 p q (Mv W p q) W := Or.inr (Or.inl ⟨rfl, k1, k2, k3, k4, fun e => k5 e.symm, by omega, by omega, Mv_inv v k1 k2 k3 k4 k5 (by omega) (by omega) ns⟩)
  obtain ⟨hb, b1, b2, b3⟩ := Do_note_s sa (DO_R g.2.2.2.2.2.2.2.2.2.1 (h' := ha) (fun a p q k => a3.2 a (by omega) k)) v iv
  have wb := WO_fr a2 b3 (by intro a p q; omega)
  have F : fr_ h hb (fun a => (47 ≤ a ∧ a ≤ 54) ∨ (79 ≤ a ∧ a ≤ 82)) := fr_tr (fr_mo a3 (fun a q => by omega)) (fr_mo b3 (fun a q => by omega))
  obtain ⟨gb, Fb⟩ := CI_gen g (fq_fr (fr_mo F (fun a q => by unfold An_; omega))) (Kr_fr F) wb b2
  have yq := wb.2.2.1 q k3 k4
  obtain ⟨-, s6, -, -, -, -, -, -, -, l1, -⟩ := id wb.1
  refine ⟨hb, ?_, gb, Fb⟩
  rw [Pp_move_pre g v k, if_neg m1, if_neg (by omega), if_pos m3]
  repeat rw [ck_t (by omega)]
  rw [a1, bd_v]
  simp only [cr0_13 sa]
  repeat rw [ck_t (by omega)]
  rw [b1, bd_v]
  simp only [cr0_7 gb.1, s6, l1, yq, e0q]
  repeat rw [ck_t (by omega)]
theorem Pp_move_n (g : CI h T W I U Q) (v : WV T W) {p q : Int} (k : ok_mv T p q) (m : ¬ do_mv T W p q) : Pp_move h 0 p q = some (h, -2) := by
  have bq := v.2.1 q k.2.2.1 k.2.2.2.1
  rw [Pp_move_pre g v k]
  by_cases c1 : W 0 p = 0
  · rw [if_pos c1]
  · rw [if_neg c1]
    by_cases c2 : 5 ≤ W 0 q
    · rw [if_pos c2]
    · rw [if_neg c2, if_neg (fun q => m ⟨c1, by omega, q⟩)]
theorem Pp_move_f (g : CI h T W I U Q) {p q : Int} (k : ¬ ok_mv T p q) : Pp_move h 0 p q = some (h, -1) := by
  have w := g.2.2.1
  rw [Pp_move_e]
  simp only [cr0_7 g.1]
  repeat rw [ck_t (by omega)]
  by_cases c : 0 ≤ p ∧ p < T 0 1
  · rw [Wo_hasPile_t w c.1 c.2, bd_v, if_neg (by omega)]
    simp only [cr0_7 g.1]
    repeat rw [ck_t (by omega)]
    by_cases c2 : 0 ≤ q ∧ q < T 0 1
    · rw [Wo_hasPile_t w c2.1 c2.2, bd_v, if_neg (by omega), if_neg (fun e => k ⟨c.1, c.2, c2.1, c2.2, e⟩)]
    · rw [Wo_hasPile_f w c2, bd_v, if_pos rfl]
  · rw [Wo_hasPile_f w c, bd_v, if_pos rfl]
/-- a plate that can be chipped -/
def ok_ck (T W : Tx) (p k : Int) : Prop := 0 ≤ p ∧ p < T 0 1 ∧ 0 ≤ k ∧ k < W 0 p ∧ W 5 (W 3 (5 * p + k)) = 0
theorem Pp_crack_t (g : CI h T W I U Q) (sv : SV T W I U Q) {p k : Int} (c : ok_ck T W p k) : ∃ h', Pp_crack h 0 p k = some (h', 1) ∧ CI h' T (up_ W 5 (W 3 (5 * p + k)) 1) I (rU U (Q 4 2) W) (up_ Q 4 2 (rN (Q 4 2))) ∧ Fc_ h h' := by
  obtain ⟨c1, c2, c3, c4, c5⟩ := c
  have v := sv.2.1
  have v0 := v.1
  have w := g.2.2.1
  obtain ⟨q1, q2, q3⟩ := Pa_in v c1 c2 c3 c4
  have y7 := w.2.2.2.2.2.2.2.2 _ q2 q3
  obtain ⟨-, -, -, -, -, -, -, s12, -, -, -, -, -, -, -, l7, -⟩ := id w.1
  have wa := WO_ch w (j := W 3 (5 * p + k)) 1
  have Fa : fr_ h (wr_ h (47 + 7) (W 3 (5 * p + k)) 1) (fun a => a = 54) := fr_wr (by omega)
  have sa := ShC_of Fa.1 g.1
  have iv : IV T 2 (W 3 (5 * p + k)) 0 (up_ W 5 (W 3 (5 * p + k)) 1) W := by
    refine Or.inr (Or.inr ⟨rfl, q2, q3, fun p a b => ⟨rfl, rfl⟩, fun p k a b c d => rfl, fun j a b => ⟨rfl, ?_⟩⟩)
    rw [up_s, up_s]
    split
    · rename_i e; rw [e, c5]
    · rfl
  obtain ⟨hb, b1, b2, b3⟩ := Do_note_s sa (DO_R g.2.2.2.2.2.2.2.2.2.1 (fun a p q k => Fa.2 a (by omega) k)) v iv
  have wb := WO_fr wa b3 (by intro a p q; omega)
  have F : fr_ h hb (fun a => (47 ≤ a ∧ a ≤ 54) ∨ (79 ≤ a ∧ a ≤ 82)) := fr_tr (fr_mo Fa (fun a q => by omega)) (fr_mo b3 (fun a q => by omega))
  obtain ⟨gb, Fb⟩ := CI_gen g (fq_fr (fr_mo F (fun a q => by unfold An_; omega))) (Kr_fr F) wb b2
  refine ⟨hb, ?_, gb, Fb⟩
  rw [Pp_crack_e]
  simp only [cr0_7 g.1]
  repeat rw [ck_t (by omega)]
  rw [Wo_plateAt_s w v, bd_v, q1, if_neg (by omega)]
  simp only [cr0_7 g.1, s12, l7, y7]
  repeat rw [ck_t (by omega)]
  rw [if_pos c5]
  simp only [cr0_13 g.1]
  repeat rw [ck_t (by omega)]
  rw [b1, bd_v]
theorem Pp_crack_f (g : CI h T W I U Q) (v : WV T W) {p k : Int} (c : ¬ ok_ck T W p k) : Pp_crack h 0 p k = some (h, 0) := by
  have w := g.2.2.1
  have v0 := v.1
  obtain ⟨-, -, -, -, -, -, -, s12, -, -, -, -, -, -, -, l7, -⟩ := id w.1
  rw [Pp_crack_e]
  simp only [cr0_7 g.1]
  repeat rw [ck_t (by omega)]
  rw [Wo_plateAt_s w v, bd_v]
  by_cases d : 0 ≤ p ∧ p < T 0 1 ∧ 0 ≤ k ∧ k < W 0 p
  · obtain ⟨q1, q2, q3⟩ := Pa_in v d.1 d.2.1 d.2.2.1 d.2.2.2
    have y7 := w.2.2.2.2.2.2.2.2 _ q2 q3
    rw [q1, if_neg (by omega)]
    simp only [cr0_7 g.1, s12, l7, y7]
    repeat rw [ck_t (by omega)]
    rw [if_neg (fun e => c ⟨d.1, d.2.1, d.2.2.1, d.2.2.2, e⟩)]
  · have : Pa T W p k = -1 := by unfold Pa; rw [if_neg d]
    rw [this, if_pos (by omega)]
theorem Pp_undo_t (g : CI h T W I U Q) (sv : SV T W I U Q) (n : Q 4 2 ≠ 0) : ∃ h', Pp_undo h 0 = some (h', Q 4 2 - 1) ∧ CI h' T (mw_ (U (Q 4 2 - 1)) W) I U (up_ Q 4 2 (Q 4 2 - 1)) ∧ Fc_ h h' := by
  obtain ⟨h', a1, -, a3, a4⟩ := Pp_undo_s g.1 g.2.2.1 sv.2.1 g.2.2.2.2.2.2.2.2.2.1
  obtain ⟨a5, a6⟩ := a3 n
  obtain ⟨gb, Fb⟩ := CI_gen g (fq_fr (fr_mo a4 (fun a q => by unfold An_; omega))) (Kr_fr a4) a5 a6
  refine ⟨h', ?_, gb, Fb⟩
  rw [a1, if_neg n]
theorem Pp_undo_f (g : CI h T W I U Q) (sv : SV T W I U Q) (n : Q 4 2 = 0) : Pp_undo h 0 = some (h, -1) := by
  obtain ⟨h', a1, a2, -, -⟩ := Pp_undo_s g.1 g.2.2.1 sv.2.1 g.2.2.2.2.2.2.2.2.2.1
  rw [a1, a2 n, if_pos n]
theorem Pp_keep_t (g : CI h T W I U Q) (sv : SV T W I U Q) : ∃ h', Pp_keep h 0 = some (h', W 6 0) ∧ CI h' T W W U (up_ Q 4 3 1) ∧ Fc_ h h' := by
  obtain ⟨s, ⟨t, ct⟩, w, s5, s6, im, tp, fa, se, d, lg⟩ := id g
  have ht := ct.1
  obtain ⟨ha, a1, a2, a3⟩ := Wo_copy_s s6 w sv.2.1 (by omega)
  have F : fr_ h (wr_ ha 0 10 1) (fun a => a = 0 ∨ (65 ≤ a ∧ a ≤ 72)) := fr_tr (fr_mo a3 (fun a q => by omega)) (fr_wr (by omega))
  have sa := ShC_of a3.1 s
  have R : ∀ a, ¬ (a = 0 ∨ (65 ≤ a ∧ a ≤ 72)) → ∀ k, rd_ (wr_ ha 0 10 1) a k = rd_ h a k := F.2
  have R0 : ∀ k, k ≠ 10 → rd_ (wr_ ha 0 10 1) 0 k = rd_ h 0 k := fun k q => by rw [rd_wk q, a3.2 0 (by omega)]
  have e4 : ∀ j, j ≠ 3 → up_ Q 4 3 1 4 j = Q 4 j := fun j q => by rw [up_s, if_neg q]
  have wk := WO_fr w F (by intro a p q; omega)
  refine ⟨wr_ ha 0 10 1, ?_, ⟨ShC_of F.1 s, ⟨t, ct.1, by rw [fr_rf F]; exact ct.2.1, by rw [fr_rf F]; exact ct.2.2.1, TO_fr ct.2.2.2.1 F (by intro a p q; omega), WO_fr ct.2.2.2.2.1 F (by intro a p q; omega), ShT_of F.1 ct.2.2.2.2.2.1, ShW_of F.1 ct.2.2.2.2.2.2⟩, wk, ShW_of F.1 s5, ShW_of F.1 s6, ⟨by rw [rd_ws, up_s, if_pos rfl], fun _ => WO_fr a2 (fr_wr (A := fun a => a = 0) rfl) (by intro a p q; omega)⟩, ⟨by rw [e4 4 (by omega), R0 1 (by omega)]; exact tp.1, fun k p q => by rw [R 1 (by omega)]; exact tp.2 k p (by rw [e4 4 (by omega)] at q; exact q)⟩, ⟨by rw [e4 5 (by omega), R0 2 (by omega)]; exact fa.1, by rw [e4 6 (by omega), R0 3 (by omega)]; exact fa.2⟩, ?_, ?_, fun i p q => by rw [R 4 (by omega)]; exact lg i p q⟩, Fc_fr F (fun a q => by omega)⟩
  · rw [Pp_keep_e]
    simp only [cr0_9 s, cr0_7 s]
    repeat rw [ck_t (by omega)]
    rw [a1, bd_v]
    simp only [cr0_7 sa]
    repeat rw [ck_t (by omega)]
    rw [wk.2.1.2.2.2.1]
  · obtain ⟨x, y, z⟩ := SE_R se (h' := wr_ ha 0 10 1) (fun a p q k => R a (by omega) k)
    exact ⟨by rw [e4 0 (by omega)]; exact x, by rw [e4 1 (by omega)]; exact y, fun i p q => z i p (by rw [e4 0 (by omega)] at q; exact q)⟩
  · rw [e4 2 (by omega)]
    exact DO_R d (fun a p q k => R a (by omega) k)
theorem Pp_back_t (g : CI h T W I U Q) (sv : SV T W I U Q) (n : Q 4 3 = 1) : ∃ h', Pp_back h 0 = some (h', I 6 0) ∧ CI h' T I I U (up_ Q 4 2 0) ∧ Fc_ h h' := by
  obtain ⟨s, ⟨t, ct⟩, w, s5, s6, im, tp, fa, se, d, lg⟩ := id g
  have ht := ct.1
  have vi := sv.2.2.2.2.2.1 n
  obtain ⟨ha, a1, a2, a3⟩ := Wo_copy_s w.1 (im.2 n) vi (by omega)
  have sa := ShC_of a3.1 s
  obtain ⟨f1, f2⟩ := Do_forget_s (DO_R d (h' := ha) (fun a p q k => a3.2 a (by omega) k)) I
  have F : fr_ h (wr_ ha 79 3 0) (fun a => (47 ≤ a ∧ a ≤ 54) ∨ (79 ≤ a ∧ a ≤ 82)) := fr_tr (fr_mo a3 (fun a q => by omega)) (fr_wr (by omega))
  have wb := WO_fr a2 (fr_wr (A := fun a => a = 79) (k := 3) (v := 0) rfl) (by intro a p q; omega)
  obtain ⟨gb, Fb⟩ := CI_gen g (fq_fr (fr_mo F (fun a q => by unfold An_; omega))) (Kr_fr F) wb f2
  refine ⟨wr_ ha 79 3 0, ?_, gb, Fb⟩
  rw [Pp_back_e, im.1, n]
  repeat rw [ck_t (by omega)]
  rw [if_pos (by omega)]
  simp only [cr0_9 s, cr0_7 s]
  repeat rw [ck_t (by omega)]
  rw [a1, bd_v]
  simp only [cr0_13 sa]
  repeat rw [ck_t (by omega)]
  rw [f1, bd_v]
  simp only [cr0_7 gb.1]
  repeat rw [ck_t (by omega)]
  rw [wb.2.1.2.2.2.1]
theorem Pp_back_f (g : CI h T W I U Q) (n : Q 4 3 = 0) : Pp_back h 0 = some (h, -1) := by
  rw [Pp_back_e, g.2.2.2.2.2.1.1, n, ck_t (by omega), if_neg (by omega)]
end
