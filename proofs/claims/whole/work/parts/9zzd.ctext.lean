/-! text, in the class -/
def tQf_ (Q : Tx) (f p : Int) : Tx := up_ (up_ (up_ Q 4 4 0) 4 5 f) 4 6 p
def tQs_ (Q : Tx) : Tx := up_ (up_ (up_ (up_ (up_ (up_ (up_ Q 4 0 0) 4 1 (-1)) 4 2 0) 4 3 0) 4 4 0) 4 5 0) 4 6 (-1)
theorem tQf_4 (Q : Tx) (f p j : Int) : tQf_ Q f p 4 j = if j = 6 then p else if j = 5 then f else if j = 4 then 0 else Q 4 j := by unfold tQf_; rw [up_s, up_s, up_s]
theorem tQf_o (Q : Tx) (f p : Int) {g : Nat} (q : g ≠ 4) : tQf_ Q f p g = Q g := by unfold tQf_; rw [up_o _ _ _ q, up_o _ _ _ q, up_o _ _ _ q]
theorem tQs_4 (Q : Tx) (j : Int) : tQs_ Q 4 j = if j = 6 then -1 else if j = 5 then 0 else if j = 4 then 0 else if j = 3 then 0 else if j = 2 then 0 else if j = 1 then -1 else if j = 0 then 0 else Q 4 j := by unfold tQs_; rw [up_s, up_s, up_s, up_s, up_s, up_s, up_s]
section
variable {h : am_H} {T W I Q : Tx} {U : Int → Tx} {n : Int}
theorem Pp_text_b (g : CI h T W I U Q) (q : ¬ (0 ≤ n ∧ n ≤ Q 4 4)) : Pp_text h 0 n = some (h, -2) := by
  have tp := g.2.2.2.2.2.2.1.1
  rw [Pp_text_e]
  by_cases y : n < 0
  · rw [if_pos y]
  · rw [if_neg y, tp, ck_t (by omega), if_neg (by omega)]
/-- what reading brings, wherever it ends -/
theorem Pp_text_r (g : CI h T W I U Q) (sv : SV T W I U Q) (n0 : 0 ≤ n) (n1 : n ≤ Q 4 4) : ∃ t h1, (t = 7 ∨ t = 27) ∧ rf_ h 0 5 = 34 - t ∧ rf_ h 0 6 = t ∧ Re_read (wr_ h 0 1 0) 2 1 n t = some (h1, (rdA_ (Q 5) n).1) ∧ ((rdA_ (Q 5) n).1 ≠ 0 → rd_ h1 3 5 = (rdA_ (Q 5) n).2.1) ∧ ((rdA_ (Q 5) n).1 = 0 → ∃ c s, RT h1 t (rdA_ (Q 5) n).2.2 c s) ∧ frt_ t h (wr_ h 0 1 0) = frt_ t h (wr_ h 0 1 0) ∧ frt_ t (wr_ h 0 1 0) h1 ∧ ShC h1 := by
  obtain ⟨s, ⟨t0, c1, c2, c3, c4, c5, c6, c7⟩, w, s5, s6, im, tp, fa, se, d, lg⟩ := g
  have tv := sv.2.2.2.2.2.2
  obtain ⟨h1, a1, a2, a3, a4⟩ := Re_read_s (h := wr_ h 0 1 0) (B := Q 5) (n := n) (t := 34 - t0) (by omega) (ShC_of rfl s) (ShT_of rfl c6) (ShW_of rfl (by rw [show 34 - t0 + 1 = 35 - t0 by omega]; exact c7)) (fun i p q => by rw [rd_wo (by omega)]; exact lg i p q) n0 (by omega) (fun k p q => ⟨by rw [rd_wo (by omega)]; exact tp.2 k p (by omega), tv.2 k p (by omega)⟩)
  exact ⟨34 - t0, h1, by omega, by rw [c2]; omega, c3, a1, a2, a3, rfl, a4, a4.2 (ShC_of rfl s)⟩
theorem Pp_text_f (g : CI h T W I U Q) (sv : SV T W I U Q) (n0 : 0 ≤ n) (n1 : n ≤ Q 4 4) (z : (rdA_ (Q 5) n).1 ≠ 0) : ∃ h', Pp_text h 0 n = some (h', -1) ∧ CI h' T W I U (tQf_ Q (rdA_ (Q 5) n).1 (rdA_ (Q 5) n).2.1) ∧ Fc_ h h' := by
  obtain ⟨t, h1, t0, r5, r6, a1, a2, a3, -, a4, a5⟩ := Pp_text_r g sv n0 n1
  have tb : 7 ≤ t ∧ t ≤ 27 := by omega
  have e2 := a2 z
  generalize (rdA_ (Q 5) n).1 = f at *
  generalize (rdA_ (Q 5) n).2.1 = pl at *
  refine ⟨wr_ (wr_ h1 0 2 f) 0 3 pl, ?_, ?_, ?_⟩
  · have tp := g.2.2.2.2.2.2.1.1
    have e20 : rf_ h1 2 0 = 3 := cr2_0 a5
    rw [Pp_text_e, if_neg (by omega), tp, ck_t (by omega), if_pos n1, cr0_4 g.1, cr0_0 g.1, r6]
    repeat rw [ck_t (by omega)]
    rw [a1, bd_v, rd_ws, if_pos z, cr0_4 a5]
    repeat rw [ck_t (by omega)]
    rw [Re_place_e]
    simp only [rf_wr, e20]
    repeat rw [ck_t (by omega)]
    rw [bd_v, rd_wo (by omega), e2, Pp_text_6_e]
    repeat rw [ck_t (by omega)]
    rw [rd_wk (by omega), rd_ws, if_neg z]
  · have f1 : fq_ h (wr_ (wr_ h1 0 2 f) 0 3 pl) (fun a => a = 0 ∨ F6 t a) (fun a => a = 2 ∨ a = 3 ∨ a = 5) := fq_tr (fq_fr (fr_wr (Or.inl rfl))) (fq_tr (fq_mo a4.1 (fun a q => Or.inr q) (fun a q => q)) (fq_fr (fr_tr (fr_wr (Or.inl rfl)) (fr_wr (Or.inl rfl)))))
    have z0 : ∀ k, k ≠ 1 → k ≠ 2 → k ≠ 3 → rd_ (wr_ (wr_ h1 0 2 f) 0 3 pl) 0 k = rd_ h 0 k := fun k x y w => by rw [rd_wk w, rd_wk y, a4.1.2.1 0 (by unfold F6; omega), rd_wk x]
    have z1 : rd_ (wr_ (wr_ h1 0 2 f) 0 3 pl) 0 1 = 0 := by rw [rd_wk (by omega), rd_wk (by omega), a4.1.2.1 0 (by unfold F6; omega), rd_ws]
    have z2 : rd_ (wr_ (wr_ h1 0 2 f) 0 3 pl) 0 2 = f := by rw [rd_wk (by omega), rd_ws]
    have z3 : rd_ (wr_ (wr_ h1 0 2 f) 0 3 pl) 0 3 = pl := rd_ws _ _ _ _
    have sc : ShC (wr_ (wr_ h1 0 2 f) 0 3 pl) := ShC_of rfl a5
    generalize wr_ (wr_ h1 0 2 f) 0 3 pl = h' at f1 z0 z1 z2 z3 sc ⊢
    have R := f1.2.1
    have r0 := f1.2.2 0 (by omega)
    obtain ⟨s, ⟨tt, c1, c2, c3, c4, c5, c6, c7⟩, w, s5, s6, im, tp, fa, se, d, lg⟩ := g
    have et : tt = 34 - t := by omega
    subst et
    have n4 : ∀ j, j ≠ 4 → j ≠ 5 → j ≠ 6 → tQf_ Q f pl 4 j = Q 4 j := fun j x y w => by rw [tQf_4, if_neg w, if_neg y, if_neg x]
    refine ⟨sc, ⟨34 - t, c1, by rw [r0]; exact c2, by rw [r0]; exact c3, TO_fq c4 f1 (fun a p q => by unfold F6; omega) (by omega), WO_fq c5 f1 (fun a p q => by unfold F6; omega) (by omega), ShT_q (fq_ln f1) (f1.2.2 _ (by omega)) c6, ShW_q (fq_ln f1) (f1.2.2 _ (by omega)) c7⟩, WO_fq w f1 (fun a p q => by unfold F6; omega) (by omega), ShW_q (fq_ln f1) (f1.2.2 56 (by omega)) s5, ShW_q (fq_ln f1) (f1.2.2 65 (by omega)) s6, ?_, ?_, ?_, ?_, ?_, ?_⟩
    · rw [n4 3 (by omega) (by omega) (by omega), z0 10 (by omega) (by omega) (by omega)]
      exact ⟨im.1, fun q => WO_fq (im.2 q) f1 (fun a p q => by unfold F6; omega) (by omega)⟩
    · rw [tQf_4, if_neg (by omega), if_neg (by omega), if_pos rfl]
      exact ⟨z1, fun k p q => by omega⟩
    · rw [tQf_4, tQf_4, if_neg (by omega), if_pos rfl, if_pos rfl]
      exact ⟨z2, z3⟩
    · obtain ⟨x, y, v⟩ := SE_R se (h' := h') (fun a p q k => R a (by unfold F6; omega) k)
      refine ⟨by rw [n4 0 (by omega) (by omega) (by omega)]; exact x, by rw [n4 1 (by omega) (by omega) (by omega)]; exact y, fun i p q => ?_⟩
      rw [n4 0 (by omega) (by omega) (by omega)] at q
      rw [tQf_o Q f pl (g := 0) (by decide), tQf_o Q f pl (g := 1) (by decide), tQf_o Q f pl (g := 2) (by decide), tQf_o Q f pl (g := 3) (by decide)]
      exact v i p q
    · rw [n4 2 (by omega) (by omega) (by omega)]
      exact DO_R d (fun a p q k => R a (by unfold F6; omega) k)
    · intro i p q
      rw [R 4 (by unfold F6; omega)]; exact lg i p q
  · refine ⟨fq_tr (fq_fr (fr_wr (by omega))) (fq_tr (fq_mo a4.1 (fun a q => by unfold F6 at q; omega) (fun a q => by omega)) (fq_fr (fr_tr (fr_wr (by omega)) (fr_wr (by omega))))), ?_⟩
    show rf_ h1 0 16 = rf_ h 0 16
    rw [a4.1.2.2 0 (by omega)]
    rfl
theorem ShC_w0 {k v : Int} (s : ShC h) (q : k = 5 ∨ k = 6) : ShC (wf_ h 0 k v) := by
  unfold ShC at *
  rcases q with q | q <;> subst q <;> simpa [rf_wf, ln_wf] using s
end
