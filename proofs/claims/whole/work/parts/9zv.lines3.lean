/-! lines of a text in the class: piles, chipping, the number -/
def chL_ (B : Int → Int) (n q p : Int) (T : Tx) (c s : Int) : lRs_ := if c = 0 then (if nm_f B n p 0 100 ≠ 0 then (nm_f B n p 0 100, tp_ B n p, 0, T, c, s) else smE_ B n (tk_n B n p) (up_ T 0 5 (tk_v B n p)) 1 s) else (3, q, 0, T, c, s)
def seL_ (B : Int → Int) (n q p : Int) (T : Tx) (c s : Int) : lRs_ := if s = 0 then (if nm_f B n p 0 99999 ≠ 0 then (nm_f B n p 0 99999, tp_ B n p, 0, T, c, s) else smE_ B n (tk_n B n p) (up_ T 0 6 (tk_v B n p)) c 1) else (3, q, 0, T, c, s)
section
variable {B : Int → Int} {n t c s : Int} {T : Tx}
theorem RT_pile {h : am_H} {v : Int} (r : RT h t T c s) (P4 : T 0 1 < 4) (P0 : 0 ≤ T 0 1) (e : rd_ h (t + 12) (T 0 1) = v) : RT (wr_ (wr_ (wr_ h (t + 2) (T 0 1) 0) (t + 3) (T 0 1) 0) (t + 1) 1 (T 0 1 + 1)) t (piT_ T v) c s := by
  obtain ⟨t0, sc, r2, ⟨sh, ⟨f0, f1, f2, f3⟩, o1, o2, o3, o4, o5⟩, ⟨sw, ⟨w0, w1, w2, w3, w4, w5⟩, p1, p2, p3, p4, p5, p6, p7⟩, e4, e5⟩ := r
  have u0 : ∀ k, k ≠ 1 → piT_ T v 0 k = T 0 k := fun k q => by unfold piT_; rw [up_s, if_neg q, up_o _ _ _ (by decide), up_o _ _ _ (by decide)]
  have u00 : piT_ T v 0 1 = T 0 1 + 1 := by unfold piT_; rw [up_s, if_pos rfl]
  have u3 : ∀ j, piT_ T v 3 j = if j = T 0 1 then v else T 3 j := fun j => by unfold piT_; rw [up_o _ _ _ (by decide), up_o _ _ _ (by decide), up_s]
  have u4 : ∀ j, piT_ T v 4 j = if j = T 0 1 then 0 else T 4 j := fun j => by unfold piT_; rw [up_o _ _ _ (by decide), up_s, up_o _ _ _ (by decide)]
  have uf : ∀ f : Nat, f ≠ 0 → f ≠ 3 → f ≠ 4 → piT_ T v f = T f := fun f a b d => by unfold piT_; rw [up_o _ _ _ a, up_o _ _ _ d, up_o _ _ _ b]
  have ro : ∀ a k, a ≠ t + 1 → a ≠ t + 2 → a ≠ t + 3 → rd_ (wr_ (wr_ (wr_ h (t + 2) (T 0 1) 0) (t + 3) (T 0 1) 0) (t + 1) 1 (T 0 1 + 1)) a k = rd_ h a k := fun a k q1 q2 q3 => by rw [rd_wo q1, rd_wo q3, rd_wo q2]
  refine ⟨t0, ShC_of rfl sc, r2, ⟨ShT_of rfl sh, ⟨by rw [ro _ _ (by omega) (by omega) (by omega), u0 7 (by omega)]; exact f0, by rw [ro _ _ (by omega) (by omega) (by omega), u0 3 (by omega)]; exact f1, by rw [ro _ _ (by omega) (by omega) (by omega), u0 5 (by omega)]; exact f2, by rw [ro _ _ (by omega) (by omega) (by omega), u0 4 (by omega)]; exact f3⟩, ?_, ?_, ?_, ?_, ?_⟩, ⟨ShW_of rfl sw, ⟨?_, by rw [rd_ws, u00], ?_, ?_, ?_, ?_⟩, ?_, ?_, ?_, ?_, ?_, ?_, ?_⟩, by rw [ro _ _ (by omega) (by omega) (by omega)]; exact e4, by rw [ro _ _ (by omega) (by omega) (by omega)]; exact e5⟩
  · intro j j0 j1
    rw [u0 0 (by omega)] at j1
    rw [uf 1 (by decide) (by decide) (by decide), uf 2 (by decide) (by decide) (by decide), ro _ _ (by omega) (by omega) (by omega), ro _ _ (by omega) (by omega) (by omega)]
    exact o1 j j0 j1
  · intro j j0 j1
    rw [u00] at j1
    rw [u3, ro _ _ (by omega) (by omega) (by omega)]
    by_cases q : j = T 0 1
    · rw [if_pos q, q]; exact e
    · rw [if_neg q]; exact o2 j j0 (by omega)
  · intro j j0 j1
    rw [u0 3 (by omega)] at j1
    rw [uf 8 (by decide) (by decide) (by decide), uf 9 (by decide) (by decide) (by decide), uf 10 (by decide) (by decide) (by decide), uf 11 (by decide) (by decide) (by decide), ro _ _ (by omega) (by omega) (by omega), ro _ _ (by omega) (by omega) (by omega), ro _ _ (by omega) (by omega) (by omega), ro _ _ (by omega) (by omega) (by omega)]
    exact o3 j j0 j1
  · intro j j0 j1
    rw [u0 4 (by omega)] at j1
    rw [uf 12 (by decide) (by decide) (by decide), ro _ _ (by omega) (by omega) (by omega)]
    exact o4 j j0 j1
  · intro k k0 k1
    rw [uf 13 (by decide) (by decide) (by decide), uf 14 (by decide) (by decide) (by decide), ro _ _ (by omega) (by omega) (by omega), ro _ _ (by omega) (by omega) (by omega)]
    exact o5 k k0 k1
  · rw [rd_wk (by omega), rd_wo (by omega), rd_wo (by omega), u0 0 (by omega)]; exact w0
  · rw [rd_wk (by omega), rd_wo (by omega), rd_wo (by omega), u0 2 (by omega)]; exact w2
  · rw [rd_wk (by omega), rd_wo (by omega), rd_wo (by omega)]; exact w3
  · rw [rd_wk (by omega), rd_wo (by omega), rd_wo (by omega)]; exact w4
  · rw [rd_wk (by omega), rd_wo (by omega), rd_wo (by omega), w5, u0 6 (by omega)]; rfl
  · intro p p0 p1'
    rw [u00] at p1'
    show _ = piT_ T v 4 p
    rw [u4, rd_wo (by omega), show t + 1 + 1 = t + 2 by omega, rd_wo (by omega), rd_wa]
    by_cases q : p = T 0 1
    · rw [if_pos q, if_pos q]
    · rw [if_neg q, if_neg q]
      have := p1 p p0 (by omega)
      rw [show t + 1 + 1 = t + 2 by omega] at this
      exact this
  · intro p p0 p1'
    rw [u00] at p1'
    show _ = (0 : Int)
    rw [rd_wo (by omega), show t + 1 + 2 = t + 3 by omega, rd_wa]
    by_cases q : p = T 0 1
    · rw [if_pos q]
    · rw [if_neg q, rd_wo (by omega)]
      have := p2 p p0 (by omega)
      rw [show t + 1 + 2 = t + 3 by omega] at this
      exact this
  · intro m m0 m1
    rw [u0 0 (by omega)] at m1
    rw [ro _ _ (by omega) (by omega) (by omega)]
    exact p3 m m0 m1
  · intro p k p0 p1' k0 k1
    rw [u00] at p1'
    have k1' : k < piT_ T v 4 p := k1
    rw [u4] at k1'
    have q : p ≠ T 0 1 := fun z => by rw [if_pos z] at k1'; omega
    rw [if_neg q] at k1'
    show _ = piT_ T v 6 (5 * p + k)
    rw [uf 6 (by decide) (by decide) (by decide), ro _ _ (by omega) (by omega) (by omega)]
    exact p4 p k p0 (by omega) k0 k1'
  · intro j j0 j1
    rw [u0 2 (by omega)] at j1
    rw [uf 5 (by decide) (by decide) (by decide), ro _ _ (by omega) (by omega) (by omega)]
    exact p5 j j0 j1
  · intro j j0 j1
    rw [u0 2 (by omega)] at j1
    show _ = piT_ T v 7 j
    rw [uf 7 (by decide) (by decide) (by decide), ro _ _ (by omega) (by omega) (by omega)]
    exact p6 j j0 j1
  · intro j j0 j1
    rw [u0 2 (by omega)] at j1
    rw [ro _ _ (by omega) (by omega) (by omega)]
    exact p7 j j0 j1
theorem Re_pile {h : am_H} {p q : Int} (r : RT h t T c s) (k : TKh h B n p) (e5 : rd_ h 3 5 = q) (wv : WVr T) : ∃ h', Re_readPile h 2 = some (h', (piL_ B n q p T c s).1) ∧ lnE_ h' t B n (piL_ B n q p T c s) ∧ frl_ t h h' := by
  have t0 := r.1
  unfold WVr at wv
  have sh := r.2.2.2.1.1
  have w1 := r.2.2.2.2.1.2.1.2.1
  rw [Re_readPile_e]
  simp only [r.2.2.1, sh.2.1, w1, sh.2.2.2.2.1]
  repeat rw [ck_t (by omega)]
  unfold piL_
  by_cases q4 : T 0 1 < 4
  · rw [if_pos q4, if_pos q4]
    repeat rw [ck_t (by omega)]
    obtain ⟨h1, h2, a1, a2, a3, a4, a5, a6⟩ := Re_nname (a := t + 12) (N := T 0 1) (P := T 3) r k (by omega) (by omega) (by omega) q4 sh.2.2.2.2.2.2.2.2.2.2.2.2.2.2.1 (fun j x y => r.2.2.2.1.2.2.2.1 j x y)
    rw [a1, bd_v]
    by_cases qn : nn_f B n p (T 3) (T 0 1) = 0
    · have eh := a6 qn
      subst eh
      have r2 := RT_nw (k := T 0 1) (a := t + 12) (v := tk_v B n p) a2 (Or.inr ⟨rfl, rfl⟩)
      have k2 : TKh (wr_ h1 (t + 12) (T 0 1) (tk_v B n p)) B n (tk_n B n p) := TK_fr a3.1 (fr_wr (A := fun b => b = t + 12) rfl) (by omega) (by omega) (by omega)
      rw [if_pos (c := nn_f B n p (T 3) (T 0 1) = 0) qn, if_neg (c := nn_f B n p (T 3) (T 0 1) ≠ 0) (fun z => z qn)]
      have r4 := RT_pile r2 q4 (by omega) (rd_ws _ _ _ _)
      have sh3 := r2.2.2.2.1.1
      have sw3 := r2.2.2.2.2.1.1
      have w13 := r2.2.2.2.2.1.2.1.2.1
      have ad : Wo_addPile (wr_ h1 (t + 12) (T 0 1) (tk_v B n p)) (t + 1) = some (wr_ (wr_ (wr_ (wr_ h1 (t + 12) (T 0 1) (tk_v B n p)) (t + 2) (T 0 1) 0) (t + 3) (T 0 1) 0) (t + 1) 1 (T 0 1 + 1), 0) := by
        generalize wr_ h1 (t + 12) (T 0 1) (tk_v B n p) = h2 at r2 sh3 sw3 w13
        have z1 : rd_ (wr_ h2 (t + 2) (T 0 1) 0) (t + 1) 1 = T 0 1 := by rw [rd_wo (by omega)]; exact w13
        have z2 : rd_ (wr_ (wr_ h2 (t + 2) (T 0 1) 0) (t + 3) (T 0 1) 0) (t + 1) 1 = T 0 1 := by rw [rd_wo (by omega)]; exact z1
        have rf6 : rf_ h2 (t + 1) 6 = t + 2 := by rw [sw3.2.1]; omega
        have rf7 : rf_ h2 (t + 1) 7 = t + 3 := by rw [sw3.2.2.1]; omega
        have l2 : ln_ h2 (t + 2) = 4 := by have := sw3.2.2.2.2.2.2.2.2.2.1; rw [show t + 1 + 1 = t + 2 by omega] at this; exact this
        have l3 : ln_ h2 (t + 3) = 4 := by have := sw3.2.2.2.2.2.2.2.2.2.2.1; rw [show t + 1 + 2 = t + 3 by omega] at this; exact this
        rw [Wo_addPile_e]
        simp only [w13, rf6, rf7, l2, l3, ln_wr, rf_wr, z1, z2]
        rw [ck_t (by omega), if_neg (by omega)]
        repeat rw [ck_t (by omega)]
        rw [w32_i (by omega) (by omega)]
      have k4 : TKh (wr_ (wr_ (wr_ (wr_ h1 (t + 12) (T 0 1) (tk_v B n p)) (t + 2) (T 0 1) 0) (t + 3) (T 0 1) 0) (t + 1) 1 (T 0 1 + 1)) B n (tk_n B n p) := TK_fr k2 (fr_tr (fr_wr (A := fun b => t + 1 ≤ b ∧ b ≤ t + 11) ⟨by omega, by omega⟩) (fr_tr (fr_wr ⟨by omega, by omega⟩) (fr_wr ⟨by omega, by omega⟩))) (by omega) (by omega) (by omega)
      obtain ⟨h5, d1, d2, d3⟩ := Re_fi r4 k4
      refine ⟨h5, ?_, d2, frl_t (frl_3 a4) (frl_t (frl_t (frl_w (by omega) (by omega)) (frl_t (frl_w (by omega) (by omega)) (frl_t (frl_w (by omega) (by omega)) (frl_w (by omega) (by omega))))) d3)⟩
      simp only [r2.2.2.1, sh3.2.1]
      repeat rw [ck_t (by omega)]
      rw [ad, bd_v]
      repeat rw [ck_t (by omega)]
      rw [d1, bd_v]
    · have eh := a5 qn
      subst eh
      rw [if_neg (c := nn_f B n p (T 3) (T 0 1) = 0) qn, if_pos (c := nn_f B n p (T 3) (T 0 1) ≠ 0) qn]
      exact ⟨h2, rfl, ⟨fun _ => a3.2.2.1, fun z => absurd z qn⟩, frl_3 a4⟩
  · rw [if_neg q4, if_neg q4]
    exact ⟨h, rfl, ⟨fun _ => e5, fun z => by have z' : (2 : Int) = 0 := z; omega⟩, fr_refl _ _⟩
theorem RT_chip {h : am_H} {v : Int} (r : RT h t T c s) : RT (wr_ (wr_ h t 2 v) t 4 1) t (up_ T 0 5 v) 1 s := by
  obtain ⟨t0, sc, r2, ⟨sh, ⟨f0, f1, f2, f3⟩, o1, o2, o3, o4, o5⟩, w, e4, e5⟩ := r
  have u0 : ∀ k, k ≠ 5 → up_ T 0 5 v 0 k = T 0 k := fun k q => by rw [up_s, if_neg q]
  have uf : ∀ f : Nat, f ≠ 0 → up_ T 0 5 v f = T f := fun f a => up_o _ _ _ a
  have F : fr_ h (wr_ (wr_ h t 2 v) t 4 1) (fun b => b = t) := fr_tr (fr_wr rfl) (fr_wr rfl)
  have ro : ∀ a k, a ≠ t → rd_ (wr_ (wr_ h t 2 v) t 4 1) a k = rd_ h a k := fun a k q => F.2 a q k
  have w' := WO_fr w F (fun x y z => by omega)
  refine ⟨t0, ShC_of rfl sc, r2, ⟨ShT_of rfl sh, ⟨by rw [rd_wk (by omega), rd_wk (by omega), u0 7 (by omega)]; exact f0, by rw [rd_wk (by omega), rd_wk (by omega), u0 3 (by omega)]; exact f1, by rw [rd_wk (by omega), rd_ws, up_s, if_pos rfl], by rw [rd_wk (by omega), rd_wk (by omega), u0 4 (by omega)]; exact f3⟩, ?_, ?_, ?_, ?_, ?_⟩, ?_, rd_ws _ _ _ _, by rw [rd_wk (by omega), rd_wk (by omega)]; exact e5⟩
  · intro j j0 j1
    rw [u0 0 (by omega)] at j1
    rw [uf 1 (by decide), uf 2 (by decide), ro _ _ (by omega), ro _ _ (by omega)]
    exact o1 j j0 j1
  · intro j j0 j1
    rw [u0 1 (by omega)] at j1
    rw [uf 3 (by decide), ro _ _ (by omega)]
    exact o2 j j0 j1
  · intro j j0 j1
    rw [u0 3 (by omega)] at j1
    rw [uf 8 (by decide), uf 9 (by decide), uf 10 (by decide), uf 11 (by decide), ro _ _ (by omega), ro _ _ (by omega), ro _ _ (by omega), ro _ _ (by omega)]
    exact o3 j j0 j1
  · intro j j0 j1
    rw [u0 4 (by omega)] at j1
    rw [uf 12 (by decide), ro _ _ (by omega)]
    exact o4 j j0 j1
  · intro k k0 k1
    rw [uf 13 (by decide), uf 14 (by decide), ro _ _ (by omega), ro _ _ (by omega)]
    exact o5 k k0 k1
  · obtain ⟨sw, ⟨x0, x1, x2, x3, x4, x5⟩, p1, p2, p3, p4, p5, p6, p7⟩ := w'
    refine ⟨sw, ⟨by rw [u0 0 (by omega)]; exact x0, by rw [u0 1 (by omega)]; exact x1, by rw [u0 2 (by omega)]; exact x2, x3, x4, by rw [u0 6 (by omega)]; exact x5⟩, ?_, ?_, ?_, ?_, ?_, ?_, ?_⟩
    · intro p p0 q
      rw [u0 1 (by omega)] at q
      show _ = up_ T 0 5 v 4 p
      rw [uf 4 (by decide)]
      exact p1 p p0 q
    · intro p p0 q
      rw [u0 1 (by omega)] at q
      exact p2 p p0 q
    · intro p p0 q
      rw [u0 0 (by omega)] at q
      exact p3 p p0 q
    · intro p k p0 q k0 k1
      rw [u0 1 (by omega)] at q
      have k1' : k < up_ T 0 5 v 4 p := k1
      rw [uf 4 (by decide)] at k1'
      show _ = up_ T 0 5 v 6 (5 * p + k)
      rw [uf 6 (by decide)]
      exact p4 p k p0 q k0 k1'
    · intro p p0 q
      rw [u0 2 (by omega)] at q
      rw [uf 5 (by decide)]
      exact p5 p p0 q
    · intro p p0 q
      rw [u0 2 (by omega)] at q
      show _ = up_ T 0 5 v 7 p
      rw [uf 7 (by decide)]
      exact p6 p p0 q
    · intro p p0 q
      rw [u0 2 (by omega)] at q
      exact p7 p p0 q
theorem RT_seed {h : am_H} {v : Int} (r : RT h t T c s) : RT (wr_ (wr_ h (t + 1) 5 v) t 5 1) t (up_ T 0 6 v) c 1 := by
  obtain ⟨t0, sc, r2, ⟨sh, ⟨f0, f1, f2, f3⟩, o1, o2, o3, o4, o5⟩, ⟨sw, ⟨x0, x1, x2, x3, x4, x5⟩, p1, p2, p3, p4, p5, p6, p7⟩, e4, e5⟩ := r
  have u0 : ∀ k, k ≠ 6 → up_ T 0 6 v 0 k = T 0 k := fun k q => by rw [up_s, if_neg q]
  have u6 : up_ T 0 6 v 0 6 = v := by rw [up_s, if_pos rfl]
  have uf : ∀ f : Nat, f ≠ 0 → up_ T 0 6 v f = T f := fun f a => up_o _ _ _ a
  have ro : ∀ a k, a ≠ t → a ≠ t + 1 → rd_ (wr_ (wr_ h (t + 1) 5 v) t 5 1) a k = rd_ h a k := fun a k q1 q2 => by rw [rd_wo q1, rd_wo q2]
  have rt : ∀ k, k ≠ 5 → rd_ (wr_ (wr_ h (t + 1) 5 v) t 5 1) t k = rd_ h t k := fun k q => by rw [rd_wk q, rd_wo (by omega)]
  have rw1 : ∀ k, k ≠ 5 → rd_ (wr_ (wr_ h (t + 1) 5 v) t 5 1) (t + 1) k = rd_ h (t + 1) k := fun k q => by rw [rd_wo (by omega), rd_wk q]
  refine ⟨t0, ShC_of rfl sc, r2, ⟨ShT_of rfl sh, ⟨by rw [rt 0 (by omega), u0 7 (by omega)]; exact f0, by rw [rt 1 (by omega), u0 3 (by omega)]; exact f1, by rw [rt 2 (by omega), u0 5 (by omega)]; exact f2, by rw [rt 3 (by omega), u0 4 (by omega)]; exact f3⟩, ?_, ?_, ?_, ?_, ?_⟩, ⟨ShW_of rfl sw, ⟨by rw [rw1 0 (by omega), u0 0 (by omega)]; exact x0, by rw [rw1 1 (by omega), u0 1 (by omega)]; exact x1, by rw [rw1 2 (by omega), u0 2 (by omega)]; exact x2, by rw [rw1 3 (by omega)]; exact x3, by rw [rw1 4 (by omega)]; exact x4, ?_⟩, ?_, ?_, ?_, ?_, ?_, ?_, ?_⟩, by rw [rt 4 (by omega)]; exact e4, rd_ws _ _ _ _⟩
  · intro j j0 j1
    rw [u0 0 (by omega)] at j1
    rw [uf 1 (by decide), uf 2 (by decide), ro _ _ (by omega) (by omega), ro _ _ (by omega) (by omega)]
    exact o1 j j0 j1
  · intro j j0 j1
    rw [u0 1 (by omega)] at j1
    rw [uf 3 (by decide), ro _ _ (by omega) (by omega)]
    exact o2 j j0 j1
  · intro j j0 j1
    rw [u0 3 (by omega)] at j1
    rw [uf 8 (by decide), uf 9 (by decide), uf 10 (by decide), uf 11 (by decide), ro _ _ (by omega) (by omega), ro _ _ (by omega) (by omega), ro _ _ (by omega) (by omega), ro _ _ (by omega) (by omega)]
    exact o3 j j0 j1
  · intro j j0 j1
    rw [u0 4 (by omega)] at j1
    rw [uf 12 (by decide), ro _ _ (by omega) (by omega)]
    exact o4 j j0 j1
  · intro k k0 k1
    rw [uf 13 (by decide), uf 14 (by decide), ro _ _ (by omega) (by omega), ro _ _ (by omega) (by omega)]
    exact o5 k k0 k1
  · rw [rd_wo (by omega), rd_ws, u6]
    rfl
  · intro p p0 q
    rw [u0 1 (by omega)] at q
    show _ = up_ T 0 6 v 4 p
    rw [uf 4 (by decide), ro _ _ (by omega) (by omega)]
    exact p1 p p0 q
  · intro p p0 q
    rw [u0 1 (by omega)] at q
    rw [ro _ _ (by omega) (by omega)]
    exact p2 p p0 q
  · intro p p0 q
    rw [u0 0 (by omega)] at q
    rw [ro _ _ (by omega) (by omega)]
    exact p3 p p0 q
  · intro p k p0 q k0 k1
    rw [u0 1 (by omega)] at q
    have k1' : k < up_ T 0 6 v 4 p := k1
    rw [uf 4 (by decide)] at k1'
    show _ = up_ T 0 6 v 6 (5 * p + k)
    rw [uf 6 (by decide), ro _ _ (by omega) (by omega)]
    exact p4 p k p0 q k0 k1'
  · intro p p0 q
    rw [u0 2 (by omega)] at q
    rw [uf 5 (by decide), ro _ _ (by omega) (by omega)]
    exact p5 p p0 q
  · intro p p0 q
    rw [u0 2 (by omega)] at q
    show _ = up_ T 0 6 v 7 p
    rw [uf 7 (by decide), ro _ _ (by omega) (by omega)]
    exact p6 p p0 q
  · intro p p0 q
    rw [u0 2 (by omega)] at q
    rw [ro _ _ (by omega) (by omega)]
    exact p7 p p0 q
theorem Re_chip {h : am_H} {p q : Int} (r : RT h t T c s) (k : TKh h B n p) (e5 : rd_ h 3 5 = q) : ∃ h', Re_readChip h 2 = some (h', (chL_ B n q p T c s).1) ∧ lnE_ h' t B n (chL_ B n q p T c s) ∧ frl_ t h h' := by
  have t0 := r.1
  have ev := r.2.2.2.2.2.1
  rw [Re_readChip_e]
  simp only [r.2.2.1, ev]
  repeat rw [ck_t (by omega)]
  unfold chL_
  by_cases q0 : c = 0
  · rw [if_pos (c := c = 0) q0, if_pos (c := c = 0) q0]
    repeat rw [ck_t (by omega)]
    obtain ⟨h1, a1, a2, a3, a4⟩ := Re_num (lo := 0) (hi := 100) r k
    rw [a1, bd_v]
    by_cases qm : nm_f B n p 0 100 = 0
    · rw [if_pos (c := nm_f B n p 0 100 = 0) qm, if_neg (c := nm_f B n p 0 100 ≠ 0) (fun z => z qm)]
      have r4 := RT_chip (v := tk_v B n p) a2
      have sh3 := a2.2.2.2.1.1
      have k4 : TKh (wr_ (wr_ h1 t 2 (tk_v B n p)) t 4 1) B n (tk_n B n p) := TK_fr a3.1 (fr_tr (fr_wr (A := fun b => t ≤ b ∧ b ≤ t + 11) ⟨by omega, by omega⟩) (fr_wr ⟨by omega, by omega⟩)) (by omega) (by omega) (by omega)
      obtain ⟨h5, d1, d2, d3⟩ := Re_fi r4 k4
      refine ⟨h5, ?_, d2, frl_t (frl_3 a4) (frl_t (frl_t (frl_w (by omega) (by omega)) (frl_w (by omega) (by omega))) d3)⟩
      simp only [a2.2.2.1, sh3.2.1, cr2_0 a2.2.1, a3.2.2.2, rf_wr]
      repeat rw [ck_t (by omega)]
      rw [d1, bd_v]
    · rw [if_neg (c := nm_f B n p 0 100 = 0) qm, if_pos (c := nm_f B n p 0 100 ≠ 0) qm]
      exact ⟨h1, rfl, ⟨fun _ => a3.2.2.1, fun z => absurd z qm⟩, frl_3 a4⟩
  · rw [if_neg (c := c = 0) q0, if_neg (c := c = 0) q0]
    exact ⟨h, rfl, ⟨fun _ => e5, fun z => by have z' : (3 : Int) = 0 := z; omega⟩, fr_refl _ _⟩
theorem Re_seed {h : am_H} {p q : Int} (r : RT h t T c s) (k : TKh h B n p) (e5 : rd_ h 3 5 = q) : ∃ h', Re_readSeed h 2 = some (h', (seL_ B n q p T c s).1) ∧ lnE_ h' t B n (seL_ B n q p T c s) ∧ frl_ t h h' := by
  have t0 := r.1
  have ev := r.2.2.2.2.2.2
  rw [Re_readSeed_e]
  simp only [r.2.2.1, ev]
  repeat rw [ck_t (by omega)]
  unfold seL_
  by_cases q0 : s = 0
  · rw [if_pos (c := s = 0) q0, if_pos (c := s = 0) q0]
    repeat rw [ck_t (by omega)]
    obtain ⟨h1, a1, a2, a3, a4⟩ := Re_num (lo := 0) (hi := 99999) r k
    rw [a1, bd_v]
    by_cases qm : nm_f B n p 0 99999 = 0
    · rw [if_pos (c := nm_f B n p 0 99999 = 0) qm, if_neg (c := nm_f B n p 0 99999 ≠ 0) (fun z => z qm)]
      have r4 := RT_seed (v := tk_v B n p) a2
      have sh3 := a2.2.2.2.1.1
      have k4 : TKh (wr_ (wr_ h1 (t + 1) 5 (tk_v B n p)) t 5 1) B n (tk_n B n p) := TK_fr a3.1 (fr_tr (fr_wr (A := fun b => t ≤ b ∧ b ≤ t + 11) ⟨by omega, by omega⟩) (fr_wr ⟨by omega, by omega⟩)) (by omega) (by omega) (by omega)
      obtain ⟨h5, d1, d2, d3⟩ := Re_fi r4 k4
      refine ⟨h5, ?_, d2, frl_t (frl_3 a4) (frl_t (frl_t (frl_w (by omega) (by omega)) (frl_w (by omega) (by omega))) d3)⟩
      simp only [a2.2.2.1, sh3.2.1, cr2_0 a2.2.1, a3.2.2.2, rf_wr]
      repeat rw [ck_t (by omega)]
      rw [d1, bd_v]
    · rw [if_neg (c := nm_f B n p 0 99999 = 0) qm, if_pos (c := nm_f B n p 0 99999 ≠ 0) qm]
      exact ⟨h1, rfl, ⟨fun _ => a3.2.2.1, fun z => absurd z qm⟩, frl_3 a4⟩
  · rw [if_neg (c := s = 0) q0, if_neg (c := s = 0) q0]
    exact ⟨h, rfl, ⟨fun _ => e5, fun z => by have z' : (3 : Int) = 0 := z; omega⟩, fr_refl _ _⟩
end
