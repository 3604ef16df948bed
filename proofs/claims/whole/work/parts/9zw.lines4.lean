/-! lines of a text in the class: turns -/
def tuT_ (T : Tx) (m p d x : Int) : Tx := up_ (up_ (up_ (up_ (up_ T 8 (T 0 3) m) 9 (T 0 3) p) 10 (T 0 3) d) 11 (T 0 3) x) 0 3 (T 0 3 + 1)
def tuL_ (B : Int → Int) (n q p : Int) (T : Tx) (c s : Int) : lRs_ := if T 0 3 < 14 then (if tn_f B n p (T 1) (T 0 0) ≠ 0 then (tn_f B n p (T 1) (T 0 0), tp_ B n p, 0, T, c, s) else if tn_f B n (tk_n B n p) (T 3) (T 0 1) ≠ 0 then (tn_f B n (tk_n B n p) (T 3) (T 0 1), tp_ B n (tk_n B n p), 0, T, c, s) else if nm_f B n (tk_n B n (tk_n B n p)) 1 5 ≠ 0 then (nm_f B n (tk_n B n (tk_n B n p)) 1 5, tp_ B n (tk_n B n (tk_n B n p)), 0, T, c, s) else if nm_f B n (tk_n B n (tk_n B n (tk_n B n p))) 0 99 ≠ 0 then (nm_f B n (tk_n B n (tk_n B n (tk_n B n p))) 0 99, tp_ B n (tk_n B n (tk_n B n (tk_n B n p))), 0, T, c, s) else smE_ B n (tk_n B n (tk_n B n (tk_n B n (tk_n B n p)))) (tuT_ T (fx_ (T 1) (tk_v B n p) (T 0 0).toNat 0) (fx_ (T 3) (tk_v B n (tk_n B n p)) (T 0 1).toNat 0) (tk_v B n (tk_n B n (tk_n B n p))) (tk_v B n (tk_n B n (tk_n B n (tk_n B n p))))) c s) else (2, q, 0, T, c, s)
section
variable {B : Int → Int} {n t c s : Int} {T : Tx}
theorem RT_tw {h : am_H} {a v : Int} (r : RT h t T c s) (q : t + 13 ≤ a ∧ a ≤ t + 16) : RT (wr_ h a (T 0 3) v) t T c s := by
  obtain ⟨t0, sc, r2, ⟨sh, ⟨f0, f1, f2, f3⟩, o1, o2, o3, o4, o5⟩, w, e4, e5⟩ := r
  have f : fr_ h (wr_ h a (T 0 3) v) (fun b => b = a) := fr_wr rfl
  refine ⟨t0, ShC_of rfl sc, r2, ⟨ShT_of rfl sh, ⟨by rw [rd_wo (by omega)]; exact f0, by rw [rd_wo (by omega)]; exact f1, by rw [rd_wo (by omega)]; exact f2, by rw [rd_wo (by omega)]; exact f3⟩, ?_, ?_, ?_, ?_, ?_⟩, WO_fr w f (fun x y z => by omega), by rw [rd_wo (by omega)]; exact e4, by rw [rd_wo (by omega)]; exact e5⟩
  · intro j j0 j1
    rw [rd_wo (by omega), rd_wo (by omega)]; exact o1 j j0 j1
  · intro j j0 j1
    rw [rd_wo (by omega)]; exact o2 j j0 j1
  · intro j j0 j1
    rw [rd_wr, if_neg (by omega), rd_wr, if_neg (by omega), rd_wr, if_neg (by omega), rd_wr, if_neg (by omega)]; exact o3 j j0 j1
  · intro j j0 j1
    rw [rd_wo (by omega)]; exact o4 j j0 j1
  · intro j j0 j1
    rw [rd_wo (by omega), rd_wo (by omega)]; exact o5 j j0 j1
theorem RT_turn {h : am_H} {m p d x : Int} (r : RT h t T c s) (e13 : rd_ h (t + 13) (T 0 3) = m) (e14 : rd_ h (t + 14) (T 0 3) = p) (e15 : rd_ h (t + 15) (T 0 3) = d) (e16 : rd_ h (t + 16) (T 0 3) = x) : RT (wr_ h t 1 (T 0 3 + 1)) t (tuT_ T m p d x) c s := by
  obtain ⟨t0, sc, r2, ⟨sh, ⟨f0, f1, f2, f3⟩, o1, o2, o3, o4, o5⟩, w, e4, e5⟩ := r
  have u0 : ∀ k, k ≠ 3 → tuT_ T m p d x 0 k = T 0 k := fun k q => by unfold tuT_; rw [up_s, if_neg q, up_o _ _ _ (by decide), up_o _ _ _ (by decide), up_o _ _ _ (by decide), up_o _ _ _ (by decide)]
  have u03 : tuT_ T m p d x 0 3 = T 0 3 + 1 := by unfold tuT_; rw [up_s, if_pos rfl]
  have u8 : ∀ j, tuT_ T m p d x 8 j = if j = T 0 3 then m else T 8 j := fun j => by unfold tuT_; rw [up_o _ _ _ (by decide), up_o _ _ _ (by decide), up_o _ _ _ (by decide), up_o _ _ _ (by decide), up_s]
  have u9 : ∀ j, tuT_ T m p d x 9 j = if j = T 0 3 then p else T 9 j := fun j => by unfold tuT_; rw [up_o _ _ _ (by decide), up_o _ _ _ (by decide), up_o _ _ _ (by decide), up_s, up_o _ _ _ (by decide)]
  have u10 : ∀ j, tuT_ T m p d x 10 j = if j = T 0 3 then d else T 10 j := fun j => by unfold tuT_; rw [up_o _ _ _ (by decide), up_o _ _ _ (by decide), up_s, up_o _ _ _ (by decide), up_o _ _ _ (by decide)]
  have u11 : ∀ j, tuT_ T m p d x 11 j = if j = T 0 3 then x else T 11 j := fun j => by unfold tuT_; rw [up_o _ _ _ (by decide), up_s, up_o _ _ _ (by decide), up_o _ _ _ (by decide), up_o _ _ _ (by decide)]
  have uf : ∀ f : Nat, f ≠ 0 → f ≠ 8 → f ≠ 9 → f ≠ 10 → f ≠ 11 → tuT_ T m p d x f = T f := fun f a b b2 b3 b4 => by unfold tuT_; rw [up_o _ _ _ a, up_o _ _ _ b4, up_o _ _ _ b3, up_o _ _ _ b2, up_o _ _ _ b]
  have F : fr_ h (wr_ h t 1 (T 0 3 + 1)) (fun b => b = t) := fr_wr rfl
  have ro : ∀ a k, a ≠ t → rd_ (wr_ h t 1 (T 0 3 + 1)) a k = rd_ h a k := fun a k q => rd_wo q
  have w' := WO_fr w F (fun x y z => by omega)
  refine ⟨t0, ShC_of rfl sc, r2, ⟨ShT_of rfl sh, ⟨by rw [rd_wk (by omega), u0 7 (by omega)]; exact f0, by rw [rd_ws, u03], by rw [rd_wk (by omega), u0 5 (by omega)]; exact f2, by rw [rd_wk (by omega), u0 4 (by omega)]; exact f3⟩, ?_, ?_, ?_, ?_, ?_⟩, ?_, by rw [rd_wk (by omega)]; exact e4, by rw [rd_wk (by omega)]; exact e5⟩
  · intro j j0 j1
    rw [u0 0 (by omega)] at j1
    rw [uf 1 (by decide) (by decide) (by decide) (by decide) (by decide), uf 2 (by decide) (by decide) (by decide) (by decide) (by decide), ro _ _ (by omega), ro _ _ (by omega)]
    exact o1 j j0 j1
  · intro j j0 j1
    rw [u0 1 (by omega)] at j1
    rw [uf 3 (by decide) (by decide) (by decide) (by decide) (by decide), ro _ _ (by omega)]
    exact o2 j j0 j1
  · intro j j0 j1
    rw [u03] at j1
    rw [u8, u9, u10, u11, ro _ _ (by omega), ro _ _ (by omega), ro _ _ (by omega), ro _ _ (by omega)]
    by_cases q : j = T 0 3
    · rw [if_pos q, if_pos q, if_pos q, if_pos q, q]; exact ⟨e13, e14, e15, e16⟩
    · rw [if_neg q, if_neg q, if_neg q, if_neg q]; exact o3 j j0 (by omega)
  · intro j j0 j1
    rw [u0 4 (by omega)] at j1
    rw [uf 12 (by decide) (by decide) (by decide) (by decide) (by decide), ro _ _ (by omega)]
    exact o4 j j0 j1
  · intro k k0 k1
    rw [uf 13 (by decide) (by decide) (by decide) (by decide) (by decide), uf 14 (by decide) (by decide) (by decide) (by decide) (by decide), ro _ _ (by omega), ro _ _ (by omega)]
    exact o5 k k0 k1
  · obtain ⟨sw, ⟨x0, x1, x2, x3, x4, x5⟩, p1, p2, p3, p4, p5, p6, p7⟩ := w'
    refine ⟨sw, ⟨by rw [u0 0 (by omega)]; exact x0, by rw [u0 1 (by omega)]; exact x1, by rw [u0 2 (by omega)]; exact x2, x3, x4, by rw [u0 6 (by omega)]; exact x5⟩, ?_, ?_, ?_, ?_, ?_, ?_, ?_⟩
    · intro y y0 q
      rw [u0 1 (by omega)] at q
      show _ = tuT_ T m p d x 4 y
      rw [uf 4 (by decide) (by decide) (by decide) (by decide) (by decide)]
      exact p1 y y0 q
    · intro y y0 q
      rw [u0 1 (by omega)] at q
      exact p2 y y0 q
    · intro y y0 q
      rw [u0 0 (by omega)] at q
      exact p3 y y0 q
    · intro y k y0 q k0 k1
      rw [u0 1 (by omega)] at q
      have k1' : k < tuT_ T m p d x 4 y := k1
      rw [uf 4 (by decide) (by decide) (by decide) (by decide) (by decide)] at k1'
      show _ = tuT_ T m p d x 6 (5 * y + k)
      rw [uf 6 (by decide) (by decide) (by decide) (by decide) (by decide)]
      exact p4 y k y0 q k0 k1'
    · intro y y0 q
      rw [u0 2 (by omega)] at q
      rw [uf 5 (by decide) (by decide) (by decide) (by decide) (by decide)]
      exact p5 y y0 q
    · intro y y0 q
      rw [u0 2 (by omega)] at q
      show _ = tuT_ T m p d x 7 y
      rw [uf 7 (by decide) (by decide) (by decide) (by decide) (by decide)]
      exact p6 y y0 q
    · intro y y0 q
      rw [u0 2 (by omega)] at q
      exact p7 y y0 q
theorem RT_sh {g : am_H} (x : RT g t T c s) : (rf_ g 2 2 = t ∧ rf_ g 2 0 = 3) ∧ (rf_ g t 6 = t + 1 ∧ rf_ g t 7 = t + 10 ∧ rf_ g t 9 = t + 12 ∧ rf_ g t 10 = t + 13 ∧ rf_ g t 11 = t + 14 ∧ rf_ g t 12 = t + 15 ∧ rf_ g t 13 = t + 16) ∧ (ln_ g (t + 10) = 4 ∧ ln_ g (t + 12) = 4 ∧ ln_ g (t + 13) = 14 ∧ ln_ g (t + 14) = 14 ∧ ln_ g (t + 15) = 14 ∧ ln_ g (t + 16) = 14) ∧ rd_ g t 1 = T 0 3 ∧ rd_ g (t + 1) 0 = T 0 0 ∧ rd_ g (t + 1) 1 = T 0 1 := by
  obtain ⟨t0, sc, r2, ⟨⟨s0, s6, s7, s8, s9, s10, s11, s12, s13, s14, s15, s16, l10, l11, l12, l13, l14, l15, l16, l17, l18, l19⟩, ⟨f0, f1, f2, f3⟩, o⟩, ⟨sw, ⟨w0, w1, w2⟩, w⟩, e4, e5⟩ := x
  exact ⟨⟨r2, cr2_0 sc⟩, ⟨s6, s7, s9, s10, s11, s12, s13⟩, ⟨l10, l12, l13, l14, l15, l16⟩, f1, w0, w1⟩
set_option maxHeartbeats 8000000 in
theorem Re_turn {h : am_H} {p q : Int} (r : RT h t T c s) (k : TKh h B n p) (e5 : rd_ h 3 5 = q) (wv : WVr T) : ∃ h', Re_readTurn h 2 = some (h', (tuL_ B n q p T c s).1) ∧ lnE_ h' t B n (tuL_ B n q p T c s) ∧ frl_ t h h' := by
  have tb : 7 ≤ t ∧ t ≤ 27 := by have := r.1; omega
  unfold WVr at wv
  have Sx := fun (_ : Unit) => RT_sh r
  have rM : ∀ {g : am_H}, RT g t T c s → ∀ j, 0 ≤ j → j < T 0 0 → rd_ g (t + 10) j = T 1 j := fun y j a b => (y.2.2.2.1.2.2.1 j a b).1
  have rP : ∀ {g : am_H}, RT g t T c s → ∀ j, 0 ≤ j → j < T 0 1 → rd_ g (t + 12) j = T 3 j := fun y j a b => y.2.2.2.1.2.2.2.1 j a b
  have tk : ∀ {g : am_H} {p' a v : Int}, TKh g B n p' → t + 10 ≤ a → TKh (wr_ g a (T 0 3) v) B n p' := fun {g p' a v} y z => TK_fr y (fr_wr (A := fun b => b = a) rfl) (by omega) (by omega) (by omega)
  rw [Re_readTurn_e]
  simp only [(Sx ()).1.1, (Sx ()).2.2.2.1]
  repeat rw [ck_t (by omega)]
  unfold tuL_
  by_cases q14 : T 0 3 < 14
  · rw [if_pos (c := T 0 3 < 14) q14, if_pos (c := T 0 3 < 14) q14]
    simp only [(Sx ()).2.1.1, (Sx ()).2.1.2.1, (Sx ()).2.2.2.2.1]
    repeat rw [ck_t (by omega)]
    obtain ⟨h1, a1, a2, a3, a4⟩ := Re_told (a := t + 10) (N := T 0 0) (P := T 1) r k (by omega) (by omega) (by omega) (by omega) (Sx ()).2.2.1.1 (rM r)
    rw [a1, bd_v]
    by_cases q1 : tn_f B n p (T 1) (T 0 0) = 0
    · rw [if_pos (c := tn_f B n p (T 1) (T 0 0) = 0) q1, if_neg (c := tn_f B n p (T 1) (T 0 0) ≠ 0) (fun z => z q1)]
      have Sy := fun (_ : Unit) => RT_sh a2
      have ix1 := Pp_indexOf_lp (h := h1) (a := t + 10) (N := T 0 0) (c := tk_v B n p) (P := T 1) (by omega) (by rw [(Sy ()).2.2.1.1]; omega) (by omega) (rM a2) (T 0 0).toNat 0 (by omega) (by omega)
      simp only [(Sy ()).1.1, (Sy ()).1.2, (Sy ()).2.1.1, (Sy ()).2.1.2.1, (Sy ()).2.1.2.2.1, (Sy ()).2.1.2.2.2.1, (Sy ()).2.2.2.2.1, a3.2.2.2]
      repeat rw [ck_t (by omega)]
      rw [Pp_indexOf_e, ix1, bd_v]
      have r2 := RT_tw (a := t + 13) (v := fx_ (T 1) (tk_v B n p) (T 0 0).toNat 0) a2 (by omega)
      have k2 : TKh (wr_ h1 (t + 13) (T 0 3) (fx_ (T 1) (tk_v B n p) (T 0 0).toNat 0)) B n (tk_n B n p) := tk a3.1 (by omega)
      have F2 : frl_ t h (wr_ h1 (t + 13) (T 0 3) (fx_ (T 1) (tk_v B n p) (T 0 0).toNat 0)) := frl_t (frl_3 a4) (frl_w (by omega) (by omega))
      have e13 : rd_ (wr_ h1 (t + 13) (T 0 3) (fx_ (T 1) (tk_v B n p) (T 0 0).toNat 0)) (t + 13) (T 0 3) = fx_ (T 1) (tk_v B n p) (T 0 0).toNat 0 := rd_ws _ _ _ _
      generalize fx_ (T 1) (tk_v B n p) (T 0 0).toNat 0 = m at *
      simp only [(Sy ()).1.1, (Sy ()).2.1.1, (Sy ()).2.1.2.2.1, (Sy ()).2.2.1.2.2.1]
      repeat rw [ck_t (by omega)]
      generalize wr_ h1 (t + 13) (T 0 3) m = g2 at r2 k2 F2 e13 ⊢
      have Sz := fun (_ : Unit) => RT_sh r2
      rw [(Sz ()).2.2.2.2.2]
      obtain ⟨h3, b1, b2, b3, b4⟩ := Re_told (a := t + 12) (N := T 0 1) (P := T 3) r2 k2 (by omega) (by omega) (by omega) (by omega) (Sz ()).2.2.1.2.1 (rP r2)
      rw [b1, bd_v]
      have F3 : frl_ t h h3 := frl_t F2 (frl_3 b4)
      have e13b : rd_ h3 (t + 13) (T 0 3) = m := by rw [b4.2 (t + 13) (by omega)]; exact e13
      by_cases q2 : tn_f B n (tk_n B n p) (T 3) (T 0 1) = 0
      · rw [if_pos (c := tn_f B n (tk_n B n p) (T 3) (T 0 1) = 0) q2, if_neg (c := tn_f B n (tk_n B n p) (T 3) (T 0 1) ≠ 0) (fun z => z q2)]
        have Sw := fun (_ : Unit) => RT_sh b2
        have ix2 := Pp_indexOf_lp (h := h3) (a := t + 12) (N := T 0 1) (c := tk_v B n (tk_n B n p)) (P := T 3) (by omega) (by rw [(Sw ()).2.2.1.2.1]; omega) (by omega) (rP b2) (T 0 1).toNat 0 (by omega) (by omega)
        simp only [(Sw ()).1.1, (Sw ()).1.2, (Sw ()).2.1.1, (Sw ()).2.1.2.2.1, (Sw ()).2.1.2.2.2.2.1, (Sw ()).2.2.2.2.2, b3.2.2.2]
        repeat rw [ck_t (by omega)]
        rw [Pp_indexOf_e, ix2, bd_v]
        have r4 := RT_tw (a := t + 14) (v := fx_ (T 3) (tk_v B n (tk_n B n p)) (T 0 1).toNat 0) b2 (by omega)
        have k4 : TKh (wr_ h3 (t + 14) (T 0 3) (fx_ (T 3) (tk_v B n (tk_n B n p)) (T 0 1).toNat 0)) B n (tk_n B n (tk_n B n p)) := tk b3.1 (by omega)
        have F4 : frl_ t h (wr_ h3 (t + 14) (T 0 3) (fx_ (T 3) (tk_v B n (tk_n B n p)) (T 0 1).toNat 0)) := frl_t F3 (frl_w (by omega) (by omega))
        have e14 : rd_ (wr_ h3 (t + 14) (T 0 3) (fx_ (T 3) (tk_v B n (tk_n B n p)) (T 0 1).toNat 0)) (t + 14) (T 0 3) = fx_ (T 3) (tk_v B n (tk_n B n p)) (T 0 1).toNat 0 := rd_ws _ _ _ _
        have e13c : rd_ (wr_ h3 (t + 14) (T 0 3) (fx_ (T 3) (tk_v B n (tk_n B n p)) (T 0 1).toNat 0)) (t + 13) (T 0 3) = m := by rw [rd_wo (by omega)]; exact e13b
        generalize fx_ (T 3) (tk_v B n (tk_n B n p)) (T 0 1).toNat 0 = pp at *
        simp only [(Sw ()).2.2.1.2.2.2.1]
        repeat rw [ck_t (by omega)]
        generalize wr_ h3 (t + 14) (T 0 3) pp = g4 at r4 k4 F4 e14 e13c ⊢
        obtain ⟨h5, d1, d2, d3, d4⟩ := Re_num (lo := 1) (hi := 5) r4 k4
        rw [d1, bd_v]
        have F5 : frl_ t h h5 := frl_t F4 (frl_3 d4)
        by_cases q3 : nm_f B n (tk_n B n (tk_n B n p)) 1 5 = 0
        · rw [if_pos (c := nm_f B n (tk_n B n (tk_n B n p)) 1 5 = 0) q3, if_neg (c := nm_f B n (tk_n B n (tk_n B n p)) 1 5 ≠ 0) (fun z => z q3)]
          have Sv := fun (_ : Unit) => RT_sh d2
          simp only [(Sv ()).1.1, (Sv ()).1.2, (Sv ()).2.1.2.2.2.2.2.1, d3.2.2.2, (Sv ()).2.2.1.2.2.2.2.1]
          repeat rw [ck_t (by omega)]
          have r6 := RT_tw (a := t + 15) (v := tk_v B n (tk_n B n (tk_n B n p))) d2 (by omega)
          have k6 : TKh (wr_ h5 (t + 15) (T 0 3) (tk_v B n (tk_n B n (tk_n B n p)))) B n (tk_n B n (tk_n B n (tk_n B n p))) := tk d3.1 (by omega)
          have F6 : frl_ t h (wr_ h5 (t + 15) (T 0 3) (tk_v B n (tk_n B n (tk_n B n p)))) := frl_t F5 (frl_w (by omega) (by omega))
          have e15 : rd_ (wr_ h5 (t + 15) (T 0 3) (tk_v B n (tk_n B n (tk_n B n p)))) (t + 15) (T 0 3) = tk_v B n (tk_n B n (tk_n B n p)) := rd_ws _ _ _ _
          have e14b : rd_ (wr_ h5 (t + 15) (T 0 3) (tk_v B n (tk_n B n (tk_n B n p)))) (t + 14) (T 0 3) = pp := by rw [rd_wo (by omega), d4.2 (t + 14) (by omega)]; exact e14
          have e13d : rd_ (wr_ h5 (t + 15) (T 0 3) (tk_v B n (tk_n B n (tk_n B n p)))) (t + 13) (T 0 3) = m := by rw [rd_wo (by omega), d4.2 (t + 13) (by omega)]; exact e13c
          generalize wr_ h5 (t + 15) (T 0 3) (tk_v B n (tk_n B n (tk_n B n p))) = g6 at r6 k6 F6 e15 e14b e13d ⊢
          obtain ⟨h7, i1, i2, i3, i4⟩ := Re_num (lo := 0) (hi := 99) r6 k6
          rw [i1, bd_v]
          have F7 : frl_ t h h7 := frl_t F6 (frl_3 i4)
          by_cases q5 : nm_f B n (tk_n B n (tk_n B n (tk_n B n p))) 0 99 = 0
          · rw [if_pos (c := nm_f B n (tk_n B n (tk_n B n (tk_n B n p))) 0 99 = 0) q5, if_neg (c := nm_f B n (tk_n B n (tk_n B n (tk_n B n p))) 0 99 ≠ 0) (fun z => z q5)]
            have Su := fun (_ : Unit) => RT_sh i2
            have r8 := RT_tw (a := t + 16) (v := tk_v B n (tk_n B n (tk_n B n (tk_n B n p)))) i2 (by omega)
            have k8 : TKh (wr_ h7 (t + 16) (T 0 3) (tk_v B n (tk_n B n (tk_n B n (tk_n B n p))))) B n (tk_n B n (tk_n B n (tk_n B n (tk_n B n p)))) := tk i3.1 (by omega)
            have r9 := RT_turn (m := m) (p := pp) (d := tk_v B n (tk_n B n (tk_n B n p))) (x := tk_v B n (tk_n B n (tk_n B n (tk_n B n p)))) r8 (by rw [rd_wo (by omega), i4.2 (t + 13) (by omega)]; exact e13d) (by rw [rd_wo (by omega), i4.2 (t + 14) (by omega)]; exact e14b) (by rw [rd_wo (by omega), i4.2 (t + 15) (by omega)]; exact e15) (rd_ws _ _ _ _)
            have k9 : TKh (wr_ (wr_ h7 (t + 16) (T 0 3) (tk_v B n (tk_n B n (tk_n B n (tk_n B n p))))) t 1 (T 0 3 + 1)) B n (tk_n B n (tk_n B n (tk_n B n (tk_n B n p)))) := TK_fr k8 (fr_wr (A := fun b => b = t) rfl) (by omega) (by omega) (by omega)
            obtain ⟨h9, j1, j2, j3⟩ := Re_fi r9 k9
            refine ⟨h9, ?_, j2, frl_t F7 (frl_t (frl_t (frl_w (by omega) (by omega)) (frl_w (by omega) (by omega))) j3)⟩
            have z1' : rd_ (wr_ h7 (t + 16) (T 0 3) (tk_v B n (tk_n B n (tk_n B n (tk_n B n p))))) t 1 = T 0 3 := by rw [rd_wo (by omega)]; exact (Su ()).2.2.2.1
            simp only [(Su ()).1.1, (Su ()).1.2, (Su ()).2.1.2.2.2.2.2.2, i3.2.2.2, (Su ()).2.2.1.2.2.2.2.2, z1', rf_wr]
            repeat rw [ck_t (by omega)]
            rw [w32_i (x := T 0 3 + 1) (by omega) (by omega), j1, bd_v]
          · rw [if_neg (c := nm_f B n (tk_n B n (tk_n B n (tk_n B n p))) 0 99 = 0) q5, if_pos (c := nm_f B n (tk_n B n (tk_n B n (tk_n B n p))) 0 99 ≠ 0) q5]
            exact ⟨h7, rfl, ⟨fun _ => i3.2.2.1, fun z => absurd z q5⟩, F7⟩
        · rw [if_neg (c := nm_f B n (tk_n B n (tk_n B n p)) 1 5 = 0) q3, if_pos (c := nm_f B n (tk_n B n (tk_n B n p)) 1 5 ≠ 0) q3]
          exact ⟨h5, rfl, ⟨fun _ => d3.2.2.1, fun z => absurd z q3⟩, F5⟩
      · rw [if_neg (c := tn_f B n (tk_n B n p) (T 3) (T 0 1) = 0) q2, if_pos (c := tn_f B n (tk_n B n p) (T 3) (T 0 1) ≠ 0) q2]
        exact ⟨h3, rfl, ⟨fun _ => b3.2.2.1, fun z => absurd z q2⟩, F3⟩
    · rw [if_neg (c := tn_f B n p (T 1) (T 0 0) = 0) q1, if_pos (c := tn_f B n p (T 1) (T 0 0) ≠ 0) q1]
      exact ⟨h1, rfl, ⟨fun _ => a3.2.2.1, fun z => absurd z q1⟩, frl_3 a4⟩
  · rw [if_neg (c := T 0 3 < 14) q14, if_neg (c := T 0 3 < 14) q14]
    exact ⟨h, rfl, ⟨fun _ => e5, fun z => by have z' : (2 : Int) = 0 := z; omega⟩, fr_refl _ _⟩
end
