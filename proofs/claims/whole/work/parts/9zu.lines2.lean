/-! lines of a text in the class: maids, piles, chipping, the number -/
abbrev lRs_ : Type := Int × Int × Int × Tx × Int × Int
def smE_ (B : Int → Int) (n p : Int) (T : Tx) (c s : Int) : lRs_ := if sc_f B n p ≠ 0 then (sc_f B n p, tp_ B n p, 0, T, c, s) else (0, 0, tk_n B n p, T, c, s)
def lnE_ (h : am_H) (t : Int) (B : Int → Int) (n : Int) (R : lRs_) : Prop := (R.1 ≠ 0 → rd_ h 3 5 = R.2.1) ∧ (R.1 = 0 → RT h t R.2.2.2.1 R.2.2.2.2.1 R.2.2.2.2.2 ∧ TKh h B n R.2.2.1)
def frl_ (t : Int) (h h' : am_H) : Prop := fr_ h h' (fun a => a = 3 ∨ (t ≤ a ∧ a ≤ t + 19))
theorem frl_3 {t : Int} {h h' : am_H} (f : fr_ h h' (fun a => a = 3)) : frl_ t h h' := fr_mo f (fun _ q => Or.inl q)
theorem frl_t {t : Int} {h h' h2 : am_H} (x : frl_ t h h') (y : frl_ t h' h2) : frl_ t h h2 := fr_tr x y
theorem frl_w {t : Int} {h : am_H} {a k v : Int} (x : t ≤ a) (y : a ≤ t + 19) : frl_ t h (wr_ h a k v) := fr_wr (Or.inr ⟨x, y⟩)
def mdT_ (T : Tx) (v x : Int) : Tx := up_ (up_ (up_ T 1 (T 0 0) v) 2 (T 0 0) x) 0 0 (T 0 0 + 1)
def piT_ (T : Tx) (v : Int) : Tx := up_ (up_ (up_ T 3 (T 0 1) v) 4 (T 0 1) 0) 0 1 (T 0 1 + 1)
def mdL_ (B : Int → Int) (n q p : Int) (T : Tx) (c s : Int) : lRs_ := if T 0 0 < 4 then (if nn_f B n p (T 1) (T 0 0) ≠ 0 then (nn_f B n p (T 1) (T 0 0), tp_ B n p, 0, T, c, s) else if nm_f B n (tk_n B n p) 0 9 ≠ 0 then (nm_f B n (tk_n B n p) 0 9, tp_ B n (tk_n B n p), 0, T, c, s) else smE_ B n (tk_n B n (tk_n B n p)) (mdT_ T (tk_v B n p) (tk_v B n (tk_n B n p))) c s) else (2, q, 0, T, c, s)
def piL_ (B : Int → Int) (n q p : Int) (T : Tx) (c s : Int) : lRs_ := if T 0 1 < 4 then (if nn_f B n p (T 3) (T 0 1) ≠ 0 then (nn_f B n p (T 3) (T 0 1), tp_ B n p, 0, T, c, s) else smE_ B n (tk_n B n p) (piT_ T (tk_v B n p)) c s) else (2, q, 0, T, c, s)
section
variable {B : Int → Int} {n t c s : Int} {T : Tx}
theorem Re_fi {h : am_H} {p : Int} (r : RT h t T c s) (k : TKh h B n p) : ∃ h', Re_readSemicolon h 2 = some (h', (smE_ B n p T c s).1) ∧ lnE_ h' t B n (smE_ B n p T c s) ∧ frl_ t h h' := by
  obtain ⟨h', a1, a2, a3, a4⟩ := Re_semi r k
  refine ⟨h', ?_, ?_, frl_3 a4⟩
  · rw [a1]
    unfold smE_
    by_cases q : sc_f B n p = 0
    · rw [if_neg (fun z => z q), q]
    · rw [if_pos q]
  · unfold smE_ lnE_
    by_cases q : sc_f B n p = 0
    · rw [if_neg (fun z => z q)]
      exact ⟨fun z => absurd rfl z, fun _ => ⟨a2, a3.1⟩⟩
    · rw [if_pos q]
      exact ⟨fun _ => a3.2.2.1, fun z => absurd z q⟩
theorem RT_maid {h : am_H} {v x : Int} (r : RT h t T c s) (M4 : T 0 0 < 4) (M0 : 0 ≤ T 0 0) (e : rd_ h (t + 10) (T 0 0) = v) : RT (wr_ (wr_ (wr_ h (t + 11) (T 0 0) x) (t + 4) (T 0 0) 0) (t + 1) 0 (T 0 0 + 1)) t (mdT_ T v x) c s := by
  obtain ⟨t0, sc, r2, ⟨sh, ⟨f0, f1, f2, f3⟩, o1, o2, o3, o4, o5⟩, ⟨sw, ⟨w0, w1, w2, w3, w4, w5⟩, p1, p2, p3, p4, p5, p6, p7⟩, e4, e5⟩ := r
  have u0 : ∀ k, k ≠ 0 → mdT_ T v x 0 k = T 0 k := fun k q => by unfold mdT_; rw [up_s, if_neg q, up_o _ _ _ (by decide), up_o _ _ _ (by decide)]
  have u00 : mdT_ T v x 0 0 = T 0 0 + 1 := by unfold mdT_; rw [up_s, if_pos rfl]
  have u1 : ∀ j, mdT_ T v x 1 j = if j = T 0 0 then v else T 1 j := fun j => by unfold mdT_; rw [up_o _ _ _ (by decide), up_o _ _ _ (by decide), up_s]
  have u2 : ∀ j, mdT_ T v x 2 j = if j = T 0 0 then x else T 2 j := fun j => by unfold mdT_; rw [up_o _ _ _ (by decide), up_s, up_o _ _ _ (by decide)]
  have uf : ∀ f : Nat, f ≠ 0 → f ≠ 1 → f ≠ 2 → mdT_ T v x f = T f := fun f a b d => by unfold mdT_; rw [up_o _ _ _ a, up_o _ _ _ d, up_o _ _ _ b]
  have ro : ∀ a k, a ≠ t + 1 → a ≠ t + 4 → a ≠ t + 11 → rd_ (wr_ (wr_ (wr_ h (t + 11) (T 0 0) x) (t + 4) (T 0 0) 0) (t + 1) 0 (T 0 0 + 1)) a k = rd_ h a k := fun a k q1 q2 q3 => by rw [rd_wo q1, rd_wo q2, rd_wo q3]
  refine ⟨t0, ShC_of rfl sc, r2, ⟨ShT_of rfl sh, ⟨by rw [ro _ _ (by omega) (by omega) (by omega), u0 7 (by omega)]; exact f0, by rw [ro _ _ (by omega) (by omega) (by omega), u0 3 (by omega)]; exact f1, by rw [ro _ _ (by omega) (by omega) (by omega), u0 5 (by omega)]; exact f2, by rw [ro _ _ (by omega) (by omega) (by omega), u0 4 (by omega)]; exact f3⟩, ?_, ?_, ?_, ?_, ?_⟩, ⟨ShW_of rfl sw, ⟨by rw [rd_ws, u00], ?_, ?_, ?_, ?_, ?_⟩, ?_, ?_, ?_, ?_, ?_, ?_, ?_⟩, by rw [ro _ _ (by omega) (by omega) (by omega)]; exact e4, by rw [ro _ _ (by omega) (by omega) (by omega)]; exact e5⟩
  · intro j j0 j1
    rw [u00] at j1
    rw [u1, u2, ro (t + 10) _ (by omega) (by omega) (by omega), rd_wo (by omega), rd_wo (by omega), rd_wa]
    by_cases q : j = T 0 0
    · rw [if_pos q, if_pos q, if_pos q, q]; exact ⟨e, rfl⟩
    · rw [if_neg q, if_neg q, if_neg q]; exact o1 j j0 (by omega)
  · intro j j0 j1
    rw [u0 1 (by omega)] at j1
    rw [uf 3 (by decide) (by decide) (by decide), ro _ _ (by omega) (by omega) (by omega)]
    exact o2 j j0 j1
  · intro j j0 j1
    rw [u0 3 (by omega)] at j1
    rw [uf 8 (by decide) (by decide) (by decide), uf 9 (by decide) (by decide) (by decide), uf 10 (by decide) (by decide) (by decide), uf 11 (by decide) (by decide) (by decide), ro _ _ (by omega) (by omega) (by omega), ro _ _ (by omega) (by omega) (by omega), ro _ _ (by omega) (by omega) (by omega), ro _ _ (by omega) (by omega) (by omega)]
    exact o3 j j0 j1
  · intro j j0 j1
    rw [u0 4 (by omega)] at j1
    rw [uf 12 (by decide) (by decide) (by decide), ro _ _ (by omega) (by omega) (by omega)]
    exact o4 j j0 j1
  · intro k k0 k1
    rw [uf 13 (by decide) (by decide) (by decide), uf 14 (by decide) (by decide) (by decide), ro _ _ (by omega) (by omega) (by omega), ro _ _ (by omega) (by omega) (by omega)]
    exact o5 k k0 k1
  · rw [rd_wk (by omega), rd_wo (by omega), rd_wo (by omega), u0 1 (by omega)]; exact w1
  · rw [rd_wk (by omega), rd_wo (by omega), rd_wo (by omega), u0 2 (by omega)]; exact w2
  · rw [rd_wk (by omega), rd_wo (by omega), rd_wo (by omega)]; exact w3
  · rw [rd_wk (by omega), rd_wo (by omega), rd_wo (by omega)]; exact w4
  · rw [rd_wk (by omega), rd_wo (by omega), rd_wo (by omega), w5, u0 6 (by omega)]; rfl
  · intro p p0 p1'
    rw [u0 1 (by omega)] at p1'
    show _ = mdT_ T v x 4 p
    rw [uf 4 (by decide) (by decide) (by decide), ro _ _ (by omega) (by omega) (by omega)]
    exact p1 p p0 p1'
  · intro p p0 p1'
    rw [u0 1 (by omega)] at p1'
    rw [ro _ _ (by omega) (by omega) (by omega)]
    exact p2 p p0 p1'
  · intro m m0 m1
    rw [u00] at m1
    show _ = (0 : Int)
    rw [rd_wo (by omega), show t + 1 + 3 = t + 4 by omega, rd_wa]
    by_cases q : m = T 0 0
    · rw [if_pos q]
    · rw [if_neg q, rd_wo (by omega)]
      have := p3 m m0 (by omega)
      rw [show t + 1 + 3 = t + 4 by omega] at this
      exact this
  · intro p k p0 p1' k0 k1
    rw [u0 1 (by omega)] at p1'
    have k1' : k < mdT_ T v x 4 p := k1
    rw [uf 4 (by decide) (by decide) (by decide)] at k1'
    show _ = mdT_ T v x 6 (5 * p + k)
    rw [uf 6 (by decide) (by decide) (by decide), ro _ _ (by omega) (by omega) (by omega)]
    exact p4 p k p0 p1' k0 k1'
  · intro j j0 j1
    rw [u0 2 (by omega)] at j1
    rw [uf 5 (by decide) (by decide) (by decide), ro _ _ (by omega) (by omega) (by omega)]
    exact p5 j j0 j1
  · intro j j0 j1
    rw [u0 2 (by omega)] at j1
    show _ = mdT_ T v x 7 j
    rw [uf 7 (by decide) (by decide) (by decide), ro _ _ (by omega) (by omega) (by omega)]
    exact p6 j j0 j1
  · intro j j0 j1
    rw [u0 2 (by omega)] at j1
    rw [ro _ _ (by omega) (by omega) (by omega)]
    exact p7 j j0 j1
theorem RT_nw {h : am_H} {a k v : Int} (r : RT h t T c s) (q : a = t + 10 ∧ k = T 0 0 ∨ a = t + 12 ∧ k = T 0 1) : RT (wr_ h a k v) t T c s := by
  obtain ⟨t0, sc, r2, ⟨sh, ⟨f0, f1, f2, f3⟩, o1, o2, o3, o4, o5⟩, w, e4, e5⟩ := r
  have f : fr_ h (wr_ h a k v) (fun b => b = a) := fr_wr rfl
  refine ⟨t0, ShC_of rfl sc, r2, ⟨ShT_of rfl sh, ⟨by rw [rd_wo (by omega)]; exact f0, by rw [rd_wo (by omega)]; exact f1, by rw [rd_wo (by omega)]; exact f2, by rw [rd_wo (by omega)]; exact f3⟩, ?_, ?_, ?_, ?_, ?_⟩, WO_fr w f (fun x y z => by omega), by rw [rd_wo (by omega)]; exact e4, by rw [rd_wo (by omega)]; exact e5⟩
  · intro j j0 j1
    rw [rd_wr, if_neg (by omega), rd_wr, if_neg (by omega)]; exact o1 j j0 j1
  · intro j j0 j1
    rw [rd_wr, if_neg (by omega)]; exact o2 j j0 j1
  · intro j j0 j1
    rw [rd_wo (by omega), rd_wo (by omega), rd_wo (by omega), rd_wo (by omega)]; exact o3 j j0 j1
  · intro j j0 j1
    rw [rd_wo (by omega)]; exact o4 j j0 j1
  · intro j j0 j1
    rw [rd_wo (by omega), rd_wo (by omega)]; exact o5 j j0 j1
theorem Re_maid {h : am_H} {p q : Int} (r : RT h t T c s) (k : TKh h B n p) (e5 : rd_ h 3 5 = q) (wv : WVr T) : ∃ h', Re_readMaid h 2 = some (h', (mdL_ B n q p T c s).1) ∧ lnE_ h' t B n (mdL_ B n q p T c s) ∧ frl_ t h h' := by
  have t0 := r.1
  unfold WVr at wv
  have sh := r.2.2.2.1.1
  have w0 := r.2.2.2.2.1.2.1.1
  rw [Re_readMaid_e]
  simp only [r.2.2.1, sh.2.1, w0, sh.2.2.1]
  repeat rw [ck_t (by omega)]
  unfold mdL_
  by_cases q4 : T 0 0 < 4
  · rw [if_pos q4, if_pos q4]
    repeat rw [ck_t (by omega)]
    obtain ⟨h1, h2, a1, a2, a3, a4, a5, a6⟩ := Re_nname (a := t + 10) (N := T 0 0) (P := T 1) r k (by omega) (by omega) (by omega) q4 sh.2.2.2.2.2.2.2.2.2.2.2.2.1 (fun j x y => (r.2.2.2.1.2.2.1 j x y).1)
    rw [a1, bd_v]
    by_cases qn : nn_f B n p (T 1) (T 0 0) = 0
    · have eh := a6 qn
      subst eh
      have r2 := RT_nw (k := T 0 0) (a := t + 10) (v := tk_v B n p) a2 (Or.inl ⟨rfl, rfl⟩)
      have k2 : TKh (wr_ h1 (t + 10) (T 0 0) (tk_v B n p)) B n (tk_n B n p) := TK_fr a3.1 (fr_wr (A := fun b => b = t + 10) rfl) (by omega) (by omega) (by omega)
      obtain ⟨h3, b1, b2, b3, b4⟩ := Re_num (lo := 0) (hi := 9) r2 k2
      rw [if_neg (c := nn_f B n p (T 1) (T 0 0) ≠ 0) (fun z => z qn), if_neg (c := nn_f B n p (T 1) (T 0 0) ≠ 0) (fun z => z qn)]
      repeat rw [ck_t (by omega)]
      rw [b1, bd_v, Re_readMaid_4_e]
      have F3 : frl_ t h h3 := frl_t (frl_3 a4) (frl_t (frl_w (by omega) (by omega)) (frl_3 b4))
      by_cases qm : nm_f B n (tk_n B n p) 0 9 = 0
      · rw [if_pos (c := nm_f B n (tk_n B n p) 0 9 = 0) qm, if_neg (c := nm_f B n (tk_n B n p) 0 9 ≠ 0) (fun z => z qm)]
        have e10 : rd_ h3 (t + 10) (T 0 0) = tk_v B n p := by rw [b4.2 (t + 10) (by omega), rd_ws]
        have r4 := RT_maid (x := tk_v B n (tk_n B n p)) b2 q4 (by omega) e10
        have sh3 := b2.2.2.2.1.1
        have sw3 := b2.2.2.2.2.1.1
        have w03 := b2.2.2.2.2.1.2.1.1
        have k4 : TKh (wr_ (wr_ (wr_ h3 (t + 11) (T 0 0) (tk_v B n (tk_n B n p))) (t + 4) (T 0 0) 0) (t + 1) 0 (T 0 0 + 1)) B n (tk_n B n (tk_n B n p)) := TK_fr b3.1 (fr_tr (fr_wr (A := fun b => t + 1 ≤ b ∧ b ≤ t + 11) ⟨by omega, by omega⟩) (fr_tr (fr_wr ⟨by omega, by omega⟩) (fr_wr ⟨by omega, by omega⟩))) (by omega) (by omega) (by omega)
        obtain ⟨h5, d1, d2, d3⟩ := Re_fi r4 k4
        refine ⟨h5, ?_, d2, frl_t F3 (frl_t (frl_t (frl_w (by omega) (by omega)) (frl_t (frl_w (by omega) (by omega)) (frl_w (by omega) (by omega)))) d3)⟩
        have ad : Wo_addMaid (wr_ h3 (t + 11) (T 0 0) (tk_v B n (tk_n B n p))) (t + 1) = some (wr_ (wr_ (wr_ h3 (t + 11) (T 0 0) (tk_v B n (tk_n B n p))) (t + 4) (T 0 0) 0) (t + 1) 0 (T 0 0 + 1), 0) := by
          have z0 : rd_ (wr_ h3 (t + 11) (T 0 0) (tk_v B n (tk_n B n p))) (t + 1) 0 = T 0 0 := by rw [rd_wo (by omega)]; exact w03
          have z1 : rd_ (wr_ (wr_ h3 (t + 11) (T 0 0) (tk_v B n (tk_n B n p))) (t + 4) (T 0 0) 0) (t + 1) 0 = T 0 0 := by rw [rd_wo (by omega)]; exact z0
          have rf8 : rf_ (wr_ h3 (t + 11) (T 0 0) (tk_v B n (tk_n B n p))) (t + 1) 8 = t + 4 := by rw [rf_wr, sw3.2.2.2.1]; omega
          have l4 : ln_ h3 (t + 4) = 4 := by have := sw3.2.2.2.2.2.2.2.2.2.2.2.1; rw [show t + 1 + 3 = t + 4 by omega] at this; exact this
          rw [Wo_addMaid_e]
          simp only [z0, rf8, ln_wr, l4, z1]
          rw [ck_t (by omega), if_neg (by omega)]
          repeat rw [ck_t (by omega)]
          rw [w32_i (by omega) (by omega)]
        simp only [b2.2.2.1, sh3.2.1, sh3.2.2.2.1, cr2_0 b2.2.1, b3.2.2.2, sh3.2.2.2.2.2.2.2.2.2.2.2.2.2.1]
        repeat rw [ck_t (by omega)]
        rw [ad, bd_v]
        repeat rw [ck_t (by omega)]
        rw [d1, bd_v]
      · rw [if_neg (c := nm_f B n (tk_n B n p) 0 9 = 0) qm, if_pos (c := nm_f B n (tk_n B n p) 0 9 ≠ 0) qm]
        exact ⟨h3, rfl, ⟨fun _ => b3.2.2.1, fun z => absurd z qm⟩, F3⟩
    · have eh := a5 qn
      subst eh
      rw [if_pos (c := nn_f B n p (T 1) (T 0 0) ≠ 0) qn, if_pos (c := nn_f B n p (T 1) (T 0 0) ≠ 0) qn, Re_readMaid_4_e, if_neg (c := nn_f B n p (T 1) (T 0 0) = 0) qn]
      exact ⟨h2, rfl, ⟨fun _ => a3.2.2.1, fun z => absurd z qn⟩, frl_3 a4⟩
  · rw [if_neg q4, if_neg q4]
    exact ⟨h, rfl, ⟨fun _ => e5, fun z => by have z' : (2 : Int) = 0 := z; omega⟩, fr_refl _ _⟩
end
