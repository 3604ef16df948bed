/-! the line of a law in the class -/
def kTx_ (T : Tx) (K : Int → Int) : Tx := fun f => if f = 12 then K else T f
def lwT_ (T : Tx) (l : Int) (K : Int → Int) (o : Int) : Tx := up_ (up_ (up_ (kTx_ T K) 0 4 o) 13 l (T 0 4)) 14 l o
section
variable {T : Tx} {l o : Int} {K : Int → Int}
theorem kTx_f {f : Nat} (q : f ≠ 12) : kTx_ T K f = T f := if_neg q
theorem lw_0 {k : Int} (q : k ≠ 4) : lwT_ T l K o 0 k = T 0 k := by unfold lwT_; rw [up_o _ _ _ (by decide), up_o _ _ _ (by decide), up_s, if_neg q, kTx_f (by decide)]
theorem lw_04 : lwT_ T l K o 0 4 = o := by unfold lwT_; rw [up_o _ _ _ (by decide), up_o _ _ _ (by decide), up_s, if_pos rfl]
theorem lw_12 : lwT_ T l K o 12 = K := by unfold lwT_; rw [up_o _ _ _ (by decide), up_o _ _ _ (by decide), up_o _ _ _ (by decide)]; exact if_pos rfl
theorem lw_13 (j : Int) : lwT_ T l K o 13 j = if j = l then T 0 4 else T 13 j := by unfold lwT_; rw [up_o _ _ _ (by decide), up_s, up_o _ _ _ (by decide), kTx_f (by decide)]
theorem lw_14 (j : Int) : lwT_ T l K o 14 j = if j = l then o else T 14 j := by unfold lwT_; rw [up_s, up_o _ _ _ (by decide), up_o _ _ _ (by decide), kTx_f (by decide)]
theorem lw_f {f : Nat} (a : f ≠ 0) (b : f ≠ 12) (d : f ≠ 13) (e : f ≠ 14) : lwT_ T l K o f = T f := by unfold lwT_; rw [up_o _ _ _ e, up_o _ _ _ d, up_o _ _ _ a, kTx_f b]
theorem WVt_law (w : WVt T) : WVt (lwT_ T l K o) := by
  unfold WVt at *
  rw [lw_0 (k := 0) (by omega), lw_0 (k := 1) (by omega), lw_0 (k := 2) (by omega), lw_0 (k := 6) (by omega), lw_f (f := 4) (by decide) (by decide) (by decide) (by decide), lw_f (f := 5) (by decide) (by decide) (by decide) (by decide), lw_f (f := 6) (by decide) (by decide) (by decide) (by decide), lw_f (f := 7) (by decide) (by decide) (by decide) (by decide)]
  exact w
theorem RT_law {h : am_H} {t c s : Int} (r : RT h t T c s) (kn : ∀ j, T 0 4 ≤ j → j < o → rd_ h (t + 17) j = K j) (kb : ∀ j, j < T 0 4 → K j = T 12 j) : RT (wr_ (wr_ (wr_ h t 3 o) (t + 18) l (T 0 4)) (t + 19) l o) t (lwT_ T l K o) c s := by
  obtain ⟨t0, sc, r2, ⟨sh, ⟨f0, f1, f2, f3⟩, o1, o2, o3, o4, o5⟩, w, e4, e5⟩ := r
  have F : fr_ h (wr_ (wr_ (wr_ h t 3 o) (t + 18) l (T 0 4)) (t + 19) l o) (fun b => b = t ∨ b = t + 18 ∨ b = t + 19) := fr_tr (fr_tr (fr_wr (Or.inl rfl)) (fr_wr (Or.inr (Or.inl rfl)))) (fr_wr (Or.inr (Or.inr rfl)))
  have ro : ∀ a k, a ≠ t → a ≠ t + 18 → a ≠ t + 19 → rd_ (wr_ (wr_ (wr_ h t 3 o) (t + 18) l (T 0 4)) (t + 19) l o) a k = rd_ h a k := fun a k q1 q2 q3 => by rw [rd_wo q3, rd_wo q2, rd_wo q1]
  have rt : ∀ k, k ≠ 3 → rd_ (wr_ (wr_ (wr_ h t 3 o) (t + 18) l (T 0 4)) (t + 19) l o) t k = rd_ h t k := fun k q => by rw [rd_wo (by omega), rd_wo (by omega), rd_wk q]
  have w' := WO_fr w F (fun x y z => by omega)
  refine ⟨t0, ShC_of rfl sc, r2, ⟨ShT_of rfl sh, ⟨by rw [rt 0 (by omega), lw_0 (by omega)]; exact f0, by rw [rt 1 (by omega), lw_0 (by omega)]; exact f1, by rw [rt 2 (by omega), lw_0 (by omega)]; exact f2, by rw [rd_wo (by omega), rd_wo (by omega), rd_ws, lw_04]⟩, ?_, ?_, ?_, ?_, ?_⟩, ?_, by rw [rt 4 (by omega)]; exact e4, by rw [rt 5 (by omega)]; exact e5⟩
  · intro j j0 j1
    rw [lw_0 (by omega)] at j1
    rw [lw_f (f := 1) (by decide) (by decide) (by decide) (by decide), lw_f (f := 2) (by decide) (by decide) (by decide) (by decide), ro _ _ (by omega) (by omega) (by omega), ro _ _ (by omega) (by omega) (by omega)]
    exact o1 j j0 j1
  · intro j j0 j1
    rw [lw_0 (by omega)] at j1
    rw [lw_f (f := 3) (by decide) (by decide) (by decide) (by decide), ro _ _ (by omega) (by omega) (by omega)]
    exact o2 j j0 j1
  · intro j j0 j1
    rw [lw_0 (by omega)] at j1
    rw [lw_f (f := 8) (by decide) (by decide) (by decide) (by decide), lw_f (f := 9) (by decide) (by decide) (by decide) (by decide), lw_f (f := 10) (by decide) (by decide) (by decide) (by decide), lw_f (f := 11) (by decide) (by decide) (by decide) (by decide), ro _ _ (by omega) (by omega) (by omega), ro _ _ (by omega) (by omega) (by omega), ro _ _ (by omega) (by omega) (by omega), ro _ _ (by omega) (by omega) (by omega)]
    exact o3 j j0 j1
  · intro j j0 j1
    rw [lw_04] at j1
    rw [lw_12, ro _ _ (by omega) (by omega) (by omega)]
    by_cases q : T 0 4 ≤ j
    · exact kn j q j1
    · rw [kb j (by omega)]; exact o4 j j0 (by omega)
  · intro j j0 j1
    rw [lw_13, lw_14, rd_wo (by omega), rd_wa, rd_wo (show t + 18 ≠ t by omega), rd_wa, rd_wo (show t + 19 ≠ t + 18 by omega), rd_wo (show t + 19 ≠ t by omega)]
    by_cases q : j = l
    · rw [if_pos q, if_pos q, if_pos q, if_pos q]; exact ⟨rfl, rfl⟩
    · rw [if_neg q, if_neg q, if_neg q, if_neg q]; exact o5 j j0 j1
  · obtain ⟨sw, ⟨x0, x1, x2, x3, x4, x5⟩, p1, p2, p3, p4, p5, p6, p7⟩ := w'
    refine ⟨sw, ⟨by rw [lw_0 (by omega)]; exact x0, by rw [lw_0 (by omega)]; exact x1, by rw [lw_0 (by omega)]; exact x2, x3, x4, by rw [lw_0 (by omega)]; exact x5⟩, ?_, ?_, ?_, ?_, ?_, ?_, ?_⟩
    · intro y y0 q
      rw [lw_0 (by omega)] at q
      show _ = lwT_ T l K o 4 y
      rw [lw_f (by decide) (by decide) (by decide) (by decide)]
      exact p1 y y0 q
    · intro y y0 q
      rw [lw_0 (by omega)] at q
      exact p2 y y0 q
    · intro y y0 q
      rw [lw_0 (by omega)] at q
      exact p3 y y0 q
    · intro y k y0 q k0 k1
      rw [lw_0 (by omega)] at q
      have k1' : k < lwT_ T l K o 4 y := k1
      rw [lw_f (by decide) (by decide) (by decide) (by decide)] at k1'
      show _ = lwT_ T l K o 6 (5 * y + k)
      rw [lw_f (by decide) (by decide) (by decide) (by decide)]
      exact p4 y k y0 q k0 k1'
    · intro y y0 q
      rw [lw_0 (by omega)] at q
      rw [lw_f (by decide) (by decide) (by decide) (by decide)]
      exact p5 y y0 q
    · intro y y0 q
      rw [lw_0 (by omega)] at q
      show _ = lwT_ T l K o 7 y
      rw [lw_f (by decide) (by decide) (by decide) (by decide)]
      exact p6 y y0 q
    · intro y y0 q
      rw [lw_0 (by omega)] at q
      exact p7 y y0 q
end
/-- what a line may change -/
def flq_ (t : Int) (h h' : am_H) : Prop := fq_ h h' (F6 t) (fun a => a = 5) ∧ (ShC h → ShC h')
theorem flq_t {t : Int} {h h1 h2 : am_H} (x : flq_ t h h1) (y : flq_ t h1 h2) : flq_ t h h2 := ⟨fq_tr x.1 y.1, fun q => y.2 (x.2 q)⟩
theorem flq_f {t : Int} {h h1 : am_H} {A : Int → Prop} (x : fr_ h h1 A) (y : ∀ a, A a → F6 t a) : flq_ t h h1 := ⟨fq_fr (fr_mo x y), fun q => ShC_of x.1 q⟩
theorem flq_l {t : Int} {h h1 : am_H} (x : frl_ t h h1) : flq_ t h h1 := flq_f x (fun a q => by
  rcases q with e | e
  · exact Or.inl e
  · exact Or.inr (Or.inr (Or.inr e)))
section
variable {B : Int → Int} {n t c s : Int} {T : Tx}
theorem RT_5 {h : am_H} (r : RT h t T c s) : RT (wf_ (wf_ h 5 1 3) 5 2 t) t T c s ∧ flq_ t h (wf_ (wf_ h 5 1 3) 5 2 t) := by
  have tb : 7 ≤ t ∧ t ≤ 27 := by have := r.1; omega
  have ro : ∀ a k, a ≠ 5 → rf_ (wf_ (wf_ h 5 1 3) 5 2 t) a k = rf_ h a k := fun a k q => by rw [rf_wo q, rf_wo q]
  have q5 : ∀ A : Int → Prop, fq_ h (wf_ (wf_ h 5 1 3) 5 2 t) A (fun a => a = 5) := fun A => ⟨rfl, fun _ _ _ => rfl, fun a n k => ro a k n⟩
  have sc : ShC h → ShC (wf_ (wf_ h 5 1 3) 5 2 t) := fun sc => ShC_q (A := fun _ => False) (fq_mo (q5 _) (fun _ q => q) (fun a q => by unfold ScR; omega)) sc ⟨by rw [ro _ _ (by omega)]; exact cr2_0 sc, by rw [ro _ _ (by omega)]; exact cr2_1 sc, by rw [ro _ _ (by omega)]; exact cr3_0 sc, by rw [rf_wf, if_neg (by omega), rf_wf, if_neg (by omega)]; exact cr5_0 sc, by rw [ro _ _ (by omega)]; exact cr74_0 sc, by rw [ro _ _ (by omega)]; exact cr76_0 sc, by rw [ro _ _ (by omega)]; exact cr77_0 sc⟩
  obtain ⟨t0, s0, r2, o, w, e4, e5⟩ := r
  exact ⟨⟨t0, sc s0, by rw [ro _ _ (by omega)]; exact r2, TO_fq o (q5 (fun _ => False)) (fun _ _ _ q => q) (by omega), WO_fq w (q5 (fun _ => False)) (fun _ _ _ q => q) (by omega), e4, e5⟩, q5 _, sc⟩
theorem Fo_read_s {h : am_H} {p : Int} (r : RT h t T c s) (k : TKh h B n p) (z : 0 ≤ T 0 4) (z1 : T 0 4 ≤ 64) : ∃ h', Fo_read h 5 3 t = some (h', (fml_ B n 701 p (fsS_ T)).1) ∧ ((fml_ B n 701 p (fsS_ T)).1 ≠ 0 → rd_ h' 3 5 = (fml_ B n 701 p (fsS_ T)).2.1) ∧ ((fml_ B n 701 p (fsS_ T)).1 = 0 → TKh h' B n (fml_ B n 701 p (fsS_ T)).2.2.1 ∧ ∃ h3, h' = wr_ h3 t 3 (fml_ B n 701 p (fsS_ T)).2.2.2.2 ∧ RT h3 t T c s ∧ ∀ j, T 0 4 ≤ j → j < (fml_ B n 701 p (fsS_ T)).2.2.2.2 → rd_ h3 (t + 17) j = (fml_ B n 701 p (fsS_ T)).2.2.2.1 j) ∧ flq_ t h h' := by
  have tb : 7 ≤ t ∧ t ≤ 27 := by have := r.1; omega
  have kp := k.2.2.1
  obtain ⟨r1, q1⟩ := RT_5 r
  have e52 : rf_ (wf_ (wf_ h 5 1 3) 5 2 t) 5 2 = t := by rw [rf_wf, if_pos ⟨rfl, rfl⟩]
  have e51 : rf_ (wf_ (wf_ h 5 1 3) 5 2 t) 5 1 = 3 := by rw [rf_wf, if_neg (by omega), rf_wf, if_pos ⟨rfl, rfl⟩]
  have k1 : TKh (wf_ (wf_ h 5 1 3) 5 2 t) B n p := by
    obtain ⟨⟨a1, a2, a3, a4⟩, b, d, e, g⟩ := k
    exact ⟨⟨by rw [rf_wo (by omega), rf_wo (by omega)]; exact a1, by rw [rf_wo (by omega), rf_wo (by omega)]; exact a2, a3, a4⟩, b, d, e, g⟩
  have e3 : rd_ (wf_ (wf_ h 5 1 3) 5 2 t) t 3 = T 0 4 := r1.2.2.2.1.2.1.2.2.2
  rw [Fo_read_e]
  simp only [e52]
  generalize wf_ (wf_ h 5 1 3) 5 2 t = g at r1 q1 e52 e51 k1 e3 ⊢
  rw [rd_wo (show t ≠ 5 by omega), rd_wo (show t ≠ 5 by omega), rd_wo (show t ≠ 5 by omega), rd_wo (show t ≠ 5 by omega), rd_wo (show t ≠ 5 by omega), e3]
  have fr : fr_ g (wr_ (wr_ (wr_ (wr_ (wr_ (wr_ g 5 3 0) 5 4 0) 5 5 (T 0 4)) 5 6 (T 0 4)) 5 7 1) 5 8 1) (fun a => a = 5) := fr_tr (fr_tr (fr_tr (fr_tr (fr_tr (fr_wr rfl) (fr_wr rfl)) (fr_wr rfl)) (fr_wr rfl)) (fr_wr rfl)) (fr_wr rfl)
  have f0 : FCs (wr_ (wr_ (wr_ (wr_ (wr_ (wr_ g 5 3 0) 5 4 0) 5 5 (T 0 4)) 5 6 (T 0 4)) 5 7 1) 5 8 1) t T c s (fsS_ T) := by
    refine ⟨RT_fr r1 fr (fun x a b => by omega), ⟨e51, e52⟩, ⟨?_, ?_, ?_, ?_, ?_, rd_ws _ _ _ _⟩, trivial, fun j x y => ?_⟩
    · rw [rd_wk (by omega), rd_wk (by omega), rd_wk (by omega), rd_wk (by omega), rd_wk (by omega), rd_ws]; rfl
    · rw [rd_wk (by omega), rd_wk (by omega), rd_wk (by omega), rd_wk (by omega), rd_ws]; rfl
    · rw [rd_wk (by omega), rd_wk (by omega), rd_wk (by omega), rd_ws]; rfl
    · rw [rd_wk (by omega), rd_wk (by omega), rd_ws]; rfl
    · rw [rd_wk (by omega), rd_ws]; rfl
    · have y' : j < T 0 4 := y
      omega
  obtain ⟨h', a1, a2, a3, a4⟩ := Fo_read_lp z 701 p 0 _ (fsS_ T) f0 (fsS_V z z1) (TK_fr k1 fr (by omega) (by omega) (by omega)) (by omega) (by omega) (by omega)
  refine ⟨h', ?_, a2, a3, flq_t q1 (flq_t (flq_f fr (fun a q => Or.inr (Or.inl q))) (flq_f a4 (fun a q => q)))⟩
  repeat rw [ck_t (by omega)]
  exact a1
end
