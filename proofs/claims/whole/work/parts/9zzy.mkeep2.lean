/-! a text kept in the reference: what the first halves hold; all begins -/
section
variable {h h0 h1 : am_H} {T I Q : Tx} {U : Int → Tx} {c s : Int}
theorem CPk_a {a j n : Int} (cp : CPk h0 h1 116) (a0 : 98 ≤ a) (a1 : a < 116) (en : nkp_ a = n) (j0 : 0 ≤ j) (j1 : j < n) : rd_ h1 a j = rd_ h0 a (n + j) := by
  rw [← en] at j1 ⊢
  exact cp.2.1 a j a0 a1 j0 j1
theorem keep_MT (m : MP h T c s) (w : WVt T) (v : TV T) (z : rd_ h0 94 12 = T 0 0 ∧ rd_ h0 94 13 = T 0 1 ∧ rd_ h0 94 14 = T 0 2 ∧ rd_ h0 94 15 = T 0 3 ∧ rd_ h0 94 16 = T 0 4) (R : ∀ a k, ¬ (a = 94 ∧ 12 ≤ k ∧ k ≤ 16) → rd_ h0 a k = rd_ h a k) (cp : CPk h0 h1 116) : MT h1 T := by
  have w0 := w.1
  have w1 := w.2.1
  have v0 := v.1
  obtain ⟨a0, _, a2, a3, a4, a5, a6, a7, a8, a9, a10, a11⟩ := m
  have r9 : ∀ k, rd_ h1 94 k = rd_ h0 94 k := fun k => cp.2.2 94 k (by omega)
  refine ⟨⟨by rw [r9]; exact z.1, by rw [r9]; exact z.2.1, by rw [r9]; exact z.2.2.1, by rw [r9]; exact z.2.2.2.1, by rw [r9]; exact z.2.2.2.2, ?_, ?_⟩, fun j x y => ?_, fun j x y => ?_, fun j x y => ?_, fun j x y => ?_, fun p k p0 p1 k0 k1 => ?_, fun j x y => ?_, fun j x y => ?_, fun j x y => ?_⟩
  · rw [CPk_a cp (by omega) (by omega) nkp_98 (by omega) (by omega), R _ _ (by omega), show (2 : Int) + 0 = 2 by omega]; exact a2.2.2.1
  · rw [CPk_a cp (by omega) (by omega) nkp_98 (by omega) (by omega), R _ _ (by omega), show (2 : Int) + 1 = 3 by omega]; exact a2.2.2.2
  · rw [CPk_a cp (by omega) (by omega) nkp_99 x (by omega), R _ _ (by omega)]; exact (a3 j x y).1
  · rw [CPk_a cp (by omega) (by omega) nkp_100 x (by omega), R _ _ (by omega)]; exact (a3 j x y).2
  · rw [CPk_a cp (by omega) (by omega) nkp_101 x (by omega), R _ _ (by omega)]; exact (a4 j x y).1
  · rw [CPk_a cp (by omega) (by omega) nkp_102 x (by omega), R _ _ (by omega)]; exact (a4 j x y).2
  · have := w1 p p0 p1
    rw [CPk_a cp (by omega) (by omega) nkp_103 (by omega) (by omega), R _ _ (by omega)]; exact a6 p k p0 p1 k0 k1
  · rw [CPk_a cp (by omega) (by omega) nkp_104 x (by omega), R _ _ (by omega)]; exact (a7 j x y).1
  · rw [CPk_a cp (by omega) (by omega) nkp_105 x (by omega), R _ _ (by omega)]; exact (a7 j x y).2
  · rw [CPk_a cp (by omega) (by omega) nkp_106 x (by omega), R _ _ (by omega), CPk_a cp (by omega) (by omega) nkp_107 x (by omega), R _ _ (by omega), CPk_a cp (by omega) (by omega) nkp_108 x (by omega), R _ _ (by omega), CPk_a cp (by omega) (by omega) nkp_109 x (by omega), R _ _ (by omega)]; exact a8 j x y
theorem keep_ML (m : MP h T c s) (v : TV T) (R : ∀ a k, ¬ (a = 94 ∧ 12 ≤ k ∧ k ≤ 16) → rd_ h0 a k = rd_ h a k) (cp : CPk h0 h1 116) : ML h1 T := by
  have v0 := v.1
  have vL := v.2.2.2
  obtain ⟨a0, _, a2, a3, a4, a5, a6, a7, a8, a9, a10, a11⟩ := m
  refine ⟨fun k x y => ?_, fun k x y q => ?_, fun k i x y i0 i1 => ?_⟩
  · rw [CPk_a cp (by omega) (by omega) nkp_110 x (by omega), R _ _ (by omega)]; exact a9 k x y
  · rw [CPk_a cp (by omega) (by omega) nkp_111 x (by omega), R _ _ (by omega), CPk_a cp (by omega) (by omega) nkp_112 x (by omega), R _ _ (by omega)]; exact a10 k x y q
  · have vk := vL k x y
    have i00 : 0 ≤ i := by have := vk.1; omega
    have i64 : i < 64 := by have := vk.2.2.1; omega
    have k0 := a11 k i x y i0 i1
    unfold KN
    unfold KR at k0
    rw [CPk_a cp (by omega) (by omega) nkp_113 i00 i64, R _ _ (by omega), CPk_a cp (by omega) (by omega) nkp_114 i00 i64, R _ _ (by omega), CPk_a cp (by omega) (by omega) nkp_115 i00 i64, R _ _ (by omega)]
    exact k0
def kpA (a : Int) : Prop := 98 ≤ a ∧ a ≤ 127
def kpF (k : Int) : Prop := (12 ≤ k ∧ k ≤ 16) ∨ (60 ≤ k ∧ k ≤ 68) ∨ k = 80 ∨ k = 81 ∨ k = 85 ∨ k = 88
theorem Mo_keepText_s (m : MP h T c s) (w : WVt T) (v : TV T) (bb : BB h) (b1 : B1 h 139 400) (b2 : B1 h 141 20) (wd : WD h) (t1 : rd_ h 94 1 = 0) (f4 : rd_ h 94 4 = 0) (f5 : rd_ h 94 5 = -1) : ∃ h', Mo_keepText h 94 = some (h', 0) ∧ MN h' T (W0_ T (T 0 6)) I U (tQs_ Q) ∧ fz_ h h' kpA kpF := by
  obtain ⟨h0, h1, e0, z, R, cp, ek⟩ := Mo_keepC_s m
  have s1 : ShM h1 := ShM_of cp.1 (ShM_of e0 m.1)
  have mt := keep_MT m w v z R cp
  have ml := keep_ML m v R cp
  have F1 : fz_ h h1 kpA kpF := by
    refine ⟨cp.1.trans e0, fun a q n k => ?_, fun k q => ?_⟩
    · rw [cp.2.2 a k (by unfold kpA at q; omega), R a k (by omega)]
    · rw [cp.2.2 94 k (by omega), R 94 k (by unfold kpF at q; omega)]
  obtain ⟨h2, i1, i2, i3, i4, i5⟩ := Mo_atFirst_s (b := 0) (T 0 6) s1 mt (Or.inl rfl) (WVt_W w)
  have s2 : ShM h2 := ShM_of i3.1 s1
  have F2 : fz_ h1 h2 (fun a => 120 ≤ a ∧ a ≤ 127) (fun _ => False) := fz_fr i3 (fun a q => q) (by omega)
  have e98 : rd_ h2 98 1 = T 0 6 := by rw [i3.2 98 (by omega)]; exact mt.1.2.2.2.2.2.2
  obtain ⟨h3, j1, j2, j3⟩ := Mo_plainTried_s (wr_ h2 94 60 (T 0 6))
  have F3 : fz_ h2 (wr_ (wr_ (wr_ (wr_ h3 94 80 0) 94 81 (-1)) 94 85 0) 94 88 0) (fun _ => False) (fun k => (60 ≤ k ∧ k ≤ 68) ∨ k = 80 ∨ k = 81 ∨ k = 85 ∨ k = 88) := fz_tr (fz_wf (by omega)) (fz_tr (fz_mo j3 (fun _ q => q) (fun k q => by omega)) (fz_tr (fz_tr (fz_tr (fz_wf (by omega)) (fz_wf (by omega))) (fz_wf (by omega))) (fz_wf (by omega))))
  have e60 : rd_ (wr_ (wr_ (wr_ (wr_ h3 94 80 0) 94 81 (-1)) 94 85 0) 94 88 0) 94 60 = T 0 6 := by rw [rd_wk (by omega), rd_wk (by omega), rd_wk (by omega), rd_wk (by omega), j3.2.2 60 (by omega), rd_ws]
  have e80 : rd_ (wr_ (wr_ (wr_ (wr_ h3 94 80 0) 94 81 (-1)) 94 85 0) 94 88 0) 94 80 = 0 := by rw [rd_wk (by omega), rd_wk (by omega), rd_wk (by omega), rd_ws]
  have e81 : rd_ (wr_ (wr_ (wr_ (wr_ h3 94 80 0) 94 81 (-1)) 94 85 0) 94 88 0) 94 81 = -1 := by rw [rd_wk (by omega), rd_wk (by omega), rd_ws]
  have e85 : rd_ (wr_ (wr_ (wr_ (wr_ h3 94 80 0) 94 81 (-1)) 94 85 0) 94 88 0) 94 85 = 0 := by rw [rd_wk (by omega), rd_ws]
  have e88 : rd_ (wr_ (wr_ (wr_ (wr_ h3 94 80 0) 94 81 (-1)) 94 85 0) 94 88 0) 94 88 = 0 := rd_ws _ _ _ _
  refine ⟨wr_ (wr_ (wr_ (wr_ h3 94 80 0) 94 81 (-1)) 94 85 0) 94 88 0, ?_, ?_, fz_tr F1 (fz_tr (fz_mo F2 (fun a q => by unfold kpA; omega) (fun _ q => q.elim)) (fz_mo F3 (fun _ q => q.elim) (fun k q => by unfold kpF; omega)))⟩
  · rw [ek, Mo_begin_e, ck_t (by omega), i1, bd_v, mr23 s2, ml98 s2, e98]
    repeat rw [ck_t (by omega)]
    rw [j1, bd_v]
    repeat rw [ck_t (by omega)]
    rw [bd_v]
  · generalize wr_ (wr_ (wr_ (wr_ h3 94 80 0) 94 81 (-1)) 94 85 0) 94 88 0 = h4 at F3 e60 e80 e81 e85 e88 ⊢
    have F4 : fz_ h1 h4 (fun a => 120 ≤ a ∧ a ≤ 127) (fun k => (60 ≤ k ∧ k ≤ 68) ∨ k = 80 ∨ k = 81 ∨ k = 85 ∨ k = 88) := fz_tr (fz_mo F2 (fun a q => q) (fun _ q => q.elim)) (fz_mo F3 (fun _ q => q.elim) (fun k q => q))
    have k0 : tQs_ Q 4 0 = 0 := by rw [tQs_4]; rfl
    have k1 : tQs_ Q 4 1 = -1 := by rw [tQs_4]; rfl
    have k2 : tQs_ Q 4 2 = 0 := by rw [tQs_4]; rfl
    have k3 : tQs_ Q 4 3 = 0 := by rw [tQs_4]; rfl
    have k4 : tQs_ Q 4 4 = 0 := by rw [tQs_4]; rfl
    have k5 : tQs_ Q 4 5 = 0 := by rw [tQs_4]; rfl
    have k6 : tQs_ Q 4 6 = -1 := by rw [tQs_4]; rfl
    have Ra : ∀ a k, a ≠ 94 → ¬ (98 ≤ a ∧ a ≤ 127) → rd_ h4 a k = rd_ h a k := fun a k x y => by rw [F4.2.1 a (by omega) x, F1.2.1 a (by unfold kpA; omega) x]
    have Rk : ∀ k, k < 12 → rd_ h4 94 k = rd_ h 94 k := fun k x => by rw [F4.2.2 k (by omega), F1.2.2 k (by unfold kpF; omega)]
    have R124 : ∀ x, rd_ h1 124 x = rd_ h 124 x := fun x => by rw [cp.2.2 124 x (by omega), R 124 x (by omega)]
    refine ⟨ShM_of F4.1 s1, MT_fz mt F4 (fun a p q => by omega) (fun k p q => by omega), ML_fm ml F4 (fun a p q => by omega), MW_fz i2 F3 (fun a p q => fun x => x), ?_, ?_, ?_, ?_, ?_, ?_, ?_, ?_⟩
    · rw [e60]; rfl
    · intro x x0 x1
      have y := bb x x0 x1
      rw [F3.2.1 124 (fun q => q) (by omega)]
      rcases i5 x with q | q
      · rw [q, R124]; exact y
      · rw [q]; exact Or.inl rfl
    · rw [k2]
      exact ⟨e85, by omega, by omega, fun i p q => by omega, fun x p q => by rw [Ra 139 _ (by omega) (by omega)]; exact b1 x p q⟩
    · rw [k3]
      exact ⟨e88, Or.inl rfl, fun q => by omega, fun x p q => by rw [Ra 141 _ (by omega) (by omega)]; exact b2 x p q⟩
    · refine ⟨by rw [k0]; exact e80, by rw [k1]; exact e81, fun i p q => ?_⟩
      rw [k0] at q
      omega
    · rw [k4]
      exact ⟨by rw [Rk 1 (by omega)]; exact t1, fun k p q => by omega⟩
    · rw [k5, k6]
      exact ⟨by rw [Rk 4 (by omega)]; exact f4, by rw [Rk 5 (by omega)]; exact f5⟩
    · intro i p q
      rw [Ra 96 _ (by omega) (by omega)]; exact wd i p q
end
