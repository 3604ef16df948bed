/-! the reference's search -/
def MB (h : am_H) (b : Br) : Prop := RW h 129 3840 b.1 ∧ RW h 130 3840 b.2.1 ∧ RW h 131 3840 b.2.2.1 ∧ rd_ h 94 74 = b.2.2.2
def fzF (h h' : am_H) : Prop := fz_ h h' (fun a => 128 ≤ a ∧ a ≤ 131) (fun k => k = 70 ∨ k = 74)
theorem fzF_tr {h h1 h2 : am_H} (x : fzF h h1) (y : fzF h1 h2) : fzF h h2 := fz_tr x y
theorem fzF_R {h h1 : am_H} (x : fzR h h1) : fzF h h1 := fz_mo x (fun a q => by omega) (fun k q => Or.inl q)
theorem MB_R {h h1 : am_H} {b : Br} (m : MB h b) (x : fzR h h1) : MB h1 b := ⟨fun k k0 k1 => by rw [x.2.1 129 (by omega) (by omega)]; exact m.1 k k0 k1, fun k k0 k1 => by rw [x.2.1 130 (by omega) (by omega)]; exact m.2.1 k k0 k1, fun k k0 k1 => by rw [x.2.1 131 (by omega) (by omega)]; exact m.2.2.1 k k0 k1, by rw [x.2.2 74 (by omega)]; exact m.2.2.2⟩
theorem RW_o {h : am_H} {a n x k v : Int} {R : Int → Int} (r : RW h a n R) (q : a ≠ x) : RW (wr_ h x k v) a n R := fun j j0 j1 => by rw [rd_wo q]; exact r j j0 j1
theorem Mo_far_9 {h : am_H} {H w k c t d : Int} {b : Br} (s : ShM h) (m : MB h b) (c0 : 0 ≤ c) (c1 : c < 3840) (t0 : 0 ≤ t) (t1 : t < 3840) (d0 : 1 ≤ d) (d1 : d ≤ 5) : ∃ h', Mo_layFar_9 h 94 H w k c d t = Mo_layFar_6 h' 94 H w k c (d + 1) ∧ MB h' (b2_ c t b) ∧ fzF h h' := by
  rw [Mo_layFar_9_e]
  simp only [mr71 s, ml129 s, mr72 s, ml130 s]
  repeat rw [ck_t (by omega)]
  rw [m.1 t t0 t1, m.1 c c0 c1, m.2.1 t t0 t1, m.2.1 c c0 c1, w32_i (x := d + 1) (by omega) (by omega)]
  unfold b2_
  by_cases q : b.1 t = w32 (b.1 c + 1)
  · rw [if_neg (fun z => z q), if_pos q]
    exact ⟨_, rfl, ⟨RW_o m.1 (by omega), RW_wr m.2.1 _ _, RW_o m.2.2.1 (by omega), by rw [rd_wo (by omega)]; exact m.2.2.2⟩, fz_wr ⟨by omega, by omega⟩ (by omega)⟩
  · rw [if_pos q, if_neg q]
    exact ⟨h, rfl, m, fz_refl _ _ _⟩
section
variable {f : Int → Int} {N H w : Int}
theorem Mo_far_6 (h0 : 0 ≤ H) (h5 : H ≤ 5) (N1 : N ≤ 3840) (N0 : 0 ≤ N) (fi : fI_ f N) (fb : ∀ s, 0 ≤ s → s < N → 0 ≤ f s ∧ f s < 3840) {D : Int → Int} {st k : Int} (ni : nI_ (nC_ w H) N H) (nf : nF_ (nC_ w H) (nM_ w H) f N H) (G : bG_ (nC_ w H) D N H st) (k0 : 0 ≤ k) : ∀ (n : Nat) (d : Int) (h : am_H) (b b' : Br), ShM h → 1 ≤ d → d + n = H + 1 → k < b.2.2.2 → bI_ (nC_ w H) D N H st k d b → bL_ f N b b' → MB h b' → ∃ h', Mo_layFar_6 h 94 H w k (f (b.2.2.1 k)) d = Mo_layFar_4 h' 94 H w (k + 1) ∧ MB h' (bq_ (nM_ w H) (f (b.2.2.1 k)) n d b') ∧ fzF h h' := by
  intro n
  induction n with
  | zero =>
    intro d h b b' s d0 hd hk I L m
    have hm := bI_m I N0
    exact ⟨h, by rw [Mo_layFar_6_e, if_pos (by omega), w32_i (x := k + 1) (by omega) (by omega)], m, fz_refl _ _ _⟩
  | succ n ih =>
    intro d h b b' s d0 hd hk I L m
    have hm := bI_m I N0
    obtain ⟨c0, c1, fc, cR⟩ := I.2.1 k k0 hk
    have hD := G.2.1 _ c0 c1
    obtain ⟨t0, t1⟩ := ni _ d c0 c1 d0 (by omega)
    have nfe := nf _ d c0 c1 d0 (by omega)
    obtain ⟨I', e1, e2⟩ := bs_I G ni d0 (by omega) hk I
    obtain ⟨L', _, _⟩ := bs_L fi c0 c1 t0 t1 (by omega) (by omega) L
    obtain ⟨h1, x1, x2⟩ := Mo_turnedCode_s (c := f (b.2.2.1 k)) (d := d) (w := w) s h0 h5 (by omega) (by omega)
    rw [nfe] at x1
    have s1 := ShM_of x2.1 s
    have m1 := MB_R m x2
    have fc1 := fb _ c0 c1
    have ft1 := fb _ t0 t1
    generalize hc : b.2.2.1 k = c at *
    generalize ht : nC_ w H c d = t at *
    have lt := L.1 t t0 t1
    have fst : ∃ h2, MB h2 (b1_ (f c) (f t) b') ∧ ShM h2 ∧ fzF h1 h2 ∧ Mo_layFar_6 h 94 H w k (f c) d = Mo_layFar_9 h2 94 H w k (f c) d (f t) := by
      rw [Mo_layFar_6_e, if_neg (by omega), ck_t (by omega), x1, bd_v]
      simp only [mr71 s1, ml129 s1, mr72 s1, ml130 s1, mr73 s1, ml131 s1]
      rw [ck_t (by omega), ck_t (by omega), ck_t (by omega), m1.1 _ ft1.1 ft1.2, m1.1 _ fc1.1 fc1.2]
      unfold b1_
      by_cases q : b'.1 (f t) < 0
      · have mlt := bI_lt I N0 t0 t1 (by omega) G.2.1
        have mm : b'.2.2.2 = b.2.2.2 := L.2.2.1
        have m0 := I.1.1
        rw [if_neg (by omega), if_pos q]
        have r74 : rd_ (wr_ (wr_ h1 129 (f t) (w32 (b'.1 (f c) + 1))) 130 (f t) 0) 94 74 = b'.2.2.2 := by rw [rd_wo (by omega), rd_wo (by omega)]; exact m1.2.2.2
        have r75 : ∀ z, rd_ (wr_ (wr_ (wr_ h1 129 (f t) (w32 (b'.1 (f c) + 1))) 130 (f t) 0) 131 z (f t)) 94 74 = b'.2.2.2 := fun z => by rw [rd_wo (by omega)]; exact r74
        simp only [r74, r75]
        repeat rw [ck_t (by omega)]
        rw [w32_i (x := b'.2.2.2 + 1) (by omega) (by omega)]
        refine ⟨_, ⟨?_, ?_, ?_, rd_ws _ _ _ _⟩, ?_, ?_, rfl⟩
        · exact RW_o (RW_o (RW_o (RW_wr m1.1 _ _) (by omega)) (by omega)) (by omega)
        · exact RW_o (RW_o (RW_wr (RW_o m1.2.1 (by omega)) _ _) (by omega)) (by omega)
        · exact RW_o (RW_wr (RW_o (RW_o m1.2.2.1 (by omega)) (by omega)) _ _) (by omega)
        · exact ShM_of rfl s1
        · exact fz_tr (fz_tr (fz_tr (fz_wr ⟨by omega, by omega⟩ (by omega)) (fz_wr ⟨by omega, by omega⟩ (by omega))) (fz_wr ⟨by omega, by omega⟩ (by omega))) (fz_wf (Or.inr rfl))
      · rw [if_pos (by omega), if_neg q]
        exact ⟨h1, m1, s1, fz_refl _ _ _, rfl⟩
    obtain ⟨h2, y1, y2, y3, y4⟩ := fst
    obtain ⟨h3, z1, z2, z3⟩ := Mo_far_9 (H := H) (w := w) (k := k) y2 y1 fc1.1 fc1.2 ft1.1 ft1.2 d0 (by omega)
    have s3 := ShM_of z3.1 y2
    rw [← e1] at ih
    obtain ⟨h4, u1, u2, u3⟩ := ih (d + 1) h3 (bs_ c t b) (bs_ (f c) (f t) b') s3 (by omega) (by omega) e2 I' L' z2
    refine ⟨h4, ?_, ?_, fzF_tr (fzF_R x2) (fzF_tr y3 (fzF_tr z3 u3))⟩
    · rw [y4, z1]
      rw [e1] at u1
      exact u1
    · unfold bq_
      rw [nfe, ht]
      rw [e1] at u2
      exact u2
end
