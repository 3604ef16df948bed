/-! the reference's search -/
def MB (h : am_H) (b : Br) : Prop := RW h 129 3840 b.1 ∧ RW h 130 3840 b.2.1 ∧ RW h 131 3840 b.2.2.1 ∧ rd_ h 94 74 = b.2.2.2
def fzF (h h' : am_H) : Prop := fz_ h h' (fun a => 128 ≤ a ∧ a ≤ 131) (fun k => k = 70 ∨ k = 74)
theorem fzF_tr {h h1 h2 : am_H} (x : fzF h h1) (y : fzF h1 h2) : fzF h h2 := fz_tr x y
theorem fzF_R {h h1 : am_H} (x : fzR h h1) : fzF h h1 := fz_mo x (fun a q => by omega) (fun k q => Or.inl q)
theorem MB_R {h h1 : am_H} {b : Br} (m : MB h b) (x : fzR h h1) : MB h1 b := ⟨fun k k0 k1 => by rw [x.2.1 129 (by omega) (by omega)]; exact m.1 k k0 k1, fun k k0 k1 => by rw [x.2.1 130 (by omega) (by omega)]; exact m.2.1 k k0 k1, fun k k0 k1 => by rw [x.2.1 131 (by omega) (by omega)]; exact m.2.2.1 k k0 k1, by rw [x.2.2 74 (by omega)]; exact m.2.2.2⟩
theorem RW_o {h : am_H} {a n x k v : Int} {R : Int → Int} (r : RW h a n R) (q : a ≠ x) : RW (wr_ h x k v) a n R := fun j j0 j1 => by rw [rd_wo q]; exact r j j0 j1
theorem Mo_far_9 {h : am_H} {H w k c t d : Int} {b : Br} (s : ShM h) (m : MB h b) (c0 : 0 ≤ c) (c1 : c < 3840) (t0 : 0 ≤ t) (t1 : t < 3840) (d0 : 1 ≤ d) (d1 : d ≤ 5) : ∃ h', Mo_layFar_9 h 94 H w k c d t = Mo_layFar_6 h' 94 H w k c (d + 1) ∧ MB h' (b2_ c t b) ∧ fzF h h' := by
  rw [Mo_layFar_9_e]
  simp only [mr71 s, ml129 s, mr72 s, ml130 s]
  repeat rw [ck_t (by omega)]
  rw [m.1 t t0 t1, m.1 c c0 c1, m.2.1 t t0 t1, m.2.1 c c0 c1, w32_i (x := d + 1) (by omega) (by omega)]
  unfold b2_
  by_cases q : b.1 t = w32 (b.1 c + 1)
  · rw [if_neg (fun z => z q), if_pos q]
    exact ⟨_, rfl, ⟨RW_o m.1 (by omega), RW_wr m.2.1 _ _, RW_o m.2.2.1 (by omega), by rw [rd_wo (by omega)]; exact m.2.2.2⟩, fz_wr ⟨by omega, by omega⟩ (by omega)⟩
  · rw [if_pos q, if_neg q]
    exact ⟨h, rfl, m, fz_refl _ _ _⟩
section
variable {f : Int → Int} {N H w : Int}
theorem Mo_far_6 (h0 : 0 ≤ H) (h5 : H ≤ 5) (N1 : N ≤ 3840) (N0 : 0 ≤ N) (fi : fI_ f N) (fb : ∀ s, 0 ≤ s → s < N → 0 ≤ f s ∧ f s < 3840) {D : Int → Int} {st k : Int} (ni : nI_ (nC_ w H) N H) (nf : nF_ (nC_ w H) (nM_ w H) f N H) (G : bG_ (nC_ w H) D N H st) (k0 : 0 ≤ k) : ∀ (n : Nat) (d : Int) (h : am_H) (b b' : Br), ShM h → 1 ≤ d → d + n = H + 1 → k < b.2.2.2 → bI_ (nC_ w H) D N H st k d b → bL_ f N b b' → MB h b' → ∃ h', Mo_layFar_6 h 94 H w k (f (b.2.2.1 k)) d = Mo_layFar_4 h' 94 H w (k + 1) ∧ MB h' (bq_ (nM_ w H) (f (b.2.2.1 k)) n d b') ∧ fzF h h' := by
  intro n
  induction n with
  | zero =>
    intro d h b b' s d0 hd hk I L m
    have hm := bI_m I N0
    exact ⟨h, by rw [Mo_layFar_6_e, if_pos (by omega), w32_i (x := k + 1) (by omega) (by omega)], m, fz_refl _ _ _⟩
  | succ n ih =>
    intro d h b b' s d0 hd hk I L m
    have hm := bI_m I N0
    obtain ⟨c0, c1, fc, cR⟩ := I.2.1 k k0 hk
    have hD := G.2.1 _ c0 c1
    obtain ⟨t0, t1⟩ := ni _ d c0 c1 d0 (by omega)
    have nfe := nf _ d c0 c1 d0 (by omega)
    obtain ⟨I', e1, e2⟩ := bs_I G ni d0 (by omega) hk I
    obtain ⟨L', _, _⟩ := bs_L fi c0 c1 t0 t1 (by omega) (by omega) L
    obtain ⟨h1, x1, x2⟩ := Mo_turnedCode_s (c := f (b.2.2.1 k)) (d := d) (w := w) s h0 h5 (by omega) (by omega)
    rw [nfe] at x1
    have s1 := ShM_of x2.1 s
    have m1 := MB_R m x2
    have fc1 := fb _ c0 c1
    have ft1 := fb _ t0 t1
    generalize hc : b.2.2.1 k = c at *
    generalize ht : nC_ w H c d = t at *
    have lt := L.1 t t0 t1
    have fst : ∃ h2, MB h2 (b1_ (f c) (f t) b') ∧ ShM h2 ∧ fzF h1 h2 ∧ Mo_layFar_6 h 94 H w k (f c) d = Mo_layFar_9 h2 94 H w k (f c) d (f t) := by
      rw [Mo_layFar_6_e, if_neg (by omega), ck_t (by omega), x1, bd_v]
      simp only [mr71 s1, ml129 s1, mr72 s1, ml130 s1, mr73 s1, ml131 s1]
      rw [ck_t (by omega), ck_t (by omega), ck_t (by omega), m1.1 _ ft1.1 ft1.2, m1.1 _ fc1.1 fc1.2]
      unfold b1_
      by_cases q : b'.1 (f t) < 0
      · have mlt := bI_lt I N0 t0 t1 (by omega) G.2.1
        have mm : b'.2.2.2 = b.2.2.2 := L.2.2.1
        have m0 := I.1.1
        rw [if_pos q, if_neg (c := 0 ≤ b'.1 (f t)) (by omega)]
        have r74 : rd_ (wr_ (wr_ h1 129 (f t) (w32 (b'.1 (f c) + 1))) 130 (f t) 0) 94 74 = b'.2.2.2 := by rw [rd_wo (by omega), rd_wo (by omega)]; exact m1.2.2.2
        have r75 : ∀ z, rd_ (wr_ (wr_ (wr_ h1 129 (f t) (w32 (b'.1 (f c) + 1))) 130 (f t) 0) 131 z (f t)) 94 74 = b'.2.2.2 := fun z => by rw [rd_wo (by omega)]; exact r74
        simp only [r74, r75]
        repeat rw [ck_t (by omega)]
        rw [w32_i (x := b'.2.2.2 + 1) (by omega) (by omega)]
        refine ⟨_, ⟨?_, ?_, ?_, rd_ws _ _ _ _⟩, ?_, ?_, rfl⟩
        · exact RW_o (RW_o (RW_o (RW_wr m1.1 _ _) (by omega)) (by omega)) (by omega)
        · exact RW_o (RW_o (RW_wr (RW_o m1.2.1 (by omega)) _ _) (by omega)) (by omega)
        · exact RW_o (RW_wr (RW_o (RW_o m1.2.2.1 (by omega)) (by omega)) _ _) (by omega)
        · exact ShM_of rfl s1
        · exact fz_tr (fz_tr (fz_tr (fz_wr ⟨by omega, by omega⟩ (by omega)) (fz_wr ⟨by omega, by omega⟩ (by omega))) (fz_wr ⟨by omega, by omega⟩ (by omega))) (fz_wf (Or.inr rfl))
      · rw [if_neg q, if_pos (c := 0 ≤ b'.1 (f t)) (by omega)]
        exact ⟨h1, m1, s1, fz_refl _ _ _, rfl⟩
    obtain ⟨h2, y1, y2, y3, y4⟩ := fst
    obtain ⟨h3, z1, z2, z3⟩ := Mo_far_9 (H := H) (w := w) (k := k) y2 y1 fc1.1 fc1.2 ft1.1 ft1.2 d0 (by omega)
    have s3 := ShM_of z3.1 y2
    obtain ⟨h4, u1, u2, u3⟩ := ih (d + 1) h3 (bs_ c t b) (bs_ (f c) (f t) b') s3 (by omega) (by omega) e2 I' L' z2
    refine ⟨h4, ?_, ?_, fzF_tr (fzF_R x2) (fzF_tr y3 (fzF_tr z3 u3))⟩
    · rw [y4, z1]
      rw [e1] at u1
      exact u1
    · unfold bq_
      rw [nfe]
      rw [e1] at u2
      exact u2
theorem Mo_far_4 (h0 : 0 ≤ H) (h5 : H ≤ 5) (N1 : N ≤ 3840) (N0 : 0 ≤ N) (fi : fI_ f N) (fb : ∀ s, 0 ≤ s → s < N → 0 ≤ f s ∧ f s < 3840) {D : Int → Int} {st : Int} (ni : nI_ (nC_ w H) N H) (nf : nF_ (nC_ w H) (nM_ w H) f N H) (G : bG_ (nC_ w H) D N H st) : ∀ (n : Nat) (k : Int) (h : am_H) (b b' : Br), ShM h → 0 ≤ k → k + n = N → bI_ (nC_ w H) D N H st k 1 b → bL_ f N b b' → MB h b' → ∃ h', Mo_layFar_4 h 94 H w k = some (h', 0) ∧ MB h' (bu_ (nM_ w H) H n k b') ∧ fzF h h' := by
  intro n
  induction n with
  | zero =>
    intro k h b b' s k0 hk I L m
    have hm := bI_m I N0
    have mm : b'.2.2.2 = b.2.2.2 := L.2.2.1
    rw [Mo_layFar_4_e, ck_t (by omega), m.2.2.2, if_pos (by omega)]
    exact ⟨h, rfl, m, fz_refl _ _ _⟩
  | succ n ih =>
    intro k h b b' s k0 hk I L m
    have mm : b'.2.2.2 = b.2.2.2 := L.2.2.1
    rw [Mo_layFar_4_e, ck_t (by omega), m.2.2.2]
    unfold bu_
    by_cases q : b'.2.2.2 ≤ k
    · rw [if_pos q, if_pos q]
      exact ⟨h, rfl, m, fz_refl _ _ _⟩
    · rw [if_neg q, if_neg q]
      simp only [mr73 s, ml131 s]
      repeat rw [ck_t (by omega)]
      have hk' : k < b.2.2.2 := by omega
      have lk := L.2.2.2.1 k k0 hk'
      obtain ⟨c0, c1, fc, cR⟩ := I.2.1 k k0 hk'
      rw [m.2.2.1 k k0 (by omega), lk.1]
      obtain ⟨h1, x1, x2, x3⟩ := Mo_far_6 h0 h5 N1 N0 fi fb ni nf G k0 H.toNat 1 h b b' s (by omega) (by omega) hk' I L m
      have J := bq_I G ni H.toNat 1 b (by omega) (by omega) hk' I
      have I2 := bI_nx J.2 J.1
      have L2 := bq_L fi ni nf c0 c1 H.toNat 1 b b' (by omega) (by omega) (by have := G.2.1 _ c0 c1; omega) (by omega) L
      obtain ⟨h2, y1, y2, y3⟩ := ih (k + 1) h1 _ _ (ShM_of x3.1 s) (by omega) (by omega) I2 L2 x2
      exact ⟨h2, by rw [x1, y1], y2, fzF_tr x3 y3⟩
end
theorem Mo_far_1 {H st w : Int} : ∀ (n : Nat) (k : Int) (h : am_H), ShM h → 0 ≤ k → k + n = 3840 → RW h 129 k (fun _ => -1) → ∃ h', Mo_layFar_1 h 94 H st w k = Mo_layFar_1 h' 94 H st w 3840 ∧ RW h' 129 3840 (fun _ => -1) ∧ fr_ h h' (fun a => a = 129) := by
  intro n
  induction n with
  | zero =>
    intro k h s k0 hk r
    have e : k = 3840 := by omega
    rw [e] at r ⊢
    exact ⟨h, rfl, r, fr_refl _ _⟩
  | succ n ih =>
    intro k h s k0 hk r
    obtain ⟨h', a, b, c⟩ := ih (k + 1) (wr_ h 129 k (-1)) (ShM_of rfl s) (by omega) (by omega) (by
      intro j j0 j1
      rw [rd_wa]
      by_cases e : j = k
      · rw [if_pos e]
      · rw [if_neg e]; exact r j j0 (by omega))
    refine ⟨h', ?_, b, fr_tr (fr_wr rfl) c⟩
    rw [Mo_layFar_1_e, if_neg (by omega)]
    simp only [mr71 s, ml129 s]
    repeat rw [ck_t (by omega)]
    rw [w32_i (by omega) (by omega), a]
/-- the class's search, from the right pile on -/
def Bu_ (w H : Int) : Br := bu_ (nC_ w H) H (nN_ w H).toNat 0 (b0_ 0 (fun _ => 0) (fun _ => 0))
theorem nN_v {w H : Int} (h0 : 0 ≤ H) (h5 : H ≤ 5) : 1 ≤ nN_ w H ∧ nN_ w H ≤ 3840 := by
  have p := P2_v h0 h5
  unfold nN_
  split
  · have : 1 * 1 ≤ fc_ H * P2_ H := Int.mul_le_mul p.2.2.2.2.1 p.1 (by omega) (by omega)
    omega
  · omega
theorem Bu_I {w H : Int} (h0 : 0 ≤ H) (h5 : H ≤ 5) (w0 : w = 0 ∨ w = 1) : ∃ k, bI_ (nC_ w H) (D1_ w H) (nN_ w H) H 0 k 1 (Bu_ w H) ∧ (Bu_ w H).2.2.2 ≤ k := by
  have n := nN_v (w := w) h0 h5
  exact bu_I (G1_ h0 h5 w0) (nC_b h0 h5) h0 (by omega) _ 0 _ (by omega) (bI_0 (G1_ h0 h5 w0) _ _)
theorem Mo_layFar_s {h : am_H} {w H : Int} {X Y : Int → Int} (s : ShM h) (h0 : 0 ≤ H) (h5 : H ≤ 5) (w0 : w = 0 ∨ w = 1) (x : VP H X) (y : VB H Y) (z : w ≠ 1 → eR H Y (fun _ => 0)) : ∃ h' b', Mo_layFar h 94 H (sM_ H X Y) w = some (h', 0) ∧ MB h' b' ∧ bL_ (ph_ w H X Y) (nN_ w H) (Bu_ w H) b' ∧ fzF h h' := by
  have n := nN_v (w := w) h0 h5
  have G := G1_ h0 h5 w0
  have ni := nC_b (w := w) h0 h5
  have fi := ph_i (w := w) h0 h5 x y
  have nf := ph_f (w := w) h0 h5 x y
  have sb := sM_b h0 h5 x y
  obtain ⟨h1, a1, a2, a3⟩ := Mo_far_1 (H := H) (st := sM_ H X Y) (w := w) 3840 0 h s (by omega) (by omega) (fun j j0 j1 => by omega)
  have s1 := ShM_of a3.1 s
  have e0 : ph_ w H X Y 0 = sM_ H X Y := ph_0 h0 h5 y z
  have hm : MB (wr_ (wr_ (wr_ (wr_ h1 129 (sM_ H X Y) 0) 130 (sM_ H X Y) 1) 131 0 (sM_ H X Y)) 94 74 1) (b0_ (sM_ H X Y) (fun k => rd_ h1 130 k) (fun k => rd_ h1 131 k)) := by
    refine ⟨?_, ?_, ?_, rd_ws _ _ _ _⟩
    · exact RW_o (RW_o (RW_o (RW_wr a2 _ _) (by omega)) (by omega)) (by omega)
    · exact RW_o (RW_o (RW_wr (RW_o (fun k _ _ => rfl) (by omega)) _ _) (by omega)) (by omega)
    · exact RW_o (RW_wr (RW_o (RW_o (fun k _ _ => rfl) (by omega)) (by omega)) _ _) (by omega)
  obtain ⟨h2, c1, c2, c3⟩ := Mo_far_4 h0 h5 n.2 (by omega) fi (fun s s0 s1 => ph_b h0 h5 x s0 s1) ni nf G (nN_ w H).toNat 0 (wr_ (wr_ (wr_ (wr_ h1 129 (sM_ H X Y) 0) 130 (sM_ H X Y) 1) 131 0 (sM_ H X Y)) 94 74 1) (b0_ 0 (fun _ => 0) (fun _ => 0)) (b0_ (sM_ H X Y) (fun k => rd_ h1 130 k) (fun k => rd_ h1 131 k)) (ShM_of rfl s1) (by omega) (by omega) (bI_0 G _ _) (by
    have := bL_0 fi (by omega) (by omega) (fun _ => 0) (fun _ => 0) (fun k => rd_ h1 130 k) (fun k => rd_ h1 131 k) (st := 0)
    rw [e0] at this
    exact this) hm
  refine ⟨h2, _, ?_, c2, ?_, ?_⟩
  · rw [Mo_layFar_e, a1, Mo_layFar_1_e, if_pos (by omega)]
    simp only [mr71 s1, ml129 s1, mr72 s1, ml130 s1, mr73 s1, ml131 s1]
    repeat rw [ck_t (by omega)]
    exact c1
  · exact bu_L G fi ni nf h0 _ 0 _ _ (bI_0 G _ _) (by
      have := bL_0 fi (by omega) (by omega) (fun _ => 0) (fun _ => 0) (fun k => rd_ h1 130 k) (fun k => rd_ h1 131 k) (st := 0)
      rw [e0] at this
      exact this)
  · exact fzF_tr (fzF_tr (fz_fr a3 (fun a q => by omega) (by omega)) (fz_tr (fz_tr (fz_tr (fz_wr ⟨by omega, by omega⟩ (by omega)) (fz_wr ⟨by omega, by omega⟩ (by omega))) (fz_wr ⟨by omega, by omega⟩ (by omega))) (fz_wf (Or.inr rfl)))) c3
