/-! the game in the class: marks -/
def gfr_ (h h' : am_H) (c a : Int) : Prop := h'.2 = h.2 ∧ ∀ x k, ¬ (x = a ∨ x = a + 1 ∨ (x = c ∧ k = 10)) → rd_ h' x k = rd_ h x k
theorem gfr_refl (h : am_H) (c a : Int) : gfr_ h h c a := ⟨rfl, fun _ _ _ => rfl⟩
theorem gfr_tr {h h1 h2 : am_H} {c a : Int} (x : gfr_ h h1 c a) (y : gfr_ h1 h2 c a) : gfr_ h h2 c a := ⟨y.1.trans x.1, fun b k q => (y.2 b k q).trans (x.2 b k q)⟩
theorem gfr_fr {h h' : am_H} {c a : Int} (x : gfr_ h h' c a) : fr_ h h' (fun b => b = a ∨ b = a + 1 ∨ b = c) := ⟨x.1, fun b q k => x.2 b k (fun z => q (by omega))⟩
theorem gfr_a {h : am_H} {c a k v : Int} : gfr_ h (wr_ h a k v) c a := ⟨rfl, fun b j q => rd_wo (fun e => q (Or.inl e))⟩
theorem gfr_b {h : am_H} {c a k v : Int} : gfr_ h (wr_ h (a + 1) k v) c a := ⟨rfl, fun b j q => rd_wo (fun e => q (Or.inr (Or.inl e)))⟩
theorem gfr_c {h : am_H} {c a v : Int} : gfr_ h (wr_ h c 10 v) c a := ⟨rfl, fun b j q => if_neg (fun e => q (Or.inr (Or.inr e)))⟩
theorem CHs_g {h h' : am_H} {u c w H a : Int} (s : CHs h u c w H) (f : gfr_ h h' c a) (ca : c + 4 ≤ a) : CHs h' u c w H := by
  have F := gfr_fr f
  unfold CHs
  rw [fr_nn F, fr_ln F, fr_rf F, f.2 c 1 (by omega), f.2 c 2 (by omega), f.2 c 3 (by omega), fr_rf F, fr_rf F, fr_rf F, fr_ln F, fr_ln F, fr_ln F]
  exact s
theorem CHu_g {h h' : am_H} {u c a : Int} (s : CHu h u) (f : gfr_ h h' c a) (ua : u + 3 ≤ a) (lc : ln_ h c = 11) : CHu h' u := by
  have n1 : u + 1 ≠ c := fun e => by rw [← e] at lc; have := s.2.2.1.1; omega
  have n2 : u + 2 ≠ c := fun e => by rw [← e] at lc; have := s.2.2.1.2; omega
  exact CHu_fr s (gfr_fr f) (by omega) (by omega)
def GH (h : am_H) (c a N : Int) (m st : Int → Int) (k : Int) : Prop := (rf_ h c 8 = a ∧ rf_ h c 9 = a + 1) ∧ (ln_ h a = N ∧ ln_ h (a + 1) = N) ∧ RW h a N m ∧ (∀ i, 0 ≤ i → i < k → rd_ h (a + 1) i = st i) ∧ rd_ h c 10 = k
def TDx (w H : Int) (m : Int → Int) (s x D : Int) : Prop := ∀ d, 2 - w ≤ d → d ≤ H → d < D → nC_ w H s d ≠ 0 → ((∃ e, 2 - w ≤ e ∧ e ≤ H ∧ e ≠ d ∧ tbi_ x (e - 1) = 1) → tbi_ (m (nC_ w H s d)) (d + 4) = 1) ∧ ((∀ e, 2 - w ≤ e → e ≤ H → e ≠ d → tbi_ x (e + 4) = 1) → tbi_ (m (nC_ w H s d)) (d - 1) = 1)
def mo_le (N : Int) (m m' : Int → Int) : Prop := ∀ s j, 0 ≤ s → s < N → 0 ≤ j → j < 10 → tbi_ (m s) j = 1 → tbi_ (m' s) j = 1
theorem mo_tr {N : Int} {m m1 m2 : Int → Int} (x : mo_le N m m1) (y : mo_le N m1 m2) : mo_le N m m2 := fun s j a b c d e => y s j a b c d (x s j a b c d e)
def pp_ (x : Int) : Int := sm_ (fun j => tbi_ x j) 10
def GJ (w H : Int) (m st : Int → Int) (k cnt s0 : Int) : Prop := ((∀ s, 0 ≤ s → s < nN_ w H → 0 ≤ m s ∧ m s < 2048) ∧ m 0 = 0) ∧ mo_le (nN_ w H) m (gm_ w H) ∧ (∀ s, 0 ≤ s → s < nN_ w H → (1024 ≤ m s ↔ ∃ i, 0 ≤ i ∧ i < k ∧ st i = s)) ∧ (0 ≤ k ∧ (∀ i, 0 ≤ i → i < k → 0 < st i ∧ st i < nN_ w H) ∧ ∀ i j, 0 ≤ i → i < j → j < k → st i ≠ st j) ∧ cnt + k ≤ sm_ (fun s => pp_ (m s)) (nN_ w H).toNat ∧ ∀ s, 0 < s → s < nN_ w H → s ≠ s0 → m s < 1024 → TDx w H m s (m s) 6
theorem tb_lt {x j : Int} (x0 : 0 ≤ x) (x1 : x < 2048) (j0 : 0 ≤ j) (j1 : j < 10) (z : tbi_ x j = 0) : x + 2 ^ j.toNat < 2048 ∧ (x < 1024 → x + 2 ^ j.toNat < 1024) ∧ 0 < (2 : Int) ^ j.toNat := by
  have hj : j = 0 ∨ j = 1 ∨ j = 2 ∨ j = 3 ∨ j = 4 ∨ j = 5 ∨ j = 6 ∨ j = 7 ∨ j = 8 ∨ j = 9 := by omega
  unfold tbi_ at *
  rcases hj with q | q | q | q | q | q | q | q | q | q <;> subst q <;> simp only [Int.reduceToNat, Int.reducePow] at * <;> omega
theorem tb_10 {x : Int} (x0 : 0 ≤ x) (x1 : x < 1024) : tbi_ x 10 = 0 := by
  unfold tbi_
  simp only [Int.reduceToNat, Int.reducePow]
  omega
theorem tb_1024 {x i : Int} (x0 : 0 ≤ x) (x1 : x < 1024) (i0 : 0 ≤ i) (i1 : i < 10) : tbi_ (x + 1024) i = tbi_ x i := by
  have := tb_ad (x := x) (j := 10) x0 (by omega) (by omega) i0 i1 (tb_10 x0 x1)
  rw [if_neg (by omega)] at this
  exact this
theorem pp_ad {x j : Int} (x0 : 0 ≤ x) (j0 : 0 ≤ j) (j1 : j < 10) (z : tbi_ x j = 0) : pp_ (x + 2 ^ j.toNat) = pp_ x + 1 := by
  unfold pp_
  have := sm_2 (f := fun i => tbi_ x i) (g := fun i => tbi_ (x + 2 ^ j.toNat) i) (j := j) 10 (fun i i0 i1 hi => by
    show tbi_ _ i = tbi_ x i
    rw [tb_ad x0 j0 (by omega) i0 (by omega) z, if_neg hi])
  rw [this, if_pos (by omega)]
  show _ + (tbi_ (x + 2 ^ j.toNat) j - tbi_ x j) = _
  rw [tb_ad x0 j0 (by omega) j0 j1 z, if_pos rfl, z]
  omega
theorem pp_1024 {x : Int} (x0 : 0 ≤ x) (x1 : x < 1024) : pp_ (x + 1024) = pp_ x := by
  unfold pp_
  exact sm_c _ (fun i i0 i1 => tb_1024 x0 x1 i0 (by omega))
theorem pp_b (x : Int) : 0 ≤ pp_ x ∧ pp_ x ≤ 10 := by
  have q : ∀ n : Nat, 0 ≤ sm_ (fun j => tbi_ x j) n ∧ sm_ (fun j => tbi_ x j) n ≤ n := by
    intro n
    induction n with
    | zero => exact ⟨Int.le_refl _, Int.le_refl _⟩
    | succ n ih =>
      have e : sm_ (fun j => tbi_ x j) (n + 1) = sm_ (fun j => tbi_ x j) n + tbi_ x n := rfl
      rw [e]
      rcases tb_01 x n with z | z <;> omega
  exact q 10
theorem TD_mo {w H : Int} {m m' : Int → Int} {s x D : Int} (h0 : 0 ≤ H) (h5 : H ≤ 5) (w0 : w = 0 ∨ w = 1) (s0 : 0 ≤ s) (s1 : s < nN_ w H) (t : TDx w H m s x D) (mo : mo_le (nN_ w H) m m') : TDx w H m' s x D := by
  intro d d0 d1 d2 nz
  have nb := nC_b (w := w) h0 h5 s d s0 s1 (by omega) d1
  obtain ⟨a, b⟩ := t d d0 d1 d2 nz
  exact ⟨fun q => mo _ _ nb.1 nb.2 (by omega) (by omega) (a q), fun q => mo _ _ nb.1 nb.2 (by omega) (by omega) (b q)⟩
section
variable {u c a w H : Int}
theorem Ch_mark_s {h : am_H} {m st : Int → Int} {k cnt s0 t j : Int} (h0 : 0 ≤ H) (h5 : H ≤ 5) (w0 : w = 0 ∨ w = 1) (c0 : 0 ≤ c) (ca : c + 4 ≤ a) (G : GH h c a (nN_ w H) m st k) (J : GJ w H m st k cnt s0) (t0 : 0 ≤ t) (t1 : t < nN_ w H) (j0 : 0 ≤ j) (j1 : j < 10) (so : t ≠ 0 → tbi_ (gm_ w H t) j = 1) : ∃ h' m' st' k', Ch_mark h c t (2 ^ j.toNat) = some (h', 0) ∧ GH h' c a (nN_ w H) m' st' k' ∧ GJ w H m' st' k' cnt s0 ∧ mo_le (nN_ w H) m m' ∧ (t ≠ 0 → tbi_ (m' t) j = 1) ∧ (m' s0 = m s0 ∨ 1024 ≤ m' s0) ∧ gfr_ h h' c a := by
  have nv := nN_v (w := w) h0 h5
  obtain ⟨⟨g1, g2⟩, ⟨g3, g4⟩, g5, g6, g7⟩ := id G
  obtain ⟨⟨ja, ja0⟩, jb, jc, ⟨jd, jd1, jd2⟩, jf, je⟩ := id J
  rw [Ch_mark_e]
  by_cases tz : t = 0
  · rw [if_pos tz]
    exact ⟨h, m, st, k, rfl, G, J, fun _ _ _ _ _ _ e => e, fun n => absurd tz n, Or.inl rfl, gfr_refl _ _ _⟩
  · rw [if_neg tz]
    simp only [g1, g2, g3, g4, g5 t t0 t1]
    rw [ck_t (by omega), ck_t (by omega), ck_t (by omega)]
    obtain ⟨m0, m1⟩ := ja t t0 t1
    obtain ⟨x1, x2⟩ := x1_ m0 m1 j0 j1
    by_cases z : an_ (m t) (2 ^ j.toNat) = 0
    · have zb := x1.mp z
      have ex := x2 zb
      obtain ⟨l1, l2, l3⟩ := tb_lt m0 m1 j0 j1 zb
      rw [if_pos z, ex]
      simp only [rd_ws]
      rw [ck_t (by omega), ck_t (by omega), ck_t (by omega), ck_t (by omega), ck_t (by omega), ck_t (by omega), ck_t (by omega), ck_t (by omega)]
      obtain ⟨y1, y2, -⟩ := x2_ (x := m t + 2 ^ j.toNat) (by omega) l1
      -- what holds however it goes on, with v there
      have com : ∀ v, 1024 ≤ v → v < 2048 → (∀ i, 0 ≤ i → i < 10 → tbi_ v i = tbi_ (m t + 2 ^ j.toNat) i) → ((∀ s, 0 ≤ s → s < nN_ w H → 0 ≤ ud_ m t v s ∧ ud_ m t v s < 2048) ∧ ud_ m t v 0 = 0) ∧ mo_le (nN_ w H) (ud_ m t v) (gm_ w H) ∧ mo_le (nN_ w H) m (ud_ m t v) ∧ tbi_ (ud_ m t v t) j = 1 ∧ (ud_ m t v s0 = m s0 ∨ 1024 ≤ ud_ m t v s0) ∧ sm_ (fun s => pp_ (ud_ m t v s)) (nN_ w H).toNat = sm_ (fun s => pp_ (m s)) (nN_ w H).toNat + 1 ∧ ∀ s, 0 < s → s < nN_ w H → s ≠ s0 → ud_ m t v s < 1024 → TDx w H (ud_ m t v) s (ud_ m t v s) 6 := by
        intro v v0 v1 vb
        have mo : mo_le (nN_ w H) m (ud_ m t v) := by
          intro s i a1 a2 a3 a4 e
          by_cases q : s = t
          · rw [q, ud_s, vb i a3 a4, tb_ad m0 j0 (by omega) a3 a4 zb]
            rw [q] at e
            by_cases r : i = j
            · rw [if_pos r]
            · rw [if_neg r]; exact e
          · rw [ud_o q]; exact e
        refine ⟨⟨fun s a1 a2 => ?_, ?_⟩, ?_, mo, ?_, ?_, ?_, ?_⟩
        · by_cases q : s = t
          · rw [q, ud_s]; omega
          · rw [ud_o q]; exact ja s a1 a2
        · rw [ud_o (fun e => tz e.symm)]; exact ja0
        · intro s i a1 a2 a3 a4 e
          by_cases q : s = t
          · rw [q, ud_s, vb i a3 a4, tb_ad m0 j0 (by omega) a3 a4 zb] at e
            rw [q]
            by_cases r : i = j
            · rw [r]; exact so tz
            · rw [if_neg r] at e
              exact jb t i t0 t1 a3 a4 e
          · rw [ud_o q] at e
            exact jb s i a1 a2 a3 a4 e
        · rw [ud_s, vb j j0 j1, tb_ad m0 j0 (by omega) j0 j1 zb, if_pos rfl]
        · by_cases q : s0 = t
          · rw [q, ud_s]; exact Or.inr v0
          · rw [ud_o q]; exact Or.inl rfl
        · have := sm_2 (f := fun s => pp_ (m s)) (g := fun s => pp_ (ud_ m t v s)) (j := t) (nN_ w H).toNat (fun i i0 i1 hi => by show pp_ _ = pp_ _; rw [ud_o hi])
          rw [this, if_pos (by omega)]
          show _ + (pp_ (ud_ m t v t) - pp_ (m t)) = _
          have ev : pp_ v = pp_ (m t + 2 ^ j.toNat) := by
            unfold pp_
            exact sm_c _ (fun i i0 i1 => vb i i0 (by omega))
          rw [ud_s, ev, pp_ad m0 j0 j1 zb]
          omega
        · intro s a1 a2 a3 a4
          have q : s ≠ t := fun e => by rw [e, ud_s] at a4; omega
          rw [ud_o q] at a4 ⊢
          exact TD_mo h0 h5 w0 (by omega) a2 (je s a1 a2 a3 a4) mo
      by_cases mq : m t < 1024
      · have l4 := l2 mq
        have k1 : k < nN_ w H - 1 := by
          have ns : ∀ i, 0 ≤ i → i < k → st i ≠ t := fun i i0 i1 e => by
            have := (jc t t0 t1).mpr ⟨i, i0, i1, e⟩
            omega
          have := pg_l1 (nN_ w H - 1).toNat (fun i => if i < k then st i - 1 else t - 1) (k + 1).toNat (fun i i0 i1 => by
            show 0 ≤ (if i < k then st i - 1 else t - 1) ∧ (if i < k then st i - 1 else t - 1) < _
            by_cases q : i < k
            · rw [if_pos q]
              have := jd1 i i0 q
              omega
            · rw [if_neg q]; omega) (fun i i' i0 i1 i2 => by
            show (if i < k then st i - 1 else t - 1) ≠ (if i' < k then st i' - 1 else t - 1)
            rw [if_pos (by omega)]
            by_cases q : i' < k
            · rw [if_pos q]
              have := jd2 i i' i0 i1 q
              omega
            · rw [if_neg q]
              have := ns i i0 (by omega)
              omega)
          omega
        have e10 : ∀ v, rd_ (wr_ h a t v) c 10 = k := fun v => by rw [rd_wo (by omega)]; exact g7
        have e11 : ∀ v v', rd_ (wr_ (wr_ h a t v) a t v') c 10 = k := fun v v' => by rw [rd_wo (by omega)]; exact e10 v
        have e12 : ∀ v v' y, rd_ (wr_ (wr_ (wr_ h a t v) a t v') (a + 1) k y) c 10 = k := fun v v' y => by rw [rd_wo (by omega)]; exact e11 v v'
        rw [if_neg (c := an_ (m t + 2 ^ j.toNat) 1024 ≠ 0) (fun n => n (y1.mpr l4)), y2 l4]
        simp only [e10, e11, e12]
        rw [ck_t (by omega), ck_t (by omega), ck_t (by omega), if_neg (c := nN_ w H ≤ k) (by omega)]
        repeat rw [ck_t (by omega)]
        rw [w32_i (x := k + 1) (by omega) (by omega)]
        obtain ⟨q1, q2, q3, q4, q5, q6, q7⟩ := com (m t + 2 ^ j.toNat + 1024) (by omega) (by omega) (fun i i0 i1 => tb_1024 (by omega) l4 i0 i1)
        refine ⟨_, ud_ m t (m t + 2 ^ j.toNat + 1024), ud_ st k t, k + 1, rfl, ⟨⟨g1, g2⟩, ⟨g3, g4⟩, ?_, ?_, rd_ws _ _ _ _⟩, ⟨q1, q2, ?_, ⟨by omega, ?_, ?_⟩, by omega, q7⟩, q3, fun _ => q4, q5, gfr_tr (gfr_tr (gfr_tr gfr_a gfr_a) gfr_b) gfr_c⟩
        · have r1 := RW_wr (RW_wr g5 t (m t + 2 ^ j.toNat)) t (m t + 2 ^ j.toNat + 1024)
          have r2 := RW_o (x := c) (k := 10) (v := k + 1) (RW_o (x := a + 1) (k := k) (v := t) r1 (by omega)) (by omega)
          intro s a1 a2
          rw [r2 s a1 a2]
          by_cases q : s = t
          · rw [q, ud_s, ud_s]
          · rw [ud_o q, ud_o q, ud_o q]
        · intro i i0 i1
          rw [rd_wo (by omega), rd_wa]
          by_cases q : i = k
          · rw [if_pos q, q, ud_s]
          · rw [if_neg q, ud_o q, rd_wo (by omega), rd_wo (by omega)]
            exact g6 i i0 (by omega)
        · intro s a1 a2
          by_cases q : s = t
          · rw [q, ud_s]
            exact ⟨fun _ => ⟨k, jd, by omega, ud_s _ _ _⟩, fun _ => by omega⟩
          · rw [ud_o q, jc s a1 a2]
            constructor
            · intro ⟨i, b1, b2, b3⟩
              exact ⟨i, b1, by omega, by rw [ud_o (by omega)]; exact b3⟩
            · intro ⟨i, b1, b2, b3⟩
              have ik : i ≠ k := fun e => q (by rw [e, ud_s] at b3; exact b3.symm)
              rw [ud_o ik] at b3
              exact ⟨i, b1, by omega, b3⟩
        · intro i i0 i1
          by_cases q : i = k
          · rw [q, ud_s]; omega
          · rw [ud_o q]; exact jd1 i i0 (by omega)
        · intro i i' i0 i1 i2
          by_cases q : i' = k
          · rw [q, ud_s, ud_o (by omega)]
            intro e
            have := (jc t t0 t1).mpr ⟨i, i0, by omega, e⟩
            omega
          · rw [ud_o q, ud_o (by omega)]
            exact jd2 i i' i0 i1 (by omega)
      · rw [if_pos (c := an_ (m t + 2 ^ j.toNat) 1024 ≠ 0) (fun n => by have := y1.mp n; omega)]
        obtain ⟨q1, q2, q3, q4, q5, q6, q7⟩ := com (m t + 2 ^ j.toNat) (by omega) l1 (fun _ _ _ => rfl)
        refine ⟨_, ud_ m t (m t + 2 ^ j.toNat), st, k, rfl, ⟨⟨g1, g2⟩, ⟨g3, g4⟩, RW_wr g5 _ _, fun i i0 i1 => by rw [rd_wo (by omega)]; exact g6 i i0 i1, by rw [rd_wo (by omega)]; exact g7⟩, ⟨q1, q2, ?_, ⟨jd, jd1, jd2⟩, by omega, q7⟩, q3, fun _ => q4, q5, gfr_a⟩
        intro s a1 a2
        by_cases q : s = t
        · rw [q, ud_s]
          exact ⟨fun _ => (jc t t0 t1).mp (by omega), fun _ => by omega⟩
        · rw [ud_o q]; exact jc s a1 a2
    · rw [if_neg z]
      have e1 : tbi_ (m t) j = 1 := by
        rcases tb_01 (m t) j with q | q
        · exact absurd (x1.mpr q) z
        · exact q
      exact ⟨h, m, st, k, rfl, G, J, fun _ _ _ _ _ _ e => e, fun _ => e1, Or.inl rfl, gfr_refl _ _ _⟩
end
