/-! greedy on both sides -/
def gy_ : Nat → (Int → Int) → Int → Int
  | 0, _, c => c
  | n + 1, R, c => if pl_ R (n + 1) (n + 2) 0 = n + 1 then gy_ n R c else if pl_ R (n + 1) (n + 2) 0 ≤ 0 then gy_ n (rR_ (n + 2) R) (w32 (c + 1)) else gy_ n (rR_ (n + 2) (rR_ (pl_ R (n + 1) (n + 2) 0 + 1) R)) (w32 (w32 (c + 1) + 1))
def grd_ (T W : Tx) (p : Int) : Int := gy_ (W 0 p - 1).toNat (Rk T W p) 0
theorem VP_le {L : Int} {R : Int → Int} (v : VP (L + 1) R) (e : R L = L) (l0 : 0 ≤ L) : VP L R := by
  refine ⟨fun k k0 k1 => ?_, fun i j i0 i1 j0 j1 z => v.2 i j i0 (by omega) j0 (by omega) z⟩
  have a := v.1 k k0 (by omega)
  have : R k ≠ L := fun z => by
    have := v.2 k L k0 (by omega) l0 (by omega) (by rw [z, e])
    omega
  omega
/-- the step: where the greatest lies, that it comes down -/
theorem gy_k {n : Nat} {R : Int → Int} (v : VP (n + 2 : Int) R) : 0 ≤ pl_ R (n + 1) (n + 2) 0 ∧ pl_ R (n + 1) (n + 2) 0 < n + 2 ∧ R (pl_ R (n + 1) (n + 2) 0) = n + 1 := by
  have c := VP_on v (r := n + 1) (by omega) (by omega)
  exact pl_s (N := n + 2) (n + 2) 0 (by omega) (by omega) c
theorem gy_1 {n : Nat} {R : Int → Int} (v : VP (n + 2 : Int) R) (q : pl_ R (n + 1) (n + 2) 0 = n + 1) : VP (n + 1 : Int) R := by
  have k := gy_k v
  rw [q] at k
  exact VP_le (by rw [show (n : Int) + 1 + 1 = n + 2 by omega]; exact v) k.2.2 (by omega)
theorem gy_2 {n : Nat} {R : Int → Int} (v : VP (n + 2 : Int) R) (q : pl_ R (n + 1) (n + 2) 0 ≤ 0) : VP (n + 1 : Int) (rR_ (n + 2) R) := by
  have k := gy_k v
  have e : pl_ R (n + 1) (n + 2) 0 = 0 := by omega
  rw [e] at k
  refine VP_le (by rw [show (n : Int) + 1 + 1 = n + 2 by omega]; exact VP_r (Int.le_refl _) v) ?_ (by omega)
  unfold rR_
  rw [if_pos (by omega), show (n : Int) + 2 - 1 - (n + 1) = 0 by omega]
  exact k.2.2
theorem gy_3 {n : Nat} {R : Int → Int} (v : VP (n + 2 : Int) R) : VP (n + 1 : Int) (rR_ (n + 2) (rR_ (pl_ R (n + 1) (n + 2) 0 + 1) R)) := by
  have k := gy_k v
  refine VP_le (by rw [show (n : Int) + 1 + 1 = n + 2 by omega]; exact VP_r (Int.le_refl _) (VP_r (by omega) v)) ?_ (by omega)
  show rR_ (n + 2) (rR_ _ R) (n + 1) = _
  unfold rR_
  rw [if_pos (by omega), show (n : Int) + 2 - 1 - (n + 1) = 0 by omega, if_pos (by omega), show pl_ R (n + 1) (n + 2) 0 + 1 - 1 - 0 = pl_ R (n + 1) (n + 2) 0 by omega]
  exact k.2.2
/-- the same order -/
def oE (N : Int) (Z R : Int → Int) : Prop := ∀ i j, 0 ≤ i → i < N → 0 ≤ j → j < N → (Z i ≤ Z j ↔ R i ≤ R j)
theorem oE_r {N d : Int} {Z R : Int → Int} (d0 : d ≤ N) (e : oE N Z R) : oE N (rR_ d Z) (rR_ d R) := by
  intro i j i0 i1 j0 j1
  unfold rR_
  by_cases p : i < d <;> by_cases q : j < d
  · rw [if_pos p, if_pos p, if_pos q, if_pos q]; exact e _ _ (by omega) (by omega) (by omega) (by omega)
  · rw [if_pos p, if_pos p, if_neg q, if_neg q]; exact e _ _ (by omega) (by omega) (by omega) (by omega)
  · rw [if_neg p, if_neg p, if_pos q, if_pos q]; exact e _ _ (by omega) (by omega) (by omega) (by omega)
  · rw [if_neg p, if_neg p, if_neg q, if_neg q]; exact e _ _ (by omega) (by omega) (by omega) (by omega)
theorem oE_le {N M : Int} {Z R : Int → Int} (d0 : M ≤ N) (e : oE N Z R) : oE M Z R := fun i j i0 i1 j0 j1 => e i j i0 (by omega) j0 (by omega)
theorem Pg_lp {h : am_H} {a L k : Int} {Z R : Int → Int} (a0 : 0 ≤ a) (l : L ≤ ln_ h a) (L5 : L ≤ 5) (r : RW h a L Z) (e : oE L Z R) (v : VP L R) (k0 : 0 ≤ k) (k1 : k < L) (kR : R k = L - 1) : ∀ (n : Nat) (i b : Int), 1 ≤ i → i + n = L → 0 ≤ b → b < i → (∀ j, 0 ≤ j → j < i → R j ≤ R b) → Pp_placeOfGreatest_1 h a L b i = some (h, k) := by
  intro n
  induction n with
  | zero =>
    intro i b i1 hi b0 b1 q
    rw [Pp_placeOfGreatest_1_e, if_pos (by omega)]
    have x := q k k0 (by omega)
    have y := v.1 b b0 (by omega)
    exact so_v (v.2 b k b0 (by omega) k0 k1 (by omega))
  | succ n ih =>
    intro i b i1 hi b0 b1 q
    have z := e i b (by omega) (by omega) b0 (by omega)
    rw [Pp_placeOfGreatest_1_e, if_neg (by omega), ck_t (by omega), ck_t (by omega), ck_t (by omega), ck_t (by omega), r i (by omega) (by omega), r b b0 (by omega), w32_i (x := i + 1) (by omega) (by omega)]
    by_cases c : Z i ≤ Z b
    · rw [if_pos c]
      exact ih (i + 1) b (by omega) (by omega) b0 (by omega) (fun j j0 j1 => by
        by_cases t : j = i
        · rw [t]; exact z.mp c
        · exact q j j0 (by omega))
    · rw [if_neg c]
      have c' : ¬ R i ≤ R b := fun t => c (z.mpr t)
      exact ih (i + 1) i (by omega) (by omega) (by omega) (by omega) (fun j j0 j1 => by
        by_cases t : j = i
        · rw [t]; exact Int.le_refl _
        · have := q j j0 (by omega); omega)
section
variable {h : am_H} {T W I : Tx} {U : Int → Tx} {Q : Tx} {K S : Int}
theorem Fs_91 {h h' : am_H} (f : fr_ h h' (fun a => a = 91)) : Fs_ h h' := Fs_fr f (fun a z => by unfold Sc; omega)
theorem Pp_gy_6 : ∀ (n : Nat) (h : am_H) (Z R : Int → Int) (c : Int), CJ h T W I U Q K S → (n : Int) + 1 ≤ 5 → RW h 91 (n + 1) Z → oE (n + 1) Z R → VP (n + 1 : Int) R → ∃ h', Pp_greedy_6 h 0 c (n + 1) = some (h', gy_ n R c) ∧ CJ h' T W I U Q K S ∧ Fs_ h h' := by
  intro n
  induction n with
  | zero =>
    intro h Z R c g n5 r e v
    exact ⟨h, by rw [Pp_greedy_6_e, if_pos (by omega)]; rfl, g, Fs_refl h⟩
  | succ n ih =>
    intro h Z R c g n5 r e v
    have en : ((n + 1 : Nat) : Int) + 1 = n + 2 := by omega
    rw [en] at r e v ⊢
    have k := gy_k v
    have l := cl91 g.1.1
    have pg : Pp_placeOfGreatest h 91 (n + 2) = some (h, pl_ R (n + 1) (n + 2) 0) := by
      rw [Pp_placeOfGreatest_e]
      exact Pg_lp (by omega) (by omega) (by omega) r e v k.1 k.2.1 (by omega) (n + 1) 1 0 (by omega) (by omega) (by omega) (by omega) (fun j j0 j1 => by
        have : j = 0 := by omega
        rw [this]; exact Int.le_refl _)
    rw [Pp_greedy_6_e, if_neg (by omega), ck_t (by omega), cr0_17 g.1.1, pg, bd_v, w32_i (x := (n : Int) + 2 - 1) (by omega) (by omega), w32_i (x := (n : Int) + 2 + -1) (by omega) (by omega), show (n : Int) + 2 + -1 = n + 1 by omega]
    unfold gy_
    by_cases q1 : pl_ R (n + 1) (n + 2) 0 = n + 1
    · rw [if_neg (by omega), if_pos q1]
      exact ih h Z R c g (by omega) (fun i i0 i1 => r i i0 (by omega)) (oE_le (by omega) e) (gy_1 v q1)
    · rw [if_pos (by omega), if_neg q1]
      by_cases q2 : pl_ R (n + 1) (n + 2) 0 ≤ 0
      · rw [if_pos q2, if_pos q2, ck_t (by omega)]
        obtain ⟨h1, a1, a2, a3⟩ := Pp_reverse_s (h := h) (a := 91) (n := n + 2) (d := n + 2) (by omega) (by omega) (by omega) (by omega) (by omega) r
        have g1 := CJ_F g (Fs_91 a3)
        obtain ⟨h2, b1, b2, b3⟩ := ih h1 _ (rR_ (n + 2) R) (w32 (c + 1)) g1 (by omega) (fun i i0 i1 => a2 i i0 (by omega)) (oE_le (by omega) (oE_r (Int.le_refl _) e)) (gy_2 v q2)
        exact ⟨h2, by rw [cr0_17 g.1.1, a1, bd_v, b1], b2, Fs_tr (Fs_91 a3) b3⟩
      · rw [if_neg q2, if_neg q2, ck_t (by omega)]
        obtain ⟨h1, a1, a2, a3⟩ := Pp_reverse_s (h := h) (a := 91) (n := n + 2) (d := pl_ R (n + 1) (n + 2) 0 + 1) (by omega) (by omega) (by omega) (by omega) (by omega) r
        have g1 := CJ_F g (Fs_91 a3)
        have l1 := cl91 g1.1.1
        obtain ⟨h2, b1, b2, b3⟩ := Pp_reverse_s (h := h1) (a := 91) (n := n + 2) (d := n + 2) (by omega) (by omega) (by omega) (by omega) (by omega) a2
        have g2 := CJ_F g1 (Fs_91 b3)
        obtain ⟨h3, c1, c2, c3⟩ := ih h2 _ (rR_ (n + 2) (rR_ (pl_ R (n + 1) (n + 2) 0 + 1) R)) (w32 (w32 (c + 1) + 1)) g2 (by omega) (fun i i0 i1 => b2 i i0 (by omega)) (oE_le (by omega) (oE_r (Int.le_refl _) (oE_r (by omega) e))) (gy_3 v)
        exact ⟨h3, by rw [cr0_17 g.1.1, w32_i (x := pl_ R (n + 1) (n + 2) 0 + 1) (by omega) (by omega), a1, bd_v, ck_t (by omega), cr0_17 g1.1.1, b1, bd_v, c1], c2, Fs_tr (Fs_91 a3) (Fs_tr (Fs_91 b3) c3)⟩
theorem Pp_gy_3 {p : Int} (v : WV T W) (p0 : 0 ≤ p) (p1 : p < T 0 1) : ∀ (n : Nat) (k : Int) (h : am_H), CJ h T W I U Q K S → 0 ≤ k → k + n = W 0 p → RW h 91 k (Zs T W p) → ∃ h', Pp_greedy_3 h 0 p 0 k = Pp_greedy_3 h' 0 p 0 (W 0 p) ∧ RW h' 91 (W 0 p) (Zs T W p) ∧ CJ h' T W I U Q K S ∧ Fs_ h h' := by
  intro n
  have hh := v.2.1 p p0 p1
  have v0 := v.1
  induction n with
  | zero =>
    intro k h g k0 hk r
    have z : k = W 0 p := by omega
    rw [z] at r ⊢
    exact ⟨h, rfl, r, g, Fs_refl h⟩
  | succ n ih =>
    intro k h g k0 hk r
    have o := g.1.2.2.1
    obtain ⟨⟨w0, s6, s7, s8, s9, s10, s11, s12, s13, l1, l2, l3, l4, l5, l6, l7, l8⟩, ⟨e0, e1, e2, e3, e4, e5⟩, f1, f2, f3, f4, f5, f6, f7⟩ := id o
    have F1 : Fs_ h (wr_ h 91 k (Zs T W p k)) := Fs_91 (fr_wr rfl)
    obtain ⟨h', b1, b2, b3, b4⟩ := ih (k + 1) _ (CJ_F g F1) (by omega) (by omega) (RW_gr r rfl)
    refine ⟨h', ?_, b2, b3, Fs_tr F1 b4⟩
    rw [Pp_greedy_3_e]
    simp only [cr0_7 g.1.1, cr0_17 g.1.1, s6, l1, f1 p p0 p1]
    rw [ck_t (by omega), ck_t (by omega), ck_t (by omega), ck_t (by omega), if_neg (by omega), ck_t (by omega), ck_t (by omega), ck_t (by omega), Wo_sizeAt_s o v, bd_v, cl91 g.1.1, ck_t (by omega), ck_t (by omega), w32_i (x := k + 1) (by omega) (by omega), b1]
theorem Pp_greedy_t (g : CJ h T W I U Q K S) (sv : SV T W I U Q) {p : Int} (p0 : 0 ≤ p) (p1 : p < T 0 1) : ∃ h', Pp_greedy h 0 p = some (h', grd_ T W p) ∧ CJ h' T W I U Q K S ∧ Fs_ h h' := by
  have v := sv.2.1
  have v0 := v.1
  have hh := v.2.1 p p0 p1
  obtain ⟨h1, a1, a2, a3, a4⟩ := Pp_gy_3 v p0 p1 (W 0 p).toNat 0 h g (by omega) (by omega) (fun k x y => by omega)
  have o := a3.1.2.2.1
  obtain ⟨⟨w0, s6, s7, s8, s9, s10, s11, s12, s13, l1, l2, l3, l4, l5, l6, l7, l8⟩, ⟨e0, e1, e2, e3, e4, e5⟩, f1, f2, f3, f4, f5, f6, f7⟩ := id o
  have rv := Rk_v v p0 p1
  have fin : ∃ h', Pp_greedy_6 h1 0 0 (W 0 p) = some (h', grd_ T W p) ∧ CJ h' T W I U Q K S ∧ Fs_ h1 h' := by
    by_cases q : W 0 p ≤ 0
    · refine ⟨h1, ?_, a3, Fs_refl _⟩
      unfold grd_
      rw [Pp_greedy_6_e, if_pos (by omega), show (W 0 p - 1).toNat = 0 by omega]
      rfl
    · have e : ((W 0 p - 1).toNat : Int) + 1 = W 0 p := by omega
      have := Pp_gy_6 (W 0 p - 1).toNat h1 (Zs T W p) (Rk T W p) 0 a3 (by omega) (by rw [e]; exact a2) (by rw [e]; exact rv.2) (by rw [e]; exact rv.1)
      rw [e] at this
      exact this
  obtain ⟨h2, b1, b2, b3⟩ := fin
  refine ⟨h2, ?_, b2, Fs_tr a4 b3⟩
  rw [Pp_greedy_e]
  simp only [cr0_7 g.1.1]
  rw [ck_t (by omega), ck_t (by omega), Wo_hasPile_t g.1.2.2.1 p0 p1, bd_v, if_pos (by omega), a1, Pp_greedy_3_e]
  simp only [cr0_7 a3.1.1, s6, l1, f1 p p0 p1]
  rw [ck_t (by omega), ck_t (by omega), ck_t (by omega), ck_t (by omega), if_pos (by omega), ck_t (by omega), ck_t (by omega), ck_t (by omega), ck_t (by omega), b1]
theorem Pp_greedy_f (g : CI h T W I U Q) {p : Int} (c : ¬ (0 ≤ p ∧ p < T 0 1)) : Pp_greedy h 0 p = some (h, -1) := by
  rw [Pp_greedy_e]
  simp only [cr0_7 g.1]
  rw [ck_t (by omega), ck_t (by omega), Wo_hasPile_f g.2.2.1 c, bd_v, if_neg (by omega)]
/-- the reference -/
theorem Mo_gy_5 {L c x : Int} {R : Int → Int} (s : ShM h) (L5 : L ≤ 5) (r : RW h 128 L R) : ∀ (n : Nat) (i : Int), 0 ≤ i → i + n = L → (∃ j, i ≤ j ∧ j < L ∧ R j = x) → Mo_greedy_5 h 94 c x i = Mo_greedy_5 h 94 c x (pl_ R x n i) := by
  intro n
  induction n with
  | zero => intro i i0 hi ⟨j, a, b, _⟩; omega
  | succ n ih =>
    intro i i0 hi ⟨j, a, b, d⟩
    rw [pl_s1]
    by_cases q : R i = x
    · rw [if_pos q]
    · rw [if_neg q, ← ih (i + 1) (by omega) (by omega) ⟨j, by
        have : j ≠ i := fun e => q (by rw [← e]; exact d)
        omega, b, d⟩, Mo_greedy_5_e]
      simp only [mr69 s, ml128 s]
      rw [ck_t (by omega), ck_t (by omega), ck_t (by omega), r i i0 (by omega), if_neg q, w32_i (x := i + 1) (by omega) (by omega)]
theorem Mo_gy_3 (v : WV T W) : ∀ (n : Nat) (h : am_H) (R : Int → Int) (c : Int), MN h T W I U Q → (n : Int) + 1 ≤ 5 → RW h 128 (n + 1) R → VP (n + 1 : Int) R → ∃ h', Mo_greedy_3 h 94 c n = some (h', gy_ n R c) ∧ MN h' T W I U Q ∧ Mq h h' := by
  intro n
  induction n with
  | zero =>
    intro h R c g n5 r V
    exact ⟨h, by rw [Mo_greedy_3_e, if_pos (by omega)]; rfl, g, Mq_refl h⟩
  | succ n ih =>
    intro h R c g n5 r V
    have en : ((n + 1 : Nat) : Int) + 1 = n + 2 := by omega
    rw [en] at r V
    have en' : ((n + 1 : Nat) : Int) = n + 1 := by omega
    rw [en']
    have k := gy_k V
    have s := g.1
    rw [Mo_greedy_3_e, if_neg (by omega), Mo_gy_5 (L := n + 2) s (by omega) r (n + 2) 0 (by omega) (by omega) ⟨_, k.1, k.2.1, k.2.2⟩, Mo_greedy_5_e]
    simp only [mr69 s, ml128 s]
    rw [ck_t (by omega), ck_t (by omega), ck_t (by omega), r _ k.1 k.2.1, if_pos k.2.2, w32_i (x := (n : Int) + 1 + 1) (by omega) (by omega), w32_i (x := (n : Int) + 1 + -1) (by omega) (by omega), show (n : Int) + 1 + -1 = n by omega, show (n : Int) + 1 + 1 = n + 2 by omega]
    unfold gy_
    by_cases q1 : pl_ R (n + 1) (n + 2) 0 = n + 1
    · rw [if_neg (by omega), if_pos q1]
      exact ih h R c g (by omega) (fun i i0 i1 => r i i0 (by omega)) (gy_1 V q1)
    · rw [if_pos (by omega), if_neg q1]
      by_cases q2 : pl_ R (n + 1) (n + 2) 0 ≤ 0
      · rw [if_pos q2, if_pos q2, ck_t (by omega)]
        obtain ⟨h1, a1, a2, a3, a4⟩ := Mo_turnsRow_s (n := n + 2) (d := n + 2) (w := 0) s (by omega) (by omega) (by omega) rfl r
        have g1 := MN_q g v (mR_q a4)
        obtain ⟨h2, b1, b2, b3⟩ := ih h1 (rR_ (n + 2) R) (w32 (c + 1)) g1 (by omega) (fun i i0 i1 => a2 i i0 (by omega)) (gy_2 V q2)
        exact ⟨h2, by rw [a1, bd_v, b1], b2, Mq_tr (mR_q a4) b3⟩
      · rw [if_neg q2, if_neg q2, ck_t (by omega)]
        obtain ⟨h1, a1, a2, a3, a4⟩ := Mo_turnsRow_s (n := n + 2) (d := pl_ R (n + 1) (n + 2) 0 + 1) (w := 0) s (by omega) (by omega) (by omega) rfl r
        have g1 := MN_q g v (mR_q a4)
        obtain ⟨h2, b1, b2, b3, b4⟩ := Mo_turnsRow_s (n := n + 2) (d := n + 2) (w := 0) g1.1 (by omega) (by omega) (by omega) rfl a2
        have g2 := MN_q g1 v (mR_q b4)
        obtain ⟨h3, c1, c2, c3⟩ := ih h2 (rR_ (n + 2) (rR_ (pl_ R (n + 1) (n + 2) 0 + 1) R)) (w32 (w32 (c + 1) + 1)) g2 (by omega) (fun i i0 i1 => b2 i i0 (by omega)) (gy_3 V)
        exact ⟨h3, by rw [w32_i (x := pl_ R (n + 1) (n + 2) 0 + 1) (by omega) (by omega), a1, bd_v, ck_t (by omega), b1, bd_v, c1], c2, Mq_tr (mR_q a4) (Mq_tr (mR_q b4) c3)⟩
theorem Mo_greedy_t (g0 : MN h T W I U Q) (sv : SV T W I U Q) {p : Int} (p0 : 0 ≤ p) (p1 : p < T 0 1) : ∃ h', Mo_greedy h 94 p = some (h', grd_ T W p) ∧ MN h' T W I U Q ∧ Mq h h' := by
  have v := sv.2.1
  have v0 := v.1
  have hh := v.2.1 p p0 p1
  have q2 := Mq_2 h 0
  have g := MN_q g0 v q2
  obtain ⟨h1, a1, a2, a3, a4⟩ := Mo_codeOfPile_s (p := p) (w := 0) g v p0 p1 (Or.inl rfl)
  have y0 : rd_ h1 120 p = W 0 p := by have := a3.2.2.2.1.2.1 p p0 p1; simpa using this
  have rv := Rk_v v p0 p1
  have fin : ∃ h', Mo_greedy_3 h1 94 0 (W 0 p - 1) = some (h', grd_ T W p) ∧ MN h' T W I U Q ∧ Mq h1 h' := by
    by_cases q : W 0 p ≤ 0
    · refine ⟨h1, ?_, a3, Mq_refl _⟩
      unfold grd_
      rw [Mo_greedy_3_e, if_pos (by omega), show (W 0 p - 1).toNat = 0 by omega]
      rfl
    · have e : ((W 0 p - 1).toNat : Int) + 1 = W 0 p := by omega
      have e' : ((W 0 p - 1).toNat : Int) = W 0 p - 1 := by omega
      have := Mo_gy_3 v (W 0 p - 1).toNat h1 (Rk T W p) 0 a3 (by omega) (by rw [e]; exact a2) (by rw [e]; exact rv.1)
      rw [e'] at this
      exact this
  obtain ⟨h2, b1, b2, b3⟩ := fin
  refine ⟨h2, ?_, b2, Mq_tr q2 (Mq_tr (mR_q a4) b3)⟩
  rw [Mo_greedy_e, ck_t (by omega), ck_t (by omega), Mo_isPile_t g.2.1 p0 p1, bd_v, if_pos (by omega), ck_t (by omega), a1, bd_v]
  simp only [mr52 a3.1, ml120 a3.1, y0]
  rw [ck_t (by omega), ck_t (by omega), ck_t (by omega), w32_i (x := W 0 p - 1) (by omega) (by omega), b1]
theorem Mo_greedy_f (g0 : MN h T W I U Q) (v : WV T W) {p : Int} (c : ¬ (0 ≤ p ∧ p < T 0 1)) : Mo_greedy h 94 p = some (wr_ h 94 2 0, -1) := by
  have g := MN_q g0 v (Mq_2 h 0)
  rw [Mo_greedy_e, ck_t (by omega), ck_t (by omega), Mo_isPile_f g.2.1 c, bd_v, if_neg (by omega)]
end
