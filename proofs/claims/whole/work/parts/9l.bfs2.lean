/-! one search: a step, a head, the end -/
theorem bs_I {nx : Int → Int → Int} {D : Int → Int} {N H st k d : Int} {b : Br} (G : bG_ nx D N H st) (ni : nI_ nx N H) (d1 : 1 ≤ d) (d2 : d ≤ H) (hk : k < b.2.2.2) (I : bI_ nx D N H st k d b) : bI_ nx D N H st k (d + 1) (bs_ (b.2.2.1 k) (nx (b.2.2.1 k) d) b) ∧ (bs_ (b.2.2.1 k) (nx (b.2.2.1 k) d) b).2.2.1 k = b.2.2.1 k ∧ k < (bs_ (b.2.2.1 k) (nx (b.2.2.1 k) d) b).2.2.2 := by
  have I0 := I
  obtain ⟨i1, i2, i3, i4, i5, i6⟩ := I
  obtain ⟨c0, c1, fc, cR⟩ := i2 k i1.2.2 hk
  obtain ⟨t0, t1⟩ := ni _ d c0 c1 d1 d2
  obtain ⟨g1, g2, g3, g4⟩ := id G
  obtain ⟨q1, q2⟩ := g3 _ d c0 c1 d1 d2 cR
  have hD := g2 _ c0 c1
  have hT := g2 _ t0 t1
  have near : ∀ u, 0 ≤ u → u < N → D u < 15 → D u ≤ D (b.2.2.1 k) → ∃ i, 0 ≤ i ∧ i < b.2.2.2 ∧ b.2.2.1 i = u := by
    intro u u0 u1 hu hm
    have := g2 u u0 u1
    refine bI_near G I0 (M := D (b.2.2.1 k)) ?_ (D u).toNat u u0 u1 hu (by omega) hm
    intro i a1 a2
    by_cases e : i = k
    · rw [e]; exact Int.le_refl _
    · exact (i3 k i i1.2.2 (by omega) a2).2
  unfold bs_
  have z := b2_1 (b.2.2.1 k) (nx (b.2.2.1 k) d) (b1_ (b.2.2.1 k) (nx (b.2.2.1 k) d) b)
  generalize b2_ (b.2.2.1 k) (nx (b.2.2.1 k) d) (b1_ (b.2.2.1 k) (nx (b.2.2.1 k) d) b) = y at z
  obtain ⟨z1, z2⟩ := z
  unfold bI_
  rw [z1, z2]
  clear z1 z2 y
  unfold b1_
  generalize ht : nx (b.2.2.1 k) d = t at *
  generalize hc : b.2.2.1 k = c at *
  by_cases q : b.1 t < 0
  · have hw : w32 (b.1 c + 1) = D c + 1 := by rw [fc, w32_i (by omega) (by omega)]
    have tD : D t = D c + 1 := by
      apply Classical.byContradiction
      intro e
      obtain ⟨i, a1, a2, a3⟩ := near t t0 t1 q2 (by omega)
      have := (i2 i a1 a2).2.2.1
      rw [a3] at this
      omega
    have new : ∀ i, 0 ≤ i → i < b.2.2.2 → b.2.2.1 i ≠ t := by
      intro i a1 a2 e
      have := (i2 i a1 a2).2.2.1
      rw [e] at this
      omega
    rw [if_pos q, hw]
    show (_ ∧ (∀ i, 0 ≤ i → i < b.2.2.2 + 1 → 0 ≤ ud_ b.2.2.1 b.2.2.2 t i ∧ ud_ b.2.2.1 b.2.2.2 t i < N ∧ ud_ b.1 t (D c + 1) (ud_ b.2.2.1 b.2.2.2 t i) = D (ud_ b.2.2.1 b.2.2.2 t i) ∧ D (ud_ b.2.2.1 b.2.2.2 t i) < 15) ∧ (∀ i j, 0 ≤ i → i < j → j < b.2.2.2 + 1 → ud_ b.2.2.1 b.2.2.2 t i ≠ ud_ b.2.2.1 b.2.2.2 t j ∧ D (ud_ b.2.2.1 b.2.2.2 t i) ≤ D (ud_ b.2.2.1 b.2.2.2 t j)) ∧ (∀ s, 0 ≤ s → s < N → ud_ b.1 t (D c + 1) s = -1 ∨ ∃ i, 0 ≤ i ∧ i < b.2.2.2 + 1 ∧ ud_ b.2.2.1 b.2.2.2 t i = s) ∧ (∀ j, k < b.2.2.2 + 1 → 0 ≤ j → j < b.2.2.2 + 1 → D (ud_ b.2.2.1 b.2.2.2 t j) ≤ D (ud_ b.2.2.1 b.2.2.2 t k) + 1) ∧ (∀ i e, 0 ≤ i → i < b.2.2.2 + 1 → 1 ≤ e → e ≤ H → (i < k ∨ (i = k ∧ e < d + 1)) → 0 ≤ ud_ b.1 t (D c + 1) (nx (ud_ b.2.2.1 b.2.2.2 t i) e))) ∧ ud_ b.2.2.1 b.2.2.2 t k = c ∧ k < b.2.2.2 + 1
    have kc : ud_ b.2.2.1 b.2.2.2 t k = c := by rw [ud_o (by omega), hc]
    refine ⟨⟨⟨by show 0 < b.2.2.2 + 1; omega, by show ud_ b.2.2.1 b.2.2.2 t 0 = st; rw [ud_o (by omega)]; exact i1.2.1, i1.2.2⟩, ?_, ?_, ?_, ?_, ?_⟩, kc, by omega⟩
    · intro i a1 a2
      by_cases e : i = b.2.2.2
      · rw [e, ud_s, ud_s, tD]
        exact ⟨t0, t1, rfl, by omega⟩
      · have x := i2 i a1 (by omega)
        rw [ud_o e, ud_o (new i a1 (by omega))]
        exact x
    · intro i j a1 a2 a3
      rw [ud_o (f := b.2.2.1) (j := i) (show i ≠ b.2.2.2 by omega)]
      by_cases e : j = b.2.2.2
      · rw [e, ud_s, tD]
        exact ⟨new i a1 (by omega), i5 i hk a1 (by omega)⟩
      · rw [ud_o e]
        exact i3 i j a1 a2 (by omega)
    · intro s s0 s1
      by_cases e : s = t
      · exact Or.inr ⟨b.2.2.2, by omega, by omega, by rw [ud_s, e]⟩
      · rw [ud_o e]
        rcases i4 s s0 s1 with x | ⟨i, a1, a2, a3⟩
        · exact Or.inl x
        · exact Or.inr ⟨i, a1, by omega, by rw [ud_o (by omega)]; exact a3⟩
    · intro j _ a1 a2
      rw [kc]
      by_cases e : j = b.2.2.2
      · rw [e, ud_s, tD]; exact Int.le_refl _
      · rw [ud_o e]
        exact i5 j hk a1 (by omega)
    · intro i e a1 a2 e1 e2 o
      rw [ud_o (f := b.2.2.1) (j := i) (show i ≠ b.2.2.2 by omega)]
      by_cases x : nx (b.2.2.1 i) e = t
      · rw [x, ud_s]; omega
      · rw [ud_o x]
        by_cases y : i = k ∧ e = d
        · exfalso
          apply x
          rw [y.1, y.2, hc, ht]
        · exact i6 i e a1 (by omega) e1 e2 (by omega)
  · rw [if_neg q]
    refine ⟨⟨i1, i2, i3, i4, fun j a1 a2 a3 => ?_, fun i e a1 a2 e1 e2 o => ?_⟩, hc, hk⟩
    · rw [hc]; exact i5 j a1 a2 a3
    · by_cases y : i = k ∧ e = d
      · rw [y.1, y.2, hc, ht]; omega
      · exact i6 i e a1 a2 e1 e2 (by omega)
theorem bq_I {nx : Int → Int → Int} {D : Int → Int} {N H st k : Int} (G : bG_ nx D N H st) (ni : nI_ nx N H) : ∀ (n : Nat) (d : Int) (b : Br), 1 ≤ d → d + n = H + 1 → k < b.2.2.2 → bI_ nx D N H st k d b → bI_ nx D N H st k (H + 1) (bq_ nx (b.2.2.1 k) n d b) ∧ k < (bq_ nx (b.2.2.1 k) n d b).2.2.2 := by
  intro n
  induction n with
  | zero =>
    intro d b d1 dn hk I
    have : d = H + 1 := by omega
    rw [this] at I
    exact ⟨I, hk⟩
  | succ n ih =>
    intro d b d1 dn hk I
    obtain ⟨a1, a2, a3⟩ := bs_I G ni d1 (by omega) hk I
    have := ih (d + 1) _ (by omega) (by omega) a3 a1
    rw [a2] at this
    exact this
theorem bI_nx {nx : Int → Int → Int} {D : Int → Int} {N H st k : Int} {b : Br} (hk : k < b.2.2.2) (I : bI_ nx D N H st k (H + 1) b) : bI_ nx D N H st (k + 1) 1 b := by
  obtain ⟨i1, i2, i3, i4, i5, i6⟩ := I
  refine ⟨⟨i1.1, i1.2.1, by omega⟩, i2, i3, i4, fun j a1 a2 a3 => ?_, fun i e a1 a2 e1 e2 o => i6 i e a1 a2 e1 e2 (by omega)⟩
  have x := i5 j hk a2 a3
  have y := (i3 k (k + 1) i1.2.2 (by omega) a1).2
  omega
/-- no more are met than there are -/
theorem pg_l1 (N : Nat) : ∀ (f : Int → Int) (m : Nat), (∀ i : Int, 0 ≤ i → i < (m : Int) → 0 ≤ f i ∧ f i < (N : Int)) → (∀ i j : Int, 0 ≤ i → i < j → j < (m : Int) → f i ≠ f j) → m ≤ N := by
  induction N with
  | zero =>
    intro f m h1 _
    apply Classical.byContradiction
    intro q
    have := h1 0 (by omega) (by omega)
    omega
  | succ N ih =>
    intro f m h1 h2
    apply Classical.byContradiction
    intro q
    by_cases ex : ∃ i, 0 ≤ i ∧ i < (m : Int) ∧ f i = N
    · obtain ⟨i, a1, a2, a3⟩ := ex
      have := ih (fun j => if j < i then f j else f (j + 1)) (m - 1) ?_ ?_
      · omega
      · intro j b1 b2
        split
        · have x := h1 j b1 (by omega)
          have y := h2 j i b1 (by omega) a2
          omega
        · have x := h1 (j + 1) (by omega) (by omega)
          have y := h2 i (j + 1) a1 (by omega) (by omega)
          omega
      · intro j l b1 b2 b3
        split <;> split
        · exact h2 j l b1 b2 (by omega)
        · exact h2 j (l + 1) b1 (by omega) (by omega)
        · omega
        · exact h2 (j + 1) (l + 1) (by omega) (by omega) (by omega)
    · have := ih f m ?_ h2
      · omega
      · intro i b1 b2
        have x := h1 i b1 b2
        have : f i ≠ N := fun e => ex ⟨i, b1, b2, e⟩
        omega
theorem bI_m {nx : Int → Int → Int} {D : Int → Int} {N H st k d : Int} {b : Br} (I : bI_ nx D N H st k d b) (hN : 0 ≤ N) : b.2.2.2 ≤ N := by
  have := pg_l1 N.toNat b.2.2.1 b.2.2.2.toNat (fun i a1 a2 => by have := I.2.1 i a1 (by omega); omega) (fun i j a1 a2 a3 => (I.2.2.1 i j a1 a2 (by omega)).1)
  have := I.1.1
  omega
theorem bI_lt {nx : Int → Int → Int} {D : Int → Int} {N H st k d t : Int} {b : Br} (I : bI_ nx D N H st k d b) (hN : 0 ≤ N) (t0 : 0 ≤ t) (t1 : t < N) (u : b.1 t < 0) (dn : ∀ s, 0 ≤ s → s < N → 0 ≤ D s) : b.2.2.2 < N := by
  have m0 := I.1.1
  have := pg_l1 N.toNat (ud_ b.2.2.1 b.2.2.2 t) (b.2.2.2.toNat + 1) (fun i a1 a2 => by
    by_cases e : i = b.2.2.2
    · rw [e, ud_s]; omega
    · have := I.2.1 i a1 (by omega)
      rw [ud_o e]; omega) (fun i j a1 a2 a3 => by
    rw [ud_o (f := b.2.2.1) (j := i) (show i ≠ b.2.2.2 by omega)]
    by_cases e : j = b.2.2.2
    · rw [e, ud_s]
      intro z
      have x := I.2.1 i a1 (by omega)
      have y := dn _ x.1 x.2.1
      rw [z] at x y
      omega
    · rw [ud_o e]
      exact (I.2.2.1 i j a1 a2 (by omega)).1)
  omega
/-- at the end all that can be met is met, as far as it is -/
theorem bI_end {nx : Int → Int → Int} {D : Int → Int} {N H st k d : Int} {b : Br} (G : bG_ nx D N H st) (I : bI_ nx D N H st k d b) (e : b.2.2.2 ≤ k) {s : Int} (s0 : 0 ≤ s) (s1 : s < N) : b.1 s = if D s < 15 then D s else -1 := by
  have g2 := G.2.1
  by_cases q : D s < 15
  · rw [if_pos q]
    have := g2 s s0 s1
    obtain ⟨i, a1, a2, a3⟩ := bI_near G I (M := D s) (fun i a1 a2 => by omega) (D s).toNat s s0 s1 q (by omega) (Int.le_refl _)
    have := (I.2.1 i a1 a2).2.2.1
    rw [a3] at this
    exact this
  · rw [if_neg q]
    rcases I.2.2.2.1 s s0 s1 with x | ⟨i, a1, a2, a3⟩
    · exact x
    · have := (I.2.1 i a1 a2).2.2.2
      rw [a3] at this
      omega
/-- the beginning -/
def b0_ (st : Int) (r m : Int → Int) : Br := (ud_ (fun _ => -1) st 0, ud_ r st 1, ud_ m 0 st, 1)
theorem bI_0 {nx : Int → Int → Int} {D : Int → Int} {N H st : Int} (G : bG_ nx D N H st) (r m : Int → Int) : bI_ nx D N H st 0 1 (b0_ st r m) := by
  obtain ⟨⟨g0, g1, g5⟩, g2, g3, g4⟩ := G
  show _ ∧ (∀ i, 0 ≤ i → i < 1 → 0 ≤ ud_ m 0 st i ∧ ud_ m 0 st i < N ∧ ud_ (fun _ => -1) st 0 (ud_ m 0 st i) = D (ud_ m 0 st i) ∧ D (ud_ m 0 st i) < 15) ∧ (∀ i j, 0 ≤ i → i < j → j < 1 → _) ∧ (∀ s, 0 ≤ s → s < N → ud_ (fun _ => -1) st 0 s = -1 ∨ ∃ i, 0 ≤ i ∧ i < 1 ∧ ud_ m 0 st i = s) ∧ (∀ j, 0 < 1 → 0 ≤ j → j < 1 → D (ud_ m 0 st j) ≤ D (ud_ m 0 st 0) + 1) ∧ ∀ i e, 0 ≤ i → i < 1 → 1 ≤ e → e ≤ H → (i < 0 ∨ (i = 0 ∧ e < 1)) → _
  refine ⟨⟨by show (0 : Int) < 1; omega, ud_s m 0 st, by omega⟩, ?_, fun i j a1 a2 a3 => by omega, ?_, ?_, fun i e a1 a2 e1 e2 o => by omega⟩
  · intro i a1 a2
    have : i = 0 := by omega
    rw [this, ud_s, ud_s, g5]
    exact ⟨g0, g1, rfl, by omega⟩
  · intro s s0 s1
    by_cases e : s = st
    · exact Or.inr ⟨0, by omega, by omega, by rw [ud_s, e]⟩
    · exact Or.inl (ud_o e)
  · intro j _ a1 a2
    have : j = 0 := by omega
    rw [this]
    omega
/-- a whole search -/
theorem bu_I {nx : Int → Int → Int} {D : Int → Int} {N H st : Int} (G : bG_ nx D N H st) (ni : nI_ nx N H) (H0 : 0 ≤ H) (N0 : 0 ≤ N) : ∀ (n : Nat) (k : Int) (b : Br), k + n = N → bI_ nx D N H st k 1 b → ∃ k', bI_ nx D N H st k' 1 (bu_ nx H n k b) ∧ (bu_ nx H n k b).2.2.2 ≤ k' := by
  intro n
  induction n with
  | zero =>
    intro k b hk I
    have := bI_m I N0
    exact ⟨k, I, by show b.2.2.2 ≤ k; omega⟩
  | succ n ih =>
    intro k b hk I
    unfold bu_
    by_cases q : b.2.2.2 ≤ k
    · rw [if_pos q]
      exact ⟨k, I, q⟩
    · rw [if_neg q]
      obtain ⟨a1, a2⟩ := bq_I G ni H.toNat 1 b (by omega) (by omega) (by omega) I
      exact ih (k + 1) _ (by omega) (bI_nx a2 a1)
theorem bu_L {nx nx' : Int → Int → Int} {D : Int → Int} {f : Int → Int} {N H st : Int} (G : bG_ nx D N H st) (fi : fI_ f N) (ni : nI_ nx N H) (nf : nF_ nx nx' f N H) (H0 : 0 ≤ H) : ∀ (n : Nat) (k : Int) (b b' : Br), bI_ nx D N H st k 1 b → bL_ f N b b' → bL_ f N (bu_ nx H n k b) (bu_ nx' H n k b') := by
  intro n
  induction n with
  | zero => intro k b b' _ L; exact L
  | succ n ih =>
    intro k b b' I L
    unfold bu_
    rw [L.2.2.1]
    by_cases q : b.2.2.2 ≤ k
    · rw [if_pos q, if_pos q]
      exact L
    · rw [if_neg q, if_neg q]
      obtain ⟨c0, c1, fc, cR⟩ := I.2.1 k I.1.2.2 (by omega)
      have hD := G.2.1 _ c0 c1
      obtain ⟨a1, a2⟩ := bq_I G ni H.toNat 1 b (by omega) (by omega) (by omega) I
      rw [(L.2.2.2.1 k I.1.2.2 (by omega)).1]
      exact ih (k + 1) _ _ (bI_nx a2 a1) (bq_L fi ni nf c0 c1 H.toNat 1 b b' (by omega) (by omega) (by omega) (by omega) L)
theorem bL_0 {f : Int → Int} {N st : Int} (fi : fI_ f N) (s0 : 0 ≤ st) (s1 : st < N) (r m r' m' : Int → Int) : bL_ f N (b0_ st r m) (b0_ (f st) r' m') := by
  show (∀ s, 0 ≤ s → s < N → ud_ (fun _ => -1) (f st) 0 (f s) = ud_ (fun _ => -1) st 0 s) ∧ (∀ s, 0 ≤ s → s < N → 0 ≤ ud_ (fun _ => -1) st 0 s → ud_ r' (f st) 1 (f s) = ud_ r st 1 s) ∧ (1 : Int) = 1 ∧ (∀ k, 0 ≤ k → k < 1 → ud_ m' 0 (f st) k = f (ud_ m 0 st k) ∧ 0 ≤ ud_ m 0 st k ∧ ud_ m 0 st k < N ∧ 0 ≤ ud_ (fun _ => -1) st 0 (ud_ m 0 st k)) ∧ (0 : Int) ≤ 1 ∧ ∀ s, 0 ≤ s → s < N → ud_ (fun _ => -1) st 0 s = -1 ∨ (0 ≤ ud_ (fun _ => -1) st 0 s ∧ ud_ (fun _ => -1) st 0 s ≤ 1000)
  refine ⟨?_, ?_, rfl, ?_, by omega, ?_⟩
  · intro s a b
    by_cases e : s = st
    · rw [e, ud_s, ud_s]
    · rw [ud_o e, ud_o (fun z => e (fi s st a b s0 s1 z))]
  · intro s a b q
    by_cases e : s = st
    · rw [e, ud_s, ud_s]
    · rw [ud_o e] at q
      omega
  · intro k a b
    have : k = 0 := by omega
    rw [this, ud_s, ud_s, ud_s]
    exact ⟨rfl, s0, s1, by omega⟩
  · intro s a b
    by_cases e : s = st
    · rw [e, ud_s]; omega
    · rw [ud_o e]; omega
