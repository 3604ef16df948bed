/-! a search in breadth, pure: how far, in how many rows, those met, how many are met -/
abbrev Br : Type := (Int → Int) × (Int → Int) × (Int → Int) × Int
def ud_ (f : Int → Int) (k v : Int) : Int → Int := fun j => if j = k then v else f j
theorem ud_s (f : Int → Int) (k v : Int) : ud_ f k v k = v := if_pos rfl
theorem ud_o {f : Int → Int} {k v j : Int} (n : j ≠ k) : ud_ f k v j = f j := if_neg n
def b1_ (c t : Int) (b : Br) : Br := if b.1 t < 0 then (ud_ b.1 t (w32 (b.1 c + 1)), ud_ b.2.1 t 0, ud_ b.2.2.1 b.2.2.2 t, b.2.2.2 + 1) else b
def b2_ (c t : Int) (b : Br) : Br := if b.1 t = w32 (b.1 c + 1) then (b.1, ud_ b.2.1 t (w32 (b.2.1 t + b.2.1 c)), b.2.2.1, b.2.2.2) else b
def bs_ (c t : Int) (b : Br) : Br := b2_ c t (b1_ c t b)
def bq_ (nx : Int → Int → Int) (c : Int) : Nat → Int → Br → Br
  | 0, _, b => b
  | n + 1, d, b => bq_ nx c n (d + 1) (bs_ c (nx c d) b)
def bu_ (nx : Int → Int → Int) (H : Int) : Nat → Int → Br → Br
  | 0, _, b => b
  | n + 1, k, b => if b.2.2.2 ≤ k then b else bu_ nx H n (k + 1) (bq_ nx (b.2.2.1 k) H.toNat 1 b)
theorem b2_1 (c t : Int) (b : Br) : (b2_ c t b).1 = b.1 ∧ (b2_ c t b).2.2 = b.2.2 := by
  unfold b2_
  split <;> exact ⟨rfl, rfl⟩
/-- two searches side by side -/
def bL_ (f : Int → Int) (N : Int) (b b' : Br) : Prop := (∀ s, 0 ≤ s → s < N → b'.1 (f s) = b.1 s) ∧ (∀ s, 0 ≤ s → s < N → 0 ≤ b.1 s → b'.2.1 (f s) = b.2.1 s) ∧ b'.2.2.2 = b.2.2.2 ∧ (∀ k, 0 ≤ k → k < b.2.2.2 → b'.2.2.1 k = f (b.2.2.1 k) ∧ 0 ≤ b.2.2.1 k ∧ b.2.2.1 k < N ∧ 0 ≤ b.1 (b.2.2.1 k)) ∧ 0 ≤ b.2.2.2 ∧ ∀ s, 0 ≤ s → s < N → b.1 s = -1 ∨ (0 ≤ b.1 s ∧ b.1 s ≤ 1000)
def fI_ (f : Int → Int) (N : Int) : Prop := ∀ s t, 0 ≤ s → s < N → 0 ≤ t → t < N → f s = f t → s = t
theorem bs_L {f : Int → Int} {N c t : Int} {b b' : Br} (fi : fI_ f N) (c0 : 0 ≤ c) (c1 : c < N) (t0 : 0 ≤ t) (t1 : t < N) (fc : 0 ≤ b.1 c) (fm : b.1 c < 1000) (L : bL_ f N b b') : bL_ f N (bs_ c t b) (bs_ (f c) (f t) b') ∧ 0 ≤ (bs_ c t b).1 c ∧ (bs_ c t b).1 c = b.1 c := by
  obtain ⟨l1, l2, l3, l4, l5, l6⟩ := L
  have e1 := l1 t t0 t1
  have e2 := l1 c c0 c1
  have wc : w32 (b.1 c + 1) = b.1 c + 1 := w32_i (by omega) (by omega)
  have step1 : bL_ f N (b1_ c t b) (b1_ (f c) (f t) b') ∧ (b1_ c t b).1 c = b.1 c ∧ 0 ≤ (b1_ c t b).1 t := by
    unfold b1_
    rw [e1, e2]
    by_cases q : b.1 t < 0
    · have ct : c ≠ t := fun e => by rw [e] at fc; omega
      rw [if_pos q, if_pos q]
      refine ⟨⟨?_, ?_, ?_, ?_, ?_, ?_⟩, ud_o ct, ?_⟩
      · intro s s0 s1
        show ud_ b'.1 (f t) _ (f s) = ud_ b.1 t _ s
        by_cases e : s = t
        · rw [e, ud_s, ud_s]
        · rw [ud_o e, ud_o (fun z => e (fi s t s0 s1 t0 t1 z)), l1 s s0 s1]
      · intro s s0 s1 h
        show ud_ b'.2.1 (f t) _ (f s) = ud_ b.2.1 t _ s
        by_cases e : s = t
        · rw [e, ud_s, ud_s]
        · have h' : 0 ≤ b.1 s := by
            have : ud_ b.1 t (w32 (b.1 c + 1)) s = b.1 s := ud_o e
            rw [← this]; exact h
          rw [ud_o e, ud_o (fun z => e (fi s t s0 s1 t0 t1 z)), l2 s s0 s1 h']
      · show b'.2.2.2 + 1 = b.2.2.2 + 1
        rw [l3]
      · intro k k0 k1
        show ud_ b'.2.2.1 b'.2.2.2 (f t) k = f (ud_ b.2.2.1 b.2.2.2 t k) ∧ 0 ≤ ud_ b.2.2.1 b.2.2.2 t k ∧ ud_ b.2.2.1 b.2.2.2 t k < N ∧ 0 ≤ ud_ b.1 t (w32 (b.1 c + 1)) (ud_ b.2.2.1 b.2.2.2 t k)
        have k1' : k < b.2.2.2 + 1 := k1
        rw [l3]
        by_cases e : k = b.2.2.2
        · rw [e, ud_s, ud_s, ud_s, wc]
          exact ⟨rfl, t0, t1, by omega⟩
        · have z := l4 k k0 (by omega)
          rw [ud_o e, ud_o e, ud_o (fun y => by rw [y] at z; omega)]
          exact z
      · show 0 ≤ b.2.2.2 + 1
        omega
      · intro s s0 s1
        show ud_ b.1 t _ s = -1 ∨ (0 ≤ ud_ b.1 t _ s ∧ ud_ b.1 t _ s ≤ 1000)
        by_cases e : s = t
        · rw [e, ud_s, wc]; omega
        · rw [ud_o e]; exact l6 s s0 s1
      · show 0 ≤ ud_ b.1 t _ t
        rw [ud_s, wc]; omega
    · rw [if_neg q, if_neg q]
      exact ⟨⟨l1, l2, l3, l4, l5, l6⟩, rfl, by omega⟩
  obtain ⟨⟨m1, m2, m3, m4, m5, m6⟩, e3, e4⟩ := step1
  unfold bs_
  generalize b1_ c t b = x at m1 m2 m3 m4 m5 m6 e3 e4
  generalize b1_ (f c) (f t) b' = x' at m1 m2 m3 m4
  have y1 := m1 t t0 t1
  have y2 := m1 c c0 c1
  have z := b2_1 c t x
  refine ⟨?_, by rw [z.1, e3]; exact fc, by rw [z.1, e3]⟩
  have z' := b2_1 (f c) (f t) x'
  refine ⟨by rw [z.1, z'.1]; exact m1, ?_, by rw [z.2, z'.2]; exact m3, by rw [z.1, z.2, z'.2]; exact m4, by rw [z.2]; exact m5, by rw [z.1]; exact m6⟩
  intro s s0 s1 h
  rw [z.1] at h
  unfold b2_
  rw [y1, y2]
  by_cases q : x.1 t = w32 (x.1 c + 1)
  · rw [if_pos q, if_pos q]
    show ud_ x'.2.1 (f t) _ (f s) = ud_ x.2.1 t _ s
    have r1 := m2 t t0 t1 e4
    have r2 := m2 c c0 c1 (by omega)
    by_cases e : s = t
    · rw [e, ud_s, ud_s, r1, r2]
    · rw [ud_o e, ud_o (fun z => e (fi s t s0 s1 t0 t1 z)), m2 s s0 s1 h]
  · rw [if_neg q, if_neg q]
    exact m2 s s0 s1 h
/-- graphs: turning stays within; two of them side by side -/
def nI_ (nx : Int → Int → Int) (N H : Int) : Prop := ∀ s d, 0 ≤ s → s < N → 1 ≤ d → d ≤ H → 0 ≤ nx s d ∧ nx s d < N
def nF_ (nx nx' : Int → Int → Int) (f : Int → Int) (N H : Int) : Prop := ∀ s d, 0 ≤ s → s < N → 1 ≤ d → d ≤ H → nx' (f s) d = f (nx s d)
theorem bq_L {nx nx' : Int → Int → Int} {f : Int → Int} {N H c : Int} (fi : fI_ f N) (ni : nI_ nx N H) (nf : nF_ nx nx' f N H) (c0 : 0 ≤ c) (c1 : c < N) : ∀ (n : Nat) (d : Int) (b b' : Br), 1 ≤ d → d + n = H + 1 → 0 ≤ b.1 c → b.1 c < 1000 → bL_ f N b b' → bL_ f N (bq_ nx c n d b) (bq_ nx' (f c) n d b') := by
  intro n
  induction n with
  | zero => intro d b b' _ _ _ _ L; exact L
  | succ n ih =>
    intro d b b' d1 dn fc fm L
    have t := ni c d c0 c1 d1 (by omega)
    obtain ⟨L', g, e⟩ := bs_L fi c0 c1 t.1 t.2 fc fm L
    unfold bq_
    rw [nf c d c0 c1 d1 (by omega)]
    exact ih (d + 1) _ _ (by omega) (by omega) g (by omega) L'
/-! one search: what holds all along. D: how far in truth (15: out of reach) -/
def bG_ (nx : Int → Int → Int) (D : Int → Int) (N H st : Int) : Prop := (0 ≤ st ∧ st < N ∧ D st = 0) ∧ (∀ s, 0 ≤ s → s < N → 0 ≤ D s) ∧ (∀ s d, 0 ≤ s → s < N → 1 ≤ d → d ≤ H → D s < 15 → D (nx s d) ≤ D s + 1 ∧ D (nx s d) < 15) ∧ (∀ s, 0 ≤ s → s < N → D s < 15 → s ≠ st → ∃ u d, 0 ≤ u ∧ u < N ∧ 1 ≤ d ∧ d ≤ H ∧ nx u d = s ∧ D u + 1 = D s)
def bI_ (nx : Int → Int → Int) (D : Int → Int) (N H st k d : Int) (b : Br) : Prop := (0 < b.2.2.2 ∧ b.2.2.1 0 = st ∧ 0 ≤ k) ∧ (∀ i, 0 ≤ i → i < b.2.2.2 → 0 ≤ b.2.2.1 i ∧ b.2.2.1 i < N ∧ b.1 (b.2.2.1 i) = D (b.2.2.1 i) ∧ D (b.2.2.1 i) < 15) ∧ (∀ i j, 0 ≤ i → i < j → j < b.2.2.2 → b.2.2.1 i ≠ b.2.2.1 j ∧ D (b.2.2.1 i) ≤ D (b.2.2.1 j)) ∧ (∀ s, 0 ≤ s → s < N → b.1 s = -1 ∨ ∃ i, 0 ≤ i ∧ i < b.2.2.2 ∧ b.2.2.1 i = s) ∧ (∀ j, k < b.2.2.2 → 0 ≤ j → j < b.2.2.2 → D (b.2.2.1 j) ≤ D (b.2.2.1 k) + 1) ∧ (∀ i e, 0 ≤ i → i < b.2.2.2 → 1 ≤ e → e ≤ H → (i < k ∨ (i = k ∧ e < d)) → 0 ≤ b.1 (nx (b.2.2.1 i) e))
theorem bI_near {nx : Int → Int → Int} {D : Int → Int} {N H st k d : Int} {b : Br} (G : bG_ nx D N H st) (I : bI_ nx D N H st k d b) {M : Int} (hM : ∀ i, k ≤ i → i < b.2.2.2 → M ≤ D (b.2.2.1 i)) : ∀ (n : Nat) (u : Int), 0 ≤ u → u < N → D u < 15 → D u = n → D u ≤ M → ∃ i, 0 ≤ i ∧ i < b.2.2.2 ∧ b.2.2.1 i = u := by
  obtain ⟨g1, g2, g3, g4⟩ := G
  obtain ⟨i1, i2, i3, i4, i5, i6⟩ := I
  intro n
  induction n with
  | zero =>
    intro u u0 u1 hu hn hm
    by_cases e : u = st
    · exact ⟨0, by omega, by omega, by rw [e]; exact i1.2.1⟩
    · obtain ⟨v, d', v0, v1, _, _, _, z⟩ := g4 u u0 u1 hu e
      have := g2 v v0 v1
      omega
  | succ n ih =>
    intro u u0 u1 hu hn hm
    by_cases e : u = st
    · exact ⟨0, by omega, by omega, by rw [e]; exact i1.2.1⟩
    · obtain ⟨v, d', v0, v1, d1, d2, z1, z2⟩ := g4 u u0 u1 hu e
      obtain ⟨i, a1, a2, a3⟩ := ih v v0 v1 (by omega) (by omega) (by omega)
      have ik : i < k := by
        apply Classical.byContradiction
        intro q
        have := hM i (by omega) a2
        rw [a3] at this
        omega
      have w := i6 i d' a1 a2 d1 d2 (Or.inl ik)
      rw [a3, z1] at w
      rcases i4 u u0 u1 with q | q
      · rw [q] at w; omega
      · exact q
