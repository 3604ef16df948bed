/-! what some turns can bring: counting, and step by step -/
theorem tl_ud {A : Int → Int} {j v k : Int} : ∀ n : Nat, tl_ (ud_ A j v) k n = tl_ A k n + (if 0 ≤ j ∧ j < n then (if v = k then 1 else 0) - (if A j = k then 1 else 0) else 0) := by
  intro n
  induction n with
  | zero => rw [if_neg (by omega)]; rfl
  | succ n ih =>
    rw [tl_s1, tl_s1, ih]
    by_cases q : (n : Int) = j
    · rw [if_neg (c := 0 ≤ j ∧ j < (n : Int)) (by omega), if_pos (c := 0 ≤ j ∧ j < ((n + 1 : Nat) : Int)) (by omega), q, ud_s]
      omega
    · rw [ud_o q]
      by_cases z : 0 ≤ j ∧ j < (n : Int)
      · rw [if_pos z, if_pos (c := 0 ≤ j ∧ j < ((n + 1 : Nat) : Int)) (by omega)]; omega
      · rw [if_neg z, if_neg (c := 0 ≤ j ∧ j < ((n + 1 : Nat) : Int)) (by omega)]; omega
/-- counted by other names -/
theorem tl_inj {M : Nat} : ∀ (n : Nat) (f A : Int → Int), (∀ s, 0 ≤ s → s < (n : Int) → 0 ≤ f s ∧ f s < M) → (∀ s t, 0 ≤ s → s < t → t < (n : Int) → f s ≠ f t) → (∀ x, 0 ≤ x → x < (M : Int) → A x = 1 → ∃ s, 0 ≤ s ∧ s < (n : Int) ∧ f s = x) → tl_ A 1 M = tl_ (fun s => A (f s)) 1 n := by
  intro n
  induction n with
  | zero =>
    intro f A _ _ c
    exact tl_0 M (fun i i0 i1 e => by obtain ⟨s, a, b, _⟩ := c i i0 i1 e; omega)
  | succ n ih =>
    intro f A r inj c
    have rn := r n (by omega) (by omega)
    have k := ih f (ud_ A (f n) 0) (fun s a b => r s a (by omega)) (fun s t a b d => inj s t a b (by omega)) (fun x x0 x1 e => by
      by_cases q : x = f n
      · rw [q, ud_s] at e; omega
      · rw [ud_o q] at e
        obtain ⟨s, a, b, d⟩ := c x x0 x1 e
        refine ⟨s, a, ?_, d⟩
        have : s ≠ n := fun z => q (by rw [← d, z])
        omega)
    rw [tl_ud, if_pos (by omega), if_neg (by omega), tl_e (g := fun s => A (f s)) n (fun i i0 i1 => ud_o (inj i n i0 i1 (by omega)))] at k
    rw [tl_s1]
    show _ = tl_ (fun s => A (f s)) 1 n + if A (f n) = 1 then 1 else 0
    omega
theorem tl_ad {f : Int → Int} {k : Int} (a : Nat) : ∀ b : Nat, tl_ f k (a + b) = tl_ f k a + tl_ (fun i => f (i + a)) k b := by
  intro b
  induction b with
  | zero => show _ = _ + (0 : Int); simp
  | succ b ih =>
    rw [show a + (b + 1) = (a + b) + 1 by omega, tl_s1, tl_s1, ih, show ((a + b : Nat) : Int) = (b : Int) + a by omega]
    omega
section
variable {w H : Int}
theorem nC_nC (h0 : 0 ≤ H) (h5 : H ≤ 5) {s d : Int} (s0 : 0 ≤ s) (s1 : s < nN_ w H) (d0 : 1 ≤ d) (d1 : d ≤ H) : nC_ w H (nC_ w H s d) d = s := by
  obtain ⟨v, e⟩ := sC_d h0 h5 s0 s1
  have f := VB_d w H s
  have a := nC_s (w := w) h0 h5 v f (by omega) d1
  have b := nC_s (w := w) h0 h5 (VP_r d1 v) (VB_r (w := w) d1 f) (by omega) d1
  rw [e] at a
  rw [a, b]
  refine Eq.trans (sC_e h0 (fun k k0 k1 => ?_) (fun k k0 k1 => ?_)) e
  · unfold rR_
    by_cases q : k < d
    · rw [if_pos q, if_pos (by omega), show d - 1 - (d - 1 - k) = k by omega]
    · rw [if_neg q, if_neg q]
  · unfold rW_
    split
    · unfold rF_
      by_cases q : k < d
      · rw [if_pos q, if_pos (by omega), show d - 1 - (d - 1 - k) = k by omega]
        omega
      · rw [if_neg q, if_neg q]
    · rfl
theorem D2_p (h0 : 0 ≤ H) (h5 : H ≤ 5) (w0 : w = 0 ∨ w = 1) : ∀ (n : Nat) (x : Int), 0 ≤ x → x < 2 * nN_ w H → D2_ w H x = n → n < 15 → (n : Int) % 2 = if x < nN_ w H then 0 else 1 := by
  intro n
  have G := G2_ h0 h5 w0
  have nv := nN_v (w := w) h0 h5
  have ni := nC_b (w := w) h0 h5
  induction n with
  | zero =>
    intro x x0 x1 e _
    by_cases q : x = 0
    · rw [q, if_pos (by omega)]; rfl
    · obtain ⟨u, d, u0, u1, _, _, _, z⟩ := G.2.2.2 x x0 x1 (by omega) q
      have := G.2.1 u u0 u1
      omega
  | succ n ih =>
    intro x x0 x1 e hn
    have q : x ≠ 0 := fun z => by
      have := G.1.2.2
      rw [z] at e
      omega
    obtain ⟨u, d, u0, u1, d0, d1, y, z⟩ := G.2.2.2 x x0 x1 (by omega) q
    have k := ih u u0 u1 (by omega) (by omega)
    unfold n2_ at y
    by_cases r : u < nN_ w H
    · rw [if_pos r] at y k
      have := ni u d u0 r d0 d1
      rw [if_neg (by omega)]
      omega
    · rw [if_neg r] at y k
      have := ni (u - nN_ w H) d (by omega) (by omega) d0 d1
      rw [if_pos (by omega)]
      omega
/-- the place of a state behind so many turns -/
def xt_ (w H t s : Int) : Int := s + nN_ w H * (t % 2)
theorem xt_v {t s : Int} (t0 : 0 ≤ t) (s0 : 0 ≤ s) (s1 : s < nN_ w H) : (t % 2 = 0 ∧ xt_ w H t s = s) ∨ (t % 2 = 1 ∧ xt_ w H t s = s + nN_ w H) := by
  unfold xt_
  rcases (by omega : t % 2 = 0 ∨ t % 2 = 1) with e | e
  · exact Or.inl ⟨e, by rw [e]; omega⟩
  · exact Or.inr ⟨e, by rw [e]; omega⟩
theorem xt_n (h0 : 0 ≤ H) (h5 : H ≤ 5) {t s d : Int} (t0 : 0 ≤ t) (s0 : 0 ≤ s) (s1 : s < nN_ w H) (d0 : 1 ≤ d) (d1 : d ≤ H) : n2_ w H (xt_ w H t s) d = xt_ w H (t + 1) (nC_ w H s d) := by
  have b := nC_b (w := w) h0 h5 s d s0 s1 d0 d1
  unfold n2_
  rcases xt_v (w := w) (H := H) t0 s0 s1 with e | e <;> rcases xt_v (w := w) (H := H) (t := t + 1) (by omega) b.1 b.2 with f | f
  · omega
  · rw [e.2, f.2, if_pos s1]; omega
  · rw [e.2, f.2, if_neg (by omega), show s + nN_ w H - nN_ w H = s by omega]
  · omega
theorem Ex_st (h0 : 0 ≤ H) (h5 : H ≤ 5) (w0 : w = 0 ∨ w = 1) {t s : Int} (t0 : 0 ≤ t) (t1 : t < 9) (s0 : 0 ≤ s) (s1 : s < nN_ w H) : Ex_ w H (t + 1) s ↔ ∃ u d, 0 ≤ u ∧ u < nN_ w H ∧ 1 ≤ d ∧ d ≤ H ∧ Ex_ w H t u ∧ nC_ w H u d = s := by
  have G := G2_ h0 h5 w0
  have nv := nN_v (w := w) h0 h5
  have ni := nC_b (w := w) h0 h5
  constructor
  · intro ⟨e1, e2⟩
    have x0 : 0 ≤ xt_ w H (t + 1) s ∧ xt_ w H (t + 1) s < 2 * nN_ w H := by
      rcases xt_v (w := w) (H := H) (t := t + 1) (by omega) s0 s1 with e | e <;> omega
    have e1' : D2_ w H (xt_ w H (t + 1) s) ≤ t + 1 := e1
    have e2' : 0 < H ∨ D2_ w H (xt_ w H (t + 1) s) = t + 1 := e2
    have ge := G.2.1 _ x0.1 x0.2
    by_cases q : D2_ w H (xt_ w H (t + 1) s) = t + 1
    · have ne : xt_ w H (t + 1) s ≠ 0 := fun z => by
        have := G.1.2.2
        rw [z] at q
        omega
      obtain ⟨u, d, u0, u1, d0, d1, y, z⟩ := G.2.2.2 _ x0.1 x0.2 (by omega) ne
      unfold n2_ at y
      by_cases r : u < nN_ w H
      · rw [if_pos r] at y
        have b := ni u d u0 r d0 d1
        refine ⟨u, d, u0, r, d0, d1, ?_, ?_⟩
        · have xu : xt_ w H t u = u := by
            rcases xt_v (w := w) (H := H) (t := t + 1) (by omega) s0 s1 with e | e <;> rcases xt_v (w := w) (H := H) t0 u0 r with f | f <;> omega
          show D2_ w H (xt_ w H t u) ≤ t ∧ (0 < H ∨ D2_ w H (xt_ w H t u) = t)
          rw [xu]; omega
        · rcases xt_v (w := w) (H := H) (t := t + 1) (by omega) s0 s1 with e | e <;> omega
      · rw [if_neg r] at y
        have b := ni (u - nN_ w H) d (by omega) (by omega) d0 d1
        refine ⟨u - nN_ w H, d, by omega, by omega, d0, d1, ?_, ?_⟩
        · have xu : xt_ w H t (u - nN_ w H) = u := by
            rcases xt_v (w := w) (H := H) (t := t + 1) (by omega) s0 s1 with e | e <;> rcases xt_v (w := w) (H := H) t0 (s := u - nN_ w H) (by omega) (by omega) with f | f <;> omega
          show D2_ w H (xt_ w H t (u - nN_ w H)) ≤ t ∧ (0 < H ∨ D2_ w H (xt_ w H t (u - nN_ w H)) = t)
          rw [xu]; omega
        · rcases xt_v (w := w) (H := H) (t := t + 1) (by omega) s0 s1 with e | e <;> omega
    · have Hp : 0 < H := by omega
      have b := ni s 1 s0 s1 (by omega) (by omega)
      have p := D2_p h0 h5 w0 (D2_ w H (xt_ w H (t + 1) s)).toNat _ x0.1 x0.2 (by omega) (by omega)
      have le : D2_ w H (xt_ w H (t + 1) s) ≤ t - 1 := by
        rcases xt_v (w := w) (H := H) (t := t + 1) (by omega) s0 s1 with e | e
        · rw [if_pos (by omega)] at p; omega
        · rw [if_neg (by omega)] at p; omega
      have st := (G.2.2.1 _ 1 x0.1 x0.2 (by omega) (by omega) (by omega)).1
      rw [xt_n h0 h5 (by omega) s0 s1 (by omega) (by omega)] at st
      have ex : xt_ w H (t + 1 + 1) (nC_ w H s 1) = xt_ w H t (nC_ w H s 1) := by unfold xt_; rw [show (t + 1 + 1) % 2 = t % 2 by omega]
      rw [ex] at st
      exact ⟨nC_ w H s 1, 1, b.1, b.2, by omega, by omega, ⟨by show D2_ w H (xt_ w H t (nC_ w H s 1)) ≤ t; omega, Or.inl Hp⟩, nC_nC h0 h5 s0 s1 (by omega) (by omega)⟩
  · intro ⟨u, d, u0, u1, d0, d1, ⟨e1, e2⟩, y⟩
    have x0 : 0 ≤ xt_ w H t u ∧ xt_ w H t u < 2 * nN_ w H := by
      rcases xt_v (w := w) (H := H) t0 u0 u1 with e | e <;> omega
    have e1' : D2_ w H (xt_ w H t u) ≤ t := e1
    have st := (G.2.2.1 _ d x0.1 x0.2 d0 d1 (by omega)).1
    rw [xt_n h0 h5 t0 u0 u1 d0 d1, y] at st
    exact ⟨by show D2_ w H (xt_ w H (t + 1) s) ≤ t + 1; omega, Or.inl (by omega)⟩
theorem Ex_0 (h0 : 0 ≤ H) (h5 : H ≤ 5) (w0 : w = 0 ∨ w = 1) {s : Int} (s0 : 0 ≤ s) (s1 : s < nN_ w H) : Ex_ w H 0 s ↔ s = 0 := by
  have G := G2_ h0 h5 w0
  have e : s + nN_ w H * (0 % 2) = s := by rw [show (0 : Int) % 2 = 0 from rfl]; omega
  unfold Ex_
  rw [e]
  constructor
  · intro ⟨q, _⟩
    apply Classical.byContradiction
    intro ne
    obtain ⟨u, d, u0, u1, _, _, _, z⟩ := G.2.2.2 s s0 (by omega) (by omega) ne
    have := G.2.1 u u0 u1
    omega
  · intro q
    rw [q]
    have := G.1.2.2
    exact ⟨by omega, Or.inr this⟩
/-- the class's way of counting -/
def rq_ (H t D : Int) : Int := if D ≤ t ∧ (t - D) % 2 = 0 ∧ (0 < H ∨ t = D) then 1 else 0
theorem cld_q (h0 : 0 ≤ H) (h5 : H ≤ 5) (w0 : w = 0 ∨ w = 1) {t : Int} (t0 : 0 ≤ t) (t1 : t ≤ 9) : tl_ (fun x => rq_ H t (D2_ w H x)) 1 (2 * nN_ w H).toNat = cld_ w H t := by
  have G := G2_ h0 h5 w0
  have nv := nN_v (w := w) h0 h5
  rw [show (2 * nN_ w H).toNat = (nN_ w H).toNat + (nN_ w H).toNat by omega, tl_ad]
  unfold cld_
  have pr : ∀ x, 0 ≤ x → x < 2 * nN_ w H → D2_ w H x ≤ t → D2_ w H x % 2 = if x < nN_ w H then 0 else 1 := by
    intro x x0 x1 q
    have := G.2.1 x x0 x1
    have k := D2_p h0 h5 w0 (D2_ w H x).toNat x x0 x1 (by omega) (by omega)
    rw [← k]
    congr 1
    try omega
  rcases (by omega : t % 2 = 0 ∨ t % 2 = 1) with e | e
  · have z : tl_ (fun i => rq_ H t (D2_ w H (i + (nN_ w H).toNat))) 1 (nN_ w H).toNat = 0 := tl_0 _ (fun i i0 i1 => by
      show rq_ H t (D2_ w H (i + (nN_ w H).toNat)) ≠ 1
      unfold rq_
      intro y
      by_cases c : D2_ w H (i + (nN_ w H).toNat) ≤ t
      · have := pr (i + (nN_ w H).toNat) (by omega) (by omega) c
        rw [if_neg (by omega)] at this
        rw [if_neg (by omega)] at y
        omega
      · rw [if_neg (by omega)] at y
        omega)
    have y : tl_ (fun x => rq_ H t (D2_ w H x)) 1 (nN_ w H).toNat = tl_ (fun s => if Ex_ w H t s then 1 else 0) 1 (nN_ w H).toNat := tl_e _ (fun i i0 i1 => by
      show rq_ H t (D2_ w H i) = if Ex_ w H t i then 1 else 0
      have ei : i + nN_ w H * (t % 2) = i := by rw [e]; omega
      unfold rq_ Ex_
      rw [ei]
      by_cases c : D2_ w H i ≤ t
      · have := pr i i0 (by omega) c
        rw [if_pos (by omega)] at this
        by_cases d : 0 < H ∨ t = D2_ w H i
        · rw [if_pos ⟨c, by omega, d⟩, if_pos ⟨c, by omega⟩]
        · rw [if_neg (fun q => d q.2.2), if_neg (fun q => d (by omega))]
      · rw [if_neg (fun q => c q.1), if_neg (fun q => c q.1)])
    rw [z, y]
    omega
  · have z : tl_ (fun x => rq_ H t (D2_ w H x)) 1 (nN_ w H).toNat = 0 := tl_0 _ (fun i i0 i1 => by
      show rq_ H t (D2_ w H i) ≠ 1
      unfold rq_
      intro y
      by_cases c : D2_ w H i ≤ t
      · have := pr i (by omega) (by omega) c
        rw [if_pos (by omega)] at this
        rw [if_neg (by omega)] at y
        omega
      · rw [if_neg (by omega)] at y
        omega)
    have y : tl_ (fun i => rq_ H t (D2_ w H (i + (nN_ w H).toNat))) 1 (nN_ w H).toNat = tl_ (fun s => if Ex_ w H t s then 1 else 0) 1 (nN_ w H).toNat := tl_e _ (fun i i0 i1 => by
      show rq_ H t (D2_ w H (i + (nN_ w H).toNat)) = if Ex_ w H t i then 1 else 0
      have ei : i + nN_ w H * (t % 2) = i + (nN_ w H).toNat := by rw [e]; omega
      unfold rq_ Ex_
      rw [ei]
      by_cases c : D2_ w H (i + (nN_ w H).toNat) ≤ t
      · have := pr (i + (nN_ w H).toNat) (by omega) (by omega) c
        rw [if_neg (by omega)] at this
        by_cases d : 0 < H ∨ t = D2_ w H (i + (nN_ w H).toNat)
        · rw [if_pos ⟨c, by omega, d⟩, if_pos ⟨c, by omega⟩]
        · rw [if_neg (fun q => d q.2.2), if_neg (fun q => d (by omega))]
      · rw [if_neg (fun q => c q.1), if_neg (fun q => c q.1)])
    rw [z, y]
    omega
end
