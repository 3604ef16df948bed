/-! match: the best code of the reference is the best choice of the class -/
theorem phi_m {M P : Int} (m0 : 0 ≤ M) (m4 : M ≤ 4) (p0 : 0 ≤ P) (p4 : P ≤ 4) : ∀ (n : Nat) (c : Int), 0 ≤ c → c + 1 + n < nK_c M P → phi_ P M.toNat c < phi_ P M.toNat (c + 1 + n) := by
  intro n
  have kv := (kM_v m0 m4 p0 p4).2.2.2.1
  induction n with
  | zero =>
    intro c c0 c1
    have := (kv c c0 (by omega)).2.1 (by omega)
    rw [show c + 1 + ((0 : Nat) : Int) = c + 1 by omega]
    exact this
  | succ n ih =>
    intro c c0 c1
    have a := ih c c0 (by omega)
    have b := (kv (c + 1 + n) (by omega) (by omega)).2.1 (by omega)
    rw [show c + 1 + ((n + 1 : Nat) : Int) = c + 1 + n + 1 by omega]
    omega
theorem phi_lt {M P c d : Int} (m0 : 0 ≤ M) (m4 : M ≤ 4) (p0 : 0 ≤ P) (p4 : P ≤ 4) (c0 : 0 ≤ c) (cd : c < d) (d1 : d < nK_c M P) : phi_ P M.toNat c < phi_ P M.toNat d := by
  have := phi_m m0 m4 p0 p4 (d - c - 1).toNat c c0 (by omega)
  rw [show c + 1 + ((d - c - 1).toNat : Int) = d by omega] at this
  exact this
section
variable {M P : Int} {C sk : Int → Int}
theorem VG_tr (m0 : 0 ≤ M) (m4 : M ≤ 4) (p0 : 0 ≤ P) (p4 : P ≤ 4) {c : Int} (c0 : 0 ≤ c) (c1 : c < nK_c M P) : (VG 4 P M C sk (g5_ M (phi_ P M.toNat c)) ↔ VGc P M C sk c) ∧ mny_ 4 (g5_ M (phi_ P M.toNat c)) M.toNat = mny_ P (gP_ P M c) M.toNat ∧ su_ 4 C (g5_ M (phi_ P M.toNat c)) M.toNat = su_ P C (gP_ P M c) M.toNat := by
  have kv := ((kM_v m0 m4 p0 p4).2.2.2.1 c c0 c1).2.2.1
  have t4 : ∀ m, 0 ≤ m → m < M → (tr_ P (gP_ P M c m) = 4 ↔ gP_ P M c m = P) ∧ (gP_ P M c m ≠ P → tr_ P (gP_ P M c m) = gP_ P M c m) := by
    intro m a b
    have := (kv m a b).2
    unfold tr_
    by_cases q : gP_ P M c m = P
    · rw [if_pos q]; exact ⟨⟨fun _ => q, fun _ => rfl⟩, fun z => absurd q z⟩
    · rw [if_neg q]; exact ⟨⟨fun z => by omega, fun z => absurd z q⟩, fun _ => rfl⟩
  refine ⟨⟨fun v => ⟨fun m a b => ?_, fun i j a b d e => ?_⟩, fun v => ⟨fun m a b => ?_, fun i j a b d e => ?_⟩⟩, ?_, ?_⟩
  · obtain ⟨t1, t2⟩ := t4 m a b
    have x := v.1 m a b
    rw [(kv m a b).1] at x
    by_cases q : gP_ P M c m = P
    · exact Or.inl q
    · rw [t2 q] at x
      rcases x with y | y
      · exact absurd (t1.mp (by rw [t2 q]; exact y)) q
      · exact Or.inr y
  · have x := v.2 i j a b d (by rw [(kv i a (by omega)).1, (kv j (by omega) d).1, e])
    rw [(kv i a (by omega)).1] at x
    exact (t4 i a (by omega)).1.mp x
  · obtain ⟨t1, t2⟩ := t4 m a b
    rw [(kv m a b).1]
    rcases v.1 m a b with y | y
    · exact Or.inl (t1.mpr y)
    · have q : gP_ P M c m ≠ P := by omega
      rw [t2 q]
      exact Or.inr y
  · have ai : i < M := by omega
    have aj : 0 ≤ j := by omega
    rw [(kv i a ai).1] at e ⊢
    rw [(kv j aj d).1] at e
    obtain ⟨t1, t2⟩ := t4 i a ai
    obtain ⟨s1, s2⟩ := t4 j aj d
    by_cases q : gP_ P M c i = P
    · exact t1.mpr q
    · by_cases q' : gP_ P M c j = P
      · rw [e]; exact s1.mpr q'
      · rw [t2 q, s2 q'] at e
        exact absurd (v.2 i j a b d e) q
  · refine sm_c _ (fun m a b => ?_)
    obtain ⟨t1, t2⟩ := t4 m a (by omega)
    show (if g5_ M (phi_ P M.toNat c) m = 4 then (0 : Int) else 1) = if gP_ P M c m = P then 0 else 1
    rw [(kv m a (by omega)).1]
    by_cases q : gP_ P M c m = P
    · rw [if_pos q, if_pos (t1.mpr q)]
    · rw [if_neg q, if_neg (fun z => q (t1.mp z))]
  · refine sm_c _ (fun m a b => ?_)
    obtain ⟨t1, t2⟩ := t4 m a (by omega)
    show (if g5_ M (phi_ P M.toNat c) m = 4 then (0 : Int) else C (g5_ M (phi_ P M.toNat c) m)) = if gP_ P M c m = P then 0 else C (gP_ P M c m)
    rw [(kv m a (by omega)).1]
    by_cases q : gP_ P M c m = P
    · rw [if_pos q, if_pos (t1.mpr q)]
    · rw [if_neg q, if_neg (fun z => q (t1.mp z)), t2 q]
/-- the first best code -/
def MB2 (P M : Int) (C sk : Int → Int) (k b mny s : Int) : Prop := (b = -1 ∧ mny = -1 ∧ s = 0 ∧ ∀ c, 0 ≤ c → c < k → ¬ VGc P M C sk c) ∨ (0 ≤ b ∧ b < k ∧ VGc P M C sk b ∧ mny = mny_ P (gP_ P M b) M.toNat ∧ s = su_ P C (gP_ P M b) M.toNat ∧ (∀ c, 0 ≤ c → c < k → VGc P M C sk c → uc_ P M C c ≤ uc_ P M C b) ∧ ∀ c, 0 ≤ c → c < b → VGc P M C sk c → uc_ P M C c < uc_ P M C b)
theorem uc_b (m0 : 0 ≤ M) (m4 : M ≤ 4) (p0 : 0 ≤ P) (p4 : P ≤ 4) (Cb : ∀ p, 0 ≤ p → p < P → 0 ≤ C p ∧ C p ≤ 20) {c : Int} (c0 : 0 ≤ c) (c1 : c < nK_c M P) : (0 ≤ mny_ P (gP_ P M c) M.toNat ∧ mny_ P (gP_ P M c) M.toNat ≤ 4) ∧ 0 ≤ su_ P C (gP_ P M c) M.toNat ∧ su_ P C (gP_ P M c) M.toNat ≤ 20 * mny_ P (gP_ P M c) M.toNat := by
  have kv := ((kM_v m0 m4 p0 p4).2.2.2.1 c c0 c1).2.2.1
  have a := mny_b P (gP_ P M c) M.toNat
  have b := su_b (z := P) (C := C) (e := gP_ P M c) M.toNat (fun m x y => by
    have := (kv m x (by omega)).2
    by_cases q : gP_ P M c m = P
    · exact Or.inl q
    · exact Or.inr (Cb _ this.1 (by omega)))
  omega
theorem FM_MB (m0 : 0 ≤ M) (m4 : M ≤ 4) (p0 : 0 ≤ P) (p4 : P ≤ 4) (Cb : ∀ p, 0 ≤ p → p < P → 0 ≤ C p ∧ C p ≤ 20) {b v k mny s : Int} (f : FM (wf5_ P M C sk) (pf_.getD M.toNat 0) b v (pf_.getD M.toNat 0 - 1)) (g : MB2 P M C sk (nK_c M P) k mny s) : 0 ≤ k ∧ k < nK_c M P ∧ b = phi_ P M.toNat k ∧ mny = mny_ P (gP_ P M k) M.toNat ∧ s = su_ P C (gP_ P M k) M.toNat := by
  have kv := kM_v m0 m4 p0 p4
  have last : VGc P M C sk (nK_c M P - 1) := by
    have z := ((kv.2.2.2.1 (nK_c M P - 1) (by omega) (by omega)).2.2.2).mp (by omega)
    exact ⟨fun m a c => Or.inl (z m a c), fun i j a c d _ => z i a (by omega)⟩
  have wt : ∀ c, 0 ≤ c → c < nK_c M P → (VGc P M C sk c → wf5_ P M C sk (phi_ P M.toNat c) = uc_ P M C c) := by
    intro c c0 c1 vg
    obtain ⟨a1, a2, a3⟩ := VG_tr (C := C) (sk := sk) m0 m4 p0 p4 c0 c1
    rw [wf5_t (a1.mpr vg), a2, a3]
    rfl
  have wi : ∀ d, 0 ≤ d → d < pf_.getD M.toNat 0 → 0 < wf5_ P M C sk d → ∃ c, 0 ≤ c ∧ c < nK_c M P ∧ phi_ P M.toNat c = d ∧ VGc P M C sk c ∧ uc_ P M C c = wf5_ P M C sk d := by
    intro d d0 d1 pos
    have vg : VG 4 P M C sk (g5_ M d) := Classical.byContradiction (fun q => by rw [wf5_f q] at pos; omega)
    rcases (kv.2.2.2.2 d d0 d1).2 with ⟨m, a, c, x, y⟩ | ⟨x, y, z⟩
    · rcases vg.1 m a c with q | q <;> omega
    · obtain ⟨a1, a2, a3⟩ := VG_tr (C := C) (sk := sk) m0 m4 p0 p4 y z
      rw [x] at a1
      have vc := a1.mp vg
      exact ⟨psi_ P M.toNat d, y, z, x, vc, by rw [← wt _ y z vc, x]⟩
  rcases g with ⟨_, _, _, no⟩ | ⟨k0, k1, kv', em, es, up, lo⟩
  · exact absurd last (no _ (by omega) (by omega))
  · refine ⟨k0, k1, ?_, em, es⟩
    obtain ⟨f1, f2, f3, f4⟩ := f
    have ub := uc_b (C := C) m0 m4 p0 p4 Cb k0 k1
    have uk : uc_ P M C k = 1000 * mny_ P (gP_ P M k) M.toNat - su_ P C (gP_ P M k) M.toNat := rfl
    have wk := wt k k0 k1 kv'
    have pk := (kv.2.2.2.1 k k0 k1).1
    have le := f1 _ pk.1 pk.2
    by_cases q : mny_ P (gP_ P M k) M.toNat = 0
    · have none := mny_0 M.toNat q
      have ek : k + 1 = nK_c M P := ((kv.2.2.2.1 k k0 k1).2.2.2).mpr (fun m a c => none m a (by omega))
      have v0 : v = 0 := by
        apply Classical.byContradiction
        intro nz
        obtain ⟨b0, b1, b2, b3⟩ := f4 (by omega)
        obtain ⟨c, c0, c1, c2, c3, c4⟩ := wi b b0 b1 (by omega)
        have := up c c0 c1 c3
        omega
      rw [f3 v0, ← kv.2.2.1]
      congr 1
      omega
    · obtain ⟨b0, b1, b2, b3⟩ := f4 (by omega)
      obtain ⟨c, c0, c1, c2, c3, c4⟩ := wi b b0 b1 (by omega)
      have uc := up c c0 c1 c3
      rcases Int.lt_trichotomy c k with z | z | z
      · have := lo c c0 z c3
        omega
      · rw [← c2, z]
      · have := phi_lt m0 m4 p0 p4 k0 z c1
        have := b3 _ pk.1 (by omega)
        omega
end
section
variable {h : am_H} {T W I : Tx} {U : Int → Tx} {Q : Tx} {K S : Int}
theorem Mo_lays_s (g : MN h T W I U Q) (v : WV T W) {C : Int → Int} (r : RW h 134 (T 0 1) C) (Cb : ∀ p, 0 ≤ p → p < T 0 1 → 0 ≤ C p ∧ C p ≤ 20) {c : Int} (c0 : 0 ≤ c) (c1 : c < nK_c (T 0 0) (T 0 1)) : ∃ h' r', Mo_laysMatch h 94 c 134 = some (h', r') ∧ (VGc (T 0 1) (T 0 0) C (T 2) c → r' = 1 ∧ rd_ h' 94 77 = mny_ (T 0 1) (gP_ (T 0 1) (T 0 0) c) (T 0 0).toNat ∧ rd_ h' 94 78 = su_ (T 0 1) C (gP_ (T 0 1) (T 0 0) c) (T 0 0).toNat) ∧ (¬ VGc (T 0 1) (T 0 0) C (T 2) c → r' = 0) ∧ MN h' T W I U Q ∧ RW h' 134 (T 0 1) C ∧ fzL h h' := by
  have v0 := v.1
  have kv := ((kM_v (M := T 0 0) (P := T 0 1) (by omega) (by omega) (by omega) (by omega)).2.2.2.1 c c0 c1).2.2.1
  have Z : fzL h (wr_ (wr_ h 94 77 0) 94 78 0) := fz_tr (fz_wf (Or.inl rfl)) (fz_wf (Or.inr rfl))
  have g1 := MN_q g v (mL_q Z)
  have et : (((T 0 0).toNat : Nat) : Int) = T 0 0 := by omega
  obtain ⟨h', r', y1, y2, y3, y4, y5, y6⟩ := Mo_lays_lp (I := I) (U := U) (Q := Q) v Cb (c := c) (fun m a b => (kv m a b).2) (T 0 0).toNat (wr_ (wr_ h 94 77 0) 94 78 0) 0 (by omega) g1 (RW_o (RW_o r (by omega)) (by omega)) (by omega) (by omega) (fun p p0 p1 => ⟨fun q => absurd (btt_0 p0 p1) q, fun ⟨i, a, b, _⟩ => by omega⟩) (fun m a b => by omega) (fun i j a b d => by omega) (by rw [rd_wk (by omega), rd_ws]; omega) (by rw [rd_ws]; omega)
  refine ⟨h', r', ?_, y2, y3, y4, y5, fz_tr Z y6⟩
  have e12 : rd_ (wr_ (wr_ h 94 77 0) 94 78 0) 94 12 = T 0 0 := g1.2.1.1.1
  rw [Mo_laysMatch_e, ck_t (by omega), ck_t (by omega), ck_t (by omega), e12, w32_i (x := T 0 0 - 1) (by omega) (by omega)]
  rw [et, show (T 0 0 - T 0 0).toNat = 0 by omega] at y1
  exact y1
theorem Mo_match_12s (v : WV T W) {C : Int → Int} (Cb : ∀ p, 0 ≤ p → p < T 0 1 → 0 ≤ C p ∧ C p ≤ 20) {x : Int} : ∀ (n : Nat) (k b mny s : Int) (h : am_H), 0 ≤ k → k + n = nK_c (T 0 0) (T 0 1) → MN h T W I U Q → RW h 134 (T 0 1) C → MB2 (T 0 1) (T 0 0) C (T 2) k b mny s → ∃ h' b' m' s', Mo_match_12 h 94 x (nK_c (T 0 0) (T 0 1)) b mny s k = Mo_match_12 h' 94 x (nK_c (T 0 0) (T 0 1)) b' m' s' (nK_c (T 0 0) (T 0 1)) ∧ MB2 (T 0 1) (T 0 0) C (T 2) (nK_c (T 0 0) (T 0 1)) b' m' s' ∧ MN h' T W I U Q ∧ fzL h h' := by
  intro n
  have v0 := v.1
  have kv := kM_v (M := T 0 0) (P := T 0 1) (by omega) (by omega) (by omega) (by omega)
  induction n with
  | zero =>
    intro k b mny s h k0 hk g r q
    have e : k = nK_c (T 0 0) (T 0 1) := by omega
    rw [e] at q ⊢
    exact ⟨h, b, mny, s, rfl, q, g, fz_refl _ _ _⟩
  | succ n ih =>
    intro k b mny s h k0 hk g r q
    have k1 : k < nK_c (T 0 0) (T 0 1) := by omega
    obtain ⟨h1, r', y1, y2, y3, g1, r1, z1⟩ := Mo_lays_s g v r Cb k0 k1
    have ub := uc_b (C := C) (M := T 0 0) (P := T 0 1) (by omega) (by omega) (by omega) (by omega) Cb k0 k1
    have uk : uc_ (T 0 1) (T 0 0) C k = 1000 * mny_ (T 0 1) (gP_ (T 0 1) (T 0 0) k) (T 0 0).toNat - su_ (T 0 1) C (gP_ (T 0 1) (T 0 0) k) (T 0 0).toNat := rfl
    have skip : (VGc (T 0 1) (T 0 0) C (T 2) k → 0 ≤ b ∧ uc_ (T 0 1) (T 0 0) C k ≤ uc_ (T 0 1) (T 0 0) C b) → ∃ h' b' m' s', Mo_match_12 h1 94 x (nK_c (T 0 0) (T 0 1)) b mny s (k + 1) = Mo_match_12 h' 94 x (nK_c (T 0 0) (T 0 1)) b' m' s' (nK_c (T 0 0) (T 0 1)) ∧ MB2 (T 0 1) (T 0 0) C (T 2) (nK_c (T 0 0) (T 0 1)) b' m' s' ∧ MN h' T W I U Q ∧ fzL h h' := by
      intro le
      obtain ⟨h2, b', m', s', w1, w2, w3, w4⟩ := ih (k + 1) b mny s h1 (by omega) (by omega) g1 r1 (by
        rcases q with ⟨q1, q2, q3, q4⟩ | ⟨q1, q2, q3, q4, q5, q6, q7⟩
        · exact Or.inl ⟨q1, q2, q3, fun c c0 c1 vc => by
            by_cases e : c = k
            · rw [e] at vc; have := (le vc).1; omega
            · exact q4 c c0 (by omega) vc⟩
        · exact Or.inr ⟨q1, by omega, q3, q4, q5, fun c c0 c1 vc => by
            by_cases e : c = k
            · rw [e] at vc ⊢; exact (le vc).2
            · exact q6 c c0 (by omega) vc, q7⟩)
      exact ⟨h2, b', m', s', w1, w2, w3, fz_tr z1 w4⟩
    have take : VGc (T 0 1) (T 0 0) C (T 2) k → (0 ≤ b → uc_ (T 0 1) (T 0 0) C b < uc_ (T 0 1) (T 0 0) C k) → ∃ h' b' m' s', Mo_match_12 h1 94 x (nK_c (T 0 0) (T 0 1)) k (mny_ (T 0 1) (gP_ (T 0 1) (T 0 0) k) (T 0 0).toNat) (su_ (T 0 1) C (gP_ (T 0 1) (T 0 0) k) (T 0 0).toNat) (k + 1) = Mo_match_12 h' 94 x (nK_c (T 0 0) (T 0 1)) b' m' s' (nK_c (T 0 0) (T 0 1)) ∧ MB2 (T 0 1) (T 0 0) C (T 2) (nK_c (T 0 0) (T 0 1)) b' m' s' ∧ MN h' T W I U Q ∧ fzL h h' := by
      intro vk gt
      obtain ⟨h2, b', m', s', w1, w2, w3, w4⟩ := ih (k + 1) k (mny_ (T 0 1) (gP_ (T 0 1) (T 0 0) k) (T 0 0).toNat) (su_ (T 0 1) C (gP_ (T 0 1) (T 0 0) k) (T 0 0).toNat) h1 (by omega) (by omega) g1 r1 (Or.inr ⟨k0, by omega, vk, rfl, rfl, fun c c0 c1 vc => by
          by_cases e : c = k
          · rw [e]; exact Int.le_refl _
          · rcases q with ⟨q1, q2, q3, q4⟩ | ⟨q1, q2, q3, q4, q5, q6, q7⟩
            · exact absurd vc (q4 c c0 (by omega))
            · have := q6 c c0 (by omega) vc
              have := gt q1
              omega, fun c c0 c1 vc => by
          rcases q with ⟨q1, q2, q3, q4⟩ | ⟨q1, q2, q3, q4, q5, q6, q7⟩
          · exact absurd vc (q4 c c0 (by omega))
          · have := q6 c c0 (by omega) vc
            have := gt q1
            omega⟩)
      exact ⟨h2, b', m', s', w1, w2, w3, fz_tr z1 w4⟩
    have bb : (b = -1 ∧ mny = -1 ∧ s = 0) ∨ (0 ≤ b ∧ mny ≤ 4 ∧ 0 ≤ mny ∧ 0 ≤ s ∧ s ≤ 20 * mny ∧ uc_ (T 0 1) (T 0 0) C b = 1000 * mny - s) := by
      rcases q with ⟨q1, q2, q3, q4⟩ | ⟨q1, q2, q3, q4, q5, q6, q7⟩
      · exact Or.inl ⟨q1, q2, q3⟩
      · have ub2 := uc_b (C := C) (M := T 0 0) (P := T 0 1) (by omega) (by omega) (by omega) (by omega) Cb q1 (by omega)
        refine Or.inr ⟨q1, by omega, by omega, by omega, by omega, ?_⟩
        rw [q4, q5]
        rfl
    rw [Mo_match_12_e, if_neg (by omega)]
    simp only [mr79 g.1]
    rw [ck_t (by omega), ck_t (by omega), y1, bd_v, w32_i (x := k + 1) (by omega) (by omega)]
    by_cases vk : VGc (T 0 1) (T 0 0) C (T 2) k
    · obtain ⟨e1, e2, e3⟩ := y2 vk
      rw [if_neg (by omega), ck_t (by omega), e2, e3]
      by_cases c1 : mny_ (T 0 1) (gP_ (T 0 1) (T 0 0) k) (T 0 0).toNat < mny
      · rw [if_pos c1]
        exact skip (fun _ => by omega)
      · rw [if_neg c1, ck_t (by omega)]
        by_cases c2 : mny_ (T 0 1) (gP_ (T 0 1) (T 0 0) k) (T 0 0).toNat = mny
        · rw [if_neg (fun z => z c2), ck_t (by omega)]
          by_cases c3 : su_ (T 0 1) C (gP_ (T 0 1) (T 0 0) k) (T 0 0).toNat < s
          · rw [if_pos c3, ck_t (by omega), ck_t (by omega)]
            exact take vk (fun _ => by omega)
          · rw [if_neg c3]
            exact skip (fun _ => by omega)
        · rw [if_pos c2, ck_t (by omega), ck_t (by omega)]
          exact take vk (fun _ => by omega)
    · rw [if_pos (y3 vk)]
      exact skip (fun z => absurd z vk)
end
