/-! minutes, in the reference -/
section
variable {b : Int} {T : Tx} {M : Int → Int}
theorem Mo_turnIn_s (u : TV T) (hM : MV M) {h : am_H} {V : Tx} (g : MS h b T V M) (v : WV T V) {i k : Int} (h1 : 0 ≤ i) (h2 : i < T 0 3) (hn : T 8 i ≠ M 5) (hk : 0 ≤ k) (hk2 : k < 2) {s0 : Int} (hs : k < s0) :
    ∃ h', Mo_minuteGoes_9 h 94 b i (T 9 i) k s0 k = Mo_minuteGoes_6 h' 94 b i (T 9 i) (k + 1) ∧ MS h' b T (zk_ T M V i) M ∧ MG h h' b M := by
  have a := u.2.2.1 i h1 h2
  have u0 := u.1
  have v0 := v.1
  obtain ⟨e8, e9, e10, e11⟩ := g.2.1.2.2.2.2.2.2.2.2 i h1 h2
  have db := dp_b u v hM h1 h2
  obtain ⟨m1, m2, m3, m4, m5, m6, m7, m8⟩ := g.2.2.2.2.1
  obtain ⟨h', t1, t2, t3⟩ := Mo_turnsOne_s g v u (m := T 8 i) (p := T 9 i) (d := dp_ T M V i) (by omega) (by omega) (by omega) (by omega) db.1 db.2 hM.1
  have ez : zk_ T M V i = zt_ T (M 3) (if M 4 = 0 then 1 else 0) V (T 8 i) (T 9 i) (dp_ T M V i) := by unfold zk_; rw [if_neg hn]
  rw [← ez] at t2
  refine ⟨h', ?_, t2, t3⟩
  rw [Mo_minuteGoes_9_e]
  simp only [Mo_minuteGoes_13_e, mr33 g.1, ml108 g.1, mr31 g.1, ml106 g.1, m7, m8, m5, m3, e8, e10, Mo_highOf_s g.1 g.2.2.2.1 (p := T 9 i) (by omega) (by omega) v, bd_v]
  rw [if_neg (by omega)]
  repeat rw [ck_t (by omega)]
  have dd : dp_ T M V i = dp_ T M V i := rfl
  conv at dd => rhs; unfold dp_
  have hM4 := hM.2.2.2
  rw [w32_i (x := k + 1) (by omega) (by omega), w32_i (x := T 10 i + 1) (by omega) (by omega)]
  by_cases c1 : i = M 6
  · rw [if_pos c1] at dd
    have : M 4 = -1 := by omega
    rw [if_neg (by omega), if_neg (c := M 4 = 4) (by omega), if_pos rfl, if_neg (c := M 4 = 1) (by omega), if_pos rfl, ← dd]
    repeat rw [ck_t (by omega)]
    rw [t1, bd_v]
  · rw [if_neg c1] at dd
    rw [if_pos c1]
    by_cases c2 : M 4 = 4
    · rw [if_pos c2] at dd
      rw [if_pos (c := M 4 = 4) c2, if_neg (by omega), ← dd]
      repeat rw [ck_t (by omega)]
      rw [t1, bd_v]
    · rw [if_neg c2] at dd
      rw [if_neg (c := M 4 = 4) c2, if_pos rfl]
      by_cases c3 : M 4 = 1
      · rw [if_pos c3] at dd
        rw [if_pos (c := M 4 = 1) c3, if_neg (by omega), ← dd]
        repeat rw [ck_t (by omega)]
        rw [t1, bd_v]
      · rw [if_neg c3] at dd
        rw [if_neg (c := M 4 = 1) c3, if_pos rfl, ← dd]
        repeat rw [ck_t (by omega)]
        rw [t1, bd_v]
theorem Mo_pass_lp (u : TV T) (hM : MV M) (m0 : Int) : ∀ (n : Nat) (i : Int) (V : Tx) (h : am_H), MS h b T V M → WV T V → V 6 0 = m0 → 0 ≤ i → i + n = T 0 3 →
    ∃ h', Mo_minuteGoes_1 h 94 b i = some (h', 0) ∧ MS h' b T (up_ (zf_ T M m0 n i V) 6 0 (w32 (m0 + 1))) M ∧ MG h h' b M := by
  have u0 := u.1
  intro n
  induction n with
  | zero =>
    intro i V h g v e hi hn
    have b0 := g.2.2.2.1.1
    have t3 : rd_ h 94 15 = T 0 3 := g.2.1.1.2.2.2.1
    have e3 : rd_ h 127 b = V 6 0 := g.2.2.2.1.2.2.2.2.2.2.2.1
    have q := MW_mi g.2.2.2.1 (w32 (m0 + 1))
    have z := MS_half g (fr_wr ⟨by omega, by omega⟩) q.2 q.1 rfl (fun x => Or.inl (rd_wo (by omega)))
    refine ⟨_, ?_, z.1, z.2⟩
    rw [Mo_minuteGoes_1_e]
    simp only [t3, mr59 g.1, ml127 g.1, e3, e]
    repeat rw [ck_t (by omega)]
    rw [if_pos (by omega)]
    repeat rw [ck_t (by omega)]
  | succ n ih =>
    intro i V h g v e hi hn
    have b0 := g.2.2.2.1.1
    have a := u.2.2.1 i hi (by omega)
    have t3 : rd_ h 94 15 = T 0 3 := g.2.1.1.2.2.2.1
    have e3 : rd_ h 127 b = V 6 0 := g.2.2.2.1.2.2.2.2.2.2.2.1
    obtain ⟨e8, e9, e10, e11⟩ := g.2.1.2.2.2.2.2.2.2.2 i hi (by omega)
    obtain ⟨m1, m2, m3, m4, m5, m6, m7, m8⟩ := g.2.2.2.2.1
    rw [Mo_minuteGoes_1_e]
    simp only [t3, mr59 g.1, ml127 g.1, mr34 g.1, ml109 g.1, mr31 g.1, ml106 g.1, mr32 g.1, ml107 g.1, e3, e, e8, e9, e11, m6]
    repeat rw [ck_t (by omega)]
    rw [if_neg (by omega)]
    repeat rw [ck_t (by omega)]
    have eu : zf_ T M m0 (n + 1) i V = zf_ T M m0 n (i + 1) (zs_ T M m0 i V) := rfl
    rw [eu, w32_i (x := i + 1) (by omega) (by omega)]
    unfold zs_
    by_cases c2 : T 11 i = m0
    · rw [if_neg (by omega), if_pos c2]
      repeat rw [ck_t (by omega)]
      by_cases c3 : T 8 i = M 5
      · have ez : ∀ W, zk_ T M W i = W := fun W => by unfold zk_; rw [if_pos c3]
        rw [if_neg (by omega), ez, ez]
        have : (if M 4 = 3 then V else V) = V := by split <;> rfl
        rw [this]
        exact ih (i + 1) V h g v e (by omega) (by omega)
      · rw [if_pos c3]
        repeat rw [ck_t (by omega)]
        have va := zk_v (M := M) v u hi (by omega)
        have six : ∀ h k, rd_ h 94 64 = (if M 4 = 3 then 1 else 0) → Mo_minuteGoes_6 h 94 b i (T 9 i) k = Mo_minuteGoes_9 h 94 b i (T 9 i) k (if M 4 = 3 then 2 else 1) k := by
          intro h k hh
          rw [Mo_minuteGoes_6_e, ck_t (by omega), hh]
          by_cases c : M 4 = 3
          · rw [if_pos c, if_pos c, if_neg (by omega)]
          · rw [if_neg c, if_neg c, if_pos rfl]
        rw [six h 0 m4]
        obtain ⟨ha, a1, a2, a3⟩ := Mo_turnIn_s (b := b) u hM g v (k := 0) hi (by omega) c3 (by omega) (by omega) (s0 := if M 4 = 3 then 2 else 1) (by split <;> omega)
        rw [a1, six ha (0 + 1) a2.2.2.2.2.1.2.2.2.1]
        by_cases c4 : M 4 = 3
        · rw [if_pos c4, if_pos c4]
          obtain ⟨hb, b1, b2, b3⟩ := Mo_turnIn_s (b := b) u hM a2 va (k := 0 + 1) hi (by omega) c3 (by omega) (by omega) (s0 := 2) (by omega)
          have vb := zk_v (M := M) va u hi (by omega)
          rw [b1, six hb (0 + 1 + 1) b2.2.2.2.2.1.2.2.2.1, if_pos c4, Mo_minuteGoes_9_e, if_pos (by omega), w32_i (x := i + 1) (by omega) (by omega)]
          obtain ⟨h', i1, i2, i3⟩ := ih (i + 1) _ hb b2 vb (by rw [zk_6, zk_6]; exact e) (by omega) (by omega)
          exact ⟨h', i1, i2, MG_tr a3 (MG_tr b3 i3)⟩
        · rw [if_neg c4, if_neg c4, Mo_minuteGoes_9_e, if_pos (by omega), w32_i (x := i + 1) (by omega) (by omega)]
          obtain ⟨h', i1, i2, i3⟩ := ih (i + 1) _ ha a2 va (by rw [zk_6]; exact e) (by omega) (by omega)
          exact ⟨h', i1, i2, MG_tr a3 i3⟩
    · rw [if_pos c2, if_neg c2]
      exact ih (i + 1) V h g v e (by omega) (by omega)
theorem Mo_minuteGoes_s (u : TV T) (hM : MV M) {h : am_H} {W : Tx} (g : MS h b T W M) (v : WV T W) : ∃ h', Mo_minuteGoes h 94 b = some (h', 0) ∧ MS h' b T (zp_ T M W) M ∧ MG h h' b M := by
  have u0 := u.1
  rw [Mo_minuteGoes_e]
  exact Mo_pass_lp u hM (W 6 0) (T 0 3).toNat 0 W h g v rfl (by omega) (by omega)
theorem Mo_goMany_lp (u : TV T) (hM : MV M) {N : Int} (hN : N ≤ 1000) : ∀ (n : Nat) (i : Int) (W : Tx) (h : am_H), MS h 1 T W M → WV T W → 0 ≤ i → i + n = N →
    ∃ h', Mo_goMany_1 h 94 N i = some (h', 0) ∧ MS h' 1 T (zn_ T M n W) M ∧ MG h h' 1 M := by
  intro n
  induction n with
  | zero =>
    intro i W h g v hi hn
    refine ⟨h, ?_, g, MG_refl _ _ _⟩
    rw [Mo_goMany_1_e, if_pos (by omega)]
  | succ n ih =>
    intro i W h g v hi hn
    obtain ⟨ha, a1, a2, a3⟩ := Mo_minuteGoes_s u hM g v
    obtain ⟨h', i1, i2, i3⟩ := ih (i + 1) _ ha a2 (zp_v v u) (by omega) (by omega)
    refine ⟨h', ?_, i2, MG_tr a3 i3⟩
    rw [Mo_goMany_1_e, if_neg (by omega), ck_t (by omega), a1, bd_v, w32_i (by omega) (by omega), i1]
theorem Mo_goMany_s (u : TV T) (hM : MV M) {N : Int} (h0 : 0 ≤ N) (hN : N ≤ 1000) {h : am_H} {W : Tx} (g : MS h 1 T W M) (v : WV T W) : ∃ h', Mo_goMany h 94 N = some (h', 0) ∧ MS h' 1 T (zn_ T M N.toNat W) M ∧ MG h h' 1 M := by
  rw [Mo_goMany_e]
  exact Mo_goMany_lp u hM hN N.toNat 0 W h g v (by omega) (by omega)
end
