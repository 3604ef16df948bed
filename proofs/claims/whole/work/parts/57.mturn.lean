/-! a pile is turned, in the reference -/
/-- nothing has changed but in the half b -/
def hf_ (h h' : am_H) (b : Int) : Prop := (∀ a x, (a = 121 ∨ a = 123 ∨ a = 124) → ¬ (20 * b ≤ x ∧ x < 20 * b + 20) → rd_ h' a x = rd_ h a x) ∧ (∀ a x, (a = 120 ∨ a = 122 ∨ a = 125) → ¬ (4 * b ≤ x ∧ x < 4 * b + 4) → rd_ h' a x = rd_ h a x) ∧ (∀ a x, (a = 126 ∨ a = 127) → x ≠ b → rd_ h' a x = rd_ h a x)
theorem hf_refl (h : am_H) (b : Int) : hf_ h h b := ⟨fun _ _ _ _ => rfl, fun _ _ _ _ => rfl, fun _ _ _ _ => rfl⟩
theorem hf_tr {h h1 h2 : am_H} {b : Int} (x : hf_ h h1 b) (y : hf_ h1 h2 b) : hf_ h h2 b := ⟨fun a k p q => (y.1 a k p q).trans (x.1 a k p q), fun a k p q => (y.2.1 a k p q).trans (x.2.1 a k p q), fun a k p q => (y.2.2 a k p q).trans (x.2.2 a k p q)⟩
theorem hf_MW {h h' : am_H} {b c : Int} {T W : Tx} (x : hf_ h h' b) (n : b ≠ c) (hb : b = 0 ∨ b = 1) (v : WV T W) (o : MW h c T W) : MW h' c T W := by
  obtain ⟨b0, g0, g1, g2, g3, g4, g5, g6, g7⟩ := id o
  obtain ⟨v0, v1, v2, v3, v4, v5, v6, v7, v8, v9, v10, v11⟩ := id v
  obtain ⟨x1, x2, x3⟩ := x
  refine ⟨b0, ?_, ?_, ?_, ?_, ?_, ?_, ?_, ?_⟩
  · intro p a b
    rw [x2 _ _ (by omega) (by omega)]; exact g0 p a b
  · intro p a b
    rw [x2 _ _ (by omega) (by omega)]; exact g1 p a b
  · intro p a b
    rw [x2 _ _ (by omega) (by omega)]; exact g2 p a b
  · intro p k a b c e
    have := v1 p a b
    rw [x1 _ _ (by omega) (by omega)]; exact g3 p k a b c e
  · intro p a b
    rw [x1 _ _ (by omega) (by omega)]; exact g4 p a b
  · intro p a b
    rw [x1 _ _ (by omega) (by omega)]; exact g5 p a b
  · rw [x3 _ _ (by omega) (by omega)]; exact g6
  · rw [x3 _ _ (by omega) (by omega)]; exact g7
theorem fr_hf {h h' : am_H} {A : Int → Prop} (x : fr_ h h' A) (n : ∀ a, 120 ≤ a → a ≤ 127 → ¬ A a) (b : Int) : hf_ h h' b := ⟨fun a k p _ => x.2 a (n a (by omega) (by omega)) k, fun a k p _ => x.2 a (n a (by omega) (by omega)) k, fun a k p _ => x.2 a (n a (by omega) (by omega)) k⟩
theorem Mo_flip {b p d i : Int} (hb : b = 0 ∨ b = 1) : ∀ (n : Nat) (h : am_H) (k : Int), ShM h → 0 ≤ k → k + n = d → 0 ≤ i → i + d ≤ 40 → (∀ x, k ≤ x → x < d → 0 ≤ rd_ h 121 (i + x) ∧ rd_ h 121 (i + x) < 20 ∧ (rd_ h 123 (20 * b + rd_ h 121 (i + x)) = 0 ∨ rd_ h 123 (20 * b + rd_ h 121 (i + x)) = 1)) → (∀ x y, k ≤ x → x < d → k ≤ y → y < d → rd_ h 121 (i + x) = rd_ h 121 (i + y) → x = y) →
    ∃ h', Mo_turnsBy_1 h 94 b p d i k = Mo_turnsBy_4 h' 94 b p d i 0 ∧ fr_ h h' (fun a => a = 123) ∧ (∀ x, k ≤ x → x < d → rd_ h' 123 (20 * b + rd_ h 121 (i + x)) = 1 - rd_ h 123 (20 * b + rd_ h 121 (i + x))) ∧ ∀ j, (∀ x, k ≤ x → x < d → 20 * b + rd_ h 121 (i + x) ≠ j) → rd_ h' 123 j = rd_ h 123 j := by
  intro n
  induction n with
  | zero =>
    intro h k s hk hn hi h40 hr hd
    refine ⟨h, ?_, fr_refl _ _, fun x a b => by omega, fun _ _ => rfl⟩
    rw [Mo_turnsBy_1_e, if_pos (by omega)]
  | succ n ih =>
    intro h k s hk hn hi h40 hr hd
    have q := hr k (by omega) (by omega)
    rw [Mo_turnsBy_1_e]
    try simp only [mr53 s, ml121 s, mr55 s, ml123 s]
    simp (disch := omega) only [w32_i]
    repeat first | rw [ck_t (by omega)] | rw [if_neg (by omega)] | rw [if_pos (by omega)] | simp (disch := omega) only [w32_i]
    have ne : (121 : Int) ≠ 123 := by omega
    obtain ⟨h', e1, e2, e3, e4⟩ := ih (wr_ h 123 (20 * b + rd_ h 121 (i + k)) (1 - rd_ h 123 (20 * b + rd_ h 121 (i + k)))) (k + 1) (ShM_of rfl s) (by omega) (by omega) hi h40 (by
      intro x a c
      have := hr x (by omega) c
      rw [rd_wo ne, rd_wa]
      refine ⟨this.1, this.2.1, ?_⟩
      split
      · omega
      · exact this.2.2) (by
      intro x y a b c e
      rw [rd_wo ne, rd_wo ne]
      exact hd x y (by omega) b (by omega) e)
    refine ⟨h', e1, fr_tr (fr_wr rfl) e2, ?_, ?_⟩
    · intro x a b
      by_cases c : x = k
      · subst c
        rw [e4 _ (fun y a' b' => by
          rw [rd_wo ne]
          intro z
          have := hd y x (by omega) b' (by omega) b (by omega)
          omega), rd_ws]
      · have := e3 x (by omega) b
        rw [rd_wo ne, rd_wk (fun z => c (hd x k a b (by omega) (by omega) (by omega)))] at this
        exact this
    · intro j hj
      rw [e4 j (fun y a b => by rw [rd_wo ne]; exact hj y (by omega) b), rd_wk (fun z => hj k (by omega) (by omega) z.symm)]
theorem Mo_rev {b p d i : Int} (hb : b = 0 ∨ b = 1) (h1 : 0 ≤ p) (h2 : p < 4) (hd0 : 1 ≤ d) (hd5 : d ≤ 5) (hi0 : 0 ≤ i) (hi40 : i + d ≤ 40) : ∀ (n : Nat) (h : am_H) (k : Int), ShM h → 0 ≤ k → k ≤ d → d - 1 - 2 * k < n → ∃ h', Mo_turnsBy_4 h 94 b p d i k = some (wr_ h' 122 (4 * b + p) (w32 (rd_ h 122 (4 * b + p) + 1)), 0) ∧ fr_ h h' (fun a => a = 121) ∧ ∀ x, rd_ h' 121 x = if i + k ≤ x ∧ x ≤ i + d - 1 - k then rd_ h 121 (2 * i + d - 1 - x) else rd_ h 121 x := by
  intro n
  induction n with
  | zero =>
    intro h k s hk hkd hn
    refine ⟨h, ?_, fr_refl _ _, ?_⟩
    · rw [Mo_turnsBy_4_e]
      try simp only [mr53 s, ml121 s, mr54 s, ml122 s]
      simp (disch := omega) only [w32_i]
      repeat first | rw [ck_t (by omega)] | rw [if_neg (by omega)] | rw [if_pos (by omega)] | simp (disch := omega) only [w32_i]
    · intro x
      rw [if_neg (by omega)]
  | succ n ih =>
    intro h k s hk hkd hn
    by_cases c : d - 1 - k ≤ k
    · refine ⟨h, ?_, fr_refl _ _, ?_⟩
      · rw [Mo_turnsBy_4_e]
        try simp only [mr53 s, ml121 s, mr54 s, ml122 s]
        simp (disch := omega) only [w32_i]
        repeat first | rw [ck_t (by omega)] | rw [if_neg (by omega)] | rw [if_pos (by omega)] | simp (disch := omega) only [w32_i]
      · intro x
        split
        · have : 2 * i + d - 1 - x = x := by omega
          rw [this]
        · rfl
    · rw [Mo_turnsBy_4_e]
      try simp only [mr53 s, ml121 s, mr54 s, ml122 s]
      simp (disch := omega) only [w32_i]
      repeat first | rw [ck_t (by omega)] | rw [if_neg (by omega)] | rw [if_pos (by omega)] | simp (disch := omega) only [w32_i]
      obtain ⟨h', e1, e2, e3⟩ := ih (wr_ (wr_ h 121 (i + k) (rd_ h 121 (i + d - 1 - k))) 121 (i + d - 1 - k) (rd_ h 121 (i + k))) (k + 1) (ShM_of rfl s) (by omega) (by omega) (by omega)
      refine ⟨h', ?_, fr_tr (fr_tr (fr_wr rfl) (fr_wr rfl)) e2, ?_⟩
      · rw [e1, rd_wo (by omega), rd_wo (by omega)]
      · intro x
        rw [e3]
        simp only [rd_wa]
        repeat' split
        all_goals first | omega | rfl | (congr 1; omega)
section
variable {h : am_H} {b : Int} {T W : Tx}
theorem Mo_turnsBy_s (s : ShM h) (o : MW h b T W) (v : WV T W) {p d : Int} (h1 : 0 ≤ p) (h2 : p < T 0 1) (h3 : 1 ≤ d) (h4 : d ≤ W 0 p) : ∃ h', Mo_turnsBy h 94 b p d = some (h', 0) ∧ MW h' b T (Tn W p d) ∧ fr_ h h' (fun a => a = 121 ∨ a = 122 ∨ a = 123) ∧ hf_ h h' b := by
  obtain ⟨b0, g0, g1, g2, g3, g4, g5, g6, g7⟩ := id o
  obtain ⟨v0, v1, v2, v3, v4, v5, v6, v7, v8, v9, v10, v11⟩ := id v
  have q2 := v1 p h1 h2
  rw [Mo_turnsBy_e]
  simp (disch := omega) only [w32_i]
  have ly : ∀ k, 0 ≤ k → k < d → rd_ h 121 (20 * b + 5 * p + k) = W 3 (5 * p + k) := by
    intro k a c
    rw [show 20 * b + 5 * p + k = 20 * b + (5 * p + k) by omega]
    exact g3 p k h1 h2 a (by omega)
  obtain ⟨ha, a1, a2, a3, a4⟩ := Mo_flip (b := b) (p := p) (d := d) (i := 20 * b + 5 * p) b0 d.toNat h 0 s (by omega) (by omega) (by omega) (by omega) (by
      intro x a c
      have y := v2 p x h1 h2 a (by omega)
      rw [ly x a c, g4 _ y.1 y.2]
      have := v6 _ y.1 y.2
      refine ⟨y.1, by omega, this.1⟩) (by
      intro x y a c e f z
      rw [ly x a c, ly y e f] at z
      have := v3 p _ p _ h1 h2 a (by omega) h1 h2 e (by omega) z
      omega)
  obtain ⟨hb, b1, b2, b3⟩ := Mo_rev (b := b) (p := p) (d := d) (i := 20 * b + 5 * p) b0 h1 (by omega) h3 (by omega) (by omega) (by omega) 6 ha 0 (ShM_of a2.1 s) (by omega) (by omega) (by omega)
  rw [a1, b1]
  have F : fr_ h (wr_ hb 122 (4 * b + p) (w32 (rd_ ha 122 (4 * b + p) + 1))) (fun a => a = 121 ∨ a = 122 ∨ a = 123) :=
    fr_tr (fr_mo a2 fun a e => by omega) (fr_tr (fr_mo b2 fun a e => by omega) (fr_wr (by omega)))
  have tu : rd_ ha 122 (4 * b + p) = W 1 p := by rw [a2.2 122 (by omega), g1 p h1 h2]
  have l3 : ∀ x, rd_ (wr_ hb 122 (4 * b + p) (w32 (rd_ ha 122 (4 * b + p) + 1))) 121 x = if 20 * b + 5 * p ≤ x ∧ x < 20 * b + 5 * p + d then rd_ h 121 (2 * (20 * b + 5 * p) + d - 1 - x) else rd_ h 121 x := by
    intro x
    rw [rd_wo (by omega), b3, a2.2 121 (by omega), a2.2 121 (by omega)]
    split <;> split <;> first | rfl | omega
  have l5 : ∀ x, rd_ (wr_ hb 122 (4 * b + p) (w32 (rd_ ha 122 (4 * b + p) + 1))) 123 x = rd_ ha 123 x := by
    intro x
    rw [rd_wo (by omega), b2.2 123 (by omega)]
  refine ⟨_, rfl, ?_, F, ?_⟩
  · refine ⟨b0, ?_, ?_, ?_, ?_, ?_, ?_, ?_, ?_⟩
    · intro q a c
      rw [F.2 120 (by omega)]; exact g0 q a c
    · intro q a c
      rw [rd_wa, Tn_1]
      dsimp only
      by_cases e : q = p
      · rw [if_pos (by omega), if_pos e, tu]
      · rw [if_neg (by omega), if_neg e, b2.2 122 (by omega), a2.2 122 (by omega), g1 q a c]
    · intro q a c
      rw [F.2 125 (by omega)]; exact g2 q a c
    · intro q k a c e f
      have q5 := v1 q a c
      rw [Tn_0] at f
      rw [l3, Tn_3b W h1 (by omega) a e (by omega)]
      unfold tb_
      by_cases z : q = p ∧ k < d
      · obtain ⟨z1, z2⟩ := z
        subst z1
        rw [if_pos (by omega), if_pos (by omega), ← g3 q (d - 1 - k) a c (by omega) (by omega)]
        congr 1
        omega
      · rw [if_neg (by omega), if_neg z, g3 q k a c e f]
    · intro j a c
      rw [l5, Tn_4]
      dsimp only
      split
      · rename_i z
        obtain ⟨k, k1, k2, k3⟩ := an_t.mp z
        have y := a3 k k1 k2
        rw [ly k k1 k2, k3, g4 j a c] at y
        exact y
      · rename_i z
        rw [a4, g4 j a c]
        intro x a' b' c'
        apply z
        apply an_t.mpr
        rw [ly x a' b'] at c'
        exact ⟨x, a', b', by omega⟩
    · intro j a c
      rw [F.2 124 (by omega)]; exact g5 j a c
    · rw [F.2 127 (by omega)]; exact g6
    · rw [F.2 126 (by omega)]; exact g7
  · refine ⟨?_, ?_, ?_⟩
    · intro a x e f
      rcases e with e | e | e
      · subst e
        rw [l3, if_neg (by omega)]
      · subst e
        rw [l5, a4]
        intro y a' b' c'
        have := v2 p y h1 h2 a' (by omega)
        rw [ly y a' b'] at c'
        omega
      · subst e
        exact F.2 124 (by omega) x
    · intro a x e f
      rcases e with e | e | e
      · subst e
        exact F.2 120 (by omega) x
      · subst e
        rw [rd_wk (by omega), b2.2 122 (by omega), a2.2 122 (by omega)]
      · subst e
        exact F.2 125 (by omega) x
    · intro a x e f
      exact F.2 a (by omega) x
end
