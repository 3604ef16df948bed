/-! a token in the reference -/
def msg_ (k : Int) : Int := if k = 36 then 43 else if k = 37 then 45 else if k = 38 then 42 else if k = 39 then 47 else if k = 42 then 59 else k
/-- the class's kind and value of a token, the reference's -/
def MRk (k v K X : Int) : Prop := (k = 0 ∧ K = 0) ∨ (k = 1 ∧ (K = 6 ∨ (K = 4 ∧ X = 37))) ∨ (k = 2 ∧ K = 3 ∧ ((X = v ∧ 0 ≤ v ∧ v ≤ 999999) ∨ (99999 < X ∧ X ≤ 999999 ∧ 99999 < v ∧ v ≤ 1000000))) ∨ (k = 3 ∧ K = 2 ∧ X = v ∧ 0 ≤ v ∧ v < 1073741824) ∨ (10 ≤ k ∧ k ≤ 29 ∧ K = 1 ∧ X = ciw_ (k - 10)) ∨ (30 ≤ k ∧ k ≤ 35 ∧ K = 5 ∧ X = k - 30) ∨ (36 ≤ k ∧ k ≤ 42 ∧ K = 4 ∧ X = msg_ k)
def MR (h : am_H) (B : Int → Int) (n p : Int) : Prop := MTk h B n (tk_n B n p) ∧ rd_ h 94 10 = tp_ B n p ∧ MRk (tk_k B n p) (tk_v B n p) (rd_ h 94 8) (rd_ h 94 9)
section
variable {B : Int → Int} {n : Int}
theorem Mo_pk_st {h : am_H} {p s e v i : Int} (t : MTk h B n p) (s0 : 0 ≤ s) (s1 : s ≤ n) (e1 : e ≤ n) (i0 : 0 ≤ i) (i1 : i < 6) (v0 : 0 ≤ v) (v1 : v < 33554432) (l : s + i < e → 97 ≤ B (s + i) ∧ B (s + i) ≤ 122) : Mo_packed_1 h 94 s e v (s + i) = Mo_packed_1 h 94 s e (32 * v + if s + i < e then B (s + i) - 96 else 0) (s + (i + 1)) := by
  obtain ⟨a, b, c, d, f⟩ := id t
  have e5 : (2 : Int) ^ (5 % 32 : Int).toNat = 32 := by decide
  have z5 : (v * 32) % ((2 ^ 5 : Nat) : Int) = 0 := by
    have : ((2 ^ 5 : Nat) : Int) = 32 := by decide
    rw [this]
    omega
  have b5 : ((2 ^ 5 : Nat) : Int) = 32 := by decide
  by_cases q : s + i < e
  · have fb := f (s + i) (by omega) (by omega)
    have lq := l q
    rw [Mo_packed_1_e, w32_i (x := s + 6) (by omega) (by omega), if_neg (by omega), if_neg (by omega), e5, w32_i (x := v * 32) (by omega) (by omega), if_pos q]
    simp only [mr0 a, ml95 a, fb.1]
    rw [ck_t (by omega), ck_t (by omega), ck_t (by omega), w32_i (x := B (s + i) % 256 - 96) (by omega) (by omega), or_add 5 (by omega) (by omega) z5 (by omega) (by omega) (by omega), w32_i (x := s + i + 1) (by omega) (by omega), show v * 32 + (B (s + i) % 256 - 96) = 32 * v + (B (s + i) - 96) by omega, show s + i + 1 = s + (i + 1) by omega]
  · rw [Mo_packed_1_e, w32_i (x := s + 6) (by omega) (by omega), if_neg (by omega), if_pos (by omega), e5, w32_i (x := v * 32) (by omega) (by omega), if_neg q, or_add 5 (by omega) (by omega) z5 (by omega) (by omega) (by omega), w32_i (x := s + i + 1) (by omega) (by omega), show v * 32 + 0 = 32 * v + 0 by omega, show s + i + 1 = s + (i + 1) by omega]
theorem Mo_packed_s {h : am_H} {p s : Int} (t : MTk h B n p) (s0 : 0 ≤ s) (s1 : s < n) (l : isL B s = true) : Mo_packed h 94 s (we_ B n s) = some (h, wd_v B n s) := by
  obtain ⟨a, b, c, d, f⟩ := id t
  have wv := we_v s1 l
  obtain ⟨d0, d1⟩ := wd_d (B := B) (n := n) (s := s) (by omega)
  have let1 : ∀ i, 0 ≤ i → s + i < we_ B n s → 97 ≤ B (s + i) ∧ B (s + i) ≤ 122 := fun i x y => by
    have := (fe_v (P := isL B) (n := n) (n - s).toNat s (by omega)).2.2.1 (s + i) (by omega) (by unfold we_ at y; omega)
    exact isL_t.mp this
  have dd : ∀ i, 0 ≤ i → i < 6 → (if s + i < we_ B n s then B (s + i) - 96 else 0) = dg_ (wd_v B n s) i := fun i i0 i1 => by
    rw [d1 i i0 i1]
    by_cases q : s + i < we_ B n s
    · rw [if_pos q, if_pos (by omega)]
    · rw [if_neg q, if_neg (by omega)]
  have dr : ∀ i, 0 ≤ dg_ (wd_v B n s) i ∧ dg_ (wd_v B n s) i < 32 := fun i => by unfold dg_; omega
  have r0 := dr 0
  have r1 := dr 1
  have r2 := dr 2
  have r3 := dr 3
  have r4 := dr 4
  have r5 := dr 5
  have hv : wd_v B n s = 32 * (32 * (32 * (32 * (32 * dg_ (wd_v B n s) 0 + dg_ (wd_v B n s) 1) + dg_ (wd_v B n s) 2) + dg_ (wd_v B n s) 3) + dg_ (wd_v B n s) 4) + dg_ (wd_v B n s) 5 := by
    unfold dg_
    simp only [Int.reduceToNat, Int.reducePow, Int.reduceMul, Int.reduceSub]
    omega
  have st : ∀ v i, 0 ≤ i → i < 6 → 0 ≤ v → v < 33554432 → Mo_packed_1 h 94 s (we_ B n s) v (s + i) = Mo_packed_1 h 94 s (we_ B n s) (32 * v + dg_ (wd_v B n s) i) (s + (i + 1)) := fun v i i0 i1 v0 v1 => by
    rw [Mo_pk_st t s0 (by omega) wv.2 i0 i1 v0 v1 (let1 i i0), dd i i0 i1]
  have s00 := st 0 0 (by omega) (by omega) (by omega) (by omega)
  rw [Int.add_zero, show (32 : Int) * 0 + dg_ (wd_v B n s) 0 = dg_ (wd_v B n s) 0 by omega, Int.zero_add] at s00
  rw [Mo_packed_e, s00, st _ 1 (by omega) (by omega) (by omega) (by omega), show (1 : Int) + 1 = 2 from rfl, st _ 2 (by omega) (by omega) (by omega) (by omega), show (2 : Int) + 1 = 3 from rfl, st _ 3 (by omega) (by omega) (by omega) (by omega), show (3 : Int) + 1 = 4 from rfl, st _ 4 (by omega) (by omega) (by omega) (by omega), show (4 : Int) + 1 = 5 from rfl, st _ 5 (by omega) (by omega) (by omega) (by omega), Mo_packed_1_e, w32_i (x := s + 6) (by omega) (by omega), if_pos (by omega), ← hv]
theorem Mo_tk_ws : ∀ (f : Nat) (p : Int) (h : am_H), MTk h B n p → p + f = n → ∃ h', Mo_token h 94 = Mo_token_4 h' 94 ∧ MTk h' B n (fe_ (isW B) f p) ∧ fzK h h' := by
  intro f
  induction f with
  | zero =>
    intro p h t hp
    obtain ⟨a, b, c, d, e⟩ := id t
    refine ⟨h, ?_, t, fz_refl _ _ _⟩
    rw [Mo_token_e, ck_t (by omega), ck_t (by omega), c.1, c.2, if_pos (by omega)]
  | succ f ih =>
    intro p h t hp
    obtain ⟨a, b, c, d, e⟩ := id t
    have dp := e p (by omega) (by omega)
    obtain ⟨h', y1, y2, y3⟩ := ih (p + 1) (wr_ h 94 7 (p + 1)) (MT_n t (by omega) (by omega)) (by omega)
    have Z : fzK h h' := fz_tr (fz_wf ⟨by omega, by omega⟩) y3
    rw [fe_s1, Mo_token_e]
    simp only [c.1, c.2, mr0 a, ml95 a, dp.1]
    rw [ck_t (by omega), ck_t (by omega), if_neg (by omega), ck_t (by omega), ck_t (by omega), ck_t (by omega), ck_t (by omega), w32_i (x := p + 1) (by omega) (by omega)]
    by_cases q : B p = 10
    · rw [if_pos (c := B p % 256 = 10) (by omega), if_pos (isW_t.mpr (Or.inl q)), ck_t (by omega), ck_t (by omega)]
      exact ⟨h', y1, y2, Z⟩
    · rw [if_neg (c := B p % 256 = 10) (by omega), ck_t (by omega), ck_t (by omega), ck_t (by omega), ck_t (by omega)]
      by_cases r : B p = 32
      · rw [if_neg (c := B p % 256 ≠ 32) (by omega), if_pos (isW_t.mpr (Or.inr r)), ck_t (by omega), ck_t (by omega)]
        exact ⟨h', y1, y2, Z⟩
      · rw [if_pos (c := B p % 256 ≠ 32) (by omega), if_neg (fun z => by have := isW_t.mp z; omega)]
        exact ⟨h, rfl, t, fz_refl _ _ _⟩
theorem Mo_tk_7 {s : Int} (s0 : 0 ≤ s) (s1 : s < n) (l : isL B s = true) : ∀ (f : Nat) (k : Int) (h : am_H), MTk h B n k → k + f = n → s ≤ k → fe_ (isL B) f k = we_ B n s → rd_ h 94 10 = s → ∃ h', Mo_token_7 h 94 = some (h', 0) ∧ MTk h' B n (we_ B n s) ∧ rd_ h' 94 10 = s ∧ MRk (wd_k B n s) (wd_v B n s) (rd_ h' 94 8) (rd_ h' 94 9) ∧ fzK h h' := by
  intro f
  have wv := we_v s1 l
  have fin : ∀ (h : am_H), MTk h B n (we_ B n s) → rd_ h 94 10 = s → ∃ h', (ck_ (0 ≤ (94 : Int)) (ck_ (0 ≤ (94 : Int)) (ck_ (0 ≤ (94 : Int)) (bd_ (Mo_wordAt h 94 (rd_ h 94 10) (rd_ h 94 7)) fun h3 v4 => ck_ (0 ≤ (94 : Int)) (ck_ (0 ≤ (94 : Int)) (if (rd_ (wr_ h3 94 9 v4) 94 9) < 0 then ck_ (0 ≤ (94 : Int)) (ck_ (0 ≤ (94 : Int)) (if (w32 ((rd_ (wr_ h3 94 9 v4) 94 7) - (rd_ (wr_ h3 94 9 v4) 94 10))) ≤ 6 then ck_ (0 ≤ (94 : Int)) (ck_ (0 ≤ (94 : Int)) (if (rd_ (wr_ (wr_ h3 94 9 v4) 94 8 2) 94 8) ≠ 2 then some (wr_ (wr_ h3 94 9 v4) 94 8 2, 0) else ck_ (0 ≤ (94 : Int)) (ck_ (0 ≤ (94 : Int)) (ck_ (0 ≤ (94 : Int)) (bd_ (Mo_packed (wr_ (wr_ h3 94 9 v4) 94 8 2) 94 (rd_ (wr_ (wr_ h3 94 9 v4) 94 8 2) 94 10) (rd_ (wr_ (wr_ h3 94 9 v4) 94 8 2) 94 7)) fun h5 v6 => ck_ (0 ≤ (94 : Int)) (some (wr_ h5 94 9 v6, 0))))))) else ck_ (0 ≤ (94 : Int)) (ck_ (0 ≤ (94 : Int)) (if (rd_ (wr_ (wr_ h3 94 9 v4) 94 8 6) 94 8) ≠ 2 then some (wr_ (wr_ h3 94 9 v4) 94 8 6, 0) else ck_ (0 ≤ (94 : Int)) (ck_ (0 ≤ (94 : Int)) (ck_ (0 ≤ (94 : Int)) (bd_ (Mo_packed (wr_ (wr_ h3 94 9 v4) 94 8 6) 94 (rd_ (wr_ (wr_ h3 94 9 v4) 94 8 6) 94 10) (rd_ (wr_ (wr_ h3 94 9 v4) 94 8 6) 94 7)) fun h7 v8 => ck_ (0 ≤ (94 : Int)) (some (wr_ h7 94 9 v8, 0))))))))) else ck_ (0 ≤ (94 : Int)) (ck_ (0 ≤ (94 : Int)) (if (rd_ (wr_ (wr_ h3 94 9 v4) 94 8 1) 94 8) ≠ 2 then some (wr_ (wr_ h3 94 9 v4) 94 8 1, 0) else ck_ (0 ≤ (94 : Int)) (ck_ (0 ≤ (94 : Int)) (ck_ (0 ≤ (94 : Int)) (bd_ (Mo_packed (wr_ (wr_ h3 94 9 v4) 94 8 1) 94 (rd_ (wr_ (wr_ h3 94 9 v4) 94 8 1) 94 10) (rd_ (wr_ (wr_ h3 94 9 v4) 94 8 1) 94 7)) fun h9 v10 => ck_ (0 ≤ (94 : Int)) (some (wr_ h9 94 9 v10, 0)))))))))))) : am_O) = some (h', 0) ∧ MTk h' B n (we_ B n s) ∧ rd_ h' 94 10 = s ∧ MRk (wd_k B n s) (wd_v B n s) (rd_ h' 94 8) (rd_ h' 94 9) ∧ fzK h h' := by
    intro h t e10
    obtain ⟨a, b, c, d, e⟩ := id t
    have t1 : ∀ v, MTk (wr_ h 94 9 v) B n (we_ B n s) := fun v => MT_w t (by omega)
    have t2 : ∀ v w, MTk (wr_ (wr_ h 94 9 v) 94 8 w) B n (we_ B n s) := fun v w => MT_w (t1 v) (by omega)
    have g10 : ∀ v, rd_ (wr_ h 94 9 v) 94 10 = s := fun v => by rw [rd_wk (by omega)]; exact e10
    have g10' : ∀ v w, rd_ (wr_ (wr_ h 94 9 v) 94 8 w) 94 10 = s := fun v w => by rw [rd_wk (by omega)]; exact g10 v
    have g7 : ∀ v, rd_ (wr_ h 94 9 v) 94 7 = we_ B n s := fun v => (t1 v).2.2.1.2
    have g7' : ∀ v w, rd_ (wr_ (wr_ h 94 9 v) 94 8 w) 94 7 = we_ B n s := fun v w => (t2 v w).2.2.1.2
    have g9 : ∀ v w, rd_ (wr_ (wr_ h 94 9 v) 94 8 w) 94 9 = v := fun v w => by rw [rd_wk (by omega), rd_ws]
    have fx := fx_v (P := lA) (c := wd_v B n s) 20 0
    have eI : fx_ (fun i => lang_.getD i.toNat 0) (wd_v B n s) 20 0 = fx_ lA (wd_v B n s) 20 0 := rfl
    have wb := (wd_d (B := B) (n := n) (s := s) (by omega)).1
    have Z : ∀ v w, fzK h (wr_ (wr_ h 94 9 v) 94 8 w) := fun v w => fz_tr (fz_wf ⟨by omega, by omega⟩) (fz_wf ⟨by omega, by omega⟩)
    rw [ck_t (by omega), ck_t (by omega), ck_t (by omega), e10, c.2, Mo_wordAt_s t s0 s1 l, bd_v]
    simp only [rd_ws, g10, g10', g7, g7']
    rw [ck_t (by omega), ck_t (by omega), w32_i (x := we_ B n s - s) (by omega) (by omega)]
    unfold mwd_ wd_k
    rw [eI]
    by_cases q6 : we_ B n s - s ≤ 6
    · rw [if_pos (c := we_ B n s - s ≤ 6) q6]
      by_cases ix : 0 ≤ fx_ lA (wd_v B n s) 20 0
      · have hc : 0 ≤ ciw_ (fx_ lA (wd_v B n s) 20 0) := by unfold ciw_; split <;> (try split) <;> omega
        have ib : fx_ lA (wd_v B n s) 20 0 < 20 := by
          rcases fx with ⟨x, _⟩ | ⟨x, y, _⟩ <;> omega
        rw [if_pos (c := we_ B n s - s ≤ 6 ∧ 0 ≤ fx_ lA (wd_v B n s) 20 0) ⟨q6, ix⟩, if_pos (c := 0 ≤ fx_ lA (wd_v B n s) 20 0) ix, if_neg (c := ciw_ (fx_ lA (wd_v B n s) 20 0) < 0) (by omega), ck_t (by omega), ck_t (by omega), if_pos (c := (1 : Int) ≠ 2) (by omega)]
        refine ⟨_, rfl, t2 _ _, g10' _ _, ?_, Z _ _⟩
        rw [rd_ws, g9]
        try rw [if_pos (c := we_ B n s - s ≤ 6) q6]
        exact Or.inr (Or.inr (Or.inr (Or.inr (Or.inl ⟨by omega, by omega, rfl, by rw [show 10 + fx_ lA (wd_v B n s) 20 0 - 10 = fx_ lA (wd_v B n s) 20 0 by omega]⟩))))
      · rw [if_neg (c := we_ B n s - s ≤ 6 ∧ 0 ≤ fx_ lA (wd_v B n s) 20 0) (fun z => ix z.2), if_neg ix, if_pos (by omega), ck_t (by omega), ck_t (by omega), if_pos q6, ck_t (by omega), ck_t (by omega), if_neg (by omega), ck_t (by omega), ck_t (by omega), ck_t (by omega), Mo_packed_s (t2 _ _) s0 s1 l, bd_v, ck_t (by omega)]
        refine ⟨_, rfl, MT_w (t2 _ _) (by omega), by rw [rd_wk (by omega)]; exact g10' _ _, ?_, fz_tr (Z _ _) (fz_wf ⟨by omega, by omega⟩)⟩
        rw [rd_wk (by omega), rd_ws, rd_ws]
        try rw [if_pos (c := we_ B n s - s ≤ 6) q6]
        exact Or.inr (Or.inr (Or.inr (Or.inl ⟨rfl, rfl, rfl, wb.1, wb.2⟩)))
    · rw [if_neg (c := we_ B n s - s ≤ 6) q6, if_neg (c := we_ B n s - s ≤ 6 ∧ 0 ≤ fx_ lA (wd_v B n s) 20 0) (fun z => q6 z.1), if_pos (by omega), ck_t (by omega), ck_t (by omega), if_neg q6, ck_t (by omega), ck_t (by omega), if_pos (by omega)]
      refine ⟨_, rfl, t2 _ _, g10' _ _, ?_, Z _ _⟩
      rw [rd_ws]
      exact Or.inr (Or.inl ⟨rfl, Or.inl rfl⟩)
  induction f with
  | zero =>
    intro k h t hk sk ee e10
    have ek : k = we_ B n s := ee
    have kn : k = n := by omega
    rw [← ek] at fin
    have ff := fin h t e10
    rw [← ek]
    have c := t.2.2.1
    rw [Mo_token_7_e, ck_t (by omega), ck_t (by omega), c.2, Mo_isSmall_s t (by omega) (by omega), bd_v, if_neg (c := k < n) (by omega), if_pos rfl, ← c.2]
    rw [← c.2] at ff
    rw [c.2] at ff ⊢
    exact ff
  | succ f ih =>
    intro k h t hk sk ee e10
    obtain ⟨a, b, c, d, e⟩ := id t
    rw [fe_s1] at ee
    cases q : isL B k with
    | true =>
      rw [q, if_pos rfl] at ee
      obtain ⟨h', y1, y2, y3, y4, y5⟩ := ih (k + 1) (wr_ h 94 7 (k + 1)) (MT_n t (by omega) (by omega)) (by omega) (by omega) ee (by rw [rd_wk (by omega)]; exact e10)
      refine ⟨h', ?_, y2, y3, y4, fz_tr (fz_wf ⟨by omega, by omega⟩) y5⟩
      rw [Mo_token_7_e, ck_t (by omega), ck_t (by omega), c.2, Mo_isSmall_s t (by omega) (by omega), bd_v, if_pos (c := k < n) (by omega), q, bz_t, if_neg (by omega), ck_t (by omega), ck_t (by omega), c.2, w32_i (x := k + 1) (by omega) (by omega), y1]
    | false =>
      rw [q, if_neg (c := false = true) (by simp)] at ee
      have t' : MTk h B n (we_ B n s) := by rw [← ee]; exact t
      have ff := fin h t' e10
      rw [Mo_token_7_e, ck_t (by omega), ck_t (by omega), c.2, Mo_isSmall_s t (by omega) (by omega), bd_v, if_pos (c := k < n) (by omega), q, bz_f, if_pos rfl]
      exact ff
end
