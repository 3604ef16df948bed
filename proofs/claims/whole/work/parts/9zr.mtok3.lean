/-! a token in the reference: numbers, signs, all -/
def RN (X v : Int) : Prop := (X = v ∧ 0 ≤ v ∧ v ≤ 999999) ∨ (99999 < X ∧ X ≤ 999999 ∧ 99999 < v ∧ v ≤ 1000000)
section
variable {B : Int → Int} {n : Int}
theorem Mo_tk_18 : ∀ (f : Nat) (k v X : Int) (h : am_H), MTk h B n k → k + f = n → rd_ h 94 9 = X → RN X v → ∃ h', Mo_token_18 h 94 = some (h', 0) ∧ MTk h' B n (fe_ (isD B) f k) ∧ RN (rd_ h' 94 9) (nuv_ B f k v) ∧ rd_ h' 94 8 = rd_ h 94 8 ∧ rd_ h' 94 10 = rd_ h 94 10 ∧ fzK h h' := by
  intro f
  induction f with
  | zero =>
    intro k v X h t hk e9 rn
    have c := t.2.2.1
    have d := t.2.2.2.1
    refine ⟨h, ?_, t, by rw [e9]; exact rn, rfl, rfl, fz_refl _ _ _⟩
    rw [Mo_token_18_e, ck_t (by omega), ck_t (by omega), c.2, Mo_isDigit_s t (by omega) (by omega), bd_v, if_neg (c := k < n) (by omega), if_pos rfl]
  | succ f ih =>
    intro k v X h t hk e9 rn
    obtain ⟨a, b, c, d, e⟩ := id t
    have ek := e k (by omega) (by omega)
    have ew : nuv_ B (f + 1) k v = if isD B k then nuv_ B f (k + 1) (if (1000000 : Int) < w32 (w32 (w32 (v * 10) + B k) - 48) then 1000000 else w32 (w32 (w32 (v * 10) + B k) - 48)) else v := rfl
    rw [ew, fe_s1, Mo_token_18_e, ck_t (by omega), ck_t (by omega), c.2, Mo_isDigit_s t (by omega) (by omega), bd_v, if_pos (c := k < n) (by omega)]
    cases q : isD B k with
    | false =>
      rw [bz_f, if_pos rfl, if_neg (c := false = true) (by simp), if_neg (c := false = true) (by simp)]
      exact ⟨h, rfl, t, by rw [e9]; exact rn, rfl, rfl, fz_refl _ _ _⟩
    | true =>
      have dq := isD_t.mp q
      rw [bz_t, if_neg (by omega), if_pos (c := true = true) rfl, if_pos (c := true = true) rfl, ck_t (by omega), e9]
      have vb : 0 ≤ v ∧ v ≤ 1000000 ∧ 0 ≤ X ∧ X ≤ 999999 := by rcases rn with z | z <;> omega
      have ev : w32 (w32 (w32 (v * 10) + B k) - 48) = v * 10 + B k - 48 := by rw [w32_i (x := v * 10) (by omega) (by omega), w32_i (x := v * 10 + B k) (by omega) (by omega), w32_i (by omega) (by omega)]
      rw [ev]
      have c7 : ∀ y, rd_ (wr_ h 94 9 y) 94 7 = k := fun y => by rw [rd_wk (by omega)]; exact c.2
      have go : ∀ y, RN y (if (1000000 : Int) < v * 10 + B k - 48 then 1000000 else v * 10 + B k - 48) → ∃ h', Mo_token_18 (wr_ (wr_ h 94 9 y) 94 7 (k + 1)) 94 = some (h', 0) ∧ MTk h' B n (fe_ (isD B) f (k + 1)) ∧ RN (rd_ h' 94 9) (nuv_ B f (k + 1) (if (1000000 : Int) < v * 10 + B k - 48 then 1000000 else v * 10 + B k - 48)) ∧ rd_ h' 94 8 = rd_ h 94 8 ∧ rd_ h' 94 10 = rd_ h 94 10 ∧ fzK h h' := by
        intro y ry
        obtain ⟨h', z1, z2, z3, z4, z5, z6⟩ := ih (k + 1) _ y (wr_ (wr_ h 94 9 y) 94 7 (k + 1)) (MT_n (MT_w t (by omega)) (by omega) (by omega)) (by omega) (by rw [rd_wk (by omega), rd_ws]) ry
        exact ⟨h', z1, z2, z3, by rw [z4, rd_wk (by omega), rd_wk (by omega)], by rw [z5, rd_wk (by omega), rd_wk (by omega)], fz_tr (fz_tr (fz_wf ⟨by omega, by omega⟩) (fz_wf ⟨by omega, by omega⟩)) z6⟩
      by_cases r : X ≤ 99999
      · rw [if_pos r]
        simp only [c.2, mr0 a, ml95 a, ek.1, e9, c7]
        repeat rw [ck_t (by omega)]
        rw [w32_i (x := 10 * X) (by omega) (by omega), w32_i (x := 10 * X + B k % 256) (by omega) (by omega), w32_i (x := 10 * X + B k % 256 - 48) (by omega) (by omega), w32_i (x := k + 1) (by omega) (by omega)]
        refine go _ (Or.inl ?_)
        rcases rn with z | z
        · rw [if_neg (by omega)]; omega
        · omega
      · rw [if_neg r]
        simp only [e9, c7]
        repeat rw [ck_t (by omega)]
        rw [w32_i (x := k + 1) (by omega) (by omega)]
        refine go _ (Or.inr ?_)
        by_cases y : (1000000 : Int) < v * 10 + B k - 48
        · rw [if_pos y]; omega
        · rw [if_neg y]
          rcases rn with z | z <;> omega
theorem Mo_sg_17 {h : am_H} {q x2 x3 c : Int} (t : MTk h B n q) (e9 : rd_ h 94 9 = c) : Mo_signToken_17 h 94 x2 x3 = some (wr_ (wr_ h 94 8 5) 94 9 (if c ≠ 61 then (if c ≠ 60 then (if x2 = 0 then 5 else 4) else if x2 = 0 then (if x3 = 0 then 0 else 3) else 1) else 2), 0) := by
  have f9 : rd_ (wr_ h 94 8 5) 94 9 = c := by rw [rd_wk (by omega)]; exact e9
  rw [Mo_signToken_17_e, ck_t (by omega), ck_t (by omega), f9]
  by_cases q1 : c = 61
  · rw [if_neg (c := c ≠ 61) (fun z => z q1), if_neg (c := c ≠ 61) (fun z => z q1), ck_t (by omega)]
  · rw [if_pos (c := c ≠ 61) q1, if_pos (c := c ≠ 61) q1, ck_t (by omega)]
    by_cases q2 : c = 60
    · rw [if_neg (c := c ≠ 60) (fun z => z q2), if_neg (c := c ≠ 60) (fun z => z q2)]
      by_cases q3 : x2 = 0
      · rw [if_pos (c := x2 = 0) q3, if_pos (c := x2 = 0) q3]
        by_cases q4 : x3 = 0
        · rw [if_pos (c := x3 = 0) q4, if_pos (c := x3 = 0) q4, ck_t (by omega)]
        · rw [if_neg (c := x3 = 0) q4, if_neg (c := x3 = 0) q4, ck_t (by omega)]
      · rw [if_neg (c := x2 = 0) q3, if_neg (c := x2 = 0) q3, ck_t (by omega)]
    · rw [if_pos (c := c ≠ 60) q2, if_pos (c := c ≠ 60) q2]
      by_cases q3 : x2 = 0
      · rw [if_pos (c := x2 = 0) q3, if_pos (c := x2 = 0) q3, ck_t (by omega)]
      · rw [if_neg (c := x2 = 0) q3, if_neg (c := x2 = 0) q3, ck_t (by omega)]
theorem Mo_sg_14 {h : am_H} {s x2 x3 c : Int} (t : MTk h B n (s + 1)) (e9 : rd_ h 94 9 = c) (s0 : 0 ≤ s) (two : (x2 ≠ 0 ∨ x3 ≠ 0) → s + 1 < n) : ∃ h', Mo_signToken_14 h 94 x2 x3 = some (h', 0) ∧ MTk h' B n (if x2 ≠ 0 ∨ x3 ≠ 0 then s + 2 else s + 1) ∧ rd_ h' 94 8 = 5 ∧ rd_ h' 94 9 = (if c ≠ 61 then (if c ≠ 60 then (if x2 = 0 then 5 else 4) else if x2 = 0 then (if x3 = 0 then 0 else 3) else 1) else 2) ∧ rd_ h' 94 10 = rd_ h 94 10 ∧ fzK h h' := by
  have c7 := t.2.2.1.2
  have d := t.2.2.2.1
  have up : (x2 ≠ 0 ∨ x3 ≠ 0) → ∃ h', ck_ (0 ≤ (94 : Int)) (ck_ (0 ≤ (94 : Int)) (Mo_signToken_17 (wr_ h 94 7 (w32 ((rd_ h 94 7) + 1))) 94 x2 x3)) = some (h', 0) ∧ MTk h' B n (if x2 ≠ 0 ∨ x3 ≠ 0 then s + 2 else s + 1) ∧ rd_ h' 94 8 = 5 ∧ rd_ h' 94 9 = (if c ≠ 61 then (if c ≠ 60 then (if x2 = 0 then 5 else 4) else if x2 = 0 then (if x3 = 0 then 0 else 3) else 1) else 2) ∧ rd_ h' 94 10 = rd_ h 94 10 ∧ fzK h h' := by
    intro q
    have lt := two q
    rw [c7, w32_i (x := s + 1 + 1) (by omega) (by omega), show s + 1 + 1 = s + 2 by omega, ck_t (by omega), ck_t (by omega)]
    have t1 : MTk (wr_ h 94 7 (s + 2)) B n (s + 2) := MT_n t (by omega) (by omega)
    rw [Mo_sg_17 (c := c) t1 (by rw [rd_wk (by omega)]; exact e9), if_pos q]
    exact ⟨_, rfl, MT_w (MT_w t1 (by omega)) (by omega), by rw [rd_wk (by omega), rd_ws], rd_ws _ _ _ _, by rw [rd_wk (by omega), rd_wk (by omega), rd_wk (by omega)], fz_tr (fz_wf ⟨by omega, by omega⟩) (fz_tr (fz_wf ⟨by omega, by omega⟩) (fz_wf ⟨by omega, by omega⟩))⟩
  rw [Mo_signToken_14_e]
  by_cases q : x2 ≠ 0
  · rw [if_pos q]
    exact up (Or.inl q)
  · rw [if_neg q]
    by_cases r : x3 = 0
    · rw [if_pos r, Mo_sg_17 t e9]
      have nq : ¬ (x2 ≠ 0 ∨ x3 ≠ 0) := fun z => z.elim q (fun y => y r)
      rw [if_neg nq]
      exact ⟨_, rfl, MT_w (MT_w t (by omega)) (by omega), by rw [rd_wk (by omega), rd_ws], rd_ws _ _ _ _, by rw [rd_wk (by omega), rd_wk (by omega)], fz_tr (fz_wf ⟨by omega, by omega⟩) (fz_wf ⟨by omega, by omega⟩)⟩
    · rw [if_neg r]
      exact up (Or.inr r)
theorem Mo_sg_6 {h : am_H} {s c y : Int} (t : MTk h B n (s + 1)) (e9 : rd_ h 94 9 = c) (s0 : 0 ≤ s) (cc : c = 60 ∨ c = 61 ∨ c = 62) (yy : y = if s + 1 < n then B (s + 1) % 256 else 0) (bs : B s = c) : ∃ h', Mo_signToken_6 h 94 y = some (h', 0) ∧ MTk h' B n (sn_k B n s).2 ∧ rd_ h' 94 8 = 5 ∧ rd_ h' 94 9 = (sn_k B n s).1 - 30 ∧ (30 ≤ (sn_k B n s).1 ∧ (sn_k B n s).1 ≤ 35) ∧ rd_ h' 94 10 = rd_ h 94 10 ∧ fzK h h' := by
  have bb := t.2.2.2.2
  have y61 : y = 61 ↔ (s + 1 < n ∧ B (s + 1) = 61) := by
    rw [yy]
    by_cases q : s + 1 < n
    · have := (bb (s + 1) (by omega) q).2
      rw [if_pos q]; omega
    · rw [if_neg q]; omega
  have y62 : y = 62 ↔ (s + 1 < n ∧ B (s + 1) = 62) := by
    rw [yy]
    by_cases q : s + 1 < n
    · have := (bb (s + 1) (by omega) q).2
      rw [if_pos q]; omega
    · rw [if_neg q]; omega
  have go : ∀ x2 x3 k m, ((x2 ≠ 0 ∨ x3 ≠ 0) → s + 1 < n) → (sn_k B n s) = (k, m) → 30 ≤ k → k ≤ 35 → m = (if x2 ≠ 0 ∨ x3 ≠ 0 then s + 2 else s + 1) → k - 30 = (if c ≠ 61 then (if c ≠ 60 then (if x2 = 0 then 5 else 4) else if x2 = 0 then (if x3 = 0 then 0 else 3) else 1) else 2) → ∃ h', Mo_signToken_14 h 94 x2 x3 = some (h', 0) ∧ MTk h' B n (sn_k B n s).2 ∧ rd_ h' 94 8 = 5 ∧ rd_ h' 94 9 = (sn_k B n s).1 - 30 ∧ (30 ≤ (sn_k B n s).1 ∧ (sn_k B n s).1 ≤ 35) ∧ rd_ h' 94 10 = rd_ h 94 10 ∧ fzK h h' := by
    intro x2 x3 k m two e k0 k1 em ek
    obtain ⟨h', z1, z2, z3, z4, z5, z6⟩ := Mo_sg_14 t e9 s0 two
    rw [e]
    exact ⟨h', z1, by rw [em]; exact z2, z3, by rw [z4]; exact ek.symm, ⟨k0, k1⟩, z5, z6⟩
  rw [Mo_signToken_6_e, ck_t (by omega), e9]
  rcases cc with q | q | q
  · have sk : sg_k (B s) = 30 := by rw [bs, q]; rfl
    rw [if_neg (c := c = 61) (by omega)]
    by_cases r : y = 61
    · have rr := y61.mp r
      have en : sn_k B n s = (31, s + 2) := by unfold sn_k; rw [sk, if_pos (Or.inl rfl), if_pos rr.1, if_pos rr.2, if_pos rfl]
      rw [if_neg (fun z => z r), ck_t (by omega), if_neg (c := c ≠ 60) (by omega), if_pos (c := y ≠ 62) (by omega)]
      exact go 1 0 31 (s + 2) (fun _ => rr.1) en (by omega) (by omega) (by rw [if_pos (Or.inl (by omega))]) (by rw [if_pos (by omega), if_neg (by omega), if_neg (by omega)]; rfl)
    · rw [if_pos r, ck_t (by omega), if_neg (c := c ≠ 60) (by omega)]
      have r' : ¬ (s + 1 < n ∧ B (s + 1) = 61) := fun z => r (y61.mpr z)
      by_cases w : y = 62
      · have ww := y62.mp w
        have en : sn_k B n s = (33, s + 2) := by unfold sn_k; rw [sk, if_pos (Or.inl rfl), if_pos ww.1, if_neg (fun z => r' ⟨ww.1, z⟩), if_pos ⟨ww.2, rfl⟩]
        rw [if_neg (fun z => z w)]
        exact go 0 1 33 (s + 2) (fun _ => ww.1) en (by omega) (by omega) (by rw [if_pos (Or.inr (by omega))]) (by rw [if_pos (by omega), if_neg (by omega), if_pos rfl, if_neg (by omega)]; rfl)
      · have w' : ¬ (s + 1 < n ∧ B (s + 1) = 62) := fun z => w (y62.mpr z)
        have en : sn_k B n s = (30, s + 1) := by
          unfold sn_k
          rw [sk, if_pos (Or.inl rfl)]
          by_cases z : s + 1 < n
          · rw [if_pos z, if_neg (fun x => r' ⟨z, x⟩), if_neg (fun x => w' ⟨z, x.1⟩)]
          · rw [if_neg z]
        rw [if_pos w]
        exact go 0 0 30 (s + 1) (fun z => by omega) en (by omega) (by omega) (by rw [if_neg (by omega)]) (by rw [if_pos (by omega), if_neg (by omega), if_pos rfl, if_pos rfl]; rfl)
  · have sk : sg_k (B s) = 32 := by rw [bs, q]; rfl
    have en : sn_k B n s = (32, s + 1) := by unfold sn_k; rw [sk, if_neg (by omega)]
    rw [if_pos q, ck_t (by omega), if_pos (c := c ≠ 60) (by omega)]
    exact go 0 0 32 (s + 1) (fun z => by omega) en (by omega) (by omega) (by rw [if_neg (by omega)]) (by rw [if_neg (by omega)]; rfl)
  · have sk : sg_k (B s) = 35 := by rw [bs, q]; rfl
    rw [if_neg (c := c = 61) (by omega)]
    by_cases r : y = 61
    · have rr := y61.mp r
      have en : sn_k B n s = (34, s + 2) := by unfold sn_k; rw [sk, if_pos (Or.inr rfl), if_pos rr.1, if_pos rr.2, if_neg (by omega)]
      rw [if_neg (fun z => z r), ck_t (by omega), if_pos (c := c ≠ 60) (by omega)]
      exact go 1 0 34 (s + 2) (fun _ => rr.1) en (by omega) (by omega) (by rw [if_pos (Or.inl (by omega))]) (by rw [if_pos (by omega), if_pos (by omega), if_neg (by omega)]; rfl)
    · rw [if_pos r, ck_t (by omega), if_pos (c := c ≠ 60) (by omega)]
      have r' : ¬ (s + 1 < n ∧ B (s + 1) = 61) := fun z => r (y61.mpr z)
      have en : sn_k B n s = (35, s + 1) := by
        unfold sn_k
        rw [sk, if_pos (Or.inr rfl)]
        by_cases z : s + 1 < n
        · rw [if_pos z, if_neg (fun x => r' ⟨z, x⟩), if_neg (fun x => by have := x.2; omega)]
        · rw [if_neg z]
      exact go 0 0 35 (s + 1) (fun z => by omega) en (by omega) (by omega) (by rw [if_neg (by omega)]) (by rw [if_pos (by omega), if_pos (by omega), if_pos rfl]; rfl)
end
