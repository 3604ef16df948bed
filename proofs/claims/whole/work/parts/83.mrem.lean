/-! remembering and undoing, in the reference -/
def B1 (h : am_H) (a n : Int) : Prop := ∀ x, 0 ≤ x → x < n → rd_ h a x = 0 ∨ rd_ h a x = 1
def MU (h : am_H) (T : Tx) (U : Int → Tx) (n : Int) : Prop := rd_ h 94 85 = n ∧ 0 ≤ n ∧ n ≤ 20 ∧ (∀ i, 0 ≤ i → i < n → WV T (U i) ∧ SN h 138 (48 * i) T (U i) ∧ ∀ j, 0 ≤ j → j < T 0 2 → rd_ h 139 (20 * i + j) = U i 5 j) ∧ B1 h 139 400
theorem MU_fz {h h' : am_H} {T : Tx} {U : Int → Tx} {n : Int} {A F : Int → Prop} (m : MU h T U n) (x : fz_ h h' A F) (n8 : ¬ A 138) (n9 : ¬ A 139) (nf : ¬ F 85) : MU h' T U n := by
  obtain ⟨a, b, c, d, e⟩ := m
  refine ⟨by rw [x.2.2 85 nf]; exact a, b, c, ?_, ?_⟩
  · intro i p q
    obtain ⟨d1, d2, d3⟩ := d i p q
    exact ⟨d1, SN_R d2 d1 (fun y _ _ => x.2.1 138 n8 (by omega) y), fun j r s => by rw [x.2.1 139 n9 (by omega)]; exact d3 j r s⟩
  · intro y p q
    rw [x.2.1 139 n9 (by omega)]; exact e y p q
theorem Mo_rem2 : ∀ (m : Nat) (k : Int) (h : am_H), ShM h → 0 ≤ k → k + m = 912 → ∃ h', Mo_remember_2 h 94 k = Mo_remember_5 h' 94 0 ∧ fr_ h h' (fun x => x = 138) ∧ ∀ x, rd_ h' 138 x = if k ≤ x ∧ x < 912 then rd_ h 138 (x + 48) else rd_ h 138 x := by
  intro m
  induction m with
  | zero =>
    intro k h s hk hm
    refine ⟨h, ?_, fr_refl _ _, fun x => by rw [if_neg (by omega)]⟩
    rw [Mo_remember_2_e, if_pos (by omega)]
  | succ m ih =>
    intro k h s hk hm
    rw [Mo_remember_2_e, if_neg (by omega)]
    simp only [mr86 s, ml138 s]
    simp (disch := omega) only [w32_i]
    repeat rw [ck_t (by omega)]
    obtain ⟨h', i1, i2, i3⟩ := ih (k + 1) (wr_ h 138 k (rd_ h 138 (k + 48))) (ShM_of rfl s) (by omega) (by omega)
    refine ⟨h', i1, fr_tr (fr_wr rfl) i2, ?_⟩
    intro x
    rw [i3, rd_wa, rd_wa]
    repeat' split
    all_goals first | omega | rfl | (congr 1; omega)
theorem Mo_rem5 : ∀ (m : Nat) (k : Int) (h : am_H), ShM h → B1 h 139 400 → 0 ≤ k → k + m = 380 → ∃ h', Mo_remember_5 h 94 k = Mo_remember_5 h' 94 380 ∧ fr_ h h' (fun x => x = 139) ∧ B1 h' 139 400 ∧ ∀ x, rd_ h' 139 x = if k ≤ x ∧ x < 380 then rd_ h 139 (x + 20) else rd_ h 139 x := by
  intro m
  induction m with
  | zero =>
    intro k h s b hk hm
    have e : k = 380 := by omega
    subst e
    exact ⟨h, rfl, fr_refl _ _, b, fun x => by rw [if_neg (by omega)]⟩
  | succ m ih =>
    intro k h s b hk hm
    have bk := b (k + 20) (by omega) (by omega)
    rw [Mo_remember_5_e, if_neg (by omega)]
    simp only [mr87 s, ml139 s]
    simp (disch := omega) only [w32_i]
    repeat rw [ck_t (by omega)]
    obtain ⟨h', i1, i2, i3, i4⟩ := ih (k + 1) (wr_ h 139 k (rd_ h 139 (k + 20))) (ShM_of rfl s) (by
      intro x p q
      rw [rd_wa]
      split
      · exact bk
      · exact b x p q) (by omega) (by omega)
    refine ⟨h', i1, fr_tr (fr_wr rfl) i2, i3, ?_⟩
    intro x
    rw [i4, rd_wa, rd_wa]
    repeat' split
    all_goals first | omega | rfl | (congr 1; omega)
theorem Mo_rem9 {n : Int} (n0 : 0 ≤ n) (n1 : n < 20) : ∀ (m : Nat) (k : Int) (h : am_H), ShM h → B1 h 139 400 → BB h → rd_ h 94 85 = n → 0 ≤ k → k + m = 20 → ∃ h', Mo_remember_9 h 94 k = some (wr_ h' 94 85 (n + 1), 0) ∧ fr_ h h' (fun x => x = 139) ∧ B1 h' 139 400 ∧ ∀ x, rd_ h' 139 x = if 20 * n + k ≤ x ∧ x < 20 * n + 20 then rd_ h 124 (x - 20 * n) else rd_ h 139 x := by
  intro m
  induction m with
  | zero =>
    intro k h s b bb e hk hm
    refine ⟨h, ?_, fr_refl _ _, b, fun x => by rw [if_neg (by omega)]⟩
    rw [Mo_remember_9_e, if_pos (by omega), e, w32_i (by omega) (by omega)]
    repeat rw [ck_t (by omega)]
  | succ m ih =>
    intro k h s b bb e hk hm
    have bk := bb k hk (by omega)
    rw [Mo_remember_9_e, if_neg (by omega)]
    simp only [mr56 s, ml124 s, mr87 s, ml139 s, e]
    simp (disch := omega) only [w32_i]
    repeat rw [ck_t (by omega)]
    obtain ⟨h', i1, i2, i3, i4⟩ := ih (k + 1) (wr_ h 139 (20 * n + k) (rd_ h 124 k)) (ShM_of rfl s) (by
      intro x p q
      rw [rd_wa]
      split
      · exact bk
      · exact b x p q) (by
      intro x p q
      rw [rd_wo (by omega)]; exact bb x p q) (by rw [rd_wo (by omega)]; exact e) (by omega) (by omega)
    refine ⟨h', i1, fr_tr (fr_wr rfl) i2, i3, ?_⟩
    intro x
    rw [i4, rd_wa, rd_wo (show (124 : Int) ≠ 139 by omega)]
    repeat' split
    all_goals first | omega | rfl | (congr 1; omega)
section
variable {h : am_H} {T W : Tx} {U : Int → Tx} {n : Int}
/-- the second half of remembering -/
theorem Mo_rem_end (s : ShM h) (m : MW h 0 T W) (v : WV T W) (bb : BB h) (u : MU h T U n) (hn : n < 20) : ∃ h', (ck_ (0 ≤ (138 : Int)) (bd_ (Mo_put h 94 138 (48 * n)) fun h1 _ => Mo_remember_9 h1 94 0)) = some (h', 0) ∧ MU h' T (fun i => if i = n then W else U i) (n + 1) ∧ fz_ h h' (fun a => a = 138 ∨ a = 139) (fun k => k = 85) := by
  obtain ⟨u1, u2, u3, u4, u5⟩ := u
  have v0 := v.1
  obtain ⟨ha, a1, a2, a3, a4⟩ := Mo_put_s s m v (Or.inl rfl) (o := 48 * n) (by omega) (ml138 s) (by omega) (by omega)
  have sa := ShM_of a3.1 s
  obtain ⟨hb, b1, b2, b3, b4⟩ := Mo_rem9 (n := n) u2 hn 20 0 ha sa (fun x p q => by rw [a3.2 139 (by omega)]; exact u5 x p q) (fun x p q => by rw [a3.2 124 (by omega)]; exact bb x p q) (by rw [a3.2 94 (by omega)]; exact u1) (by omega) (by omega)
  refine ⟨wr_ hb 94 85 (n + 1), ?_, ⟨rd_ws _ _ _ _, by omega, by omega, ?_, ?_⟩, ?_⟩
  · rw [ck_t (by omega), a1, bd_v, b1]
  · intro i p q
    by_cases c : i = n
    · subst c
      dsimp only
      rw [if_pos rfl]
      refine ⟨v, SN_R a2 v (fun x _ _ => by rw [rd_wo (by omega), b2.2 138 (by omega)]), ?_⟩
      intro j r t
      rw [rd_wo (by omega), b4, if_pos (by omega), a3.2 124 (by omega), ← m.2.2.2.2.2.2.1 j r t]
      congr 1
      omega
    · obtain ⟨d1, d2, d3⟩ := u4 i p (by omega)
      dsimp only
      rw [if_neg c]
      refine ⟨d1, SN_R d2 d1 (fun x y z => by rw [rd_wo (by omega), b2.2 138 (by omega), a4 x (by omega)]), ?_⟩
      intro j r t
      rw [rd_wo (by omega), b4, if_neg (by omega), a3.2 139 (by omega)]
      exact d3 j r t
  · intro x p q
    rw [rd_wo (by omega)]; exact b3 x p q
  · exact fz_tr (fz_fr a3 (fun a q => Or.inl q) (by omega)) (fz_tr (fz_fr b2 (fun a q => Or.inr q) (by omega)) (fz_wf rfl))
theorem Mo_remember_s (s : ShM h) (m : MW h 0 T W) (v : WV T W) (bb : BB h) (u : MU h T U n) : ∃ h', Mo_remember h 94 = some (h', 0) ∧ MU h' T (rU U n W) (rN n) ∧ fz_ h h' (fun a => a = 138 ∨ a = 139) (fun k => k = 85) := by
  obtain ⟨u1, u2, u3, u4, u5⟩ := id u
  rw [Mo_remember_e, u1]
  unfold rU rN
  by_cases c : n = 20
  · obtain ⟨ha, a1, a2, a3⟩ := Mo_rem2 912 0 h s (by omega) (by omega)
    have sa := ShM_of a2.1 s
    obtain ⟨hb, b1, b2, b3, b4⟩ := Mo_rem5 380 0 ha sa (fun x p q => by rw [a2.2 139 (by omega)]; exact u5 x p q) (by omega) (by omega)
    have sb := ShM_of b2.1 sa
    have e85 : rd_ hb 94 85 = 20 := by rw [b2.2 94 (by omega), a2.2 94 (by omega), u1, c]
    have zc : fz_ h (wr_ hb 94 85 19) (fun a => a = 138 ∨ a = 139) (fun k => k = 85) := fz_tr (fz_fr a2 (fun a q => Or.inl q) (by omega)) (fz_tr (fz_fr b2 (fun a q => Or.inr q) (by omega)) (fz_wf rfl))
    have uc : MU (wr_ hb 94 85 19) T (fun i => U (i + 1)) 19 := by
      refine ⟨rd_ws _ _ _ _, by omega, by omega, ?_, ?_⟩
      · intro i p q
        obtain ⟨d1, d2, d3⟩ := u4 (i + 1) (by omega) (by omega)
        have v0 := d1.1
        show WV T (U (i + 1)) ∧ SN (wr_ hb 94 85 19) 138 (48 * i) T (U (i + 1)) ∧ ∀ j, 0 ≤ j → j < T 0 2 → rd_ (wr_ hb 94 85 19) 139 (20 * i + j) = U (i + 1) 5 j
        refine ⟨d1, ?_, ?_⟩
        · obtain ⟨x, y, z⟩ := d2
          have R : ∀ x, 48 * i ≤ x → x < 48 * i + 48 → rd_ (wr_ hb 94 85 19) 138 x = rd_ h 138 (x + 48) := fun x p' q' => by rw [rd_wo (by omega), b2.2 138 (by omega), a3, if_pos (by omega)]
          refine ⟨?_, ?_, ?_⟩
          · intro r p' q'
            rw [R _ (by omega) (by omega), R _ (by omega) (by omega), ← (x r p' q').1, ← (x r p' q').2]
            exact ⟨by congr 1; omega, by congr 1; omega⟩
          · intro r k p' q' r' s'
            have := d1.2.1 r p' q'
            rw [R _ (by omega) (by omega), ← y r k p' q' r' s']
            congr 1
            omega
          · intro j p' q'
            rw [R _ (by omega) (by omega), ← z j p' q']
            congr 1
            omega
        · intro j r t
          rw [rd_wo (by omega), b4, if_pos (by omega), a2.2 139 (by omega), ← d3 j r t]
          congr 1
          omega
      · intro x p q
        rw [rd_wo (by omega)]; exact b3 x p q
    obtain ⟨h', c1, c2, c3⟩ := Mo_rem_end (fz_ShM zc s) (MW_fz m zc (by intro a p q; omega)) v (fun x p q => by rw [zc.2.1 124 (by omega) (by omega)]; exact bb x p q) uc (by omega)
    refine ⟨h', ?_, ?_, fz_tr zc c3⟩
    · rw [ck_t (by omega), if_neg (by omega), a1, b1, Mo_remember_5_e, if_pos (by omega)]
      simp only [mr86 sb, e85]
      rw [w32_i (by omega) (by omega), rd_ws, w32_i (by omega) (by omega)]
      rw [show (20 : Int) - 1 = 19 from rfl]
      rw [← c1]
      repeat rw [ck_t (by omega)]
    · rw [if_pos c, if_pos c]
      exact c2
  · obtain ⟨h', c1, c2, c3⟩ := Mo_rem_end s m v bb u (by omega)
    refine ⟨h', ?_, ?_, c3⟩
    · rw [ck_t (by omega), if_pos c, w32_i (by omega) (by omega), ← c1]
      simp only [mr86 s]
      repeat rw [ck_t (by omega)]
    · rw [if_neg c, if_neg c]
      exact c2
theorem Mo_undo_lp {n : Int} (n0 : 0 ≤ n) (n1 : n < 20) : ∀ (m : Nat) (k : Int) (h : am_H), ShM h → B1 h 139 400 → BB h → rd_ h 94 85 = n → 0 ≤ k → k + m = 20 → ∃ h', Mo_undo_3 h 94 k = some (h', n) ∧ fr_ h h' (fun x => x = 124) ∧ BB h' ∧ ∀ x, rd_ h' 124 x = if k ≤ x ∧ x < 20 then rd_ h 139 (20 * n + x) else rd_ h 124 x := by
  intro m
  induction m with
  | zero =>
    intro k h s b bb e hk hm
    refine ⟨h, ?_, fr_refl _ _, bb, fun x => by rw [if_neg (by omega)]⟩
    rw [Mo_undo_3_e, if_pos (by omega), ck_t (by omega), e]
  | succ m ih =>
    intro k h s b bb e hk hm
    have bk := b (20 * n + k) (by omega) (by omega)
    rw [Mo_undo_3_e, if_neg (by omega)]
    simp only [mr56 s, ml124 s, mr87 s, ml139 s, e]
    simp (disch := omega) only [w32_i]
    repeat rw [ck_t (by omega)]
    obtain ⟨h', i1, i2, i3, i4⟩ := ih (k + 1) (wr_ h 124 k (rd_ h 139 (20 * n + k))) (ShM_of rfl s) (fun x p q => by rw [rd_wo (by omega)]; exact b x p q) (by
      intro x p q
      rw [rd_wa]
      split
      · exact bk
      · exact bb x p q) (by rw [rd_wo (by omega)]; exact e) (by omega) (by omega)
    refine ⟨h', i1, fr_tr (fr_wr rfl) i2, i3, ?_⟩
    intro x
    rw [i4, rd_wa, rd_wo (show (139 : Int) ≠ 124 by omega)]
    repeat' split
    all_goals first | omega | rfl | (congr 1; omega)
theorem Mo_undo_s (s : ShM h) (m : MW h 0 T W) (v : WV T W) (bb : BB h) (u : MU h T U n) : ∃ h', Mo_undo h 94 = some (h', if n = 0 then -1 else n - 1) ∧ (n = 0 → h' = wr_ h 94 2 0) ∧ (n ≠ 0 → MW h' 0 T (mw_ (U (n - 1)) W) ∧ MU h' T U (n - 1)) ∧ BB h' ∧ fz_ h h' (fun a => 120 ≤ a ∧ a ≤ 124) (fun k => k = 2 ∨ k = 85) ∧ hf_ h h' 0 := by
  obtain ⟨u1, u2, u3, u4, u5⟩ := id u
  rw [Mo_undo_e]
  simp only [rd_wk (show (85 : Int) ≠ 2 by omega)]
  rw [u1]
  by_cases c : n = 0
  · refine ⟨wr_ h 94 2 0, ?_, fun _ => rfl, fun q => absurd c q, fun x p q => by rw [rd_wo (by omega)]; exact bb x p q, fz_wf (Or.inl rfl), hf_fz (fz_wf (A := fun _ => False) (F := fun k => k = 2) rfl) (fun _ _ _ q => q) 0⟩
    repeat rw [ck_t (by omega)]
    rw [if_neg (by omega), if_pos c]
  · have z1 : fz_ h (wr_ (wr_ h 94 2 0) 94 85 (n - 1)) (fun a => 120 ≤ a ∧ a ≤ 124) (fun k => k = 2 ∨ k = 85) := fz_tr (fz_wf (Or.inl rfl)) (fz_wf (Or.inr rfl))
    have s1 := fz_ShM z1 s
    obtain ⟨d1, d2, d3⟩ := u4 (n - 1) (by omega) (by omega)
    have r1 : ∀ a, a ≠ 94 → ∀ k, rd_ (wr_ (wr_ h 94 2 0) 94 85 (n - 1)) a k = rd_ h a k := fun a q k => by rw [rd_wo q, rd_wo q]
    obtain ⟨ha, a1, a2, a3, a4, a5, a6⟩ := Mo_take_s s1 (SN_R d2 d1 (fun x _ _ => r1 138 (by omega) x)) d1 (Or.inl rfl) (by omega) (ml138 s1) (by omega) (by omega)
    have sa := ShM_of a2.1 s1
    obtain ⟨hb, b1, b2, b3, b4⟩ := Mo_undo_lp (n := n - 1) (by omega) (by omega) 20 0 ha sa (fun x p q => by rw [a2.2 139 (by omega), r1 139 (by omega)]; exact u5 x p q) (fun x p q => by rw [a2.2 124 (by omega), r1 124 (by omega)]; exact bb x p q) (by rw [a2.2 94 (by omega), rd_ws]) (by omega) (by omega)
    have F : fz_ h hb (fun a => 120 ≤ a ∧ a ≤ 124) (fun k => k = 2 ∨ k = 85) := fz_tr z1 (fz_tr (fz_fr a2 (fun a q => by omega) (by omega)) (fz_fr b2 (fun a q => by omega) (by omega)))
    have H0 : hf_ h (wr_ (wr_ h 94 2 0) 94 85 (n - 1)) 0 := ⟨fun a x p _ => r1 a (by omega) x, fun a x p _ => r1 a (by omega) x, fun a x p _ => r1 a (by omega) x⟩
    have H : hf_ h hb 0 := hf_tr H0 (hf_tr a3 ⟨fun a x p q => by
        rcases p with p | p | p <;> subst p
        · exact b2.2 121 (by omega) x
        · exact b2.2 123 (by omega) x
        · rw [b4, if_neg (by omega)], fun a x p q => b2.2 a (by omega) x, fun a x p q => b2.2 a (by omega) x⟩)
    obtain ⟨mb, g0, g1, g2, g3, g4, g5, g6, g7⟩ := id m
    have v0 := v.1
    refine ⟨hb, ?_, fun q => absurd q c, fun _ => ⟨⟨Or.inl rfl, ?_, ?_, ?_, ?_, ?_, ?_, ?_, ?_⟩, ?_⟩, b3, F, H⟩
    · repeat rw [ck_t (by omega)]
      rw [if_pos c, if_neg c]
      simp only [mr86 s]
      rw [w32_i (by omega) (by omega), rd_ws, w32_i (by omega) (by omega)]
      repeat rw [ck_t (by omega)]
      rw [a1, bd_v, b1]
    · intro p x y
      rw [b2.2 120 (by omega)]
      have := (a4 p x y).1
      rw [show 4 * (0 : Int) + p = p by omega, this]; rfl
    · intro p x y
      rw [b2.2 122 (by omega)]
      have := (a4 p x y).2
      rw [show 4 * (0 : Int) + p = p by omega, this]; rfl
    · intro p x y
      rw [F.2.1 125 (by omega) (by omega)]; exact g2 p x y
    · intro p k x y z t
      rw [b2.2 121 (by omega)]
      have := a5 p k x y z t
      rw [show 20 * (0 : Int) + (5 * p + k) = 5 * p + k by omega, this]; rfl
    · intro j x y
      rw [b2.2 123 (by omega)]
      have := a6 j x y
      rw [show 20 * (0 : Int) + j = j by omega, this]; rfl
    · intro j x y
      rw [b4, if_pos (by omega), a2.2 139 (by omega), r1 139 (by omega), show 20 * (0 : Int) + j = j by omega, d3 j x y]; rfl
    · rw [F.2.1 127 (by omega) (by omega)]; exact g6
    · rw [F.2.1 126 (by omega) (by omega)]; exact g7
    · refine ⟨by rw [b2.2 94 (by omega), a2.2 94 (by omega), rd_ws], by omega, by omega, ?_, ?_⟩
      · intro i p q
        obtain ⟨x1, x2, x3⟩ := u4 i p (by omega)
        exact ⟨x1, SN_R x2 x1 (fun y _ _ => F.2.1 138 (by omega) (by omega) y), fun j r t => by rw [F.2.1 139 (by omega) (by omega)]; exact x3 j r t⟩
      · intro x p q
        rw [F.2.1 139 (by omega) (by omega)]; exact u5 x p q
end
