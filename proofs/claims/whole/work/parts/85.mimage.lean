/-! images, in the reference -/
def MI (h : am_H) (T I : Tx) (g : Int) : Prop := rd_ h 94 88 = g ∧ (g = 0 ∨ g = 1) ∧ (g = 1 → WV T I ∧ SN h 140 0 T I ∧ (∀ j, 0 ≤ j → j < T 0 2 → rd_ h 141 j = I 5 j) ∧ (∀ m, 0 ≤ m → m < T 0 0 → rd_ h 142 m = I 2 m) ∧ rd_ h 142 4 = I 6 1 ∧ rd_ h 142 5 = I 6 0 ∧ rd_ h 94 92 = I 6 2) ∧ B1 h 141 20
theorem MI_fz {h h' : am_H} {T I : Tx} {g : Int} {A F : Int → Prop} (m : MI h T I g) (x : fz_ h h' A F) (n : ∀ a, 140 ≤ a → a ≤ 142 → ¬ A a) (nf : ¬ F 88) (nf2 : ¬ F 92) : MI h' T I g := by
  obtain ⟨a, b, c, d⟩ := m
  refine ⟨by rw [x.2.2 88 nf]; exact a, b, ?_, ?_⟩
  · intro q
    obtain ⟨c1, c2, c3, c4, c5, c6, c7⟩ := c q
    exact ⟨c1, SN_R c2 c1 (fun y _ _ => x.2.1 140 (n _ (by omega) (by omega)) (by omega) y), fun j r s => by rw [x.2.1 141 (n _ (by omega) (by omega)) (by omega)]; exact c3 j r s, fun j r s => by rw [x.2.1 142 (n _ (by omega) (by omega)) (by omega)]; exact c4 j r s, by rw [x.2.1 142 (n _ (by omega) (by omega)) (by omega)]; exact c5, by rw [x.2.1 142 (n _ (by omega) (by omega)) (by omega)]; exact c6, by rw [x.2.2 92 nf2]; exact c7⟩
  · intro y p q
    rw [x.2.1 141 (n _ (by omega) (by omega)) (by omega)]; exact d y p q
theorem Mo_keep_lp1 : ∀ (m : Nat) (k : Int) (h : am_H), ShM h → BB h → B1 h 141 20 → 0 ≤ k → k + m = 20 → ∃ h', Mo_keep_1 h 94 k = Mo_keep_4 h' 94 0 ∧ fr_ h h' (fun x => x = 141) ∧ B1 h' 141 20 ∧ ∀ x, rd_ h' 141 x = if k ≤ x ∧ x < 20 then rd_ h 124 x else rd_ h 141 x := by
  intro m
  induction m with
  | zero =>
    intro k h s bb b hk hm
    refine ⟨h, ?_, fr_refl _ _, b, fun x => by rw [if_neg (by omega)]⟩
    rw [Mo_keep_1_e, if_pos (by omega)]
  | succ m ih =>
    intro k h s bb b hk hm
    have bk := bb k hk (by omega)
    rw [Mo_keep_1_e, if_neg (by omega)]
    simp only [mr56 s, ml124 s, mr90 s, ml141 s]
    simp (disch := omega) only [w32_i]
    repeat rw [ck_t (by omega)]
    obtain ⟨h', i1, i2, i3, i4⟩ := ih (k + 1) (wr_ h 141 k (rd_ h 124 k)) (ShM_of rfl s) (fun x p q => by rw [rd_wo (by omega)]; exact bb x p q) (by
      intro x p q
      rw [rd_wa]
      split
      · exact bk
      · exact b x p q) (by omega) (by omega)
    refine ⟨h', i1, fr_tr (fr_wr rfl) i2, i3, ?_⟩
    intro x
    rw [i4, rd_wa, rd_wo (show (124 : Int) ≠ 141 by omega)]
    repeat' split
    all_goals first | omega | rfl | (congr 1; omega)
theorem Mo_keep_lp2 : ∀ (m : Nat) (k : Int) (h : am_H), ShM h → 0 ≤ k → k + m = 4 → ∃ h', Mo_keep_4 h 94 k = Mo_keep_4 h' 94 4 ∧ fr_ h h' (fun x => x = 142) ∧ ∀ x, rd_ h' 142 x = if k ≤ x ∧ x < 4 then rd_ h 125 x else rd_ h 142 x := by
  intro m
  induction m with
  | zero =>
    intro k h s hk hm
    have e : k = 4 := by omega
    subst e
    exact ⟨h, rfl, fr_refl _ _, fun x => by rw [if_neg (by omega)]⟩
  | succ m ih =>
    intro k h s hk hm
    rw [Mo_keep_4_e, if_neg (by omega)]
    simp only [mr57 s, ml125 s, mr91 s, ml142 s]
    simp (disch := omega) only [w32_i]
    repeat rw [ck_t (by omega)]
    obtain ⟨h', i1, i2, i3⟩ := ih (k + 1) (wr_ h 142 k (rd_ h 125 k)) (ShM_of rfl s) (by omega) (by omega)
    refine ⟨h', i1, fr_tr (fr_wr rfl) i2, ?_⟩
    intro x
    rw [i3, rd_wa, rd_wo (show (125 : Int) ≠ 142 by omega)]
    repeat' split
    all_goals first | omega | rfl | (congr 1; omega)
section
variable {h : am_H} {T W I : Tx} {g : Int}
theorem Mo_keep_s (s : ShM h) (m : MW h 0 T W) (v : WV T W) (bb : BB h) (im : MI h T I g) (en : rd_ h 94 60 = W 6 2) : ∃ h', Mo_keep h 94 = some (h', W 6 0) ∧ MI h' T W 1 ∧ fz_ h h' (fun a => 140 ≤ a ∧ a ≤ 142) (fun k => k = 2 ∨ k = 88 ∨ k = 92) := by
  have v0 := v.1
  have z1 : fz_ h (wr_ (wr_ h 94 2 0) 94 88 1) (fun a => 140 ≤ a ∧ a ≤ 142) (fun k => k = 2 ∨ k = 88 ∨ k = 92) := fz_tr (fz_wf (Or.inl rfl)) (fz_wf (Or.inr (Or.inl rfl)))
  have s1 := fz_ShM z1 s
  obtain ⟨ha, a1, a2, a3, a4⟩ := Mo_put_s s1 (MW_fz m z1 (by intro a p q; omega)) v (Or.inr rfl) (o := 0) (by omega) (ml140 s1) (by omega) (by omega)
  have sa := ShM_of a3.1 s1
  have r1 : ∀ a, a ≠ 94 → ∀ k, rd_ (wr_ (wr_ h 94 2 0) 94 88 1) a k = rd_ h a k := fun a q k => by rw [rd_wo q, rd_wo q]
  obtain ⟨hb, b1, b2, b3, b4⟩ := Mo_keep_lp1 20 0 ha sa (fun x p q => by rw [a3.2 124 (by omega), r1 124 (by omega)]; exact bb x p q) (fun x p q => by rw [a3.2 141 (by omega), r1 141 (by omega)]; exact im.2.2.2 x p q) (by omega) (by omega)
  have sb := ShM_of b2.1 sa
  obtain ⟨hc, c1, c2, c3⟩ := Mo_keep_lp2 4 0 hb sb (by omega) (by omega)
  have sc := ShM_of c2.1 sb
  have R : ∀ a, a ≠ 94 → a ≠ 140 → a ≠ 141 → a ≠ 142 → ∀ k, rd_ hc a k = rd_ h a k := fun a p q r t k => by rw [c2.2 a t, b2.2 a r, a3.2 a q, r1 a p]
  have e6 : rd_ hc 126 0 = W 6 1 := by rw [R 126 (by omega) (by omega) (by omega) (by omega)]; exact m.2.2.2.2.2.2.2.2
  have e7 : rd_ hc 127 0 = W 6 0 := by rw [R 127 (by omega) (by omega) (by omega) (by omega)]; exact m.2.2.2.2.2.2.2.1
  have e60 : rd_ hc 94 60 = W 6 2 := by rw [c2.2 94 (by omega), b2.2 94 (by omega), a3.2 94 (by omega), rd_wk (by omega), rd_wk (by omega)]; exact en
  refine ⟨wr_ (wr_ (wr_ hc 142 4 (W 6 1)) 142 5 (W 6 0)) 94 92 (W 6 2), ?_, ⟨?_, Or.inr rfl, fun _ => ⟨v, ?_, ?_, ?_, ?_, ?_, ?_⟩, ?_⟩, ?_⟩
  · rw [Mo_keep_e]
    simp only [mr89 s]
    repeat rw [ck_t (by omega)]
    rw [a1, bd_v, b1, c1, Mo_keep_4_e, if_pos (by omega)]
    simp only [mr58 sc, ml126 sc, mr59 sc, ml127 sc, mr91 sc, ml142 sc, rd_wo (show (127 : Int) ≠ 142 by omega), rd_wo (show (127 : Int) ≠ 94 by omega), rd_wo (show (94 : Int) ≠ 142 by omega)]
    rw [e6, e7, e60]
    repeat rw [ck_t (by omega)]
  · rw [rd_wk (by omega), rd_wo (by omega), rd_wo (by omega), c2.2 94 (by omega), b2.2 94 (by omega), a3.2 94 (by omega), rd_ws]
  · exact SN_R a2 v (fun x _ _ => by rw [rd_wo (by omega), rd_wo (by omega), rd_wo (by omega), c2.2 140 (by omega), b2.2 140 (by omega)])
  · intro j x y
    rw [rd_wo (by omega), rd_wo (by omega), rd_wo (by omega), c2.2 141 (by omega), b4, if_pos (by omega), a3.2 124 (by omega), r1 124 (by omega)]
    have := m.2.2.2.2.2.2.1 j x y
    simpa using this
  · intro j x y
    rw [rd_wo (by omega), rd_wk (by omega), rd_wk (by omega), c3, if_pos (by omega), b2.2 125 (by omega), a3.2 125 (by omega), r1 125 (by omega)]
    have := m.2.2.2.1 j x y
    simpa using this
  · rw [rd_wo (by omega), rd_wk (by omega), rd_ws]
  · rw [rd_wo (by omega), rd_ws]
  · rw [rd_ws]
  · intro x p q
    rw [rd_wo (by omega), rd_wo (by omega), rd_wo (by omega), c2.2 141 (by omega)]; exact b3 x p q
  · exact fz_tr z1 (fz_tr (fz_fr a3 (fun a q => by omega) (by omega)) (fz_tr (fz_fr b2 (fun a q => by omega) (by omega)) (fz_tr (fz_fr c2 (fun a q => by omega) (by omega)) (fz_tr (fz_wr (by omega) (by omega)) (fz_tr (fz_wr (by omega) (by omega)) (fz_wf (Or.inr (Or.inr rfl))))))))
end
theorem Mo_back_lp1 : ∀ (m : Nat) (k : Int) (h : am_H), ShM h → BB h → B1 h 141 20 → 0 ≤ k → k + m = 20 → ∃ h', Mo_back_3 h 94 k = Mo_back_6 h' 94 0 ∧ fr_ h h' (fun x => x = 124) ∧ BB h' ∧ ∀ x, rd_ h' 124 x = if k ≤ x ∧ x < 20 then rd_ h 141 x else rd_ h 124 x := by
  intro m
  induction m with
  | zero =>
    intro k h s bb b hk hm
    refine ⟨h, ?_, fr_refl _ _, bb, fun x => by rw [if_neg (by omega)]⟩
    rw [Mo_back_3_e, if_pos (by omega)]
  | succ m ih =>
    intro k h s bb b hk hm
    have bk := b k hk (by omega)
    rw [Mo_back_3_e, if_neg (by omega)]
    simp only [mr56 s, ml124 s, mr90 s, ml141 s]
    simp (disch := omega) only [w32_i]
    repeat rw [ck_t (by omega)]
    obtain ⟨h', i1, i2, i3, i4⟩ := ih (k + 1) (wr_ h 124 k (rd_ h 141 k)) (ShM_of rfl s) (by
      intro x p q
      rw [rd_wa]
      split
      · exact bk
      · exact bb x p q) (fun x p q => by rw [rd_wo (by omega)]; exact b x p q) (by omega) (by omega)
    refine ⟨h', i1, fr_tr (fr_wr rfl) i2, i3, ?_⟩
    intro x
    rw [i4, rd_wa, rd_wo (show (141 : Int) ≠ 124 by omega)]
    repeat' split
    all_goals first | omega | rfl | (congr 1; omega)
theorem Mo_back_lp2 : ∀ (m : Nat) (k : Int) (h : am_H), ShM h → 0 ≤ k → k + m = 4 → ∃ h', Mo_back_6 h 94 k = Mo_back_6 h' 94 4 ∧ fr_ h h' (fun x => x = 125) ∧ ∀ x, rd_ h' 125 x = if k ≤ x ∧ x < 4 then rd_ h 142 x else rd_ h 125 x := by
  intro m
  induction m with
  | zero =>
    intro k h s hk hm
    have e : k = 4 := by omega
    subst e
    exact ⟨h, rfl, fr_refl _ _, fun x => by rw [if_neg (by omega)]⟩
  | succ m ih =>
    intro k h s hk hm
    rw [Mo_back_6_e, if_neg (by omega)]
    simp only [mr57 s, ml125 s, mr91 s, ml142 s]
    simp (disch := omega) only [w32_i]
    repeat rw [ck_t (by omega)]
    obtain ⟨h', i1, i2, i3⟩ := ih (k + 1) (wr_ h 125 k (rd_ h 142 k)) (ShM_of rfl s) (by omega) (by omega)
    refine ⟨h', i1, fr_tr (fr_wr rfl) i2, ?_⟩
    intro x
    rw [i3, rd_wa, rd_wo (show (142 : Int) ≠ 125 by omega)]
    repeat' split
    all_goals first | omega | rfl | (congr 1; omega)
section
variable {h : am_H} {T W I : Tx} {g : Int}
theorem Mo_back_s (s : ShM h) (m : MW h 0 T W) (v : WV T W) (bb : BB h) (im : MI h T I g) : ∃ h', Mo_back h 94 = some (h', if g = 0 then -1 else I 6 0) ∧ (g = 0 → h' = wr_ h 94 2 0) ∧ (g ≠ 0 → MW h' 0 T I ∧ rd_ h' 94 60 = I 6 2 ∧ rd_ h' 94 85 = 0) ∧ BB h' ∧ fz_ h h' (fun a => 120 ≤ a ∧ a ≤ 127) (fun k => k = 2 ∨ k = 60 ∨ k = 85) ∧ hf_ h h' 0 := by
  have v0 := v.1
  rw [Mo_back_e, rd_wk (by omega), im.1]
  have z1 : fz_ h (wr_ h 94 2 0) (fun a => 120 ≤ a ∧ a ≤ 127) (fun k => k = 2 ∨ k = 60 ∨ k = 85) := fz_wf (Or.inl rfl)
  have H1 : hf_ h (wr_ h 94 2 0) 0 := hf_fz (fz_wf (A := fun _ => False) (F := fun k => k = 2) rfl) (fun _ _ _ q => q) 0
  by_cases c : g = 0
  · refine ⟨wr_ h 94 2 0, ?_, fun _ => rfl, fun q => absurd c q, fun x p q => by rw [rd_wo (by omega)]; exact bb x p q, z1, H1⟩
    repeat rw [ck_t (by omega)]
    rw [if_neg (by omega), if_pos c]
  · obtain ⟨d1, d2, d3, d4, d5, d6, d7⟩ := im.2.2.1 (by have := im.2.1; omega)
    have s1 := fz_ShM z1 s
    have r1 : ∀ a, a ≠ 94 → ∀ k, rd_ (wr_ h 94 2 0) a k = rd_ h a k := fun a q k => by rw [rd_wo q]
    obtain ⟨ha, a1, a2, a3, a4, a5, a6⟩ := Mo_take_s s1 (SN_R d2 d1 (fun x _ _ => r1 140 (by omega) x)) d1 (Or.inr rfl) (o := 0) (by omega) (ml140 s1) (by omega) (by omega)
    have sa := ShM_of a2.1 s1
    obtain ⟨hb, b1, b2, b3, b4⟩ := Mo_back_lp1 20 0 ha sa (fun x p q => by rw [a2.2 124 (by omega), r1 124 (by omega)]; exact bb x p q) (fun x p q => by rw [a2.2 141 (by omega), r1 141 (by omega)]; exact im.2.2.2 x p q) (by omega) (by omega)
    have sb := ShM_of b2.1 sa
    obtain ⟨hc, c1, c2, c3⟩ := Mo_back_lp2 4 0 hb sb (by omega) (by omega)
    have sc := ShM_of c2.1 sb
    have R : ∀ a, ¬ (120 ≤ a ∧ a ≤ 125) → a ≠ 94 → ∀ k, rd_ hc a k = rd_ h a k := fun a p q k => by rw [c2.2 a (by omega), b2.2 a (by omega), a2.2 a (by omega), r1 a q]
    have e4 : rd_ hc 142 4 = I 6 1 := by rw [R 142 (by omega) (by omega)]; exact d5
    have e5 : rd_ hc 142 5 = I 6 0 := by rw [R 142 (by omega) (by omega)]; exact d6
    have e92 : rd_ hc 94 92 = I 6 2 := by rw [c2.2 94 (by omega), b2.2 94 (by omega), a2.2 94 (by omega), rd_wk (by omega)]; exact d7
    have F : fz_ h (wr_ (wr_ (wr_ (wr_ hc 126 0 (I 6 1)) 127 0 (I 6 0)) 94 60 (I 6 2)) 94 85 0) (fun a => 120 ≤ a ∧ a ≤ 127) (fun k => k = 2 ∨ k = 60 ∨ k = 85) := fz_tr z1 (fz_tr (fz_fr a2 (fun a q => by omega) (by omega)) (fz_tr (fz_fr b2 (fun a q => by omega) (by omega)) (fz_tr (fz_fr c2 (fun a q => by omega) (by omega)) (fz_tr (fz_wr (by omega) (by omega)) (fz_tr (fz_wr (by omega) (by omega)) (fz_tr (fz_wf (Or.inr (Or.inl rfl))) (fz_wf (Or.inr (Or.inr rfl)))))))))
    have Q : ∀ a, a ≠ 94 → a ≠ 126 → a ≠ 127 → ∀ k, rd_ (wr_ (wr_ (wr_ (wr_ hc 126 0 (I 6 1)) 127 0 (I 6 0)) 94 60 (I 6 2)) 94 85 0) a k = rd_ hc a k := fun a p q r k => by rw [rd_wo p, rd_wo p, rd_wo r, rd_wo q]
    have w0 := d1.1
    refine ⟨wr_ (wr_ (wr_ (wr_ hc 126 0 (I 6 1)) 127 0 (I 6 0)) 94 60 (I 6 2)) 94 85 0, ?_, fun q => absurd q c, fun _ => ⟨⟨Or.inl rfl, ?_, ?_, ?_, ?_, ?_, ?_, ?_, ?_⟩, ?_, ?_⟩, ?_, F, ⟨?_, ?_, ?_⟩⟩
    · repeat rw [ck_t (by omega)]
      rw [if_pos c, if_neg c]
      simp only [mr89 s]
      repeat rw [ck_t (by omega)]
      rw [a1, bd_v, b1, c1, Mo_back_6_e, if_pos (by omega)]
      simp only [mr58 sc, ml126 sc, mr59 sc, ml127 sc, mr91 sc, ml142 sc, rd_wo (show (142 : Int) ≠ 126 by omega), rd_wo (show (94 : Int) ≠ 127 by omega), rd_wo (show (94 : Int) ≠ 126 by omega), rd_wo (show (127 : Int) ≠ 94 by omega)]
      rw [e4, e5, e92]
      repeat rw [ck_t (by omega)]
      rw [rd_ws]
    · intro p x y
      rw [show 4 * (0 : Int) + p = p by omega, Q 120 (by omega) (by omega) (by omega), c2.2 120 (by omega), b2.2 120 (by omega)]; exact (a4 p x y).1
    · intro p x y
      rw [show 4 * (0 : Int) + p = p by omega, Q 122 (by omega) (by omega) (by omega), c2.2 122 (by omega), b2.2 122 (by omega)]; exact (a4 p x y).2
    · intro p x y
      rw [show 4 * (0 : Int) + p = p by omega, Q 125 (by omega) (by omega) (by omega), c3, if_pos (by omega), b2.2 142 (by omega), a2.2 142 (by omega), r1 142 (by omega)]; exact d4 p x y
    · intro p k x y z t
      rw [show 20 * (0 : Int) + (5 * p + k) = 5 * p + k by omega, Q 121 (by omega) (by omega) (by omega), c2.2 121 (by omega), b2.2 121 (by omega)]; exact a5 p k x y z t
    · intro j x y
      rw [show 20 * (0 : Int) + j = j by omega, Q 123 (by omega) (by omega) (by omega), c2.2 123 (by omega), b2.2 123 (by omega)]; exact a6 j x y
    · intro j x y
      rw [show 20 * (0 : Int) + j = j by omega, Q 124 (by omega) (by omega) (by omega), c2.2 124 (by omega), b4, if_pos (by omega), a2.2 141 (by omega), r1 141 (by omega)]; exact d3 j x y
    · rw [rd_wo (by omega), rd_wo (by omega), rd_ws]
    · rw [rd_wo (by omega), rd_wo (by omega), rd_wo (by omega), rd_ws]
    · rw [rd_wk (by omega), rd_ws]
    · rw [rd_ws]
    · intro x p q
      rw [Q 124 (by omega) (by omega) (by omega), c2.2 124 (by omega)]; exact b3 x p q
    · intro a x p q
      rw [Q a (by omega) (by omega) (by omega), c2.2 a (by omega)]
      rcases p with p | p | p <;> subst p
      · rw [b2.2 121 (by omega), a3.1 _ x (by omega) q, r1 121 (by omega)]
      · rw [b2.2 123 (by omega), a3.1 _ x (by omega) q, r1 123 (by omega)]
      · rw [b4, if_neg (by omega), a2.2 124 (by omega), r1 124 (by omega)]
    · intro a x p q
      rw [Q a (by omega) (by omega) (by omega)]
      rcases p with p | p | p <;> subst p
      · rw [c2.2 120 (by omega), b2.2 120 (by omega), a3.2.1 _ x (by omega) q, r1 120 (by omega)]
      · rw [c2.2 122 (by omega), b2.2 122 (by omega), a3.2.1 _ x (by omega) q, r1 122 (by omega)]
      · rw [c3, if_neg (by omega), b2.2 125 (by omega), a2.2 125 (by omega), r1 125 (by omega)]
    · intro a x p q
      rw [rd_wo (by omega), rd_wo (by omega), rd_wr, if_neg (by omega), rd_wr, if_neg (by omega), c2.2 a (by omega), b2.2 a (by omega), a2.2 a (by omega), r1 a (by omega)]
end
