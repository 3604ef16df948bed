/-! what is laid before minutes go, in the reference -/
def M0_ : Int → Int := mk_M 0 (-1) (-1) (-1) 0
theorem Mo_plainTried_s (h : am_H) : ∃ h', Mo_plainTried h 94 = some (h', 0) ∧ MM h' M0_ ∧ fz_ h h' (fun _ => False) (fun k => 61 ≤ k ∧ k ≤ 68) := by
  rw [Mo_plainTried_e]
  repeat rw [ck_t (by omega)]
  refine ⟨_, rfl, ?_, ?_⟩
  · unfold MM M0_ mk_M
    simp only [rd_wa]
    simp
  · exact fz_tr (fz_wf ⟨by omega, by omega⟩) (fz_tr (fz_wf ⟨by omega, by omega⟩) (fz_tr (fz_wf ⟨by omega, by omega⟩) (fz_tr (fz_wf ⟨by omega, by omega⟩) (fz_tr (fz_wf ⟨by omega, by omega⟩) (fz_tr (fz_wf ⟨by omega, by omega⟩) (fz_tr (fz_wf ⟨by omega, by omega⟩) (fz_wf ⟨by omega, by omega⟩)))))))
/-- rows that are truth values -/
def BB (h : am_H) : Prop := ∀ x, 0 ≤ x → x < 40 → rd_ h 124 x = 0 ∨ rd_ h 124 x = 1
theorem Mo_layTried_lp1 : ∀ (n : Nat) (k : Int) (h : am_H), ShM h → 0 ≤ k → k + n = 4 → ∃ h', Mo_layTried_1 h 94 k = Mo_layTried_4 h' 94 0 ∧ fr_ h h' (fun a => a = 120 ∨ a = 122 ∨ a = 125) ∧ ∀ a, a = 120 ∨ a = 122 ∨ a = 125 → ∀ x, rd_ h' a x = if 4 + k ≤ x ∧ x < 8 then rd_ h a (x - 4) else rd_ h a x := by
  intro n
  induction n with
  | zero =>
    intro k h s hk hn
    refine ⟨h, ?_, fr_refl _ _, fun a _ x => by rw [if_neg (by omega)]⟩
    rw [Mo_layTried_1_e, if_pos (by omega)]
  | succ n ih =>
    intro k h s hk hn
    rw [Mo_layTried_1_e]
    try simp only [mr52 s, ml120 s, mr54 s, ml122 s, mr57 s, ml125 s]
    simp (disch := omega) only [w32_i]
    rw [if_neg (by omega)]
    simp only [rd_wo (show (122 : Int) ≠ 120 by omega), rd_wo (show (125 : Int) ≠ 122 by omega), rd_wo (show (125 : Int) ≠ 120 by omega)]
    repeat rw [ck_t (by omega)]
    obtain ⟨h', e1, e2, e3⟩ := ih (k + 1) (wr_ (wr_ (wr_ h 120 (4 + k) (rd_ h 120 k)) 122 (4 + k) (rd_ h 122 k)) 125 (4 + k) (rd_ h 125 k)) (ShM_of rfl s) (by omega) (by omega)
    refine ⟨h', e1, fr_tr (fr_tr (fr_wr (by omega)) (fr_tr (fr_wr (by omega)) (fr_wr (by omega)))) e2, ?_⟩
    intro a ha x
    rw [e3 a ha]
    rcases ha with ha | ha | ha <;> subst ha
    all_goals
      repeat' split
      all_goals first
        | omega
        | (repeat first | rw [rd_wo (by omega)] | rw [rd_wk (by omega)] | rw [show x = 4 + k by omega, rd_ws]
           first | rfl | (congr 1; omega) | skip)
theorem Mo_layTried_lp2 : ∀ (n : Nat) (k : Int) (h : am_H), ShM h → BB h → 0 ≤ k → k + n = 20 → ∃ h', Mo_layTried_4 h 94 k = Mo_layTried_4 h' 94 20 ∧ fr_ h h' (fun a => a = 121 ∨ a = 123 ∨ a = 124) ∧ BB h' ∧ ∀ a, a = 121 ∨ a = 123 ∨ a = 124 → ∀ x, rd_ h' a x = if 20 + k ≤ x ∧ x < 40 then rd_ h a (x - 20) else rd_ h a x := by
  intro n
  induction n with
  | zero =>
    intro k h s bb hk hn
    have e : k = 20 := by omega
    subst e
    exact ⟨h, rfl, fr_refl _ _, bb, fun a _ x => by rw [if_neg (by omega)]⟩
  | succ n ih =>
    intro k h s bb hk hn
    have bk := bb k hk (by omega)
    rw [Mo_layTried_4_e]
    try simp only [mr53 s, ml121 s, mr55 s, ml123 s, mr56 s, ml124 s, mr58 s, ml126 s, mr59 s, ml127 s]
    simp (disch := omega) only [w32_i]
    rw [if_neg (by omega)]
    simp only [rd_wo (show (124 : Int) ≠ 123 by omega), rd_wo (show (124 : Int) ≠ 121 by omega), rd_wo (show (123 : Int) ≠ 121 by omega)]
    repeat rw [ck_t (by omega)]
    obtain ⟨h', e1, e2, e3, e4⟩ := ih (k + 1) (wr_ (wr_ (wr_ h 121 (20 + k) (rd_ h 121 k)) 123 (20 + k) (rd_ h 123 k)) 124 (20 + k) (rd_ h 124 k)) (ShM_of rfl s) (by
      intro x p q
      rw [rd_wa]
      split
      · exact bk
      · rw [rd_wo (by omega), rd_wo (by omega)]; exact bb x p q) (by omega) (by omega)
    refine ⟨h', e1, fr_tr (fr_tr (fr_wr (by omega)) (fr_tr (fr_wr (by omega)) (fr_wr (by omega)))) e2, e3, ?_⟩
    intro a ha x
    rw [e4 a ha]
    rcases ha with ha | ha | ha <;> subst ha
    all_goals
      repeat' split
      all_goals first
        | omega
        | (repeat first | rw [rd_wo (by omega)] | rw [rd_wk (by omega)] | rw [show x = 20 + k by omega, rd_ws]
           first | rfl | (congr 1; omega) | skip)
theorem Mo_layTried_s {h : am_H} {T W : Tx} (s : ShM h) (t : MT h T) (l : ML h T) (o : MW h 0 T W) (bb : BB h) (v : WV T W) : ∃ h', Mo_layTried h 94 = some (h', 0) ∧ MS h' 1 T W M0_ ∧ MW h' 0 T W ∧ BB h' ∧ fz_ h h' (fun a => 120 ≤ a ∧ a ≤ 127) (fun k => 61 ≤ k ∧ k ≤ 68) ∧ hf_ h h' 1 := by
  obtain ⟨ha, a1, a2, a3⟩ := Mo_layTried_lp1 4 0 h s (by omega) (by omega)
  obtain ⟨hb, b1, b2, b3, b4⟩ := Mo_layTried_lp2 20 0 ha (ShM_of a2.1 s) (fun x p q => by rw [a2.2 124 (by omega)]; exact bb x p q) (by omega) (by omega)
  have sb := ShM_of b2.1 (ShM_of a2.1 s)
  have i6 : rd_ hb 126 0 = W 6 1 := by rw [b2.2 126 (by omega), a2.2 126 (by omega)]; exact o.2.2.2.2.2.2.2.2
  have i7 : rd_ hb 127 0 = W 6 0 := by rw [b2.2 127 (by omega), a2.2 127 (by omega)]; exact o.2.2.2.2.2.2.2.1
  rw [Mo_layTried_e, a1, b1]
  rw [Mo_layTried_4_e]
  try simp only [mr53 sb, ml121 sb, mr55 sb, ml123 sb, mr56 sb, ml124 sb, mr58 sb, ml126 sb, mr59 sb, ml127 sb]
  rw [if_pos (by omega), i6, rd_wo (by omega), i7]
  obtain ⟨hc, c1, c2, c3⟩ := Mo_plainTried_s (wr_ (wr_ hb 126 1 (W 6 1)) 127 1 (W 6 0))
  repeat rw [ck_t (by omega)]
  rw [c1, bd_v]
  have F : fz_ h hc (fun a => 120 ≤ a ∧ a ≤ 127) (fun k => 61 ≤ k ∧ k ≤ 68) := fz_tr (fz_fr a2 (fun a q => by omega) (by omega)) (fz_tr (fz_fr b2 (fun a q => by omega) (by omega)) (fz_tr (fz_wr (by omega) (by omega)) (fz_tr (fz_wr (by omega) (by omega)) (fz_mo c3 (fun _ q => q.elim) (fun _ q => q)))))
  have R1 : ∀ a, a = 120 ∨ a = 122 ∨ a = 125 → ∀ x, rd_ hc a x = if 4 ≤ x ∧ x < 8 then rd_ h a (x - 4) else rd_ h a x := by
    intro a q x
    rw [c3.2.1 a (fun q => q) (by omega), rd_wo (by omega), rd_wo (by omega), b2.2 a (by omega), a3 a q]
    rfl
  have R2 : ∀ a, a = 121 ∨ a = 123 ∨ a = 124 → ∀ x, rd_ hc a x = if 20 ≤ x ∧ x < 40 then rd_ h a (x - 20) else rd_ h a x := by
    intro a q x
    rw [c3.2.1 a (fun q => q) (by omega), rd_wo (by omega), rd_wo (by omega), b4 a q, a2.2 a (by omega), a2.2 a (by omega)]
    rfl
  have R3 : ∀ x, rd_ hc 126 x = if x = 1 then W 6 1 else rd_ h 126 x := by
    intro x
    rw [c3.2.1 126 (fun q => q) (by omega), rd_wo (by omega), rd_wa, b2.2 126 (by omega), a2.2 126 (by omega)]
  have R4 : ∀ x, rd_ hc 127 x = if x = 1 then W 6 0 else rd_ h 127 x := by
    intro x
    rw [c3.2.1 127 (fun q => q) (by omega), rd_wa, rd_wo (by omega), b2.2 127 (by omega), a2.2 127 (by omega)]
  have H : hf_ h hc 1 := by
    refine ⟨?_, ?_, ?_⟩
    · intro a x p q
      rw [R2 a p, if_neg (by omega)]
    · intro a x p q
      rw [R1 a p, if_neg (by omega)]
    · intro a x p q
      rcases p with p | p <;> subst p
      · rw [R3, if_neg q]
      · rw [R4, if_neg q]
  obtain ⟨b0, g0, g1, g2, g3, g4, g5, g6, g7⟩ := id o
  have v0 := v.1
  have v1 := v.2.1
  refine ⟨hc, rfl, ⟨fz_ShM F s, MT_fz t F (by intro a p q; omega) (by intro k p q; omega), ML_fm l F (by intro a p q; omega), ?_, c2, fun q => by cases q⟩, hf_MW H (by omega) (by omega) v o, ?_, F, H⟩
  · refine ⟨Or.inr rfl, ?_, ?_, ?_, ?_, ?_, ?_, ?_, ?_⟩
    · intro j p q
      rw [R1 _ (by omega), if_pos (by omega), ← g0 j p q]; congr 1; omega
    · intro j p q
      rw [R1 _ (by omega), if_pos (by omega), ← g1 j p q]; congr 1; omega
    · intro j p q
      rw [R1 _ (by omega), if_pos (by omega), ← g2 j p q]; congr 1; omega
    · intro j k p q r z
      have := v1 j p q
      rw [R2 _ (by omega), if_pos (by omega), ← g3 j k p q r z]; congr 1; omega
    · intro j p q
      rw [R2 _ (by omega), if_pos (by omega), ← g4 j p q]; congr 1; omega
    · intro j p q
      rw [R2 _ (by omega), if_pos (by omega), ← g5 j p q]; congr 1; omega
    · rw [R4, if_pos rfl]
    · rw [R3, if_pos rfl]
  · intro x p q
    rw [c3.2.1 124 (fun q => q) (by omega), rd_wo (by omega), rd_wo (by omega)]
    exact b3 x p q
/-- the scullery as told -/
def W0_ (T : Tx) (n : Int) : Tx := fun f => if f = 0 then T 4 else if f = 3 then T 6 else if f = 4 then T 7 else if f = 6 then (fun k => if k = 2 then n else 0) else fun _ => 0
theorem Mo_atFirst_lp1 {b : Int} (b0 : b = 0 ∨ b = 1) : ∀ (n : Nat) (k : Int) (h : am_H), ShM h → 0 ≤ k → k + n = 4 → ∃ h', Mo_atFirst_1 h 94 b k = Mo_atFirst_4 h' 94 b 0 ∧ fr_ h h' (fun a => a = 120 ∨ a = 122 ∨ a = 125) ∧ (∀ x, rd_ h' 120 x = if 4 * b + k ≤ x ∧ x < 4 * b + 4 then rd_ h 102 (x - 4 * b) else rd_ h 120 x) ∧ ∀ a, a = 122 ∨ a = 125 → ∀ x, rd_ h' a x = if 4 * b + k ≤ x ∧ x < 4 * b + 4 then 0 else rd_ h a x := by
  intro n
  induction n with
  | zero =>
    intro k h s hk hn
    refine ⟨h, ?_, fr_refl _ _, fun x => by rw [if_neg (by omega)], fun a _ x => by rw [if_neg (by omega)]⟩
    rw [Mo_atFirst_1_e, if_pos (by omega)]
  | succ n ih =>
    intro k h s hk hn
    rw [Mo_atFirst_1_e]
    try simp only [mr27 s, ml102 s, mr52 s, ml120 s, mr54 s, ml122 s, mr57 s, ml125 s]
    simp (disch := omega) only [w32_i]
    rw [if_neg (by omega)]
    repeat rw [ck_t (by omega)]
    obtain ⟨h', e1, e2, e3, e4⟩ := ih (k + 1) (wr_ (wr_ (wr_ h 120 (4 * b + k) (rd_ h 102 k)) 122 (4 * b + k) 0) 125 (4 * b + k) 0) (ShM_of rfl s) (by omega) (by omega)
    refine ⟨h', e1, fr_tr (fr_tr (fr_wr (by omega)) (fr_tr (fr_wr (by omega)) (fr_wr (by omega)))) e2, ?_, ?_⟩
    · intro x
      rw [e3]
      repeat' split
      all_goals first
        | omega
        | (repeat first | rw [rd_wo (by omega)] | rw [rd_wk (by omega)] | rw [show x = 4 * b + k by omega, rd_ws]
           first | rfl | (congr 1; omega) | skip)
    · intro a ha x
      rw [e4 a ha]
      rcases ha with ha | ha <;> subst ha
      all_goals
        repeat' split
        all_goals first
          | omega
          | (repeat first | rw [rd_wo (by omega)] | rw [rd_wk (by omega)] | rw [show x = 4 * b + k by omega, rd_ws]
             first | rfl | (congr 1; omega) | skip)
theorem Mo_atFirst_lp2 {b : Int} (b0 : b = 0 ∨ b = 1) : ∀ (n : Nat) (k : Int) (h : am_H), ShM h → 0 ≤ k → k + n = 20 → ∃ h', Mo_atFirst_4 h 94 b k = Mo_atFirst_4 h' 94 b 20 ∧ fr_ h h' (fun a => a = 121 ∨ a = 123 ∨ a = 124) ∧ (∀ x, rd_ h' 121 x = if 20 * b + k ≤ x ∧ x < 20 * b + 20 then rd_ h 103 (x - 20 * b) else rd_ h 121 x) ∧ (∀ x, rd_ h' 123 x = if 20 * b + k ≤ x ∧ x < 20 * b + 20 then rd_ h 105 (x - 20 * b) else rd_ h 123 x) ∧ ∀ x, rd_ h' 124 x = if 20 * b + k ≤ x ∧ x < 20 * b + 20 then 0 else rd_ h 124 x := by
  intro n
  induction n with
  | zero =>
    intro k h s hk hn
    have e : k = 20 := by omega
    subst e
    exact ⟨h, rfl, fr_refl _ _, fun x => by rw [if_neg (by omega)], fun x => by rw [if_neg (by omega)], fun x => by rw [if_neg (by omega)]⟩
  | succ n ih =>
    intro k h s hk hn
    rw [Mo_atFirst_4_e]
    try simp only [mr28 s, ml103 s, mr30 s, ml105 s, mr53 s, ml121 s, mr55 s, ml123 s, mr56 s, ml124 s, mr58 s, ml126 s, mr59 s, ml127 s]
    simp (disch := omega) only [w32_i]
    rw [if_neg (by omega)]
    simp only [rd_wo (show (105 : Int) ≠ 121 by omega)]
    repeat rw [ck_t (by omega)]
    obtain ⟨h', e1, e2, e3, e4, e5⟩ := ih (k + 1) (wr_ (wr_ (wr_ h 121 (20 * b + k) (rd_ h 103 k)) 123 (20 * b + k) (rd_ h 105 k)) 124 (20 * b + k) 0) (ShM_of rfl s) (by omega) (by omega)
    refine ⟨h', e1, fr_tr (fr_tr (fr_wr (by omega)) (fr_tr (fr_wr (by omega)) (fr_wr (by omega)))) e2, ?_, ?_, ?_⟩
    · intro x
      rw [e3]
      repeat' split
      all_goals first
        | omega
        | (repeat first | rw [rd_wo (by omega)] | rw [rd_wk (by omega)] | rw [show x = 20 * b + k by omega, rd_ws]
           first | rfl | (congr 1; omega) | skip)
    · intro x
      rw [e4]
      repeat' split
      all_goals first
        | omega
        | (repeat first | rw [rd_wo (by omega)] | rw [rd_wk (by omega)] | rw [show x = 20 * b + k by omega, rd_ws]
           first | rfl | (congr 1; omega) | skip)
    · intro x
      rw [e5]
      repeat' split
      all_goals first
        | omega
        | (repeat first | rw [rd_wo (by omega)] | rw [rd_wk (by omega)] | rw [show x = 20 * b + k by omega, rd_ws]
           first | rfl | (congr 1; omega) | skip)
theorem Mo_atFirst_s {h : am_H} {b : Int} {T : Tx} (n : Int) (s : ShM h) (t : MT h T) (b0 : b = 0 ∨ b = 1) (v : WV T (W0_ T n)) : ∃ h', Mo_atFirst h 94 b = some (h', 0) ∧ MW h' b T (W0_ T n) ∧ fr_ h h' (fun a => 120 ≤ a ∧ a ≤ 127) ∧ hf_ h h' b ∧ ∀ x, rd_ h' 124 x = rd_ h 124 x ∨ rd_ h' 124 x = 0 := by
  obtain ⟨ha, a1, a2, a3, a4⟩ := Mo_atFirst_lp1 b0 4 0 h s (by omega) (by omega)
  obtain ⟨hb, b1, b2, b3, b4, b5⟩ := Mo_atFirst_lp2 b0 20 0 ha (ShM_of a2.1 s) (by omega) (by omega)
  have sb := ShM_of b2.1 (ShM_of a2.1 s)
  rw [Mo_atFirst_e, a1, b1]
  rw [Mo_atFirst_4_e]
  try simp only [mr28 sb, ml103 sb, mr30 sb, ml105 sb, mr53 sb, ml121 sb, mr55 sb, ml123 sb, mr56 sb, ml124 sb, mr58 sb, ml126 sb, mr59 sb, ml127 sb]
  rw [if_pos (by omega)]
  repeat rw [ck_t (by omega)]
  have F : fr_ h (wr_ (wr_ hb 126 b 0) 127 b 0) (fun a => 120 ≤ a ∧ a ≤ 127) := fr_tr (fr_mo a2 (fun a q => by omega)) (fr_tr (fr_mo b2 (fun a q => by omega)) (fr_tr (fr_wr (by omega)) (fr_wr (by omega))))
  have v0 := v.1
  have v1 := v.2.1
  obtain ⟨-, -, -, -, t4, t5, -, t7, -⟩ := t
  refine ⟨_, rfl, ⟨b0, ?_, ?_, ?_, ?_, ?_, ?_, ?_, ?_⟩, F, ⟨?_, ?_, ?_⟩, ?_⟩
  · intro j p q
    rw [rd_wo (by omega), rd_wo (by omega), b2.2 120 (by omega), a3, if_pos (by omega), show 4 * b + j - 4 * b = j by omega, t4 j p q]; rfl
  · intro j p q
    rw [rd_wo (by omega), rd_wo (by omega), b2.2 122 (by omega), a4 _ (by omega), if_pos (by omega)]; rfl
  · intro j p q
    rw [rd_wo (by omega), rd_wo (by omega), b2.2 125 (by omega), a4 _ (by omega), if_pos (by omega)]; rfl
  · intro j k p q r z
    have := v1 j p q
    have z' : k < T 4 j := z
    rw [rd_wo (by omega), rd_wo (by omega), b3, if_pos (by omega), show 20 * b + (5 * j + k) - 20 * b = 5 * j + k by omega, a2.2 103 (by omega), t5 j k p q r z']; rfl
  · intro j p q
    rw [rd_wo (by omega), rd_wo (by omega), b4, if_pos (by omega), show 20 * b + j - 20 * b = j by omega, a2.2 105 (by omega), t7 j p q]; rfl
  · intro j p q
    rw [rd_wo (by omega), rd_wo (by omega), b5, if_pos (by omega)]; rfl
  · rw [rd_ws]; rfl
  · rw [rd_wo (by omega), rd_ws]; rfl
  · intro a x p q
    rw [rd_wo (by omega), rd_wo (by omega)]
    rcases p with p | p | p <;> subst p
    · rw [b3, if_neg (by omega), a2.2 121 (by omega)]
    · rw [b4, if_neg (by omega), a2.2 123 (by omega)]
    · rw [b5, if_neg (by omega), a2.2 124 (by omega)]
  · intro a x p q
    rw [rd_wo (by omega), rd_wo (by omega), b2.2 a (by omega)]
    rcases p with p | p | p <;> subst p
    · rw [a3, if_neg (by omega)]
    · rw [a4 _ (by omega), if_neg (by omega)]
    · rw [a4 _ (by omega), if_neg (by omega)]
  · intro a x p q
    rw [rd_wr, if_neg (by omega), rd_wr, if_neg (by omega), b2.2 a (by omega), a2.2 a (by omega)]
  · intro x
    rw [rd_wo (by omega), rd_wo (by omega), b5, a2.2 124 (by omega)]
    split
    · exact Or.inr rfl
    · exact Or.inl rfl
