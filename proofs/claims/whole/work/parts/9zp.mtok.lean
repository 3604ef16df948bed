/-! a token in the reference: words -/
def wfr_ : List Int := [0, 5, 10, 16, 21, 26, 31, 35, 42, 48, 53, 57, 60, 64, 69, 75, 80, 86, 92, 97, 104]
def wln_ : List Int := [4, 4, 5, 4, 4, 4, 3, 6, 5, 4, 3, 2, 3, 4, 5, 4, 5, 5, 4, 6]
def ciw_ (k : Int) : Int := if k = 10 then 11 else if k = 11 then 10 else k
def wF (k : Int) : Int := wfr_.getD k.toNat 0
def wN (k : Int) : Int := wln_.getD k.toNat 0
def lA (k : Int) : Int := lang_.getD k.toNat 0
def wC (i : Int) : Int := wds_.getD i.toNat 0
def kWd_ : Bool := (List.range 20).all fun k : Nat => decide (wF (k + 1) = wF k + wN k + 1) && decide (1 ≤ wN k) && decide (wN k ≤ 6) && decide (0 ≤ wF k) && decide (wF k + wN k < 104) && decide (wC (wF k + wN k) = 32) && decide (0 ≤ lA k) && decide (lA k < 1073741824) && ((List.range 6).all fun j : Nat => if (j : Int) < wN k then decide (wC (wF k + j) ≠ 32) && decide (wC (wF k + j) - 96 = dg_ (lA (ciw_ k)) j) && decide (1 ≤ dg_ (lA (ciw_ k)) j) && decide (dg_ (lA (ciw_ k)) j ≤ 26) else decide (dg_ (lA (ciw_ k)) j = 0)) && ((List.range k).all fun j : Nat => decide (lA j ≠ lA k))
set_option maxRecDepth 100000 in
theorem kWd_t : kWd_ = true := by decide +kernel
theorem kWd_v {k : Int} (k0 : 0 ≤ k) (k1 : k < 20) : (wF (k + 1) = wF k + wN k + 1 ∧ 1 ≤ wN k ∧ wN k ≤ 6 ∧ 0 ≤ wF k ∧ wF k + wN k < 104 ∧ wC (wF k + wN k) = 32 ∧ 0 ≤ lA k ∧ lA k < 1073741824) ∧ (∀ j, 0 ≤ j → j < wN k → wC (wF k + j) ≠ 32 ∧ wC (wF k + j) - 96 = dg_ (lA (ciw_ k)) j ∧ 1 ≤ dg_ (lA (ciw_ k)) j ∧ dg_ (lA (ciw_ k)) j ≤ 26) ∧ (∀ j, wN k ≤ j → j < 6 → dg_ (lA (ciw_ k)) j = 0) ∧ ∀ j, 0 ≤ j → j < k → lA j ≠ lA k := by
  have e := kWd_t
  unfold kWd_ at e
  rw [List.all_eq_true] at e
  have x := e k.toNat (List.mem_range.mpr (by omega))
  rw [show ((k.toNat : Nat) : Int) = k by omega] at x
  simp only [Bool.and_eq_true, decide_eq_true_eq] at x
  obtain ⟨⟨⟨⟨⟨⟨⟨⟨⟨a1, a2⟩, a3⟩, a4⟩, a5⟩, a6⟩, a7⟩, a8⟩, a9⟩, a10⟩ := x
  rw [List.all_eq_true] at a9 a10
  refine ⟨⟨a1, a2, a3, a4, a5, a6, a7, a8⟩, fun j j0 j1 => ?_, fun j j0 j1 => ?_, fun j j0 j1 => ?_⟩
  · have y := a9 j.toNat (List.mem_range.mpr (by omega))
    rw [show ((j.toNat : Nat) : Int) = j by omega, if_pos j1] at y
    simp only [Bool.and_eq_true, decide_eq_true_eq] at y
    exact ⟨y.1.1.1, y.1.1.2, y.1.2, y.2⟩
  · have y := a9 j.toNat (List.mem_range.mpr (by omega))
    rw [show ((j.toNat : Nat) : Int) = j by omega, if_neg (by omega)] at y
    simpa using y
  · have y := a10 j.toNat (List.mem_range.mpr (by omega))
    rw [show ((j.toNat : Nat) : Int) = j by omega] at y
    simpa using y
theorem fx_v {P : Int → Int} {c : Int} : ∀ (n : Nat) (k : Int), (fx_ P c n k = -1 ∧ ∀ j, k ≤ j → j < k + n → P j ≠ c) ∨ (k ≤ fx_ P c n k ∧ fx_ P c n k < k + n ∧ P (fx_ P c n k) = c) := by
  intro n
  induction n with
  | zero => intro k; exact Or.inl ⟨rfl, fun j a b => by omega⟩
  | succ n ih =>
    intro k
    have e : fx_ P c (n + 1) k = if P k = c then k else fx_ P c n (k + 1) := rfl
    rw [e]
    by_cases q : P k = c
    · rw [if_pos q]; exact Or.inr ⟨Int.le_refl _, by omega, q⟩
    · rw [if_neg q]
      rcases ih (k + 1) with ⟨a, b⟩ | ⟨a, b, d⟩
      · refine Or.inl ⟨a, fun j x y => ?_⟩
        by_cases z : j = k
        · rw [z]; exact q
        · exact b j (by omega) (by omega)
      · exact Or.inr ⟨by omega, by omega, d⟩
/-- no fault so far -/
def Z4 (h : am_H) : Prop := rd_ h 94 4 = 0 ∧ rd_ h 94 5 = -1
theorem Z4_w {h : am_H} {k v : Int} (z : Z4 h) (q : k ≠ 4 ∧ k ≠ 5) : Z4 (wr_ h 94 k v) := ⟨by rw [rd_wk (by omega)]; exact z.1, by rw [rd_wk (by omega)]; exact z.2⟩
/-- the reference's tokens, about to read at p -/
def MTk (h : am_H) (B : Int → Int) (n p : Int) : Prop := ShM h ∧ WD h ∧ (rd_ h 94 6 = n ∧ rd_ h 94 7 = p) ∧ (0 ≤ p ∧ p ≤ n ∧ n ≤ 700 ∧ Z4 h) ∧ ∀ k, 0 ≤ k → k < n → rd_ h 95 k = B k % 256 ∧ -128 ≤ B k ∧ B k < 128
def fzK (h h' : am_H) : Prop := fz_ h h' (fun _ => False) (fun k => 7 ≤ k ∧ k ≤ 10)
theorem MT_w {h : am_H} {B : Int → Int} {n p k v : Int} (t : MTk h B n p) (q : k ≠ 6 ∧ k ≠ 7 ∧ k ≠ 4 ∧ k ≠ 5) : MTk (wr_ h 94 k v) B n p := by
  obtain ⟨a, b, c, d, e⟩ := t
  exact ⟨ShM_of rfl a, fun i x y => by rw [rd_wo (by omega)]; exact b i x y, ⟨by rw [rd_wk (by omega)]; exact c.1, by rw [rd_wk (by omega)]; exact c.2⟩, ⟨d.1, d.2.1, d.2.2.1, Z4_w d.2.2.2 (by omega)⟩, fun k x y => by rw [rd_wo (by omega)]; exact e k x y⟩
theorem MT_n {h : am_H} {B : Int → Int} {n p v : Int} (t : MTk h B n p) (v0 : 0 ≤ v) (v1 : v ≤ n) : MTk (wr_ h 94 7 v) B n v := by
  obtain ⟨a, b, c, d, e⟩ := t
  exact ⟨ShM_of rfl a, fun i x y => by rw [rd_wo (by omega)]; exact b i x y, ⟨by rw [rd_wk (by omega)]; exact c.1, rd_ws _ _ _ _⟩, ⟨v0, v1, d.2.2.1, Z4_w d.2.2.2 (by omega)⟩, fun k x y => by rw [rd_wo (by omega)]; exact e k x y⟩
section
variable {B : Int → Int} {n : Int}
theorem Mo_isSmall_s {h : am_H} {p k : Int} (t : MTk h B n p) (k0 : 0 ≤ k) (k1 : k ≤ n) : Mo_isSmall h 94 k = some (h, if k < n then bz (isL B k) else 0) := by
  obtain ⟨a, b, c, d, e⟩ := t
  rw [Mo_isSmall_e, ck_t (by omega), c.1]
  by_cases q : k < n
  · have ek := e k k0 q
    rw [if_neg (by omega), if_pos q]
    simp only [mr0 a, ml95 a, ek.1]
    rw [ck_t (by omega), ck_t (by omega), ck_t (by omega)]
    unfold isL bz
    by_cases r : B k % 256 < 97
    · rw [if_pos r, if_neg (by simp; omega)]
    · rw [if_neg r, ck_t (by omega), ck_t (by omega), ck_t (by omega)]
      by_cases r2 : 122 < B k % 256
      · rw [if_pos r2, if_neg (by simp; omega)]
      · rw [if_neg r2, if_pos (by simp; omega)]
  · rw [if_pos (by omega), if_neg q]
theorem Mo_isDigit_s {h : am_H} {p k : Int} (t : MTk h B n p) (k0 : 0 ≤ k) (k1 : k ≤ n) : Mo_isDigit h 94 k = some (h, if k < n then bz (isD B k) else 0) := by
  obtain ⟨a, b, c, d, e⟩ := t
  rw [Mo_isDigit_e, ck_t (by omega), c.1]
  by_cases q : k < n
  · have ek := e k k0 q
    rw [if_neg (by omega), if_pos q]
    simp only [mr0 a, ml95 a, ek.1]
    rw [ck_t (by omega), ck_t (by omega), ck_t (by omega)]
    unfold isD bz
    by_cases r : B k % 256 < 48
    · rw [if_pos r, if_neg (by simp; omega)]
    · rw [if_neg r, ck_t (by omega), ck_t (by omega), ck_t (by omega)]
      by_cases r2 : 57 < B k % 256
      · rw [if_pos r2, if_neg (by simp; omega)]
      · rw [if_neg r2, if_pos (by simp; omega)]
  · rw [if_pos (by omega), if_neg q]
/-- a word of the language -/
theorem Mo_wa_3 {h : am_H} {p s e k : Int} (t : MTk h B n p) (k0 : 0 ≤ k) (k1 : k < 20) : ∀ (m : Nat) (j : Int), 0 ≤ j → j + m = wN k → Mo_wordAt_3 h 94 s e k (wF k) j = if wN k ≠ w32 (e - s) then Mo_wordAt_9 h 94 s e k (wF k) (wN k) 0 0 else Mo_wordAt_9 h 94 s e k (wF k) (wN k) 1 0 := by
  intro m
  obtain ⟨a, b, c, d, f⟩ := id t
  obtain ⟨v1, v2, v3, v4⟩ := kWd_v k0 k1
  induction m with
  | zero =>
    intro j j0 hj
    have ej : j = wN k := by omega
    have w := b (wF k + j) (by omega) (by omega)
    rw [ej] at w ⊢
    rw [Mo_wordAt_3_e]
    simp only [mr3 a, ml96 a]
    rw [w32_i (x := wF k + wN k) (by omega) (by omega), ck_t (by omega), ck_t (by omega), ck_t (by omega), w]
    have e32 : wds_.getD (wF k + wN k).toNat 0 = 32 := v1.2.2.2.2.2.1
    rw [e32, if_pos rfl]
  | succ m ih =>
    intro j j0 hj
    have w := b (wF k + j) (by omega) (by omega)
    have vj := (v2 j j0 (by omega)).1
    rw [Mo_wordAt_3_e]
    simp only [mr3 a, ml96 a]
    rw [w32_i (x := wF k + j) (by omega) (by omega), ck_t (by omega), ck_t (by omega), ck_t (by omega), w, if_neg (c := wds_.getD (wF k + j).toNat 0 = 32) vj, w32_i (x := j + 1) (by omega) (by omega)]
    exact ih (j + 1) (by omega) (by omega)
theorem Mo_wa_9 {h : am_H} {p s e k : Int} (t : MTk h B n p) (s0 : 0 ≤ s) (e1 : e ≤ n) (k0 : 0 ≤ k) (k1 : k < 20) (len : wN k = e - s) : ∀ (m : Nat) (i : Int), 0 ≤ i → i + m = wN k → ((∀ i', i ≤ i' → i' < wN k → wC (wF k + i') = B (s + i') % 256) → Mo_wordAt_9 h 94 s e k (wF k) (wN k) 1 i = some (h, k)) ∧ (¬ (∀ i', i ≤ i' → i' < wN k → wC (wF k + i') = B (s + i') % 256) → Mo_wordAt_9 h 94 s e k (wF k) (wN k) 1 i = Mo_wordAt_1 h 94 s e (k + 1) (wF (k + 1))) := by
  intro m
  obtain ⟨a, b, c, d, f⟩ := id t
  obtain ⟨v1, v2, v3, v4⟩ := kWd_v k0 k1
  have nx : w32 (wF k + w32 (wN k + 1)) = wF (k + 1) := by rw [w32_i (x := wN k + 1) (by omega) (by omega), w32_i (by omega) (by omega)]; omega
  have no : ∀ i, 0 ≤ i → Mo_wordAt_9 h 94 s e k (wF k) (wN k) 0 i = Mo_wordAt_1 h 94 s e (k + 1) (wF (k + 1)) := by
    intro i i0
    rw [Mo_wordAt_9_e, nx, w32_i (x := k + 1) (by omega) (by omega)]
    by_cases q : wN k ≤ i
    · rw [if_pos q, if_pos rfl]
    · rw [if_neg q, if_pos rfl, if_pos rfl]
  induction m with
  | zero =>
    intro i i0 hi
    refine ⟨fun _ => ?_, fun q => absurd (fun i' x y => by omega) q⟩
    rw [Mo_wordAt_9_e, if_pos (by omega), if_neg (by omega)]
  | succ m ih =>
    intro i i0 hi
    obtain ⟨g1, g2⟩ := ih (i + 1) (by omega) (by omega)
    have w := b (wF k + i) (by omega) (by omega)
    have fb := f (s + i) (by omega) (by omega)
    have ew : wds_.getD (wF k + i).toNat 0 = wC (wF k + i) := rfl
    rw [ew] at w
    rw [Mo_wordAt_9_e, if_neg (by omega), if_neg (c := (1 : Int) = 0) (by omega)]
    simp only [mr3 a, ml96 a, mr0 a, ml95 a]
    rw [w32_i (x := wF k + i) (by omega) (by omega), w32_i (x := s + i) (by omega) (by omega), ck_t (by omega), ck_t (by omega), ck_t (by omega), ck_t (by omega), ck_t (by omega), ck_t (by omega), w, fb.1, w32_i (x := i + 1) (by omega) (by omega)]
    by_cases q : wC (wF k + i) = B (s + i) % 256
    · rw [if_neg (fun z => z q)]
      refine ⟨fun z => g1 (fun i' x y => z i' (by omega) y), fun z => g2 (fun y => z (fun i' x1 x2 => ?_))⟩
      by_cases r : i' = i
      · rw [r]; exact q
      · exact y i' (by omega) x2
    · rw [if_pos q]
      exact ⟨fun z => absurd (z i (Int.le_refl _) (by omega)) q, fun _ => no (i + 1) (by omega)⟩
/-- the same letters, the same number -/
theorem wd_m {s k : Int} (s0 : 0 ≤ s) (s1 : s < n) (bb : ∀ k, 0 ≤ k → k < n → -128 ≤ B k ∧ B k < 128) (l : isL B s = true) (k0 : 0 ≤ k) (k1 : k < 20) : (wN k = we_ B n s - s ∧ ∀ i', 0 ≤ i' → i' < wN k → wC (wF k + i') = B (s + i') % 256) ↔ (we_ B n s - s ≤ 6 ∧ wd_v B n s = lA (ciw_ k)) := by
  obtain ⟨v1, v2, v3, v4⟩ := kWd_v k0 k1
  have ck : 0 ≤ ciw_ k ∧ ciw_ k < 20 := by unfold ciw_; split <;> (try split) <;> omega
  have lv := (kWd_v ck.1 ck.2).1
  obtain ⟨d0, d1⟩ := wd_d (B := B) (n := n) (s := s) (by omega)
  have wv := we_v s1 l
  have let1 : ∀ i, 0 ≤ i → i < we_ B n s - s → 97 ≤ B (s + i) ∧ B (s + i) ≤ 122 := fun i a b => by
    have := (fe_v (P := isL B) (n := n) (n - s).toNat s (by omega)).2.2.1 (s + i) (by omega) (by unfold we_ at b; omega)
    exact isL_t.mp this
  constructor
  · intro ⟨e1, e2⟩
    refine ⟨by omega, dg_eq d0.1 d0.2 lv.2.2.2.2.2.2.1 lv.2.2.2.2.2.2.2 (fun i i0 i1 => ?_)⟩
    rw [d1 i i0 i1]
    by_cases q : i < we_ B n s - s
    · have z := e2 i i0 (by omega)
      have y := (v2 i i0 (by omega)).2.1
      have x := let1 i i0 q
      rw [if_pos q]
      omega
    · rw [if_neg q, v3 i (by omega) i1]
  · intro ⟨e1, e2⟩
    have ed : ∀ i, 0 ≤ i → i < 6 → dg_ (lA (ciw_ k)) i = if i < we_ B n s - s then B (s + i) - 96 else 0 := fun i i0 i1 => by rw [← e2]; exact d1 i i0 i1
    have el : wN k = we_ B n s - s := by
      rcases Int.lt_trichotomy (wN k) (we_ B n s - s) with q | q | q
      · have y := ed (wN k) (by omega) (by omega)
        rw [v3 (wN k) (Int.le_refl _) (by omega), if_pos q] at y
        have := let1 (wN k) (by omega) q
        omega
      · exact q
      · have y := ed (we_ B n s - s) (by omega) (by omega)
        rw [if_neg (by omega)] at y
        have := (v2 (we_ B n s - s) (by omega) q).2.2.1
        omega
    refine ⟨el, fun i i0 i1 => ?_⟩
    have y := ed i i0 (by omega)
    rw [if_pos (by omega)] at y
    have := (v2 i i0 i1).2.1
    have x := let1 i i0 (by omega)
    omega
/-- which word of the reference's language; -1: none -/
def mwd_ (B : Int → Int) (n s : Int) : Int := if we_ B n s - s ≤ 6 ∧ 0 ≤ fx_ lA (wd_v B n s) 20 0 then ciw_ (fx_ lA (wd_v B n s) 20 0) else -1
theorem ciw_i {k : Int} : ciw_ (ciw_ k) = k := by
  unfold ciw_
  split <;> (try split) <;> (try split) <;> (try split) <;> omega
theorem Mo_wa_1 {h : am_H} {p s : Int} (t : MTk h B n p) (s0 : 0 ≤ s) (s1 : s < n) (l : isL B s = true) : ∀ (m : Nat) (k : Int), 0 ≤ k → k + m = 20 → (∀ j, 0 ≤ j → j < k → ¬ (we_ B n s - s ≤ 6 ∧ wd_v B n s = lA (ciw_ j))) → Mo_wordAt_1 h 94 s (we_ B n s) k (wF k) = some (h, mwd_ B n s) := by
  intro m
  obtain ⟨a, b, c, d, f⟩ := id t
  have wv := we_v s1 l
  have bb : ∀ k, 0 ≤ k → k < n → -128 ≤ B k ∧ B k < 128 := fun k x y => (f k x y).2
  have fxv := fx_v (P := lA) (c := wd_v B n s) 20 0
  induction m with
  | zero =>
    intro k k0 hk no
    have ek : k = 20 := by omega
    subst ek
    have w20 : wF 20 = 104 := by decide +kernel
    rw [Mo_wordAt_1_e]
    simp only [mr3 a, ml96 a]
    rw [ck_t (by omega), ck_t (by omega), w20, if_pos (by omega)]
    unfold mwd_
    rw [if_neg (fun q => by
      rcases fxv with ⟨x, _⟩ | ⟨x, y, z⟩
      · omega
      · have hc : 0 ≤ ciw_ (fx_ lA (wd_v B n s) 20 0) ∧ ciw_ (fx_ lA (wd_v B n s) 20 0) < 20 := by unfold ciw_; split <;> (try split) <;> omega
        exact no (ciw_ (fx_ lA (wd_v B n s) 20 0)) hc.1 hc.2 ⟨q.1, by rw [ciw_i]; exact z.symm⟩)]
  | succ m ih =>
    intro k k0 hk no
    obtain ⟨v1, v2, v3, v4⟩ := kWd_v k0 (by omega)
    have wm := wd_m s0 s1 bb l k0 (by omega : k < 20)
    have nx : ¬ (we_ B n s - s ≤ 6 ∧ wd_v B n s = lA (ciw_ k)) → Mo_wordAt_1 h 94 s (we_ B n s) (k + 1) (wF (k + 1)) = some (h, mwd_ B n s) := fun q => ih (k + 1) (by omega) (by omega) (fun j x y => by
      by_cases e : j = k
      · rw [e]; exact q
      · exact no j x (by omega))
    rw [Mo_wordAt_1_e]
    simp only [mr3 a, ml96 a]
    rw [ck_t (by omega), ck_t (by omega), if_neg (by omega), Mo_wa_3 t k0 (by omega) (wN k).toNat 0 (by omega) (by omega), w32_i (x := we_ B n s - s) (by omega) (by omega)]
    by_cases q : wN k = we_ B n s - s
    · rw [if_neg (fun z => z q)]
      obtain ⟨g1, g2⟩ := Mo_wa_9 t s0 wv.2 k0 (by omega) q (wN k).toNat 0 (by omega) (by omega)
      by_cases r : ∀ i', 0 ≤ i' → i' < wN k → wC (wF k + i') = B (s + i') % 256
      · rw [g1 r]
        have ok := wm.mp ⟨q, r⟩
        unfold mwd_
        have ck : 0 ≤ ciw_ k ∧ ciw_ k < 20 := by unfold ciw_; split <;> (try split) <;> omega
        have ei : fx_ lA (wd_v B n s) 20 0 = ciw_ k := by
          rcases fxv with ⟨x, y⟩ | ⟨x, y, z⟩
          · exact absurd ok.2.symm (y (ciw_ k) ck.1 (by omega))
          · rcases Int.lt_trichotomy (fx_ lA (wd_v B n s) 20 0) (ciw_ k) with w | w | w
            · exact absurd (by rw [z, ok.2]) ((kWd_v ck.1 ck.2).2.2.2 _ x w)
            · exact w
            · exact absurd (by rw [z, ok.2]) ((kWd_v x (by omega)).2.2.2 _ ck.1 w)
        rw [ei, if_pos ⟨ok.1, ck.1⟩, ciw_i]
      · rw [g2 r]
        exact nx (fun z => r (wm.mpr z).2)
    · rw [if_pos q, Mo_wordAt_9_e, w32_i (x := wN k + 1) (by omega) (by omega), w32_i (x := wF k + (wN k + 1)) (by omega) (by omega), w32_i (x := k + 1) (by omega) (by omega), show wF k + (wN k + 1) = wF (k + 1) by omega, if_neg (by omega), if_pos rfl, if_pos rfl]
      exact nx (fun z => q (wm.mpr z).1)
theorem Mo_wordAt_s {h : am_H} {p s : Int} (t : MTk h B n p) (s0 : 0 ≤ s) (s1 : s < n) (l : isL B s = true) : Mo_wordAt h 94 s (we_ B n s) = some (h, mwd_ B n s) := by
  have := Mo_wa_1 t s0 s1 l 20 0 (by omega) (by omega) (fun j x y => by omega)
  rw [Mo_wordAt_e]
  exact this
end
