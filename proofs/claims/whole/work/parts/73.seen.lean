/-! what was seen. Q 0: behind how many minutes (-1: a strike), Q 1: pile (which one is struck), Q 2: size, Q 3: whether it was so; Q 4: 0 how many, 1 known by -/
def kw_ (Q : Tx) : Int := if Q 4 1 = -1 then Q 4 0 else Q 4 1
def QV (T Q : Tx) : Prop := (0 ≤ Q 4 0 ∧ Q 4 0 ≤ 24 ∧ -1 ≤ Q 4 1 ∧ Q 4 1 ≤ Q 4 0) ∧ ∀ i, 0 ≤ i → i < Q 4 0 → (Q 0 i = -1 ∧ 0 ≤ Q 1 i ∧ Q 1 i < i) ∨ (1 ≤ Q 0 i ∧ Q 0 i ≤ 60 ∧ 0 ≤ Q 1 i ∧ Q 1 i < T 0 1 ∧ 1 ≤ Q 2 i ∧ Q 2 i ≤ 99 ∧ (Q 3 i = 0 ∨ Q 3 i = 1))
def SE (h : am_H) (Q : Tx) : Prop := rd_ h 83 6 = Q 4 0 ∧ rd_ h 83 7 = Q 4 1 ∧ ∀ i, 0 ≤ i → i < Q 4 0 → (Q 0 i = -1 → rd_ h 84 i = 0 ∧ rd_ h 88 i = Q 1 i) ∧ (Q 0 i ≠ -1 → rd_ h 84 i = Q 0 i ∧ rd_ h 85 i = Q 1 i ∧ rd_ h 86 i = Q 2 i ∧ rd_ h 87 i = Q 3 i ∧ rd_ h 88 i = -1)
theorem SE_R {h h' : am_H} {Q : Tx} (g : SE h Q) (R : ∀ a, 83 ≤ a → a ≤ 88 → ∀ k, rd_ h' a k = rd_ h a k) : SE h' Q := by
  obtain ⟨a, b, c⟩ := g
  refine ⟨by rw [R 83 (by omega) (by omega)]; exact a, by rw [R 83 (by omega) (by omega)]; exact b, ?_⟩
  intro i p q
  rw [R 84 (by omega) (by omega), R 85 (by omega) (by omega), R 86 (by omega) (by omega), R 87 (by omega) (by omega), R 88 (by omega) (by omega)]
  exact c i p q
theorem kw_b {T Q : Tx} (v : QV T Q) : 0 ≤ kw_ Q ∧ kw_ Q ≤ Q 4 0 ∧ kw_ Q ≤ 24 := by
  have := v.1
  unfold kw_
  split <;> omega
/-- which count -/
def cq_ (Q : Tx) (i : Int) (c : Int → Int) : Int → Int := if c i = 0 then c else if Q 0 i = -1 then (fun j => if j = Q 1 i then 0 else c j) else c
def cw_ (Q : Tx) : Nat → (Int → Int) → Int → Int
  | 0, c => c
  | n + 1, c => cw_ Q n (cq_ Q n c)
def ct_w (Q : Tx) : Int → Int := cw_ Q (kw_ Q).toNat (fun _ => 1)
theorem cq_01 (Q : Tx) (i : Int) {c : Int → Int} (h : ∀ j, c j = 0 ∨ c j = 1) : ∀ j, cq_ Q i c j = 0 ∨ cq_ Q i c j = 1 := by
  intro j
  unfold cq_
  split
  · exact h j
  · split
    · dsimp only
      split
      · exact Or.inl rfl
      · exact h j
    · exact h j
theorem cw_01 (Q : Tx) : ∀ (n : Nat) (c : Int → Int), (∀ j, c j = 0 ∨ c j = 1) → ∀ j, cw_ Q n c j = 0 ∨ cw_ Q n c j = 1 := by
  intro n
  induction n with
  | zero => intro c h; exact h
  | succ n ih => intro c h; exact ih _ (cq_01 Q n h)
theorem ct_01 (Q : Tx) (j : Int) : ct_w Q j = 0 ∨ ct_w Q j = 1 := cw_01 Q _ _ (fun _ => Or.inr rfl) j
/-- whether all that count are so behind n minutes -/
def ao_ (T W Q : Tx) (n i : Int) : Bool := if ct_w Q i = 0 then true else if Q 0 i = n then decide ((Zs T W (Q 1 i) 0 = Q 2 i ∧ Q 3 i = 1) ∨ (Zs T W (Q 1 i) 0 ≠ Q 2 i ∧ Q 3 i = 0)) else true
def ag_ (T W Q : Tx) (n : Int) : Bool := av_ (ao_ T W Q n) (kw_ Q).toNat 0
section
variable {h : am_H} {T Q : Tx}
theorem Se_knownBy_s (g : SE h Q) : Se_knownBy h 83 = some (h, kw_ Q) := by
  rw [Se_knownBy_e]
  simp only [g.1, g.2.1]
  repeat rw [ck_t (by omega)]
  unfold kw_
  by_cases c : Q 4 1 = -1
  · rw [if_neg (by omega), if_pos c]
    repeat rw [ck_t (by omega)]
  · rw [if_pos c, if_neg c]
    repeat rw [ck_t (by omega)]
theorem Se_weigh_lp1 (s : ShC h) {N : Int} (hN : N ≤ 24) : ∀ (n : Nat) (k : Int) (h : am_H), ShC h → 0 ≤ k → k + n = N → ∃ h', Se_weigh_1 h 83 N k = Se_weigh_4 h' 83 (N - 1) ∧ fr_ h h' (fun a => a = 89) ∧ ∀ x, rd_ h' 89 x = if k ≤ x ∧ x < N then 1 else rd_ h 89 x := by
  intro n
  induction n with
  | zero =>
    intro k h s hk hn
    refine ⟨h, ?_, fr_refl _ _, fun x => by rw [if_neg (by omega)]⟩
    rw [Se_weigh_1_e, if_pos (by omega), w32_i (by omega) (by omega)]
  | succ n ih =>
    intro k h s hk hn
    rw [Se_weigh_1_e]
    try simp only [cr83_5 s, cl89 s]
    rw [if_neg (by omega), w32_i (x := k + 1) (by omega) (by omega)]
    repeat rw [ck_t (by omega)]
    obtain ⟨h', e1, e2, e3⟩ := ih (k + 1) (wr_ h 89 k 1) (ShC_of rfl s) (by omega) (by omega)
    refine ⟨h', e1, fr_tr (fr_wr rfl) e2, ?_⟩
    intro x
    rw [e3, rd_wa]
    repeat' split
    all_goals first | rfl | omega
theorem Se_weigh_lp2 (v : QV T Q) : ∀ (n : Nat) (c : Int → Int) (h : am_H), ShC h → SE h Q → (n : Int) ≤ kw_ Q → (∀ j, 0 ≤ j → j < kw_ Q → rd_ h 89 j = c j) → ∃ h', Se_weigh_4 h 83 ((n : Int) - 1) = some (h', 0) ∧ fr_ h h' (fun a => a = 89) ∧ ∀ j, 0 ≤ j → j < kw_ Q → rd_ h' 89 j = cw_ Q n c j := by
  have kb := kw_b v
  intro n
  induction n with
  | zero =>
    intro c h s g hn hc
    refine ⟨h, ?_, fr_refl _ _, hc⟩
    rw [Se_weigh_4_e, if_pos (by omega)]
  | succ n ih =>
    intro c h s g hn hc
    have qi := v.2 n (by omega) (by omega)
    have gi := g.2.2 n (by omega) (by omega)
    have ci := hc n (by omega) (by omega)
    rw [Se_weigh_4_e]
    try simp only [cr83_4 s, cl88 s, cr83_5 s, cl89 s]
    rw [show ((n + 1 : Nat) : Int) - 1 = (n : Int) by omega]
    rw [if_neg (by omega), w32_i (x := (n : Int) + -1) (by omega) (by omega), ci, show (n : Int) + -1 = (n : Int) - 1 by omega]
    repeat rw [ck_t (by omega)]
    show ∃ h', _ ∧ _ ∧ ∀ j, 0 ≤ j → j < kw_ Q → rd_ h' 89 j = cw_ Q n (cq_ Q n c) j
    unfold cq_
    by_cases c1 : c n = 0
    · rw [if_pos c1, if_pos c1]
      exact ih c h s g (by omega) hc
    · rw [if_neg c1, if_neg c1]
      repeat rw [ck_t (by omega)]
      by_cases c2 : Q 0 n = -1
      · rw [(gi.1 c2).2, if_neg (by omega), if_pos c2]
        repeat rw [ck_t (by omega)]
        obtain ⟨h', e1, e2, e3⟩ := ih (fun j => if j = Q 1 n then 0 else c j) (wr_ h 89 (Q 1 n) 0) (ShC_of rfl s) (SE_R g (fun a p q k => rd_wo (by omega))) (by omega) (by
          intro j p q
          rw [rd_wa]
          split
          · rfl
          · exact hc j p q)
        exact ⟨h', e1, fr_tr (fr_wr rfl) e2, e3⟩
      · rw [(gi.2 c2).2.2.2.2, if_pos (by omega), if_neg c2]
        exact ih c h s g (by omega) hc
theorem Se_weigh_s (s : ShC h) (g : SE h Q) (v : QV T Q) : ∃ h', Se_weigh h 83 = some (h', 0) ∧ fr_ h h' (fun a => a = 89) ∧ ∀ j, 0 ≤ j → j < kw_ Q → rd_ h' 89 j = ct_w Q j := by
  have kb := kw_b v
  obtain ⟨ha, a1, a2, a3⟩ := Se_weigh_lp1 s (N := kw_ Q) (by omega) (kw_ Q).toNat 0 h s (by omega) (by omega)
  obtain ⟨hb, b1, b2, b3⟩ := Se_weigh_lp2 v (kw_ Q).toNat (fun _ => 1) ha (ShC_of a2.1 s) (SE_R g (fun a p q k => a2.2 a (by omega) k)) (by omega) (by
    intro j p q
    rw [a3, if_pos ⟨p, q⟩])
  refine ⟨hb, ?_, fr_tr a2 b2, b3⟩
  rw [Se_weigh_e, ck_t (by omega), Se_knownBy_s g, bd_v, a1, ← b1, show (((kw_ Q).toNat : Nat) : Int) = kw_ Q by omega]
/-- the longest that counts -/
def lg_ (Q : Tx) : Int := fo_ (fun i m => if ct_w Q i = 0 then m else if m < (if Q 0 i = -1 then 0 else Q 0 i) then (if Q 0 i = -1 then 0 else Q 0 i) else m) (kw_ Q).toNat 0 0
theorem Se_longest_s (s : ShC h) (g : SE h Q) (v : QV T Q) (hc : ∀ j, 0 ≤ j → j < kw_ Q → rd_ h 89 j = ct_w Q j) : Se_longest h 83 = some (h, lg_ Q) := by
  have kb := kw_b v
  rw [Se_longest_e]
  refine (fo_l0 (L := Se_longest_1 h 83) (f := fun i m => if ct_w Q i = 0 then m else if m < (if Q 0 i = -1 then 0 else Q 0 i) then (if Q 0 i = -1 then 0 else Q 0 i) else m) (I := fun k m => 0 ≤ k) (N := kw_ Q) (by omega) ?_ (by omega)).trans ?_
  · intro k m hk hi
    refine ⟨?_, by omega⟩
    have gi := g.2.2 k hi (by omega)
    rw [Se_longest_1_e, ck_t (by omega), Se_knownBy_s g, bd_v]
    simp only [cr83_5 s, cl89 s, cr83_0 s, cl84 s, hc k hi hk]
    have e84 : rd_ h 84 k = if Q 0 k = -1 then 0 else Q 0 k := by
      by_cases c : Q 0 k = -1
      · rw [if_pos c]; exact (gi.1 c).1
      · rw [if_neg c]; exact (gi.2 c).1
    rw [if_neg (by omega), e84, w32_i (by omega) (by omega)]
    repeat rw [ck_t (by omega)]
    by_cases c : ct_w Q k = 0
    · rw [if_pos c, if_pos c]
    · rw [if_neg c, if_neg c]
      repeat rw [ck_t (by omega)]
  · rw [Se_longest_1_e, ck_t (by omega), Se_knownBy_s g, bd_v, if_pos (by omega)]
    rfl
theorem Se_agrees_s {w : Int} {W : Tx} (s : ShC h) (g : SE h Q) (v : QV T Q) (hc : ∀ j, 0 ≤ j → j < kw_ Q → rd_ h 89 j = ct_w Q j) (o : WO h w T W) (wv : WV T W) {n : Int} (hn : 1 ≤ n) : Se_agrees h 83 w n = some (h, bz (ag_ T W Q n)) := by
  have kb := kw_b v
  have w0 := o.1.1
  rw [Se_agrees_e, av_lp (L := Se_agrees_1 h 83 w n) (P := ao_ T W Q n) (N := kw_ Q) (k0 := 0) (yes := some (h, 1)) (no := some (h, 0)) ?_ ?_ (kw_ Q).toNat 0 (by omega) (by omega), bz_so]
  · rfl
  · intro k hk hN
    have gi := g.2.2 k hk (by omega)
    have qi := v.2 k hk (by omega)
    rw [Se_agrees_1_e, ck_t (by omega), Se_knownBy_s g, bd_v]
    simp only [Se_agrees_7_e, cr83_5 s, cl89 s, cr83_4 s, cl88 s, cr83_0 s, cl84 s, cr83_1 s, cl85 s, cr83_2 s, cl86 s, cr83_3 s, cl87 s, hc k hk hN, Wo_sizeAt_s o wv, bd_v]
    rw [if_neg (by omega), w32_i (by omega) (by omega)]
    repeat rw [ck_t (by omega)]
    unfold ao_
    by_cases c1 : ct_w Q k = 0
    · rw [if_pos c1, if_pos c1, if_pos rfl, if_pos trivial]
    · rw [if_neg c1, if_neg c1]
      repeat rw [ck_t (by omega)]
      by_cases c2 : Q 0 k = -1
      · rw [(gi.1 c2).2, if_pos (by omega), if_neg (c := Q 0 k = n) (by omega), if_pos rfl, if_pos trivial]
      · obtain ⟨g1, g2, g3, g4, g5⟩ := gi.2 c2
        rw [g1, g2, g3, g4, g5, if_neg (by omega)]
        repeat rw [ck_t (by omega)]
        by_cases c3 : Q 0 k = n
        · rw [if_neg (by omega), if_pos c3, if_neg (by omega)]
          repeat rw [ck_t (by omega)]
          by_cases c4 : Zs T W (Q 1 k) 0 = Q 2 k
          · rw [if_neg (by omega)]
            repeat rw [ck_t (by omega)]
            by_cases c5 : Q 3 k = 1
            · rw [if_pos (by omega), if_pos (decide_eq_true (Or.inl ⟨c4, c5⟩))]
            · rw [if_neg (by omega), if_neg (by rw [decide_eq_false (by omega)]; decide)]
          · rw [if_pos c4]
            repeat rw [ck_t (by omega)]
            by_cases c5 : Q 3 k = 0
            · rw [if_pos (by omega), if_pos (decide_eq_true (Or.inr ⟨c4, c5⟩))]
            · rw [if_neg (by omega), if_neg (by rw [decide_eq_false (by omega)]; decide)]
        · rw [if_pos c3, if_neg c3, if_pos rfl, if_pos trivial]
  · rw [Se_agrees_1_e, ck_t (by omega), Se_knownBy_s g, bd_v, if_pos (by omega)]
end
