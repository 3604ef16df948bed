/-! what was seen, in the reference -/
def QM (h : am_H) (Q : Tx) : Prop := rd_ h 94 80 = Q 4 0 ∧ rd_ h 94 81 = Q 4 1 ∧ ∀ i, 0 ≤ i → i < Q 4 0 → rd_ h 135 (4 * i) = Q 0 i ∧ rd_ h 135 (4 * i + 1) = Q 1 i ∧ (Q 0 i ≠ -1 → rd_ h 135 (4 * i + 2) = Q 2 i ∧ rd_ h 135 (4 * i + 3) = Q 3 i)
theorem QM_fz {h h' : am_H} {Q : Tx} {A F : Int → Prop} (g : QM h Q) (x : fz_ h h' A F) (n : ¬ A 135) (n0 : ¬ F 80) (n1 : ¬ F 81) : QM h' Q := by
  obtain ⟨a, b, c⟩ := g
  refine ⟨by rw [x.2.2 80 n0]; exact a, by rw [x.2.2 81 n1]; exact b, ?_⟩
  intro i p q
  rw [x.2.1 135 n (by omega), x.2.1 135 n (by omega), x.2.1 135 n (by omega), x.2.1 135 n (by omega)]
  exact c i p q
section
variable {h : am_H} {T Q : Tx}
theorem Mo_knownBy_s (g : QM h Q) (v : QV T Q) : Mo_knownBy h 94 = some (h, kw_ Q) := by
  have v0 := v.1
  rw [Mo_knownBy_e]
  simp only [g.1, g.2.1]
  repeat rw [ck_t (by omega)]
  unfold kw_
  by_cases c : Q 4 1 = -1
  · rw [if_neg (by omega), if_pos c]
    repeat rw [ck_t (by omega)]
  · rw [if_pos (by omega), if_neg c]
    repeat rw [ck_t (by omega)]
theorem Mo_weigh_lp1 {t : Int} (v : QV T Q) : ∀ (n : Nat) (k : Int) (h : am_H), ShM h → QM h Q → 0 ≤ k → k + n = kw_ Q → ∃ h', Mo_deepBits_1 h 94 t k = Mo_deepBits_4 h' 94 t (kw_ Q - 1) ∧ fr_ h h' (fun a => a = 136) ∧ ∀ x, rd_ h' 136 x = if k ≤ x ∧ x < kw_ Q then 1 else rd_ h 136 x := by
  have kb := kw_b v
  intro n
  induction n with
  | zero =>
    intro k h s g hk hn
    refine ⟨h, ?_, fr_refl _ _, fun x => by rw [if_neg (by omega)]⟩
    rw [Mo_deepBits_1_e, ck_t (by omega), Mo_knownBy_s g v, bd_v, if_pos (by omega), ck_t (by omega), Mo_knownBy_s g v, bd_v, w32_i (by omega) (by omega)]
  | succ n ih =>
    intro k h s g hk hn
    rw [Mo_deepBits_1_e, ck_t (by omega), Mo_knownBy_s g v, bd_v, if_neg (by omega)]
    simp only [mr83 s, ml136 s]
    rw [w32_i (x := k + 1) (by omega) (by omega)]
    repeat rw [ck_t (by omega)]
    obtain ⟨h', e1, e2, e3⟩ := ih (k + 1) (wr_ h 136 k 1) (ShM_of rfl s) (QM_fz g (fz_wr (A := fun a => a = 136) (F := fun _ => False) rfl (by omega)) (by omega) (fun q => q) (fun q => q)) (by omega) (by omega)
    refine ⟨h', e1, fr_tr (fr_wr rfl) e2, ?_⟩
    intro x
    rw [e3, rd_wa]
    repeat' split
    all_goals first | rfl | omega
theorem Mo_weigh_lp2 {t : Int} (v : QV T Q) : ∀ (n : Nat) (c : Int → Int) (h : am_H), ShM h → QM h Q → (n : Int) ≤ kw_ Q → (∀ j, 0 ≤ j → j < kw_ Q → rd_ h 136 j = c j) → ∃ h', Mo_deepBits_4 h 94 t ((n : Int) - 1) = Mo_deepBits_10 h' 94 t 0 1 ∧ fr_ h h' (fun a => a = 136) ∧ ∀ j, 0 ≤ j → j < kw_ Q → rd_ h' 136 j = cw_ Q n c j := by
  have kb := kw_b v
  intro n
  induction n with
  | zero =>
    intro c h s g hn hc
    refine ⟨h, ?_, fr_refl _ _, hc⟩
    rw [Mo_deepBits_4_e, if_pos (by omega)]
  | succ n ih =>
    intro c h s g hn hc
    have qi := v.2 n (by omega) (by omega)
    have gi := g.2.2 n (by omega) (by omega)
    have ci := hc n (by omega) (by omega)
    rw [Mo_deepBits_4_e]
    try simp only [mr82 s, ml135 s, mr83 s, ml136 s]
    rw [show ((n + 1 : Nat) : Int) - 1 = (n : Int) by omega]
    simp (disch := omega) only [w32_i]
    rw [if_neg (by omega), ci, gi.1, gi.2.1, show (n : Int) + -1 = (n : Int) - 1 by omega]
    repeat rw [ck_t (by omega)]
    show ∃ h', _ ∧ _ ∧ ∀ j, 0 ≤ j → j < kw_ Q → rd_ h' 136 j = cw_ Q n (cq_ Q n c) j
    unfold cq_
    by_cases c1 : c n = 0
    · rw [if_pos c1, if_pos c1]
      exact ih c h s g (by omega) hc
    · rw [if_neg c1, if_neg c1]
      repeat rw [ck_t (by omega)]
      by_cases c2 : Q 0 n = -1
      · rw [if_neg (by omega), if_pos c2]
        repeat rw [ck_t (by omega)]
        obtain ⟨h', e1, e2, e3⟩ := ih (fun j => if j = Q 1 n then 0 else c j) (wr_ h 136 (Q 1 n) 0) (ShM_of rfl s) (QM_fz g (fz_wr (A := fun a => a = 136) (F := fun _ => False) rfl (by omega)) (by omega) (fun q => q) (fun q => q)) (by omega) (by
          intro j p q
          rw [rd_wa]
          split
          · rfl
          · exact hc j p q)
        exact ⟨h', e1, fr_tr (fr_wr rfl) e2, e3⟩
      · rw [if_pos (by omega), if_neg c2]
        exact ih c h s g (by omega) hc
theorem Mo_weigh_s {t : Int} (s : ShM h) (g : QM h Q) (v : QV T Q) : ∃ h', Mo_deepBits h 94 t = Mo_deepBits_10 h' 94 t 0 1 ∧ fr_ h h' (fun a => a = 136) ∧ ∀ j, 0 ≤ j → j < kw_ Q → rd_ h' 136 j = ct_w Q j := by
  have kb := kw_b v
  obtain ⟨ha, a1, a2, a3⟩ := Mo_weigh_lp1 (t := t) v (kw_ Q).toNat 0 h s g (by omega) (by omega)
  obtain ⟨hb, b1, b2, b3⟩ := Mo_weigh_lp2 (t := t) v (kw_ Q).toNat (fun _ => 1) ha (ShM_of a2.1 s) (QM_fz g (fz_fr (A := fun a => a = 136) (F := fun _ => False) a2 (fun _ q => q) (by omega)) (by omega) (fun q => q) (fun q => q)) (by omega) (by
    intro j p q
    rw [a3, if_pos ⟨p, q⟩])
  refine ⟨hb, ?_, fr_tr a2 b2, b3⟩
  rw [Mo_deepBits_e, a1, ← b1, show (((kw_ Q).toNat : Nat) : Int) = kw_ Q by omega]
theorem Mo_isSo_s {W : Tx} (s : ShM h) (t : MT h T) (g : QM h Q) (v : QV T Q) (hc : ∀ j, 0 ≤ j → j < kw_ Q → rd_ h 136 j = ct_w Q j) (o : MW h 1 T W) (wv : WV T W) {n : Int} (hn : 1 ≤ n) : Mo_isSo h 94 n = some (h, bz (ag_ T W Q n)) := by
  have kb := kw_b v
  rw [Mo_isSo_e, av_lp (L := Mo_isSo_1 h 94 n) (P := ao_ T W Q n) (N := kw_ Q) (k0 := 0) (yes := some (h, 1)) (no := some (h, 0)) ?_ ?_ (kw_ Q).toNat 0 (by omega) (by omega), bz_so]
  · rfl
  · intro k hk hN
    have gi := g.2.2 k hk (by omega)
    have qi := v.2 k hk (by omega)
    rw [Mo_isSo_1_e, ck_t (by omega), Mo_knownBy_s g v, bd_v]
    simp only [mr83 s, ml136 s, mr82 s, ml135 s, hc k hk hN]
    simp (disch := omega) only [w32_i]
    rw [if_neg (by omega), gi.1, gi.2.1]
    repeat rw [ck_t (by omega)]
    unfold ao_
    by_cases c1 : ct_w Q k = 0
    · rw [if_pos c1, if_pos c1, if_pos rfl]
    · rw [if_neg c1, if_neg c1]
      repeat rw [ck_t (by omega)]
      by_cases c3 : Q 0 k = n
      · obtain ⟨g3, g4⟩ := gi.2.2 (by omega)
        rw [if_pos c3, if_pos c3, Mo_sizeAt_s s t o wv (by omega) (by omega)]
        simp only [Mo_isSo_8_e, bd_v, mr82 s, ml135 s]
        simp (disch := omega) only [w32_i]
        rw [g3, g4]
        repeat rw [ck_t (by omega)]
        by_cases c4 : Zs T W (Q 1 k) 0 = Q 2 k
        · rw [if_neg (by omega)]
          repeat rw [ck_t (by omega)]
          by_cases c5 : Q 3 k = 1
          · rw [if_neg (by omega), if_pos (by first | trivial | omega), if_pos (decide_eq_true (Or.inl ⟨c4, c5⟩))]
          · rw [if_pos c5, if_neg (by omega), if_neg (by rw [decide_eq_false (by omega)]; decide)]
        · rw [if_pos c4]
          repeat rw [ck_t (by omega)]
          by_cases c5 : Q 3 k = 0
          · rw [if_pos (by omega), if_pos (by first | trivial | omega), if_pos (decide_eq_true (Or.inr ⟨c4, c5⟩))]
          · rw [if_neg (by omega), if_neg (by omega), if_neg (by rw [decide_eq_false (by omega)]; decide)]
      · rw [if_neg c3, if_neg c3, if_pos rfl]
  · rw [Mo_isSo_1_e, ck_t (by omega), Mo_knownBy_s g v, bd_v, if_pos (by omega)]
end
