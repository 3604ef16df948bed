/-! ask, in the reference -/
section
variable {h : am_H} {T Q : Tx}
theorem Mo_isOf_db (h : am_H) (T Q : Tx) (i : Int) {k : Int} (p : 0 ≤ k) (q : k < 5) : Mo_isOf h (db_ T Q i) k = some (h, bz (ft_ T Q i (k + 1))) := by
  have e := db_t T Q i (x := k + 1) (by omega) (by omega)
  rw [show k + 1 - 1 = k by omega, w32_i (by omega) (by omega)] at e
  rw [Mo_isOf_e, e]
  cases ft_ T Q i (k + 1) <;> rfl
/-- the answers of all depths -/
def Am (h : am_H) (T : Tx) (i n : Int) (d : Int) : Prop := ∀ k pl, 0 ≤ k → k < d → 0 ≤ pl → pl < 5 → rd_ h 137 (5 * k + pl) = Zs T (dW T i (k + 1) n) (T 9 i) pl
theorem Mo_worst_in (s : ShM h) {i n pl k : Int} (am : Am h T i n 5) (p0 : 0 ≤ pl) (p5 : pl < 5) (k0 : 0 ≤ k) (k5 : k < 5) (m : Int) : ∀ (r : Nat) (j a : Int), 0 ≤ j → j + r = 5 → 0 ≤ a → a ≤ j →
    Mo_worstAt_3 h 94 pl (db_ T Q i) m k a j = Mo_worstAt_1 h 94 pl (db_ T Q i) (if m < a + (if ft_ T Q i (k + 1) then ca_ (Zs T (dW T i (k + 1) n) (T 9 i) pl) (sy_ (ft_ T Q i) (fun d => Zs T (dW T i d n) (T 9 i) pl) r (j + 1)) else 0) then a + (if ft_ T Q i (k + 1) then ca_ (Zs T (dW T i (k + 1) n) (T 9 i) pl) (sy_ (ft_ T Q i) (fun d => Zs T (dW T i d n) (T 9 i) pl) r (j + 1)) else 0) else m) (k + 1) := by
  intro r
  induction r with
  | zero =>
    intro j a h0 hj a0 a1
    have e : (if ft_ T Q i (k + 1) then ca_ (Zs T (dW T i (k + 1) n) (T 9 i) pl) (sy_ (ft_ T Q i) (fun d => Zs T (dW T i d n) (T 9 i) pl) 0 (j + 1)) else 0) = 0 := by split <;> rfl
    rw [e, Int.add_zero, Mo_worstAt_3_e, if_pos (by omega), w32_i (by omega) (by omega)]
    by_cases c : m < a
    · rw [if_neg (by omega), if_pos c]
    · rw [if_pos (by omega), if_neg c]
  | succ r ih =>
    intro j a h0 hj a0 a1
    rw [Mo_worstAt_3_e, if_neg (by omega), Mo_isOf_db h T Q i k0 k5, bd_v]
    simp only [Mo_isOf_db h T Q i (k := j) (by omega) (by omega), bd_v, mr84 s, ml137 s]
    simp (disch := omega) only [w32_i]
    rw [am k pl k0 k5 p0 p5, am j pl h0 (by omega) p0 p5]
    repeat rw [ck_t (by omega)]
    cases hk : ft_ T Q i (k + 1) with
    | false =>
      rw [if_pos (show bz false = 0 from rfl), Int.add_zero, ih (j + 1) a (by omega) (by omega) a0 (by omega), hk]
      rfl
    | true =>
      rw [if_neg (show ¬ bz true = 0 by decide)]
      cases hj' : ft_ T Q i (j + 1) with
      | false =>
        rw [if_pos (show bz false = 0 from rfl), Int.add_zero, ih (j + 1) a (by omega) (by omega) a0 (by omega), hk]
        have es : sy_ (ft_ T Q i) (fun d => Zs T (dW T i d n) (T 9 i) pl) (r + 1) (j + 1) = sy_ (ft_ T Q i) (fun d => Zs T (dW T i d n) (T 9 i) pl) r (j + 1 + 1) := by
          show (if ft_ T Q i (j + 1) then _ else _) = _
          rw [hj']
          rfl
        rw [es]
      | true =>
        rw [if_neg (show ¬ bz true = 0 by decide)]
        have es : sy_ (ft_ T Q i) (fun d => Zs T (dW T i d n) (T 9 i) pl) (r + 1) (j + 1) = Zs T (dW T i (j + 1) n) (T 9 i) pl :: sy_ (ft_ T Q i) (fun d => Zs T (dW T i d n) (T 9 i) pl) r (j + 1 + 1) := by
          show (if ft_ T Q i (j + 1) then _ else _) = _
          rw [hj']
          rfl
        rw [es]
        have ec : ∀ x y L, ca_ x (y :: L) = (if y = x then 1 else 0) + ca_ x L := fun _ _ _ => rfl
        rw [ec]
        by_cases c : Zs T (dW T i (k + 1) n) (T 9 i) pl = Zs T (dW T i (j + 1) n) (T 9 i) pl
        · rw [if_neg (by omega), ih (j + 1) (a + 1) (by omega) (by omega) (by omega) (by omega), hk, if_pos c.symm, if_pos rfl, if_pos rfl, show ∀ z : Int, a + 1 + z = a + (1 + z) from fun z => by omega]
        · rw [if_pos c, Int.add_zero, ih (j + 1) a (by omega) (by omega) (by omega) (by omega), hk, if_neg (c := Zs T (dW T i (j + 1) n) (T 9 i) pl = Zs T (dW T i (k + 1) n) (T 9 i) pl) (fun q => c q.symm), Int.zero_add]
theorem Mo_worst_out (s : ShM h) {i n pl : Int} (am : Am h T i n 5) (p0 : 0 ≤ pl) (p5 : pl < 5) : ∀ (r : Nat) (k m : Int), 0 ≤ k → k + r = 5 → 0 ≤ m →
    Mo_worstAt_1 h 94 pl (db_ T Q i) m k = some (h, mx_ (sy_ (ft_ T Q i) (fun d => Zs T (dW T i d n) (T 9 i) pl) 5 1) (sy_ (ft_ T Q i) (fun d => Zs T (dW T i d n) (T 9 i) pl) r (k + 1)) m) := by
  intro r
  induction r with
  | zero =>
    intro k m h0 hk hm
    rw [Mo_worstAt_1_e, if_pos (by omega)]
    rfl
  | succ r ih =>
    intro k m h0 hk hm
    rw [Mo_worstAt_1_e, if_neg (by omega), Mo_worst_in s am p0 p5 h0 (by omega) m 5 0 0 (by omega) (by omega) (by omega) (by omega), Int.zero_add]
    cases hf : ft_ T Q i (k + 1) with
    | false =>
      have es : sy_ (ft_ T Q i) (fun d => Zs T (dW T i d n) (T 9 i) pl) (r + 1) (k + 1) = sy_ (ft_ T Q i) (fun d => Zs T (dW T i d n) (T 9 i) pl) r (k + 1 + 1) := by
        show (if ft_ T Q i (k + 1) then _ else _) = _
        rw [hf]
        rfl
      rw [es, if_neg (show ¬ m < (if false = true then _ else (0 : Int)) by simp; omega), ih (k + 1) m (by omega) (by omega) hm]
    | true =>
      have es : sy_ (ft_ T Q i) (fun d => Zs T (dW T i d n) (T 9 i) pl) (r + 1) (k + 1) = Zs T (dW T i (k + 1) n) (T 9 i) pl :: sy_ (ft_ T Q i) (fun d => Zs T (dW T i d n) (T 9 i) pl) r (k + 1 + 1) := by
        show (if ft_ T Q i (k + 1) then _ else _) = _
        rw [hf]
        rfl
      rw [es, if_pos rfl]
      have cb := ca_b (Zs T (dW T i (k + 1) n) (T 9 i) pl) (sy_ (ft_ T Q i) (fun d => Zs T (dW T i d n) (T 9 i) pl) 5 1)
      rw [show (0 : Int) + 1 = 1 from rfl]
      rw [ih (k + 1) _ (by omega) (by omega) (by split <;> omega)]
      rfl
theorem Mo_worstAt_s (s : ShM h) {i n pl : Int} (am : Am h T i n 5) (p0 : 0 ≤ pl) (p5 : pl < 5) : Mo_worstAt h 94 pl (db_ T Q i) = some (h, wa_ T Q i n pl) := by
  rw [Mo_worstAt_e]
  exact Mo_worst_out s am p0 p5 5 0 0 (by omega) (by omega) (by omega)
theorem Mo_ask_best (s : ShM h) {i n x : Int} (am : Am h T i n 5) (hx : x = 0 ∨ x = 1) : Mo_ask_11 h 94 x (db_ T Q i) 0 1 = some (h, if x = 0 then bp_ T Q i n else wa_ T Q i n (bp_ T Q i n)) := by
  have z := fo_lp (L := fun b k => Mo_ask_11 h 94 x (db_ T Q i) b k) (f := fun pl b => if wa_ T Q i n b ≤ wa_ T Q i n pl then b else pl) (I := fun k b => 1 ≤ k ∧ 0 ≤ b ∧ b < k) (N := 5) (by
    intro k b hk hi
    refine ⟨?_, ?_⟩
    · show Mo_ask_11 h 94 x (db_ T Q i) b k = Mo_ask_11 h 94 x (db_ T Q i) (if wa_ T Q i n b ≤ wa_ T Q i n k then b else k) (k + 1)
      rw [Mo_ask_11_e, if_neg (by omega), ck_t (by omega), Mo_worstAt_s s am (by omega) hk, bd_v, ck_t (by omega), Mo_worstAt_s s am (by omega) (by omega), bd_v, w32_i (by omega) (by omega)]
      split <;> rfl
    · split <;> omega) 4 1 0 (by omega) (by omega)
  have zb := z.2
  refine z.1.trans ?_
  show Mo_ask_11 h 94 x (db_ T Q i) (bp_ T Q i n) 5 = _
  have bb : 0 ≤ bp_ T Q i n ∧ bp_ T Q i n < 5 := zb.2
  rw [Mo_ask_11_e, if_pos (by omega)]
  by_cases c : x = 0
  · rw [if_neg (by omega), if_pos c]
  · rw [if_pos c, if_neg c, ck_t (by omega), Mo_worstAt_s s am bb.1 bb.2, bd_v]
theorem Mo_ask_in {W : Tx} (wv : WV T W) {i n x b k : Int} (hi : 0 ≤ i) (hi2 : i < T 0 3) (u : TV T) (k0 : 0 ≤ k) (k5 : k < 5) : ∀ (m : Nat) (pl : Int) (h : am_H), ShM h → MT h T → MW h 1 T W → 0 ≤ pl → pl + m = 5 →
    ∃ h', Mo_ask_7 h 94 i n x b k pl = Mo_ask_5 h' 94 i n x b (k + 1) ∧ fr_ h h' (fun a => a = 137) ∧ (∀ q, pl ≤ q → q < 5 → rd_ h' 137 (5 * k + q) = Zs T W (T 9 i) q) ∧ ∀ z, ¬ (5 * k + pl ≤ z ∧ z < 5 * k + 5) → rd_ h' 137 z = rd_ h 137 z := by
  have a := u.2.2.1 i hi hi2
  have u0 := u.1
  intro m
  induction m with
  | zero =>
    intro pl h s t o h0 hm
    refine ⟨h, ?_, fr_refl _ _, fun q a b => by omega, fun _ _ => rfl⟩
    rw [Mo_ask_7_e, if_pos (by omega), w32_i (by omega) (by omega)]
  | succ m ih =>
    intro pl h s t o h0 hm
    have e9 := (t.2.2.2.2.2.2.2.2 i hi hi2).2.1
    rw [Mo_ask_7_e, if_neg (by omega)]
    simp only [mr32 s, ml107 s, e9, mr84 s]
    repeat rw [ck_t (by omega)]
    rw [Mo_sizeAt_s s t o wv (by omega) (by omega), bd_v]
    simp only [ml137 s]
    simp (disch := omega) only [w32_i]
    repeat rw [ck_t (by omega)]
    have Z : fz_ h (wr_ h 137 (5 * k + pl) (Zs T W (T 9 i) pl)) (fun a => a = 137) (fun _ => False) := fz_wr rfl (by omega)
    obtain ⟨h', i1, i2, i3, i4⟩ := ih (pl + 1) (wr_ h 137 (5 * k + pl) (Zs T W (T 9 i) pl)) (ShM_of rfl s) (MT_fz t Z (by intro a p q; omega) (fun _ _ _ q => q)) (MW_fz o Z (by intro a p q; omega)) (by omega) (by omega)
    refine ⟨h', i1, fr_tr (fr_wr rfl) i2, ?_, ?_⟩
    · intro q p r
      by_cases c : q = pl
      · subst c
        rw [i4 _ (by omega), rd_ws]
      · exact i3 q (by omega) r
    · intro z hz
      rw [i4 z (by omega), rd_wk (by omega)]
theorem Mo_ask_lp (u : TV T) (wv : WV T (W0_ T (T 0 6))) {i n x : Int} (hi : 0 ≤ i) (hi2 : i < T 0 3) (hn : 1 ≤ n) (hn2 : n ≤ 60) (hx : x = 0 ∨ x = 1) : ∀ (m : Nat) (k : Int) (h : am_H), MD h T Q → Am h T i n k → 0 ≤ k → k + m = 5 →
    ∃ h', Mo_ask_5 h 94 i n x (db_ T Q i) k = some (h', if x = 0 then bp_ T Q i n else wa_ T Q i n (bp_ T Q i n)) ∧ MX h h' ∧ MM h' M0_ := by
  intro m
  induction m with
  | zero =>
    intro k h g am h0 hm
    have e : k = 5 := by omega
    subst e
    obtain ⟨ha, a1, a2, a3⟩ := Mo_plainTried_s h
    refine ⟨ha, ?_, MX_pl a3, a2⟩
    rw [Mo_ask_5_e, if_pos (by omega), ck_t (by omega), a1, bd_v]
    exact Mo_ask_best (fz_ShM a3 g.1) (fun k pl p q r s => by rw [a3.2.1 137 (fun q => q) (by omega)]; exact am k pl p q r s) hx
  | succ m ih =>
    intro k h g am h0 hm
    obtain ⟨ha, a1, a2, a3, -, a5⟩ := Mo_layDeep_s g wv i (k + 1)
    obtain ⟨hb, b1, b2, b3⟩ := Mo_goMany_s u (mk_V (by omega) (by omega) (by omega) (Or.inr ⟨hi, by omega, by omega, rfl⟩)) (N := n) (by omega) (by omega) a2 wv
    have Xb := MX_MG b3 rfl
    obtain ⟨hc, c1, c2, c3, c4⟩ := Mo_ask_in (n := n) (x := x) (b := db_ T Q i) (dW_v u wv i (k + 1) n) hi hi2 u h0 (by omega) 5 0 hb b2.1 b2.2.1 b2.2.2.2.1 (by omega) (by omega)
    have Xc := MX_sc (fr_mo c2 (fun a q => Or.inr q))
    have X := MX_tr a3 (MX_tr Xb Xc)
    obtain ⟨h', i1, i2, i3⟩ := ih (k + 1) hc (MD_X g X) (by
      intro j pl p q r s
      by_cases e : j = k
      · subst e
        exact c3 pl r s
      · rw [c4 _ (by omega), b3.1.2.1 137 (by unfold mB; omega) (by omega), a5]
        exact am j pl p (by omega) r s) (by omega) (by omega)
    refine ⟨h', ?_, MX_tr X i2, i3⟩
    rw [Mo_ask_5_e, if_neg (by omega), w32_i (by omega) (by omega), ck_t (by omega), a1, bd_v, ck_t (by omega), b1, bd_v, c1, i1]
end
