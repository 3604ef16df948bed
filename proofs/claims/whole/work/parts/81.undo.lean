/-! what is done by call, undone -/
def eqW (T A B : Tx) : Prop := (∀ p, 0 ≤ p → p < T 0 1 → A 0 p = B 0 p ∧ A 1 p = B 1 p) ∧ (∀ p k, 0 ≤ p → p < T 0 1 → 0 ≤ k → k < B 0 p → A 3 (5 * p + k) = B 3 (5 * p + k)) ∧ ∀ j, 0 ≤ j → j < T 0 2 → A 4 j = B 4 j ∧ A 5 j = B 5 j
/-- piles, faces, chipped of V, the rest of W -/
def mw_ (V W : Tx) : Tx := fun f => if f = 2 ∨ f = 6 then W f else V f
theorem mw_v {T V W : Tx} (v : WV T V) (w : WV T W) : WV T (mw_ V W) := by
  obtain ⟨v0, v1, v2, v3, v4, v5, v6, v7, v8, v9, v10, v11⟩ := v
  obtain ⟨w0, w1, w2, w3, w4, w5, w6, w7, w8, w9, w10, w11⟩ := w
  exact ⟨v0, v1, v2, v3, v4, v5, v6, v7, w8, w9, w10, w11⟩
theorem WO_eq {h : am_H} {w : Int} {T A B : Tx} (o : WO h w T A) (e : eqW T A B) (e2 : A 2 = B 2) (e6 : A 6 = B 6) : WO h w T B := by
  obtain ⟨s, ⟨a0, a1, a2, a3, a4, a5⟩, f1, f2, f3, f4, f5, f6, f7⟩ := o
  obtain ⟨x, y, z⟩ := e
  refine ⟨s, ⟨a0, a1, a2, by rw [← e6]; exact a3, by rw [← e6]; exact a4, by rw [← e6]; exact a5⟩, ?_, ?_, ?_, ?_, f5, ?_, ?_⟩
  · intro p a b
    rw [f1 p a b]; exact (x p a b).1
  · intro p a b
    rw [f2 p a b]; exact (x p a b).2
  · intro m a b
    rw [f3 m a b, e2]
  · intro p k a b c d
    rw [f4 p k a b c (by rw [(x p a b).1]; exact d)]; exact y p k a b c d
  · intro j a b
    rw [f6 j a b]; exact (z j a b).1
  · intro j a b
    rw [f7 j a b]; exact (z j a b).2
/-- turned back -/
def Tb (W : Tx) (p d : Int) : Tx := up_ (Tn W p d) 1 p (w32 (Tn W p d 1 p - 2))
theorem Tb_inv {T W : Tx} (v : WV T W) {p d : Int} (h1 : 0 ≤ p) (h2 : p < T 0 1) (h3 : 1 ≤ d) (h4 : d ≤ W 0 p) : eqW T (Tb (Tn W p d) p d) W := by
  have bp := v.2.1 p h1 h2
  refine ⟨?_, ?_, ?_⟩
  · intro q a b
    refine ⟨rfl, ?_⟩
    have t := v.2.2.2.2.2.2.2.1 q a b
    unfold i32_ at t
    unfold Tb
    rw [up_s, Tn_1, Tn_1]
    dsimp only
    by_cases c : q = p
    · subst c
      rw [if_pos rfl, if_pos rfl, if_pos rfl]
      unfold w32
      omega
    · rw [if_neg c, if_neg c, if_neg c]
  · intro q k a b c d'
    have bq := v.2.1 q a b
    have tb : tb_ p d q (tb_ p d q k) = k ∧ 0 ≤ tb_ p d q k ∧ tb_ p d q k < 5 := by
      unfold tb_
      by_cases e : q = p ∧ k < d
      · rw [if_pos e, if_pos (by omega)]
        omega
      · rw [if_neg e, if_neg e]
        omega
    have e1 : Tb (Tn W p d) p d 3 (5 * q + k) = Tn (Tn W p d) p d 3 (5 * q + k) := rfl
    rw [e1, Tn_3b _ h1 (by omega) a c (by omega), Tn_3b _ h1 (by omega) a tb.2.1 tb.2.2, tb.1]
  · intro j a b
    refine ⟨?_, rfl⟩
    have e : an_p (Tn W p d) p d j = an_p W p d j := by
      have key : an_p (Tn W p d) p d j = true ↔ an_p W p d j = true := by
        rw [an_t, an_t]
        constructor
        · intro ⟨k, k0, k1, k2⟩
          rw [Tn_3b W h1 (by omega) h1 k0 (by omega)] at k2
          unfold tb_ at k2
          rw [if_pos ⟨rfl, k1⟩] at k2
          exact ⟨d - 1 - k, by omega, by omega, k2⟩
        · intro ⟨k, k0, k1, k2⟩
          refine ⟨d - 1 - k, by omega, by omega, ?_⟩
          rw [Tn_3b W h1 (by omega) h1 (by omega) (by omega)]
          unfold tb_
          rw [if_pos ⟨rfl, by omega⟩, show d - 1 - (d - 1 - k) = k by omega]
          exact k2
      cases x : an_p (Tn W p d) p d j <;> cases y : an_p W p d j
      · rfl
      · rw [x, y] at key; exact absurd (key.mpr rfl) (by decide)
      · rw [x, y] at key; exact absurd (key.mp rfl) (by decide)
      · rfl
    have e1 : Tb (Tn W p d) p d 4 j = (if an_p (Tn W p d) p d j then 1 - Tn W p d 4 j else Tn W p d 4 j) := rfl
    have e2 : Tn W p d 4 j = (if an_p W p d j then 1 - W 4 j else W 4 j) := rfl
    rw [e1, e2, e]
    split
    · omega
    · rfl
theorem Mv_inv {T W : Tx} {p q : Int} (v : WV T W) (h1 : 0 ≤ p) (h2 : p < T 0 1) (h3 : 0 ≤ q) (h4 : q < T 0 1) (ne : p ≠ q) (hp : 1 ≤ W 0 p) (hq : W 0 q < 5) (ns : ∀ k, 0 ≤ k → k < W 0 q → Zs T W q k ≠ Zs T W p 0) : eqW T (Mv (Mv W p q) q p) W := by
  have v' := Mv_v v h1 h2 h3 h4 ne hp hq ns
  have bp := v.2.1 p h1 h2
  have bq := v.2.1 q h3 h4
  have e0p : Mv W p q 0 p = W 0 p - 1 := by rw [Mv_0, if_pos rfl]
  have e0q : Mv W p q 0 q = W 0 q + 1 := by rw [Mv_0, if_neg (by omega), if_pos rfl]
  have row0 : ∀ r, Mv (Mv W p q) q p 0 r = W 0 r := by
    intro r
    rw [Mv_0, e0p, e0q, Mv_0]
    by_cases c1 : r = q
    · subst c1; rw [if_pos rfl]; omega
    · rw [if_neg c1]
      by_cases c2 : r = p
      · subst c2; rw [if_pos rfl]; omega
      · rw [if_neg c2, if_neg c2, if_neg c1]
  refine ⟨fun r a b => ⟨row0 r, rfl⟩, ?_, fun j a b => ⟨rfl, rfl⟩⟩
  intro r k a b c d
  obtain ⟨e, m1, m2, m3, m4⟩ := Mv_3b v' h3 h4 h1 h2 (fun z => ne z.symm) (by omega) (by omega) a b c (by rw [row0]; exact d)
  obtain ⟨e', -, -, -, -⟩ := Mv_3b v h1 h2 h3 h4 ne hp hq m1 m2 m3 m4
  rw [e, e']
  unfold mP mK
  congr 1
  by_cases c1 : r = q
  · subst c1
    rw [if_neg (show ¬ (r = p ∧ k = 0) by omega), if_pos rfl, if_neg (by omega), if_neg (by omega), if_pos rfl, if_neg (by omega)]
    omega
  · by_cases c2 : r = p
    · subst c2
      by_cases c3 : k = 0
      · subst c3
        rw [if_pos (show r = r ∧ (0 : Int) = 0 from ⟨rfl, rfl⟩), if_neg c1, if_pos rfl, if_pos rfl, if_pos ⟨rfl, rfl⟩, if_neg (by omega), if_pos rfl, if_pos rfl]
      · rw [if_neg (show ¬ (r = r ∧ k = 0) by omega), if_neg c1, if_pos rfl, if_neg c3, if_neg (by omega), if_pos rfl]
        omega
    · rw [if_neg (show ¬ (r = p ∧ k = 0) by omega), if_neg c1, if_neg c2, if_neg (by omega), if_neg c2, if_neg c1]
/-- what undoes: from A to B -/
def IV (T : Tx) (k a b : Int) (A B : Tx) : Prop := (k = 0 ∧ 0 ≤ a ∧ a < T 0 1 ∧ 1 ≤ b ∧ b ≤ A 0 a ∧ eqW T (Tb A a b) B) ∨ (k = 1 ∧ 0 ≤ a ∧ a < T 0 1 ∧ 0 ≤ b ∧ b < T 0 1 ∧ b ≠ a ∧ 1 ≤ A 0 b ∧ A 0 a < 5 ∧ eqW T (Mv A b a) B) ∨ (k = 2 ∧ 0 ≤ a ∧ a < T 0 2 ∧ eqW T (up_ A 5 a 0) B)
theorem IV_mi {T : Tx} {k a b : Int} {V B : Tx} (W : Tx) (i : IV T k a b V B) : IV T k a b (mw_ V W) B := i
def DO (h : am_H) (T W : Tx) (U : Int → Tx) (n : Int) : Prop := rd_ h 79 3 = n ∧ 0 ≤ n ∧ n ≤ 20 ∧ 0 ≤ rd_ h 79 4 ∧ rd_ h 79 4 < 20 ∧ (∀ i, 0 ≤ i → i < n → WV T (U i)) ∧ ∀ i, 0 ≤ i → i < n → IV T (rd_ h 80 ((rd_ h 79 4 - n + i) % 20)) (rd_ h 81 ((rd_ h 79 4 - n + i) % 20)) (rd_ h 82 ((rd_ h 79 4 - n + i) % 20)) (if i + 1 < n then U (i + 1) else W) (U i)
theorem DO_R {h h' : am_H} {T W : Tx} {U : Int → Tx} {n : Int} (d : DO h T W U n) (R : ∀ a, 79 ≤ a → a ≤ 82 → ∀ k, rd_ h' a k = rd_ h a k) : DO h' T W U n := by
  unfold DO at *
  simp only [R 79 (by omega) (by omega), R 80 (by omega) (by omega), R 81 (by omega) (by omega), R 82 (by omega) (by omega)]
  exact d
/-- one more that can be undone -/
def rU (U : Int → Tx) (n : Int) (W : Tx) : Int → Tx := if n = 20 then (fun i => if i = 19 then W else U (i + 1)) else (fun i => if i = n then W else U i)
def rN (n : Int) : Int := if n = 20 then 20 else n + 1
theorem Do_note_s {h : am_H} {T W W2 : Tx} {U : Int → Tx} {n k a b : Int} (s : ShC h) (d : DO h T W U n) (v : WV T W) (i : IV T k a b W2 W) : ∃ h', Do_note h 79 k a b = some (h', 0) ∧ DO h' T W2 (rU U n W) (rN n) ∧ fr_ h h' (fun a => 79 ≤ a ∧ a ≤ 82) := by
  obtain ⟨d1, n0, n20, x0, x1, d5, d6⟩ := d
  have e4 : ∀ x y z u r t, rd_ (wr_ (wr_ (wr_ h 80 x y) 81 z u) 82 r t) 79 4 = rd_ h 79 4 := fun x y z u r t => by rw [rd_wo (by omega), rd_wo (by omega), rd_wo (by omega)]
  have tm : Int.tmod (rd_ h 79 4 + 1) 20 = (rd_ h 79 4 + 1) % 20 := by rw [Int.tmod_eq_emod_of_nonneg (by omega)]
  rw [Do_note_e]
  simp only [cr79_0 s, cr79_1 s, cr79_2 s, cl80 s, cl81 s, cl82 s, rd_wo (show (79 : Int) ≠ 80 by omega), rd_wo (show (79 : Int) ≠ 81 by omega), rd_wo (show (79 : Int) ≠ 82 by omega), rd_wk (show (3 : Int) ≠ 4 by omega)]
  rw [d1]
  simp (disch := omega) only [w32_i]
  repeat rw [ck_t (by omega)]
  rw [tm]
  have en : (if (20 : Int) < n + 1 then (20 : Int) else n + 1) = rN n := by
    unfold rN
    repeat' split
    all_goals omega
  rw [en]
  refine ⟨_, rfl, ?_, ?_⟩
  · have r3 : ∀ H : am_H, rd_ (wr_ (wr_ H 79 4 ((rd_ h 79 4 + 1) % 20)) 79 3 (rN n)) 79 3 = rN n := fun H => rd_ws _ _ _ _
    have r4 : ∀ H : am_H, rd_ (wr_ (wr_ H 79 4 ((rd_ h 79 4 + 1) % 20)) 79 3 (rN n)) 79 4 = (rd_ h 79 4 + 1) % 20 := fun H => by rw [rd_wk (by omega), rd_ws]
    have rk : ∀ e, rd_ (wr_ (wr_ (wr_ (wr_ (wr_ h 80 (rd_ h 79 4) k) 81 (rd_ h 79 4) a) 82 (rd_ h 79 4) b) 79 4 ((rd_ h 79 4 + 1) % 20)) 79 3 (rN n)) 80 e = if e = rd_ h 79 4 then k else rd_ h 80 e := fun e => by rw [rd_wo (by omega), rd_wo (by omega), rd_wo (by omega), rd_wo (by omega), rd_wa]
    have ra : ∀ e, rd_ (wr_ (wr_ (wr_ (wr_ (wr_ h 80 (rd_ h 79 4) k) 81 (rd_ h 79 4) a) 82 (rd_ h 79 4) b) 79 4 ((rd_ h 79 4 + 1) % 20)) 79 3 (rN n)) 81 e = if e = rd_ h 79 4 then a else rd_ h 81 e := fun e => by rw [rd_wo (by omega), rd_wo (by omega), rd_wo (by omega), rd_wa, rd_wo (by omega)]
    have rb : ∀ e, rd_ (wr_ (wr_ (wr_ (wr_ (wr_ h 80 (rd_ h 79 4) k) 81 (rd_ h 79 4) a) 82 (rd_ h 79 4) b) 79 4 ((rd_ h 79 4 + 1) % 20)) 79 3 (rN n)) 82 e = if e = rd_ h 79 4 then b else rd_ h 82 e := fun e => by rw [rd_wo (by omega), rd_wo (by omega), rd_wa, rd_wo (by omega), rd_wo (by omega)]
    have nb : 0 ≤ rN n ∧ rN n ≤ 20 := by unfold rN; split <;> omega
    refine ⟨r3 _, nb.1, nb.2, by rw [r4]; omega, by rw [r4]; omega, ?_, ?_⟩
    · intro j p q
      unfold rU
      unfold rN at q
      by_cases c : n = 20
      · rw [if_pos c]
        rw [if_pos c] at q
        split
        · exact v
        · exact d5 (j + 1) (by omega) (by omega)
      · rw [if_neg c]
        rw [if_neg c] at q
        split
        · exact v
        · exact d5 j p (by omega)
    · intro j p q
      rw [r4, rk, ra, rb]
      unfold rU
      unfold rN at q ⊢
      by_cases c : n = 20
      · rw [if_pos c] at q
        simp only [if_pos c]
        by_cases c2 : j = 19
        · rw [if_pos (by omega), if_pos (by omega), if_pos (by omega), if_neg (by omega), if_pos c2]
          exact i
        · have old := d6 (j + 1) (by omega) (by omega)
          have ee : ((rd_ h 79 4 + 1) % 20 - 20 + j) % 20 = (rd_ h 79 4 - n + (j + 1)) % 20 := by omega
          rw [if_neg (by omega), if_neg (by omega), if_neg (by omega), if_pos (by omega), if_neg c2, ee]
          by_cases c3 : j + 1 = 19
          · rw [if_pos c3]
            rw [if_neg (by omega)] at old
            exact old
          · rw [if_neg c3]
            rw [if_pos (by omega)] at old
            exact old
      · rw [if_neg c] at q
        simp only [if_neg c]
        by_cases c2 : j = n
        · rw [if_pos (by omega), if_pos (by omega), if_pos (by omega), if_neg (by omega), if_pos c2]
          exact i
        · have old := d6 j p (by omega)
          have ee : ((rd_ h 79 4 + 1) % 20 - (n + 1) + j) % 20 = (rd_ h 79 4 - n + j) % 20 := by omega
          rw [if_neg (by omega), if_neg (by omega), if_neg (by omega), if_pos (by omega), if_neg c2, ee]
          by_cases c3 : j + 1 = n
          · rw [if_pos c3]
            rw [if_neg (by omega)] at old
            exact old
          · rw [if_neg c3]
            rw [if_pos (by omega)] at old
            exact old
  · exact fr_tr (fr_wr (by omega)) (fr_tr (fr_wr (by omega)) (fr_tr (fr_wr (by omega)) (fr_tr (fr_wr (by omega)) (fr_wr (by omega)))))
section
variable {h : am_H} {w : Int} {T W : Tx}
theorem Wo_turnBack_s (o : WO h w T W) (v : WV T W) {p d : Int} (h1 : 0 ≤ p) (h2 : p < T 0 1) (h3 : 1 ≤ d) (h4 : d ≤ W 0 p) : ∃ h', Wo_turnBack h w p d = some (h', 0) ∧ WO h' w T (Tb W p d) ∧ fr_ h h' (fun a => a = w + 2 ∨ a = w + 4 ∨ a = w + 6) := by
  have w0 := o.1.1
  have v0 := v.1
  obtain ⟨ha, a1, a2, a3⟩ := Wo_turnOver_s o v h1 h2 h3 h4
  obtain ⟨s, ⟨e0, e1, e2, e3, e4, e5⟩, f1, f2, f3, f4, f5, f6, f7⟩ := id a2
  obtain ⟨-, -, s7, -, -, -, -, -, -, -, l2, -⟩ := id s
  have y := f2 p h1 h2
  refine ⟨wr_ ha (w + 2) p (w32 (Tn W p d 1 p - 2)), ?_, ⟨ShW_of rfl s, ?_, ?_, ?_, ?_, ?_, ?_, ?_, ?_⟩, fr_tr a3 (fr_wr (Or.inl rfl))⟩
  · rw [Wo_turnBack_e, ck_t w0, Wo_hasPile_t o h1 h2, bd_v, if_neg (by omega), ck_t w0, a1, bd_v]
    simp only [s7, l2, y]
    repeat rw [ck_t (by omega)]
  · rw [rd_wo (by omega), rd_wo (by omega), rd_wo (by omega), rd_wo (by omega), rd_wo (by omega), rd_wo (by omega)]
    exact ⟨e0, e1, e2, e3, e4, e5⟩
  · intro j a b
    rw [rd_wo (by omega)]; exact f1 j a b
  · intro j a b
    unfold Tb
    rw [rd_wa, up_s]
    split
    · rfl
    · exact f2 j a b
  · intro j a b
    rw [rd_wo (by omega)]; exact f3 j a b
  · intro j k a b c e
    rw [rd_wo (by omega)]; exact f4 j k a b c e
  · intro j a b
    rw [rd_wo (by omega)]; exact f5 j a b
  · intro j a b
    rw [rd_wo (by omega)]; exact f6 j a b
  · intro j a b
    rw [rd_wo (by omega)]; exact f7 j a b
theorem Wo_mend_s (o : WO h w T W) (v : WV T W) {j : Int} (h1 : 0 ≤ j) (h2 : j < T 0 2) : Wo_mend h w j = some (wr_ h (w + 7) j 0, 0) := by
  obtain ⟨⟨w0, -, -, -, -, -, -, s12, -, -, -, -, -, -, -, l7, -⟩, ⟨-, -, e2, -⟩, -⟩ := id o
  have v0 := v.1
  rw [Wo_mend_e]
  simp only [e2, s12, l7]
  rw [if_neg (by omega), ck_t w0, if_neg (by omega)]
  repeat rw [ck_t (by omega)]
theorem Do_take_s {U : Int → Tx} {n : Int} (s : ShC h) (d : DO h T W U n) (hn : n ≠ 0) : ∃ h', Do_takeLatest h 79 = some (h', 1) ∧ fr_ h h' (fun a => a = 79) ∧ DO h' T (U (n - 1)) U (n - 1) ∧ Do_left h' 79 = some (h', n - 1) ∧ ∃ k a b, Do_kind h' 79 = some (h', k) ∧ Do_one h' 79 = some (h', a) ∧ Do_other h' 79 = some (h', b) ∧ IV T k a b W (U (n - 1)) := by
  obtain ⟨d1, n0, n20, x0, x1, d5, d6⟩ := d
  have tm : Int.tmod (rd_ h 79 4 + 20 - 1) 20 = (rd_ h 79 4 + 20 - 1) % 20 := by rw [Int.tmod_eq_emod_of_nonneg (by omega)]
  have F : fr_ h (wr_ (wr_ h 79 4 ((rd_ h 79 4 + 20 - 1) % 20)) 79 3 (n - 1)) (fun a => a = 79) := fr_tr (fr_wr rfl) (fr_wr rfl)
  have r3 : rd_ (wr_ (wr_ h 79 4 ((rd_ h 79 4 + 20 - 1) % 20)) 79 3 (n - 1)) 79 3 = n - 1 := rd_ws _ _ _ _
  have r4 : rd_ (wr_ (wr_ h 79 4 ((rd_ h 79 4 + 20 - 1) % 20)) 79 3 (n - 1)) 79 4 = (rd_ h 79 4 + 20 - 1) % 20 := by rw [rd_wk (by omega), rd_ws]
  have s' := ShC_of F.1 s
  have old := d6 (n - 1) (by omega) (by omega)
  rw [if_neg (by omega), show (rd_ h 79 4 - n + (n - 1)) % 20 = (rd_ h 79 4 + 20 - 1) % 20 by omega] at old
  refine ⟨_, ?_, F, ⟨r3, by omega, by omega, by rw [r4]; omega, by rw [r4]; omega, fun i p q => d5 i p (by omega), ?_⟩, ?_, rd_ h 80 ((rd_ h 79 4 + 20 - 1) % 20), rd_ h 81 ((rd_ h 79 4 + 20 - 1) % 20), rd_ h 82 ((rd_ h 79 4 + 20 - 1) % 20), ?_, ?_, ?_, old⟩
  · rw [Do_takeLatest_e]
    simp only [rd_wk (show (3 : Int) ≠ 4 by omega)]
    rw [d1]
    simp (disch := omega) only [w32_i]
    repeat rw [ck_t (by omega)]
    rw [if_pos hn, tm]
    repeat rw [ck_t (by omega)]
  · intro i p q
    have o := d6 i p (by omega)
    rw [r4, F.2 80 (by omega), F.2 81 (by omega), F.2 82 (by omega), show ((rd_ h 79 4 + 20 - 1) % 20 - (n - 1) + i) % 20 = (rd_ h 79 4 - n + i) % 20 by omega]
    rw [if_pos (by omega)] at o
    by_cases c : i + 1 < n - 1
    · rw [if_pos c]; exact o
    · rw [if_neg c, show n - 1 = i + 1 by omega]; exact o
  · rw [Do_left_e, ck_t (by omega), r3]
  · rw [Do_kind_e]
    simp only [cr79_0 s', cl80 s', r4]
    repeat rw [ck_t (by omega)]
    rw [F.2 80 (by omega)]
  · rw [Do_one_e]
    simp only [cr79_1 s', cl81 s', r4]
    repeat rw [ck_t (by omega)]
    rw [F.2 81 (by omega)]
  · rw [Do_other_e]
    simp only [cr79_2 s', cl82 s', r4]
    repeat rw [ck_t (by omega)]
    rw [F.2 82 (by omega)]
theorem Do_left_s {U : Int → Tx} {n : Int} (d : DO h T W U n) : Do_left h 79 = some (h, n) := by
  rw [Do_left_e, ck_t (by omega), d.1]
theorem DO_mw {U : Int → Tx} {n : Int} {V : Tx} (d : DO h T V U n) (W : Tx) : DO h T (mw_ V W) U n := by
  obtain ⟨d1, n0, n20, x0, x1, d5, d6⟩ := d
  refine ⟨d1, n0, n20, x0, x1, d5, ?_⟩
  intro i p q
  have := d6 i p q
  by_cases c : i + 1 < n
  · rw [if_pos c] at this ⊢; exact this
  · rw [if_neg c] at this ⊢; exact this
theorem Pp_undo_s {U : Int → Tx} {n : Int} (s : ShC h) (o : WO h 47 T W) (v : WV T W) (d : DO h T W U n) : ∃ h', Pp_undo h 0 = some (h', if n = 0 then -1 else n - 1) ∧ (n = 0 → h' = h) ∧ (n ≠ 0 → WO h' 47 T (mw_ (U (n - 1)) W) ∧ DO h' T (mw_ (U (n - 1)) W) U (n - 1)) ∧ fr_ h h' (fun a => a = 79 ∨ (47 ≤ a ∧ a ≤ 54)) := by
  by_cases hn : n = 0
  · refine ⟨h, ?_, fun _ => rfl, fun q => absurd hn q, fr_refl _ _⟩
    rw [Pp_undo_e]
    simp only [cr0_13 s]
    repeat rw [ck_t (by omega)]
    rw [Do_takeLatest_e, d.1, ck_t (by omega), if_neg (by omega), bd_v, if_neg (by omega), if_pos hn]
  · obtain ⟨ha, a1, a2, a3, a4, k, a, b, k1, k2, k3, iv⟩ := Do_take_s s d hn
    have sa := ShC_of a2.1 s
    have oa := WO_fr o a2 (by intro a p q; omega)
    have uv := d.2.2.2.2.2.1 (n - 1) (by have := d.2.1; omega) (by omega)
    rw [Pp_undo_e]
    simp only [cr0_13 s]
    repeat rw [ck_t (by omega)]
    rw [a1, bd_v, if_pos (by omega)]
    simp only [cr0_13 sa, cr0_7 sa, k1, k2, k3, bd_v]
    repeat rw [ck_t (by omega)]
    rw [if_neg hn]
    have fin : ∀ hb, fr_ ha hb (fun a => 47 ≤ a ∧ a ≤ 54) → ∀ A, WO hb 47 T A → eqW T A (U (n - 1)) → A 2 = W 2 → A 6 = W 6 → ∃ h', (ck_ (0 ≤ (0 : Int)) (ck_ (0 ≤ rf_ hb 0 13) (bd_ (Do_left hb (rf_ hb 0 13)) fun h25 v26 => some (h25, v26)))) = some (h', n - 1) ∧ (n = 0 → h' = h) ∧ (n ≠ 0 → WO h' 47 T (mw_ (U (n - 1)) W) ∧ DO h' T (mw_ (U (n - 1)) W) U (n - 1)) ∧ fr_ h h' (fun a => a = 79 ∨ (47 ≤ a ∧ a ≤ 54)) := by
      intro hb fb A ob eA e2 e6
      have db := DO_R (DO_mw a3 W) (h' := hb) (fun a p q k => fb.2 a (by omega) k)
      refine ⟨hb, ?_, fun q => absurd q hn, fun _ => ⟨WO_eq ob ?_ (by rw [e2]; rfl) (by rw [e6]; rfl), db⟩, fr_tr (fr_mo a2 (fun a q => Or.inl q)) (fr_mo fb (fun a q => Or.inr q))⟩
      · rw [cr0_13 (ShC_of fb.1 sa), ck_t (by omega), ck_t (by omega), Do_left_s db, bd_v]
      · exact eA
    rcases iv with iv | iv | iv
    · obtain ⟨c0, c1, c2, c3, c4, c5⟩ := iv
      obtain ⟨hb, b1, b2, b3⟩ := Wo_turnBack_s oa v c1 c2 c3 c4
      rw [if_pos c0, b1, bd_v]
      exact fin hb (fr_mo b3 (fun a q => by omega)) _ b2 c5 rfl rfl
    · obtain ⟨c0, c1, c2, c3, c4, c5, c6, c7, c8⟩ := iv
      obtain ⟨hb, b1, b2, b3⟩ := Wo_lift_s oa v c3 c4 c1 c2 c5 c6 c7
      rw [if_neg (by omega), if_pos c0, b1, bd_v]
      exact fin hb (fr_mo b3 (fun a q => by omega)) _ b2 c8 rfl rfl
    · obtain ⟨c0, c1, c2, c3⟩ := iv
      rw [if_neg (by omega), if_neg (by omega), Wo_mend_s oa v c1 c2, bd_v]
      exact fin _ (fr_wr (by omega)) _ (WO_ch oa 0) c3 rfl rfl
end
