/-! rows of five, in the reference -/
def fzR (h h' : am_H) : Prop := fz_ h h' (fun a => a = 128) (fun k => k = 70)
theorem fzR_tr {h h1 h2 : am_H} (x : fzR h h1) (y : fzR h1 h2) : fzR h h2 := fz_tr x y
theorem fzR_ln {h h1 : am_H} (x : fzR h h1) (a : Int) : ln_ h1 a = ln_ h a := by unfold ln_; rw [x.1]
def tf_ (had d : Int) : Nat → Int → Int → Int
  | 0, _, f => f
  | n + 1, k, f => tf_ had d n (k + 1) (or_ (an_ f (xo_ (w32 (1 * 2 ^ (k % 32 : Int).toNat)) (-1))) (w32 ((xo_ (an_ (had / 2 ^ ((w32 ((w32 (d - 1)) - k)) % 32 : Int).toNat) 1) 1) * 2 ^ (k % 32 : Int).toNat)))
def fM_ (w f d : Int) : Int := if w = 1 then tf_ f d d.toNat 0 f else f
theorem Mo_turnsRow_1s {d had : Int} (hd : d ≤ 100) : ∀ (n : Nat) (k f : Int) (h : am_H), 0 ≤ k → k + n = d → rd_ h 94 70 = f → ∃ h', Mo_turnsRow_1 h 94 d 1 had k = Mo_turnsRow_5 h' 94 d 0 ∧ rd_ h' 94 70 = tf_ had d n k f ∧ fz_ h h' (fun _ => False) (fun k => k = 70) := by
  intro n
  induction n with
  | zero =>
    intro k f h k0 hk e
    exact ⟨h, by rw [Mo_turnsRow_1_e, if_pos (by omega)], e, fz_refl _ _ _⟩
  | succ n ih =>
    intro k f h k0 hk e
    rw [Mo_turnsRow_1_e, if_neg (by omega), if_neg (by omega), ck_t (by omega), ck_t (by omega), e, w32_i (x := k + 1) (by omega) (by omega)]
    obtain ⟨h', x1, x2, x3⟩ := ih (k + 1) _ (wr_ h 94 70 (or_ (an_ f (xo_ (w32 (1 * 2 ^ (k % 32 : Int).toNat)) (-1))) (w32 ((xo_ (an_ (had / 2 ^ ((w32 ((w32 (d - 1)) - k)) % 32 : Int).toNat) 1) 1) * 2 ^ (k % 32 : Int).toNat)))) (by omega) (by omega) (rd_ws _ _ _ _)
    exact ⟨h', x1, x2, fz_tr (fz_wf rfl) x3⟩
theorem Mo_turnsRow_5s {n d : Int} {R : Int → Int} (hd : d ≤ n) (hn : n ≤ 5) : ∀ (f : Nat) (i : Int) (h : am_H) (S : Int → Int), ShM h → 0 ≤ i → d - 1 - 2 * i ≤ f → -5 ≤ d - 1 - i → RW h 128 n S → eR n S (rm_ d i R) → ∃ h', Mo_turnsRow_5 h 94 d i = some (h', 0) ∧ RW h' 128 n (rR_ d R) ∧ fr_ h h' (fun x => x = 128) := by
  intro f
  induction f with
  | zero =>
    intro i h S s i0 hf hl r e
    refine ⟨h, ?_, fun k k0 k1 => by rw [r k k0 k1]; exact rm_en i0 (by omega) e k k0 k1, fr_refl _ _⟩
    rw [Mo_turnsRow_5_e, w32_i (x := d - 1) (by omega) (by omega), w32_i (x := d - 1 - i) (by omega) (by omega), if_pos (by omega)]
  | succ f ih =>
    intro i h S s i0 hf hl r e
    rw [Mo_turnsRow_5_e, w32_i (x := d - 1) (by omega) (by omega), w32_i (x := d - 1 - i) (by omega) (by omega)]
    by_cases q : d - 1 - i ≤ i
    · exact ⟨h, by rw [if_pos q], fun k k0 k1 => by rw [r k k0 k1]; exact rm_en i0 q e k k0 k1, fr_refl _ _⟩
    · have r1 := RW_wr (RW_wr r i (rd_ h 128 (d - 1 - i))) (d - 1 - i) (rd_ h 128 i)
      have fr : fr_ h (wr_ (wr_ h 128 i (rd_ h 128 (d - 1 - i))) 128 (d - 1 - i) (rd_ h 128 i)) (fun x => x = 128) := fr_tr (fr_wr rfl) (fr_wr rfl)
      have st := rm_st i0 (by omega) hd e
      rw [← r (d - 1 - i) (by omega) (by omega), ← r i i0 (by omega)] at st
      obtain ⟨h', x1, x2, x3⟩ := ih (i + 1) _ _ (ShM_of fr.1 s) (by omega) (by omega) (by omega) r1 st
      refine ⟨h', ?_, x2, fr_tr fr x3⟩
      rw [if_neg q]
      simp only [mr69 s, ml128 s]
      repeat rw [ck_t (by omega)]
      rw [w32_i (x := i + 1) (by omega) (by omega), x1]
theorem Mo_turnsRow_s {h : am_H} {n d w f : Int} {R : Int → Int} (s : ShM h) (d0 : 0 ≤ d) (hd : d ≤ n) (hn : n ≤ 5) (e : rd_ h 94 70 = f) (r : RW h 128 n R) : ∃ h', Mo_turnsRow h 94 d w = some (h', 0) ∧ RW h' 128 n (rR_ d R) ∧ rd_ h' 94 70 = fM_ w f d ∧ fzR h h' := by
  have fst : ∃ h1, Mo_turnsRow_1 h 94 d w f 0 = Mo_turnsRow_5 h1 94 d 0 ∧ rd_ h1 94 70 = fM_ w f d ∧ fz_ h h1 (fun _ => False) (fun k => k = 70) := by
    unfold fM_
    by_cases q : w = 1
    · rw [if_pos q, q]
      exact Mo_turnsRow_1s (by omega) d.toNat 0 f h (by omega) (by omega) e
    · rw [if_neg q]
      refine ⟨h, ?_, e, fz_refl _ _ _⟩
      rw [Mo_turnsRow_1_e]
      by_cases z : d ≤ 0
      · rw [if_pos z]
      · rw [if_neg z, if_pos q]
  obtain ⟨h1, a1, a2, a3⟩ := fst
  have r1 : RW h1 128 n R := fun k k0 k1 => by rw [a3.2.1 128 (fun q => q) (by omega)]; exact r k k0 k1
  obtain ⟨h', x1, x2, x3⟩ := Mo_turnsRow_5s hd hn d.toNat 0 h1 R (ShM_of a3.1 s) (by omega) (by omega) (by omega) r1 (fun k k0 k1 => (if_neg (by omega)).symm)
  refine ⟨h', ?_, x2, by rw [x3.2 94 (by omega)]; exact a2, fz_tr (fz_mo a3 (fun _ q => q.elim) (fun _ q => q)) (fz_fr x3 (fun _ q => q) (by omega))⟩
  rw [Mo_turnsRow_e, ck_t (by omega), e, a1, x1]
/-- an order's number in the reference -/
def ml_ (R : Int → Int) (k : Int) : Nat → Int → Int → Int
  | 0, _, l => l
  | n + 1, i, l => ml_ R k n (i + 1) (if R k ≤ R i then w32 (l + 0) else w32 (l + 1))
def cm_ (R : Int → Int) (H : Int) : Nat → Int → Int → Int
  | 0, _, c => c
  | n + 1, k, c => cm_ R H n (k + 1) (w32 (w32 (c * w32 (H - k)) + ml_ R k (H - (k + 1)).toNat (k + 1) 0))
def cM_ (R : Int → Int) (H f : Int) : Int := w32 (w32 (cm_ R H H.toNat 0 0 * w32 (1 * 2 ^ (H % 32 : Int).toNat)) + f)
theorem ml_c {R S : Int → Int} {N k : Int} (k0 : 0 ≤ k) (k1 : k < N) (e : ∀ i j, 0 ≤ i → i < N → 0 ≤ j → j < N → (R i ≤ R j ↔ S i ≤ S j)) : ∀ (n : Nat) (i l : Int), 0 ≤ i → i + n ≤ N → ml_ R k n i l = ml_ S k n i l := by
  intro n
  induction n with
  | zero => intro i l _ _; rfl
  | succ n ih =>
    intro i l i0 hi
    unfold ml_
    rw [ih (i + 1) _ (by omega) (by omega)]
    have := e k i k0 k1 i0 (by omega)
    by_cases q : R k ≤ R i
    · rw [if_pos q, if_pos (this.mp q)]
    · rw [if_neg q, if_neg (fun z => q (this.mpr z))]
theorem cm_c {R S : Int → Int} {N : Int} (e : ∀ i j, 0 ≤ i → i < N → 0 ≤ j → j < N → (R i ≤ R j ↔ S i ≤ S j)) : ∀ (n : Nat) (k c : Int), 0 ≤ k → k + n ≤ N → cm_ R N n k c = cm_ S N n k c := by
  intro n
  induction n with
  | zero => intro k c _ _; rfl
  | succ n ih =>
    intro k c k0 hk
    unfold cm_
    rw [ih (k + 1) _ (by omega) (by omega), ml_c k0 (by omega) e _ _ _ (by omega) (by omega)]
theorem Mo_codeOf_in {h : am_H} {H k c : Int} {R : Int → Int} (s : ShM h) (hN : H ≤ 5) (r : RW h 128 H R) (k0 : 0 ≤ k) (k1 : k < H) : ∀ (n : Nat) (i l : Int), 0 ≤ i → i + n = H → Mo_codeOf_3 h 94 H c k l i = Mo_codeOf_1 h 94 H (w32 (w32 (c * w32 (H - k)) + ml_ R k n i l)) (k + 1) := by
  intro n
  induction n with
  | zero =>
    intro i l i0 hi
    rw [Mo_codeOf_3_e, if_pos (by omega), w32_i (x := k + 1) (by omega) (by omega)]
    rfl
  | succ n ih =>
    intro i l i0 hi
    rw [Mo_codeOf_3_e, if_neg (by omega)]
    simp only [mr69 s, ml128 s]
    repeat rw [ck_t (by omega)]
    rw [r k k0 k1, r i i0 (by omega), w32_i (x := i + 1) (by omega) (by omega)]
    unfold ml_
    by_cases q : R k ≤ R i
    · rw [if_pos q, if_pos q, ih (i + 1) _ (by omega) (by omega)]
    · rw [if_neg q, if_neg q, ih (i + 1) _ (by omega) (by omega)]
theorem Mo_codeOf_lp {h : am_H} {H : Int} {R : Int → Int} (s : ShM h) (hN : H ≤ 5) (r : RW h 128 H R) : ∀ (n : Nat) (k c : Int), 0 ≤ k → k + n = H → Mo_codeOf_1 h 94 H c k = some (h, w32 (w32 (cm_ R H n k c * w32 (1 * 2 ^ (H % 32 : Int).toNat)) + rd_ h 94 70)) := by
  intro n
  induction n with
  | zero =>
    intro k c k0 hk
    rw [Mo_codeOf_1_e, if_pos (by omega), ck_t (by omega)]
    rfl
  | succ n ih =>
    intro k c k0 hk
    rw [Mo_codeOf_1_e, if_neg (by omega), w32_i (x := k + 1) (by omega) (by omega), Mo_codeOf_in s hN r k0 (by omega) (H - (k + 1)).toNat (k + 1) 0 (by omega) (by omega), ih (k + 1) _ (by omega) (by omega)]
    rfl
theorem Mo_codeOf_s {h : am_H} {H f : Int} {R : Int → Int} (s : ShM h) (h0 : 0 ≤ H) (hN : H ≤ 5) (e : rd_ h 94 70 = f) (r : RW h 128 H R) : Mo_codeOf h 94 H = some (h, cM_ R H f) := by
  rw [Mo_codeOf_e, Mo_codeOf_lp s hN r H.toNat 0 0 (by omega) (by omega), e]
  rfl
/-- laid by its number, in the reference -/
def lc1_ (H : Int) : Nat → Int → (Int → Int) → Int → Int
  | 0, _, R => R
  | n + 1, x, R => lc1_ H n (w32 (Int.tdiv x (w32 (H - n)))) (ud_ R n (Int.tmod x (w32 (H - n))))
def lc6_ (k : Int) : Nat → Int → (Int → Int) → Int → Int
  | 0, _, R => R
  | n + 1, i, R => lc6_ k n (i + 1) (if R i < R k then ud_ R i (w32 (R i + 0)) else ud_ R i (w32 (R i + 1)))
def lc4_ (H : Int) : Nat → (Int → Int) → Int → Int
  | 0, R => R
  | n + 1, R => lc4_ H n (lc6_ n (H - (n + 1)).toNat (n + 1) R)
theorem lc1_e {H : Int} : ∀ (n : Nat) (x : Int) (R S : Int → Int), (∀ j, (n : Int) ≤ j → j < H → R j = S j) → eR H (lc1_ H n x R) (lc1_ H n x S) := by
  intro n
  induction n with
  | zero => intro x R S e k k0 k1; exact e k (by omega) k1
  | succ n ih =>
    intro x R S e
    unfold lc1_
    refine ih _ _ _ ?_
    intro j j0 j1
    unfold ud_
    by_cases q : j = n
    · rw [if_pos q, if_pos q]
    · rw [if_neg q, if_neg q, e j (by omega) j1]
theorem lc6_e {H k : Int} (k0 : 0 ≤ k) (k1 : k < H) : ∀ (n : Nat) (i : Int) (R S : Int → Int), 0 ≤ i → i + n ≤ H → eR H R S → eR H (lc6_ k n i R) (lc6_ k n i S) := by
  intro n
  induction n with
  | zero => intro i R S _ _ e; exact e
  | succ n ih =>
    intro i R S i0 hi e
    unfold lc6_
    refine ih (i + 1) _ _ (by omega) (by omega) ?_
    rw [e i i0 (by omega), e k k0 k1]
    split <;> exact ud_e e
theorem lc4_e {H : Int} : ∀ (n : Nat) (R S : Int → Int), (n : Int) ≤ H → eR H R S → eR H (lc4_ H n R) (lc4_ H n S) := by
  intro n
  induction n with
  | zero => intro R S _ e; exact e
  | succ n ih =>
    intro R S hn e
    unfold lc4_
    exact ih _ _ (by omega) (lc6_e (by omega) (by omega) _ _ _ _ (by omega) (by omega) e)
theorem Mo_layCode_1s {H : Int} (hN : H ≤ 5) : ∀ (n : Nat) (x : Int) (h : am_H) (R : Int → Int), ShM h → (n : Int) ≤ H → RW h 128 H R → ∃ h', Mo_layCode_1 h 94 H x (n - 1 : Int) = Mo_layCode_4 h' 94 H (H - 1) ∧ RW h' 128 H (lc1_ H n x R) ∧ fr_ h h' (fun x => x = 128) := by
  intro n
  induction n with
  | zero =>
    intro x h R s hn r
    exact ⟨h, by rw [Mo_layCode_1_e, if_pos (by omega), w32_i (by omega) (by omega)], r, fr_refl _ _⟩
  | succ n ih =>
    intro x h R s hn r
    have f : fr_ h (wr_ h 128 n (Int.tmod x (w32 (H - n)))) (fun x => x = 128) := fr_wr rfl
    obtain ⟨h', x1, x2, x3⟩ := ih (w32 (Int.tdiv x (w32 (H - n)))) _ _ (ShM_of f.1 s) (by omega) (RW_wr r n (Int.tmod x (w32 (H - n))))
    refine ⟨h', ?_, x2, fr_tr f x3⟩
    rw [Mo_layCode_1_e, if_neg (by omega)]
    simp only [mr69 s, ml128 s]
    rw [show ((n + 1 : Nat) : Int) - 1 = (n : Int) by omega, ck_t (by omega), ck_t (by rw [w32_i (by omega) (by omega)]; omega), ck_t (by omega), ck_t (by omega), ck_t (by rw [w32_i (by omega) (by omega)]; omega), w32_i (x := (n : Int) + -1) (by omega) (by omega), show (n : Int) + -1 = n - 1 by omega, x1]
theorem Mo_layCode_6s {H k : Int} (hN : H ≤ 5) (k0 : 0 ≤ k) (k1 : k < H) : ∀ (n : Nat) (i : Int) (h : am_H) (R : Int → Int), ShM h → 0 ≤ i → i + n = H → RW h 128 H R → ∃ h', Mo_layCode_6 h 94 H k i = Mo_layCode_4 h' 94 H (k - 1) ∧ RW h' 128 H (lc6_ k n i R) ∧ fr_ h h' (fun x => x = 128) := by
  intro n
  induction n with
  | zero =>
    intro i h R s i0 hi r
    exact ⟨h, by rw [Mo_layCode_6_e, if_pos (by omega), w32_i (by omega) (by omega)]; rfl, r, fr_refl _ _⟩
  | succ n ih =>
    intro i h R s i0 hi r
    rw [Mo_layCode_6_e, if_neg (by omega)]
    simp only [mr69 s, ml128 s]
    repeat rw [ck_t (by omega)]
    rw [r k k0 k1, r i i0 (by omega), w32_i (x := i + 1) (by omega) (by omega)]
    unfold lc6_
    by_cases q : R i < R k
    · rw [if_pos q, if_pos q]
      have f : fr_ h (wr_ h 128 i (w32 (R i + 0))) (fun x => x = 128) := fr_wr rfl
      obtain ⟨h', x1, x2, x3⟩ := ih (i + 1) _ _ (ShM_of f.1 s) (by omega) (by omega) (RW_wr r i (w32 (R i + 0)))
      exact ⟨h', x1, x2, fr_tr f x3⟩
    · rw [if_neg q, if_neg q]
      have f : fr_ h (wr_ h 128 i (w32 (R i + 1))) (fun x => x = 128) := fr_wr rfl
      obtain ⟨h', x1, x2, x3⟩ := ih (i + 1) _ _ (ShM_of f.1 s) (by omega) (by omega) (RW_wr r i (w32 (R i + 1)))
      exact ⟨h', x1, x2, fr_tr f x3⟩
theorem Mo_layCode_4s {H : Int} (hN : H ≤ 5) : ∀ (n : Nat) (h : am_H) (R : Int → Int), ShM h → (n : Int) ≤ H → RW h 128 H R → ∃ h', Mo_layCode_4 h 94 H (n - 1 : Int) = some (h', 0) ∧ RW h' 128 H (lc4_ H n R) ∧ fr_ h h' (fun x => x = 128) := by
  intro n
  induction n with
  | zero =>
    intro h R s hn r
    exact ⟨h, by rw [Mo_layCode_4_e, if_pos (by omega)], r, fr_refl _ _⟩
  | succ n ih =>
    intro h R s hn r
    obtain ⟨h1, x1, x2, x3⟩ := Mo_layCode_6s (k := (n : Int)) hN (by omega) (by omega) (H - ((n : Int) + 1)).toNat ((n : Int) + 1) h R s (by omega) (by omega) r
    obtain ⟨h', y1, y2, y3⟩ := ih h1 _ (ShM_of x3.1 s) (by omega) x2
    refine ⟨h', ?_, y2, fr_tr x3 y3⟩
    rw [Mo_layCode_4_e, if_neg (by omega), show ((n + 1 : Nat) : Int) - 1 = (n : Int) by omega, w32_i (by omega) (by omega), x1, y1]
def p2_ (H : Int) : Int := w32 (1 * 2 ^ (H % 32 : Int).toNat)
def lR_ (H c : Int) : Int → Int := lc4_ H H.toNat (lc1_ H H.toNat (w32 (Int.tdiv c (p2_ H))) (fun _ => 0))
theorem p2_p {H : Int} (h0 : 0 ≤ H) (hN : H ≤ 5) : 0 < p2_ H := by
  have : H = 0 ∨ H = 1 ∨ H = 2 ∨ H = 3 ∨ H = 4 ∨ H = 5 := by omega
  rcases this with e | e | e | e | e | e <;> subst e <;> decide
theorem Mo_layCode_s {h : am_H} {H c : Int} (s : ShM h) (h0 : 0 ≤ H) (hN : H ≤ 5) : ∃ h', Mo_layCode h 94 H c = some (h', 0) ∧ RW h' 128 H (lR_ H c) ∧ rd_ h' 94 70 = Int.tmod c (p2_ H) ∧ fzR h h' := by
  have pp := p2_p h0 hN
  have z : fz_ h (wr_ h 94 70 (Int.tmod c (p2_ H))) (fun a => a = 128) (fun k => k = 70) := fz_wf rfl
  obtain ⟨h1, x1, x2, x3⟩ := Mo_layCode_1s hN H.toNat (w32 (Int.tdiv c (p2_ H))) (wr_ h 94 70 (Int.tmod c (p2_ H))) (fun j => rd_ (wr_ h 94 70 (Int.tmod c (p2_ H))) 128 j) (ShM_of z.1 s) (by omega) (fun k _ _ => rfl)
  obtain ⟨h', y1, y2, y3⟩ := Mo_layCode_4s hN H.toNat h1 _ (ShM_of x3.1 (ShM_of z.1 s)) (by omega) x2
  have y := fr_tr x3 y3
  refine ⟨h', ?_, ?_, by rw [y.2 94 (by omega), rd_ws], fz_tr z (fz_fr y (fun _ q => q) (by omega))⟩
  · rw [show ((H.toNat : Nat) : Int) - 1 = H - 1 by omega] at x1 y1
    rw [Mo_layCode_e]
    unfold p2_ at x1 pp
    rw [ck_t (by omega), ck_t (by omega), ck_t (by omega), w32_i (x := H - 1) (by omega) (by omega), x1, y1]
  · intro k k0 k1
    rw [y2 k k0 k1]
    exact lc4_e H.toNat _ _ (by omega) (lc1_e H.toNat _ _ _ (fun j j0 j1 => by omega)) k k0 k1
/-- a code turned -/
def nM_ (w H c d : Int) : Int := cM_ (rR_ d (lR_ H c)) H (fM_ w (Int.tmod c (p2_ H)) d)
theorem Mo_turnedCode_s {h : am_H} {H c d w : Int} (s : ShM h) (h0 : 0 ≤ H) (hN : H ≤ 5) (d0 : 0 ≤ d) (hd : d ≤ H) : ∃ h', Mo_turnedCode h 94 H c d w = some (h', nM_ w H c d) ∧ fzR h h' := by
  obtain ⟨h1, x1, x2, x3, x4⟩ := Mo_layCode_s (c := c) s h0 hN
  have s1 := ShM_of x4.1 s
  obtain ⟨h2, y1, y2, y3, y4⟩ := Mo_turnsRow_s (w := w) s1 d0 hd hN x3 x2
  refine ⟨h2, ?_, fzR_tr x4 y4⟩
  rw [Mo_turnedCode_e, ck_t (by omega), x1, bd_v, ck_t (by omega), y1, bd_v, ck_t (by omega), Mo_codeOf_s (ShM_of y4.1 s1) h0 hN y3 y2, bd_v]
  rfl
