/-! minutes, in the class -/
theorem zr_6 (T : Tx) (dr : Int) (W : Tx) (m p d : Int) : zr_ T dr W m p d 6 0 = W 6 0 := by
  unfold zr_ nu_
  split <;> split <;> rfl
theorem zt_6 (T : Tx) (dr nh : Int) (W : Tx) (m p d : Int) : zt_ T dr nh W m p d 6 0 = W 6 0 := by
  rw [zt_r]
  split
  · rfl
  · exact zr_6 T dr W m p d
theorem zk_6 (T : Tx) (M : Int → Int) (W : Tx) (i : Int) : zk_ T M W i 6 0 = W 6 0 := by
  unfold zk_
  split
  · rfl
  · exact zt_6 ..
theorem zk_v {T W : Tx} {M : Int → Int} (v : WV T W) (u : TV T) {i : Int} (h1 : 0 ≤ i) (h2 : i < T 0 3) : WV T (zk_ T M W i) := by
  have a := u.2.2.1 i h1 h2
  unfold zk_
  split
  · exact v
  · exact zt_v v _ _ (by omega) (by omega) (by omega) (by omega)
/-- a turn told, in its minute -/
def zs_ (T : Tx) (M : Int → Int) (m0 i : Int) (W : Tx) : Tx := if T 11 i = m0 then (if M 4 = 3 then zk_ T M (zk_ T M W i) i else zk_ T M W i) else W
theorem zs_6 (T : Tx) (M : Int → Int) (m0 i : Int) (W : Tx) : zs_ T M m0 i W 6 0 = W 6 0 := by
  unfold zs_
  split
  · split
    · rw [zk_6, zk_6]
    · rw [zk_6]
  · rfl
theorem zs_v {T W : Tx} {M : Int → Int} (v : WV T W) (u : TV T) {i : Int} (h1 : 0 ≤ i) (h2 : i < T 0 3) (m0 : Int) : WV T (zs_ T M m0 i W) := by
  unfold zs_
  split
  · split
    · exact zk_v (zk_v v u h1 h2) u h1 h2
    · exact zk_v v u h1 h2
  · exact v
def zf_ (T : Tx) (M : Int → Int) (m0 : Int) (n : Nat) (i : Int) (W : Tx) : Tx := fo_ (zs_ T M m0) n i W
theorem zf_idle {T : Tx} {M : Int → Int} (u : TV T) {m0 : Int} (hm : 99 < m0) : ∀ (n : Nat) (i : Int) (W : Tx), 0 ≤ i → i + n = T 0 3 → zf_ T M m0 n i W = W := by
  intro n
  induction n with
  | zero => intro i W _ _; rfl
  | succ n ih =>
    intro i W h0 hn
    have a := u.2.2.1 i h0 (by omega)
    have := ih (i + 1) W (by omega) (by omega)
    unfold zf_ at *
    unfold fo_
    have e : zs_ T M m0 i W = W := by unfold zs_; rw [if_neg (by omega)]
    rw [e, this]
/-- a minute; some minutes -/
def zp_ (T : Tx) (M : Int → Int) (W : Tx) : Tx := up_ (zf_ T M (W 6 0) (T 0 3).toNat 0 W) 6 0 (w32 (W 6 0 + 1))
def zn_ (T : Tx) (M : Int → Int) : Nat → Tx → Tx
  | 0, W => W
  | n + 1, W => zn_ T M n (zp_ T M W)
theorem zf_6 (T : Tx) (M : Int → Int) (m0 : Int) : ∀ (n : Nat) (i : Int) (W : Tx), zf_ T M m0 n i W 6 0 = W 6 0 := by
  intro n
  induction n with
  | zero => intro i W; rfl
  | succ n ih => intro i W; exact (ih (i + 1) _).trans (zs_6 ..)
theorem zf_v {T : Tx} {M : Int → Int} (u : TV T) (m0 : Int) : ∀ (n : Nat) (i : Int) (W : Tx), WV T W → 0 ≤ i → i + n = T 0 3 → WV T (zf_ T M m0 n i W) := by
  intro n
  induction n with
  | zero => intro i W v _ _; exact v
  | succ n ih => intro i W v h0 hn; exact ih (i + 1) _ (zs_v v u h0 (by omega) m0) (by omega) (by omega)
theorem zp_v {T W : Tx} {M : Int → Int} (v : WV T W) (u : TV T) : WV T (zp_ T M W) := by
  unfold zp_
  have := u.1
  have a := mi_v (zf_v (M := M) u (W 6 0) (T 0 3).toNat 0 W v (by omega) (by omega))
  rw [zf_6] at a
  exact a
theorem zn_v {T : Tx} {M : Int → Int} (u : TV T) : ∀ (n : Nat) (W : Tx), WV T W → WV T (zn_ T M n W) := by
  intro n
  induction n with
  | zero => intro W v; exact v
  | succ n ih => intro W v; exact ih _ (zp_v v u)
section
variable {t w : Int} {T : Tx} {M : Int → Int}
theorem Mi_pass_lp (u : TV T) (t0 : 0 ≤ t) (ht : t + 19 < 47) (hw : 47 ≤ w) (hw2 : w ≤ 56) (hM : MV M) (m0 : Int) : ∀ (n : Nat) (i : Int) (V : Tx) (h : am_H), MiO h t w M → WO h w T V → TO h t T → WV T V → V 6 0 = m0 → 0 ≤ i → i + n = T 0 3 →
    ∃ h', Mi_pass_4 h 76 i = some (h', 0) ∧ WO h' w T (up_ (zf_ T M m0 n i V) 6 0 (w32 (m0 + 1))) ∧ MiO h' t w M ∧ fq_ h h' (mA w) (fun a => a = 77) := by
  have u0 := u.1
  intro n
  induction n with
  | zero =>
    intro i V h g o q v e hi hn
    have w0 := o.1.1
    have q1 := q.2.1.2.1
    have e3 := o.2.1.2.2.2.1
    have F : fr_ h (wr_ h w 3 (w32 (m0 + 1))) (mA w) := fr_wr (Or.inr (Or.inr ⟨by omega, by omega⟩))
    refine ⟨wr_ h w 3 (w32 (m0 + 1)), ?_, WO_mi o _, MiO_fr g F (by unfold mA; omega), fq_fr F⟩
    rw [Mi_pass_4_e]
    simp only [g.2.1, g.2.2.1, q1, e3, e]
    repeat rw [ck_t (by omega)]
    rw [if_pos (by omega)]
  | succ n ih =>
    intro i V h g o q v e hi hn
    have w0 := o.1.1
    have q1 := q.2.1.2.1
    have e3 := o.2.1.2.2.2.1
    have a := u.2.2.1 i hi (by omega)
    have c := (q.2.2.2.2.1 i hi (by omega)).2.2.2
    have r13 := q.1.2.2.2.2.2.2.2.2.1
    have m16 : ln_ h (t + 16) = 14 := q.1.2.2.2.2.2.2.2.2.2.2.2.2.2.2.2.2.2.2.1
    rw [Mi_pass_4_e]
    simp only [g.2.1, g.2.2.1, q1, e3, e, r13, m16, c]
    repeat rw [ck_t (by omega)]
    rw [if_neg (by omega)]
    repeat rw [ck_t (by omega)]
    by_cases c1 : 99 < m0
    · rw [if_pos c1, zf_idle u c1 _ _ _ hi hn]
      repeat rw [ck_t (by omega)]
      have F : fr_ h (wr_ h w 3 (w32 (m0 + 1))) (mA w) := fr_wr (Or.inr (Or.inr ⟨by omega, by omega⟩))
      exact ⟨wr_ h w 3 (w32 (m0 + 1)), rfl, WO_mi o _, MiO_fr g F (by unfold mA; omega), fq_fr F⟩
    · rw [if_neg c1]
      repeat rw [ck_t (by omega)]
      have eu : zf_ T M m0 (n + 1) i V = zf_ T M m0 n (i + 1) (zs_ T M m0 i V) := rfl
      rw [eu, w32_i (x := i + 1) (by omega) (by omega)]
      unfold zs_
      by_cases c2 : T 11 i = m0
      · rw [if_neg (by omega), if_pos c2]
        obtain ⟨ha, a1, a2, a3, a4⟩ := Mi_takeTurn_s g o q v u t0 ht hw hw2 hM hi (by omega)
        have qa := TO_fq q a4 (mA_t ht hw) (by omega)
        have va := zk_v (M := M) v u hi (by omega)
        rw [a1, bd_v]
        repeat rw [ck_t (by omega)]
        rw [a3.2.2.2.2.2 4 (by omega) (by omega)]
        by_cases c3 : M 4 = 3
        · rw [if_neg (by omega), if_pos c3]
          obtain ⟨hb, b1, b2, b3, b4⟩ := Mi_takeTurn_s a3 a2 qa va u t0 ht hw hw2 hM hi (by omega)
          have qb := TO_fq qa b4 (mA_t ht hw) (by omega)
          have vb := zk_v (M := M) va u hi (by omega)
          rw [b1, bd_v]
          obtain ⟨h', i1, i2, i3, i4⟩ := ih (i + 1) _ hb b3 b2 qb vb (by rw [zk_6, zk_6]; exact e) (by omega) (by omega)
          exact ⟨h', i1, i2, i3, fq_tr a4 (fq_tr b4 i4)⟩
        · rw [if_pos c3, if_neg c3]
          obtain ⟨h', i1, i2, i3, i4⟩ := ih (i + 1) _ ha a3 a2 qa va (by rw [zk_6]; exact e) (by omega) (by omega)
          exact ⟨h', i1, i2, i3, fq_tr a4 i4⟩
      · rw [if_pos c2, if_neg c2]
        exact ih (i + 1) V h g o q v e (by omega) (by omega)
theorem Mi_pass_s (u : TV T) (t0 : 0 ≤ t) (ht : t + 19 < 47) (hw : 47 ≤ w) (hw2 : w ≤ 56) (hM : MV M) {W : Tx} {h : am_H} (g : MiO h t w M) (o : WO h w T W) (q : TO h t T) (v : WV T W) :
    ∃ h', Mi_pass h 76 = some (h', 0) ∧ WO h' w T (zp_ T M W) ∧ MiO h' t w M ∧ fq_ h h' (mA w) (fun a => a = 77) := by
  have u0 := u.1
  rw [Mi_pass_e]
  simp only [g.2.1, g.2.2.1]
  rw [ck_t (by omega), if_neg (by omega), ck_t (by omega), if_neg (by omega)]
  exact Mi_pass_lp u t0 ht hw hw2 hM (W 6 0) (T 0 3).toNat 0 W h g o q v rfl (by omega) (by omega)
theorem Mi_passAll_lp (u : TV T) (t0 : 0 ≤ t) (ht : t + 19 < 47) (hw : 47 ≤ w) (hw2 : w ≤ 56) (hM : MV M) {N : Int} (hN : N ≤ 1000) : ∀ (n : Nat) (i : Int) (W : Tx) (h : am_H), MiO h t w M → WO h w T W → TO h t T → WV T W → 0 ≤ i → i + n = N →
    ∃ h', Mi_passAll_1 h 76 N i = some (h', 0) ∧ WO h' w T (zn_ T M n W) ∧ MiO h' t w M ∧ fq_ h h' (mA w) (fun a => a = 77) := by
  intro n
  induction n with
  | zero =>
    intro i W h g o q v hi hn
    refine ⟨h, ?_, o, g, fq_refl _ _ _⟩
    rw [Mi_passAll_1_e, if_pos (by omega)]
  | succ n ih =>
    intro i W h g o q v hi hn
    obtain ⟨ha, a1, a2, a3, a4⟩ := Mi_pass_s u t0 ht hw hw2 hM g o q v
    obtain ⟨h', i1, i2, i3, i4⟩ := ih (i + 1) _ ha a3 a2 (TO_fq q a4 (mA_t ht hw) (by omega)) (zp_v v u) (by omega) (by omega)
    refine ⟨h', ?_, i2, i3, fq_tr a4 i4⟩
    rw [Mi_passAll_1_e, if_neg (by omega), ck_t (by omega), a1, bd_v, w32_i (by omega) (by omega), i1]
theorem Mi_passAll_s (u : TV T) (t0 : 0 ≤ t) (ht : t + 19 < 47) (hw : 47 ≤ w) (hw2 : w ≤ 56) (hM : MV M) {N : Int} (h0 : 0 ≤ N) (hN : N ≤ 1000) {W : Tx} {h : am_H} (g : MiO h t w M) (o : WO h w T W) (q : TO h t T) (v : WV T W) :
    ∃ h', Mi_passAll h 76 N = some (h', 0) ∧ WO h' w T (zn_ T M N.toNat W) ∧ MiO h' t w M ∧ fq_ h h' (mA w) (fun a => a = 77) := by
  rw [Mi_passAll_e]
  exact Mi_passAll_lp u t0 ht hw hw2 hM hN N.toNat 0 W h g o q v (by omega) (by omega)
end
