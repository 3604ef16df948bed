/-! a pile's ranks; its number on both sides -/
def mc_ (R : Int → Int) (k : Int) : Nat → Int → Int
  | 0, _ => 0
  | n + 1, i => (if R k ≤ R i then 0 else 1) + mc_ R k n (i + 1)
theorem mc_b (R : Int → Int) (k : Int) : ∀ (n : Nat) (i : Int), 0 ≤ mc_ R k n i ∧ mc_ R k n i ≤ n := by
  intro n
  induction n with
  | zero => intro i; exact ⟨by unfold mc_; omega, by unfold mc_; omega⟩
  | succ n ih =>
    intro i
    have := ih (i + 1)
    unfold mc_
    split <;> omega
theorem mc_u (R : Int → Int) (k : Int) : ∀ (n : Nat) (i : Int), i ≤ k → k < i + n → mc_ R k n i < n := by
  intro n
  induction n with
  | zero => intro i a b; omega
  | succ n ih =>
    intro i a b
    unfold mc_
    by_cases e : k = i
    · rw [e, if_pos (Int.le_refl _)]
      have := mc_b R i n (i + 1)
      omega
    · have := ih (i + 1) (by omega) (by omega)
      split <;> omega
theorem mc_m {R : Int → Int} {a b : Int} (h : R a ≤ R b) : ∀ (n : Nat) (i : Int), mc_ R a n i ≤ mc_ R b n i := by
  intro n
  induction n with
  | zero => intro i; exact Int.le_refl _
  | succ n ih =>
    intro i
    have := ih (i + 1)
    unfold mc_
    by_cases q : R b ≤ R i
    · rw [if_pos q, if_pos (by omega)]; omega
    · rw [if_neg q]
      split <;> omega
theorem mc_l {R : Int → Int} {a b : Int} (h : R a < R b) : ∀ (n : Nat) (i : Int), i ≤ a → a < i + n → mc_ R a n i < mc_ R b n i := by
  intro n
  induction n with
  | zero => intro i x y; omega
  | succ n ih =>
    intro i x y
    unfold mc_
    by_cases e : a = i
    · have := mc_m (R := R) (a := a) (b := b) (by omega) n (i + 1)
      rw [← e, if_pos (Int.le_refl _), if_neg (by omega)]
      rw [e]
      rw [e] at this
      omega
    · have := ih (i + 1) (by omega) (by omega)
      by_cases q : R b ≤ R i
      · rw [if_pos q, if_pos (by omega)]; omega
      · rw [if_neg q]
        split <;> omega
theorem ml_v {R : Int → Int} {k : Int} : ∀ (n : Nat) (i l : Int), 0 ≤ l → l + n ≤ 1000 → ml_ R k n i l = l + mc_ R k n i := by
  intro n
  induction n with
  | zero => intro i l _ _; unfold ml_ mc_; omega
  | succ n ih =>
    intro i l l0 l1
    unfold ml_ mc_
    by_cases q : R k ≤ R i
    · rw [if_pos q, if_pos q, w32_i (by omega) (by omega), ih (i + 1) _ (by omega) (by omega)]; omega
    · rw [if_neg q, if_neg q, w32_i (by omega) (by omega), ih (i + 1) _ (by omega) (by omega)]; omega
def Rk (T W : Tx) (p : Int) : Int → Int := fun k => mc_ (Zs T W p) k (W 0 p).toNat 0
def Fw (T W : Tx) (p w : Int) : Int → Int := if w = 1 then Fs T W p else fun _ => 0
section
variable {h : am_H} {T W I : Tx} {U : Int → Tx} {Q : Tx}
theorem Rk_v (v : WV T W) {p : Int} (p0 : 0 ≤ p) (p1 : p < T 0 1) : VP (W 0 p) (Rk T W p) ∧ ∀ i j, 0 ≤ i → i < W 0 p → 0 ≤ j → j < W 0 p → (Zs T W p i ≤ Zs T W p j ↔ Rk T W p i ≤ Rk T W p j) := by
  obtain ⟨v0, v1, v2, v3, v4, v5, v6, v7, v8, v9, v10, v11⟩ := id v
  have hh := v1 p p0 p1
  have dis : ∀ i j, 0 ≤ i → i < W 0 p → 0 ≤ j → j < W 0 p → Zs T W p i = Zs T W p j → i = j := by
    intro i j i0 i1 j0 j1 e
    unfold Zs at e
    rw [if_pos ⟨p0, p1, i0, i1⟩, if_pos ⟨p0, p1, j0, j1⟩] at e
    exact v5 p i j p0 p1 i0 i1 j0 j1 e
  have iff : ∀ i j, 0 ≤ i → i < W 0 p → 0 ≤ j → j < W 0 p → (Zs T W p i ≤ Zs T W p j ↔ Rk T W p i ≤ Rk T W p j) := by
    intro i j i0 i1 j0 j1
    refine ⟨fun q => mc_m q _ _, fun q => ?_⟩
    apply Classical.byContradiction
    intro z
    have := mc_l (R := Zs T W p) (a := j) (b := i) (by omega) (W 0 p).toNat 0 (by omega) (by omega)
    unfold Rk at q
    omega
  refine ⟨⟨fun k k0 k1 => ?_, fun i j i0 i1 j0 j1 e => ?_⟩, iff⟩
  · have a := mc_b (Zs T W p) k (W 0 p).toNat 0
    have b := mc_u (Zs T W p) k (W 0 p).toNat 0 (by omega) (by omega)
    unfold Rk
    omega
  · have a := (iff i j i0 i1 j0 j1).mpr (by omega)
    have b := (iff j i j0 j1 i0 i1).mpr (by omega)
    exact dis i j i0 i1 j0 j1 (by omega)
theorem Fs_b (v : WV T W) {p : Int} (p0 : 0 ≤ p) (p1 : p < T 0 1) : VB (W 0 p) (Fs T W p) := by
  obtain ⟨v0, v1, v2, v3, v4, v5, v6, v7, v8, v9, v10, v11⟩ := id v
  intro k k0 k1
  unfold Fs
  rw [if_pos ⟨p0, p1, k0, k1⟩]
  have := v2 p k p0 p1 k0 k1
  exact (v6 _ this.1 this.2).1
theorem Fw_b (v : WV T W) {p w : Int} (p0 : 0 ≤ p) (p1 : p < T 0 1) : VB (W 0 p) (Fw T W p w) := by
  unfold Fw
  split
  · exact Fs_b v p0 p1
  · exact VB_0 _
theorem Fw_0 {p w : Int} : w ≠ 1 → eR (W 0 p) (Fw T W p w) (fun _ => 0) := by
  intro q k _ _
  unfold Fw
  rw [if_neg q]
/-- the class's number of a pile -/
def stC (T W : Tx) (p w : Int) : Int := sC_ w (W 0 p) (Rk T W p) (Fw T W p w)
def stM (T W : Tx) (p w : Int) : Int := sM_ (W 0 p) (Rk T W p) (Fw T W p w)
theorem Wo_state_lp {p w b : Int} (v : WV T W) (p0 : 0 ≤ p) (p1 : p < T 0 1) : ∀ (n : Nat) (k f : Int) (h : am_H), WO h b T W → 0 ≤ k → k + n = W 0 p → RW h (b + 8) k (Zs T W p) → ∃ h', Wo_state_1 h b p w f k = Wo_state_1 h' b p w (ff_ (Fs T W p) n k f) (W 0 p) ∧ RW h' (b + 8) (W 0 p) (Zs T W p) ∧ WO h' b T W ∧ fr_ h h' (fun a => a = b + 8) := by
  intro n
  induction n with
  | zero =>
    intro k f h o k0 hk r
    have e : k = W 0 p := by omega
    subst e
    exact ⟨h, rfl, r, o, fr_refl _ _⟩
  | succ n ih =>
    intro k f h o k0 hk r
    have v0 := v.1
    have hh := v.2.1 p p0 p1
    have b0 := o.1.1
    have f1 : fr_ h (wr_ h (b + 8) k (Zs T W p k)) (fun a => a = b + 8) := fr_wr rfl
    have o1 := WO_fr o f1 (by intro a x y; omega)
    have r1 : RW (wr_ h (b + 8) k (Zs T W p k)) (b + 8) (k + 1) (Zs T W p) := by
      intro j j0 j1
      rw [rd_wa]
      by_cases q : j = k
      · rw [if_pos q, q]
      · rw [if_neg q, r j j0 (by omega)]
    obtain ⟨h', x1, x2, x3, x4⟩ := ih (k + 1) (or_ f (w32 (Fs T W p k * 2 ^ (k % 32 : Int).toNat))) _ o1 (by omega) (by omega) r1
    refine ⟨h', ?_, x2, x3, fr_tr f1 x4⟩
    obtain ⟨-, s6, -, -, -, -, -, -, s13, l1, -, -, -, -, -, -, l8⟩ := id o.1
    rw [Wo_state_1_e]
    simp only [s6, s13, l1, l8, o.2.2.1 p p0 p1]
    rw [ck_t (by omega), ck_t (by omega), ck_t (by omega), if_neg (by omega), ck_t (by omega), ck_t (by omega), Wo_sizeAt_s o v, bd_v, ck_t (by omega)]
    simp only [l8]
    rw [ck_t (by omega), ck_t (by omega), Wo_faceAt_s o1 v, bd_v, w32_i (x := k + 1) (by omega) (by omega), x1]
    rfl
theorem Wo_state_s {p w b : Int} (v : WV T W) (p0 : 0 ≤ p) (p1 : p < T 0 1) (w0 : w = 0 ∨ w = 1) (o : WO h b T W) : ∃ h', Wo_state h b p w = some (h', stC T W p w) ∧ WO h' b T W ∧ fr_ h h' (fun a => a = b + 8) := by
  have v0 := v.1
  have hh := v.2.1 p p0 p1
  have b0 := o.1.1
  obtain ⟨h', x1, x2, x3, x4⟩ := Wo_state_lp (w := w) v p0 p1 (W 0 p).toNat 0 0 h o (by omega) (by omega) (fun j j0 j1 => by omega)
  refine ⟨h', ?_, x3, x4⟩
  obtain ⟨-, s6, -, -, -, -, -, -, s13, l1, -, -, -, -, -, -, l8⟩ := id x3.1
  obtain ⟨rv, ri⟩ := Rk_v v p0 p1
  have eo : oo_ (Zs T W p) (W 0 p - 1).toNat 1 0 = oC_ (W 0 p) (Rk T W p) := by
    unfold oC_
    by_cases q : W 0 p = 0
    · rw [q]; rfl
    · exact oo_c (N := W 0 p) ri _ _ _ (by omega) (by omega)
  have fb := oF_ (by omega) hh.2 (Fs_b v p0 p1)
  have ov := oV_ (by omega) hh.2 rv
  rw [Wo_state_e, x1, Wo_state_1_e]
  simp only [s6, s13, l1, l8, x3.2.2.1 p p0 p1]
  rw [ck_t (by omega), ck_t (by omega), ck_t (by omega), if_pos (by omega), ck_t (by omega), ck_t (by omega), ck_t (by omega), ck_t (by omega), Pp_orderOf_s (by omega) (by omega) (by omega) (by omega) x2, bd_v, eo, fb.2.2.2]
  simp only [s6, l1, x3.2.2.1 p p0 p1]
  unfold stC sC_ Fw
  rcases w0 with e | e
  · rw [if_neg (by omega), if_neg (by omega)]
  · have n := (oN_ (by omega) hh.2 ov.1.1 ov.1.2 fb.1.1 fb.1.2).1
    rw [if_pos (by omega), ck_t (by omega), ck_t (by omega), ck_t (by omega), if_pos e, if_pos e, n]
    rfl
/-- the reference's number of a pile -/
theorem mR_q {h h' : am_H} (z : fzR h h') : Mq h h' := Mq_fz z (fun x q => by unfold mQA; omega) (fun k q => by unfold mQF; omega)
theorem Mo_codeOfPile_in {p w H k : Int} (v : WV T W) (p0 : 0 ≤ p) (p1 : p < T 0 1) (eH : H = W 0 p) (k0 : 0 ≤ k) (k1 : k < H) : ∀ (n : Nat) (i l : Int) (h : am_H), MN h T W I U Q → 0 ≤ i → i + n = H → RW h 128 k (Rk T W p) → rd_ h 128 k = l → ∃ h', Mo_codeOfPile_3 h 94 p w H k i = Mo_codeOfPile_3 h' 94 p w H k H ∧ RW h' 128 k (Rk T W p) ∧ rd_ h' 128 k = ml_ (Zs T W p) k n i l ∧ MN h' T W I U Q ∧ fr_ h h' (fun a => a = 128) := by
  intro n
  induction n with
  | zero =>
    intro i l h g i0 hi r e
    have q : i = H := by omega
    subst q
    exact ⟨h, rfl, r, e, g, fr_refl _ _⟩
  | succ n ih =>
    intro i l h g i0 hi r e
    have v0 := v.1
    have hh := v.2.1 p p0 p1
    have step : ∀ z : Int, ∃ h', Mo_codeOfPile_3 (wr_ h 128 k z) 94 p w H k (i + 1) = Mo_codeOfPile_3 h' 94 p w H k H ∧ RW h' 128 k (Rk T W p) ∧ rd_ h' 128 k = ml_ (Zs T W p) k n (i + 1) z ∧ MN h' T W I U Q ∧ fr_ h h' (fun a => a = 128) := by
      intro z
      have f1 : fr_ h (wr_ h 128 k z) (fun a => a = 128) := fr_wr rfl
      have g1 := MN_q g v (mR_q (fz_fr f1 (fun _ q => q) (by omega)))
      obtain ⟨h', x1, x2, x3, x4, x5⟩ := ih (i + 1) z (wr_ h 128 k z) g1 (by omega) (by omega) (fun j j0 j1 => by rw [rd_wk (by omega)]; exact r j j0 j1) (rd_ws _ _ _ _)
      exact ⟨h', x1, x2, x3, x4, fr_tr f1 x5⟩
    rw [Mo_codeOfPile_3_e, if_neg (by omega)]
    simp only [mr69 g.1, ml128 g.1]
    rw [ck_t (by omega), ck_t (by omega), ck_t (by omega), ck_t (by omega), Mo_sizeAt_s g.1 g.2.1 g.2.2.2.1 v p0 p1, bd_v, ck_t (by omega), Mo_sizeAt_s g.1 g.2.1 g.2.2.2.1 v p0 p1, bd_v, e, w32_i (x := i + 1) (by omega) (by omega)]
    simp only [ml128 g.1]
    unfold ml_
    by_cases q : Zs T W p k ≤ Zs T W p i
    · rw [if_pos q, if_pos q, ck_t (by omega), ck_t (by omega)]
      exact step _
    · rw [if_neg q, if_neg q, ck_t (by omega), ck_t (by omega)]
      exact step _
theorem w32_f {w F : Int} (w0 : w = 0 ∨ w = 1) (f : F = 0 ∨ F = 1) : w32 (w * F) = if w = 1 then F else 0 := by
  rcases w0 with e | e <;> rcases f with q | q <;> rw [e, q] <;> decide
theorem Mo_codeOfPile_lp {p w H : Int} (v : WV T W) (p0 : 0 ≤ p) (p1 : p < T 0 1) (w0 : w = 0 ∨ w = 1) (eH : H = W 0 p) : ∀ (n : Nat) (k f : Int) (h : am_H), MN h T W I U Q → 0 ≤ k → k + n = H → RW h 128 k (Rk T W p) → rd_ h 94 70 = f → ∃ h', Mo_codeOfPile_1 h 94 p w H k = Mo_codeOfPile_1 h' 94 p w H H ∧ RW h' 128 H (Rk T W p) ∧ rd_ h' 94 70 = ff_ (Fw T W p w) n k f ∧ MN h' T W I U Q ∧ fzR h h' := by
  intro n
  induction n with
  | zero =>
    intro k f h g k0 hk r e
    have q : k = H := by omega
    subst q
    exact ⟨h, rfl, r, e, g, fz_refl _ _ _⟩
  | succ n ih =>
    intro k f h g k0 hk r e
    have v0 := v.1
    have hh := v.2.1 p p0 p1
    have f1 : fr_ h (wr_ h 128 k 0) (fun a => a = 128) := fr_wr rfl
    have g1 := MN_q g v (mR_q (fz_fr f1 (fun _ q => q) (by omega)))
    obtain ⟨h2, x1, x2, x3, x4, x5⟩ := Mo_codeOfPile_in (w := w) v p0 p1 eH k0 (by omega) H.toNat 0 0 (wr_ h 128 k 0) g1 (by omega) (by omega) (fun j j0 j1 => by rw [rd_wk (by omega)]; exact r j j0 j1) (rd_ws _ _ _ _)
    have f2 := fr_tr f1 x5
    have e2 : rd_ h2 94 70 = f := by rw [f2.2 94 (by omega)]; exact e
    have z3 : fzR h2 (wr_ h2 94 70 (or_ f (w32 (Fw T W p w k * 2 ^ (k % 32 : Int).toNat)))) := fz_wf rfl
    have g3 := MN_q x4 v (mR_q z3)
    have fb := Fs_b v p0 p1 k k0 (by omega)
    have r3 : RW (wr_ h2 94 70 (or_ f (w32 (Fw T W p w k * 2 ^ (k % 32 : Int).toNat)))) 128 (k + 1) (Rk T W p) := by
      intro j j0 j1
      rw [rd_wo (by omega)]
      by_cases q : j = k
      · rw [q, x3, ml_v _ _ _ (by omega) (by omega), eH]
        unfold Rk
        omega
      · exact x2 j j0 (by omega)
    obtain ⟨h', y1, y2, y3, y4, y5⟩ := ih (k + 1) _ _ g3 (by omega) (by omega) r3 (rd_ws _ _ _ _)
    refine ⟨h', ?_, y2, y3, y4, fzR_tr (fz_fr f2 (fun _ q => q) (by omega)) (fzR_tr z3 y5)⟩
    have ef : w32 (w * Fs T W p k) = Fw T W p w k := by
      rw [w32_f w0 fb]
      unfold Fw
      split <;> rfl
    rw [Mo_codeOfPile_1_e, if_neg (by omega)]
    simp only [mr69 g.1, ml128 g.1]
    rw [ck_t (by omega), ck_t (by omega), ck_t (by omega), x1, Mo_codeOfPile_3_e, if_pos (by omega), ck_t (by omega), ck_t (by omega), Mo_faceAt_s x4.1 x4.2.2.2.1 v p0 p1 k0 (by omega), bd_v, ck_t (by omega), e2, ef, w32_i (x := k + 1) (by omega) (by omega), y1]
theorem Mo_codeOfPile_s {p w : Int} (g : MN h T W I U Q) (v : WV T W) (p0 : 0 ≤ p) (p1 : p < T 0 1) (w0 : w = 0 ∨ w = 1) : ∃ h', Mo_codeOfPile h 94 p w = some (h', stM T W p w) ∧ RW h' 128 (W 0 p) (Rk T W p) ∧ MN h' T W I U Q ∧ fzR h h' := by
  have v0 := v.1
  have hh := v.2.1 p p0 p1
  have z0 : fzR h (wr_ h 94 70 0) := fz_wf rfl
  have g0 := MN_q g v (mR_q z0)
  obtain ⟨h', x1, x2, x3, x4, x5⟩ := Mo_codeOfPile_lp (w := w) v p0 p1 w0 rfl (W 0 p).toNat 0 0 (wr_ h 94 70 0) g0 (by omega) (by omega) (fun j j0 j1 => by omega) (rd_ws _ _ _ _)
  refine ⟨h', ?_, x2, x4, fzR_tr z0 x5⟩
  have fb := oF_ (by omega) hh.2 (Fw_b (w := w) v p0 p1)
  have ov := oV_ (by omega) hh.2 (Rk_v v p0 p1).1
  have y0 : rd_ h 120 p = W 0 p := by have := g.2.2.2.1.2.1 p p0 p1; simpa using this
  have pv := P2_v (by omega) hh.2
  have pm := P2_m (by omega) hh.2 ov.2.1.1 ov.2.1.2 fb.1.1 fb.1.2
  rw [Mo_codeOfPile_e]
  simp only [mr52 g.1, ml120 g.1, y0]
  rw [ck_t (by omega), ck_t (by omega), ck_t (by omega), ck_t (by omega), x1, Mo_codeOfPile_1_e, if_pos (by omega), ck_t (by omega), Mo_codeOf_s x4.1 (by omega) hh.2 x3 x2, bd_v, fb.2.2.2]
  unfold stM sM_ cM_
  have e6 : w32 (1 * 2 ^ (W 0 p % 32).toNat) = P2_ (W 0 p) := pv.2.2.2.1
  have e7 : cm_ (Rk T W p) (W 0 p) (W 0 p).toNat 0 0 = oM_ (W 0 p) (Rk T W p) := rfl
  rw [e6, e7, w32_i (x := oM_ (W 0 p) (Rk T W p) * P2_ (W 0 p)) (by omega) (by omega), w32_i (by omega) (by omega)]
end
