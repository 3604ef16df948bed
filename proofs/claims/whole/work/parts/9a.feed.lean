/-! feed, on both sides -/
theorem an_255 (a : Int) : an_ a 255 = a % 256 := by
  have e : an_ a 255 = (BitVec.ofInt 32 a &&& 255#32).toInt := rfl
  have n : (BitVec.ofInt 32 a &&& 255#32).toNat = (a % 256).toNat := by
    rw [BitVec.toNat_and, BitVec.toNat_ofInt, show (255#32).toNat = 2 ^ 8 - 1 from rfl, Nat.and_two_pow_sub_one_eq_mod]
    omega
  rw [e, BitVec.toInt_eq_toNat_cond, n]
  split <;> omega
def by_ (x i : Int) : Int := w8_ (x / 2 ^ (24 - 8 * i).toNat)
theorem w8_w (x : Int) : w8_ (w8_ x) = w8_ x := by unfold w8_; omega
theorem w8_r (x : Int) : w8_ x % 256 = x % 256 := by unfold w8_; omega
section
variable {h : am_H} {T W I : Tx} {U : Int → Tx} {Q : Tx}
theorem Pp_put_st (s : ShC h) {n x k : Int} (e : rd_ h 0 1 = n) (n0 : 0 ≤ n) (n1 : n < 700) (k0 : 0 ≤ k) (k1 : k ≤ 24) : Pp_putOnTape_1 h 0 x k = Pp_putOnTape_1 (wr_ (wr_ h 1 n (w8_ (x / 2 ^ k.toNat))) 0 1 (n + 1)) 0 x (k - 8) := by
  rw [Pp_putOnTape_1_e]
  simp only [cr0_0 s, cl1 s, rd_wo (show (0 : Int) ≠ 1 by decide), e, w8_w]
  rw [if_neg (by omega), ck_t (by omega), if_neg (by omega), show k % 32 = k by omega, w32_i (x := n + 1) (by omega) (by omega), w32_i (x := k + -8) (by omega) (by omega), show k + -8 = k - 8 by omega]
  repeat rw [ck_t (by omega)]
theorem Pp_put_s (s : ShC h) {n : Int} (x : Int) (e : rd_ h 0 1 = n) (n0 : 0 ≤ n) (n1 : n + 4 ≤ 700) : ∃ h', Pp_putOnTape h 0 x = some (h', 0) ∧ h'.2 = h.2 ∧ rd_ h' 0 1 = n + 4 ∧ (∀ k, rd_ h' 1 k = if n ≤ k ∧ k < n + 4 then by_ x (k - n) else rd_ h 1 k) ∧ ∀ a k, a ≠ 1 → ¬ (a = 0 ∧ k = 1) → rd_ h' a k = rd_ h a k := by
  have s1 : ShC (wr_ (wr_ h 1 n (w8_ (x / 2 ^ (24 : Int).toNat))) 0 1 (n + 1)) := ShC_of rfl s
  have s2 : ShC (wr_ (wr_ (wr_ (wr_ h 1 n (w8_ (x / 2 ^ (24 : Int).toNat))) 0 1 (n + 1)) 1 (n + 1) (w8_ (x / 2 ^ ((24 - 8) : Int).toNat))) 0 1 ((n + 1) + 1)) := ShC_of rfl s
  have s3 : ShC (wr_ (wr_ (wr_ (wr_ (wr_ (wr_ h 1 n (w8_ (x / 2 ^ (24 : Int).toNat))) 0 1 (n + 1)) 1 (n + 1) (w8_ (x / 2 ^ ((24 - 8) : Int).toNat))) 0 1 ((n + 1) + 1)) 1 (n + 1 + 1) (w8_ (x / 2 ^ ((24 - 8 - 8) : Int).toNat))) 0 1 ((n + 1 + 1) + 1)) := ShC_of rfl s
  rw [Pp_putOnTape_e, Pp_put_st s e n0 (by omega) (by omega) (by omega), Pp_put_st s1 (rd_ws _ _ _ _) (by omega) (by omega) (by omega) (by omega), Pp_put_st s2 (rd_ws _ _ _ _) (by omega) (by omega) (by omega) (by omega), Pp_put_st s3 (rd_ws _ _ _ _) (by omega) (by omega) (by omega) (by omega), Pp_putOnTape_1_e, if_pos (by omega)]
  refine ⟨_, rfl, rfl, ?_, ?_, ?_⟩
  · rw [rd_ws]; omega
  · intro k
    simp only [rd_wo (show (1 : Int) ≠ 0 by decide), rd_wa]
    unfold by_
    by_cases c3 : k = n + 1 + 1 + 1
    · rw [if_pos c3, if_pos (by omega), show 24 - 8 * (k - n) = 24 - 8 - 8 - 8 by omega]
    · rw [if_neg c3]
      by_cases c2 : k = n + 1 + 1
      · rw [if_pos c2, if_pos (by omega), show 24 - 8 * (k - n) = 24 - 8 - 8 by omega]
      · rw [if_neg c2]
        by_cases c1 : k = n + 1
        · rw [if_pos c1, if_pos (by omega), show 24 - 8 * (k - n) = 24 - 8 by omega]
        · rw [if_neg c1]
          by_cases c0 : k = n
          · rw [if_pos c0, if_pos (by omega), show 24 - 8 * (k - n) = 24 by omega]
          · rw [if_neg c0, if_neg (by omega)]
  · intro a k p q
    simp only [rd_wr]
    repeat rw [if_neg (by omega)]
/-- the byte j of five words -/
def fw_ (a b c d e j : Int) : Int := if j < 4 then by_ a j else if j < 8 then by_ b (j - 4) else if j < 12 then by_ c (j - 8) else if j < 16 then by_ d (j - 12) else by_ e (j - 16)
def fd_ (Q : Tx) (a b c d e : Int) : Tx := fun f => if f = 4 then (fun j => if j = 4 then Q 4 4 + 20 else Q 4 j) else if f = 5 then (fun j => if Q 4 4 ≤ j then fw_ a b c d e (j - Q 4 4) else Q 5 j) else Q f
theorem fd_4 (Q : Tx) (a b c d e j : Int) : fd_ Q a b c d e 4 j = if j = 4 then Q 4 4 + 20 else Q 4 j := rfl
theorem fd_5 (Q : Tx) (a b c d e j : Int) : fd_ Q a b c d e 5 j = if Q 4 4 ≤ j then fw_ a b c d e (j - Q 4 4) else Q 5 j := rfl
theorem Pp_feed_f (g : CI h T W I U Q) (sv : SV T W I U Q) {a b c d e : Int} (k : ¬ Q 4 4 + 20 ≤ 700) : Pp_feed h 0 a b c d e = some (h, -1) := by
  have t0 := sv.2.2.2.2.2.2.1
  have tp := g.2.2.2.2.2.2.1.1
  rw [Pp_feed_e, tp, w32_i (by omega) (by omega), ck_t (by omega), if_neg k]
theorem Pp_feed_t (g : CI h T W I U Q) (sv : SV T W I U Q) {a b c d e : Int} (k : Q 4 4 + 20 ≤ 700) : ∃ h', Pp_feed h 0 a b c d e = some (h', Q 4 4 + 20) ∧ CI h' T W I U (fd_ Q a b c d e) ∧ Fc_ h h' := by
  have t0 := sv.2.2.2.2.2.2.1
  have tp := g.2.2.2.2.2.2.1
  obtain ⟨h1, a1, a2, a3, a4, a5⟩ := Pp_put_s g.1 a tp.1 t0.1 (by omega)
  obtain ⟨h2, b1, b2, b3, b4, b5⟩ := Pp_put_s (ShC_of a2 g.1) b a3 (by omega) (by omega)
  obtain ⟨h3, c1, c2, c3, c4, c5⟩ := Pp_put_s (ShC_of (b2.trans a2) g.1) c b3 (by omega) (by omega)
  obtain ⟨h4, d1, d2, d3, d4, d5⟩ := Pp_put_s (ShC_of (c2.trans (b2.trans a2)) g.1) d c3 (by omega) (by omega)
  obtain ⟨h5, e1, e2, e3, e4, e5⟩ := Pp_put_s (ShC_of (d2.trans (c2.trans (b2.trans a2))) g.1) e d3 (by omega) (by omega)
  have E2 : h5.2 = h.2 := e2.trans (d2.trans (c2.trans (b2.trans a2)))
  have R : ∀ x y, x ≠ 1 → ¬ (x = 0 ∧ y = 1) → rd_ h5 x y = rd_ h x y := fun x y p q => by rw [e5 x y p q, d5 x y p q, c5 x y p q, b5 x y p q, a5 x y p q]
  have N : rd_ h5 0 1 = Q 4 4 + 20 := by rw [e3]; omega
  have B : ∀ j, 0 ≤ j → j < Q 4 4 + 20 → rd_ h5 1 j = fd_ Q a b c d e 5 j := by
    intro j p q
    rw [fd_5, e4, d4, c4, b4, a4]
    unfold fw_
    by_cases x : Q 4 4 ≤ j
    · rw [if_pos x]
      by_cases x1 : j - Q 4 4 < 4
      · rw [if_pos x1, if_neg (by omega), if_neg (by omega), if_neg (by omega), if_neg (by omega), if_pos (by omega)]
      · rw [if_neg x1]
        by_cases x2 : j - Q 4 4 < 8
        · rw [if_pos x2, if_neg (by omega), if_neg (by omega), if_neg (by omega), if_pos (by omega)]
          congr 1; omega
        · rw [if_neg x2]
          by_cases x3 : j - Q 4 4 < 12
          · rw [if_pos x3, if_neg (by omega), if_neg (by omega), if_pos (by omega)]
            congr 1; omega
          · rw [if_neg x3]
            by_cases x4 : j - Q 4 4 < 16
            · rw [if_pos x4, if_neg (by omega), if_pos (by omega)]
              congr 1; omega
            · rw [if_neg x4, if_pos (by omega)]
              congr 1; omega
    · rw [if_neg x, if_neg (by omega), if_neg (by omega), if_neg (by omega), if_neg (by omega), if_neg (by omega)]
      exact tp.2 j p (by omega)
  refine ⟨h5, ?_, ?_⟩
  · rw [Pp_feed_e, tp.1, w32_i (by omega) (by omega), ck_t (by omega), if_pos k, ck_t (by omega), a1, bd_v, ck_t (by omega), b1, bd_v, ck_t (by omega), c1, bd_v, ck_t (by omega), d1, bd_v, ck_t (by omega), e1, bd_v, ck_t (by omega), N]
  · have f : fr_ h h5 (fun a => a = 0 ∨ a = 1) := ⟨E2, fun x q y => R x y (by omega) (by omega)⟩
    have F : fq_ h h5 (fun a => a = 0 ∨ a = 1) (fun _ => False) := fq_fr f
    have r0 : ∀ k, rf_ h5 0 k = rf_ h 0 k := F.2.2 0 (fun q => q)
    obtain ⟨s, ⟨t, y1, y2, y3, y4, y5, y6, y7⟩, w, s5, s6, im, -, fa, se, dd, lg⟩ := g
    refine ⟨⟨ShC_of E2 s, ⟨t, y1, by rw [r0]; exact y2, by rw [r0]; exact y3, TO_fq y4 F (by intro a p q; omega) (fun q => q), WO_fq y5 F (by intro a p q; omega) (fun q => q), ShT_q (fq_ln F) (F.2.2 _ (fun q => q)) y6, ShW_q (fq_ln F) (F.2.2 _ (fun q => q)) y7⟩, WO_fq w F (by intro a p q; omega) (fun q => q), ShW_q (fq_ln F) (F.2.2 56 (fun q => q)) s5, ShW_q (fq_ln F) (F.2.2 65 (fun q => q)) s6, ?_, ?_, ?_, ?_, ?_, ?_⟩, fq_mo F (fun a q => by omega) (fun a q => q.elim), r0 16⟩
    · rw [fd_4, if_neg (by omega), R 0 10 (by omega) (by omega)]
      exact ⟨im.1, fun q => WO_fq (im.2 q) F (by intro a p q; omega) (fun q => q)⟩
    · rw [fd_4, if_pos rfl]
      exact ⟨N, B⟩
    · rw [fd_4, fd_4, if_neg (by omega), if_neg (by omega), R 0 2 (by omega) (by omega), R 0 3 (by omega) (by omega)]; exact fa
    · obtain ⟨z1, z2, z3⟩ := SE_R se (h' := h5) (fun a p q k => R a k (by omega) (by omega))
      exact ⟨z1, z2, z3⟩
    · rw [fd_4, if_neg (by omega)]
      exact DO_R dd (fun a p q k => R a k (by omega) (by omega))
    · intro i p q
      rw [R 4 i (by omega) (by omega)]; exact lg i p q
end
