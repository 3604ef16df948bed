/-! feed, in the reference -/
section
variable {h : am_H} {T W I : Tx} {U : Int → Tx} {Q : Tx}
theorem fd_13 (s : ShM h) {n : Int} (e : rd_ h 94 1 = n) (n0 : 0 ≤ n) (n1 : n + 20 ≤ 700) {x1 x2 x3 x4 x5 k i w : Int} (k0 : 0 ≤ k) (k1 : k < 20) (i0 : 0 ≤ i) (i1 : i < 4) (q : k % 4 = i) : Mo_feed_13 h 94 x1 x2 x3 x4 x5 k w = Mo_feed_3 (wr_ h 95 (n + k) (by_ w i % 256)) 94 x1 x2 x3 x4 x5 (k + 1) := by
  rw [Mo_feed_13_e, Int.tmod_eq_emod_of_nonneg k0, q]
  simp only [mr0 s, ml95 s, e]
  rw [w32_i (x := n + k) (by omega) (by omega), w32_i (x := 8 * i) (by omega) (by omega), w32_i (x := 24 - 8 * i) (by omega) (by omega), w32_i (x := k + 1) (by omega) (by omega), an_255, show (24 - 8 * i) % 32 = 24 - 8 * i by omega]
  unfold by_
  rw [w8_r]
  repeat rw [ck_t (by omega)]
theorem fd_3 (s : ShM h) {n : Int} (e : rd_ h 94 1 = n) (n0 : 0 ≤ n) (n1 : n + 20 ≤ 700) {x1 x2 x3 x4 x5 k : Int} (k0 : 0 ≤ k) (k1 : k < 20) : Mo_feed_3 h 94 x1 x2 x3 x4 x5 k = Mo_feed_3 (wr_ h 95 (n + k) (fw_ x1 x2 x3 x4 x5 k % 256)) 94 x1 x2 x3 x4 x5 (k + 1) := by
  rw [Mo_feed_3_e, if_neg (by omega)]
  unfold fw_
  by_cases c1 : k < 4
  · rw [if_neg (by omega), if_pos c1, fd_13 s e n0 n1 k0 k1 (i := k) (by omega) (by omega) (by omega)]
  · rw [if_pos (c := 4 ≤ k) (by omega), if_neg c1]
    by_cases c2 : k < 8
    · rw [if_neg (by omega), if_pos c2, fd_13 s e n0 n1 k0 k1 (i := k - 4) (by omega) (by omega) (by omega)]
    · rw [if_pos (c := 8 ≤ k) (by omega), if_neg c2]
      by_cases c3 : k < 12
      · rw [if_neg (by omega), if_pos c3, fd_13 s e n0 n1 k0 k1 (i := k - 8) (by omega) (by omega) (by omega)]
      · rw [if_pos (c := 12 ≤ k) (by omega), if_neg c3]
        by_cases c4 : k < 16
        · rw [if_neg (by omega), if_pos c4, fd_13 s e n0 n1 k0 k1 (i := k - 12) (by omega) (by omega) (by omega)]
        · rw [if_pos (c := 16 ≤ k) (by omega), if_neg c4, fd_13 s e n0 n1 k0 k1 (i := k - 16) (by omega) (by omega) (by omega)]
theorem fd_lp {n x1 x2 x3 x4 x5 : Int} (n0 : 0 ≤ n) (n1 : n + 20 ≤ 700) : ∀ (m : Nat) (k : Int) (h : am_H), ShM h → rd_ h 94 1 = n → 0 ≤ k → k + m = 20 → ∃ h', Mo_feed_3 h 94 x1 x2 x3 x4 x5 k = Mo_feed_3 h' 94 x1 x2 x3 x4 x5 20 ∧ fz_ h h' (fun a => a = 95) (fun _ => False) ∧ ∀ j, rd_ h' 95 j = if n + k ≤ j ∧ j < n + 20 then fw_ x1 x2 x3 x4 x5 (j - n) % 256 else rd_ h 95 j := by
  intro m
  induction m with
  | zero =>
    intro k h s e k0 hm
    have : k = 20 := by omega
    subst this
    exact ⟨h, rfl, fz_refl _ _ _, fun j => by rw [if_neg (by omega)]⟩
  | succ m ih =>
    intro k h s e k0 hm
    have z : fz_ h (wr_ h 95 (n + k) (fw_ x1 x2 x3 x4 x5 k % 256)) (fun a => a = 95) (fun _ => False) := fz_wr rfl (by omega)
    obtain ⟨h', a1, a2, a3⟩ := ih (k + 1) _ (fz_ShM z s) (by rw [z.2.2 1 (fun q => q)]; exact e) (by omega) (by omega)
    refine ⟨h', ?_, fz_tr z a2, ?_⟩
    · rw [fd_3 s e n0 n1 k0 (by omega), a1]
    · intro j
      rw [a3, rd_wa]
      by_cases c : j = n + k
      · rw [if_neg (by omega), if_pos c, if_pos (by omega), show j - n = k by omega]
      · rw [if_neg (c := j = n + k) c]
        by_cases c2 : n + (k + 1) ≤ j ∧ j < n + 20
        · rw [if_pos c2, if_pos (by omega)]
        · rw [if_neg c2, if_neg (by omega)]
theorem Mo_feed_f (g0 : MN h T W I U Q) (sv : SV T W I U Q) {a b c d e : Int} (k : ¬ Q 4 4 + 20 ≤ 700) : Mo_feed h 94 a b c d e = some (wr_ h 94 2 0, -1) := by
  have g := MN_q g0 sv.2.1 (Mq_2 h 0)
  have t0 := sv.2.2.2.2.2.2.1
  have tp := g.2.2.2.2.2.2.2.2.2.1.1
  rw [Mo_feed_e, tp, w32_i (by omega) (by omega)]
  repeat rw [ck_t (by omega)]
  rw [if_neg k]
theorem Mo_feed_t (g0 : MN h T W I U Q) (sv : SV T W I U Q) {a b c d e : Int} (k : Q 4 4 + 20 ≤ 700) : ∃ h', Mo_feed h 94 a b c d e = some (h', Q 4 4 + 20) ∧ MN h' T W I U (fd_ Q a b c d e) ∧ Fm_ h h' := by
  have X0 := Mq_2 h 0
  have g := MN_q g0 sv.2.1 X0
  have t0 := sv.2.2.2.2.2.2.1
  have tp := g.2.2.2.2.2.2.2.2.2.1
  obtain ⟨h', a1, a2, a3⟩ := fd_lp (x1 := a) (x2 := b) (x3 := c) (x4 := d) (x5 := e) t0.1 k 20 0 (wr_ h 94 2 0) g.1 tp.1 (by omega) (by omega)
  have e1 : rd_ h' 94 1 = Q 4 4 := by rw [a2.2.2 1 (fun q => q)]; exact tp.1
  have z : fz_ (wr_ h 94 2 0) (wr_ h' 94 1 (Q 4 4 + 20)) (fun a => a = 95) (fun k => k = 1) := fz_tr (fz_mo a2 (fun a q => q) (fun k q => q.elim)) (fz_wf rfl)
  refine ⟨wr_ h' 94 1 (Q 4 4 + 20), ?_, ?_, Fm_tr (Fm_q X0) (Fm_fz z (fun a q => by omega))⟩
  · rw [Mo_feed_e, tp.1, w32_i (by omega) (by omega)]
    repeat rw [ck_t (by omega)]
    rw [if_pos k, a1, Mo_feed_3_e, if_pos (by omega), e1, w32_i (by omega) (by omega), rd_ws]
    repeat rw [ck_t (by omega)]
  · obtain ⟨s, t, l, m, n, bb, u, im, q, -, fa, wd⟩ := g
    have R : ∀ a, a ≠ 95 → a ≠ 94 → ∀ k, rd_ (wr_ h' 94 1 (Q 4 4 + 20)) a k = rd_ (wr_ h 94 2 0) a k := z.2.1
    have Rf : ∀ k, k ≠ 1 → rd_ (wr_ h' 94 1 (Q 4 4 + 20)) 94 k = rd_ (wr_ h 94 2 0) 94 k := z.2.2
    refine ⟨fz_ShM z s, MT_fz t z (by intro a p q; omega) (by intro k p q; omega), ML_fm l z (by intro a p q; omega), MW_fz m z (by intro a p q; omega), by rw [Rf 60 (by omega)]; exact n, fun x p q => by rw [R 124 (by omega) (by omega)]; exact bb x p q, by rw [fd_4, if_neg (by omega)]; exact MU_fz u z (by omega) (by omega) (by omega), by rw [fd_4, if_neg (by omega)]; exact MI_fz im z (by intro a p q; omega) (by omega) (by omega), ?_, ⟨by rw [fd_4, if_pos rfl, rd_ws], ?_⟩, ⟨by rw [fd_4, if_neg (by omega), Rf 4 (by omega)]; exact fa.1, by rw [fd_4, if_neg (by omega), Rf 5 (by omega)]; exact fa.2⟩, fun i p q => by rw [R 96 (by omega) (by omega)]; exact wd i p q⟩
    · obtain ⟨x, y, w⟩ := QM_fz q z (by omega) (by omega) (by omega)
      exact ⟨x, y, w⟩
    · intro j p q
      rw [fd_4, if_pos rfl] at q
      rw [rd_wo (by omega), a3, fd_5]
      by_cases c : Q 4 4 ≤ j
      · rw [if_pos (by omega), if_pos c]
      · rw [if_neg (by omega), if_neg c]
        exact tp.2 j p (by omega)
end
