/-! a chart measured -/
def CBr (h : am_H) (c q N : Int) (b : Br) : Prop := RW h (c + 2) N b.1 ∧ (∀ s, 0 ≤ s → s < N → rd_ h (c + 3) s = if b.1 s < 0 then 0 else b.2.1 s) ∧ ∀ i, 0 ≤ i → i < b.2.2.2 → rd_ h q i = b.2.2.1 i
def mA_ (c : Int) (a : Int) : Prop := a = c + 2 ∨ a = c + 3 ∨ a = c + 4
theorem bs_q (c t : Int) (b : Br) : b.2.2.2 ≤ (bs_ c t b).2.2.2 ∧ ∀ i, i < b.2.2.2 → (bs_ c t b).2.2.1 i = b.2.2.1 i := by
  have z := b2_1 c t (b1_ c t b)
  unfold bs_
  rw [z.2]
  unfold b1_
  split
  · exact ⟨by show b.2.2.2 ≤ b.2.2.2 + 1; omega, fun i q => ud_o (by omega)⟩
  · exact ⟨Int.le_refl _, fun _ _ => rfl⟩
theorem bq_q (nx : Int → Int → Int) (c : Int) : ∀ (n : Nat) (d : Int) (b : Br), b.2.2.2 ≤ (bq_ nx c n d b).2.2.2 ∧ ∀ i, i < b.2.2.2 → (bq_ nx c n d b).2.2.1 i = b.2.2.1 i := by
  intro n
  induction n with
  | zero => intro d b; exact ⟨Int.le_refl _, fun _ _ => rfl⟩
  | succ n ih =>
    intro d b
    have x := bs_q c (nx c d) b
    have y := ih (d + 1) (bs_ c (nx c d) b)
    unfold bq_
    exact ⟨by omega, fun i q => by rw [y.2 i (by omega), x.2 i q]⟩
theorem bq_s1 (nx : Int → Int → Int) (c : Int) (n : Nat) (d : Int) (b : Br) : bq_ nx c (n + 1) d b = bq_ nx c n (d + 1) (bs_ c (nx c d) b) := rfl
theorem tl_s1 (f : Int → Int) (k : Int) (n : Nat) : tl_ f k (n + 1) = tl_ f k n + if f n = k then 1 else 0 := rfl
theorem tl_e {f g : Int → Int} {k : Int} : ∀ n : Nat, (∀ i, 0 ≤ i → i < (n : Int) → f i = g i) → tl_ f k n = tl_ g k n := by
  intro n
  induction n with
  | zero => intro _; rfl
  | succ n ih =>
    intro e
    unfold tl_
    rw [ih (fun i a b => e i a (by omega)), e n (by omega) (by omega)]
section
variable {u c w H : Int}
theorem Ch_ms_10 {h : am_H} {e k s t d : Int} {b : Br} (h0 : 0 ≤ H) (h5 : H ≤ 5) (S : CHs h u c w H) (m : CBr h c (c + 4) (nN_ w H) b) (s0 : 0 ≤ s) (s1 : s < nN_ w H) (t0 : 0 ≤ t) (t1 : t < nN_ w H) (bs : 0 ≤ b.1 s) (bt : 0 ≤ b.1 t) (d0 : 1 ≤ d) (d1 : d ≤ 5) : ∃ h', Ch_measure_10 h c (c + 4) e k s d t = Ch_measure_7 h' c (c + 4) e k s (d + 1) ∧ CBr h' c (c + 4) (nN_ w H) (b2_ s t b) ∧ fr_ h h' (mA_ c) := by
  obtain ⟨S1, S2, S3, S4, S5, S6, S7⟩ := S
  rw [Ch_measure_10_e]
  simp only [S4.1, S4.2.1, S6, S7]
  repeat rw [ck_t (by omega)]
  have rt := m.2.1 t t0 t1
  have rs := m.2.1 s s0 s1
  rw [if_neg (by omega)] at rt rs
  rw [m.1 t t0 t1, m.1 s s0 s1, rt, rs, w32_i (x := d + 1) (by omega) (by omega)]
  unfold b2_
  by_cases q : b.1 t = w32 (b.1 s + 1)
  · rw [if_neg (fun z => z q), if_pos q]
    refine ⟨_, rfl, ⟨RW_o m.1 (by omega), ?_, fun i i0 i1 => by rw [rd_wo (by omega)]; exact m.2.2 i i0 i1⟩, fr_wr (Or.inr (Or.inl rfl))⟩
    intro x x0 x1
    show _ = if b.1 x < 0 then 0 else ud_ b.2.1 t _ x
    rw [rd_wa]
    by_cases z : x = t
    · rw [if_pos z, z, if_neg (by omega), ud_s]
    · rw [if_neg z, ud_o z]; exact m.2.1 x x0 x1
  · rw [if_pos q, if_neg q]
    exact ⟨h, rfl, m, fr_refl _ _⟩
theorem Ch_ms_7 (h0 : 0 ≤ H) (h5 : H ≤ 5) (w0 : w = 0 ∨ w = 1) (uc : u + 3 ≤ c) {k : Int} (k0 : 0 ≤ k) : ∀ (n : Nat) (d : Int) (h : am_H) (b : Br), 1 ≤ d → d + n = H + 1 → k < b.2.2.2 → bI_ (nC_ w H) (D1_ w H) (nN_ w H) H 0 k d b → CHs h u c w H → CHu h u → ln_ h (c + 4) = nN_ w H → CBr h c (c + 4) (nN_ w H) b → ∃ h', Ch_measure_7 h c (c + 4) b.2.2.2 k (b.2.2.1 k) d = Ch_measure_4 h' c (c + 4) (bq_ (nC_ w H) (b.2.2.1 k) n d b).2.2.2 (k + 1) ∧ CBr h' c (c + 4) (nN_ w H) (bq_ (nC_ w H) (b.2.2.1 k) n d b) ∧ fr_ h h' (mA_ c) := by
  intro n
  have nv := nN_v (w := w) h0 h5
  have G := G1_ h0 h5 w0
  have ni := nC_b (w := w) h0 h5
  induction n with
  | zero =>
    intro d h b d0 hd hk I S U l m
    have hm := bI_m I (by omega)
    have S1 := S.1
    refine ⟨h, ?_, m, fr_refl _ _⟩
    rw [Ch_measure_7_e, ck_t (by omega), S.2.2.1.1, if_pos (by omega), w32_i (x := k + 1) (by omega) (by omega)]
    rfl
  | succ n ih =>
    intro d h b d0 hd hk I S U l m
    have hm := bI_m I (by omega)
    have S1 := S.1
    obtain ⟨c0, c1, fc, cR⟩ := I.2.1 k k0 hk
    have hD := G.2.1 _ c0 c1
    obtain ⟨t0, t1⟩ := ni _ d c0 c1 d0 (by omega)
    obtain ⟨I', e1, e2⟩ := bs_I G ni d0 (by omega) hk I
    have x1 := Ch_turned_s h0 h5 w0 U S c0 c1 d0 (by omega : d ≤ H)
    have i4 := I.2.2.2.1 (nC_ w H (b.2.2.1 k) d) t0 t1
    generalize hc : b.2.2.1 k = s at *
    generalize ht : nC_ w H s d = t at *
    have fst : ∃ h2, CBr h2 c (c + 4) (nN_ w H) (b1_ s t b) ∧ fr_ h h2 (mA_ c) ∧ (0 ≤ (b1_ s t b).1 t ∧ 0 ≤ (b1_ s t b).1 s) ∧ Ch_measure_7 h c (c + 4) b.2.2.2 k s d = Ch_measure_10 h2 c (c + 4) (b1_ s t b).2.2.2 k s d t := by
      obtain ⟨_, S2, S3, S4, S5, S6, S7⟩ := id S
      rw [Ch_measure_7_e, ck_t (by omega), S3.1, if_neg (by omega), ck_t (by omega), x1, bd_v]
      simp only [S4.1, S6]
      rw [ck_t (by omega), ck_t (by omega), ck_t (by omega), m.1 t t0 t1]
      unfold b1_
      by_cases q : b.1 t < 0
      · have e : b.1 t = -1 := by
          rcases i4 with z | ⟨i, z0, z1, z2⟩
          · exact z
          · have := I.2.1 i z0 z1
            rw [z2] at this
            have := G.2.1 t t0 t1
            omega
        have mlt := bI_lt I (by omega) t0 t1 q G.2.1
        have m0 := I.1.1
        have ct : s ≠ t := fun z => by rw [z] at fc hD; omega
        have wc : w32 (b.1 s + 1) = b.1 s + 1 := w32_i (by omega) (by omega)
        rw [if_pos q, if_neg (c := b.1 t ≠ -1) (fun z => z e), m.1 s c0 c1, l]
        repeat rw [ck_t (by omega)]
        rw [w32_i (x := b.2.2.2 + 1) (by omega) (by omega)]
        refine ⟨_, ⟨?_, ?_, ?_⟩, ?_, ⟨?_, ?_⟩, rfl⟩
        · exact RW_o (RW_wr m.1 _ _) (by omega)
        · intro x z0 z1
          rw [rd_wo (by omega), rd_wo (by omega), m.2.1 x z0 z1]
          show _ = if ud_ b.1 t (w32 (b.1 s + 1)) x < 0 then 0 else ud_ b.2.1 t 0 x
          by_cases z : x = t
          · rw [z, if_pos q, ud_s, ud_s, if_neg (by omega)]
          · rw [ud_o z, ud_o z]
        · intro i z0 z1
          have z1' : i < b.2.2.2 + 1 := z1
          show _ = ud_ b.2.2.1 b.2.2.2 t i
          rw [rd_wa]
          by_cases z : i = b.2.2.2
          · rw [if_pos z, z, ud_s]
          · rw [if_neg z, ud_o z, rd_wo (by omega)]; exact m.2.2 i z0 (by omega)
        · exact fr_tr (fr_wr (Or.inl rfl)) (fr_wr (Or.inr (Or.inr rfl)))
        · show 0 ≤ ud_ b.1 t (w32 (b.1 s + 1)) t
          rw [ud_s, wc]; omega
        · show 0 ≤ ud_ b.1 t (w32 (b.1 s + 1)) s
          rw [ud_o ct]; omega
      · rw [if_neg q, if_pos (c := b.1 t ≠ -1) (by omega)]
        exact ⟨h, m, fr_refl _ _, ⟨by omega, by omega⟩, rfl⟩
    obtain ⟨h2, y1, y2, y3, y4⟩ := fst
    have q2 : ¬ mA_ c c := by unfold mA_; omega
    have S2 := CHs_fr S y2 q2
    obtain ⟨h3, z1, z2, z3⟩ := Ch_ms_10 (e := (b1_ s t b).2.2.2) (k := k) h0 h5 S2 y1 c0 c1 t0 t1 y3.2 y3.1 d0 (by omega)
    have f3 := fr_tr y2 z3
    have S3 := CHs_fr S f3 q2
    have U3 := CHu_fr U f3 (by unfold mA_; omega) (by unfold mA_; omega)
    obtain ⟨h4, v1, v2, v3⟩ := ih (d + 1) h3 (bs_ s t b) (by omega) (by omega) e2 I' S3 U3 (by rw [fr_ln f3]; exact l) z2
    have eb : (bs_ s t b).2.2.2 = (b1_ s t b).2.2.2 := by
      unfold bs_
      rw [(b2_1 s t (b1_ s t b)).2]
    rw [e1] at v1 v2
    refine ⟨h4, ?_, ?_, fr_tr f3 v3⟩
    · rw [y4, z1, ← eb, v1, bq_s1, ht]
    · rw [bq_s1, ht]
      exact v2
theorem Ch_ms_4 (h0 : 0 ≤ H) (h5 : H ≤ 5) (w0 : w = 0 ∨ w = 1) (uc : u + 3 ≤ c) : ∀ (n : Nat) (k : Int) (h : am_H) (b : Br), 0 ≤ k → k + n = nN_ w H → k ≤ b.2.2.2 → bI_ (nC_ w H) (D1_ w H) (nN_ w H) H 0 k 1 b → CHs h u c w H → CHu h u → ln_ h (c + 4) = nN_ w H → CBr h c (c + 4) (nN_ w H) b → (∀ x, 0 ≤ x → x ≤ 20 → rd_ h (c + 1) x = tl_ (fun i => D1_ w H (b.2.2.1 i)) x k.toNat) → ∃ h', Ch_measure_4 h c (c + 4) b.2.2.2 k = some (h', 0) ∧ CBr h' c (c + 4) (nN_ w H) (bu_ (nC_ w H) H n k b) ∧ (∀ x, 0 ≤ x → x ≤ 20 → rd_ h' (c + 1) x = tl_ (fun i => D1_ w H ((bu_ (nC_ w H) H n k b).2.2.1 i)) x (bu_ (nC_ w H) H n k b).2.2.2.toNat) ∧ fr_ h h' (fun a => c + 1 ≤ a ∧ a ≤ c + 4) := by
  intro n
  have nv := nN_v (w := w) h0 h5
  have G := G1_ h0 h5 w0
  have ni := nC_b (w := w) h0 h5
  induction n with
  | zero =>
    intro k h b k0 hn hk I S U l m tt
    have hm := bI_m I (by omega)
    have e : k = b.2.2.2 := by omega
    refine ⟨h, by rw [Ch_measure_4_e, if_pos (by omega)], m, ?_, fr_refl _ _⟩
    intro x x0 x1
    show _ = tl_ (fun i => D1_ w H (b.2.2.1 i)) x b.2.2.2.toNat
    rw [← e]
    exact tt x x0 x1
  | succ n ih =>
    intro k h b k0 hn hk I S U l m tt
    have hm := bI_m I (by omega)
    unfold bu_
    by_cases q : b.2.2.2 ≤ k
    · have e : k = b.2.2.2 := by omega
      rw [if_pos q]
      refine ⟨h, by rw [Ch_measure_4_e, if_pos q], m, ?_, fr_refl _ _⟩
      intro x x0 x1
      rw [← e]
      exact tt x x0 x1
    · rw [if_neg q]
      have hk' : k < b.2.2.2 := by omega
      obtain ⟨c0, c1, fc, cR⟩ := I.2.1 k k0 hk'
      have hD := G.2.1 _ c0 c1
      obtain ⟨S1, S2, S3, S4, S5, S6, S7⟩ := id S
      have f1 : fr_ h (wr_ h (c + 1) (D1_ w H (b.2.2.1 k)) (w32 (tl_ (fun i => D1_ w H (b.2.2.1 i)) (D1_ w H (b.2.2.1 k)) k.toNat + 1))) (fun a => c + 1 ≤ a ∧ a ≤ c + 4) := fr_wr ⟨by omega, by omega⟩
      have sS := CHs_fr S f1 (by omega)
      have sU := CHu_fr U f1 (by omega) (by omega)
      have sm : CBr (wr_ h (c + 1) (D1_ w H (b.2.2.1 k)) (w32 (tl_ (fun i => D1_ w H (b.2.2.1 i)) (D1_ w H (b.2.2.1 k)) k.toNat + 1))) c (c + 4) (nN_ w H) b := ⟨RW_o m.1 (by omega), fun x x0 x1 => by rw [rd_wo (by omega)]; exact m.2.1 x x0 x1, fun i i0 i1 => by rw [rd_wo (by omega)]; exact m.2.2 i i0 i1⟩
      obtain ⟨h1, a1, a2, a3⟩ := Ch_ms_7 h0 h5 w0 uc k0 H.toNat 1 _ b (by omega) (by omega) hk' I sS sU l sm
      have J := bq_I G ni H.toNat 1 b (by omega) (by omega) hk' I
      have I2 := bI_nx J.2 J.1
      have bq := bq_q (nC_ w H) (b.2.2.1 k) H.toNat 1 b
      have q2 : ¬ mA_ c c := by unfold mA_; omega
      obtain ⟨h2, b1, b2, b3, b4⟩ := ih (k + 1) h1 _ (by omega) (by omega) (by have := J.2; omega) I2 (CHs_fr sS a3 q2) (CHu_fr sU a3 (by unfold mA_; omega) (by unfold mA_; omega)) (by rw [fr_ln a3]; exact l) a2 (by
        intro x x0 x1
        rw [a3.2 (c + 1) (by unfold mA_; omega), rd_wa, show (k + 1).toNat = k.toNat + 1 by omega, tl_s1]
        rw [tl_e (f := fun i => D1_ w H ((bq_ (nC_ w H) (b.2.2.1 k) H.toNat 1 b).2.2.1 i)) (g := fun i => D1_ w H (b.2.2.1 i)) k.toNat (fun i i0 i1 => by show D1_ w H _ = D1_ w H _; rw [bq.2 i (by omega)]), show ((k.toNat : Nat) : Int) = k by omega, bq.2 k hk']
        have tb := tl_b (fun i => D1_ w H (b.2.2.1 i)) (D1_ w H (b.2.2.1 k)) k.toNat
        by_cases z : x = D1_ w H (b.2.2.1 k)
        · rw [if_pos z, z, if_pos rfl, w32_i (by omega) (by omega)]
        · rw [if_neg z, if_neg (fun y => z y.symm), tt x x0 x1]
          omega)
      refine ⟨h2, ?_, b2, b3, fr_tr f1 (fr_tr (fr_mo a3 (fun a z => by unfold mA_ at z; omega)) b4)⟩
      rw [Ch_measure_4_e, if_neg q]
      simp only [S3.2.2, S4.1, S4.2.2, S5, S6, l, m.2.2 k k0 hk', m.1 _ c0 c1, fc]
      rw [ck_t (by omega), if_neg (by omega), tt _ hD (by omega)]
      repeat rw [ck_t (by omega)]
      rw [a1, b1]
/-- what a measured chart holds -/
def CHv (h : am_H) (c w H : Int) : Prop := RW h (c + 2) (nN_ w H) (Bu_ w H).1 ∧ RW h (c + 3) (nN_ w H) (Bu_ w H).2.1 ∧ ∀ x, 0 ≤ x → x ≤ 20 → rd_ h (c + 1) x = hwm_ w H x
theorem Ch_ms_1 {q : Int} (nb : nN_ w H ≤ 3840) : ∀ (n : Nat) (k : Int) (h : am_H), 1 ≤ k → k + n = nN_ w H → CHs h u c w H → RW h (c + 2) k (fun i => if i = 0 then 0 else -1) → ∃ h', Ch_measure_1 h c q k = Ch_measure_1 h' c q (nN_ w H) ∧ RW h' (c + 2) (nN_ w H) (fun i => if i = 0 then 0 else -1) ∧ fr_ h h' (fun a => a = c + 2) := by
  intro n
  induction n with
  | zero =>
    intro k h k0 hk S r
    have e : k = nN_ w H := by omega
    rw [e] at r ⊢
    exact ⟨h, rfl, r, fr_refl _ _⟩
  | succ n ih =>
    intro k h k0 hk S r
    obtain ⟨S1, S2, S3, S4, S5, S6, S7⟩ := id S
    have f1 : fr_ h (wr_ h (c + 2) k (-1)) (fun a => a = c + 2) := fr_wr rfl
    obtain ⟨h', a, b, d⟩ := ih (k + 1) (wr_ h (c + 2) k (-1)) (by omega) (by omega) (CHs_fr S f1 (by omega)) (RW_gr r (by rw [if_neg (by omega)]))
    refine ⟨h', ?_, b, fr_tr f1 d⟩
    rw [Ch_measure_1_e]
    simp only [S3.2.2, S4.1, S6]
    rw [ck_t (by omega), if_neg (by omega), ck_t (by omega), ck_t (by omega), ck_t (by omega), w32_i (x := k + 1) (by omega) (by omega), a]
theorem Ch_measure_s {h : am_H} (h0 : 0 ≤ H) (h5 : H ≤ 5) (w0 : w = 0 ∨ w = 1) (uc : u + 3 ≤ c) (S : CHs h u c w H) (U : CHu h u) (en : nn_ h = c + 4) (zr : ∀ a k, c + 1 ≤ a → a ≤ c + 3 → rd_ h a k = 0) : ∃ h', Ch_measure h c = some (h', 0) ∧ CHs h' u c w H ∧ CHu h' u ∧ CHv h' c w H ∧ agB_ (c + 1) h h' ∧ nn_ h' = c + 5 ∧ ss_ h' = ss_ h + nN_ w H := by
  have nv := nN_v (w := w) h0 h5
  have G := G1_ h0 h5 w0
  obtain ⟨S1, S2, S3, S4, S5, S6, S7⟩ := id S
  have g1 : agB_ (c + 4) h (nw_ h 20 (nN_ w H)) := agB_nw 20 (by omega) (by omega)
  have l1 : ln_ (nw_ h 20 (nN_ w H)) (c + 4) = nN_ w H := by rw [← en]; exact ln_nwn _ _ _
  have r1 : ∀ k, rd_ (nw_ h 20 (nN_ w H)) (c + 4) k = 0 := fun k => by rw [← en]; exact rd_nwn _ _ _ _
  have n1 : nn_ (nw_ h 20 (nN_ w H)) = c + 5 := by rw [nn_nw, en]; omega
  have z1 : ss_ (nw_ h 20 (nN_ w H)) = ss_ h + nN_ w H := rfl
  have k1 : Ch_measure h c = Ch_measure_1 (nw_ h 20 (nN_ w H)) c (c + 4) 1 := by
    rw [Ch_measure_e]
    simp only [S3.2.2]
    rw [ck_t (by omega), ck_t (by omega), en]
  generalize nw_ h 20 (nN_ w H) = h1 at g1 l1 r1 n1 z1 k1
  have A := g1.2.2
  have T1 : CHs h1 u c w H := ⟨⟨by omega, by omega, by rw [(A c (by omega)).2.2]; exact S1.2.2⟩, by rw [(A c (by omega)).2.1]; exact S2, by rw [(A c (by omega)).1, (A c (by omega)).1, (A c (by omega)).1]; exact S3, by rw [(A c (by omega)).2.1, (A c (by omega)).2.1, (A c (by omega)).2.1]; exact S4, by rw [(A (c + 1) (by omega)).2.2]; exact S5, by rw [(A (c + 2) (by omega)).2.2]; exact S6, by rw [(A (c + 3) (by omega)).2.2]; exact S7⟩
  have U1 : CHu h1 u := ⟨⟨U.1.1, by omega⟩, by rw [(A u (by omega)).2.1, (A u (by omega)).2.1]; exact U.2.1, by rw [(A (u + 1) (by omega)).2.2, (A (u + 2) (by omega)).2.2]; exact U.2.2.1, fun k p q => by rw [(A (u + 1) (by omega)).1]; exact U.2.2.2.1 k p q, fun k p q => by rw [(A (u + 2) (by omega)).1]; exact U.2.2.2.2 k p q⟩
  have Z1 : ∀ a k, c + 1 ≤ a → a ≤ c + 3 → rd_ h1 a k = 0 := fun a k p q => by rw [(A a (by omega)).1]; exact zr a k p q
  obtain ⟨h2, a1, a2, a3⟩ := Ch_ms_1 (q := c + 4) nv.2 (nN_ w H - 1).toNat 1 h1 (by omega) (by omega) T1 (fun k p q => by
    have e : k = 0 := by omega
    rw [e]
    show _ = if (0 : Int) = 0 then 0 else -1
    rw [if_pos rfl]
    exact Z1 _ _ (by omega) (by omega))
  have T2 := CHs_fr T1 a3 (by omega)
  have f3 : fr_ h2 (wr_ h2 (c + 3) 0 1) (fun a => a = c + 3) := fr_wr rfl
  have m3 : CBr (wr_ h2 (c + 3) 0 1) c (c + 4) (nN_ w H) (b0_ 0 (fun _ => 0) (fun _ => 0)) := by
    refine ⟨?_, ?_, ?_⟩
    · intro k p q
      rw [rd_wo (by omega), a2 k p q]
      rfl
    · intro s p q
      show _ = if ud_ (fun _ => -1) 0 0 s < 0 then 0 else ud_ (fun _ => 0) 0 1 s
      rw [rd_wa]
      by_cases e : s = 0
      · rw [if_pos e, e, ud_s, ud_s, if_neg (by omega)]
      · rw [if_neg e, ud_o e, if_pos (by omega), a3.2 (c + 3) (by omega)]
        exact Z1 _ _ (by omega) (by omega)
    · intro i p q
      have q' : i < 1 := q
      have e : i = 0 := by omega
      rw [e, rd_wo (by omega), a3.2 (c + 4) (by omega), r1]
      rfl
  obtain ⟨h4, b1, b2, b3, b4⟩ := Ch_ms_4 h0 h5 w0 uc (nN_ w H).toNat 0 (wr_ h2 (c + 3) 0 1) (b0_ 0 (fun _ => 0) (fun _ => 0)) (by omega) (by omega) (by show (0 : Int) ≤ 1; omega) (bI_0 G _ _) (CHs_fr T2 f3 (by omega)) (CHu_fr (CHu_fr U1 a3 (by omega) (by omega)) f3 (by omega) (by omega)) (by rw [fr_ln f3, fr_ln a3]; exact l1) m3 (by
    intro x x0 x1
    rw [rd_wo (by omega), a3.2 (c + 1) (by omega), Z1 _ _ (by omega) (by omega)]
    rfl)
  have FF : fr_ h1 h4 (fun a => c + 1 ≤ a ∧ a ≤ c + 4) := fr_tr (fr_mo a3 (fun a q => by omega)) (fr_tr (fr_mo f3 (fun a q => by omega)) b4)
  obtain ⟨kk, I, ie⟩ := Bu_I h0 h5 w0
  have be : bu_ (nC_ w H) H (nN_ w H).toNat 0 (b0_ 0 (fun _ => 0) (fun _ => 0)) = Bu_ w H := rfl
  rw [be] at b2 b3
  refine ⟨h4, ?_, CHs_fr T1 FF (by omega), CHu_fr U1 FF (by omega) (by omega), ⟨b2.1, ?_, ?_⟩, agB_tr (agB_mo g1 (by omega)) (agB_fr FF (fun a q => q.1)), by rw [fr_nn FF]; exact n1, by rw [fr_ss FF]; exact z1⟩
  · rw [k1, a1, Ch_measure_1_e]
    simp only [T2.2.2.1.2.2, T2.2.2.2.1.2.1, T2.2.2.2.2.2.2]
    rw [ck_t (by omega), if_pos (by omega), ck_t (by omega), ck_t (by omega), ck_t (by omega)]
    exact b1
  · intro s s0 s1
    rw [b2.2.1 s s0 s1, if_neg (by have := Bu_p h0 h5 w0 s0 s1; omega)]
  · intro x x0 x1
    rw [b3 x x0 x1]
    unfold hwm_
    refine tl_e _ (fun i i0 i1 => ?_)
    have bm := Bu_m h0 h5 w0
    have := I.2.1 i i0 (by omega)
    show D1_ w H _ = mt1_ w H i
    unfold mt1_
    exact this.2.2.1.symm
end
