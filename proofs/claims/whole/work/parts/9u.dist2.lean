/-! the searches of the charts stand on what is written out -/
theorem kG_s {a b H t : Nat} {nx : Nat → Nat → Nat} {nxI : Int → Int → Int} {N : Int} (eN : N = (a * b : Nat)) (hb : 0 < b) (ha : 0 < a) (e : ∀ s d, 0 ≤ s → s < N → 1 ≤ d → d ≤ (H : Int) → nxI s d = (nx s.toNat (d - 1).toNat : Nat)) (k : kG_ a b H nx t = true) : bG_ nxI (fun s => (te8 t 4 s.toNat : Nat)) N H 0 := by
  unfold kG_ at k
  simp only [Bool.and_eq_true, Bool.or_eq_true, decide_eq_true_eq, List.all_eq_true, List.any_eq_true, List.mem_range, beq_iff_eq] at k
  obtain ⟨k0, k1⟩ := k
  have kk : ∀ s, 0 ≤ s → s < N → 15 ≤ te8 t 4 s.toNat ∨ (∀ d, d < H → te8 t 4 (nx s.toNat d) ≤ te8 t 4 s.toNat + 1 ∧ te8 t 4 (nx s.toNat d) < 15) ∧ (s.toNat = 0 ∨ ∃ d, d < H ∧ (te8 t 4 (nx s.toNat d) + 1 = te8 t 4 s.toNat ∧ nx (nx s.toNat d) d = s.toNat) ∧ nx s.toNat d < a * b) := by
    intro s s0 s1
    have lt : s.toNat < a * b := by omega
    have := k1 (s.toNat / b) (Nat.div_lt_of_lt_mul (by rw [Nat.mul_comm]; exact lt)) (s.toNat % b) (Nat.mod_lt _ hb)
    rw [show s.toNat / b * b + s.toNat % b = s.toNat from Nat.div_add_mod' _ _] at this
    exact this
  refine ⟨⟨by omega, ?_, ?_⟩, fun s s0 s1 => by show (0 : Int) ≤ ((te8 t 4 s.toNat : Nat) : Int); omega, fun s d s0 s1 d0 d1 q => ?_, fun s s0 s1 q ne => ?_⟩
  · have : 0 < a * b := Nat.mul_pos ha hb
    omega
  · show ((te8 t 4 0 : Nat) : Int) = 0
    omega
  · have q' : te8 t 4 s.toNat < 15 := by
      have z : ((te8 t 4 s.toNat : Nat) : Int) < 15 := q
      omega
    rcases kk s s0 s1 with z | z
    · omega
    · have := z.1 (d - 1).toNat (by omega)
      rw [e s d s0 s1 d0 d1]
      show ((te8 t 4 (((nx s.toNat (d - 1).toNat : Nat) : Int).toNat) : Nat) : Int) ≤ ((te8 t 4 s.toNat : Nat) : Int) + 1 ∧ ((te8 t 4 (((nx s.toNat (d - 1).toNat : Nat) : Int).toNat) : Nat) : Int) < 15
      rw [Int.toNat_natCast]
      omega
  · have q' : te8 t 4 s.toNat < 15 := by
      have z : ((te8 t 4 s.toNat : Nat) : Int) < 15 := q
      omega
    rcases kk s s0 s1 with z | z
    · omega
    · rcases z.2 with y | ⟨d, d0, ⟨y1, y2⟩, y3⟩
      · omega
      · refine ⟨(nx s.toNat d : Nat), (d : Int) + 1, by omega, by omega, by omega, by omega, ?_, ?_⟩
        · rw [e _ _ (by omega) (by omega) (by omega) (by omega), Int.toNat_natCast, show ((d : Int) + 1 - 1).toNat = d by omega, y2]
          omega
        · show ((te8 t 4 (((nx s.toNat d : Nat) : Int).toNat) : Nat) : Int) + 1 = ((te8 t 4 s.toNat : Nat) : Int)
          rw [Int.toNat_natCast]
          omega
/-- the number of a state turned, by the tables -/
theorem nK_s {w H s d : Int} (h0 : 0 ≤ H) (h5 : H ≤ 5) (w0 : w = 0 ∨ w = 1) (s0 : 0 ≤ s) (s1 : s < nN_ w H) (d0 : 1 ≤ d) (d1 : d ≤ H) : nC_ w H s d = (nK_ w.toNat H.toNat s.toNat (d - 1).toNat : Nat) := by
  have kt : ∀ o, 0 ≤ o → o < 120 → tO_ o d = (te8 TT_ 8 (5 * o.toNat + (d - 1).toNat) : Nat) := by
    intro o o0 o1
    have k := kT_t
    unfold kT_ at k
    simp only [decide_eq_true_eq, List.all_eq_true, List.mem_range] at k
    have := k o.toNat (by omega) (d - 1).toNat (by omega)
    rw [show ((o.toNat : Nat) : Int) = o by omega, show (((d - 1).toNat : Nat) : Int) + 1 = d by omega] at this
    exact this
  have ku : ∀ o, 0 ≤ o → o < 32 → fC_ o d = (te8 FT_ 8 (5 * o.toNat + (d - 1).toNat) : Nat) := by
    intro o o0 o1
    have k := kU_t
    unfold kU_ at k
    simp only [decide_eq_true_eq, List.all_eq_true, List.mem_range] at k
    have := k o.toNat (by omega) (d - 1).toNat (by omega)
    rw [show ((o.toNat : Nat) : Int) = o by omega, show (((d - 1).toNat : Nat) : Int) + 1 = d by omega] at this
    exact this
  have p := P2_v h0 h5
  obtain ⟨a, b⟩ := oS_ h0 h5
  unfold nC_ nK_
  rcases w0 with e | e
  · rw [if_neg (by omega), if_neg (by omega)]
    unfold nN_ at s1
    rw [if_neg (by omega)] at s1
    exact kt s s0 (by omega)
  · unfold nN_ at s1
    rw [if_pos e] at s1
    obtain ⟨x, y, z⟩ := P2_q h0 h5 s0 s1
    rw [if_pos e, if_pos (by omega), p.2.2.1]
    obtain ⟨c1, c2⟩ := a _ x.1 x.2
    have ov := oV_ h0 h5 c2
    rw [c1] at ov
    have t1 := ov.2.2.2.2 d (by omega) d1
    have t2 := (oV_ h0 h5 (VP_r d1 c2)).1
    rw [← t1] at t2
    have of := oF_ h0 h5 (VB_b H (s % P2_ H))
    rw [b _ y.1 y.2] at of
    have t3 := (of.2.2.1 d (by omega) d1).1
    have t4 := (oF_ h0 h5 (F := rF_ d (bi_ (s % P2_ H))) (by
      have := VB_r (w := 1) d1 (VB_b H (s % P2_ H))
      unfold rW_ at this
      rw [if_pos rfl] at this
      exact this)).1
    rw [← t3] at t4
    have n1 := (oN_ h0 h5 x.1 x.2 y.1 y.2).2
    have n2 := (oN_ h0 h5 t2.1 t2.2 t4.1 t4.2).1
    rw [p.2.2.1] at n1 n2
    have ee : (2 : Int) ^ H.toNat = P2_ H := rfl
    rw [ee] at n1 n2
    rw [z] at n1
    rw [n1, n2, kt _ x.1 (by omega), ku _ y.1 (by omega)]
    have f1 : ((2 ^ H.toNat : Nat) : Int) = P2_ H := by rw [← ee]; simp
    have f2 : (s / P2_ H).toNat = s.toNat / 2 ^ H.toNat := by
      have : ((s.toNat / 2 ^ H.toNat : Nat) : Int) = s / P2_ H := by rw [Int.natCast_ediv, f1, show ((s.toNat : Nat) : Int) = s by omega]
      omega
    have f3 : (s % P2_ H).toNat = s.toNat % 2 ^ H.toNat := by
      have : ((s.toNat % 2 ^ H.toNat : Nat) : Int) = s % P2_ H := by rw [Int.natCast_emod, f1, show ((s.toNat : Nat) : Int) = s by omega]
      omega
    rw [f2, f3, Int.natCast_add, Int.natCast_mul, f1]
def DD_ (w H : Int) : Nat := [DD_00, DD_01, DD_02, DD_03, DD_04, DD_05, DD_10, DD_11, DD_12, DD_13, DD_14, DD_15].getD (6 * w + H).toNat 0
def DE_ (w H : Int) : Nat := [DE_00, DE_01, DE_02, DE_03, DE_04, DE_05, DE_10, DE_11, DE_12, DE_13, DE_14, DE_15].getD (6 * w + H).toNat 0
def D1_ (w H : Int) : Int → Int := fun s => (te8 (DD_ w H) 4 s.toNat : Nat)
def D2_ (w H : Int) : Int → Int := fun s => (te8 (DE_ w H) 4 s.toNat : Nat)
def n2_ (w H s d : Int) : Int := if s < nN_ w H then nN_ w H + nC_ w H s d else nC_ w H (s - nN_ w H) d
theorem n2_b {w H : Int} (h0 : 0 ≤ H) (h5 : H ≤ 5) : nI_ (n2_ w H) (2 * nN_ w H) H := by
  intro s d s0 s1 d0 d1
  unfold n2_
  split
  · have := nC_b (w := w) h0 h5 s d s0 (by assumption) d0 d1
    omega
  · have := nC_b (w := w) h0 h5 (s - nN_ w H) d (by omega) (by omega) d0 d1
    omega
theorem G1_ {w H : Int} (h0 : 0 ≤ H) (h5 : H ≤ 5) (w0 : w = 0 ∨ w = 1) : bG_ (nC_ w H) (D1_ w H) (nN_ w H) H 0 := by
  have hh : H = 0 ∨ H = 1 ∨ H = 2 ∨ H = 3 ∨ H = 4 ∨ H = 5 := by omega
  rcases w0 with e | e <;> rcases hh with q | q | q | q | q | q <;> subst e <;> subst q
  · exact kG_s (a := 1) (b := 1) (H := 0) (t := DD_00) rfl (by decide) (by decide) (fun s d s0 s1 d0 d1 => nK_s (by omega) (by omega) (by omega) s0 s1 d0 d1) kD_00
  · exact kG_s (a := 1) (b := 1) (H := 1) (t := DD_01) rfl (by decide) (by decide) (fun s d s0 s1 d0 d1 => nK_s (by omega) (by omega) (by omega) s0 s1 d0 d1) kD_01
  · exact kG_s (a := 2) (b := 1) (H := 2) (t := DD_02) rfl (by decide) (by decide) (fun s d s0 s1 d0 d1 => nK_s (by omega) (by omega) (by omega) s0 s1 d0 d1) kD_02
  · exact kG_s (a := 6) (b := 1) (H := 3) (t := DD_03) rfl (by decide) (by decide) (fun s d s0 s1 d0 d1 => nK_s (by omega) (by omega) (by omega) s0 s1 d0 d1) kD_03
  · exact kG_s (a := 24) (b := 1) (H := 4) (t := DD_04) rfl (by decide) (by decide) (fun s d s0 s1 d0 d1 => nK_s (by omega) (by omega) (by omega) s0 s1 d0 d1) kD_04
  · exact kG_s (a := 120) (b := 1) (H := 5) (t := DD_05) rfl (by decide) (by decide) (fun s d s0 s1 d0 d1 => nK_s (by omega) (by omega) (by omega) s0 s1 d0 d1) kD_05
  · exact kG_s (a := 1) (b := 1) (H := 0) (t := DD_10) rfl (by decide) (by decide) (fun s d s0 s1 d0 d1 => nK_s (by omega) (by omega) (by omega) s0 s1 d0 d1) kD_10
  · exact kG_s (a := 1) (b := 2) (H := 1) (t := DD_11) rfl (by decide) (by decide) (fun s d s0 s1 d0 d1 => nK_s (by omega) (by omega) (by omega) s0 s1 d0 d1) kD_11
  · exact kG_s (a := 2) (b := 4) (H := 2) (t := DD_12) rfl (by decide) (by decide) (fun s d s0 s1 d0 d1 => nK_s (by omega) (by omega) (by omega) s0 s1 d0 d1) kD_12
  · exact kG_s (a := 6) (b := 8) (H := 3) (t := DD_13) rfl (by decide) (by decide) (fun s d s0 s1 d0 d1 => nK_s (by omega) (by omega) (by omega) s0 s1 d0 d1) kD_13
  · exact kG_s (a := 24) (b := 16) (H := 4) (t := DD_14) rfl (by decide) (by decide) (fun s d s0 s1 d0 d1 => nK_s (by omega) (by omega) (by omega) s0 s1 d0 d1) kD_14
  · exact kG_s (a := 120) (b := 32) (H := 5) (t := DD_15) rfl (by decide) (by decide) (fun s d s0 s1 d0 d1 => nK_s (by omega) (by omega) (by omega) s0 s1 d0 d1) kD_15
theorem n2K_s {w H s d : Int} {N : Nat} (eN : nN_ w H = N) (h0 : 0 ≤ H) (h5 : H ≤ 5) (w0 : w = 0 ∨ w = 1) (s0 : 0 ≤ s) (s1 : s < 2 * nN_ w H) (d0 : 1 ≤ d) (d1 : d ≤ H) : n2_ w H s d = (n2K_ N w.toNat H.toNat s.toNat (d - 1).toNat : Nat) := by
  unfold n2_ n2K_
  by_cases q : s < nN_ w H
  · rw [if_pos q, if_pos (by omega), nK_s h0 h5 w0 s0 q d0 d1, eN]
    omega
  · rw [if_neg q, if_neg (by omega), nK_s h0 h5 w0 (by omega) (by omega) d0 d1, eN, show (s - (N : Int)).toNat = s.toNat - N by omega]
theorem G2_ {w H : Int} (h0 : 0 ≤ H) (h5 : H ≤ 5) (w0 : w = 0 ∨ w = 1) : bG_ (n2_ w H) (D2_ w H) (2 * nN_ w H) H 0 := by
  have hh : H = 0 ∨ H = 1 ∨ H = 2 ∨ H = 3 ∨ H = 4 ∨ H = 5 := by omega
  rcases w0 with e | e <;> rcases hh with q | q | q | q | q | q <;> subst e <;> subst q
  · exact kG_s (a := 2) (b := 1) (H := 0) (t := DE_00) rfl (by decide) (by decide) (fun s d s0 s1 d0 d1 => n2K_s (N := 1) rfl (by omega) (by omega) (by omega) s0 s1 d0 d1) kE_00
  · exact kG_s (a := 2) (b := 1) (H := 1) (t := DE_01) rfl (by decide) (by decide) (fun s d s0 s1 d0 d1 => n2K_s (N := 1) rfl (by omega) (by omega) (by omega) s0 s1 d0 d1) kE_01
  · exact kG_s (a := 4) (b := 1) (H := 2) (t := DE_02) rfl (by decide) (by decide) (fun s d s0 s1 d0 d1 => n2K_s (N := 2) rfl (by omega) (by omega) (by omega) s0 s1 d0 d1) kE_02
  · exact kG_s (a := 12) (b := 1) (H := 3) (t := DE_03) rfl (by decide) (by decide) (fun s d s0 s1 d0 d1 => n2K_s (N := 6) rfl (by omega) (by omega) (by omega) s0 s1 d0 d1) kE_03
  · exact kG_s (a := 48) (b := 1) (H := 4) (t := DE_04) rfl (by decide) (by decide) (fun s d s0 s1 d0 d1 => n2K_s (N := 24) rfl (by omega) (by omega) (by omega) s0 s1 d0 d1) kE_04
  · exact kG_s (a := 240) (b := 1) (H := 5) (t := DE_05) rfl (by decide) (by decide) (fun s d s0 s1 d0 d1 => n2K_s (N := 120) rfl (by omega) (by omega) (by omega) s0 s1 d0 d1) kE_05
  · exact kG_s (a := 2) (b := 1) (H := 0) (t := DE_10) rfl (by decide) (by decide) (fun s d s0 s1 d0 d1 => n2K_s (N := 1) rfl (by omega) (by omega) (by omega) s0 s1 d0 d1) kE_10
  · exact kG_s (a := 2) (b := 2) (H := 1) (t := DE_11) rfl (by decide) (by decide) (fun s d s0 s1 d0 d1 => n2K_s (N := 2) rfl (by omega) (by omega) (by omega) s0 s1 d0 d1) kE_11
  · exact kG_s (a := 4) (b := 4) (H := 2) (t := DE_12) rfl (by decide) (by decide) (fun s d s0 s1 d0 d1 => n2K_s (N := 8) rfl (by omega) (by omega) (by omega) s0 s1 d0 d1) kE_12
  · exact kG_s (a := 12) (b := 8) (H := 3) (t := DE_13) rfl (by decide) (by decide) (fun s d s0 s1 d0 d1 => n2K_s (N := 48) rfl (by omega) (by omega) (by omega) s0 s1 d0 d1) kE_13
  · exact kG_s (a := 48) (b := 16) (H := 4) (t := DE_14) rfl (by decide) (by decide) (fun s d s0 s1 d0 d1 => n2K_s (N := 384) rfl (by omega) (by omega) (by omega) s0 s1 d0 d1) kE_14
  · exact kG_s (a := 240) (b := 32) (H := 5) (t := DE_15) rfl (by decide) (by decide) (fun s d s0 s1 d0 d1 => n2K_s (N := 3840) rfl (by omega) (by omega) (by omega) s0 s1 d0 d1) kE_15
