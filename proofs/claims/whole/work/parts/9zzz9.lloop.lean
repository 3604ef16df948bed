/-! the law, all of it -/
theorem sw_u (d : Nat) (x : Int) : ∀ qs : List (Int × Nat), ∃ b, b ∈ d :: qs.map (fun q => q.2) ∧ ∀ j : Nat → am_O, sw_ j d x qs = j b := by
  intro qs
  induction qs with
  | nil => exact ⟨d, List.mem_cons_self, fun _ => rfl⟩
  | cons q qs ih =>
    by_cases c : x = q.1
    · exact ⟨q.2, List.mem_cons_of_mem _ List.mem_cons_self, fun j => if_pos c⟩
    · obtain ⟨b, b1, b2⟩ := ih
      refine ⟨b, ?_, fun j => (if_neg c).trans (b2 j)⟩
      rcases List.mem_cons.mp b1 with e | e
      · exact e ▸ List.mem_cons_self
      · exact List.mem_cons_of_mem _ (List.mem_cons_of_mem _ e)
section
variable {X : Int → Int} {N z : Int}
theorem LC_86 : LC X N z 86 := fun i K S h T W I U Q i0 i1 st => ⟨h, T, W, I, U, Q, fun r q => q, ST_mo st (by omega) (by omega)⟩
theorem L_cases (hN : N ≤ 3072) (hX : ∀ j, i32_ (X j)) : ∀ b ∈ ([86, 3, 6, 8, 10, 12, 18, 20, 22, 24, 26, 28, 30, 32, 34, 36, 38, 40, 42, 44, 46, 48, 50, 52, 54, 56, 58, 66, 68, 70, 72, 74, 76, 78, 80, 82, 84] : List Nat), (∃ q, (BL X N)[b]? = some ([true, true, true, true, true, false, false], q)) ∧ LC X N z b := List.forall_mem_cons.mpr ⟨⟨⟨_, BL_86 X N⟩, LC_86⟩, List.forall_mem_cons.mpr ⟨⟨⟨_, BL_3 X N⟩, LC_3 hN⟩, List.forall_mem_cons.mpr ⟨⟨⟨_, BL_6 X N⟩, LC_6 hN⟩, List.forall_mem_cons.mpr ⟨⟨⟨_, BL_8 X N⟩, LC_8 hN⟩, List.forall_mem_cons.mpr ⟨⟨⟨_, BL_10 X N⟩, LC_10 hN⟩, List.forall_mem_cons.mpr ⟨⟨⟨_, BL_12 X N⟩, LC_12 hN⟩, List.forall_mem_cons.mpr ⟨⟨⟨_, BL_18 X N⟩, LC_18 hN⟩, List.forall_mem_cons.mpr ⟨⟨⟨_, BL_20 X N⟩, LC_20 hN⟩, List.forall_mem_cons.mpr ⟨⟨⟨_, BL_22 X N⟩, LC_22 hN⟩, List.forall_mem_cons.mpr ⟨⟨⟨_, BL_24 X N⟩, LC_24 hN⟩, List.forall_mem_cons.mpr ⟨⟨⟨_, BL_26 X N⟩, LC_26 hN⟩, List.forall_mem_cons.mpr ⟨⟨⟨_, BL_28 X N⟩, LC_28 hN⟩, List.forall_mem_cons.mpr ⟨⟨⟨_, BL_30 X N⟩, LC_30 hN⟩, List.forall_mem_cons.mpr ⟨⟨⟨_, BL_32 X N⟩, LC_32 hN⟩, List.forall_mem_cons.mpr ⟨⟨⟨_, BL_34 X N⟩, LC_34 hN⟩, List.forall_mem_cons.mpr ⟨⟨⟨_, BL_36 X N⟩, LC_36 hN⟩, List.forall_mem_cons.mpr ⟨⟨⟨_, BL_38 X N⟩, LC_38 hN⟩, List.forall_mem_cons.mpr ⟨⟨⟨_, BL_40 X N⟩, LC_40 hN⟩, List.forall_mem_cons.mpr ⟨⟨⟨_, BL_42 X N⟩, LC_42 hN⟩, List.forall_mem_cons.mpr ⟨⟨⟨_, BL_44 X N⟩, LC_44 hN⟩, List.forall_mem_cons.mpr ⟨⟨⟨_, BL_46 X N⟩, LC_46 hN⟩, List.forall_mem_cons.mpr ⟨⟨⟨_, BL_48 X N⟩, LC_48 hN⟩, List.forall_mem_cons.mpr ⟨⟨⟨_, BL_50 X N⟩, LC_50 hN⟩, List.forall_mem_cons.mpr ⟨⟨⟨_, BL_52 X N⟩, LC_52 hN⟩, List.forall_mem_cons.mpr ⟨⟨⟨_, BL_54 X N⟩, LC_54 hN⟩, List.forall_mem_cons.mpr ⟨⟨⟨_, BL_56 X N⟩, LC_56 hN⟩, List.forall_mem_cons.mpr ⟨⟨⟨_, BL_58 X N⟩, LC_58 hN⟩, List.forall_mem_cons.mpr ⟨⟨⟨_, BL_66 X N⟩, LC_66 hN⟩, List.forall_mem_cons.mpr ⟨⟨⟨_, BL_68 X N⟩, LC_68 hN⟩, List.forall_mem_cons.mpr ⟨⟨⟨_, BL_70 X N⟩, LC_70 hN⟩, List.forall_mem_cons.mpr ⟨⟨⟨_, BL_72 X N⟩, LC_72 hN⟩, List.forall_mem_cons.mpr ⟨⟨⟨_, BL_74 X N⟩, LC_74 hN hX⟩, List.forall_mem_cons.mpr ⟨⟨⟨_, BL_76 X N⟩, LC_76 hN⟩, List.forall_mem_cons.mpr ⟨⟨⟨_, BL_78 X N⟩, LC_78 hN⟩, List.forall_mem_cons.mpr ⟨⟨⟨_, BL_80 X N⟩, LC_80 hN⟩, List.forall_mem_cons.mpr ⟨⟨⟨_, BL_82 X N⟩, LC_82 hN⟩, List.forall_mem_cons.mpr ⟨⟨⟨_, BL_84 X N⟩, LC_84 hN⟩, fun b h => absurd h List.not_mem_nil⟩⟩⟩⟩⟩⟩⟩⟩⟩⟩⟩⟩⟩⟩⟩⟩⟩⟩⟩⟩⟩⟩⟩⟩⟩⟩⟩⟩⟩⟩⟩⟩⟩⟩⟩⟩⟩
theorem L_end (N0 : 0 ≤ N) (hN : N ≤ 3072) {i : Int} (c : N - 6 < i) (h : am_H) : LA X N 1 (Lx z i) [] h (h, 1) := by
  refine LA_j (L1 := Lx z i) (st1 := []) (h1 := h) (BL_1 X N) (BL_87 X N) (fun J => ?_) (LA_e (BL_87 X N) (fun J => ?_))
  · show (if (w32 (N - 6)) < i then J 87 [(5, z), (21, 0), (22, 94), (33, 143), (0, i), (9, 0), (9, 0)] [] h else J 2 [(5, z), (21, 0), (22, 94), (33, 143), (0, i), (9, 0), (9, 0)] [] h) = _
    simp (disch := omega) only [w32_i]
    rw [if_pos c]
  · show ck_ ((1 : Int) = 0 ∨ (1 : Int) = 1) (some (h, 1)) = _
    rw [ck_t (by omega)]
theorem L_loop (N0 : 0 ≤ N) (hN : N ≤ 3072) (hX : ∀ j, i32_ (X j)) : ∀ (n : Nat) (i K S : Int) (h : am_H) (T W I : Tx) (U : Int → Tx) (Q : Tx), 0 ≤ i → N - i < 6 * n + 6 → ST h T W I U Q K S → ∃ r, LA X N 1 (Lx z i) [] h r ∧ r.2 = 1 ∧ nn_ r.1 ≤ K + n ∧ ss_ r.1 ≤ S + 6 * n := by
  intro n
  induction n with
  | zero =>
    intro i K S h T W I U Q i0 i1 st
    have b := RM_b st.1.2.2.1
    exact ⟨_, L_end N0 hN (by omega) h, rfl, by show nn_ h ≤ _; omega, by show ss_ h ≤ _; omega⟩
  | succ n ih =>
    intro i K S h T W I U Q i0 i1 st
    by_cases c : N - 6 < i
    · have b := RM_b st.1.2.2.1
      exact ⟨_, L_end N0 hN c h, rfl, by show nn_ h ≤ _; omega, by show ss_ h ≤ _; omega⟩
    · obtain ⟨b, b1, b2⟩ := sw_u 86 (an_ (X i) 63) [(0, 3), (1, 6), (2, 8), (3, 10), (4, 12), (5, 18), (6, 20), (7, 22), (8, 24), (9, 26), (10, 28), (11, 30), (12, 32), (13, 34), (14, 36), (15, 38), (16, 40), (17, 42), (18, 44), (19, 46), (20, 48), (21, 50), (22, 52), (23, 54), (24, 56), (25, 58), (26, 66), (27, 68), (28, 70), (29, 72), (30, 74), (31, 76), (32, 78), (33, 80), (34, 82), (35, 84)]
      obtain ⟨⟨q, bq⟩, lc⟩ := L_cases (z := z) hN hX b b1
      obtain ⟨h2, T2, W2, I2, U2, Q2, g, s2⟩ := lc i K S h T W I U Q i0 (by omega) st
      obtain ⟨r, r1, r2, r3, r4⟩ := ih (i + 6) (K + 1) (S + 6) h2 T2 W2 I2 U2 Q2 (by omega) (by omega) s2
      refine ⟨r, ?_, r2, by omega, by omega⟩
      have g86 : LA X N 86 (Lx z i) [] h2 r := by
        refine LA_j (L1 := Lx z (i + 6)) (st1 := []) (h1 := h2) (BL_86 X N) (BL_1 X N) (fun J => ?_) r1
        show (J 1 [(5, z), (21, 0), (22, 94), (33, 143), (0, w32 (i + 6)), (9, 0), (9, 0)] [] h2) = _
        simp (disch := omega) only [w32_i]
      refine LA_j (L1 := Lx z i) (st1 := []) (h1 := h) (BL_1 X N) (BL_2 X N) (fun J => ?_) (LA_j (L1 := Lx z i) (BL_2 X N) bq (fun J => ?_) (g r g86))
      · show (if (w32 (N - 6)) < i then J 87 [(5, z), (21, 0), (22, 94), (33, 143), (0, i), (9, 0), (9, 0)] [] h else J 2 [(5, z), (21, 0), (22, 94), (33, 143), (0, i), (9, 0), (9, 0)] [] h) = _
        simp (disch := omega) only [w32_i]
        rw [if_neg c]
      · show ck_ (0 ≤ i ∧ i < N) (sw_ (fun b => J b (Lx z i) [] h) 86 (an_ (X i) 63) [(0, 3), (1, 6), (2, 8), (3, 10), (4, 12), (5, 18), (6, 20), (7, 22), (8, 24), (9, 26), (10, 28), (11, 30), (12, 32), (13, 34), (14, 36), (15, 38), (16, 40), (17, 42), (18, 44), (19, 46), (20, 48), (21, 50), (22, 52), (23, 54), (24, 56), (25, 58), (26, 66), (27, 68), (28, 70), (29, 72), (30, 74), (31, 76), (32, 78), (33, 80), (34, 82), (35, 84)]) = _
        rw [ck_t (by omega), b2]
theorem L_start (N0 : 0 ≤ N) (hN : N ≤ 3072) (hX : ∀ j, i32_ (X j)) : ∃ r, LA X N 0 [(5, z), (9, 0), (9, 0), (9, 0), (9, 0), (9, 0), (9, 0)] [] h00 r ∧ r.2 = 1 ∧ nn_ r.1 ≤ 780 ∧ ss_ r.1 ≤ 603072 := by
  obtain ⟨h3, a1, a2, a3, a4⟩ := start_M (fun _ _ => 0) (fun _ _ _ => 0)
  obtain ⟨b1, b2⟩ := start_S _ _ a2 a3 a4
  obtain ⟨r, r1, r2, r3, r4⟩ := L_loop (z := z) N0 hN hX 512 0 268 600000 _ _ _ _ _ _ (by omega) (by omega) b2
  refine ⟨r, LA_j (L1 := Lx z 0) (BL_0 X N) (BL_1 X N) (fun J => ?_) r1, r2, by omega, by omega⟩
  have n0 : nn_ h00 = 0 := rfl
  have n1 : nn_ hX1 = 94 := by have := hM0_n; have e : nn_ hM0 = nn_ hX1 + 1 := rfl; omega
  show (ck_ (0 ≤ (nn_ h00)) (bd_ (CC 136 [(21, nn_ h00)] (nw_ h00 11 20)) fun h1 _ => ck_ (0 ≤ (nn_ h1)) (bd_ (CC 193 [(22, nn_ h1)] (nw_ h1 12 93)) fun h3 _ => ck_ (0 ≤ (1 : Int) ∧ (1 : Int) ≤ 1000000) (J 1 [(5, z), (21, nn_ h00), (22, nn_ h1), (33, nn_ h3), (0, 0), (9, 0), (9, 0)] [] (nw_ h3 23 1))))) = _
  rw [n0, ck_t (by omega), cc_136]
  rw [show nw_ h00 11 20 = hXA from rfl, Pp_new_v, bd_v, n1, ck_t (by omega), cc_193]
  rw [show nw_ hX1 12 93 = hM0 from rfl, a1, bd_v, b1, ck_t (by omega)]
end
