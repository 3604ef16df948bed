/-! a plate told in the reference -/
section
variable {B : Int → Int} {n c s : Int} {h : am_H} {T : Tx}
theorem MP_plate {P z f : Int} (g : MP h T c s) (w : WVt T) (P0 : 0 ≤ P) (P1 : P < T 0 1) (hp : T 4 P < 5) : MP (wr_ (wr_ (wr_ (wr_ (wr_ h 104 (20 + T 0 2) z) 105 (20 + T 0 2) f) 103 (20 + (5 * P + T 4 P)) (T 0 2)) 102 (4 + P) (T 4 P + 1)) 94 19 (T 0 2 + 1)) (plT_ T P z f) c s := by
  have w4 := w.2.1
  obtain ⟨a0, ⟨b0, b1, b2, b3, b4, b5⟩, a2, a3, a4, a5, a6, a7, a8, a9, a10, a11⟩ := g
  have R : ∀ b j, ¬ (102 ≤ b ∧ b ≤ 105) → b ≠ 94 → rd_ (wr_ (wr_ (wr_ (wr_ (wr_ h 104 (20 + T 0 2) z) 105 (20 + T 0 2) f) 103 (20 + (5 * P + T 4 P)) (T 0 2)) 102 (4 + P) (T 4 P + 1)) 94 19 (T 0 2 + 1)) b j = rd_ h b j := fun b j y x => by rw [rd_wo x, rd_wo (by omega), rd_wo (by omega), rd_wo (by omega), rd_wo (by omega)]
  have R9 : ∀ j, j ≠ 19 → rd_ (wr_ (wr_ (wr_ (wr_ (wr_ h 104 (20 + T 0 2) z) 105 (20 + T 0 2) f) 103 (20 + (5 * P + T 4 P)) (T 0 2)) 102 (4 + P) (T 4 P + 1)) 94 19 (T 0 2 + 1)) 94 j = rd_ h 94 j := fun j y => by rw [rd_wk y, rd_wo (by omega), rd_wo (by omega), rd_wo (by omega), rd_wo (by omega)]
  have R2 : ∀ j, rd_ (wr_ (wr_ (wr_ (wr_ (wr_ h 104 (20 + T 0 2) z) 105 (20 + T 0 2) f) 103 (20 + (5 * P + T 4 P)) (T 0 2)) 102 (4 + P) (T 4 P + 1)) 94 19 (T 0 2 + 1)) 102 j = if j = 4 + P then T 4 P + 1 else rd_ h 102 j := fun j => by rw [rd_wo (by omega), rd_wa, rd_wo (by omega), rd_wo (by omega), rd_wo (by omega)]
  have R3 : ∀ j, rd_ (wr_ (wr_ (wr_ (wr_ (wr_ h 104 (20 + T 0 2) z) 105 (20 + T 0 2) f) 103 (20 + (5 * P + T 4 P)) (T 0 2)) 102 (4 + P) (T 4 P + 1)) 94 19 (T 0 2 + 1)) 103 j = if j = 20 + (5 * P + T 4 P) then T 0 2 else rd_ h 103 j := fun j => by rw [rd_wo (by omega), rd_wo (by omega), rd_wa, rd_wo (by omega), rd_wo (by omega)]
  have R4 : ∀ j, rd_ (wr_ (wr_ (wr_ (wr_ (wr_ h 104 (20 + T 0 2) z) 105 (20 + T 0 2) f) 103 (20 + (5 * P + T 4 P)) (T 0 2)) 102 (4 + P) (T 4 P + 1)) 94 19 (T 0 2 + 1)) 104 j = if j = 20 + T 0 2 then z else rd_ h 104 j := fun j => by rw [rd_wo (by omega), rd_wo (by omega), rd_wo (by omega), rd_wo (by omega), rd_wa]
  have R5 : ∀ j, rd_ (wr_ (wr_ (wr_ (wr_ (wr_ h 104 (20 + T 0 2) z) 105 (20 + T 0 2) f) 103 (20 + (5 * P + T 4 P)) (T 0 2)) 102 (4 + P) (T 4 P + 1)) 94 19 (T 0 2 + 1)) 105 j = if j = 20 + T 0 2 then f else rd_ h 105 j := fun j => by rw [rd_wo (by omega), rd_wo (by omega), rd_wo (by omega), rd_wa, rd_wo (by omega)]
  have R0 : rd_ (wr_ (wr_ (wr_ (wr_ (wr_ h 104 (20 + T 0 2) z) 105 (20 + T 0 2) f) 103 (20 + (5 * P + T 4 P)) (T 0 2)) 102 (4 + P) (T 4 P + 1)) 94 19 (T 0 2 + 1)) 94 19 = T 0 2 + 1 := rd_ws _ _ _ _
  have S0 : ShM (wr_ (wr_ (wr_ (wr_ (wr_ h 104 (20 + T 0 2) z) 105 (20 + T 0 2) f) 103 (20 + (5 * P + T 4 P)) (T 0 2)) 102 (4 + P) (T 4 P + 1)) 94 19 (T 0 2 + 1)) := ShM_of rfl a0
  generalize wr_ (wr_ (wr_ (wr_ (wr_ h 104 (20 + T 0 2) z) 105 (20 + T 0 2) f) 103 (20 + (5 * P + T 4 P)) (T 0 2)) 102 (4 + P) (T 4 P + 1)) 94 19 (T 0 2 + 1) = g at R R9 R2 R3 R4 R5 R0 S0 ⊢
  have uf : ∀ {x : Nat}, x ≠ 0 → x ≠ 4 → x ≠ 5 → x ≠ 6 → x ≠ 7 → plT_ T P z f x = T x := fun p q r s t => plT_f p q r s t
  unfold MP
  rw [plT_02, plT_0 (k := 0) (by omega), plT_0 (k := 1) (by omega), plT_0 (k := 3) (by omega), plT_0 (k := 4) (by omega), plT_0 (k := 5) (by omega), plT_0 (k := 6) (by omega), uf (x := 1) (by decide) (by decide) (by decide) (by decide) (by decide), uf (x := 2) (by decide) (by decide) (by decide) (by decide) (by decide), uf (x := 3) (by decide) (by decide) (by decide) (by decide) (by decide), uf (x := 8) (by decide) (by decide) (by decide) (by decide) (by decide), uf (x := 9) (by decide) (by decide) (by decide) (by decide) (by decide), uf (x := 10) (by decide) (by decide) (by decide) (by decide) (by decide), uf (x := 11) (by decide) (by decide) (by decide) (by decide) (by decide), uf (x := 12) (by decide) (by decide) (by decide) (by decide) (by decide), uf (x := 13) (by decide) (by decide) (by decide) (by decide) (by decide), uf (x := 14) (by decide) (by decide) (by decide) (by decide) (by decide)]
  refine ⟨S0, ⟨by rw [R9 _ (by omega)]; exact b0, by rw [R9 _ (by omega)]; exact b1, R0, by rw [R9 _ (by omega)]; exact b3, by rw [R9 _ (by omega)]; exact b4, by rw [R9 _ (by omega)]; exact b5⟩, ?_, ?_, ?_, ?_, ?_, ?_, ?_, ?_, ?_, fun k i x y q w => KR_c (fun b y q => R _ _ (by omega) (by omega)) (a11 k i x y q w)⟩
  · rw [R _ _ (by omega) (by omega), R _ _ (by omega) (by omega), R _ _ (by omega) (by omega), R _ _ (by omega) (by omega)]; exact a2
  · intro j x y
    rw [R _ _ (by omega) (by omega), R _ _ (by omega) (by omega)]; exact a3 j x y
  · intro j x y
    rw [R _ _ (by omega) (by omega), R2, plT_4]
    have := a4 j x y
    by_cases q : j = P
    · rw [if_pos (by omega), if_pos q]; exact ⟨this.1, rfl⟩
    · rw [if_neg (by omega), if_neg q]; exact this
  · intro j x y
    rw [R2, if_neg (by omega)]; exact a5 j x y
  · intro p k p0 p1 k0 k1
    have hp1 := w4 p p0 p1
    rw [plT_4] at k1
    rw [R3, plT_6]
    by_cases q : 5 * p + k = 5 * P + T 4 P
    · rw [if_pos (by omega), if_pos q]
    · rw [if_neg (by omega), if_neg q]
      refine a6 p k p0 p1 k0 ?_
      by_cases y : p = P
      · rw [if_pos y] at k1
        rw [y] at q ⊢
        omega
      · rw [if_neg y] at k1
        exact k1
  · intro j x y
    rw [R4, R5, plT_5, plT_7]
    by_cases q : j = T 0 2
    · rw [if_pos (c := 20 + j = 20 + T 0 2) (by omega), if_pos (c := 20 + j = 20 + T 0 2) (by omega), if_pos q, if_pos q]; exact ⟨rfl, rfl⟩
    · rw [if_neg (c := 20 + j = 20 + T 0 2) (by omega), if_neg (c := 20 + j = 20 + T 0 2) (by omega), if_neg q, if_neg q]; exact a7 j x (by omega)
  · intro j x y
    rw [R _ _ (by omega) (by omega), R _ _ (by omega) (by omega), R _ _ (by omega) (by omega), R _ _ (by omega) (by omega)]; exact a8 j x y
  · intro j x y
    rw [R _ _ (by omega) (by omega)]; exact a9 j x y
  · intro j x y q
    rw [R _ _ (by omega) (by omega), R _ _ (by omega) (by omega)]; exact a10 j x y q
end
