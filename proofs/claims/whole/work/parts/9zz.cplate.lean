/-! the line of a plate in the class -/
def pw_h (h : am_H) (t P a N z f : Int) : am_H := wr_ (wr_ (wr_ (wr_ (wr_ (wr_ h (t + 5) (5 * P + a) N) (t + 6) N z) (t + 7) N f) (t + 8) N 0) (t + 2) P (a + 1)) (t + 1) 2 (N + 1)
section
variable {B : Int → Int} {n t c s : Int} {T : Tx}
theorem RT_plate {h : am_H} {P z f : Int} (r : RT h t T c s) (w : WVt T) (P0 : 0 ≤ P) (P1 : P < T 0 1) (hp : T 4 P < 5) : RT (pw_h h t P (T 4 P) (T 0 2) z f) t (plT_ T P z f) c s := by
  obtain ⟨t0, sc, r2, ⟨sh, ⟨f0, f1, f2, f3⟩, o1, o2, o3, o4, o5⟩, ⟨sw, ⟨w0, w1, w2, w3, w4, w5⟩, p1, p2, p3, p4, p5, p6, p7⟩, e4, e5⟩ := r
  have hh := w.2.1
  have ro : ∀ a k, a ≠ t + 1 → a ≠ t + 2 → a ≠ t + 5 → a ≠ t + 6 → a ≠ t + 7 → a ≠ t + 8 → rd_ (pw_h h t P (T 4 P) (T 0 2) z f) a k = rd_ h a k := fun a k q1 q2 q3 q4 q5 q6 => by unfold pw_h; rw [rd_wo q1, rd_wo q2, rd_wo q6, rd_wo q5, rd_wo q4, rd_wo q3]
  have r1 : ∀ k, k ≠ 2 → rd_ (pw_h h t P (T 4 P) (T 0 2) z f) (t + 1) k = rd_ h (t + 1) k := fun k q => by unfold pw_h; rw [rd_wk q, rd_wo (by omega), rd_wo (by omega), rd_wo (by omega), rd_wo (by omega), rd_wo (by omega)]
  have r12 : rd_ (pw_h h t P (T 4 P) (T 0 2) z f) (t + 1) 2 = T 0 2 + 1 := rd_ws _ _ _ _
  have r22 : ∀ k, rd_ (pw_h h t P (T 4 P) (T 0 2) z f) (t + 2) k = if k = P then T 4 P + 1 else rd_ h (t + 2) k := fun k => by unfold pw_h; rw [rd_wo (by omega), rd_wa, rd_wo (by omega), rd_wo (by omega), rd_wo (by omega), rd_wo (by omega)]
  have r5 : ∀ k, rd_ (pw_h h t P (T 4 P) (T 0 2) z f) (t + 5) k = if k = 5 * P + T 4 P then T 0 2 else rd_ h (t + 5) k := fun k => by unfold pw_h; rw [rd_wo (by omega), rd_wo (by omega), rd_wo (by omega), rd_wo (by omega), rd_wo (by omega), rd_wa]
  have r6 : ∀ k, rd_ (pw_h h t P (T 4 P) (T 0 2) z f) (t + 6) k = if k = T 0 2 then z else rd_ h (t + 6) k := fun k => by unfold pw_h; rw [rd_wo (by omega), rd_wo (by omega), rd_wo (by omega), rd_wo (by omega), rd_wa, rd_wo (by omega)]
  have r7 : ∀ k, rd_ (pw_h h t P (T 4 P) (T 0 2) z f) (t + 7) k = if k = T 0 2 then f else rd_ h (t + 7) k := fun k => by unfold pw_h; rw [rd_wo (by omega), rd_wo (by omega), rd_wo (by omega), rd_wa, rd_wo (by omega), rd_wo (by omega)]
  have r8 : ∀ k, rd_ (pw_h h t P (T 4 P) (T 0 2) z f) (t + 8) k = if k = T 0 2 then 0 else rd_ h (t + 8) k := fun k => by unfold pw_h; rw [rd_wo (by omega), rd_wo (by omega), rd_wa, rd_wo (by omega), rd_wo (by omega), rd_wo (by omega)]
  have uf : ∀ g : Nat, g ≠ 0 → g ≠ 4 → g ≠ 5 → g ≠ 6 → g ≠ 7 → plT_ T P z f g = T g := fun g a b d e i => plT_f a b d e i
  rw [show t + 1 + 1 = t + 2 by omega] at p1
  rw [show t + 1 + 4 = t + 5 by omega] at p4
  rw [show t + 1 + 5 = t + 6 by omega] at p5
  rw [show t + 1 + 6 = t + 7 by omega] at p6
  rw [show t + 1 + 7 = t + 8 by omega] at p7
  refine ⟨t0, ShC_of rfl sc, r2, ⟨ShT_of rfl sh, ⟨by rw [ro _ _ (by omega) (by omega) (by omega) (by omega) (by omega) (by omega), plT_0 (by omega)]; exact f0, by rw [ro _ _ (by omega) (by omega) (by omega) (by omega) (by omega) (by omega), plT_0 (by omega)]; exact f1, by rw [ro _ _ (by omega) (by omega) (by omega) (by omega) (by omega) (by omega), plT_0 (by omega)]; exact f2, by rw [ro _ _ (by omega) (by omega) (by omega) (by omega) (by omega) (by omega), plT_0 (by omega)]; exact f3⟩, ?_, ?_, ?_, ?_, ?_⟩, ⟨ShW_of rfl sw, ⟨by rw [r1 0 (by omega), plT_0 (by omega)]; exact w0, by rw [r1 1 (by omega), plT_0 (by omega)]; exact w1, by rw [r12, plT_02], by rw [r1 3 (by omega)]; exact w3, by rw [r1 4 (by omega)]; exact w4, by rw [r1 5 (by omega), plT_0 (by omega)]; exact w5⟩, ?_, ?_, ?_, ?_, ?_, ?_, ?_⟩, by rw [ro _ _ (by omega) (by omega) (by omega) (by omega) (by omega) (by omega)]; exact e4, by rw [ro _ _ (by omega) (by omega) (by omega) (by omega) (by omega) (by omega)]; exact e5⟩
  · intro j j0 j1
    rw [plT_0 (by omega)] at j1
    rw [uf 1 (by decide) (by decide) (by decide) (by decide) (by decide), uf 2 (by decide) (by decide) (by decide) (by decide) (by decide), ro _ _ (by omega) (by omega) (by omega) (by omega) (by omega) (by omega), ro _ _ (by omega) (by omega) (by omega) (by omega) (by omega) (by omega)]
    exact o1 j j0 j1
  · intro j j0 j1
    rw [plT_0 (by omega)] at j1
    rw [uf 3 (by decide) (by decide) (by decide) (by decide) (by decide), ro _ _ (by omega) (by omega) (by omega) (by omega) (by omega) (by omega)]
    exact o2 j j0 j1
  · intro j j0 j1
    rw [plT_0 (by omega)] at j1
    rw [uf 8 (by decide) (by decide) (by decide) (by decide) (by decide), uf 9 (by decide) (by decide) (by decide) (by decide) (by decide), uf 10 (by decide) (by decide) (by decide) (by decide) (by decide), uf 11 (by decide) (by decide) (by decide) (by decide) (by decide), ro (t + 13) _ (by omega) (by omega) (by omega) (by omega) (by omega) (by omega), ro (t + 14) _ (by omega) (by omega) (by omega) (by omega) (by omega) (by omega), ro (t + 15) _ (by omega) (by omega) (by omega) (by omega) (by omega) (by omega), ro (t + 16) _ (by omega) (by omega) (by omega) (by omega) (by omega) (by omega)]
    exact o3 j j0 j1
  · intro j j0 j1
    rw [plT_0 (by omega)] at j1
    rw [uf 12 (by decide) (by decide) (by decide) (by decide) (by decide), ro _ _ (by omega) (by omega) (by omega) (by omega) (by omega) (by omega)]
    exact o4 j j0 j1
  · intro k k0 k1
    rw [uf 13 (by decide) (by decide) (by decide) (by decide) (by decide), uf 14 (by decide) (by decide) (by decide) (by decide) (by decide), ro (t + 18) _ (by omega) (by omega) (by omega) (by omega) (by omega) (by omega), ro (t + 19) _ (by omega) (by omega) (by omega) (by omega) (by omega) (by omega)]
    exact o5 k k0 k1
  · intro p p0 q
    rw [plT_0 (by omega)] at q
    show _ = plT_ T P z f 4 p
    rw [show t + 1 + 1 = t + 2 by omega, r22, plT_4]
    by_cases y : p = P
    · rw [if_pos y, if_pos y]
    · rw [if_neg y, if_neg y]; exact p1 p p0 q
  · intro p p0 q
    rw [plT_0 (by omega)] at q
    rw [ro _ _ (by omega) (by omega) (by omega) (by omega) (by omega) (by omega)]
    exact p2 p p0 q
  · intro p p0 q
    rw [plT_0 (by omega)] at q
    rw [ro _ _ (by omega) (by omega) (by omega) (by omega) (by omega) (by omega)]
    exact p3 p p0 q
  · intro p k p0 q k0 k1
    rw [plT_0 (by omega)] at q
    have k1' : k < plT_ T P z f 4 p := k1
    rw [plT_4] at k1'
    show _ = plT_ T P z f 6 (5 * p + k)
    have b1 := hh p p0 q
    rw [show t + 1 + 4 = t + 5 by omega, r5, plT_6]
    by_cases y : 5 * p + k = 5 * P + T 4 P
    · rw [if_pos y, if_pos y]
    · rw [if_neg y, if_neg y]
      by_cases x : p = P
      · rw [if_pos x] at k1'
        exact p4 p k p0 q k0 (by show k < T 4 p; rw [x]; rw [x] at y; omega)
      · rw [if_neg x] at k1'
        exact p4 p k p0 q k0 k1'
  · intro j j0 q
    rw [plT_02] at q
    rw [show t + 1 + 5 = t + 6 by omega, r6, plT_5]
    by_cases y : j = T 0 2
    · rw [if_pos y, if_pos y]
    · rw [if_neg y, if_neg y]; exact p5 j j0 (by omega)
  · intro j j0 q
    rw [plT_02] at q
    show _ = plT_ T P z f 7 j
    rw [show t + 1 + 6 = t + 7 by omega, r7, plT_7]
    by_cases y : j = T 0 2
    · rw [if_pos y, if_pos y]
    · rw [if_neg y, if_neg y]; exact p6 j j0 (by omega)
  · intro j j0 q
    rw [plT_02] at q
    show _ = (0 : Int)
    rw [show t + 1 + 7 = t + 8 by omega, r8]
    by_cases y : j = T 0 2
    · rw [if_pos y]
    · rw [if_neg y]; exact p7 j j0 (by omega)
end
