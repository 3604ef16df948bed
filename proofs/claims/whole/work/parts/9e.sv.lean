/-! what holds of the pure rows stays -/
section
variable {T W I : Tx} {U : Int → Tx} {Q : Tx}
theorem SV_act (sv : SV T W I U Q) {V : Tx} {U' : Int → Tx} {k : Int} (v : WV T V) : SV T V I U' (up_ Q 4 2 k) := by
  obtain ⟨a, -, c, d, e, f, g, b⟩ := sv
  have e4 : ∀ j, j ≠ 2 → up_ Q 4 2 k 4 j = Q 4 j := fun j q => by rw [up_s, if_neg q]
  refine ⟨a, v, c, ⟨?_, ?_⟩, ?_, ?_, ?_, ?_⟩
  · rw [e4 0 (by omega), e4 1 (by omega)]; exact d.1
  · intro i p q
    rw [e4 0 (by omega)] at q
    exact d.2 i p q
  · rw [e4 3 (by omega)]; exact e
  · rw [e4 3 (by omega)]; exact f
  · rw [e4 4 (by omega)]; exact g
  · intro j p q
    rw [e4 4 (by omega)] at q
    exact b j p q
theorem SV_ak (sv : SV T W I U Q) {a b c d : Int} (n : Q 4 0 < 24) (k : (a = -1 ∧ 0 ≤ b ∧ b < Q 4 0) ∨ (1 ≤ a ∧ a ≤ 60 ∧ 0 ≤ b ∧ b < T 0 1 ∧ 1 ≤ c ∧ c ≤ 99 ∧ (d = 0 ∨ d = 1))) : SV T W I U (ak_ Q a b c d) := by
  obtain ⟨s1, s2, s3, s4, s5, s6, s7, s8⟩ := sv
  have e4 : ∀ j, j ≠ 0 → ak_ Q a b c d 4 j = Q 4 j := fun j q => by rw [ak_4, if_neg q]
  refine ⟨s1, s2, s3, ak_v s4 n k, ?_, ?_, ?_, ?_⟩
  · rw [e4 3 (by omega)]; exact s5
  · rw [e4 3 (by omega)]; exact s6
  · rw [e4 4 (by omega)]; exact s7
  · intro j p q
    rw [e4 4 (by omega)] at q
    exact s8 j p q
theorem SV_kn (sv : SV T W I U Q) {k : Int} (c : ok_kn Q k) : SV T W I U (up_ Q 4 1 k) := by
  obtain ⟨s1, s2, s3, s4, s5, s6, s7, s8⟩ := sv
  obtain ⟨c1, c2⟩ := c
  have e4 : ∀ j, j ≠ 1 → up_ Q 4 1 k 4 j = Q 4 j := fun j q => by rw [up_s, if_neg q]
  refine ⟨s1, s2, s3, ⟨?_, ?_⟩, ?_, ?_, ?_, ?_⟩
  · have := s4.1
    rw [e4 0 (by omega), up_s, if_pos rfl]
    omega
  · intro i p q
    rw [e4 0 (by omega)] at q
    exact s4.2 i p q
  · rw [e4 3 (by omega)]; exact s5
  · rw [e4 3 (by omega)]; exact s6
  · rw [e4 4 (by omega)]; exact s7
  · intro j p q
    rw [e4 4 (by omega)] at q
    exact s8 j p q
theorem w8_l (x : Int) : -128 ≤ w8_ x ∧ w8_ x < 128 := by unfold w8_; omega
theorem fw_l (a b c d e j : Int) : -128 ≤ fw_ a b c d e j ∧ fw_ a b c d e j < 128 := by
  unfold fw_ by_
  repeat' split
  all_goals exact w8_l _
theorem SV_fd (sv : SV T W I U Q) {a b c d e : Int} (k : Q 4 4 + 20 ≤ 700) : SV T W I U (fd_ Q a b c d e) := by
  obtain ⟨s1, s2, s3, s4, s5, s6, s7, s8⟩ := sv
  have e4 : ∀ j, j ≠ 4 → fd_ Q a b c d e 4 j = Q 4 j := fun j q => by rw [fd_4, if_neg q]
  refine ⟨s1, s2, s3, ⟨?_, ?_⟩, ?_, ?_, ?_, ?_⟩
  · rw [e4 0 (by omega), e4 1 (by omega)]; exact s4.1
  · intro i p q
    rw [e4 0 (by omega)] at q
    exact s4.2 i p q
  · rw [e4 3 (by omega)]; exact s5
  · rw [e4 3 (by omega)]; exact s6
  · rw [fd_4, if_pos rfl]; omega
  · intro j p q
    rw [fd_4, if_pos rfl] at q
    rw [fd_5]
    by_cases c : Q 4 4 ≤ j
    · rw [if_pos c]; exact fw_l _ _ _ _ _ _
    · rw [if_neg c]; exact s8 j p (by omega)
theorem SV_turn (sv : SV T W I U Q) {U' : Int → Tx} {k p d : Int} (h1 : 0 ≤ p) (h2 : p < T 0 1) (h3 : 1 ≤ d) (h4 : d ≤ W 0 p) : SV T (Tn W p d) I U' (up_ Q 4 2 k) := SV_act sv (Tn_v sv.2.1 h1 h2 h3 h4)
theorem SV_move (sv : SV T W I U Q) {U' : Int → Tx} {k p q : Int} (c : ok_mv T p q) (m : do_mv T W p q) : SV T (Mv W p q) I U' (up_ Q 4 2 k) := by
  obtain ⟨k1, k2, k3, k4, k5⟩ := c
  obtain ⟨m1, m2, m3⟩ := m
  have bp := sv.2.1.2.1 p k1 k2
  have bq := sv.2.1.2.1 q k3 k4
  exact SV_act sv (Mv_v sv.2.1 k1 k2 k3 k4 k5 (by omega) (by omega) (hz_t m3))
end
