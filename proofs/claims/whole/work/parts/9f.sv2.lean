/-! what holds of the pure rows stays: go, undo, keep, back -/
section
variable {h : am_H} {T W I : Tx} {U : Int → Tx} {Q : Tx}
theorem SV_go (sv : SV T W I U Q) {U' : Int → Tx} {k n : Int} : SV T (zn_ T dM_ n.toNat W) I U' (up_ Q 4 2 k) := SV_act sv (zn_v sv.1 _ _ sv.2.1)
theorem SV_back (sv : SV T W I U Q) (n : Q 4 3 = 1) {U' : Int → Tx} {k : Int} : SV T I I U' (up_ Q 4 2 k) := SV_act sv (sv.2.2.2.2.2.1 n)
theorem SV_keep (sv : SV T W I U Q) {U' : Int → Tx} : SV T W W U' (up_ Q 4 3 1) := by
  obtain ⟨s1, s2, s3, s4, s5, s6, s7, s8⟩ := sv
  have e4 : ∀ j, j ≠ 3 → up_ Q 4 3 1 4 j = Q 4 j := fun j q => by rw [up_s, if_neg q]
  refine ⟨s1, s2, s3, ⟨?_, ?_⟩, ?_, fun _ => s2, ?_, ?_⟩
  · rw [e4 0 (by omega), e4 1 (by omega)]; exact s4.1
  · intro i p q
    rw [e4 0 (by omega)] at q
    exact s4.2 i p q
  · rw [up_s, if_pos rfl]; exact Or.inr rfl
  · rw [e4 4 (by omega)]; exact s7
  · intro j p q
    rw [e4 4 (by omega)] at q
    exact s8 j p q
theorem SV_crack (sv : SV T W I U Q) {U' : Int → Tx} {k j : Int} : SV T (up_ W 5 j 1) I U' (up_ Q 4 2 k) := by
  refine SV_act sv ?_
  obtain ⟨v0, v1, v2, v3, v4, v5, v6, v7, v8, v9⟩ := sv.2.1
  refine ⟨v0, v1, v2, v3, v4, v5, ?_, v7, v8, v9⟩
  intro i p q
  refine ⟨(v6 i p q).1, ?_⟩
  rw [up_s]
  split
  · exact Or.inr rfl
  · exact (v6 i p q).2
theorem SV_undo (g : CI h T W I U Q) (sv : SV T W I U Q) (n : Q 4 2 ≠ 0) {U' : Int → Tx} {k : Int} : SV T (mw_ (U (Q 4 2 - 1)) W) I U' (up_ Q 4 2 k) := by
  have d := g.2.2.2.2.2.2.2.2.2.1
  have n0 := d.2.1
  exact SV_act sv (mw_v (d.2.2.2.2.2.1 _ (by omega) (by omega)) sv.2.1)
end
