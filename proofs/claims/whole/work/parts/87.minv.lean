/-! the reference between calls -/
def wds_ : List Int := [109, 97, 105, 100, 32, 112, 105, 108, 101, 32, 112, 108, 97, 116, 101, 32, 116, 117, 114, 110, 32, 99, 104, 105, 112, 32, 115, 101, 101, 100, 32, 108, 97, 119, 32, 101, 102, 102, 111, 114, 116, 32, 99, 114, 97, 99, 107, 32, 104, 101, 101, 100, 32, 97, 110, 100, 32, 111, 114, 32, 110, 111, 116, 32, 115, 105, 122, 101, 32, 100, 101, 112, 116, 104, 32, 104, 105, 103, 104, 32, 115, 107, 105, 108, 108, 32, 116, 105, 114, 101, 100, 32, 103, 97, 112, 115, 32, 109, 105, 110, 117, 116, 101, 32]
def WD (h : am_H) : Prop := ∀ i, 0 ≤ i → i < 104 → rd_ h 96 i = wds_.getD i.toNat 0
def MN (h : am_H) (T W I : Tx) (U : Int → Tx) (Q : Tx) : Prop := ShM h ∧ MT h T ∧ ML h T ∧ MW h 0 T W ∧ rd_ h 94 60 = W 6 2 ∧ BB h ∧ MU h T U (Q 4 2) ∧ MI h T I (Q 4 3) ∧ QM h Q ∧ (rd_ h 94 1 = Q 4 4 ∧ ∀ k, 0 ≤ k → k < Q 4 4 → rd_ h 95 k = Q 5 k % 256) ∧ (rd_ h 94 4 = Q 4 5 ∧ rd_ h 94 5 = Q 4 6) ∧ WD h
def mQA (a : Int) : Prop := (118 ≤ a ∧ a ≤ 134) ∨ a = 136 ∨ a = 137
def mQF (k : Int) : Prop := k = 2 ∨ k = 51 ∨ (60 ≤ k ∧ k ≤ 68) ∨ k = 70 ∨ k = 74 ∨ k = 77 ∨ k = 78
/-- what an asking call changes -/
def Mq (h h' : am_H) : Prop := fz_ h h' mQA mQF ∧ hf_ h h' 1 ∧ rd_ h' 94 60 = rd_ h 94 60 ∧ ∀ x, rd_ h' 124 x = rd_ h 124 x ∨ rd_ h' 124 x = 0 ∨ rd_ h' 124 x = 1
theorem Mq_refl (h : am_H) : Mq h h := ⟨fz_refl _ _ _, hf_refl _ _, rfl, fun _ => Or.inl rfl⟩
theorem Mq_tr {h h1 h2 : am_H} (x : Mq h h1) (y : Mq h1 h2) : Mq h h2 := ⟨fz_tr x.1 y.1, hf_tr x.2.1 y.2.1, y.2.2.1.trans x.2.2.1, fun k => by
  rcases y.2.2.2 k with e | e
  · rw [e]; exact x.2.2.2 k
  · exact Or.inr e⟩
theorem Mq_X {h h' : am_H} (x : MX h h') : Mq h h' := ⟨fz_mo x.1 (fun a q => by unfold mD at q; unfold mQA; omega) (fun k q => by unfold mE at q; unfold mQF; omega), x.2⟩
theorem Mq_2 (h : am_H) (v : Int) : Mq h (wr_ h 94 2 v) := by
  have z : fz_ h (wr_ h 94 2 v) (fun _ => False) (fun k => k = 2) := fz_wf rfl
  exact ⟨fz_mo z (fun _ q => q.elim) (fun k q => Or.inl q), hf_fz z (fun _ _ _ q => q) 1, z.2.2 60 (by omega), fun x => Or.inl (z.2.1 124 (fun q => q) (by omega) x)⟩
/-- a step that leaves the halves, by rows of A, fields of F -/
theorem Mq_fz {h h' : am_H} {A F : Int → Prop} (z : fz_ h h' A F) (a : ∀ x, A x → mQA x ∧ ¬ (120 ≤ x ∧ x ≤ 127)) (f : ∀ k, F k → mQF k ∧ k ≠ 60) : Mq h h' := ⟨fz_mo z (fun x q => (a x q).1) (fun k q => (f k q).1), hf_fz z (fun x p q r => (a x r).2 ⟨p, q⟩) 1, z.2.2 60 (fun q => (f _ q).2 rfl), fun x => Or.inl (z.2.1 124 (fun q => (a _ q).2 ⟨by omega, by omega⟩) (by omega) x)⟩
theorem MN_q {h h' : am_H} {T W I : Tx} {U : Int → Tx} {Q : Tx} (g : MN h T W I U Q) (v : WV T W) (x : Mq h h') : MN h' T W I U Q := by
  obtain ⟨s, t, l, m, n, b, u, im, q, tp, fa, wd⟩ := g
  obtain ⟨z, hf, e, c⟩ := x
  have R : ∀ a, ¬ mQA a → a ≠ 94 → ∀ k, rd_ h' a k = rd_ h a k := z.2.1
  have Rf : ∀ k, ¬ mQF k → rd_ h' 94 k = rd_ h 94 k := z.2.2
  refine ⟨fz_ShM z s, MT_fz t z (by intro a p q; unfold mQA; omega) (by intro k p q; unfold mQF; omega), ML_fm l z (by intro a p q; unfold mQA; omega), hf_MW hf (by omega) (by omega) v m, e.trans n, ?_, MU_fz u z (by unfold mQA; omega) (by unfold mQA; omega) (by unfold mQF; omega), MI_fz im z (by intro a p q; unfold mQA; omega) (by unfold mQF; omega) (by unfold mQF; omega), QM_fz q z (by unfold mQA; omega) (by unfold mQF; omega) (by unfold mQF; omega), ⟨by rw [Rf 1 (by unfold mQF; omega)]; exact tp.1, fun k p q => by rw [R 95 (by unfold mQA; omega) (by omega)]; exact tp.2 k p q⟩, ⟨by rw [Rf 4 (by unfold mQF; omega)]; exact fa.1, by rw [Rf 5 (by unfold mQF; omega)]; exact fa.2⟩, fun i p q => by rw [R 96 (by unfold mQA; omega) (by omega)]; exact wd i p q⟩
  intro x p q
  rcases c x with r | r
  · rw [r]; exact b x p q
  · exact r
section
variable {h : am_H} {T W I : Tx} {U : Int → Tx} {Q : Tx}
theorem Mo_isPile_t (t : MT h T) {p : Int} (h1 : 0 ≤ p) (h2 : p < T 0 1) : Mo_isPile h 94 p = some (h, 1) := by
  rw [Mo_isPile_e, t.1.2.1, if_neg (by omega), ck_t (by omega), if_neg (by omega)]
theorem Mo_isPile_f (t : MT h T) {p : Int} (k : ¬ (0 ≤ p ∧ p < T 0 1)) : Mo_isPile h 94 p = some (h, 0) := by
  rw [Mo_isPile_e, t.1.2.1]
  by_cases c : p < 0
  · rw [if_pos c]
  · rw [if_neg c, ck_t (by omega), if_pos (by omega)]
theorem Mo_isMaid_t (t : MT h T) {p : Int} (h1 : 0 ≤ p) (h2 : p < T 0 0) : Mo_isMaid h 94 p = some (h, 1) := by
  rw [Mo_isMaid_e, t.1.1, if_neg (by omega), ck_t (by omega), if_neg (by omega)]
theorem Mo_isMaid_f (t : MT h T) {p : Int} (k : ¬ (0 ≤ p ∧ p < T 0 0)) : Mo_isMaid h 94 p = some (h, 0) := by
  rw [Mo_isMaid_e, t.1.1]
  by_cases c : p < 0
  · rw [if_pos c]
  · rw [if_neg c, ck_t (by omega), if_pos (by omega)]
theorem Mo_isTurn_t (t : MT h T) {p : Int} (h1 : 0 ≤ p) (h2 : p < T 0 3) : Mo_isTurn h 94 p = some (h, 1) := by
  rw [Mo_isTurn_e, t.1.2.2.2.1, if_neg (by omega), ck_t (by omega), if_neg (by omega)]
theorem Mo_isTurn_f (t : MT h T) {p : Int} (k : ¬ (0 ≤ p ∧ p < T 0 3)) : Mo_isTurn h 94 p = some (h, 0) := by
  rw [Mo_isTurn_e, t.1.2.2.2.1]
  by_cases c : p < 0
  · rw [if_pos c]
  · rw [if_neg c, ck_t (by omega), if_pos (by omega)]
theorem M_try (g : MN h T W I U Q) (v : WV T W) : ∃ h', Mo_layTried h 94 = some (h', 0) ∧ MN h' T W I U Q ∧ MS h' 1 T W M0_ ∧ Mq h h' := by
  obtain ⟨s, t, l, m, n, b, u, im, q, tp, fa, wd⟩ := id g
  obtain ⟨h', a1, a2, a3, a4, a5, a6⟩ := Mo_layTried_s s t l m b v
  have X : Mq h h' := by
    refine ⟨fz_mo a5 (fun a q => by unfold mQA; omega) (fun k q => by unfold mQF; omega), a6, a5.2.2 60 (by omega), ?_⟩
    intro x
    by_cases c : 0 ≤ x ∧ x < 40
    · exact Or.inr (a4 x c.1 c.2)
    · exact Or.inl (a6.1 124 x (by omega) (by omega))
  exact ⟨h', a1, MN_q g v X, a2, X⟩
theorem Mq_MG {h h' : am_H} {M : Int → Int} (x : MG h h' 1 M) (m : M 3 = 0) : Mq h h' := Mq_X (MX_MG x m)
end
