/-! see, strike, known, on both sides -/
def ak_ (Q : Tx) (a b c d : Int) : Tx := up_ (up_ (up_ (up_ (up_ Q 0 (Q 4 0) a) 1 (Q 4 0) b) 2 (Q 4 0) c) 3 (Q 4 0) d) 4 0 (Q 4 0 + 1)
theorem ak_0 (Q : Tx) (a b c d i : Int) : ak_ Q a b c d 0 i = if i = Q 4 0 then a else Q 0 i := rfl
theorem ak_1 (Q : Tx) (a b c d i : Int) : ak_ Q a b c d 1 i = if i = Q 4 0 then b else Q 1 i := rfl
theorem ak_2 (Q : Tx) (a b c d i : Int) : ak_ Q a b c d 2 i = if i = Q 4 0 then c else Q 2 i := rfl
theorem ak_3 (Q : Tx) (a b c d i : Int) : ak_ Q a b c d 3 i = if i = Q 4 0 then d else Q 3 i := rfl
theorem ak_4 (Q : Tx) (a b c d i : Int) : ak_ Q a b c d 4 i = if i = 0 then Q 4 0 + 1 else Q 4 i := rfl
theorem ak_5 (Q : Tx) (a b c d : Int) : ak_ Q a b c d 5 = Q 5 := rfl
theorem ak_v {T Q : Tx} (v : QV T Q) {a b c d : Int} (n : Q 4 0 < 24) (k : (a = -1 ∧ 0 ≤ b ∧ b < Q 4 0) ∨ (1 ≤ a ∧ a ≤ 60 ∧ 0 ≤ b ∧ b < T 0 1 ∧ 1 ≤ c ∧ c ≤ 99 ∧ (d = 0 ∨ d = 1))) : QV T (ak_ Q a b c d) := by
  obtain ⟨v1, v2⟩ := v
  refine ⟨?_, ?_⟩
  · rw [ak_4, ak_4, if_pos rfl, if_neg (by omega)]
    omega
  · intro i p q
    rw [ak_4, if_pos rfl] at q
    rw [ak_0, ak_1, ak_2, ak_3]
    by_cases c : i = Q 4 0
    · repeat rw [if_pos c]
      rw [c]; exact k
    · repeat rw [if_neg c]
      exact v2 i p (by omega)
section
variable {h : am_H} {T W I : Tx} {U : Int → Tx} {Q : Tx}
theorem CI_Q {h' : am_H} (g : CI h T W I U Q) (f : fr_ h h' (fun a => 83 ≤ a ∧ a ≤ 88)) {Q' : Tx} (se : SE h' Q') (e : ∀ j, 2 ≤ j → Q' 4 j = Q 4 j) (e5 : Q' 5 = Q 5) : CI h' T W I U Q' ∧ Fc_ h h' := by
  obtain ⟨s, ⟨t, c1, c2, c3, c4, c5, c6, c7⟩, w, s5, s6, im, tp, fa, -, d, lg⟩ := g
  have R : ∀ a, ¬ (83 ≤ a ∧ a ≤ 88) → ∀ k, rd_ h' a k = rd_ h a k := f.2
  have F : fq_ h h' (fun a => 83 ≤ a ∧ a ≤ 88) (fun _ => False) := fq_fr f
  have r0 : ∀ k, rf_ h' 0 k = rf_ h 0 k := F.2.2 0 (fun q => q)
  refine ⟨⟨ShC_of f.1 s, ⟨t, c1, by rw [r0]; exact c2, by rw [r0]; exact c3, TO_fq c4 F (by intro a p q; omega) (fun q => q), WO_fq c5 F (by intro a p q; omega) (fun q => q), ShT_q (fq_ln F) (F.2.2 _ (fun q => q)) c6, ShW_q (fq_ln F) (F.2.2 _ (fun q => q)) c7⟩, WO_fq w F (by intro a p q; omega) (fun q => q), ShW_q (fq_ln F) (F.2.2 56 (fun q => q)) s5, ShW_q (fq_ln F) (F.2.2 65 (fun q => q)) s6, ?_, ?_, ?_, se, ?_, ?_⟩, fq_mo F (fun a q => by omega) (fun a q => q.elim), r0 16⟩
  · rw [e 3 (by omega), R 0 (by omega)]
    exact ⟨im.1, fun q => WO_fq (im.2 q) F (by intro a p q; omega) (fun q => q)⟩
  · rw [e 4 (by omega), R 0 (by omega), e5]
    exact ⟨tp.1, fun j p q => by rw [R 1 (by omega)]; exact tp.2 j p q⟩
  · rw [e 5 (by omega), e 6 (by omega), R 0 (by omega), R 0 (by omega)]; exact fa
  · rw [e 2 (by omega)]
    exact DO_R d (fun a p q k => R a (by omega) k)
  · intro i p q
    rw [R 4 (by omega)]; exact lg i p q
theorem MN_Q {h' : am_H} (g : MN h T W I U Q) (z : fz_ h h' (fun a => a = 135) (fun k => k = 2 ∨ k = 80 ∨ k = 81)) {Q' : Tx} (qm : QM h' Q') (e : ∀ j, 2 ≤ j → Q' 4 j = Q 4 j) (e5 : Q' 5 = Q 5) : MN h' T W I U Q' ∧ Fm_ h h' := by
  obtain ⟨s, t, l, m, n, b, u, im, q, tp, fa, wd⟩ := g
  have R : ∀ a, a ≠ 135 → a ≠ 94 → ∀ k, rd_ h' a k = rd_ h a k := z.2.1
  have Rf : ∀ k, ¬ (k = 2 ∨ k = 80 ∨ k = 81) → rd_ h' 94 k = rd_ h 94 k := z.2.2
  refine ⟨⟨fz_ShM z s, MT_fz t z (by intro a p q; omega) (by intro k p q; omega), ML_fm l z (by intro a p q; omega), MW_fz m z (by intro a p q; omega), by rw [Rf 60 (by omega)]; exact n, fun x p q => by rw [R 124 (by omega) (by omega)]; exact b x p q, by rw [e 2 (by omega)]; exact MU_fz u z (by omega) (by omega) (by omega), by rw [e 3 (by omega)]; exact MI_fz im z (by intro a p q; omega) (by omega) (by omega), qm, ⟨by rw [e 4 (by omega), Rf 1 (by omega)]; exact tp.1, fun k p q => by rw [R 95 (by omega) (by omega), e5]; exact tp.2 k p (by rw [e 4 (by omega)] at q; exact q)⟩, ⟨by rw [e 5 (by omega), Rf 4 (by omega)]; exact fa.1, by rw [e 6 (by omega), Rf 5 (by omega)]; exact fa.2⟩, fun i p q => by rw [R 96 (by omega) (by omega)]; exact wd i p q⟩, Fm_fz z (fun a q => by omega)⟩
/-- known -/
def ok_kn (Q : Tx) (k : Int) : Prop := -1 ≤ k ∧ k ≤ Q 4 0
theorem Pp_known_t (g : CI h T W I U Q) {k : Int} (c : ok_kn Q k) : ∃ h', Pp_known h 0 k = some (h', 1) ∧ CI h' T W I U (up_ Q 4 1 k) ∧ Fc_ h h' := by
  have se : SE h Q := g.2.2.2.2.2.2.2.2.1
  obtain ⟨c1, c2⟩ := c
  have f : fr_ h (wr_ h 83 7 k) (fun a => 83 ≤ a ∧ a ≤ 88) := fr_wr (by omega)
  obtain ⟨x, y⟩ := CI_Q g f (Q' := up_ Q 4 1 k) (by
    obtain ⟨a, b, d⟩ := se
    refine ⟨?_, ?_, ?_⟩
    · rw [rd_wk (by omega), up_s, if_neg (by omega)]; exact a
    · rw [rd_ws, up_s, if_pos rfl]
    · intro i p q
      rw [up_s, if_neg (by omega)] at q
      rw [rd_wo (by omega), rd_wo (by omega), rd_wo (by omega), rd_wo (by omega), rd_wo (by omega)]
      exact d i p q) (fun j q => by rw [up_s, if_neg (by omega)]) rfl
  refine ⟨_, ?_, x, y⟩
  rw [Pp_known_e, cr0_14 g.1]
  repeat rw [ck_t (by omega)]
  rw [Se_knowBy_e, if_neg (by omega), se.1]
  repeat rw [ck_t (by omega)]
  rw [if_pos c2]
  repeat rw [ck_t (by omega)]
  rw [bd_v]
  repeat rw [ck_t (by omega)]
theorem Pp_known_f (g : CI h T W I U Q) {k : Int} (c : ¬ ok_kn Q k) : Pp_known h 0 k = some (h, 0) := by
  have se : SE h Q := g.2.2.2.2.2.2.2.2.1
  have e : Se_knowBy h 83 k = some (h, 0) := by
    rw [Se_knowBy_e, se.1]
    by_cases c1 : k < -1
    · rw [if_pos c1]
    · rw [if_neg c1]
      repeat rw [ck_t (by omega)]
      rw [if_neg (fun q => c ⟨by omega, q⟩)]
  rw [Pp_known_e, cr0_14 g.1]
  repeat rw [ck_t (by omega)]
  rw [e, bd_v]
  repeat rw [ck_t (by omega)]
theorem Mo_known_t (g0 : MN h T W I U Q) (v : WV T W) {k : Int} (c : ok_kn Q k) : ∃ h', Mo_known h 94 k = some (h', 1) ∧ MN h' T W I U (up_ Q 4 1 k) ∧ Fm_ h h' := by
  have g := MN_q g0 v (Mq_2 h 0)
  have qm : QM (wr_ h 94 2 0) Q := g.2.2.2.2.2.2.2.2.1
  obtain ⟨c1, c2⟩ := c
  have z : fz_ h (wr_ (wr_ h 94 2 0) 94 81 k) (fun a => a = 135) (fun k => k = 2 ∨ k = 80 ∨ k = 81) := fz_tr (fz_wf (by omega)) (fz_wf (by omega))
  obtain ⟨x, y⟩ := MN_Q g0 z (Q' := up_ Q 4 1 k) (by
    obtain ⟨a, b, d⟩ := qm
    refine ⟨?_, ?_, ?_⟩
    · rw [rd_wk (by omega), up_s, if_neg (by omega)]; exact a
    · rw [rd_ws, up_s, if_pos rfl]
    · intro i p q
      rw [up_s, if_neg (by omega)] at q
      rw [rd_wo (by omega), rd_wo (by omega), rd_wo (by omega), rd_wo (by omega)]
      exact d i p q) (fun j q => by rw [up_s, if_neg (by omega)]) rfl
  refine ⟨_, ?_, x, y⟩
  rw [Mo_known_e, qm.1]
  repeat rw [ck_t (by omega)]
  rw [Mo_isIn_t c1 c2, bd_v, if_pos (by omega)]
  repeat rw [ck_t (by omega)]
theorem Mo_known_f (g0 : MN h T W I U Q) (v : WV T W) {k : Int} (c : ¬ ok_kn Q k) : Mo_known h 94 k = some (wr_ h 94 2 0, 0) := by
  have g := MN_q g0 v (Mq_2 h 0)
  have qm : QM (wr_ h 94 2 0) Q := g.2.2.2.2.2.2.2.2.1
  rw [Mo_known_e, qm.1]
  repeat rw [ck_t (by omega)]
  rw [Mo_isIn_f c, bd_v, if_neg (by omega)]
end
