/-! see, strike -/
section
variable {h : am_H} {T W I : Tx} {U : Int → Tx} {Q : Tx}
def ok_sk (Q : Tx) (i : Int) : Prop := 0 ≤ i ∧ i < Q 4 0 ∧ Q 4 0 < 24
theorem r83_ {a : Int} (n : (83 : Int) ≠ a) (h : am_H) (k v j : Int) : rd_ (wr_ h a k v) 83 j = rd_ h 83 j := rd_wo n
theorem Se_addStrike_t (s : ShC h) (se : SE h Q) (v : QV T Q) {i : Int} (c : ok_sk Q i) : Se_addStrike h 83 i = some (wr_ (wr_ (wr_ h 84 (Q 4 0) 0) 88 (Q 4 0) i) 83 6 (Q 4 0 + 1), Q 4 0) := by
  obtain ⟨c1, c2, c3⟩ := c
  have v1 := v.1
  rw [Se_addStrike_e]
  try simp only [cr83_0 s, cl84 s, cr83_4 s, cl88 s]
  simp only [r83_ (show (83 : Int) ≠ 84 by decide), r83_ (show (83 : Int) ≠ 88 by decide), rd_ws, se.1]
  rw [if_neg (by omega)]
  repeat rw [ck_t (by omega)]
  rw [if_neg (by omega)]
  repeat rw [ck_t (by omega)]
  rw [if_pos c3]
  repeat rw [ck_t (by omega)]
  rw [w32_i (x := Q 4 0 + 1) (by omega) (by omega), w32_i (by omega) (by omega), show Q 4 0 + 1 - 1 = Q 4 0 by omega]
theorem Pp_strike_t (g : CI h T W I U Q) (sv : SV T W I U Q) {i : Int} (c : ok_sk Q i) : ∃ h', Pp_strike h 0 i = some (h', Q 4 0) ∧ CI h' T W I U (ak_ Q (-1) i 0 0) ∧ Fc_ h h' := by
  have se : SE h Q := g.2.2.2.2.2.2.2.2.1
  have f : fr_ h (wr_ (wr_ (wr_ h 84 (Q 4 0) 0) 88 (Q 4 0) i) 83 6 (Q 4 0 + 1)) (fun a => 83 ≤ a ∧ a ≤ 88) := fr_tr (fr_tr (fr_wr (by omega)) (fr_wr (by omega))) (fr_wr (by omega))
  obtain ⟨x, y⟩ := CI_Q g f (Q' := ak_ Q (-1) i 0 0) (by
    obtain ⟨a, b, d⟩ := se
    refine ⟨?_, ?_, ?_⟩
    · rw [rd_ws, ak_4, if_pos rfl]
    · rw [rd_wk (by omega), rd_wo (by omega), rd_wo (by omega), ak_4, if_neg (by omega)]; exact b
    · intro j p q
      rw [ak_4, if_pos rfl] at q
      rw [ak_0, ak_1, ak_2, ak_3]
      simp only [rd_wr]
      by_cases e : j = Q 4 0
      · subst e
        simp
      · have := d j p (by omega)
        simpa [e] using this) (fun j q => by rw [ak_4, if_neg (by omega)]) rfl
  refine ⟨_, ?_, x, y⟩
  rw [Pp_strike_e, cr0_14 g.1]
  repeat rw [ck_t (by omega)]
  rw [Se_addStrike_t g.1 se sv.2.2.2.1 c, bd_v]
theorem Pp_strike_f (g : CI h T W I U Q) {i : Int} (c : ¬ ok_sk Q i) : Pp_strike h 0 i = some (h, -1) := by
  have se : SE h Q := g.2.2.2.2.2.2.2.2.1
  have e : Se_addStrike h 83 i = some (h, -1) := by
    rw [Se_addStrike_e, se.1]
    by_cases c1 : i < 0
    · rw [if_pos c1]
    · rw [if_neg c1]
      repeat rw [ck_t (by omega)]
      by_cases c2 : Q 4 0 ≤ i
      · rw [if_pos c2]
      · rw [if_neg c2]
        repeat rw [ck_t (by omega)]
        rw [if_neg (fun q => c ⟨by omega, by omega, q⟩)]
  rw [Pp_strike_e, cr0_14 g.1]
  repeat rw [ck_t (by omega)]
  rw [e, bd_v]
def ok_se (T Q : Tx) (n p z : Int) : Prop := 1 ≤ n ∧ n ≤ 60 ∧ 0 ≤ p ∧ p < T 0 1 ∧ 1 ≤ z ∧ z ≤ 99 ∧ Q 4 0 < 24
theorem Se_addSight_t (s : ShC h) (se : SE h Q) (v : QV T Q) {n p z b : Int} (c : Q 4 0 < 24) (hb : b = 0 ∨ b = 1) : Se_addSight h 83 n p z b = some (wr_ (wr_ (wr_ (wr_ (wr_ (wr_ h 84 (Q 4 0) n) 85 (Q 4 0) p) 86 (Q 4 0) z) 87 (Q 4 0) b) 88 (Q 4 0) (-1)) 83 6 (Q 4 0 + 1), Q 4 0) := by
  have v1 := v.1
  rw [Se_addSight_e]
  try simp only [cr83_0 s, cl84 s, cr83_1 s, cl85 s, cr83_2 s, cl86 s, cr83_3 s, cl87 s, cr83_4 s, cl88 s]
  simp only [r83_ (show (83 : Int) ≠ 84 by decide), r83_ (show (83 : Int) ≠ 85 by decide), r83_ (show (83 : Int) ≠ 86 by decide), r83_ (show (83 : Int) ≠ 87 by decide), r83_ (show (83 : Int) ≠ 88 by decide), rd_ws, se.1]
  repeat rw [ck_t (by omega)]
  rw [if_pos c]
  repeat rw [ck_t (by omega)]
  rw [w32_i (x := Q 4 0 + 1) (by omega) (by omega), w32_i (by omega) (by omega), show Q 4 0 + 1 - 1 = Q 4 0 by omega]
theorem Pp_see_t (g : CI h T W I U Q) (sv : SV T W I U Q) {n p z b : Int} (c : ok_se T Q n p z) (hb : b = 0 ∨ b = 1) : ∃ h', Pp_see h 0 n p z b = some (h', Q 4 0) ∧ CI h' T W I U (ak_ Q n p z b) ∧ Fc_ h h' := by
  have se : SE h Q := g.2.2.2.2.2.2.2.2.1
  obtain ⟨c1, c2, c3, c4, c5, c6, c7⟩ := c
  have w := g.2.2.1
  have f : fr_ h (wr_ (wr_ (wr_ (wr_ (wr_ (wr_ h 84 (Q 4 0) n) 85 (Q 4 0) p) 86 (Q 4 0) z) 87 (Q 4 0) b) 88 (Q 4 0) (-1)) 83 6 (Q 4 0 + 1)) (fun a => 83 ≤ a ∧ a ≤ 88) := fr_tr (fr_tr (fr_tr (fr_tr (fr_tr (fr_wr (by omega)) (fr_wr (by omega))) (fr_wr (by omega))) (fr_wr (by omega))) (fr_wr (by omega))) (fr_wr (by omega))
  obtain ⟨x, y⟩ := CI_Q g f (Q' := ak_ Q n p z b) (by
    obtain ⟨a, b, d⟩ := se
    refine ⟨?_, ?_, ?_⟩
    · rw [rd_ws, ak_4, if_pos rfl]
    · rw [rd_wk (by omega), rd_wo (by omega), rd_wo (by omega), rd_wo (by omega), rd_wo (by omega), rd_wo (by omega), ak_4, if_neg (by omega)]; exact b
    · intro j p q
      rw [ak_4, if_pos rfl] at q
      rw [ak_0, ak_1, ak_2, ak_3]
      simp only [rd_wr]
      by_cases e : j = Q 4 0
      · subst e
        simp
        omega
      · have := d j p (by omega)
        simpa [e] using this) (fun j q => by rw [ak_4, if_neg (by omega)]) rfl
  refine ⟨_, ?_, x, y⟩
  rw [Pp_see_e, if_neg (by omega), if_neg (by omega)]
  simp only [cr0_7 g.1]
  repeat rw [ck_t (by omega)]
  rw [Wo_hasPile_t w c3 c4, bd_v, if_neg (by omega), if_neg (by omega), if_pos c6]
  simp only [cr0_14 g.1]
  repeat rw [ck_t (by omega)]
  rw [Se_addSight_t g.1 se sv.2.2.2.1 c7 hb, bd_v]
theorem Pp_see_f (g : CI h T W I U Q) {n p z b : Int} (c : ¬ ok_se T Q n p z) : Pp_see h 0 n p z b = some (h, -1) := by
  have se : SE h Q := g.2.2.2.2.2.2.2.2.1
  have w := g.2.2.1
  rw [Pp_see_e]
  by_cases c1 : n < 1
  · rw [if_pos c1]
  · rw [if_neg c1]
    by_cases c2 : 60 < n
    · rw [if_pos c2]
    · rw [if_neg c2]
      simp only [cr0_7 g.1]
      repeat rw [ck_t (by omega)]
      by_cases c3 : 0 ≤ p ∧ p < T 0 1
      · rw [Wo_hasPile_t w c3.1 c3.2, bd_v, if_neg (by omega)]
        by_cases c4 : z < 1
        · rw [if_pos c4]
        · rw [if_neg c4]
          by_cases c5 : z ≤ 99
          · rw [if_pos c5]
            simp only [cr0_14 g.1]
            repeat rw [ck_t (by omega)]
            rw [Se_addSight_e, se.1, ck_t (by omega), if_neg (fun q => c ⟨by omega, by omega, c3.1, c3.2, by omega, c5, q⟩), bd_v]
          · rw [if_neg c5]
      · rw [Wo_hasPile_f w c3, bd_v, if_pos rfl]
theorem r94_ (h : am_H) (k v j : Int) : rd_ (wr_ h 135 k v) 94 j = rd_ h 94 j := rd_wo (by decide)
theorem Mo_noted_s (s : ShM h) (qm : QM h Q) (v : QV T Q) (c : Q 4 0 < 24) (a b d e : Int) : Mo_noted h 94 a b d e = some (wr_ (wr_ (wr_ (wr_ (wr_ h 135 (4 * Q 4 0) a) 135 (4 * Q 4 0 + 1) b) 135 (4 * Q 4 0 + 2) d) 135 (4 * Q 4 0 + 3) e) 94 80 (Q 4 0 + 1), Q 4 0) := by
  have v1 := v.1
  rw [Mo_noted_e]
  try simp only [mr82 s, ml135 s]
  simp only [r94_, rd_ws, qm.1]
  rw [w32_i (x := 4 * Q 4 0) (by omega) (by omega), w32_i (x := 4 * Q 4 0 + 1) (by omega) (by omega), w32_i (x := 4 * Q 4 0 + 2) (by omega) (by omega), w32_i (x := 4 * Q 4 0 + 3) (by omega) (by omega), w32_i (x := Q 4 0 + 1) (by omega) (by omega), w32_i (x := Q 4 0 + 1 - 1) (by omega) (by omega), show Q 4 0 + 1 - 1 = Q 4 0 by omega]
  repeat rw [ck_t (by omega)]
theorem Mo_noted_q (g0 : MN h T W I U Q) (sv : SV T W I U Q) (c : Q 4 0 < 24) (a b d e : Int) : ∃ h', Mo_noted (wr_ h 94 2 0) 94 a b d e = some (h', Q 4 0) ∧ MN h' T W I U (ak_ Q a b d e) ∧ Fm_ h h' := by
  have g := MN_q g0 sv.2.1 (Mq_2 h 0)
  have qm : QM (wr_ h 94 2 0) Q := g.2.2.2.2.2.2.2.2.1
  have z : fz_ h (wr_ (wr_ (wr_ (wr_ (wr_ (wr_ h 94 2 0) 135 (4 * Q 4 0) a) 135 (4 * Q 4 0 + 1) b) 135 (4 * Q 4 0 + 2) d) 135 (4 * Q 4 0 + 3) e) 94 80 (Q 4 0 + 1)) (fun a => a = 135) (fun k => k = 2 ∨ k = 80 ∨ k = 81) := fz_tr (fz_tr (fz_tr (fz_tr (fz_tr (fz_wf (by omega)) (fz_wr rfl (by omega))) (fz_wr rfl (by omega))) (fz_wr rfl (by omega))) (fz_wr rfl (by omega))) (fz_wf (by omega))
  obtain ⟨x, y⟩ := MN_Q g0 z (Q' := ak_ Q a b d e) (by
    obtain ⟨m1, m2, m3⟩ := qm
    refine ⟨?_, ?_, ?_⟩
    · rw [rd_ws, ak_4, if_pos rfl]
    · rw [rd_wk (by omega), r94_, r94_, r94_, r94_, ak_4, if_neg (by omega)]; exact m2
    · intro j p q
      rw [ak_4, if_pos rfl] at q
      rw [ak_0, ak_1, ak_2, ak_3]
      simp only [rd_wo (show (135 : Int) ≠ 94 by decide), rd_wa]
      by_cases f : j = Q 4 0
      · subst f
        refine ⟨?_, ?_, fun _ => ⟨?_, ?_⟩⟩
        · rw [if_neg (by omega), if_neg (by omega), if_neg (by omega), if_pos rfl, if_pos rfl]
        · rw [if_neg (by omega), if_neg (by omega), if_pos rfl, if_pos rfl]
        · rw [if_neg (by omega), if_pos rfl, if_pos rfl]
        · rw [if_pos rfl, if_pos rfl]
      · have w := m3 j p (by omega)
        simp only [rd_wo (show (135 : Int) ≠ 94 by decide)] at w
        simp only [if_neg f]
        refine ⟨?_, ?_, fun t => ⟨?_, ?_⟩⟩
        · rw [if_neg (by omega), if_neg (by omega), if_neg (by omega), if_neg (by omega)]; exact w.1
        · rw [if_neg (by omega), if_neg (by omega), if_neg (by omega), if_neg (by omega)]; exact w.2.1
        · rw [if_neg (by omega), if_neg (by omega), if_neg (by omega), if_neg (by omega)]; exact (w.2.2 t).1
        · rw [if_neg (by omega), if_neg (by omega), if_neg (by omega), if_neg (by omega)]; exact (w.2.2 t).2) (fun j q => by rw [ak_4, if_neg (by omega)]) rfl
  exact ⟨_, Mo_noted_s g.1 qm sv.2.2.2.1 c a b d e, x, y⟩
theorem Mo_strike_t (g0 : MN h T W I U Q) (sv : SV T W I U Q) {i : Int} (c : ok_sk Q i) : ∃ h', Mo_strike h 94 i = some (h', Q 4 0) ∧ MN h' T W I U (ak_ Q (-1) i 0 0) ∧ Fm_ h h' := by
  obtain ⟨c1, c2, c3⟩ := c
  have g := MN_q g0 sv.2.1 (Mq_2 h 0)
  have qm : QM (wr_ h 94 2 0) Q := g.2.2.2.2.2.2.2.2.1
  obtain ⟨h', x, y, z⟩ := Mo_noted_q g0 sv c3 (-1) i 0 0
  refine ⟨h', ?_, y, z⟩
  rw [Mo_strike_e, qm.1]
  repeat rw [ck_t (by omega)]
  rw [if_neg (by omega), if_neg (by omega)]
  repeat rw [ck_t (by omega)]
  rw [if_pos c2]
  repeat rw [ck_t (by omega)]
  rw [x, bd_v]
theorem Mo_strike_f (g0 : MN h T W I U Q) (sv : SV T W I U Q) {i : Int} (c : ¬ ok_sk Q i) : Mo_strike h 94 i = some (wr_ h 94 2 0, -1) := by
  have g := MN_q g0 sv.2.1 (Mq_2 h 0)
  have qm : QM (wr_ h 94 2 0) Q := g.2.2.2.2.2.2.2.2.1
  have v1 := sv.2.2.2.1.1
  rw [Mo_strike_e, qm.1]
  repeat rw [ck_t (by omega)]
  by_cases c1 : Q 4 0 = 24
  · rw [if_pos c1]
  · rw [if_neg c1]
    by_cases c2 : i < 0
    · rw [if_pos c2]
    · rw [if_neg c2]
      repeat rw [ck_t (by omega)]
      rw [if_neg (fun q => c ⟨by omega, q, by omega⟩)]
theorem Mo_see_t (g0 : MN h T W I U Q) (sv : SV T W I U Q) {n p z b : Int} (c : ok_se T Q n p z) (hb : b = 0 ∨ b = 1) : ∃ h', Mo_see h 94 n p z b = some (h', Q 4 0) ∧ MN h' T W I U (ak_ Q n p z b) ∧ Fm_ h h' := by
  obtain ⟨c1, c2, c3, c4, c5, c6, c7⟩ := c
  have g := MN_q g0 sv.2.1 (Mq_2 h 0)
  have qm : QM (wr_ h 94 2 0) Q := g.2.2.2.2.2.2.2.2.1
  obtain ⟨h', x, y, w⟩ := Mo_noted_q g0 sv c7 n p z b
  refine ⟨h', ?_, y, w⟩
  rw [Mo_see_e, qm.1]
  repeat rw [ck_t (by omega)]
  rw [if_neg (by omega), Mo_isIn_t c1 c2, bd_v, if_neg (by omega), Mo_isPile_t g.2.1 c3 c4, ck_t (by omega), bd_v, if_neg (by omega), Mo_isIn_t c5 c6, bd_v, if_pos (by omega)]
  repeat rw [ck_t (by omega)]
  rcases hb with e | e
  · rw [e] at x
    rw [e, if_pos rfl, x, bd_v]
  · rw [e] at x
    rw [e, if_neg (by omega), x, bd_v]
theorem Mo_see_f (g0 : MN h T W I U Q) (sv : SV T W I U Q) {n p z b : Int} (c : ¬ ok_se T Q n p z) : Mo_see h 94 n p z b = some (wr_ h 94 2 0, -1) := by
  have g := MN_q g0 sv.2.1 (Mq_2 h 0)
  have qm : QM (wr_ h 94 2 0) Q := g.2.2.2.2.2.2.2.2.1
  have v1 := sv.2.2.2.1.1
  rw [Mo_see_e, qm.1]
  repeat rw [ck_t (by omega)]
  by_cases c0 : Q 4 0 = 24
  · rw [if_pos c0]
  · rw [if_neg c0]
    by_cases c1 : 1 ≤ n ∧ n ≤ 60
    · rw [Mo_isIn_t c1.1 c1.2, bd_v, if_neg (by omega), ck_t (by omega)]
      by_cases c2 : 0 ≤ p ∧ p < T 0 1
      · rw [Mo_isPile_t g.2.1 c2.1 c2.2, bd_v, if_neg (by omega)]
        have : ¬ (1 ≤ z ∧ z ≤ 99) := fun q => c ⟨c1.1, c1.2, c2.1, c2.2, q.1, q.2, by omega⟩
        rw [Mo_isIn_f this, bd_v, if_neg (by omega)]
      · rw [Mo_isPile_f g.2.1 c2, bd_v, if_pos rfl]
    · rw [Mo_isIn_f c1, bd_v, if_pos rfl]
end
