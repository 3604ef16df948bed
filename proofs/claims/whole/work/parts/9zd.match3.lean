/-! match: both sides -/
theorem rs_s1 (P : Int) (n : Nat) (c : Int) : rs_ P (n + 1) c = w32 (Int.tdiv (rs_ P n c) (w32 (P + 1))) := rfl
section
variable {h : am_H} {T W I : Tx} {U : Int → Tx} {Q : Tx} {K S : Int}
theorem Mo_match_26s (g : MN h T W I U Q) (v : WV T W) {x b : Int} (x0 : 0 ≤ x) (x1 : x < T 0 0) : ∀ (n : Nat), (n : Int) + x + 1 ≤ T 0 0 → Mo_match_26 h 94 x (rs_ (T 0 1) (T 0 0 - 1 - x - n).toNat b) (x + n) = some (h, if gP_ (T 0 1) (T 0 0) b x = T 0 1 then -2 else gP_ (T 0 1) (T 0 0) b x) := by
  intro n
  have v0 := v.1
  have w1 : w32 (T 0 1 + 1) = T 0 1 + 1 := w32_i (by omega) (by omega)
  have e13 : rd_ h 94 13 = T 0 1 := g.2.1.1.2.1
  induction n with
  | zero =>
    intro hn
    have ed : Int.tmod (rs_ (T 0 1) (T 0 0 - 1 - x - ((0 : Nat) : Int)).toNat b) (w32 (T 0 1 + 1)) = gP_ (T 0 1) (T 0 0) b x := by
      unfold gP_
      rw [show T 0 0 - 1 - x - ((0 : Nat) : Int) = T 0 0 - 1 - x by omega]
    rw [Mo_match_26_e, if_pos (by omega), ck_t (by omega)]
    simp only [e13]
    rw [ck_t (by omega), ck_t (by omega), ed]
    by_cases q : gP_ (T 0 1) (T 0 0) b x = T 0 1
    · rw [if_neg (fun z => z q), if_pos q]
    · rw [if_pos q, if_neg q]
  | succ n ih =>
    intro hn
    have er : w32 (Int.tdiv (rs_ (T 0 1) (T 0 0 - 1 - x - ((n + 1 : Nat) : Int)).toNat b) (w32 (T 0 1 + 1))) = rs_ (T 0 1) (T 0 0 - 1 - x - (n : Int)).toNat b := by
      rw [show (T 0 0 - 1 - x - (n : Int)).toNat = (T 0 0 - 1 - x - ((n + 1 : Nat) : Int)).toNat + 1 by omega]
      rfl
    rw [Mo_match_26_e, if_neg (by omega), ck_t (by omega)]
    simp only [e13]
    rw [ck_t (by omega), er, w32_i (x := x + ((n + 1 : Nat) : Int) + -1) (by omega) (by omega), show x + ((n + 1 : Nat) : Int) + -1 = x + n by omega]
    exact ih (by omega)
theorem Mo_match_9s (g : MN h T W I U Q) (v : WV T W) {x : Int} : ∀ (n k : Nat), (k : Int) + n = T 0 0 → Mo_match_9 h 94 x (cp1_ (T 0 1) k) k = Mo_match_12 h 94 x (nK_c (T 0 0) (T 0 1)) (-1) (-1) 0 0 := by
  intro n
  have v0 := v.1
  have e12 : rd_ h 94 12 = T 0 0 := g.2.1.1.1
  have e13 : rd_ h 94 13 = T 0 1 := g.2.1.1.2.1
  induction n with
  | zero =>
    intro k hk
    rw [Mo_match_9_e, ck_t (by omega), e12, if_pos (by omega)]
    unfold nK_c
    rw [show (T 0 0).toNat = k by omega]
  | succ n ih =>
    intro k hk
    rw [Mo_match_9_e, ck_t (by omega), e12, if_neg (by omega), ck_t (by omega), e13, w32_i (x := (k : Int) + 1) (by omega) (by omega)]
    exact ih (k + 1) (by omega)
theorem Mo_match_6s (sv : SV T W I U Q) {x : Int} : ∀ (n : Nat) (p : Int) (h : am_H), 0 ≤ p → p + n = T 0 1 → MN h T W I U Q → RW h 134 p (cst_ T W) → ∃ h', Mo_match_6 h 94 x p = Mo_match_9 h' 94 x 1 0 ∧ MN h' T W I U Q ∧ RW h' 134 (T 0 1) (cst_ T W) ∧ Mq h h' := by
  intro n
  have v := sv.2.1
  have v0 := v.1
  induction n with
  | zero =>
    intro p h p0 hp g r
    have e13 : rd_ h 94 13 = T 0 1 := g.2.1.1.2.1
    have e : p = T 0 1 := by omega
    refine ⟨h, ?_, g, by rw [← e]; exact r, Mq_refl h⟩
    rw [Mo_match_6_e, ck_t (by omega), e13, if_pos (by omega)]
  | succ n ih =>
    intro p h p0 hp g r
    have p1 : p < T 0 1 := by omega
    have hh := v.2.1 p p0 p1
    have e13 : rd_ h 94 13 = T 0 1 := g.2.1.1.2.1
    have y0 : rd_ h 120 p = W 0 p := by have := g.2.2.2.1.2.1 p p0 p1; simpa using this
    have hh2 : 0 ≤ W 0 p := by omega
    obtain ⟨h1, b', a1, a2, a3, a4, a5⟩ := Mo_far_p (H := W 0 p) (w := 1) g v hh2 hh.2 (Or.inr rfl)
    obtain ⟨h2, c1, c2, c3, c4⟩ := Mo_codeOfPile_s (p := p) (w := 1) a4 v p0 p1 (Or.inr rfl)
    have m2 := MB_R a2 c4
    have st := st_b (w := 1) v p0 p1
    have r2 : RW h2 134 p (cst_ T W) := fun k k0 k1 => by rw [c4.2.1 134 (by omega) (by omega), a5.2.1 134 (by omega) (by omega)]; exact r k k0 k1
    have Z : Mq h2 (wr_ h2 134 p (cst_ T W p)) := Mq_fz (A := fun a => a = 134) (F := fun _ => False) (fz_wr rfl (by omega)) (fun x q => by unfold mQA; omega) (fun k q => absurd q id)
    obtain ⟨h3, d1, d2, d3, d4⟩ := ih (p + 1) (wr_ h2 134 p (cst_ T W p)) (by omega) (by omega) (MN_q c3 v Z) (RW_gr r2 rfl)
    refine ⟨h3, ?_, d2, d3, Mq_tr (mF_q a5) (Mq_tr (mR_q c4) (Mq_tr Z d4))⟩
    have ev : rd_ h2 129 (stM T W p 1) = cst_ T W p := by
      rw [m2.1 _ st.2.2.2.1 st.2.2.2.2, ← st.2.2.1]
      exact a3.1 _ st.1 st.2.1
    rw [Mo_match_6_e, ck_t (by omega), e13, if_neg (by omega)]
    simp only [mr52 g.1, ml120 g.1, y0]
    rw [ck_t (by omega), ck_t (by omega), ck_t (by omega), ck_t (by omega), a1, bd_v, ck_t (by omega), ck_t (by omega), ck_t (by omega), c1, bd_v]
    simp only [mr71 a4.1, mr79 a4.1, ml129 c3.1, ml134 c3.1]
    rw [ck_t (by omega), ck_t (by omega), ck_t (by omega), ck_t (by omega), ev, w32_i (x := p + 1) (by omega) (by omega), d1]
/-- one best code, for both -/
theorem mt_best (sv : SV T W I U Q) : ∃ k, (0 ≤ k ∧ k < nK_c (T 0 0) (T 0 1)) ∧ ∀ b mny s, MB2 (T 0 1) (T 0 0) (cst_ T W) (T 2) (nK_c (T 0 0) (T 0 1)) b mny s → b = k ∧ mny = mny_ (T 0 1) (gP_ (T 0 1) (T 0 0) k) (T 0 0).toNat ∧ s = su_ (T 0 1) (cst_ T W) (gP_ (T 0 1) (T 0 0) k) (T 0 0).toNat := by
  have v0 := sv.2.1.1
  have kv := kM_v (M := T 0 0) (P := T 0 1) (by omega) (by omega) (by omega) (by omega)
  have last : VGc (T 0 1) (T 0 0) (cst_ T W) (T 2) (nK_c (T 0 0) (T 0 1) - 1) := by
    have z := ((kv.2.2.2.1 (nK_c (T 0 0) (T 0 1) - 1) (by omega) (by omega)).2.2.2).mp (by omega)
    exact ⟨fun m a c => Or.inl (z m a c), fun i j a c d _ => z i a (by omega)⟩
  by_cases ex : ∃ b mny s, MB2 (T 0 1) (T 0 0) (cst_ T W) (T 2) (nK_c (T 0 0) (T 0 1)) b mny s
  · obtain ⟨b, mny, s, q⟩ := ex
    rcases q with ⟨_, _, _, no⟩ | ⟨k0, k1, kv', em, es, up, lo⟩
    · exact absurd last (no _ (by omega) (by omega))
    · refine ⟨b, ⟨k0, k1⟩, fun b' mny' s' q' => ?_⟩
      rcases q' with ⟨_, _, _, no⟩ | ⟨l0, l1, lv, lm, ls, lup, llo⟩
      · exact absurd last (no _ (by omega) (by omega))
      · have e : b' = b := by
          rcases Int.lt_trichotomy b' b with z | z | z
          · have x1 := lo b' l0 z lv
            have x2 := lup b k0 k1 kv'
            omega
          · exact z
          · have x1 := llo b k0 z kv'
            have x2 := up b' l0 l1 lv
            omega
        rw [e] at lm ls
        exact ⟨e, lm, ls⟩
  · exact ⟨0, ⟨by omega, by omega⟩, fun b mny s q => absurd ⟨b, mny, s, q⟩ ex⟩
noncomputable def mtk_ (T W I : Tx) (U : Int → Tx) (Q : Tx) : Int := by
  classical
  exact if q : SV T W I U Q then Classical.choose (mt_best q) else 0
theorem mtk_s (sv : SV T W I U Q) : (0 ≤ mtk_ T W I U Q ∧ mtk_ T W I U Q < nK_c (T 0 0) (T 0 1)) ∧ ∀ b mny s, MB2 (T 0 1) (T 0 0) (cst_ T W) (T 2) (nK_c (T 0 0) (T 0 1)) b mny s → b = mtk_ T W I U Q ∧ mny = mny_ (T 0 1) (gP_ (T 0 1) (T 0 0) (mtk_ T W I U Q)) (T 0 0).toNat ∧ s = su_ (T 0 1) (cst_ T W) (gP_ (T 0 1) (T 0 0) (mtk_ T W I U Q)) (T 0 0).toNat := by
  have e : mtk_ T W I U Q = Classical.choose (mt_best sv) := by unfold mtk_; rw [dif_pos sv]
  rw [e]
  exact Classical.choose_spec (mt_best sv)
noncomputable def mtch_ (T W I : Tx) (U : Int → Tx) (Q : Tx) (x : Int) : Int := mtc_ (T 0 1) (T 0 0) (cst_ T W) (gP_ (T 0 1) (T 0 0) (mtk_ T W I U Q)) x
theorem Mo_match_t (g0 : MN h T W I U Q) (sv : SV T W I U Q) {x : Int} (x0 : 0 ≤ x) (x5 : x ≤ 5) : ∃ h', Mo_match h 94 x = some (h', mtch_ T W I U Q x) ∧ MN h' T W I U Q ∧ Mq h h' := by
  have v := sv.2.1
  have v0 := v.1
  have q2 := Mq_2 h 0
  have g := MN_q g0 v q2
  have kv := kM_v (M := T 0 0) (P := T 0 1) (by omega) (by omega) (by omega) (by omega)
  have e12 : rd_ (wr_ h 94 2 0) 94 12 = T 0 0 := g.2.1.1.1
  have body : (4 ≤ x ∨ x < T 0 0) → ∃ h', Mo_match_6 (wr_ h 94 2 0) 94 x 0 = some (h', mtch_ T W I U Q x) ∧ MN h' T W I U Q ∧ Mq h h' := by
    intro hx
    obtain ⟨h1, a1, a2, a3, a4⟩ := Mo_match_6s sv (x := x) (T 0 1).toNat 0 (wr_ h 94 2 0) (by omega) (by omega) g (fun k p q => by omega)
    have b1 := Mo_match_9s a2 v (x := x) (T 0 0).toNat 0 (by omega)
    have Cb : ∀ p, 0 ≤ p → p < T 0 1 → 0 ≤ cst_ T W p ∧ cst_ T W p ≤ 20 := fun p p0 p1 => cst_b v p0 p1
    obtain ⟨h2, b', m', s', c1, c2, c3, c4⟩ := Mo_match_12s (I := I) (U := U) (Q := Q) v Cb (x := x) (nK_c (T 0 0) (T 0 1)).toNat 0 (-1) (-1) 0 h1 (by omega) (by omega) a2 a3 (Or.inl ⟨rfl, rfl, rfl, fun c c0 c1 => by omega⟩)
    obtain ⟨f1, f2, f3⟩ := (mtk_s sv).2 _ _ _ c2
    have e12' : rd_ h2 94 12 = T 0 0 := c3.2.1.1.1
    refine ⟨h2, ?_, c3, Mq_tr q2 (Mq_tr a4 (mL_q c4))⟩
    have b1' : Mo_match_9 h1 94 x 1 0 = Mo_match_12 h1 94 x (nK_c (T 0 0) (T 0 1)) (-1) (-1) 0 0 := b1
    rw [a1, b1', c1, Mo_match_12_e, if_pos (by omega)]
    unfold mtch_ mtc_
    by_cases x3 : x ≤ 3
    · have xM : x < T 0 0 := by omega
      have k := Mo_match_26s c3 v (b := b') x0 xM (T 0 0 - 1 - x).toNat (by omega)
      rw [show (T 0 0 - 1 - x - ((T 0 0 - 1 - x).toNat : Int)).toNat = 0 by omega, show x + ((T 0 0 - 1 - x).toNat : Int) = T 0 0 - 1 by omega] at k
      rw [if_pos x3, ck_t (by omega), e12', w32_i (x := T 0 0 - 1) (by omega) (by omega), if_pos xM, ← f1]
      exact k
    · rw [if_neg x3, if_neg (c := x < T 0 0) (by omega), if_neg (c := x < 4) (by omega)]
      by_cases x4 : x = 4
      · rw [if_neg (fun z => z x4), if_pos x4, f2]
      · rw [if_pos x4, if_neg x4, f3]
  rw [Mo_match_e, ck_t (by omega), Mo_isIn_t x0 x5, bd_v, if_pos (by omega)]
  by_cases x4 : 4 ≤ x
  · rw [if_pos x4]
    exact body (Or.inl x4)
  · rw [if_neg x4, ck_t (by omega), e12]
    by_cases xM : x < T 0 0
    · rw [if_pos xM]
      exact body (Or.inr xM)
    · rw [if_neg xM]
      refine ⟨_, ?_, g, q2⟩
      unfold mtch_ mtc_
      rw [if_neg xM, if_pos (c := x < 4) (by omega)]
theorem Mo_match_f (h : am_H) {x : Int} (c : ¬ (0 ≤ x ∧ x ≤ 5)) : Mo_match h 94 x = some (wr_ h 94 2 0, -1) := by
  rw [Mo_match_e, ck_t (by omega), Mo_isIn_f c, bd_v, if_neg (by omega)]
theorem Mo_mtb (sv : SV T W I U Q) : ∀ (n : Nat) (k b mny s : Int), 0 ≤ k → k + n = nK_c (T 0 0) (T 0 1) → MB2 (T 0 1) (T 0 0) (cst_ T W) (T 2) k b mny s → ∃ b' m' s', MB2 (T 0 1) (T 0 0) (cst_ T W) (T 2) (nK_c (T 0 0) (T 0 1)) b' m' s' := by
  intro n
  have v0 := sv.2.1.1
  have Cb : ∀ p, 0 ≤ p → p < T 0 1 → 0 ≤ cst_ T W p ∧ cst_ T W p ≤ 20 := fun p p0 p1 => cst_b sv.2.1 p0 p1
  induction n with
  | zero =>
    intro k b mny s k0 hk q
    have e : k = nK_c (T 0 0) (T 0 1) := by omega
    rw [e] at q
    exact ⟨b, mny, s, q⟩
  | succ n ih =>
    intro k b mny s k0 hk q
    by_cases vk : VGc (T 0 1) (T 0 0) (cst_ T W) (T 2) k
    · by_cases t : 0 ≤ b ∧ uc_ (T 0 1) (T 0 0) (cst_ T W) k ≤ uc_ (T 0 1) (T 0 0) (cst_ T W) b
      · refine ih (k + 1) b mny s (by omega) (by omega) ?_
        rcases q with ⟨q1, q2, q3, q4⟩ | ⟨q1, q2, q3, q4, q5, q6, q7⟩
        · omega
        · exact Or.inr ⟨q1, by omega, q3, q4, q5, fun c c0 c1 vc => by
            by_cases e : c = k
            · rw [e]; exact t.2
            · exact q6 c c0 (by omega) vc, q7⟩
      · refine ih (k + 1) k _ _ (by omega) (by omega) (Or.inr ⟨k0, by omega, vk, rfl, rfl, fun c c0 c1 vc => ?_, fun c c0 c1 vc => ?_⟩)
        · by_cases e : c = k
          · rw [e]; exact Int.le_refl _
          · rcases q with ⟨q1, q2, q3, q4⟩ | ⟨q1, q2, q3, q4, q5, q6, q7⟩
            · exact absurd vc (q4 c c0 (by omega))
            · have := q6 c c0 (by omega) vc
              omega
        · rcases q with ⟨q1, q2, q3, q4⟩ | ⟨q1, q2, q3, q4, q5, q6, q7⟩
          · exact absurd vc (q4 c c0 (by omega))
          · have := q6 c c0 (by omega) vc
            omega
    · refine ih (k + 1) b mny s (by omega) (by omega) ?_
      rcases q with ⟨q1, q2, q3, q4⟩ | ⟨q1, q2, q3, q4, q5, q6, q7⟩
      · exact Or.inl ⟨q1, q2, q3, fun c c0 c1 vc => by
          by_cases e : c = k
          · rw [e] at vc; exact vk vc
          · exact q4 c c0 (by omega) vc⟩
      · exact Or.inr ⟨q1, by omega, q3, q4, q5, fun c c0 c1 vc => by
          by_cases e : c = k
          · rw [e] at vc; exact absurd vc vk
          · exact q6 c c0 (by omega) vc, q7⟩
theorem Pp_match_t (g : CJ h T W I U Q K S) (sv : SV T W I U Q) {x : Int} (x0 : 0 ≤ x) (x5 : x ≤ 5) : ∃ h', Pp_match h 0 x = some (h', mtch_ T W I U Q x) ∧ CJ h' T W I U Q K S ∧ lb_ h h' := by
  have v := sv.2.1
  have v0 := v.1
  have kv := kM_v (M := T 0 0) (P := T 0 1) (by omega) (by omega) (by omega) (by omega)
  have Cb : ∀ p, 0 ≤ p → p < T 0 1 → 0 ≤ cst_ T W p ∧ cst_ T W p ≤ 20 := fun p p0 p1 => cst_b v p0 p1
  obtain ⟨h1, a1, a2, a3, a4⟩ := Pp_price_lp sv (K := K) (S := S) (T 0 1).toNat 0 h g (by omega) (by omega) (fun k p q => by omega)
  obtain ⟨b, w, b1, b2⟩ := Pp_bestC_s a3.1 sv a2 Cb
  obtain ⟨k', m', s', q⟩ := Mo_mtb sv (nK_c (T 0 0) (T 0 1)).toNat 0 (-1) (-1) 0 (by omega) (by omega) (Or.inl ⟨rfl, rfl, rfl, fun c c0 c1 => by omega⟩)
  obtain ⟨e1, -, -⟩ := (mtk_s sv).2 _ _ _ q
  obtain ⟨f1, f2, f3, -, -⟩ := FM_MB (M := T 0 0) (P := T 0 1) (by omega) (by omega) (by omega) (by omega) Cb b2 q
  rw [e1] at f1 f2 f3
  have eb := (kv.2.2.2.1 _ f1 f2).2.2.1
  rw [← f3] at eb
  have fin := Pp_match_lp a3.1 sv a2 Cb (b := b) (e := gP_ (T 0 1) (T 0 0) (mtk_ T W I U Q)) x0 x5 eb (T 0 0).toNat 0 (by omega) (by omega) (Or.inl x0)
  refine ⟨h1, ?_, a3, a4⟩
  rw [Pp_match_e, if_neg (by omega), if_pos (by omega), ck_t (by omega), Pp_priceThePiles_e, a1, bd_v, ck_t (by omega), b1, bd_v]
  exact fin
theorem Pp_match_f (h : am_H) {x : Int} (c : ¬ (0 ≤ x ∧ x ≤ 5)) : Pp_match h 0 x = some (h, -1) := by
  rw [Pp_match_e]
  by_cases q : x < 0
  · rw [if_pos q]
  · rw [if_neg q, if_neg (by omega)]
end
