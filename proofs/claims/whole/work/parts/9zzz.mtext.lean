/-! text, in the reference -/
section
variable {h : am_H} {T W I Q : Tx} {U : Int → Tx} {n : Int}
theorem Mo_text_b (g : MN h T W I U Q) (sv : SV T W I U Q) (q : ¬ (0 ≤ n ∧ n ≤ Q 4 4)) : Mo_text h 94 n = some (wr_ h 94 2 0, -2) ∧ MN (wr_ h 94 2 0) T W I U Q ∧ Fm_ h (wr_ h 94 2 0) := by
  have g0 := MN_q g sv.2.1 (Mq_2 h 0)
  have tp := g0.2.2.2.2.2.2.2.2.2.1.1
  refine ⟨?_, g0, Fm_q (Mq_2 h 0)⟩
  rw [Mo_text_e, ck_t (by omega)]
  by_cases y : n < 0
  · rw [if_pos y]
  · rw [if_neg y, tp, ck_t (by omega), if_neg (by omega)]
def mtP_ (a k : Int) : Prop := a = 94 ∧ (k = 2 ∨ k = 6 ∨ k = 1 ∨ k = 4 ∨ k = 5 ∨ k = 7)
/-- what reading brings, wherever it ends -/
theorem Mo_text_r (g : MN h T W I U Q) (sv : SV T W I U Q) (n0 : 0 ≤ n) (n1 : n ≤ Q 4 4) : ∃ g0 h', fp_ h g0 mtP_ ∧ fk_ g0 h' ∧ (rd_ g0 94 1 = 0 ∧ rd_ h' 94 1 = 0) ∧ (((rdA_ (Q 5) n).1 ≠ 0 ∧ Mo_text h 94 n = some (h', -1) ∧ mwE_ h' (rdA_ (Q 5) n).1 (rdA_ (Q 5) n).2.1) ∨ ((rdA_ (Q 5) n).1 = 0 ∧ (∃ c' s', MP h' (rdA_ (Q 5) n).2.2 c' s') ∧ Z4 h' ∧ Mo_text h 94 n = bd_ (Mo_keepText h' 94) fun h1 _ => some (h1, (rdA_ (Q 5) n).2.2 0 7))) := by
  have tv := sv.2.2.2.2.2.2
  obtain ⟨s, t, l, m, nn, b, u, im, q, tp, fa, wd⟩ := g
  have e1 : rd_ (wr_ h 94 2 0) 94 1 = Q 4 4 := by rw [rd_wk (by omega)]; exact tp.1
  have F0 : fp_ h (wr_ (wr_ (wr_ (wr_ (wr_ (wr_ h 94 2 0) 94 6 n) 94 1 0) 94 4 0) 94 5 (-1)) 94 7 0) mtP_ := fp_t (fp_t (fp_t (fp_t (fp_t (fp_w ⟨rfl, by omega⟩) (fp_w ⟨rfl, by omega⟩)) (fp_w ⟨rfl, by omega⟩)) (fp_w ⟨rfl, by omega⟩)) (fp_w ⟨rfl, by omega⟩)) (fp_w ⟨rfl, by omega⟩)
  have z6 : rd_ (wr_ (wr_ (wr_ (wr_ (wr_ (wr_ h 94 2 0) 94 6 n) 94 1 0) 94 4 0) 94 5 (-1)) 94 7 0) 94 6 = n := by rw [rd_wk (by omega), rd_wk (by omega), rd_wk (by omega), rd_wk (by omega), rd_ws]
  have z7 : rd_ (wr_ (wr_ (wr_ (wr_ (wr_ (wr_ h 94 2 0) 94 6 n) 94 1 0) 94 4 0) 94 5 (-1)) 94 7 0) 94 7 = 0 := rd_ws _ _ _ _
  have z1 : rd_ (wr_ (wr_ (wr_ (wr_ (wr_ (wr_ h 94 2 0) 94 6 n) 94 1 0) 94 4 0) 94 5 (-1)) 94 7 0) 94 1 = 0 := by rw [rd_wk (by omega), rd_wk (by omega), rd_wk (by omega), rd_ws]
  have z4 : rd_ (wr_ (wr_ (wr_ (wr_ (wr_ (wr_ h 94 2 0) 94 6 n) 94 1 0) 94 4 0) 94 5 (-1)) 94 7 0) 94 4 = 0 := by rw [rd_wk (by omega), rd_wk (by omega), rd_ws]
  have z5 : rd_ (wr_ (wr_ (wr_ (wr_ (wr_ (wr_ h 94 2 0) 94 6 n) 94 1 0) 94 4 0) 94 5 (-1)) 94 7 0) 94 5 = -1 := by rw [rd_wk (by omega), rd_ws]
  rw [Mo_text_e, ck_t (by omega), if_neg (by omega), e1, ck_t (by omega), if_pos n1]
  repeat rw [ck_t (by omega)]
  generalize wr_ (wr_ (wr_ (wr_ (wr_ (wr_ h 94 2 0) 94 6 n) 94 1 0) 94 4 0) 94 5 (-1)) 94 7 0 = g0 at F0 z6 z7 z1 z4 z5 ⊢
  have R : ∀ a k, a ≠ 94 → rd_ g0 a k = rd_ h a k := fun a k q => F0.2 a k (fun z => q z.1)
  obtain ⟨h1, a1, a2, a3, a4⟩ := Mo_plain_s (ShM_of F0.1 s)
  have k1 : MTk h1 (Q 5) n 0 := by
    refine ⟨ShM_of a3.1 (ShM_of F0.1 s), fun i p q => ?_, ⟨by rw [a4 6 (by omega)]; exact z6, by rw [a4 7 (by omega)]; exact z7⟩, ⟨by omega, n0, by omega, by rw [a4 4 (by omega)]; exact z4, by rw [a4 5 (by omega)]; exact z5⟩, fun k p q => ?_⟩
    · rw [a3.2 96 i (by unfold pk_; omega), R 96 i (by omega)]; exact wd i p q
    · rw [a3.2 95 k (by unfold pk_; omega), R 95 k (by omega)]
      exact ⟨tp.2 k p (by omega), tv.2 k p (by omega)⟩
  obtain ⟨h3, b1, b2, b3⟩ := Mo_token_s k1
  obtain ⟨h', c1, c2⟩ := Mo_text_lp (n + 1).toNat 0 0 h3 emT 0 0 (MP_L a2 (fzY_K b3)) b2 emT_W emT_V rfl n0 (by omega) (by omega) (by omega)
  have FK : fk_ g0 h' := fk_t a3 (fk_t (fzY_k (fzY_K b3)) c1)
  refine ⟨g0, h', F0, FK, ⟨z1, by rw [FK.2 94 1 (by unfold pk_; omega)]; exact z1⟩, ?_⟩
  rw [a1, bd_v, ck_t (by omega), b1, bd_v]
  exact c2
theorem Mo_text_f (g : MN h T W I U Q) (sv : SV T W I U Q) (n0 : 0 ≤ n) (n1 : n ≤ Q 4 4) (z : (rdA_ (Q 5) n).1 ≠ 0) : ∃ h', Mo_text h 94 n = some (h', -1) ∧ MN h' T W I U (tQf_ Q (rdA_ (Q 5) n).1 (rdA_ (Q 5) n).2.1) ∧ Fm_ h h' := by
  obtain ⟨g0, h', F0, FK, t1, c⟩ := Mo_text_r g sv n0 n1
  rcases c with ⟨c1, c2, c3⟩ | ⟨c1, _⟩
  · refine ⟨h', c2, ?_, ?_⟩
    · generalize (rdA_ (Q 5) n).1 = f at *
      generalize (rdA_ (Q 5) n).2.1 = pl at *
      have tvv := sv.1
      have wv := sv.2.2.1
      have w0 := wv.1
      have w1 := wv.2.1
      have v0 := tvv.1
      have vL := tvv.2.2.2
      obtain ⟨s, t, l, m, nn, b, u, im, q, tp, fa, wd⟩ := g
      have e2 : h'.2 = h.2 := FK.1.trans F0.1
      have R : ∀ a k, a ≠ 94 → pk_ a k → rd_ h' a k = rd_ h a k := fun a k x y => by rw [FK.2 a k y, F0.2 a k (fun z => x z.1)]
      have R9 : ∀ k, 12 ≤ k → ¬ (17 ≤ k ∧ k ≤ 21) → ¬ (43 ≤ k ∧ k ≤ 48) → rd_ h' 94 k = rd_ h 94 k := fun k x y w => by rw [FK.2 94 k (by unfold pk_; omega), F0.2 94 k (by unfold mtP_; omega)]
      have Ro : ∀ a k, a ≠ 94 → (a < 97 ∨ 118 ≤ a) → rd_ h' a k = rd_ h a k := fun a k x y => R a k x (by unfold pk_; omega)
      have zz : fz_ h h' (fun a => 97 ≤ a ∧ a ≤ 117) (fun k => k < 12 ∨ (17 ≤ k ∧ k ≤ 21) ∨ (43 ≤ k ∧ k ≤ 48)) := ⟨e2, fun a x y k => Ro a k y (by omega), fun k x => R9 k (by omega) (by omega) (by omega)⟩
      have n4 : ∀ j, j ≠ 4 → j ≠ 5 → j ≠ 6 → tQf_ Q f pl 4 j = Q 4 j := fun j x y w => by rw [tQf_4, if_neg w, if_neg y, if_neg x]
      refine ⟨ShM_of e2 s, ?_, ?_, MW_fz m zz (fun a p q => by omega), by rw [R9 60 (by omega) (by omega) (by omega)]; exact nn, fun x p q => by rw [Ro 124 x (by omega) (by omega)]; exact b x p q, by rw [n4 2 (by omega) (by omega) (by omega)]; exact MU_fz u zz (by omega) (by omega) (by omega), by rw [n4 3 (by omega) (by omega) (by omega)]; exact MI_fz im zz (fun a p q => by omega) (by omega) (by omega), ?_, ?_, ?_, fun i p q => by rw [Ro 96 i (by omega) (by omega)]; exact wd i p q⟩
      · obtain ⟨t0, t2, t3, t4, t5, t6, t7, t8, t9⟩ := t
        refine ⟨?_, fun j x y => ?_, fun j x y => ?_, fun j x y => ?_, fun j x y => ?_, fun p k p0 p1 k0 k1 => ?_, fun j x y => ?_, fun j x y => ?_, fun j x y => ?_⟩
        · rw [R9 12 (by omega) (by omega) (by omega), R9 13 (by omega) (by omega) (by omega), R9 14 (by omega) (by omega) (by omega), R9 15 (by omega) (by omega) (by omega), R9 16 (by omega) (by omega) (by omega), R 98 0 (by omega) (by unfold pk_; omega), R 98 1 (by omega) (by unfold pk_; omega)]; exact t0
        · rw [R 99 j (by omega) (by unfold pk_; omega)]; exact t2 j x y
        · rw [R 100 j (by omega) (by unfold pk_; omega)]; exact t3 j x y
        · rw [R 101 j (by omega) (by unfold pk_; omega)]; exact t4 j x y
        · rw [R 102 j (by omega) (by unfold pk_; omega)]; exact t5 j x y
        · have k1' : k < W0_ T (T 0 6) 0 p := k1
          have := w1 p p0 p1
          rw [R 103 _ (by omega) (by unfold pk_; omega)]; exact t6 p k p0 p1 k0 k1
        · rw [R 104 j (by omega) (by unfold pk_; omega)]; exact t7 j x y
        · rw [R 105 j (by omega) (by unfold pk_; omega)]; exact t8 j x y
        · rw [R 106 j (by omega) (by unfold pk_; omega), R 107 j (by omega) (by unfold pk_; omega), R 108 j (by omega) (by unfold pk_; omega), R 109 j (by omega) (by unfold pk_; omega)]; exact t9 j x y
      · obtain ⟨l1, l2, l3⟩ := l
        refine ⟨fun k x y => ?_, fun k x y w => ?_, fun k i x y i0 i1 => ?_⟩
        · rw [R 110 k (by omega) (by unfold pk_; omega)]; exact l1 k x y
        · rw [R 111 k (by omega) (by unfold pk_; omega), R 112 k (by omega) (by unfold pk_; omega)]; exact l2 k x y w
        · have vk := vL k x y
          have i64 : i < 64 := by have := vk.2.2.1; omega
          have k0 := l3 k i x y i0 i1
          unfold KN at *
          rw [R 113 i (by omega) (by unfold pk_; omega), R 114 i (by omega) (by unfold pk_; omega), R 115 i (by omega) (by unfold pk_; omega)]
          exact k0
      · obtain ⟨x, y, w⟩ := QM_fz q zz (by omega) (by omega) (by omega)
        refine ⟨by rw [n4 0 (by omega) (by omega) (by omega)]; exact x, by rw [n4 1 (by omega) (by omega) (by omega)]; exact y, fun i p q => ?_⟩
        rw [n4 0 (by omega) (by omega) (by omega)] at q
        rw [tQf_o Q f pl (g := 0) (by decide), tQf_o Q f pl (g := 1) (by decide), tQf_o Q f pl (g := 2) (by decide), tQf_o Q f pl (g := 3) (by decide)]
        exact w i p q
      · rw [tQf_4, if_neg (by omega), if_neg (by omega), if_pos rfl]
        exact ⟨t1.2, fun k p q => by omega⟩
      · rw [tQf_4, tQf_4, if_neg (by omega), if_pos rfl, if_pos rfl]
        exact c3
    · refine ⟨FK.1.trans F0.1, fun a q k => ?_⟩
      rw [FK.2 a k (by unfold pk_; omega), F0.2 a k (by unfold mtP_; omega)]
  · exact absurd c1 z
theorem Mo_text_s (g : MN h T W I U Q) (sv : SV T W I U Q) (n0 : 0 ≤ n) (n1 : n ≤ Q 4 4) (z : (rdA_ (Q 5) n).1 = 0) : ∃ h', Mo_text h 94 n = some (h', (rdA_ (Q 5) n).2.2 0 7) ∧ MN h' (rdA_ (Q 5) n).2.2 (W0_ (rdA_ (Q 5) n).2.2 ((rdA_ (Q 5) n).2.2 0 6)) I U (tQs_ Q) ∧ Fm_ h h' := by
  obtain ⟨g0, h', F0, FK, t1, c⟩ := Mo_text_r g sv n0 n1
  rcases c with ⟨c1, _⟩ | ⟨c1, ⟨c', s', mp⟩, z4, c2⟩
  · exact absurd z c1
  · have vv := rdA_v sv n0 n1 z
    generalize (rdA_ (Q 5) n).2.2 = T' at *
    obtain ⟨s, t, l, m, nn, b, u, im, q, tp, fa, wd⟩ := g
    have Ro : ∀ a k, (a < 94 ∨ a = 95 ∨ a = 96 ∨ 118 ≤ a) → rd_ h' a k = rd_ h a k := fun a k x => by rw [FK.2 a k (by unfold pk_; omega), F0.2 a k (by unfold mtP_; omega)]
    have u1 := u.2.2.2.2
    have i1 := im.2.2.2
    obtain ⟨h2, d1, d2, d3⟩ := Mo_keepText_s (I := I) (Q := Q) (U := U) mp vv.1 vv.2 (fun x p q => by rw [Ro 124 x (by omega)]; exact b x p q) (fun x p q => by rw [Ro 139 x (by omega)]; exact u1 x p q) (fun x p q => by rw [Ro 141 x (by omega)]; exact i1 x p q) (fun i p q => by rw [Ro 96 i (by omega)]; exact wd i p q) t1.2 z4.1 z4.2
    refine ⟨h2, by rw [c2, d1, bd_v], d2, ?_⟩
    have F1 : Fm_ h h' := ⟨FK.1.trans F0.1, fun a q k => by rw [FK.2 a k (by unfold pk_; omega), F0.2 a k (by unfold mtP_; omega)]⟩
    exact Fm_tr F1 (Fm_fz d3 (fun a q => by unfold kpA at q; omega))
end
