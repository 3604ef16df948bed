/-! the line of a law in the reference -/
noncomputable def mlw_ (h : am_H) : am_O := ck_ (0 ≤ (94 : Int)) (bd_ (Mo_token h (94 : Int)) fun h3 _ => ck_ (0 ≤ (94 : Int)) (if (rd_ h3 (94 : Int) 8) ≠ 1 then ck_ (0 ≤ (94 : Int)) (bd_ (Mo_wrong h3 (94 : Int) 1) fun h5 v6 => ck_ (v6 = 0 ∨ v6 = 1) (some (h5, v6))) else ck_ (0 ≤ (94 : Int)) (if (rd_ h3 (94 : Int) 9) < 7 then ck_ (0 ≤ (94 : Int)) (bd_ (Mo_wrong h3 (94 : Int) 1) fun h7 v8 => ck_ (v8 = 0 ∨ v8 = 1) (some (h7, v8))) else ck_ (0 ≤ (94 : Int)) (if (rd_ h3 (94 : Int) 9) ≤ 9 then ck_ (0 ≤ (94 : Int)) (ck_ (0 ≤ (94 : Int)) (ck_ (0 ≤ (rf_ h3 (94 : Int) 35)) (ck_ (0 ≤ (w32 ((w32 (3 + (rd_ h3 (94 : Int) 9))) - 7)) ∧ (w32 ((w32 (3 + (rd_ h3 (94 : Int) 9))) - 7)) < ln_ h3 (rf_ h3 (94 : Int) 35)) (if (rd_ h3 (rf_ h3 (94 : Int) 35) (w32 ((w32 (3 + (rd_ h3 (94 : Int) 9))) - 7))) = 0 then ck_ (0 ≤ (94 : Int)) (ck_ (0 ≤ (rf_ h3 (94 : Int) 35)) (ck_ (0 ≤ (w32 ((w32 (3 + (rd_ h3 (94 : Int) 9))) - 7)) ∧ (w32 ((w32 (3 + (rd_ h3 (94 : Int) 9))) - 7)) < ln_ h3 (rf_ h3 (94 : Int) 35)) (ck_ (0 ≤ (94 : Int)) (bd_ (Mo_token (wr_ h3 (rf_ h3 (94 : Int) 35) (w32 ((w32 (3 + (rd_ h3 (94 : Int) 9))) - 7)) 1) (94 : Int)) fun h9 _ => ck_ (0 ≤ (94 : Int)) (ck_ (0 ≤ (94 : Int)) (ck_ (0 ≤ (rf_ h9 (94 : Int) 36)) (ck_ (0 ≤ (w32 ((w32 (3 + (rd_ h3 (94 : Int) 9))) - 7)) ∧ (w32 ((w32 (3 + (rd_ h3 (94 : Int) 9))) - 7)) < ln_ h9 (rf_ h9 (94 : Int) 36)) (ck_ (0 ≤ (94 : Int)) (bd_ (Mo_sumRead (wr_ h9 (rf_ h9 (94 : Int) 36) (w32 ((w32 (3 + (rd_ h3 (94 : Int) 9))) - 7)) (rd_ h9 (94 : Int) 21)) (94 : Int)) fun h11 v12 => ck_ (0 ≤ (94 : Int)) (ck_ (0 ≤ (94 : Int)) (ck_ (0 ≤ (rf_ h11 (94 : Int) 37)) (ck_ (0 ≤ (w32 ((w32 (3 + (rd_ h3 (94 : Int) 9))) - 7)) ∧ (w32 ((w32 (3 + (rd_ h3 (94 : Int) 9))) - 7)) < ln_ h11 (rf_ h11 (94 : Int) 37)) (if v12 ≠ 0 then ck_ (0 ≤ (94 : Int)) (bd_ (Mo_isSign (wr_ h11 (rf_ h11 (94 : Int) 37) (w32 ((w32 (3 + (rd_ h3 (94 : Int) 9))) - 7)) (rd_ h11 (94 : Int) 21)) (94 : Int) 59) fun h13 v14 => if v14 ≠ 0 then ck_ (0 ≤ (94 : Int)) (bd_ (Mo_token h13 (94 : Int)) fun h15 _ => some (h15, 1)) else ck_ (0 ≤ (94 : Int)) (bd_ (Mo_wrong h13 (94 : Int) 1) fun h17 v18 => ck_ (v18 = 0 ∨ v18 = 1) (some (h17, v18)))) else some (wr_ h11 (rf_ h11 (94 : Int) 37) (w32 ((w32 (3 + (rd_ h3 (94 : Int) 9))) - 7)) (rd_ h11 (94 : Int) 21), 0)))))))))))))) else ck_ (0 ≤ (94 : Int)) (bd_ (Mo_wrong h3 (94 : Int) 3) fun h19 v20 => ck_ (v20 = 0 ∨ v20 = 1) (some (h19, v20))))))) else ck_ (0 ≤ (94 : Int)) (bd_ (Mo_wrong h3 (94 : Int) 1) fun h21 v22 => ck_ (v22 = 0 ∨ v22 = 1) (some (h21, v22)))))))
theorem MRk_l {k v K X : Int} (m : MRk k v K X) : (K = 1 → 10 ≤ k ∧ k ≤ 29) ∧ (10 ≤ k → k ≤ 29 → K = 1) ∧ (10 ≤ k → k ≤ 19 → X = k - 10) ∧ (20 ≤ k → k ≤ 29 → 10 ≤ X) := by
  unfold MRk ciw_ at m
  repeat' split at m
  all_goals omega
def flw_ (F l : Int) (h h' : am_H) : Prop := h'.2 = h.2 ∧ ∀ a k, gk_ F a k → ¬ (110 ≤ a ∧ a ≤ 112 ∧ k = 3 + l) → rd_ h' a k = rd_ h a k
section
variable {B : Int → Int} {n p c s F l o : Int} {h h1 h2 g : am_H} {T : Tx} {K : Int → Int}
theorem flw_t (x : flw_ F l h h1) (y : flw_ F l h1 h2) : flw_ F l h h2 := ⟨y.1.trans x.1, fun a k q z => (y.2 a k q z).trans (x.2 a k q z)⟩
theorem flw_w {a v : Int} (q : 110 ≤ a ∧ a ≤ 112) : flw_ F l h (wr_ h a (3 + l) v) := ⟨rfl, fun b j _ z => by
  rw [rd_wr, if_neg]
  intro e
  exact z ⟨by omega, by omega, e.2⟩⟩
theorem flw_H (x : fH_ F h h1) : flw_ F l h h1 := ⟨x.1, fun a k q _ => x.2 a k q⟩
theorem flw_k (F0 : 0 ≤ F) (l0 : 0 ≤ l) (x : flw_ F l h h1) : fk_ h h1 := ⟨x.1, fun a k q => x.2 a k (by unfold pk_ at q; unfold gk_; omega) (by unfold pk_ at q; omega)⟩
theorem MP_law (m : MP h T c s) (v : LV T) (z : 0 ≤ T 0 4) (l0 : 0 ≤ l) (l3 : l < 3) (lt : T 0 4 < o) (kb : ∀ j, j < T 0 4 → K j = T 12 j) (fr : flw_ (T 0 4) l h g) (e0 : rd_ g 110 (3 + l) = 1) (e1 : rd_ g 111 (3 + l) = T 0 4) (e2 : rd_ g 112 (3 + l) = o) (e21 : rd_ g 94 21 = o) (e46 : rd_ g 94 46 = o) (kr : ∀ i, T 0 4 ≤ i → i < o → KR g (K i) i (hpn K (i - T 0 4).toNat (T 0 4) [])) : MP g (lwT_ T l K o) c s := by
  obtain ⟨a0, ⟨b0, b1, b2, b3, b4, b5⟩, a2, a3, a4, a5, a6, a7, a8, a9, a10, a11⟩ := m
  obtain ⟨f0, R⟩ := fr
  have G : ∀ a k, (97 ≤ a ∧ a ≤ 109 ∨ (110 ≤ a ∧ a ≤ 112 ∧ k ≠ 3 + l) ∨ (a = 94 ∧ 17 ≤ k ∧ k ≤ 20)) → rd_ g a k = rd_ h a k := fun a k q => R a k (by unfold gk_; omega) (by omega)
  have u : ∀ f : Nat, f ≠ 0 → f ≠ 12 → f ≠ 13 → f ≠ 14 → lwT_ T l K o f = T f := fun f a b d e => lw_f a b d e
  unfold MP
  rw [lw_04, lw_0 (k := 0) (by omega), lw_0 (k := 1) (by omega), lw_0 (k := 2) (by omega), lw_0 (k := 3) (by omega), lw_0 (k := 5) (by omega), lw_0 (k := 6) (by omega), lw_12, u 1 (by decide) (by decide) (by decide) (by decide), u 2 (by decide) (by decide) (by decide) (by decide), u 3 (by decide) (by decide) (by decide) (by decide), u 4 (by decide) (by decide) (by decide) (by decide), u 5 (by decide) (by decide) (by decide) (by decide), u 6 (by decide) (by decide) (by decide) (by decide), u 7 (by decide) (by decide) (by decide) (by decide), u 8 (by decide) (by decide) (by decide) (by decide), u 9 (by decide) (by decide) (by decide) (by decide), u 10 (by decide) (by decide) (by decide) (by decide), u 11 (by decide) (by decide) (by decide) (by decide)]
  refine ⟨ShM_of f0 a0, ⟨by rw [G _ _ (by omega)]; exact b0, by rw [G _ _ (by omega)]; exact b1, by rw [G _ _ (by omega)]; exact b2, by rw [G _ _ (by omega)]; exact b3, e21, e46⟩, ?_, ?_, ?_, ?_, ?_, ?_, ?_, ?_, ?_, ?_⟩
  · rw [G _ _ (by omega), G _ _ (by omega), G _ _ (by omega), G _ _ (by omega)]; exact a2
  · intro j x y
    rw [G _ _ (by omega), G _ _ (by omega)]; exact a3 j x y
  · intro j x y
    rw [G _ _ (by omega), G _ _ (by omega)]; exact a4 j x y
  · intro j x y
    rw [G _ _ (by omega)]; exact a5 j x y
  · intro p k p0 p1 k0 k1
    rw [G _ _ (by omega)]; exact a6 p k p0 p1 k0 k1
  · intro j x y
    rw [G _ _ (by omega), G _ _ (by omega)]; exact a7 j x y
  · intro j x y
    rw [G _ _ (by omega), G _ _ (by omega), G _ _ (by omega), G _ _ (by omega)]; exact a8 j x y
  · intro k x y
    rw [lw_13, lw_14]
    by_cases q : k = l
    · rw [if_pos q, if_pos q, q, e0, if_pos lt]
    · rw [if_neg q, if_neg q, G _ _ (by omega)]; exact a9 k x y
  · intro k x y w
    rw [lw_13, lw_14] at w ⊢
    by_cases q : k = l
    · rw [if_pos q, if_pos q, q]; exact ⟨e1, e2⟩
    · rw [if_neg q, if_neg q] at w ⊢
      rw [G _ _ (by omega), G _ _ (by omega)]; exact a10 k x y w
  · intro k i x y w w2
    rw [lw_13] at w ⊢
    rw [lw_14] at w2
    by_cases q : k = l
    · rw [if_pos q] at w w2 ⊢
      exact kr i w w2
    · rw [if_neg q] at w w2 ⊢
      have vk := v k x y
      have vk3 := vk.2.2.1
      have vk1 := vk.1
      rw [kb i (by omega), hpn_cg (K := T 12) _ _ _ (fun j p1 p2 => kb j (by omega))]
      exact KR_c (fun b p1 p2 => R b _ (by unfold gk_; omega) (by omega)) (a11 k i x y w w2)
theorem smE_42 (q : tk_k B n p = 42) : smE_ B n p T c s = (0, 0, tk_n B n p, T, c, s) := by
  unfold smE_ sc_f
  rw [if_neg (c := tk_k B n p ≠ 42) (fun y => y q), if_neg (by omega)]
theorem Mo_law_s {p0 : Int} (m : MP h T c s) (r : MR h B n p0) (v : TV T) (pn : p0 ≤ n) : ∃ h' y, mlw_ h = some (h', y) ∧ mnE_ h' B n y (lwL_ B n (tk_n B n p0) T c s) ∧ fk_ h h' := by
  have z : 0 ≤ T 0 4 := v.1.2.2.1
  have z1 : T 0 4 ≤ 64 := v.1.2.2.2.1
  have vL := v.2.2.2
  have nv0 := tk_nv (B := B) (n := n) (p := p0) pn
  have p00 := r.1.2.2.2.1
  obtain ⟨h1, a1, a2, a3⟩ := Mo_token_s r.1
  have nv0' := nv0.2.1
  clear nv0
  generalize tk_n B n p0 = p at *
  have m1 := MP_L m (fzY_K a3)
  have F1 : fk_ h h1 := fzY_k (fzY_K a3)
  have ml := fun (_ : Unit) => MRk_l a2.2.2
  have bad : ∀ f : Int, f ≠ 0 → ∃ h' y, (bd_ (Mo_wrong h1 94 f) fun h5 v6 => ck_ (v6 = 0 ∨ v6 = 1) (some (h5, v6))) = some (h', y) ∧ mnE_ h' B n y (f, tp_ B n p, 0, T, c, s) ∧ fk_ h h' := by
    intro f f0
    obtain ⟨h', b1, b2, b3⟩ := Mo_wrongB f a2.2.1
    exact ⟨h', 0, b1, Or.inl ⟨f0, rfl, b2⟩, fk_t F1 (fzY_k b3)⟩
  unfold mlw_ lwL_
  rw [ck_t (by omega), a1, bd_v, ck_t (by omega)]
  by_cases q1 : tk_k B n p < 17 ∨ 19 < tk_k B n p
  · rw [if_pos (c := tk_k B n p < 17 ∨ 19 < tk_k B n p) q1]
    by_cases y1 : rd_ h1 94 8 = 1
    · rw [if_neg (c := rd_ h1 94 8 ≠ 1) (fun z => z y1), ck_t (by omega)]
      by_cases y2 : rd_ h1 94 9 < 7
      · rw [if_pos (c := rd_ h1 94 9 < 7) y2, ck_t (by omega)]
        exact bad 1 (by omega)
      · have yk := (ml ()).1 y1
        have ya := (ml ()).2.2.1
        have yb := (ml ()).2.2.2
        have y9 : ¬ rd_ h1 94 9 ≤ 9 := by
          rcases q1 with q1 | q1
          · have := ya (by omega) (by omega)
            omega
          · have := yb (by omega) (by omega)
            omega
        rw [if_neg (c := rd_ h1 94 9 < 7) y2, ck_t (by omega), if_neg (c := rd_ h1 94 9 ≤ 9) y9, ck_t (by omega)]
        exact bad 1 (by omega)
    · rw [if_pos (c := rd_ h1 94 8 ≠ 1) y1, ck_t (by omega)]
      exact bad 1 (by omega)
  · rw [if_neg (c := tk_k B n p < 17 ∨ 19 < tk_k B n p) q1]
    have y1 := (ml ()).2.1 (by omega) (by omega)
    have y2 := (ml ()).2.2.1 (by omega) (by omega)
    obtain ⟨l, el⟩ : ∃ l, l = tk_k B n p - 17 := ⟨_, rfl⟩
    rw [← el]
    have l0 : 0 ≤ l := by omega
    have l3 : l < 3 := by omega
    have y3 : rd_ h1 94 9 = l + 7 := by omega
    have e110 := m1.2.2.2.2.2.2.2.2.2.1 l l0 l3
    clear bad
    have bad : ∀ f : Int, f ≠ 0 → ∃ h' y, (bd_ (Mo_wrong h1 94 f) fun h5 v6 => ck_ (v6 = 0 ∨ v6 = 1) (some (h5, v6))) = some (h', y) ∧ mnE_ h' B n y (f, tp_ B n p, 0, T, c, s) ∧ fk_ h h' := by
      intro f f0
      obtain ⟨h', b1, b2, b3⟩ := Mo_wrongB f a2.2.1
      exact ⟨h', 0, b1, Or.inl ⟨f0, rfl, b2⟩, fk_t F1 (fzY_k b3)⟩
    rw [if_neg (c := rd_ h1 94 8 ≠ 1) (fun z => z y1), y3, ck_t (by omega), if_neg (c := l + 7 < 7) (by omega), ck_t (by omega), if_pos (c := l + 7 ≤ 9) (by omega), w32_i (x := 3 + (l + 7)) (by omega) (by omega), w32_i (x := 3 + (l + 7) - 7) (by omega) (by omega), show 3 + (l + 7) - 7 = 3 + l by omega, mr35 m1.1, ml110 m1.1, e110]
    repeat rw [ck_t (by omega)]
    by_cases q3 : T 13 l < T 14 l
    · rw [if_pos (c := T 13 l < T 14 l) q3, if_pos (c := T 13 l < T 14 l) q3, if_neg (c := (1 : Int) = 0) (by omega)]
      exact bad 3 (by omega)
    · clear bad
      rw [if_neg (c := T 13 l < T 14 l) q3, if_neg (c := T 13 l < T 14 l) q3, if_pos (c := (0 : Int) = 0) rfl]
      obtain ⟨h3, c1, c2, c3⟩ := Mo_token_s (MR_o (a := 110) (k := 3 + l) (v := 1) a2 (by omega)).1
      have nv := tk_nv (B := B) (n := n) (p := p) nv0'
      have s3 : ShM h3 := c2.1.1
      have x21 : rd_ h3 94 21 = T 0 4 := by rw [c3.2.2 21 (by omega), rd_wo (by omega)]; exact m1.2.1.2.2.2.2.1
      have x46 : rd_ h3 94 46 = T 0 4 := by rw [c3.2.2 46 (by omega), rd_wo (by omega)]; exact m1.2.1.2.2.2.2.2
      rw [c1, bd_v, mr36 s3, ml111 s3, x21]
      repeat rw [ck_t (by omega)]
      have c4 : MR (wr_ h3 111 (3 + l) (T 0 4)) B n (tk_n B n p) := MR_o c2 (by omega)
      have p10 := a2.1.2.2.2.1
      obtain ⟨h5, y, d1, d2, d3⟩ := Mo_sumRead_s (h := wr_ h3 111 (3 + l) (T 0 4)) (T := T) (ShM_of rfl s3) (by rw [rd_wo (by omega)]; exact x21) (by rw [rd_wo (by omega)]; exact x46) c4 nv.2.1 p10.1 p10.2.2.1 z z1
      have s5 : ShM h5 := ShM_of d3.1 (ShM_of (h := h3) rfl s3)
      have L5 : flw_ (T 0 4) l h1 (wr_ h5 112 (3 + l) (rd_ h5 94 21)) := flw_t (flw_w (a := 110) (v := 1) (by omega)) (flw_t (flw_H (fzY_fH (fzY_K c3))) (flw_t (flw_w (a := 111) (v := T 0 4) (by omega)) (flw_t (flw_H d3) (flw_w (by omega)))))
      have K5 : fk_ h (wr_ h5 112 (3 + l) (rd_ h5 94 21)) := fk_t F1 (flw_k z l0 L5)
      rw [d1, bd_v, mr37 s5, ml112 s5]
      repeat rw [ck_t (by omega)]
      have key : mpE_ (wr_ h5 112 (3 + l) (rd_ h5 94 21)) B n y (if (fml_ B n 701 (tk_n B n p) (fsS_ T)).1 ≠ 0 then ((fml_ B n 701 (tk_n B n p) (fsS_ T)).1, (fml_ B n 701 (tk_n B n p) (fsS_ T)).2.1, 0, T, c, s) else (0, 0, (fml_ B n 701 (tk_n B n p) (fsS_ T)).2.2.1, lwT_ T l (fml_ B n 701 (tk_n B n p) (fsS_ T)).2.2.2.1 (fml_ B n 701 (tk_n B n p) (fsS_ T)).2.2.2.2, c, s)) := by
        rcases d2 with ⟨e1, e2, e3⟩ | ⟨e1, e2, pe, mn, e3, e4, e5, e6, e7⟩
        · rw [if_pos e1]
          exact Or.inl ⟨e1, e2, by rw [rd_wo (by omega)]; exact e3.1, by rw [rd_wo (by omega)]; exact e3.2⟩
        · rw [if_neg (fun x => x e1)]
          have fv := fml_v 701 (tk_n B n p) (fsS_ T) (fsS_V z z1) e1
          have fK := fv.2.2
          have fl := fv.2.1
          have fb := fv.1
          rw [e3, ← smE_42 e4]
          generalize (fml_ B n 701 (tk_n B n p) (fsS_ T)).2.2.2.1 = K at *
          generalize (fml_ B n 701 (tk_n B n p) (fsS_ T)).2.2.2.2 = o at *
          have lt : T 0 4 < o := by
            apply Classical.byContradiction
            intro x
            rw [show (o - T 0 4).toNat = 0 by omega] at fl
            have fl' : (0 : Nat) = 1 := fl
            omega
          have o21 : rd_ h5 94 21 = o := e7.2.1.2.2.2.2.2.2
          have o46 : rd_ h5 94 46 = o := e7.2.1.2.2.2.1
          refine Or.inr ⟨pe, _, c, s, rfl, e2, ?_, MR_o e6 (by omega)⟩
          refine MP_law m1 vL z l0 l3 lt fK L5 ?_ ?_ ?_ ?_ ?_ ?_
          · rw [rd_wo (by omega), d3.2 110 _ (by unfold gk_; omega), rd_wo (by omega), c3.2.1 110 (fun x => x) (by omega), rd_ws]
          · rw [rd_wo (by omega), d3.2 111 _ (by unfold gk_; omega), rd_ws]
          · rw [rd_ws]; exact o21
          · rw [rd_wo (by omega)]; exact o21
          · rw [rd_wo (by omega)]; exact o46
          · intro i i0 i1
            exact KR_c (fun b p1 p2 => rd_wo (by omega)) (e7.2.2.2.2 i i0 i1)
      obtain ⟨h7, y7, i1, i2, i3⟩ := mtl_s key
      exact ⟨h7, y7, i1, i2, fk_t K5 i3⟩
end
