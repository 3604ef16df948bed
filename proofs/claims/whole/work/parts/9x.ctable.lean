/-! new cells; the class's tables of turning -/
def agB_ (B : Int) (h h' : am_H) : Prop := nn_ h ≤ nn_ h' ∧ ss_ h ≤ ss_ h' ∧ ∀ a, a < B → (∀ k, rd_ h' a k = rd_ h a k) ∧ (∀ k, rf_ h' a k = rf_ h a k) ∧ ln_ h' a = ln_ h a
theorem agB_refl (B : Int) (h : am_H) : agB_ B h h := ⟨Int.le_refl _, Int.le_refl _, fun _ _ => ⟨fun _ => rfl, fun _ => rfl, rfl⟩⟩
theorem agB_tr {B : Int} {h h1 h2 : am_H} (x : agB_ B h h1) (y : agB_ B h1 h2) : agB_ B h h2 := ⟨Int.le_trans x.1 y.1, Int.le_trans x.2.1 y.2.1, fun a q => ⟨fun k => ((y.2.2 a q).1 k).trans ((x.2.2 a q).1 k), fun k => ((y.2.2 a q).2.1 k).trans ((x.2.2 a q).2.1 k), (y.2.2 a q).2.2.trans (x.2.2 a q).2.2⟩⟩
theorem agB_mo {B C : Int} {h h1 : am_H} (x : agB_ B h h1) (q : C ≤ B) : agB_ C h h1 := ⟨x.1, x.2.1, fun a r => x.2.2 a (by omega)⟩
theorem agB_nw {B : Int} {h : am_H} (kind : Nat) {n : Int} (n0 : 0 ≤ n) (q : B ≤ nn_ h) : agB_ B h (nw_ h kind n) := ⟨by rw [nn_nw]; omega, by show ss_ h ≤ ss_ h + n; omega, fun a r => ⟨fun k => rd_nw (by omega) k, fun k => if_neg (by omega), ln_nw (by omega)⟩⟩
theorem agB_wr {B : Int} {h : am_H} {a k v : Int} (q : B ≤ a) : agB_ B h (wr_ h a k v) := ⟨Int.le_refl _, Int.le_refl _, fun b r => ⟨fun k => rd_wo (by omega), fun _ => rfl, rfl⟩⟩
theorem rf_wo {h : am_H} {a k v b j : Int} (n : b ≠ a) : rf_ (wf_ h a k v) b j = rf_ h b j := if_neg fun q => n q.1
theorem rf_wk {h : am_H} {a k v j : Int} (n : j ≠ k) : rf_ (wf_ h a k v) a j = rf_ h a j := if_neg fun q => n q.2
theorem rf_ws (h : am_H) (a k v : Int) : rf_ (wf_ h a k v) a k = v := if_pos ⟨rfl, rfl⟩
theorem rf_nwo {h : am_H} {kind : Nat} {n a : Int} (ha : a ≠ nn_ h) (k : Int) : rf_ (nw_ h kind n) a k = rf_ h a k := if_neg ha
theorem rf_nws (h : am_H) (kind : Nat) (n k : Int) : rf_ (nw_ h kind n) (nn_ h) k = -1 := if_pos rfl
theorem agB_wf {B : Int} {h : am_H} {a k v : Int} (q : B ≤ a) : agB_ B h (wf_ h a k v) := ⟨Int.le_refl _, Int.le_refl _, fun b r => ⟨fun _ => rfl, fun k => rf_wo (by omega), rfl⟩⟩
theorem agB_fr {B : Int} {h h' : am_H} {A : Int → Prop} (f : fr_ h h' A) (q : ∀ a, A a → B ≤ a) : agB_ B h h' := ⟨by rw [fr_nn f]; omega, by rw [fr_ss f]; omega, fun a r => ⟨fun k => f.2 a (fun z => by have := q a z; omega) k, fun k => fr_rf f a k, fr_ln f a⟩⟩
def ot_ (i : Int) : Int := tO_ (i / 5) (i % 5 + 1)
def fct_ (i : Int) : Int := fC_ (i / 5) (i % 5 + 1)
def CHu (h : am_H) (u : Int) : Prop := (144 ≤ u ∧ u + 3 ≤ nn_ h) ∧ (rf_ h u 0 = u + 1 ∧ rf_ h u 1 = u + 2) ∧ (ln_ h (u + 1) = 600 ∧ ln_ h (u + 2) = 160) ∧ RW h (u + 1) 600 ot_ ∧ RW h (u + 2) 160 fct_
def Tsh (h : am_H) (u : Int) : Prop := 0 ≤ u ∧ rf_ h u 0 = u + 1 ∧ rf_ h u 1 = u + 2 ∧ ln_ h (u + 1) = 600 ∧ ln_ h (u + 2) = 160 ∧ ln_ h (u + 3) = 5
theorem Tsh_fr {h h' : am_H} {u : Int} {A : Int → Prop} (s : Tsh h u) (f : fr_ h h' A) : Tsh h' u := by
  unfold Tsh
  rw [fr_rf f, fr_rf f, fr_ln f, fr_ln f, fr_ln f]
  exact s
theorem RW_gr {h : am_H} {a n v : Int} {R : Int → Int} (r : RW h a n R) (e : v = R n) : RW (wr_ h a n v) a (n + 1) R := by
  intro k k0 k1
  rw [rd_wa]
  by_cases q : k = n
  · rw [if_pos q, e, q]
  · rw [if_neg q]; exact r k k0 (by omega)
theorem Tu_new_3s {u o : Int} (o0 : 0 ≤ o) (o1 : o < 120) : ∀ (n : Nat) (d : Int) (h : am_H), Tsh h u → 1 ≤ d → d + n = 6 → RW h (u + 1) (5 * o + d - 1) ot_ → ∃ h', Tu_new_3 h u (u + 3) o d = Tu_new_1 h' u (u + 3) (o + 1) ∧ RW h' (u + 1) (5 * (o + 1)) ot_ ∧ fr_ h h' (fun a => a = u + 1 ∨ a = u + 3) := by
  intro n
  induction n with
  | zero =>
    intro d h s d0 hd r
    have e : d = 6 := by omega
    subst e
    refine ⟨h, ?_, ?_, fr_refl _ _⟩
    · rw [Tu_new_3_e, if_pos (by omega), w32_i (by omega) (by omega)]
    · rw [show 5 * (o + 1) = 5 * o + 6 - 1 by omega]; exact r
  | succ n ih =>
    intro d h s d0 hd r
    obtain ⟨s0, s1, s2, s3, s4, s5⟩ := id s
    obtain ⟨h1, a1, a2, a3⟩ := Tu_lay_s (h := h) (a := u + 3) (o := o) (by omega) (by omega) (fun k _ _ => rfl)
    obtain ⟨h2, b1, b2, b3⟩ := Pp_reverse_s (d := d) (by omega) (by rw [fr_ln a3]; omega) (by omega) (by omega) (by omega) a2
    have c1 := Pp_orderOf_s (by omega) (by rw [fr_ln b3, fr_ln a3]; omega) (by omega) (by omega) b2
    have f2 : fr_ h h2 (fun a => a = u + 1 ∨ a = u + 3) := fr_tr (fr_mo a3 (fun _ q => Or.inr q)) (fr_mo b3 (fun _ q => Or.inr q))
    have sh2 := Tsh_fr s f2
    have r2 : RW h2 (u + 1) (5 * o + d - 1) ot_ := RW_fr (RW_fr r a3 (by omega)) b3 (by omega)
    have ev : oo_ (rR_ d (ly1_ o 5 0 (fun _ => 0))) ((5 : Int) - 1).toNat 1 0 = ot_ (5 * o + d - 1) := by
      unfold ot_ tO_ ly_
      rw [show (5 * o + d - 1) / 5 = o by omega, show (5 * o + d - 1) % 5 + 1 = d by omega]
      rfl
    obtain ⟨h3, d1, d2, d3⟩ := ih (d + 1) (wr_ h2 (u + 1) (5 * o + d - 1) (oo_ (rR_ d (ly1_ o 5 0 (fun _ => 0))) ((5 : Int) - 1).toNat 1 0)) (Tsh_fr sh2 (fr_wr (A := fun _ => True) trivial)) (by omega) (by omega) (by rw [show 5 * o + (d + 1) - 1 = 5 * o + d - 1 + 1 by omega]; exact RW_gr r2 ev)
    refine ⟨h3, ?_, d2, fr_tr f2 (fr_tr (fr_wr (Or.inl rfl)) d3)⟩
    rw [Tu_new_3_e, if_neg (by omega), a1, bd_v, b1, bd_v, ck_t (by omega), c1, bd_v]
    simp only [sh2.2.1, sh2.2.2.2.1]
    rw [w32_i (x := o * 5) (by omega) (by omega), w32_i (x := o * 5 + d) (by omega) (by omega), w32_i (x := o * 5 + d - 1) (by omega) (by omega), w32_i (x := d + 1) (by omega) (by omega), ck_t (by omega), ck_t (by omega), show o * 5 + d - 1 = 5 * o + d - 1 by omega, d1]
theorem Tu_new_1s {u : Int} : ∀ (n : Nat) (o : Int) (h : am_H), Tsh h u → 0 ≤ o → o + n = 120 → RW h (u + 1) (5 * o) ot_ → ∃ h', Tu_new_1 h u (u + 3) o = Tu_new_7 h' u 0 ∧ RW h' (u + 1) 600 ot_ ∧ fr_ h h' (fun a => a = u + 1 ∨ a = u + 3) := by
  intro n
  induction n with
  | zero =>
    intro o h s o0 ho r
    have e : o = 120 := by omega
    subst e
    exact ⟨h, by rw [Tu_new_1_e, if_pos (by omega)], r, fr_refl _ _⟩
  | succ n ih =>
    intro o h s o0 ho r
    obtain ⟨h1, a1, a2, a3⟩ := Tu_new_3s (u := u) o0 (by omega) 5 1 h s (by omega) (by omega) (by rw [show 5 * o + 1 - 1 = 5 * o by omega]; exact r)
    obtain ⟨h2, b1, b2, b3⟩ := ih (o + 1) h1 (Tsh_fr s a3) (by omega) (by omega) a2
    exact ⟨h2, by rw [Tu_new_1_e, if_neg (by omega), a1, b1], b2, fr_tr a3 b3⟩
theorem Tu_new_9s {u o : Int} (o0 : 0 ≤ o) (o1 : o < 32) : ∀ (n : Nat) (d : Int) (h : am_H), Tsh h u → 1 ≤ d → d + n = 6 → RW h (u + 2) (5 * o + d - 1) fct_ → ∃ h', Tu_new_9 h u o d = Tu_new_7 h' u (o + 1) ∧ RW h' (u + 2) (5 * (o + 1)) fct_ ∧ fr_ h h' (fun a => a = u + 2) := by
  intro n
  induction n with
  | zero =>
    intro d h s d0 hd r
    have e : d = 6 := by omega
    subst e
    refine ⟨h, ?_, ?_, fr_refl _ _⟩
    · rw [Tu_new_9_e, if_pos (by omega), w32_i (by omega) (by omega)]
    · rw [show 5 * (o + 1) = 5 * o + 6 - 1 by omega]; exact r
  | succ n ih =>
    intro d h s d0 hd r
    obtain ⟨s0, s1, s2, s3, s4, s5⟩ := id s
    have ev : fC_ o d = fct_ (5 * o + d - 1) := by
      unfold fct_
      rw [show (5 * o + d - 1) / 5 = o by omega, show (5 * o + d - 1) % 5 + 1 = d by omega]
    obtain ⟨h3, d1, d2, d3⟩ := ih (d + 1) (wr_ h (u + 2) (5 * o + d - 1) (fC_ o d)) (Tsh_fr s (fr_wr (A := fun _ => True) trivial)) (by omega) (by omega) (by rw [show 5 * o + (d + 1) - 1 = 5 * o + d - 1 + 1 by omega]; exact RW_gr r ev)
    refine ⟨h3, ?_, d2, fr_tr (fr_wr rfl) d3⟩
    rw [Tu_new_9_e, if_neg (by omega), ck_t (by omega), Tu_flipped_s (by omega) (by omega), bd_v]
    simp only [s2, s4]
    rw [w32_i (x := o * 5) (by omega) (by omega), w32_i (x := o * 5 + d) (by omega) (by omega), w32_i (x := o * 5 + d - 1) (by omega) (by omega), w32_i (x := d + 1) (by omega) (by omega), ck_t (by omega), ck_t (by omega), show o * 5 + d - 1 = 5 * o + d - 1 by omega, d1]
theorem Tu_new_7s {u : Int} : ∀ (n : Nat) (o : Int) (h : am_H), Tsh h u → 0 ≤ o → o + n = 32 → RW h (u + 2) (5 * o) fct_ → ∃ h', Tu_new_7 h u o = some (h', 0) ∧ RW h' (u + 2) 160 fct_ ∧ fr_ h h' (fun a => a = u + 2) := by
  intro n
  induction n with
  | zero =>
    intro o h s o0 ho r
    have e : o = 32 := by omega
    subst e
    exact ⟨h, by rw [Tu_new_7_e, if_pos (by omega)], r, fr_refl _ _⟩
  | succ n ih =>
    intro o h s o0 ho r
    obtain ⟨h1, a1, a2, a3⟩ := Tu_new_9s (u := u) o0 (by omega) 5 1 h s (by omega) (by omega) (by rw [show 5 * o + 1 - 1 = 5 * o by omega]; exact r)
    obtain ⟨h2, b1, b2, b3⟩ := ih (o + 1) h1 (Tsh_fr s a3) (by omega) (by omega) a2
    exact ⟨h2, by rw [Tu_new_7_e, if_neg (by omega), a1, b1], b2, fr_tr a3 b3⟩
theorem Tu_new_s {h : am_H} (u0 : 144 ≤ nn_ h) : ∃ h', Tu_new (nw_ h 9 2) (nn_ h) = some (h', 0) ∧ CHu h' (nn_ h) ∧ agB_ (nn_ h) h h' ∧ nn_ h' = nn_ h + 4 ∧ ss_ h' = ss_ h + 767 := by
  generalize hu : nn_ h = u at u0 ⊢
  have n0 : nn_ (nw_ h 9 2) = u + 1 := by rw [nn_nw, hu]
  generalize k0 : nw_ h 9 2 = h0 at n0 ⊢
  have z0 : ss_ h0 = ss_ h + 2 := by rw [← k0]; rfl
  have g0 : agB_ u h h0 := by rw [← k0]; exact agB_nw 9 (by omega) (by omega)
  -- the three rows
  have n1 : nn_ (nw_ h0 20 600) = u + 2 := by rw [nn_nw, n0]; omega
  have l1 : ln_ (nw_ h0 20 600) (u + 1) = 600 := by rw [← n0]; exact ln_nwn _ _ _
  generalize k1 : nw_ h0 20 600 = h1 at n1 l1
  have z1 : ss_ h1 = ss_ h0 + 600 := by rw [← k1]; rfl
  have g1 : agB_ (u + 1) h0 h1 := by rw [← k1]; exact agB_nw 20 (by omega) (by omega)
  have n2 : nn_ (nw_ (wf_ h1 u 0 (u + 1)) 20 160) = u + 3 := by rw [nn_nw]; show nn_ h1 + 1 = _; omega
  have m2 : nn_ (wf_ h1 u 0 (u + 1)) = u + 2 := n1
  have l2 : ln_ (nw_ (wf_ h1 u 0 (u + 1)) 20 160) (u + 2) = 160 := by rw [← m2]; exact ln_nwn _ _ _
  have f2 : rf_ (nw_ (wf_ h1 u 0 (u + 1)) 20 160) u 0 = u + 1 := by rw [rf_nwo (by omega), rf_ws]
  have g2 : agB_ (u + 2) (wf_ h1 u 0 (u + 1)) (nw_ (wf_ h1 u 0 (u + 1)) 20 160) := agB_nw 20 (by omega) (by omega)
  have z2 : ss_ (nw_ (wf_ h1 u 0 (u + 1)) 20 160) = ss_ h1 + 160 := rfl
  generalize k2 : nw_ (wf_ h1 u 0 (u + 1)) 20 160 = h2 at n2 l2 f2 g2 z2
  have m3 : nn_ (wf_ h2 u 1 (u + 2)) = u + 3 := n2
  have l3 : ln_ (nw_ (wf_ h2 u 1 (u + 2)) 20 5) (u + 3) = 5 := by rw [← m3]; exact ln_nwn _ _ _
  have f3 : rf_ (nw_ (wf_ h2 u 1 (u + 2)) 20 5) u 1 = u + 2 := by rw [rf_nwo (by omega), rf_ws]
  have f30 : rf_ (nw_ (wf_ h2 u 1 (u + 2)) 20 5) u 0 = u + 1 := by rw [rf_nwo (by omega), rf_wk (by omega)]; exact f2
  have g3 : agB_ (u + 3) (wf_ h2 u 1 (u + 2)) (nw_ (wf_ h2 u 1 (u + 2)) 20 5) := agB_nw 20 (by omega) (by omega)
  have z3 : ss_ (nw_ (wf_ h2 u 1 (u + 2)) 20 5) = ss_ h2 + 5 := rfl
  have n3 : nn_ (nw_ (wf_ h2 u 1 (u + 2)) 20 5) = u + 4 := by rw [nn_nw, m3]; omega
  generalize k3 : nw_ (wf_ h2 u 1 (u + 2)) 20 5 = h3 at l3 f3 f30 g3 z3 n3
  have la : ln_ h3 (u + 2) = 160 := by rw [(g3.2.2 (u + 2) (by omega)).2.2]; exact l2
  have lb : ln_ h3 (u + 1) = 600 := by
    rw [(g3.2.2 (u + 1) (by omega)).2.2]
    show ln_ h2 (u + 1) = 600
    rw [(g2.2.2 (u + 1) (by omega)).2.2]
    exact l1
  have T : Tsh h3 u := ⟨by omega, f30, f3, lb, la, l3⟩
  have G : agB_ u h h3 := agB_tr g0 (agB_tr (agB_mo g1 (by omega)) (agB_tr (agB_wf (by omega)) (agB_tr (agB_mo g2 (by omega)) (agB_tr (agB_wf (by omega)) (agB_mo g3 (by omega))))))
  obtain ⟨h4, a1, a2, a3⟩ := Tu_new_1s (u := u) 120 0 h3 T (by omega) (by omega) (fun k p q => by omega)
  obtain ⟨h5, b1, b2, b3⟩ := Tu_new_7s (u := u) 32 0 h4 (Tsh_fr T a3) (by omega) (by omega) (fun k p q => by omega)
  have T5 := Tsh_fr (Tsh_fr T a3) b3
  have e5 : nn_ h5 = u + 4 := by rw [fr_nn b3, fr_nn a3]; exact n3
  refine ⟨h5, ?_, ⟨⟨by omega, by omega⟩, ⟨T5.2.1, T5.2.2.1⟩, ⟨T5.2.2.2.1, T5.2.2.2.2.1⟩, RW_fr a2 b3 (by omega), b2⟩, agB_tr G (agB_tr (agB_fr a3 (fun a q => by omega)) (agB_fr b3 (fun a q => by omega))), e5, by rw [fr_ss b3, fr_ss a3]; omega⟩
  rw [Tu_new_e, ck_t (by omega), ck_t (by omega), ck_t (by omega), ck_t (by omega), ck_t (by omega), ck_t (by omega), n0, k1, k2, show u + 1 + 1 = u + 2 by omega, k3, show u + 2 + 1 = u + 3 by omega, a1, b1]
