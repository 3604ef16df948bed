/-! go, turn, move, crack, undo, keep, back, in the reference -/
/-- a call that changes the reference alone -/
def Fm_ (h h' : am_H) : Prop := fr_ h h' (fun a => 94 ≤ a ∧ a ≤ 142)
theorem Fm_fz {h h' : am_H} {A F : Int → Prop} (z : fz_ h h' A F) (n : ∀ a, A a → 94 ≤ a ∧ a ≤ 142) : Fm_ h h' := ⟨z.1, fun a q k => z.2.1 a (fun r => q (n a r)) (by omega) k⟩
theorem Fm_q {h h' : am_H} (x : Mq h h') : Fm_ h h' := Fm_fz x.1 (fun a q => by unfold mQA at q; omega)
theorem Fm_tr {h h1 h2 : am_H} (x : Fm_ h h1) (y : Fm_ h1 h2) : Fm_ h h2 := fr_tr x y
def nA (a : Int) : Prop := (118 ≤ a ∧ a ≤ 134) ∨ a = 136 ∨ a = 137 ∨ a = 138 ∨ a = 139
def nF (k : Int) : Prop := k = 2 ∨ k = 51 ∨ (60 ≤ k ∧ k ≤ 68) ∨ k = 70 ∨ k = 74 ∨ k = 77 ∨ k = 78 ∨ k = 85
section
variable {h : am_H} {T W I : Tx} {U : Int → Tx} {Q : Tx}
theorem MN_gen {h h' : am_H} (g : MN h T W I U Q) {V : Tx} (z : fz_ h h' nA nF) (o : MW h' 0 T V) (e : rd_ h' 94 60 = V 6 2) (b : BB h') {U' : Int → Tx} {k : Int} (d : MU h' T U' k) : MN h' T V I U' (up_ Q 4 2 k) := by
  obtain ⟨s, t, l, m, n, -, u, im, q, tp, fa, wd⟩ := g
  have R : ∀ a, ¬ nA a → a ≠ 94 → ∀ k, rd_ h' a k = rd_ h a k := z.2.1
  have Rf : ∀ k, ¬ nF k → rd_ h' 94 k = rd_ h 94 k := z.2.2
  have e4 : ∀ j, j ≠ 2 → up_ Q 4 2 k 4 j = Q 4 j := fun j q => by rw [up_s, if_neg q]
  refine ⟨fz_ShM z s, MT_fz t z (by intro a p q; unfold nA; omega) (by intro k p q; unfold nF; omega), ML_fm l z (by intro a p q; unfold nA; omega), o, e, b, by rw [up_s, if_pos rfl]; exact d, by rw [e4 3 (by omega)]; exact MI_fz im z (by intro a p q; unfold nA; omega) (by unfold nF; omega) (by unfold nF; omega), ?_, ⟨by rw [e4 4 (by omega), Rf 1 (by unfold nF; omega)]; exact tp.1, fun k p q => by rw [R 95 (by unfold nA; omega) (by omega)]; exact tp.2 k p (by rw [e4 4 (by omega)] at q; exact q)⟩, ⟨by rw [e4 5 (by omega), Rf 4 (by unfold nF; omega)]; exact fa.1, by rw [e4 6 (by omega), Rf 5 (by unfold nF; omega)]; exact fa.2⟩, fun i p q => by rw [R 96 (by unfold nA; omega) (by omega)]; exact wd i p q⟩
  obtain ⟨x, y, w⟩ := QM_fz q z (by unfold nA; omega) (by unfold nF; omega) (by unfold nF; omega)
  exact ⟨by rw [e4 0 (by omega)]; exact x, by rw [e4 1 (by omega)]; exact y, fun i p q => w i p (by rw [e4 0 (by omega)] at q; exact q)⟩
theorem Mo_go_lp (u : TV T) {N : Int} (hN : N ≤ 200) : ∀ (m : Nat) (k : Int) (V : Tx) (h : am_H), MS h 0 T V dM_ → WV T V → 0 ≤ k → k + m = N → ∃ h', Mo_go_4 h 94 N k = Mo_go_4 h' 94 N N ∧ MS h' 0 T (zn_ T dM_ m V) dM_ ∧ MG h h' 0 dM_ := by
  intro m
  induction m with
  | zero =>
    intro k V h s v hk hm
    have e : k = N := by omega
    subst e
    exact ⟨h, rfl, s, MG_refl _ _ _⟩
  | succ m ih =>
    intro k V h s v hk hm
    obtain ⟨ha, a1, a2, a3⟩ := Mo_minuteGoes_s u dM_V s v
    obtain ⟨h', i1, i2, i3⟩ := ih (k + 1) _ ha a2 (zp_v v u) (by omega) (by omega)
    refine ⟨h', ?_, i2, MG_tr a3 i3⟩
    rw [Mo_go_4_e, if_neg (by omega), ck_t (by omega), a1, bd_v, w32_i (by omega) (by omega), i1]
theorem Mo_go_t (g0 : MN h T W I U Q) (sv : SV T W I U Q) {n : Int} (k : ok_go W n) : ∃ h', Mo_go h 94 n = some (h', zn_ T dM_ n.toNat W 6 0) ∧ MN h' T (zn_ T dM_ n.toNat W) I U (up_ Q 4 2 (gN_ Q n)) ∧ Fm_ h h' := by
  obtain ⟨k1, k2, k3⟩ := k
  have u := sv.1
  have v := sv.2.1
  have X0 := Mq_2 h 0
  have g := MN_q g0 v X0
  obtain ⟨ha, a1, a2, a3⟩ := Mo_plainTried_s (wr_ h 94 2 0)
  have Xa := Mq_X (MX_pl a3)
  have ga := MN_q g v Xa
  have zb : fz_ ha (wr_ ha 94 61 1) (fun _ => False) (fun k => k = 61) := fz_wf rfl
  have mb : MS (wr_ ha 94 61 1) 0 T W dM_ := by
    refine ⟨fz_ShM zb ga.1, MT_fz ga.2.1 zb (fun _ _ _ q => q) (by intro k p q; omega), ML_fm ga.2.2.1 zb (fun _ _ _ q => q), MW_fz ga.2.2.2.1 zb (fun _ _ _ q => q), ?_, fun _ => by rw [rd_wk (by omega)]; exact ga.2.2.2.2.1⟩
    obtain ⟨m1, m2, m3, m4, m5, m6, m7, m8⟩ := a2
    unfold MM dM_ M0_ mk_M at *
    simp only [rd_wa]
    simp at *
    exact ⟨m2, m3, m4, m5, m6, m7, m8⟩
  obtain ⟨hb, b1, b2, b3⟩ := Mo_go_lp u k2 n.toNat 0 W (wr_ ha 94 61 1) mb v (by omega) (by omega)
  have e0 : rd_ (wr_ h 94 2 0) 127 0 = W 6 0 := g.2.2.2.1.2.2.2.2.2.2.2.1
  have e7 : rd_ hb 127 0 = zn_ T dM_ n.toNat W 6 0 := b2.2.2.2.1.2.2.2.2.2.2.2.1
  have Z : fz_ h hb nA (fun k => nF k ∧ k ≠ 85) := fz_tr (fz_mo X0.1 (fun a q => by unfold mQA at q; unfold nA; omega) (fun k q => by unfold mQF at q; unfold nF; omega)) (fz_tr (fz_mo Xa.1 (fun a q => by unfold mQA at q; unfold nA; omega) (fun k q => by unfold mQF at q; unfold nF; omega)) (fz_tr (fz_mo zb (fun _ q => q.elim) (fun k q => by unfold nF; omega)) (fz_mo b3.1 (fun a q => by unfold mB at q; unfold nA; omega) (fun k q => by unfold mF at q; unfold nF; omega))))
  have e85 : rd_ hb 94 85 = Q 4 2 := by rw [Z.2.2 85 (by omega)]; exact g0.2.2.2.2.2.2.1.1
  have uq := g0.2.2.2.2.2.2.1
  have last : ∀ y, y = gN_ Q n → MN (wr_ (wr_ hb 94 61 0) 94 85 y) T (zn_ T dM_ n.toNat W) I U (up_ Q 4 2 (gN_ Q n)) ∧ Fm_ h (wr_ (wr_ hb 94 61 0) 94 85 y) := by
    intro y hy
    have zl : fz_ hb (wr_ (wr_ hb 94 61 0) 94 85 y) (fun _ => False) (fun k => k = 61 ∨ k = 85) := fz_tr (fz_wf (Or.inl rfl)) (fz_wf (Or.inr rfl))
    have ZZ : fz_ h (wr_ (wr_ hb 94 61 0) 94 85 y) nA nF := fz_tr (fz_mo Z (fun _ q => q) (fun _ q => q.1)) (fz_mo zl (fun _ q => q.elim) (fun k q => by unfold nF; omega))
    refine ⟨MN_gen g0 ZZ (MW_fz b2.2.2.2.1 zl (fun _ _ _ q => q)) (by rw [zl.2.2 60 (by omega)]; exact b2.2.2.2.2.2 rfl) ?_ ?_, Fm_fz ZZ (fun a q => by unfold nA at q; omega)⟩
    · intro x p q
      rw [zl.2.1 124 (fun q => q) (by omega)]
      rcases b3.2.2.2 x with r | r
      · rw [r, zb.2.1 124 (fun q => q) (by omega)]; exact ga.2.2.2.2.2.1 x p q
      · exact Or.inr r
    · obtain ⟨u1, u2, u3, u4, u5⟩ := uq
      have R8 : ∀ x, rd_ (wr_ (wr_ hb 94 61 0) 94 85 y) 138 x = rd_ h 138 x := by
        intro x
        rw [zl.2.1 138 (fun q => q) (by omega), b3.1.2.1 138 (by unfold mB; omega) (by omega), zb.2.1 138 (fun q => q) (by omega), a3.2.1 138 (fun q => q) (by omega), rd_wo (by omega)]
      have R9 : ∀ x, rd_ (wr_ (wr_ hb 94 61 0) 94 85 y) 139 x = rd_ h 139 x := by
        intro x
        rw [zl.2.1 139 (fun q => q) (by omega), b3.1.2.1 139 (by unfold mB; omega) (by omega), zb.2.1 139 (fun q => q) (by omega), a3.2.1 139 (fun q => q) (by omega), rd_wo (by omega)]
      have gb : 0 ≤ gN_ Q n ∧ gN_ Q n ≤ Q 4 2 := by unfold gN_; split <;> omega
      refine ⟨by rw [rd_ws, hy], gb.1, by omega, fun i p q => ?_, fun x p q => by rw [R9]; exact u5 x p q⟩
      obtain ⟨x1, x2, x3⟩ := u4 i p (by omega)
      exact ⟨x1, SN_R x2 x1 (fun y _ _ => R8 y), fun j r t => by rw [R9]; exact x3 j r t⟩
  rw [Mo_go_e]
  repeat rw [ck_t (by omega)]
  rw [Mo_isIn_t k1 k2, bd_v, if_neg (by omega)]
  simp only [mr59 g.1, ml127 g.1, e0]
  repeat rw [ck_t (by omega)]
  rw [if_pos k3]
  repeat rw [ck_t (by omega)]
  rw [a1, bd_v]
  repeat rw [ck_t (by omega)]
  rw [b1, Mo_go_4_e, if_pos (by omega)]
  simp only [mr59 b2.1, ml127 b2.1, rd_wo (show (127 : Int) ≠ 94 by omega), rd_wk (show (85 : Int) ≠ 61 by omega)]
  rw [e7, e85]
  by_cases c : n ≤ 0
  · rw [if_pos c]
    repeat rw [ck_t (by omega)]
    have := last (Q 4 2) (by unfold gN_; rw [if_pos c])
    exact ⟨_, rfl, this.1, this.2⟩
  · rw [if_neg c]
    repeat rw [ck_t (by omega)]
    have := last 0 (by unfold gN_; rw [if_neg c])
    exact ⟨_, rfl, this.1, this.2⟩
theorem Mo_go_f (g0 : MN h T W I U Q) (v : WV T W) {n : Int} (k : ¬ ok_go W n) : Mo_go h 94 n = some (wr_ h 94 2 0, -1) := by
  have g := MN_q g0 v (Mq_2 h 0)
  have e0 : rd_ (wr_ h 94 2 0) 127 0 = W 6 0 := g.2.2.2.1.2.2.2.2.2.2.2.1
  rw [Mo_go_e]
  repeat rw [ck_t (by omega)]
  by_cases c : 0 ≤ n ∧ n ≤ 200
  · rw [Mo_isIn_t c.1 c.2, bd_v, if_neg (by omega)]
    simp only [mr59 g.1, ml127 g.1, e0]
    repeat rw [ck_t (by omega)]
    rw [if_neg (fun q => k ⟨c.1, c.2, q⟩)]
  · rw [Mo_isIn_f c, bd_v, if_pos rfl]
end
