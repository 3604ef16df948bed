/-! match in the class -/
noncomputable def wf5_ (P M : Int) (C sk : Int → Int) (c : Int) : Int := by
  classical
  exact if VG 4 P M C sk (g5_ M c) then 1000 * mny_ 4 (g5_ M c) M.toNat - su_ 4 C (g5_ M c) M.toNat else 0
theorem wf5_t {P M : Int} {C sk : Int → Int} {c : Int} (v : VG 4 P M C sk (g5_ M c)) : wf5_ P M C sk c = 1000 * mny_ 4 (g5_ M c) M.toNat - su_ 4 C (g5_ M c) M.toNat := by unfold wf5_; rw [if_pos v]
theorem wf5_f {P M : Int} {C sk : Int → Int} {c : Int} (v : ¬ VG 4 P M C sk (g5_ M c)) : wf5_ P M C sk c = 0 := by unfold wf5_; rw [if_neg v]
theorem pf_v {i : Int} (i0 : 0 ≤ i) (i1 : i < 5) : pf_.getD i.toNat 0 ≠ 0 := by
  have : i = 0 ∨ i = 1 ∨ i = 2 ∨ i = 3 ∨ i = 4 := by omega
  rcases this with q | q | q | q | q <;> subst q <;> decide
section
variable {h : am_H} {T W I : Tx} {U : Int → Tx} {Q : Tx} {K S : Int}
theorem Pp_chosen_s (g : CI h T W I U Q) (v : WV T W) {c m : Int} (m0 : 0 ≤ m) (m1 : m < T 0 0) : Pp_chosen h 0 c m = some (h, g5_ (T 0 0) c m) := by
  have o := g.2.2.1
  obtain ⟨⟨w0, s6, s7, s8, s9, s10, s11, s12, s13, l1, l2, l3, l4, l5, l6, l7, l8⟩, ⟨e0, e1, e2, e3, e4, e5⟩, f1, f2, f3, f4, f5, f6, f7⟩ := id o
  have v0 := v.1
  have w1 : w32 (w32 (T 0 0 - 1) - m) = T 0 0 - 1 - m := by rw [w32_i (x := T 0 0 - 1) (by omega) (by omega), w32_i (by omega) (by omega)]
  have pv := pf_v (i := T 0 0 - 1 - m) (by omega) (by omega)
  rw [Pp_chosen_e]
  simp only [cr0_7 g.1, e0]
  unfold g5_
  rw [w1, ck_t (by omega), ck_t (by omega), ck_t (by omega), ck_t pv, ck_t (by omega)]
theorem Pp_worth_lp (g : CI h T W I U Q) (sv : SV T W I U Q) {C : Int → Int} (r : RW h 93 (T 0 1) C) (Cb : ∀ p, 0 ≤ p → p < T 0 1 → 0 ≤ C p ∧ C p ≤ 20) {c : Int} (eb : ∀ m, 0 ≤ m → m < T 0 0 → 0 ≤ g5_ (T 0 0) c m ∧ g5_ (T 0 0) c m ≤ 4) : ∀ (n : Nat) (m x : Int), 0 ≤ m → m + n = T 0 0 → 0 ≤ x → x < 16 → (∀ p, 0 ≤ p → p < 4 → (btt_ x p ≠ 0 ↔ ∃ i, 0 ≤ i ∧ i < m ∧ g5_ (T 0 0) c i = p)) → VG 4 (T 0 1) m C (T 2) (g5_ (T 0 0) c) → Pp_worthOf_1 h 0 c x (1000 * mny_ 4 (g5_ (T 0 0) c) m.toNat - su_ 4 C (g5_ (T 0 0) c) m.toNat) m = some (h, wf5_ (T 0 1) (T 0 0) C (T 2) c) := by
  intro n
  have v := sv.2.1
  have v0 := v.1
  have o := g.2.2.1
  obtain ⟨⟨w0, s6, s7, s8, s9, s10, s11, s12, s13, l1, l2, l3, l4, l5, l6, l7, l8⟩, ⟨e0, e1, e2, e3, e4, e5⟩, f1, f2, f3, f4, f5, f6, f7⟩ := id o
  obtain ⟨t, ct⟩ := g.2.1
  have to := ct.2.2.2.1
  have sh := to.1
  have t0 := ct.1
  have l93 := cl93 g.1
  induction n with
  | zero =>
    intro m x m0 hm x0 x1 bx vg
    have e : m = T 0 0 := by omega
    rw [e] at vg ⊢
    rw [Pp_worthOf_1_e]
    simp only [cr0_7 g.1, e0]
    rw [ck_t (by omega), ck_t (by omega), if_pos (by omega), wf5_t vg]
  | succ n ih =>
    intro m x m0 hm x0 x1 bx vg
    have ebm := eb m m0 (by omega)
    have mb := mny_b 4 (g5_ (T 0 0) c) m.toNat
    have sb := su_b (z := 4) (C := C) (e := g5_ (T 0 0) c) m.toNat (fun i a b => by
      rcases vg.1 i a (by omega) with q | q
      · exact Or.inl q
      · have := (eb i a (by omega)).1
        exact Or.inr (Cb _ this q.1))
    have s1 : (m + 1).toNat = m.toNat + 1 := by omega
    have tm : ((m.toNat : Nat) : Int) = m := by omega
    rw [Pp_worthOf_1_e]
    simp only [cr0_7 g.1, e0]
    rw [ck_t (by omega), ck_t (by omega), if_neg (by omega), ck_t (by omega), Pp_chosen_s g v m0 (by omega), bd_v, w32_i (x := m + 1) (by omega) (by omega)]
    simp only [cr0_7 g.1, e1]
    by_cases q4 : g5_ (T 0 0) c m = 4
    · rw [if_neg (fun z => z q4)]
      have k := ih (m + 1) x (by omega) (by omega) x0 x1 (fun p p0 p1 => by
        rw [bx p p0 p1]
        constructor
        · intro ⟨i, a, b, d⟩; exact ⟨i, a, by omega, d⟩
        · intro ⟨i, a, b, d⟩
          refine ⟨i, a, ?_, d⟩
          have : i ≠ m := fun z => by rw [z, q4] at d; omega
          omega) ⟨fun i a b => by
          by_cases z : i = m
          · rw [z]; exact Or.inl q4
          · exact vg.1 i a (by omega), fun i j a b d e => by
          by_cases z : j = m
          · rw [z, q4] at e; exact e
          · exact vg.2 i j a b (by omega) e⟩
      unfold mny_ su_ at k
      rw [s1] at k
      unfold sm_ at k
      rw [tm, if_pos q4, if_pos q4, Int.add_zero, Int.add_zero] at k
      exact k
    · have nv : ∀ {P : Prop}, (¬ (g5_ (T 0 0) c m < T 0 1 ∧ 1 ≤ C (g5_ (T 0 0) c m) ∧ C (g5_ (T 0 0) c m) ≤ T 2 m)) → wf5_ (T 0 1) (T 0 0) C (T 2) c = 0 := by
        intro _ z
        refine wf5_f (fun vv => ?_)
        rcases vv.1 m m0 (by omega) with y | y
        · exact q4 y
        · exact z y
      rw [if_pos q4, ck_t (by omega), ck_t (by omega)]
      by_cases qP : T 0 1 ≤ g5_ (T 0 0) c m
      · rw [if_pos qP, Pp_worthOf_8_e, if_pos rfl, nv (P := True) (by omega)]
      · rw [if_neg qP]
        have bq := bx (g5_ (T 0 0) c m) ebm.1 (by omega)
        have bs := bto_s x0 x1 ebm.1 (by omega : g5_ (T 0 0) c m < 4)
        have ebt : an_ (x / 2 ^ (g5_ (T 0 0) c m % 32 : Int).toNat) 1 = btt_ x (g5_ (T 0 0) c m) := rfl
        rw [ebt]
        by_cases qt : btt_ x (g5_ (T 0 0) c m) ≠ 0
        · rw [if_pos qt, Pp_worthOf_8_e, if_pos rfl]
          obtain ⟨i, a, b, d⟩ := bq.mp qt
          rw [wf5_f (fun vv => by
            have := vv.2 i m a b (by omega) d
            omega)]
        · rw [if_neg qt, Pp_worthOf_8_e, if_neg (by omega)]
          have rc := r (g5_ (T 0 0) c m) ebm.1 (by omega)
          have cb := Cb (g5_ (T 0 0) c m) ebm.1 (by omega)
          have sk := (to.2.2.1 m m0 (by omega)).2
          simp only [cr0_19 g.1, l93, rc, ct.2.1, sh.2.2.2.1, sh.2.2.2.2.2.2.2.2.2.2.2.2.2.1, sk]
          rw [ck_t (by omega), ck_t (by omega), ck_t (by omega)]
          by_cases qz : C (g5_ (T 0 0) c m) = 0
          · rw [if_pos qz, nv (P := True) (by omega)]
          · rw [if_neg qz, ck_t (by omega), ck_t (by omega), ck_t (by omega), ck_t (by omega), ck_t (by omega), ck_t (by omega), ck_t (by omega)]
            by_cases qs : C (g5_ (T 0 0) c m) ≤ T 2 m
            · have k := ih (m + 1) (bto_ x (g5_ (T 0 0) c m)) (by omega) (by omega) bs.1.1 bs.1.2 (fun p p0 p1 => by
                rw [bs.2.2 p p0 p1]
                by_cases z : p = g5_ (T 0 0) c m
                · rw [if_pos z]
                  exact ⟨fun _ => ⟨m, m0, by omega, z.symm⟩, fun _ => by omega⟩
                · rw [if_neg z, bx p p0 p1]
                  constructor
                  · intro ⟨i, a, b, d⟩; exact ⟨i, a, by omega, d⟩
                  · intro ⟨i, a, b, d⟩
                    refine ⟨i, a, ?_, d⟩
                    have : i ≠ m := fun y => z (by rw [← d, y])
                    omega) ⟨fun i a b => by
                  by_cases z : i = m
                  · rw [z]; exact Or.inr ⟨by omega, by omega, qs⟩
                  · exact vg.1 i a (by omega), fun i j a b d e => by
                  by_cases z : j = m
                  · rw [z] at e
                    exact absurd (bq.mpr ⟨i, a, by omega, e⟩) qt
                  · exact vg.2 i j a b (by omega) e⟩
              rw [if_pos qs, ck_t (by omega), ck_t (by omega), ck_t (by omega), ← k]
              have e1' : w32 (1000 - C (g5_ (T 0 0) c m)) = 1000 - C (g5_ (T 0 0) c m) := w32_i (by omega) (by omega)
              rw [e1', w32_i (x := 1000 * mny_ 4 (g5_ (T 0 0) c) m.toNat - su_ 4 C (g5_ (T 0 0) c) m.toNat + (1000 - C (g5_ (T 0 0) c m))) (by omega) (by omega)]
              have e2 : 1000 * mny_ 4 (g5_ (T 0 0) c) (m + 1).toNat - su_ 4 C (g5_ (T 0 0) c) (m + 1).toNat = 1000 * mny_ 4 (g5_ (T 0 0) c) m.toNat - su_ 4 C (g5_ (T 0 0) c) m.toNat + (1000 - C (g5_ (T 0 0) c m)) := by
                rw [s1, mny_s1, su_s1, tm, if_neg q4, if_neg q4]
                omega
              rw [e2, w32_i (x := m + 1) (by omega) (by omega)]
              rfl
            · rw [if_neg qs, nv (P := True) (by omega)]
/-- the first best choice -/
def FM (f : Int → Int) (n b v b0 : Int) : Prop := (∀ c, 0 ≤ c → c < n → f c ≤ v) ∧ 0 ≤ v ∧ (v = 0 → b = b0) ∧ (0 < v → 0 ≤ b ∧ b < n ∧ f b = v ∧ ∀ c, 0 ≤ c → c < b → f c < v)
theorem Pp_bestC_lp {f : Int → Int} {N b0 : Int} (N6 : N ≤ 625) (w : ∀ c, 0 ≤ c → c < N → Pp_worthOf h 0 c = some (h, f c)) : ∀ (n : Nat) (c b v : Int), 0 ≤ c → c + n = N → FM f c b v b0 → ∃ b' v', Pp_bestChoice_1 h 0 N b v c = some (h, b') ∧ FM f N b' v' b0 := by
  intro n
  induction n with
  | zero =>
    intro c b v c0 hc q
    have e : c = N := by omega
    rw [e] at q ⊢
    exact ⟨b, v, by rw [Pp_bestChoice_1_e, if_pos (by omega)], q⟩
  | succ n ih =>
    intro c b v c0 hc q
    obtain ⟨q1, q2, q3, q4⟩ := q
    rw [Pp_bestChoice_1_e, if_neg (by omega), ck_t (by omega), w c c0 (by omega), bd_v, w32_i (x := c + 1) (by omega) (by omega)]
    by_cases z : f c ≤ v
    · rw [if_pos z]
      refine ih (c + 1) b v (by omega) (by omega) ⟨fun d d0 d1 => ?_, q2, q3, fun p => ?_⟩
      · by_cases y : d = c
        · rw [y]; exact z
        · exact q1 d d0 (by omega)
      · obtain ⟨a1, a2, a3⟩ := q4 p
        exact ⟨a1, by omega, a3⟩
    · rw [if_neg z]
      refine ih (c + 1) c (f c) (by omega) (by omega) ⟨fun d d0 d1 => ?_, by omega, fun p => by omega, fun p => ⟨c0, by omega, rfl, fun d d0 d1 => ?_⟩⟩
      · by_cases y : d = c
        · rw [y]; exact Int.le_refl _
        · have := q1 d d0 (by omega); omega
      · have := q1 d d0 d1; omega
end
section
variable {h : am_H} {T W I : Tx} {U : Int → Tx} {Q : Tx} {K S : Int}
theorem Pp_worth_s (g : CI h T W I U Q) (sv : SV T W I U Q) {C : Int → Int} (r : RW h 93 (T 0 1) C) (Cb : ∀ p, 0 ≤ p → p < T 0 1 → 0 ≤ C p ∧ C p ≤ 20) {c : Int} (c0 : 0 ≤ c) (c1 : c < pf_.getD (T 0 0).toNat 0) : Pp_worthOf h 0 c = some (h, wf5_ (T 0 1) (T 0 0) C (T 2) c) := by
  have v0 := sv.2.1.1
  have kv := (kM_v (M := T 0 0) (P := T 0 1) (by omega) (by omega) (by omega) (by omega)).2.2.2.2 c c0 c1
  rw [Pp_worthOf_e]
  exact Pp_worth_lp g sv r Cb kv.1 (T 0 0).toNat 0 0 (by omega) (by omega) (by omega) (by omega) (fun p p0 p1 => ⟨fun q => absurd (btt_0 p0 p1) q, fun ⟨i, a, b, _⟩ => by omega⟩) ⟨fun m a b => by omega, fun i j a b d => by omega⟩
theorem Pp_bestC_s (g : CI h T W I U Q) (sv : SV T W I U Q) {C : Int → Int} (r : RW h 93 (T 0 1) C) (Cb : ∀ p, 0 ≤ p → p < T 0 1 → 0 ≤ C p ∧ C p ≤ 20) : ∃ b v, Pp_bestChoice h 0 = some (h, b) ∧ FM (wf5_ (T 0 1) (T 0 0) C (T 2)) (pf_.getD (T 0 0).toNat 0) b v (pf_.getD (T 0 0).toNat 0 - 1) := by
  have v0 := sv.2.1.1
  have o := g.2.2.1
  obtain ⟨⟨w0, s6, s7, s8, s9, s10, s11, s12, s13, l1, l2, l3, l4, l5, l6, l7, l8⟩, ⟨e0, e1, e2, e3, e4, e5⟩, f1, f2, f3, f4, f5, f6, f7⟩ := id o
  have kv := (kM_v (M := T 0 0) (P := T 0 1) (by omega) (by omega) (by omega) (by omega)).2.1
  obtain ⟨b, v, a1, a2⟩ := Pp_bestC_lp (h := h) (f := wf5_ (T 0 1) (T 0 0) C (T 2)) (N := pf_.getD (T 0 0).toNat 0) (b0 := pf_.getD (T 0 0).toNat 0 - 1) kv.2 (fun c c0 c1 => Pp_worth_s g sv r Cb c0 c1) (pf_.getD (T 0 0).toNat 0).toNat 0 (pf_.getD (T 0 0).toNat 0 - 1) 0 (by omega) (by omega) ⟨fun c c0 c1 => by omega, by omega, fun _ => rfl, fun q => by omega⟩
  refine ⟨b, v, ?_, a2⟩
  rw [Pp_bestChoice_e]
  simp only [cr0_7 g.1, e0]
  rw [ck_t (by omega), ck_t (by omega), ck_t (by omega), w32_i (by omega) (by omega)]
  exact a1
/-- the piles are priced -/
def cst_ (T W : Tx) (p : Int) : Int := few_ T W p 1
theorem cst_b (v : WV T W) {p : Int} (p0 : 0 ≤ p) (p1 : p < T 0 1) : 0 ≤ cst_ T W p ∧ cst_ T W p ≤ 20 := by
  have hh := v.2.1 p p0 p1
  have st := st_b (w := 1) v p0 p1
  have b := Bu_p (w := 1) (H := W 0 p) (by omega) hh.2 (Or.inr rfl) st.1 st.2.1
  unfold cst_ few_
  omega
theorem Pp_price_lp (sv : SV T W I U Q) : ∀ (n : Nat) (p : Int) (h : am_H), CJ h T W I U Q K S → 0 ≤ p → p + n = T 0 1 → RW h 93 p (cst_ T W) → ∃ h', Pp_priceThePiles_1 h 0 p = some (h', 0) ∧ RW h' 93 (T 0 1) (cst_ T W) ∧ CJ h' T W I U Q K S ∧ lb_ h h' := by
  intro n
  have v := sv.2.1
  have v0 := v.1
  induction n with
  | zero =>
    intro p h g p0 hp r
    have o := g.1.2.2.1
    obtain ⟨⟨w0, s6, s7, s8, s9, s10, s11, s12, s13, l1, l2, l3, l4, l5, l6, l7, l8⟩, ⟨e0, e1, e2, e3, e4, e5⟩, f1, f2, f3, f4, f5, f6, f7⟩ := id o
    have e : p = T 0 1 := by omega
    refine ⟨h, ?_, by rw [← e]; exact r, g, lb_refl h⟩
    rw [Pp_priceThePiles_1_e]
    simp only [cr0_7 g.1.1, e1]
    rw [ck_t (by omega), ck_t (by omega), if_pos (by omega)]
  | succ n ih =>
    intro p h g p0 hp r
    have o := g.1.2.2.1
    obtain ⟨⟨w0, s6, s7, s8, s9, s10, s11, s12, s13, l1, l2, l3, l4, l5, l6, l7, l8⟩, ⟨e0, e1, e2, e3, e4, e5⟩, f1, f2, f3, f4, f5, f6, f7⟩ := id o
    have p1 : p < T 0 1 := by omega
    have hh := v.2.1 p p0 p1
    have st := st_b (w := 1) v p0 p1
    obtain ⟨h1, c, a1, a2, a3, a4, a5, a6, a7, a8⟩ := Pp_chartOf_s g.1.1 g.2.1 g.2.2.1 g.2.2.2 (H := W 0 p) (w := 1) (by omega) hh.2 (Or.inr rfl)
    have g1 : CJ h1 T W I U Q K S := ⟨CI_la (la_lw a8) g.1, a2, a3, a4⟩
    obtain ⟨h2, b1, b2, b3⟩ := Wo_state_s (b := 47) (w := 1) v p0 p1 (Or.inr rfl) g1.1.2.2.1
    have F : Fs_ h1 h2 := Fs_fr b3 (fun a q => by unfold Sc; omega)
    have g2 := CJ_F g1 F
    have c2 := CHc_hi a7 (hi_Fs F)
    have r2 : RW h2 93 p (cst_ T W) := fun k k0 k1 => by rw [b3.2 93 (by omega), a8.1 93 k (by omega)]; exact r k k0 k1
    have F3 : Fs_ h2 (wr_ h2 93 p (cst_ T W p)) := Fs_fr (fr_wr (A := fun a => a = 93) rfl) (fun a q => by unfold Sc; omega)
    obtain ⟨h3, d1, d2, d3, d4⟩ := ih (p + 1) (wr_ h2 93 p (cst_ T W p)) (CJ_F g2 F3) (by omega) (by omega) (RW_gr r2 rfl)
    have c0 := c2.1.1
    refine ⟨h3, ?_, d2, d3, lb_tr (lb_lw a8) (lb_tr (lb_Fc (Fc_S F)) (lb_tr (lb_Fc (Fc_S F3)) d4))⟩
    rw [Pp_priceThePiles_1_e]
    simp only [cr0_7 g.1.1, cr0_19 g.1.1, e1, s6, l1, f1 p p0 p1]
    rw [ck_t (by omega), ck_t (by omega), if_neg (by omega), ck_t (by omega), ck_t (by omega), ck_t (by omega), ck_t (by omega), ck_t (by omega), ck_t (by omega), a1, bd_v]
    simp only [cr0_7 g1.1.1]
    rw [ck_t (by omega), ck_t (by omega), b1, bd_v, ck_t (by omega), Ch_leastOf_s c2.1 c2.2.1 st.1 st.2.1, bd_v, cl93 g2.1.1, ck_t (by omega), ck_t (by omega), w32_i (x := p + 1) (by omega) (by omega)]
    exact d1
/-- what is told of the best choice -/
def mtc_ (P M : Int) (C e : Int → Int) (x : Int) : Int := if x < M then (if e x = P then -2 else e x) else if x < 4 then -2 else if x = 4 then mny_ P e M.toNat else su_ P C e M.toNat
theorem Pp_match_lp (g : CI h T W I U Q) (sv : SV T W I U Q) {C : Int → Int} (r : RW h 93 (T 0 1) C) (Cb : ∀ p, 0 ≤ p → p < T 0 1 → 0 ≤ C p ∧ C p ≤ 20) {b x : Int} {e : Int → Int} (x0 : 0 ≤ x) (x5 : x ≤ 5) (eb : ∀ m, 0 ≤ m → m < T 0 0 → g5_ (T 0 0) b m = tr_ (T 0 1) (e m) ∧ 0 ≤ e m ∧ e m ≤ T 0 1) : ∀ (n : Nat) (m : Int), 0 ≤ m → m + n = T 0 0 → (m ≤ x ∨ x ≥ 4 ∨ T 0 0 ≤ x) → Pp_match_4 h 0 x b (mny_ (T 0 1) e m.toNat) (su_ (T 0 1) C e m.toNat) m = some (h, mtc_ (T 0 1) (T 0 0) C e x) := by
  intro n
  have v := sv.2.1
  have v0 := v.1
  have o := g.2.2.1
  obtain ⟨⟨w0, s6, s7, s8, s9, s10, s11, s12, s13, l1, l2, l3, l4, l5, l6, l7, l8⟩, ⟨e0, e1, e2, e3, e4, e5⟩, f1, f2, f3, f4, f5, f6, f7⟩ := id o
  have l93 := cl93 g.1
  induction n with
  | zero =>
    intro m m0 hm hx
    have em : m = T 0 0 := by omega
    rw [em, Pp_match_4_e]
    simp only [cr0_7 g.1, e0]
    unfold mtc_
    rw [ck_t (by omega), ck_t (by omega), if_pos (c := T 0 0 ≤ T 0 0) (by omega), if_neg (c := x < T 0 0) (by omega)]
    by_cases q4 : 4 ≤ x
    · rw [if_pos q4, if_neg (c := x < 4) (by omega)]
      by_cases q : x = 4
      · rw [if_neg (fun z => z q), if_pos q]
      · rw [if_pos q, if_neg q]
    · rw [if_neg q4, if_pos (c := x < 4) (by omega)]
  | succ n ih =>
    intro m m0 hm hx
    obtain ⟨b1, b2, b3⟩ := eb m m0 (by omega)
    have mb := mny_b (T 0 1) e m.toNat
    have sb := su_b (z := T 0 1) (C := C) (e := e) m.toNat (fun i a b => by
      obtain ⟨_, y2, y3⟩ := eb i a (by omega)
      by_cases q : e i = T 0 1
      · exact Or.inl q
      · exact Or.inr (Cb _ y2 (by omega)))
    have s1 : (m + 1).toNat = m.toNat + 1 := by omega
    have tm : ((m.toNat : Nat) : Int) = m := by omega
    rw [Pp_match_4_e]
    simp only [cr0_7 g.1, e0]
    rw [ck_t (by omega), ck_t (by omega), if_neg (by omega), ck_t (by omega), Pp_chosen_s g v m0 (by omega), bd_v, b1, w32_i (x := m + 1) (by omega) (by omega)]
    simp only [cr0_7 g.1, cr0_19 g.1, e1, l93]
    rw [ck_t (by omega), ck_t (by omega)]
    by_cases q : e m = T 0 1
    · have et : tr_ (T 0 1) (e m) = 4 := by unfold tr_; rw [if_pos q]
      rw [et, if_pos (c := T 0 1 ≤ 4) (by omega)]
      by_cases qx : x = m
      · rw [if_neg (fun z => z qx), ck_t (by omega), ck_t (by omega)]
        unfold mtc_
        rw [qx, if_pos (c := m < T 0 0) (by omega), if_pos q, if_pos (c := T 0 1 ≤ 4) (by omega)]
      · rw [if_pos qx]
        have k := ih (m + 1) (by omega) (by omega) (by omega)
        rw [s1, mny_s1, su_s1, tm, if_pos q, if_pos q, Int.add_zero, Int.add_zero] at k
        exact k
    · have et : tr_ (T 0 1) (e m) = e m := by unfold tr_; rw [if_neg q]
      have rc := r (e m) b2 (by omega)
      have cb := Cb (e m) b2 (by omega)
      rw [et, if_neg (c := T 0 1 ≤ e m) (by omega), rc]
      rw [ck_t (by omega), ck_t (by omega), ck_t (by omega)]
      by_cases qx : x = m
      · rw [if_neg (fun z => z qx), ck_t (by omega), ck_t (by omega)]
        unfold mtc_
        rw [qx, if_pos (c := m < T 0 0) (by omega), if_neg q, if_neg (c := T 0 1 ≤ e m) (by omega)]
      · rw [if_pos qx]
        have k := ih (m + 1) (by omega) (by omega) (by omega)
        rw [s1, mny_s1, su_s1, tm, if_neg q, if_neg q] at k
        rw [w32_i (x := mny_ (T 0 1) e m.toNat + 1) (by omega) (by omega), w32_i (x := su_ (T 0 1) C e m.toNat + C (e m)) (by omega) (by omega)]
        exact k
end
