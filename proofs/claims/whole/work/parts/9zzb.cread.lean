/-! lines, one after another, in the class -/
section
variable {B : Int → Int} {n : Int}
theorem fml_n : ∀ (f : Nat) (p : Int) (S : fS_), p ≤ n → (fml_ B n f p S).1 = 0 → p ≤ (fml_ B n f p S).2.2.1 ∧ (fml_ B n f p S).2.2.1 ≤ n := by
  intro f
  induction f with
  | zero => intro p S _ z; exact absurd (show (1 : Int) = 0 from z) (by omega)
  | succ f ih =>
    intro p S pn z
    have nv := tk_nv (B := B) (n := n) (p := p) pn
    rw [fml_s] at z ⊢
    by_cases q : S.2.2.2.2.2.1 = 0 ∧ S.2.1 = 0 ∧ tk_k B n p = 42
    · rw [if_pos q]
      exact ⟨by show p ≤ tk_n B n p; omega, by show tk_n B n p ≤ n; omega⟩
    · rw [if_neg q] at z ⊢
      by_cases q2 : (fmt_ (tk_k B n p) (tk_v B n p) S).1 = 0
      · rw [if_neg (fun y => y q2)] at z ⊢
        have := ih _ _ nv.2.1 z
        omega
      · rw [if_pos q2] at z
        exact absurd z q2
variable {c s : Int} {T : Tx}
theorem lin_v {p : Int} (w : WVt T) (v : TV T) (pn : p ≤ n) : lnV_ n (tk_n B n p) T (lin_ B n p T c s) := by
  have n0 := tk_nv (B := B) (n := n) (p := p) pn
  unfold lin_
  generalize tk_n B n p = p1 at *
  have n1 := tk_nv (B := B) (n := n) (p := p1) n0.2.1
  have n2 := tk_nv (B := B) (n := n) (p := tk_n B n p1) n1.2.1
  have n3 := tk_nv (B := B) (n := n) (p := tk_n B n (tk_n B n p1)) n2.2.1
  have n4 := tk_nv (B := B) (n := n) (p := tk_n B n (tk_n B n (tk_n B n p1))) n3.2.1
  have w1 := w.1
  have t1 := v.1
  by_cases q0 : tk_k B n p = 10
  · rw [if_pos q0]
    unfold mdL_
    by_cases y0 : T 0 0 < 4
    · rw [if_pos y0]
      by_cases y1 : nn_f B n p1 (T 1) (T 0 0) = 0
      · rw [if_neg (fun z => z y1)]
        by_cases y2 : nm_f B n (tk_n B n p1) 0 9 = 0
        · rw [if_neg (fun z => z y2)]
          have x := nm_v y2
          exact lnV_s (WVt_maid w y0) (TV_maid v x.1 x.2) (by unfold mdT_; rw [up_s, if_neg (by omega), up_o _ _ _ (by decide), up_o _ _ _ (by decide)]) (by omega) (by omega)
        · rw [if_pos y2]; exact lnV_f y2
      · rw [if_pos y1]; exact lnV_f y1
    · rw [if_neg y0]; exact lnV_f (by omega)
  rw [if_neg q0]
  by_cases q1 : tk_k B n p = 11
  · rw [if_pos q1]
    unfold piL_
    by_cases y0 : T 0 1 < 4
    · rw [if_pos y0]
      by_cases y1 : nn_f B n p1 (T 3) (T 0 1) = 0
      · rw [if_neg (fun z => z y1)]
        exact lnV_s (WVt_pile w y0) (TV_pile v) (by unfold piT_; rw [up_s, if_neg (by omega), up_o _ _ _ (by decide), up_o _ _ _ (by decide)]) (by omega) (by omega)
      · rw [if_pos y1]; exact lnV_f y1
    · rw [if_neg y0]; exact lnV_f (by omega)
  rw [if_neg q1]
  by_cases q2 : tk_k B n p = 12
  · rw [if_pos q2]
    unfold plL_
    by_cases y0 : tn_f B n p1 (T 3) (T 0 1) = 0
    · rw [if_neg (fun z => z y0)]
      have pb : 0 ≤ plP_ B n p1 T ∧ plP_ B n p1 T < T 0 1 := tn_v y0
      by_cases y1 : T 4 (plP_ B n p1 T) < 5
      · rw [if_pos y1]
        by_cases y2 : nm_f B n (tk_n B n p1) 1 99 = 0
        · rw [if_neg (fun z => z y2)]
          have x := nm_v y2
          cases hz : hz_ T (W0_ T (T 0 6)) (plP_ B n p1 T) (tk_v B n (tk_n B n p1)) with
          | false => rw [if_neg (by simp)]; exact lnV_f (by omega)
          | true =>
            rw [if_pos rfl]
            unfold pe_L
            by_cases y3 : nm_f B n (tk_n B n (tk_n B n p1)) 0 1 = 0
            · rw [if_neg (fun z => z y3)]
              have x2 := nm_v y3
              refine lnV_s (WVt_plate w pb.1 pb.2 y1 x.1 x.2 (by omega) (fun k k0 k1 => ?_)) (TV_plate v) (plT_0 (by omega)) (by omega) (by omega)
              have y := hz_t hz k k0 k1
              unfold Zs at y
              rw [if_pos ⟨pb.1, pb.2, k0, k1⟩] at y
              exact y
            · rw [if_pos y3]; exact lnV_f y3
        · rw [if_pos y2]; exact lnV_f y2
      · rw [if_neg y1]; exact lnV_f (by omega)
    · rw [if_pos y0]; exact lnV_f y0
  rw [if_neg q2]
  by_cases q3 : tk_k B n p = 13
  · rw [if_pos q3]
    unfold tuL_
    by_cases y0 : T 0 3 < 14
    · rw [if_pos y0]
      by_cases y1 : tn_f B n p1 (T 1) (T 0 0) = 0
      · rw [if_neg (fun z => z y1)]
        by_cases y2 : tn_f B n (tk_n B n p1) (T 3) (T 0 1) = 0
        · rw [if_neg (fun z => z y2)]
          by_cases y3 : nm_f B n (tk_n B n (tk_n B n p1)) 1 5 = 0
          · rw [if_neg (fun z => z y3)]
            by_cases y4 : nm_f B n (tk_n B n (tk_n B n (tk_n B n p1))) 0 99 = 0
            · rw [if_neg (fun z => z y4)]
              have x1 := tn_v y1
              have x2 := tn_v y2
              have x3 := nm_v y3
              have x4 := nm_v y4
              exact lnV_s (WVt_turn w) (TV_turn v y0 x1.1 x1.2 x2.1 x2.2 x3.1 x3.2 x4.1 x4.2) (by unfold tuT_; rw [up_s, if_neg (by omega), up_o _ _ _ (by decide), up_o _ _ _ (by decide), up_o _ _ _ (by decide), up_o _ _ _ (by decide)]) (by omega) (by omega)
            · rw [if_pos y4]; exact lnV_f y4
          · rw [if_pos y3]; exact lnV_f y3
        · rw [if_pos y2]; exact lnV_f y2
      · rw [if_pos y1]; exact lnV_f y1
    · rw [if_neg y0]; exact lnV_f (by omega)
  rw [if_neg q3]
  by_cases q4 : tk_k B n p = 14
  · rw [if_pos q4]
    unfold chL_
    by_cases y0 : c = 0
    · rw [if_pos y0]
      by_cases y1 : nm_f B n p1 0 100 = 0
      · rw [if_neg (fun z => z y1)]
        have x := nm_v y1
        exact lnV_s (WVt_chip w) (TV_0 v (Or.inl ⟨rfl, x⟩)) (by rw [up_s, if_neg (by omega)]) (by omega) (by omega)
      · rw [if_pos y1]; exact lnV_f y1
    · rw [if_neg y0]; exact lnV_f (by omega)
  rw [if_neg q4]
  by_cases q5 : tk_k B n p = 15
  · rw [if_pos q5]
    unfold seL_
    by_cases y0 : s = 0
    · rw [if_pos y0]
      by_cases y1 : nm_f B n p1 0 99999 = 0
      · rw [if_neg (fun z => z y1)]
        have x := nm_v y1
        exact lnV_s (WVt_seed w x.1 x.2) (TV_0 v (Or.inr (Or.inl ⟨rfl, x⟩))) (by rw [up_s, if_neg (by omega)]) (by omega) (by omega)
      · rw [if_pos y1]; exact lnV_f y1
    · rw [if_neg y0]; exact lnV_f (by omega)
  rw [if_neg q5]
  by_cases q6 : tk_k B n p = 16
  · rw [if_pos q6]
    unfold lwL_
    by_cases y0 : tk_k B n p1 < 17 ∨ 19 < tk_k B n p1
    · rw [if_pos y0]; exact lnV_f (by omega)
    · rw [if_neg y0]
      by_cases y1 : T 13 (tk_k B n p1 - 17) < T 14 (tk_k B n p1 - 17)
      · rw [if_pos y1]; exact lnV_f (by omega)
      · rw [if_neg y1]
        by_cases y2 : (fml_ B n 701 (tk_n B n p1) (fsS_ T)).1 = 0
        · rw [if_neg (fun z => z y2)]
          intro _
          have fv := fml_v 701 (tk_n B n p1) (fsS_ T) (fsS_V (by omega) (by omega)) y2
          have fn := fml_n 701 (tk_n B n p1) (fsS_ T) n1.2.1 y2
          have e7 : lwT_ T (tk_k B n p1 - 17) (fml_ B n 701 (tk_n B n p1) (fsS_ T)).2.2.2.1 (fml_ B n 701 (tk_n B n p1) (fsS_ T)).2.2.2.2 0 7 = T 0 7 := lw_0 (by omega)
          exact ⟨WVt_law w, TV_law v fv.1.1 fv.1.2 fv.2.1 fv.2.2, e7, by show p1 ≤ (fml_ B n 701 (tk_n B n p1) (fsS_ T)).2.2.1; omega, fn.2⟩
        · rw [if_pos y2]; exact lnV_f y2
  rw [if_neg q6]
  exact lnV_f (by omega)
theorem WVt_ln {v : Int} (w : WVt T) : WVt (up_ T 0 7 v) := by
  have u0 : ∀ k, k ≠ 7 → up_ T 0 7 v 0 k = T 0 k := fun k q => by rw [up_s, if_neg q]
  have uf : ∀ f : Nat, f ≠ 0 → up_ T 0 7 v f = T f := fun f a => up_o _ _ _ a
  unfold WVt at *
  rw [u0 0 (by omega), u0 1 (by omega), u0 2 (by omega), u0 6 (by omega), uf 4 (by decide), uf 5 (by decide), uf 6 (by decide), uf 7 (by decide)]
  exact w
/-- what holds of a text that was read -/
theorem rdl_v : ∀ (f : Nat) (p i : Int) (T : Tx) (c s : Int), WVt T → TV T → T 0 7 = i → 0 ≤ i → i + f ≤ 800 → p ≤ n → (rdl_ B n f p T c s).1 = 0 → WVt (rdl_ B n f p T c s).2.2 ∧ TV (rdl_ B n f p T c s).2.2 := by
  intro f
  induction f with
  | zero => intro p i T c s _ _ _ _ _ _ z; exact absurd (show (1 : Int) = 0 from z) (by omega)
  | succ f ih =>
    intro p i T c s w v e i0 i1 pn z
    rw [rdl_s] at z ⊢
    by_cases q : tk_k B n p = 0
    · rw [if_pos q]; exact ⟨w, v⟩
    · rw [if_neg q] at z ⊢
      by_cases q2 : (lin_ B n p T c s).1 = 0
      · rw [if_neg (fun y => y q2)] at z ⊢
        obtain ⟨a1, a2, a3, a4, a5⟩ := lin_v (c := c) (s := s) w v pn q2
        exact ih _ (i + 1) _ _ _ (WVt_ln a1) (TV_0 a2 (Or.inr (Or.inr ⟨rfl, by rw [a3, e]; unfold i32_; omega⟩))) (by rw [up_s, if_pos rfl, a3, e]) (by omega) (by omega) a5 z
      · rw [if_pos q2] at z
        exact absurd z q2
variable {t : Int}
theorem RT_ln {h : am_H} {v : Int} (r : RT h t T c s) : RT (wr_ h t 0 v) t (up_ T 0 7 v) c s := by
  obtain ⟨t0, sc, r2, ⟨sh, ⟨f0, f1, f2, f3⟩, o1, o2, o3, o4, o5⟩, w, e4, e5⟩ := r
  have u0 : ∀ k, k ≠ 7 → up_ T 0 7 v 0 k = T 0 k := fun k q => by rw [up_s, if_neg q]
  have uf : ∀ f : Nat, f ≠ 0 → up_ T 0 7 v f = T f := fun f a => up_o _ _ _ a
  have F : fr_ h (wr_ h t 0 v) (fun b => b = t) := fr_wr rfl
  have w' := WO_fr w F (fun x y z => by omega)
  refine ⟨t0, ShC_of rfl sc, r2, ⟨ShT_of rfl sh, ⟨by rw [rd_ws, up_s, if_pos rfl], by rw [rd_wk (by omega), u0 3 (by omega)]; exact f1, by rw [rd_wk (by omega), u0 5 (by omega)]; exact f2, by rw [rd_wk (by omega), u0 4 (by omega)]; exact f3⟩, ?_, ?_, ?_, ?_, ?_⟩, ?_, by rw [rd_wk (by omega)]; exact e4, by rw [rd_wk (by omega)]; exact e5⟩
  · intro j j0 j1
    rw [u0 0 (by omega)] at j1
    rw [uf 1 (by decide), uf 2 (by decide), rd_wo (by omega), rd_wo (by omega)]
    exact o1 j j0 j1
  · intro j j0 j1
    rw [u0 1 (by omega)] at j1
    rw [uf 3 (by decide), rd_wo (by omega)]
    exact o2 j j0 j1
  · intro j j0 j1
    rw [u0 3 (by omega)] at j1
    rw [uf 8 (by decide), uf 9 (by decide), uf 10 (by decide), uf 11 (by decide), rd_wo (by omega), rd_wo (by omega), rd_wo (by omega), rd_wo (by omega)]
    exact o3 j j0 j1
  · intro j j0 j1
    rw [u0 4 (by omega)] at j1
    rw [uf 12 (by decide), rd_wo (by omega)]
    exact o4 j j0 j1
  · intro j j0 j1
    rw [uf 13 (by decide), uf 14 (by decide), rd_wo (by omega), rd_wo (by omega)]
    exact o5 j j0 j1
  · obtain ⟨sw, ⟨x0, x1, x2, x3, x4, x5⟩, p1, p2, p3, p4, p5, p6, p7⟩ := w'
    refine ⟨sw, ⟨by rw [u0 0 (by omega)]; exact x0, by rw [u0 1 (by omega)]; exact x1, by rw [u0 2 (by omega)]; exact x2, x3, x4, by rw [u0 6 (by omega)]; exact x5⟩, ?_, ?_, ?_, ?_, ?_, ?_, ?_⟩
    · intro y y0 q
      rw [u0 1 (by omega)] at q
      show _ = up_ T 0 7 v 4 y
      rw [uf 4 (by decide)]
      exact p1 y y0 q
    · intro y y0 q
      rw [u0 1 (by omega)] at q
      exact p2 y y0 q
    · intro y y0 q
      rw [u0 0 (by omega)] at q
      exact p3 y y0 q
    · intro y k y0 q k0 k1
      rw [u0 1 (by omega)] at q
      have k1' : k < up_ T 0 7 v 4 y := k1
      rw [uf 4 (by decide)] at k1'
      show _ = up_ T 0 7 v 6 (5 * y + k)
      rw [uf 6 (by decide)]
      exact p4 y k y0 q k0 k1'
    · intro y y0 q
      rw [u0 2 (by omega)] at q
      rw [uf 5 (by decide)]
      exact p5 y y0 q
    · intro y y0 q
      rw [u0 2 (by omega)] at q
      show _ = up_ T 0 7 v 7 y
      rw [uf 7 (by decide)]
      exact p6 y y0 q
    · intro y y0 q
      rw [u0 2 (by omega)] at q
      exact p7 y y0 q
theorem Re_read_lp : ∀ (f : Nat) (p i : Int) (h : am_H) (T : Tx) (c s : Int), RT h t T c s → TKh h B n p → WVt T → TV T → T 0 7 = i → n - p < f → i + f = n + 1 → 0 ≤ i → ∃ h', Re_read_1 h 2 n i = some (h', (rdl_ B n f p T c s).1) ∧ ((rdl_ B n f p T c s).1 ≠ 0 → rd_ h' 3 5 = (rdl_ B n f p T c s).2.1) ∧ ((rdl_ B n f p T c s).1 = 0 → ∃ c' s', RT h' t (rdl_ B n f p T c s).2.2 c' s') ∧ flq_ t h h' := by
  intro f
  induction f with
  | zero =>
    intro p i h T c s _ k _ _ _ pf
    have := k.2.2.1
    omega
  | succ f ih =>
    intro p i h T c s r k w v e pf fi i0
    have tb : 7 ≤ t ∧ t ≤ 27 := by have := r.1; omega
    have kp := k.2.2.1
    have nv := tk_nv (B := B) (n := n) (p := p) kp.2.1
    have tv := tp_v (B := B) (n := n) (p := p) kp.2.1
    obtain ⟨h1, a1, a2, a3, a4⟩ := Re_step r k
    have Q1 : flq_ t h h1 := flq_f a4 (fun a q => Or.inl q)
    rw [rdl_s, Re_read_1_e, if_neg (by omega)]
    simp only [cr2_0 r.2.1]
    rw [ck_t (by omega), ck_t (by omega), a1, bd_v]
    simp only [cr2_0 a2.2.1, a3.2.1]
    rw [ck_t (by omega), ck_t (by omega)]
    by_cases q : tk_k B n p = 0
    · rw [if_neg (c := tk_k B n p ≠ 0) (fun y => y q), if_pos (c := tk_k B n p = 0) q]
      exact ⟨h1, rfl, fun y => absurd rfl y, fun _ => ⟨c, s, a2⟩, Q1⟩
    · rw [if_pos (c := tk_k B n p ≠ 0) q, if_neg (c := tk_k B n p = 0) q, ck_t (by omega)]
      obtain ⟨h2, b1, b2, b3⟩ := Re_readLine_s a2 a3 w v
      rw [b1, bd_v]
      by_cases q2 : (lin_ B n p T c s).1 = 0
      · rw [if_pos (c := (lin_ B n p T c s).1 = 0) q2, if_neg (c := (lin_ B n p T c s).1 ≠ 0) (fun y => y q2)]
        obtain ⟨x1, x2, x3, x4, x5⟩ := lin_v (c := c) (s := s) w v kp.2.1 q2
        obtain ⟨r2, k2⟩ := b2.2 q2
        have r0 : rd_ h2 t 0 = i := by rw [r2.2.2.2.1.2.1.1, x3, e]
        have nn := nv.2.2 q
        rw [r2.2.2.1, r0, w32_i (x := i + 1) (by omega) (by omega)]
        repeat rw [ck_t (by omega)]
        have r3 := RT_ln (v := i + 1) r2
        have e7 : (lin_ B n p T c s).2.2.2.1 0 7 = i := x3.trans e
        rw [e7]
        obtain ⟨h', y1, y2, y3, y4⟩ := ih (lin_ B n p T c s).2.2.1 (i + 1) (wr_ h2 t 0 (i + 1)) _ _ _ r3 (TK_fr k2 (fr_wr (A := fun a => a = t) rfl) (by omega) (by omega) (by omega)) (WVt_ln x1) (TV_0 x2 (Or.inr (Or.inr ⟨rfl, by unfold i32_; omega⟩))) (by rw [up_s, if_pos rfl]) (by omega) (by omega) (by omega)
        exact ⟨h', y1, y2, y3, flq_t Q1 (flq_t b3 (flq_t (flq_f (fr_wr (A := fun a => a = t) rfl) (fun a z => Or.inr (Or.inr (Or.inr ⟨by omega, by omega⟩)))) y4))⟩
      · rw [if_neg (c := (lin_ B n p T c s).1 = 0) q2, if_pos (c := (lin_ B n p T c s).1 ≠ 0) q2]
        exact ⟨h2, rfl, fun _ => b2.1 q2, fun y => absurd y q2, flq_t Q1 b3⟩
end
