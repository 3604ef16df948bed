/-! a formula in the reference, all of it -/
section
variable {B : Int → Int} {n p F op tk o wp mn : Int} {h h' h1 h2 : am_H} {ws hs : List Int} {K : Int → Int}
abbrev fmR_ : Type := Int × Int × Int × (Int → Int) × Int
def fmM_ (h : am_H) (B : Int → Int) (n F v : Int) (R : fmR_) : Prop := (R.1 ≠ 0 ∧ v = 0 ∧ mwE_ h R.1 R.2.1) ∨ (R.1 = 0 ∧ v = 1 ∧ ∃ p mn, R.2.2.1 = tk_n B n p ∧ tk_k B n p = 42 ∧ p ≤ n ∧ MR h B n p ∧ FMo h F [] 0 R.2.2.2.2 R.2.2.2.1 R.2.2.2.2 0 mn)
theorem Mo_sumRead_lp : ∀ (f : Nat) (p : Int) (h : am_H) (S : fS_), FMs h F S → FVs F S → MR h B n p → p ≤ n → n - p < f → ∃ h' y, Mo_sumRead_1 h 94 = some (h', y) ∧ fmM_ h' B n F y (fml_ B n f p S) ∧ fH_ F h h' := by
  intro f
  induction f with
  | zero =>
    intro p h S _ _ _ pn pf
    omega
  | succ f ih =>
    intro p h S M V r pn pf
    have nv := tk_nv (B := B) (n := n) (p := p) pn
    have m42 := fun (_ : Unit) => MRk_42 r.2.2
    have b45 : rd_ h 94 45 = S.2.1 := M.2.1.2.2.1
    have b47 : rd_ h 94 47 = S.2.2.2.2.2.1 := M.2.1.2.2.2.2.1
    have V6 := V.2.2.2.2.2.1
    have V4 := V.2.2.2.1
    have kn : (fmt_ (tk_k B n p) (tk_v B n p) S).1 = 0 → tk_k B n p ≠ 0 := fun e0 y => by rw [y, fmt_0] at e0; omega
    rw [fml_s]
    -- one step more
    have stp : ¬ (S.2.2.2.2.2.1 = 0 ∧ S.2.1 = 0 ∧ tk_k B n p = 42) → ∀ h1 y, fpM_ h1 B n p F y (fmt_ (tk_k B n p) (tk_v B n p) S) → fH_ F h h1 → ∃ h' v, (if y ≠ 0 then Mo_sumRead_1 h1 94 else (some (h1, 0) : am_O)) = some (h', v) ∧ fmM_ h' B n F v (if S.2.2.2.2.2.1 = 0 ∧ S.2.1 = 0 ∧ tk_k B n p = 42 then ((0, 0, tk_n B n p, (pd_ 1 S.1 S.2.2.2.1 S.2.2.2.2.1).2.1, (pd_ 1 S.1 S.2.2.2.1 S.2.2.2.2.1).2.2) : fmR_) else if (fmt_ (tk_k B n p) (tk_v B n p) S).1 ≠ 0 then ((fmt_ (tk_k B n p) (tk_v B n p) S).1, tp_ B n p, 0, S.2.2.2.1, S.2.2.2.2.1) else fml_ B n f (tk_n B n p) (fmt_ (tk_k B n p) (tk_v B n p) S).2) ∧ fH_ F h h' := by
      intro nq h1 y g1 g2
      rw [if_neg nq]
      rcases g1 with ⟨e1, e2, e3⟩ | ⟨e1, e2, e3, e4⟩
      · rw [if_neg (c := y ≠ 0) (fun z => z e2), if_pos (c := (fmt_ (tk_k B n p) (tk_v B n p) S).1 ≠ 0) e1]
        exact ⟨h1, 0, rfl, Or.inl ⟨e1, rfl, e3⟩, g2⟩
      · have nk := nv.2.2 (kn e1)
        have tpv := tp_v (B := B) pn
        obtain ⟨h', v, c1, c2, c3⟩ := ih (tk_n B n p) h1 _ e3 (FVs_ft V (fun y => (tk_v2 y).1) e1) e4 nv.2.1 (by omega)
        rw [if_pos (c := y ≠ 0) (by omega), if_neg (c := (fmt_ (tk_k B n p) (tk_v B n p) S).1 ≠ 0) (fun z => z e1)]
        exact ⟨h', v, c1, c2, fH_t g2 c3⟩
    have jn : S.2.2.2.2.2.1 = 0 → ¬ (S.2.2.2.2.2.1 = 0 ∧ S.2.1 = 0 ∧ tk_k B n p = 42) → ∃ h' v, (bd_ (Mo_signs h 94) fun h1 y => if y ≠ 0 then Mo_sumRead_1 h1 94 else some (h1, 0)) = some (h', v) ∧ fmM_ h' B n F v (if S.2.2.2.2.2.1 = 0 ∧ S.2.1 = 0 ∧ tk_k B n p = 42 then ((0, 0, tk_n B n p, (pd_ 1 S.1 S.2.2.2.1 S.2.2.2.2.1).2.1, (pd_ 1 S.1 S.2.2.2.1 S.2.2.2.2.1).2.2) : fmR_) else if (fmt_ (tk_k B n p) (tk_v B n p) S).1 ≠ 0 then ((fmt_ (tk_k B n p) (tk_v B n p) S).1, tp_ B n p, 0, S.2.2.2.1, S.2.2.2.2.1) else fml_ B n f (tk_n B n p) (fmt_ (tk_k B n p) (tk_v B n p) S).2) ∧ fH_ F h h' := by
      intro q nq
      have fJ : FMo h F S.1 S.2.1 S.2.2.1 S.2.2.2.1 S.2.2.2.2.1 0 S.2.2.2.2.2.2 := by
        have y := M
        unfold FMs at y
        rw [q] at y
        exact y
      have gJ : FV F S.1 S.2.1 S.2.2.1 S.2.2.2.1 S.2.2.2.2.1 0 S.2.2.2.2.2.2 := by
        have y := V
        unfold FVs at y
        rw [q] at y
        exact y
      have efm : fmt_ (tk_k B n p) (tk_v B n p) S = tjt_ (tk_k B n p) S.1 S.2.1 S.2.2.1 S.2.2.2.1 S.2.2.2.2.1 S.2.2.2.2.2.2 := by unfold fmt_; rw [if_pos q]
      obtain ⟨h1, y, d1, d2, d3⟩ := Mo_joint_s fJ gJ r
      rw [← efm] at d2
      rw [d1, bd_v]
      exact stp nq h1 y d2 d3
    have pt : S.2.2.2.2.2.1 = 1 → ∃ h' v, (bd_ (Mo_leafRead h 94) fun h1 y => if y = 0 then some (h1, 0) else Mo_sumRead_1 h1 94) = some (h', v) ∧ fmM_ h' B n F v (if S.2.2.2.2.2.1 = 0 ∧ S.2.1 = 0 ∧ tk_k B n p = 42 then ((0, 0, tk_n B n p, (pd_ 1 S.1 S.2.2.2.1 S.2.2.2.2.1).2.1, (pd_ 1 S.1 S.2.2.2.1 S.2.2.2.2.1).2.2) : fmR_) else if (fmt_ (tk_k B n p) (tk_v B n p) S).1 ≠ 0 then ((fmt_ (tk_k B n p) (tk_v B n p) S).1, tp_ B n p, 0, S.2.2.2.1, S.2.2.2.2.1) else fml_ B n f (tk_n B n p) (fmt_ (tk_k B n p) (tk_v B n p) S).2) ∧ fH_ F h h' := by
      intro q
      have fJ : FMo h F S.1 S.2.1 S.2.2.1 S.2.2.2.1 S.2.2.2.2.1 1 S.2.2.2.2.2.2 := by
        have y := M
        unfold FMs at y
        rw [q] at y
        exact y
      have gJ : FV F S.1 S.2.1 S.2.2.1 S.2.2.2.1 S.2.2.2.2.1 1 S.2.2.2.2.2.2 := by
        have y := V
        unfold FVs at y
        rw [q] at y
        exact y
      have efm : fmt_ (tk_k B n p) (tk_v B n p) S = tpt_ (tk_k B n p) (tk_v B n p) S.1 S.2.1 S.2.2.1 S.2.2.2.1 S.2.2.2.2.1 S.2.2.2.2.2.2 := by unfold fmt_; rw [if_neg (by omega)]
      obtain ⟨h1, y, d1, d2, d3⟩ := Mo_leaf_s fJ gJ r
      rw [← efm] at d2
      obtain ⟨h', v, u1, u2, u3⟩ := stp (by omega) h1 y d2 d3
      refine ⟨h', v, ?_, u2, u3⟩
      rw [d1, bd_v, ← u1]
      by_cases z : y = 0
      · rw [if_pos (c := y = 0) z, if_neg (c := y ≠ 0) (fun w => w z)]
      · rw [if_neg (c := y = 0) z, if_pos (c := y ≠ 0) z]
    rw [Mo_sumRead_1_e, ck_t (by omega), Mo_isSign_s, bd_v, b45, b47]
    by_cases q : tk_k B n p = 42
    · rw [if_pos (c := rd_ h 94 8 = 4 ∧ rd_ h 94 9 = 59) ((m42 ()).1 q), if_neg (c := (1 : Int) = 0) (by omega), ck_t (by omega)]
      by_cases q1 : S.2.2.2.2.2.1 = 0
      · rw [if_neg (c := S.2.2.2.2.2.1 ≠ 0) (fun y => y q1), ck_t (by omega)]
        by_cases q2 : S.2.1 ≤ 0
        · rw [if_pos (c := S.2.1 ≤ 0) q2, ck_t (by omega)]
          obtain ⟨a1, a2, a3, a4, a5, a6, a7, a8, a9⟩ := id V
          have a9' : lkq S.2.2.2.1 (S.2.2.2.2.1 - F).toNat F 0 (1 + bj_ S.1).toNat := by
            rw [q1, show 1 + bj_ S.1 - 0 = 1 + bj_ S.1 by omega] at a9
            exact a9
          have cv := ct_v S.1
          have op0 : S.2.1 = 0 := by omega
          obtain ⟨h1, b1, b2, b3⟩ := Mo_bind_s (m := 1) (by omega) a1.1 S.1 h S.2.2.2.1 S.2.2.2.2.1 M a1.2 (by omega) (by omega) a8 a9'
          have pv := pd_v (m := 1) (by omega) S.1 S.2.2.2.1 S.2.2.2.2.1 a1.1 a1.2 a8 a9'
          have e : (pd_ 1 S.1 S.2.2.2.1 S.2.2.2.2.1).1 = [] := by
            rcases pd_1 a1.1 a1.2 a8 a9' with ⟨y, _⟩ | ⟨rr, y⟩
            · exact y
            · have b3 := pv.2.2.1
              rw [y, bkt_c, if_pos rfl] at b3
              have := ct_v rr
              omega
          have eo : (pd_ 1 S.1 S.2.2.2.1 S.2.2.2.2.1).2.2 = S.2.2.1 := by
            have y := pv.2.1
            rw [e] at y
            have y' : (pd_ 1 S.1 S.2.2.2.1 S.2.2.2.2.1).2.2 + 0 = S.2.2.2.2.1 + nb_ S.1 := y
            omega
          rw [if_pos (c := S.2.2.2.2.2.1 = 0 ∧ S.2.1 = 0 ∧ tk_k B n p = 42) ⟨q1, op0, q⟩, b1, bd_v]
          refine ⟨h1, 1, rfl, Or.inr ⟨rfl, rfl, p, S.2.2.2.2.2.2, rfl, q, pn, MR_fg b3 r, ?_⟩, fg_f b3⟩
          rw [e, q1, op0, ← eo] at b2
          exact b2
        · rw [if_neg (c := S.2.1 ≤ 0) q2, ck_t (by omega), if_pos (c := S.2.2.2.2.2.1 = 0) q1, ck_t (by omega)]
          exact jn q1 (by omega)
      · rw [if_pos (c := S.2.2.2.2.2.1 ≠ 0) q1, ck_t (by omega), if_neg (c := S.2.2.2.2.2.1 = 0) q1, ck_t (by omega)]
        exact pt (by omega)
    · rw [if_neg (c := rd_ h 94 8 = 4 ∧ rd_ h 94 9 = 59) ((m42 ()).2 q), if_pos (c := (0 : Int) = 0) rfl, ck_t (by omega)]
      by_cases q1 : S.2.2.2.2.2.1 = 0
      · rw [if_pos (c := S.2.2.2.2.2.1 = 0) q1, ck_t (by omega)]
        exact jn q1 (by omega)
      · rw [if_neg (c := S.2.2.2.2.2.1 = 0) q1, ck_t (by omega)]
        exact pt (by omega)
theorem Mo_sumRead_s {T : Tx} {p : Int} (sh : ShM h) (e21 : rd_ h 94 21 = T 0 4) (e46 : rd_ h 94 46 = T 0 4) (r : MR h B n p) (pn : p ≤ n) (p0 : 0 ≤ p) (n7 : n ≤ 700) (z : 0 ≤ T 0 4) (z1 : T 0 4 ≤ 64) : ∃ h' y, Mo_sumRead h 94 = some (h', y) ∧ fmM_ h' B n (T 0 4) y (fml_ B n 701 p (fsS_ T)) ∧ fH_ (T 0 4) h h' := by
  have g1 : fg_ (T 0 4) h (wr_ (wr_ (wr_ (wr_ (wr_ h 94 43 0) 94 44 0) 94 45 0) 94 47 1) 94 48 1) := fg_t (fg_t (fg_t (fg_t (fg_9 (by omega)) (fg_9 (by omega))) (fg_9 (by omega))) (fg_9 (by omega))) (fg_9 (by omega))
  have f1 : FMs (wr_ (wr_ (wr_ (wr_ (wr_ h 94 43 0) 94 44 0) 94 45 0) 94 47 1) 94 48 1) (T 0 4) (fsS_ T) := by
    show FMx (wr_ (wr_ (wr_ (wr_ (wr_ h 94 43 0) 94 44 0) 94 45 0) 94 47 1) 94 48 1) (T 0 4) [] 0 (T 0 4) (T 12) (T 0 4) 1 1 (hpn (T 12) (T 0 4 - T 0 4).toNat (T 0 4) [])
    rw [show (T 0 4 - T 0 4).toNat = 0 by omega]
    refine ⟨ShM_of rfl sh, ⟨?_, ?_, ?_, ?_, ?_, ?_, ?_⟩, trivial, trivial, fun i a b => by omega⟩
    · rw [rd_wk (by omega), rd_wk (by omega), rd_wk (by omega), rd_wk (by omega), rd_ws]; rfl
    · rw [rd_wk (by omega), rd_wk (by omega), rd_wk (by omega), rd_ws]; rfl
    · rw [rd_wk (by omega), rd_wk (by omega), rd_ws]
    · rw [rd_wk (by omega), rd_wk (by omega), rd_wk (by omega), rd_wk (by omega), rd_wk (by omega)]; exact e46
    · rw [rd_wk (by omega), rd_ws]
    · rw [rd_ws]
    · rw [rd_wk (by omega), rd_wk (by omega), rd_wk (by omega), rd_wk (by omega), rd_wk (by omega)]; exact e21
  obtain ⟨h', y, c1, c2, c3⟩ := Mo_sumRead_lp 701 p _ (fsS_ T) f1 (fsS_V z z1) (MR_fg g1 r) pn (by omega)
  refine ⟨h', y, ?_, c2, fH_t (fg_f g1) c3⟩
  rw [Mo_sumRead_e]
  repeat rw [ck_t (by omega)]
  exact c1
end
