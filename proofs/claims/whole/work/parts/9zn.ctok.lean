/-! a token in the class -/
section
variable {B : Int → Int} {n : Int}
theorem Tk_second {h : am_H} {s x : Int} (t : TKh h B n (s + 1)) (e4 : rd_ h 3 4 = x) (x0 : x = 30 ∨ x = 35) (s0 : 0 ≤ s) : ∃ h', Tk_stepSecondSign h 3 = some (h', 0) ∧ (∃ q, TKh h' B n q ∧ (rd_ h' 3 4, q) = if s + 1 < n then (if B (s + 1) = 61 then (if x = 30 then 31 else 34, s + 2) else if B (s + 1) = 62 ∧ x = 30 then (33, s + 2) else (x, s + 1)) else (x, s + 1)) ∧ rd_ h' 3 5 = rd_ h 3 5 ∧ rd_ h' 3 6 = rd_ h 3 6 ∧ fr_ h h' (fun a => a = 3) := by
  obtain ⟨a, b, c, d, e⟩ := id t
  have st : ∀ k, s + 1 < n → ∃ q, TKh (wr_ (wr_ h 3 4 k) 3 3 (s + 2)) B n q ∧ (rd_ (wr_ (wr_ h 3 4 k) 3 3 (s + 2)) 3 4, q) = (k, s + 2) := fun k hn => ⟨s + 2, TK_n (TK_w t (by omega)) (by omega) (by omega), by rw [rd_wk (by omega), rd_ws]⟩
  have fr : ∀ k, fr_ h (wr_ (wr_ h 3 4 k) 3 3 (s + 2)) (fun a => a = 3) := fun k => fr_tr (fr_wr rfl) (fr_wr rfl)
  have r5 : ∀ k, rd_ (wr_ (wr_ h 3 4 k) 3 3 (s + 2)) 3 5 = rd_ h 3 5 ∧ rd_ (wr_ (wr_ h 3 4 k) 3 3 (s + 2)) 3 6 = rd_ h 3 6 := fun k => ⟨by rw [rd_wk (by omega), rd_wk (by omega)], by rw [rd_wk (by omega), rd_wk (by omega)]⟩
  have b3 : ∀ k, rd_ (wr_ h 3 4 k) 3 3 = s + 1 := fun k => by rw [rd_wk (by omega)]; exact b.2
  rw [Tk_stepSecondSign_e, ck_t (by omega), ck_t (by omega), b.1, b.2]
  by_cases q : s + 1 < n
  · have dp := d (s + 1) (by omega) q
    rw [if_pos q, if_pos q]
    simp only [a.2.1, a.2.2.1, dp.1, e4, b3]
    rw [ck_t (by omega), ck_t (by omega), ck_t (by omega), ck_t (by omega), w32_i (x := s + 1 + 1) (by omega) (by omega), show s + 1 + 1 = s + 2 by omega]
    by_cases r : B (s + 1) = 61
    · rw [if_neg (fun z => z r), if_pos r, ck_t (by omega)]
      by_cases y : x = 30
      · rw [if_neg (fun z => z y), if_pos y, ck_t (by omega), ck_t (by omega), ck_t (by omega)]
        exact ⟨_, rfl, st 31 q, (r5 31).1, (r5 31).2, fr 31⟩
      · rw [if_pos y, if_neg y, ck_t (by omega), ck_t (by omega), ck_t (by omega)]
        exact ⟨_, rfl, st 34 q, (r5 34).1, (r5 34).2, fr 34⟩
    · rw [if_pos r, if_neg r, ck_t (by omega), ck_t (by omega), ck_t (by omega), ck_t (by omega)]
      by_cases y : B (s + 1) = 62
      · rw [if_neg (fun z => z y), ck_t (by omega)]
        by_cases z : x = 30
        · rw [if_neg (fun w => w z), if_pos ⟨y, z⟩, ck_t (by omega), ck_t (by omega), ck_t (by omega)]
          exact ⟨_, rfl, st 33 q, (r5 33).1, (r5 33).2, fr 33⟩
        · rw [if_pos z, if_neg (fun w => z w.2)]
          exact ⟨h, rfl, ⟨s + 1, t, by rw [e4]⟩, rfl, rfl, fr_refl _ _⟩
      · rw [if_pos y, if_neg (fun w => y w.1)]
        exact ⟨h, rfl, ⟨s + 1, t, by rw [e4]⟩, rfl, rfl, fr_refl _ _⟩
  · rw [if_neg q, if_neg q]
    exact ⟨h, rfl, ⟨s + 1, t, by rw [e4]⟩, rfl, rfl, fr_refl _ _⟩
theorem Tk_step_s {h : am_H} {p : Int} (t : TKh h B n p) : ∃ h', Tk_step h 3 = some (h', 0) ∧ TKh h' B n (tk_n B n p) ∧ rd_ h' 3 4 = tk_k B n p ∧ rd_ h' 3 5 = tp_ B n p ∧ rd_ h' 3 6 = tk_v B n p ∧ fr_ h h' (fun a => a = 3) := by
  have p0 := t.2.2.1
  obtain ⟨h1, a1, a2, a3⟩ := Tk_ws (n - p).toNat p h t (by omega)
  have es : fe_ (isW B) (n - p).toNat p = tp_ B n p := rfl
  rw [es] at a2
  have tv := tp_v (B := B) (n := n) (p := p) (by omega)
  rw [a1]
  unfold tk_n tk_k tk_v
  generalize tp_ B n p = s at *
  obtain ⟨a, b, c, d, e⟩ := id a2
  have t2 : TKh (wr_ (wr_ h1 3 5 s) 3 6 0) B n s := TK_w (TK_w a2 (by omega)) (by omega)
  have F2 : fr_ h (wr_ (wr_ h1 3 5 s) 3 6 0) (fun a => a = 3) := fr_tr a3 (fr_tr (fr_wr rfl) (fr_wr rfl))
  have e5 : rd_ (wr_ (wr_ h1 3 5 s) 3 6 0) 3 5 = s := by rw [rd_wk (by omega), rd_ws]
  have e6 : rd_ (wr_ (wr_ h1 3 5 s) 3 6 0) 3 6 = 0 := rd_ws _ _ _ _
  rw [Tk_step_4_e, b.2, ck_t (by omega), ck_t (by omega), ck_t (by omega), ck_t (by omega), ck_t (by omega), t2.2.1.1, t2.2.1.2]
  generalize wr_ (wr_ h1 3 5 s) 3 6 0 = h2 at t2 F2 e5 e6 ⊢
  obtain ⟨ta, tb, tc, td, te⟩ := id t2
  by_cases q : n ≤ s
  · rw [if_neg (by omega), if_pos q, if_pos q, if_pos q, ck_t (by omega)]
    exact ⟨_, rfl, TK_w t2 (by omega), rd_ws _ _ _ _, by rw [rd_wk (by omega)]; exact e5, by rw [rd_wk (by omega)]; exact e6, fr_tr F2 (fr_wr rfl)⟩
  · rw [if_pos (by omega), if_neg q, if_neg q, if_neg q, ck_t (by omega), ck_t (by omega), Tk_isLetter_s t2 (by omega) (by omega), bd_v]
    cases l : isL B s with
    | true =>
      rw [bz_t, if_neg (by omega), if_pos rfl, if_pos rfl, if_pos rfl, ck_t (by omega), Tk_stepWord_e]
      obtain ⟨h3, y1, y2, y3, y4, y5⟩ := Tk_word_lp (n - s).toNat s 0 0 h2 t2 (by omega) (by omega) (by omega) e6
      have ew : fe_ (isL B) (n - s).toNat s = we_ B n s := rfl
      have ev : wv_ B (n - s).toNat s 0 0 = wd_v B n s := rfl
      rw [ew] at y1 y2
      rw [ev] at y3
      have wv := we_v (n := n) (by omega) l
      rw [y1, Int.zero_add, Tk_stepWord_6_e]
      unfold wd_k
      by_cases r : we_ B n s - s ≤ 6
      · have ix := Pp_indexOf_lp (h := h3) (a := 4) (N := 20) (c := wd_v B n s) (P := fun i => lang_.getD i.toNat 0) (by omega) (by rw [y2.1.2.2.2]; omega) (by omega) (fun j j0 j1 => y2.2.2.2.2 j j0 j1) 20 0 (by omega) (by omega)
        have ixb : ∀ (f : Nat) (k : Int), 0 ≤ k → k + f = 20 → -1 ≤ fx_ (fun i => lang_.getD i.toNat 0) (wd_v B n s) f k ∧ fx_ (fun i => lang_.getD i.toNat 0) (wd_v B n s) f k < 20 := by
          intro f
          induction f with
          | zero => intro k k0 hk; exact ⟨by show -1 ≤ (-1 : Int); omega, by show (-1 : Int) < 20; omega⟩
          | succ f ih =>
            intro k k0 hk
            unfold fx_
            split
            · omega
            · exact ih (k + 1) (by omega) (by omega)
        have ib := ixb 20 0 (by omega) (by omega)
        rw [if_pos r, if_pos r, ck_t (by omega), ck_t (by omega), y2.1.1, y3, Pp_indexOf_e, ix, bd_v]
        by_cases z : 0 ≤ fx_ (fun i => lang_.getD i.toNat 0) (wd_v B n s) 20 0
        · rw [if_pos z, if_pos z, ck_t (by omega), bd_v, w32_i (by omega) (by omega)]
          exact ⟨_, rfl, TK_w y2 (by omega), rd_ws _ _ _ _, by rw [rd_wk (by omega), y4]; exact e5, by rw [rd_wk (by omega)]; exact y3, fr_tr F2 (fr_tr y5 (fr_wr rfl))⟩
        · rw [if_neg z, if_neg z, ck_t (by omega), bd_v]
          exact ⟨_, rfl, TK_w y2 (by omega), rd_ws _ _ _ _, by rw [rd_wk (by omega), y4]; exact e5, by rw [rd_wk (by omega)]; exact y3, fr_tr F2 (fr_tr y5 (fr_wr rfl))⟩
      · rw [if_neg r, if_neg r, ck_t (by omega), bd_v]
        exact ⟨_, rfl, TK_w y2 (by omega), rd_ws _ _ _ _, by rw [rd_wk (by omega), y4]; exact e5, by rw [rd_wk (by omega)]; exact y3, fr_tr F2 (fr_tr y5 (fr_wr rfl))⟩
    | false =>
      rw [bz_f, if_pos rfl, if_neg (c := false = true) (by simp), if_neg (c := false = true) (by simp), if_neg (c := false = true) (by simp), ck_t (by omega), ck_t (by omega), tb.2, Tk_isDigit_s t2 (by omega) (by omega), bd_v]
      cases dg : isD B s with
      | true =>
        rw [bz_t, if_neg (by omega), if_pos rfl, if_pos rfl, if_pos rfl, ck_t (by omega)]
        obtain ⟨h3, y1, y2, y3, y4, y5, y6⟩ := Tk_num_lp (n - s).toNat s 0 h2 t2 (by omega) e6
        rw [y1, bd_v]
        exact ⟨h3, rfl, y2, y5, by rw [y4]; exact e5, y3, fr_tr F2 y6⟩
      | false =>
        have ds := td s (by omega) (by omega)
        rw [bz_f, if_pos rfl, if_neg (c := false = true) (by simp), if_neg (c := false = true) (by simp), if_neg (c := false = true) (by simp)]
        simp only [ta.2.1, ta.2.2.1, tb.2, ds.1]
        rw [ck_t (by omega), ck_t (by omega), ck_t (by omega), ck_t (by omega), Tk_signKind_s, bd_v]
        have r3 : ∀ v, rd_ (wr_ h2 3 4 v) 3 3 = s := fun v => by rw [rd_wk (by omega)]; exact tb.2
        simp only [r3]
        rw [ck_t (by omega), ck_t (by omega), ck_t (by omega), ck_t (by omega), w32_i (x := s + 1) (by omega) (by omega)]
        have t3 : TKh (wr_ (wr_ h2 3 4 (sg_k (B s))) 3 3 (s + 1)) B n (s + 1) := TK_n (TK_w t2 (by omega)) (by omega) (by omega)
        have e43 : rd_ (wr_ (wr_ h2 3 4 (sg_k (B s))) 3 3 (s + 1)) 3 4 = sg_k (B s) := by rw [rd_wk (by omega), rd_ws]
        have e53 : rd_ (wr_ (wr_ h2 3 4 (sg_k (B s))) 3 3 (s + 1)) 3 5 = s := by rw [rd_wk (by omega), rd_wk (by omega)]; exact e5
        have e63 : rd_ (wr_ (wr_ h2 3 4 (sg_k (B s))) 3 3 (s + 1)) 3 6 = 0 := by rw [rd_wk (by omega), rd_wk (by omega)]; exact e6
        have F3 : fr_ h (wr_ (wr_ h2 3 4 (sg_k (B s))) 3 3 (s + 1)) (fun a => a = 3) := fr_tr F2 (fr_tr (fr_wr rfl) (fr_wr rfl))
        rw [e43]
        generalize wr_ (wr_ h2 3 4 (sg_k (B s))) 3 3 (s + 1) = h3 at t3 e43 e53 e63 F3 ⊢
        have two : (sg_k (B s) = 30 ∨ sg_k (B s) = 35) → ∃ h', bd_ (Tk_stepSecondSign h3 3) (fun h7 _ => some (h7, 0)) = some (h', 0) ∧ TKh h' B n (sn_k B n s).2 ∧ rd_ h' 3 4 = (sn_k B n s).1 ∧ rd_ h' 3 5 = s ∧ rd_ h' 3 6 = 0 ∧ fr_ h h' (fun a => a = 3) := by
          intro q2
          obtain ⟨h4, z1, ⟨q3, z2, z3⟩, z4, z5, z6⟩ := Tk_second t3 e43 q2 (by omega)
          have ez : (rd_ h4 3 4, q3) = sn_k B n s := by
            unfold sn_k
            rw [if_pos q2]
            exact z3
          refine ⟨h4, by rw [z1, bd_v], ?_, ?_, by rw [z4]; exact e53, by rw [z5]; exact e63, fr_tr F3 z6⟩
          · rw [← ez]; exact z2
          · rw [← ez]
        by_cases q30 : sg_k (B s) = 30
        · rw [if_pos q30, ck_t (by omega)]
          exact two (Or.inl q30)
        · rw [if_neg q30, ck_t (by omega)]
          by_cases q35 : sg_k (B s) = 35
          · rw [if_neg (fun z => z q35), ck_t (by omega)]
            exact two (Or.inr q35)
          · rw [if_pos q35]
            have en : sn_k B n s = (sg_k (B s), s + 1) := by unfold sn_k; rw [if_neg (by omega)]
            rw [en]
            exact ⟨h3, rfl, t3, e43, e53, e63, F3⟩
end
