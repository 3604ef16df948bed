/-! a law's loop, in the class -/
section
variable {h : am_H} {l t w m p d : Int} {T W : Tx}
theorem La_value_lp {k c : Int} (v : WV T W) (u : TV T) (h1 : 0 ≤ p) (h2 : p < T 0 1) (h3 : 0 ≤ m) (h4 : m < T 0 0) (h5 : 0 ≤ d) (h6 : d ≤ 6) (hk : 0 ≤ k) (hk3 : k < 3) (ht : l + 1 < t ∨ t + 19 < l) (hw : l + 1 < w ∨ w + 7 < l) :
    ∀ (n : Nat) (i : Int) (s : List Int) (h : am_H), LO h l t w m p d → WO h w T W → TO h t T → rd_ h l 6 = 0 → sk h (l + 1) s → (∀ x ∈ s, bnd x) → lok (T 12) n i s.length → 0 ≤ i → i + n = T 14 k → (s.length : Int) ≤ i →
      ∃ h', La_value_5 h l k c s.length i = some (h', match rn_ (nv_ T W m p d k) (T 12) n i s with
        | some s' => s'.headD 0
        | none => c) ∧ fr_ h h' (fun a => a = l ∨ a = l + 1) ∧ LO h' l t w m p d := by
  obtain ⟨hTa, hTb, hTc, -⟩ := u.2.2.2 k hk hk3
  have hT4 := u.1
  intro n
  induction n with
  | zero =>
    intro i s h g o q e0' hs hb hl hi hn hl2
    obtain ⟨g0, g1, g2, g3, g4, g5, g6, g7⟩ := id g
    obtain ⟨⟨t0, r6, r7, r8, r9, r10, r11, r12, r13, r14, r15, r16, m10, m11, m12, m13, m14, m15, m16, m17, m18, m19⟩, q1, q2, q3, q4, q5, q6⟩ := id q
    have y := q6 k hk hk3
    refine ⟨h, ?_, fr_refl _ _, g⟩
    rw [La_value_5_e]
    simp only [g1, g2, g3, r16, m19, y.2]
    repeat first | rw [ck_t (by omega)] | rw [if_neg (by omega)] | rw [if_pos (by omega)] | simp (disch := omega) only [w32_i]
    unfold lok at hl
    match s, hl, hs with
    | [x], _, hs =>
      unfold rn_
      exact so_v hs.1
  | succ n ih =>
    intro i s h g o q e0' hs hb hl hi hn hl2
    obtain ⟨g0, g1, g2, g3, g4, g5, g6, g7⟩ := id g
    obtain ⟨⟨t0, r6, r7, r8, r9, r10, r11, r12, r13, r14, r15, r16, m10, m11, m12, m13, m14, m15, m16, m17, m18, m19⟩, q1, q2, q3, q4, q5, q6⟩ := id q
    have y := q6 k hk hk3
    have y5 := q5 i hi (by omega)
    have FS : ∀ k v, fr_ h (wr_ h (l + 1) k v) (fun a => a = l ∨ a = l + 1) := fun k v => fr_wr (Or.inr rfl)
    have WF : ∀ k v, WO (wr_ h (l + 1) k v) w T W := fun k v => WO_fr o (FS k v) (by intro a x y z; rcases z with z | z <;> omega)
    have TF : ∀ k v, TO (wr_ h (l + 1) k v) t T := fun k v => TO_fr q (FS k v) (by intro a x y z; rcases z with z | z <;> omega)
    have EF : ∀ k v, rd_ (wr_ h (l + 1) k v) l 6 = 0 := fun k v => by rw [rd_wo (by omega)]; exact e0'
    clear ht hw
    rw [La_value_5_e]
    simp only [g1, g2, g3, r16, m19, y.2, r14, m17, y5]
    rw [ck_t (by omega), ck_t (by omega), ck_t (by omega), ck_t (by omega), if_neg (by omega), ck_t (by omega), ck_t (by omega), ck_t (by omega), ck_t (by omega)]
    unfold lok at hl
    unfold rn_ rp_
    -- a push of v
    have push : ∀ z, bnd z → lok (T 12) n (i + 1) (s.length + 1) → ∃ h', La_value_5 (wr_ h (l + 1) s.length z) l k c (w32 ((s.length : Int) + 1)) (w32 (i + 1)) = some (h', match rn_ (nv_ T W m p d k) (T 12) n (i + 1) (z :: s) with
        | some s' => s'.headD 0
        | none => c) ∧ fr_ h h' (fun a => a = l ∨ a = l + 1) ∧ LO h' l t w m p d := by
      intro z hz hl'
      obtain ⟨h', e1, e2, e3⟩ := ih (i + 1) (z :: s) (wr_ h (l + 1) s.length z) (LO_s _ _ g) (WF _ _) (TF _ _) (EF _ _) ⟨rd_ws _ _ _ _, sk_wr hs (by omega)⟩ (by
        intro x hx
        rcases List.mem_cons.mp hx with e | e
        · rw [e]; exact hz
        · exact hb x e) hl' (by omega) (by omega) (by rw [List.length_cons]; omega)
      refine ⟨h', ?_, fr_tr (FS _ _) e2, e3⟩
      rw [← e1, w32_i (by omega) (by omega), w32_i (by omega) (by omega), List.length_cons]
      rfl
    by_cases c1 : T 12 i < 0
    · rw [if_pos c1] at hl
      rw [if_pos (by omega), if_pos c1, if_pos c1, La_value_15_e]
      simp only [g1, g2]
      rw [if_neg (by omega), ck_t (by omega), if_neg (by omega), ck_t (by omega), ck_t (by omega), w32_i (x := -1 - T 12 i) (by omega) (by omega), ck_t (by omega), rd_wo (by omega), if_pos e0']
      obtain ⟨h', e1, e2, e3⟩ := push (-1 - T 12 i) (by unfold bnd; omega) hl.2
      exact ⟨h', e1, e2, e3⟩
    · rw [if_neg c1] at hl
      by_cases c2 : T 12 i = 22
      · rw [if_pos c2] at hl
        rw [if_neg (by omega), if_neg (by omega), if_neg c1, if_pos c2, ck_t (by omega), ck_t (by omega), ck_t (by omega)]
        match s, hl, hs, hb, hl2 with
        | x :: r, hl, hs, hb, hl2 =>
          have ex : ((x :: r).length : Int) - 1 = r.length := by rw [List.length_cons]; omega
          have rl : (r.length : Int) < 64 := by rw [List.length_cons] at hl2; omega
          rw [w32_i (by rw [ex]; omega) (by rw [ex]; omega), ex, hs.1, ck_t (by omega)]
          simp only [lc_n, La_truth_s, bd_v]
          rw [show (if (x :: r).headD 0 = 0 then (1 : Int) else 0) = (if x = 0 then 1 else 0) from rfl, List.tail_cons]
          have fin : ∀ z, bnd z → ∃ h', ck_ (0 ≤ l + 1) (ck_ (0 ≤ (r.length : Int) ∧ (r.length : Int) < ln_ h (l + 1)) (ck_ (0 ≤ l) (if rd_ (wr_ h (l + 1) r.length z) l 6 = 0 then La_value_5 (wr_ h (l + 1) r.length z) l k c ((x :: r).length : Int) (w32 (i + 1)) else some (wr_ h (l + 1) r.length z, c)))) = some (h', match rn_ (nv_ T W m p d k) (T 12) n (i + 1) (z :: r) with
              | some s' => s'.headD 0
              | none => c) ∧ fr_ h h' (fun a => a = l ∨ a = l + 1) ∧ LO h' l t w m p d := by
            intro z hz
            obtain ⟨h', e1, e2, e3⟩ := ih (i + 1) (z :: r) (wr_ h (l + 1) r.length z) (LO_s _ _ g) (WF _ _) (TF _ _) (EF _ _) ⟨rd_ws _ _ _ _, sk_wr hs.2 (by omega)⟩ (by
              intro x' hx
              rcases List.mem_cons.mp hx with e | e
              · rw [e]; exact hz
              · exact hb x' (List.mem_cons_of_mem _ e)) hl.2 (by omega) (by omega) (by rw [List.length_cons] at hl2 ⊢; omega)
            refine ⟨h', ?_, fr_tr (FS _ _) e2, e3⟩
            rw [g2, ck_t (by omega), ck_t (by omega), ck_t (by omega), rd_wo (by omega), if_pos e0', ← e1, w32_i (by omega) (by omega), List.length_cons, List.length_cons]
          by_cases z : x = 0
          · rw [if_neg (by omega), if_pos z]
            obtain ⟨h', e1, e2, e3⟩ := fin 1 (by unfold bnd; omega)
            exact ⟨h', e1, e2, e3⟩
          · rw [if_pos z, if_neg z]
            obtain ⟨h', e1, e2, e3⟩ := fin 0 (by unfold bnd; omega)
            exact ⟨h', e1, e2, e3⟩
      · rw [if_neg c2] at hl
        by_cases c3 : 23 ≤ T 12 i ∧ T 12 i ≤ 29
        · rw [if_pos c3] at hl
          rw [if_pos c2, if_neg c1, if_neg (by omega), if_neg (by omega), if_neg c1, if_neg c2, if_pos c3, La_value_15_e]
          simp only [g1, g2]
          rw [if_neg (by omega), ck_t (by omega), if_pos (by omega), ck_t (by omega), La_nameValue_s g o v q h1 h2 h3 h4 h5 h6 c3 k, bd_v, g2, ck_t (by omega), ck_t (by omega), ck_t (by omega), rd_wo (by omega), if_pos e0']
          obtain ⟨h', e1, e2, e3⟩ := push _ (nv_b v u k h1 h2 h3 h4 h5 h6 _) hl
          exact ⟨h', e1, e2, e3⟩
        · rw [if_neg c3] at hl
          rw [if_pos c2, if_neg c1, if_neg c1, if_neg c2, if_neg c3]
          obtain ⟨hl1, hl3, hl4⟩ := hl
          have e20 : La_value_20 h l k c s.length i (T 12 i) = (if T 12 i < 23 then La_value_20 h l k c s.length i (T 12 i) else if 29 < T 12 i then La_value_20 h l k c s.length i (T 12 i) else La_value_15 h l k c s.length i (T 12 i)) := by
            by_cases z : T 12 i < 23
            · rw [if_pos z]
            · rw [if_neg z, if_pos (by omega)]
          rw [← e20, La_value_20_e]
          match s, hl3, hl4, hs, hb, hl2 with
          | b :: a :: r, hl3, hl4, hs, hb, hl2 =>
            simp only [List.headD_cons, List.tail_cons, List.length_cons] at hl4 hs hl2 ⊢
            have rl : (r.length : Int) < 63 := by push_cast at hl2; omega
            have ba := hb a (List.mem_cons_of_mem _ List.mem_cons_self)
            have bb := hb b List.mem_cons_self
            have x1 : w32 (((r.length + 1 + 1 : Nat) : Int) + -1) = (r.length : Int) + 1 := by rw [w32_i (by omega) (by omega)]; omega
            have x2 : w32 ((r.length : Int) + 1 - 1) = r.length := by rw [w32_i (by omega) (by omega)]; omega
            have hs1 : rd_ h (l + 1) ((r.length : Int) + 1) = b := by have := hs.1; rw [List.length_cons] at this; push_cast at this; exact this
            have hs2 : rd_ h (l + 1) (r.length : Int) = a := hs.2.1
            simp only [g1, g2, x1, x2, hs1, hs2]
            rw [if_neg (by push_cast; omega), ck_t (by omega), ck_t (by omega), ck_t (by omega), ck_t (by omega), ck_t (by omega), ck_t (by omega), ck_t (by omega), La_joined_s h l _ a b g0 hl1 (by omega) ba bb]
            cases hj : jo_ (T 12 i) a b with
            | none =>
              simp only [bd_v, rf_wr, ln_wr, g1, g2]
              refine ⟨wr_ (wr_ h l 6 1) (l + 1) r.length 0, ?_, fr_tr (fr_wr (Or.inl rfl)) (fr_wr (Or.inr rfl)), LO_s _ _ (LO_e _ g)⟩
              rw [ck_t (by omega), ck_t (by omega), rd_wo (by omega), rd_ws, if_neg (by omega), ck_t (by omega), ck_t (by omega)]
            | some z =>
              simp only [bd_v, g2]
              obtain ⟨h', e1, e2, e3⟩ := ih (i + 1) (z :: r) (wr_ h (l + 1) r.length z) (LO_s _ _ g) (WF _ _) (TF _ _) (EF _ _) ⟨rd_ws _ _ _ _, sk_wr hs.2.2 (by omega)⟩ (by
                intro x' hx
                rcases List.mem_cons.mp hx with e | e
                · rw [e]; exact jo_b ba bb hj
                · exact hb x' (List.mem_cons_of_mem _ (List.mem_cons_of_mem _ e))) (by rw [List.length_cons]; exact hl4) (by omega) (by omega) (by rw [List.length_cons]; push_cast; omega)
              refine ⟨h', ?_, fr_tr (FS _ _) e2, e3⟩
              rw [ck_t (by omega), ck_t (by omega), ck_t (by omega), rd_wo (by omega), if_pos e0', ← e1, w32_i (by omega) (by omega), List.length_cons, ck_t (by omega)]
              rfl
end
