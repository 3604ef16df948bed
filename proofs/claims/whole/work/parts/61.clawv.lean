/-! a law's value, in the class -/
section
variable {h : am_H} {l t w m p d : Int} {T W : Tx}
theorem La_value_s {k : Int} (g : LO h l t w m p d) (o : WO h w T W) (q : TO h t T) (v : WV T W) (u : TV T) (h1 : 0 ≤ p) (h2 : p < T 0 1) (h3 : 0 ≤ m) (h4 : m < T 0 0) (h5 : 0 ≤ d) (h6 : d ≤ 6) (hk : 0 ≤ k) (hk3 : k < 3) (ht : l + 1 < t ∨ t + 19 < l) (hw : l + 1 < w ∨ w + 7 < l) (c : Int) :
    ∃ h', La_value h l k c = some (h', if T 14 k ≤ T 13 k then c else (lv_ T (nv_ T W m p d k) k).getD c) ∧ fr_ h h' (fun a => a = l ∨ a = l + 1) ∧ LO h' l t w m p d := by
  obtain ⟨g0, g1, g2, g3, g4, g5, g6, g7⟩ := id g
  obtain ⟨⟨t0, r6, r7, r8, r9, r10, r11, r12, r13, r14, r15, r16, m10, m11, m12, m13, m14, m15, m16, m17, m18, m19⟩, q1, q2, q3, q4, q5, q6⟩ := id q
  have y := q6 k hk hk3
  obtain ⟨w0, -⟩ := o.1
  rw [La_value_e]
  simp only [g3, g4]
  rw [ck_t g0, if_neg (by omega), ck_t g0, if_neg (by omega), ck_t g0, ck_t t0, To_hasLaw_s q hk hk3, bd_v]
  by_cases c1 : T 14 k ≤ T 13 k
  · rw [if_pos c1, if_neg (by omega), if_pos c1]
    exact ⟨h, rfl, fr_refl _ _, g⟩
  · rw [if_neg c1, if_pos (by omega), if_neg c1]
    simp only [g3, r15, m18]
    have F : fr_ h (wr_ h l 6 0) (fun a => a = l ∨ a = l + 1) := fr_wr (Or.inl rfl)
    have WF := WO_fr o F (by intro a x y z; rcases z with z | z <;> omega)
    have TF := TO_fr q F (by intro a x y z; rcases z with z | z <;> omega)
    have hTa := (u.2.2.2 k hk hk3).1
    have en : T 13 k + ((T 14 k - T 13 k).toNat : Int) = T 14 k := by omega
    have lk := (u.2.2.2 k hk hk3).2.2.2 (by omega)
    obtain ⟨h', e1, e2, e3⟩ := La_value_lp (c := c) v u h1 h2 h3 h4 h5 h6 hk hk3 ht hw (T 14 k - T 13 k).toNat (T 13 k) [] (wr_ h l 6 0) (LO_e _ g) WF TF (rd_ws _ _ _ _) trivial (fun x hx => by cases hx) lk hTa en hTa
    clear lk
    refine ⟨h', ?_, fr_tr F e2, e3⟩
    rw [ck_t g0, ck_t g0, ck_t t0, ck_t (by omega), ck_t (by omega), rd_wo (by omega), y.1]
    refine Eq.trans e1 ?_
    unfold lv_
    cases rn_ (nv_ T W m p d k) (T 12) (T 14 k - T 13 k).toNat (T 13 k) [] <;> rfl
theorem La_lookAt_s (g : 0 ≤ l) (g1 : rf_ h l 0 = l + 1) (g2 : ln_ h (l + 1) = 64) : ∃ h', La_lookAt h l t w m p d = some (h', 0) ∧ LO h' l t w m p d ∧ h'.2.2 = h.2.2 ∧ (∀ a, a ≠ l → ∀ k, rd_ h' a k = rd_ h a k ∧ rf_ h' a k = rf_ h a k) := by
  rw [La_lookAt_e, ck_t g, ck_t g, ck_t g, ck_t g, ck_t g]
  refine ⟨_, rfl, ⟨g, ?_, g2, ?_, ?_, ?_, ?_, ?_⟩, rfl, ?_⟩
  · simp only [rf_wr, rf_wf]
    rw [if_neg (by omega), if_neg (by omega)]
    exact g1
  · simp [rf_wr, rf_wf]
  · simp [rf_wr, rf_wf]
  · rw [rd_wk (by omega), rd_wk (by omega), rd_ws]
  · rw [rd_wk (by omega), rd_ws]
  · rw [rd_ws]
  · intro a ha k
    rw [rd_wo ha, rd_wo ha, rd_wo ha]
    simp only [rf_wr, rf_wf]
    rw [if_neg (by omega), if_neg (by omega)]
    exact ⟨rfl, rfl⟩
end
