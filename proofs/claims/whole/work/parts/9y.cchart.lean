/-! the class's charts: one made, measured -/
/-- where the parts of a chart lie, what they are -/
def CHs (h : am_H) (u c w H : Int) : Prop := (144 ≤ c ∧ c + 4 ≤ nn_ h ∧ ln_ h c = 11) ∧ rf_ h c 0 = u ∧ (rd_ h c 1 = H ∧ rd_ h c 2 = w ∧ rd_ h c 3 = nN_ w H) ∧ (rf_ h c 4 = c + 2 ∧ rf_ h c 5 = c + 3 ∧ rf_ h c 6 = c + 1) ∧ ln_ h (c + 1) = 21 ∧ ln_ h (c + 2) = nN_ w H ∧ ln_ h (c + 3) = nN_ w H
theorem CHs_fr {h h' : am_H} {u c w H : Int} {A : Int → Prop} (s : CHs h u c w H) (f : fr_ h h' A) (q : ¬ A c) : CHs h' u c w H := by
  unfold CHs
  rw [fr_nn f, fr_ln f, fr_rf f, f.2 c q, f.2 c q, f.2 c q, fr_rf f, fr_rf f, fr_rf f, fr_ln f, fr_ln f, fr_ln f]
  exact s
theorem CHu_fr {h h' : am_H} {u : Int} {A : Int → Prop} (s : CHu h u) (f : fr_ h h' A) (q : ¬ A (u + 1)) (r : ¬ A (u + 2)) : CHu h' u := by
  unfold CHu
  rw [fr_nn f, fr_rf f, fr_rf f, fr_ln f, fr_ln f]
  exact ⟨s.1, s.2.1, s.2.2.1, RW_fr s.2.2.2.1 f q, RW_fr s.2.2.2.2 f r⟩
theorem Tu_ofOrder_s {h : am_H} {u o d : Int} (t : CHu h u) (o0 : 0 ≤ o) (o1 : o < 120) (d0 : 1 ≤ d) (d1 : d ≤ 5) : Tu_ofOrder h u o d = some (h, tO_ o d) := by
  obtain ⟨t1, t2, t3, t4, t5⟩ := t
  rw [Tu_ofOrder_e]
  simp only [t2.1, t3.1]
  rw [w32_i (x := o * 5) (by omega) (by omega), w32_i (x := o * 5 + d) (by omega) (by omega), w32_i (x := o * 5 + d - 1) (by omega) (by omega), ck_t (by omega), ck_t (by omega), ck_t (by omega), t4 _ (by omega) (by omega)]
  unfold ot_
  rw [show (o * 5 + d - 1) / 5 = o by omega, show (o * 5 + d - 1) % 5 + 1 = d by omega]
theorem Tu_ofFaces_s {h : am_H} {u o d : Int} (t : CHu h u) (o0 : 0 ≤ o) (o1 : o < 32) (d0 : 1 ≤ d) (d1 : d ≤ 5) : Tu_ofFaces h u o d = some (h, fC_ o d) := by
  obtain ⟨t1, t2, t3, t4, t5⟩ := t
  rw [Tu_ofFaces_e]
  simp only [t2.2, t3.2]
  rw [w32_i (x := o * 5) (by omega) (by omega), w32_i (x := o * 5 + d) (by omega) (by omega), w32_i (x := o * 5 + d - 1) (by omega) (by omega), ck_t (by omega), ck_t (by omega), ck_t (by omega), t5 _ (by omega) (by omega)]
  unfold fct_
  rw [show (o * 5 + d - 1) / 5 = o by omega, show (o * 5 + d - 1) % 5 + 1 = d by omega]
theorem Ch_turned_s {h : am_H} {u c w H s d : Int} (h0 : 0 ≤ H) (h5 : H ≤ 5) (w0 : w = 0 ∨ w = 1) (t : CHu h u) (k : CHs h u c w H) (s0 : 0 ≤ s) (s1 : s < nN_ w H) (d0 : 1 ≤ d) (d1 : d ≤ H) : Ch_turned h c s d = some (h, nC_ w H s d) := by
  have u1 := t.1
  obtain ⟨k1, k2, k3, k4, -⟩ := id k
  have p := P2_v h0 h5
  rw [Ch_turned_e]
  simp only [k2, k3.1, k3.2.1]
  unfold nC_
  unfold nN_ at s1
  rw [ck_t (by omega)]
  rcases w0 with e | e
  · rw [if_neg (by omega)] at s1
    rw [if_neg (by omega), if_neg (by omega), ck_t (by omega), ck_t (by omega), Tu_ofOrder_s t s0 (by omega) d0 (by omega), bd_v]
  · rw [if_pos e] at s1
    obtain ⟨x, y, z⟩ := P2_q h0 h5 s0 s1
    have n1 := (oN_ h0 h5 x.1 x.2 y.1 y.2).2
    have ee : (2 : Int) ^ H.toNat = P2_ H := rfl
    rw [ee, z] at n1
    rw [if_pos (by omega), if_pos e, ck_t (by omega), ck_t (by omega), ck_t (by omega), ck_t (by omega), n1, Tu_ofOrder_s t (by rw [p.2.2.1]; exact x.1) (by rw [p.2.2.1]; exact Int.lt_of_lt_of_le x.2 p.2.2.2.2.2.1) d0 (Int.le_trans d1 h5), bd_v, k3.1, k2, ck_t (by omega), ck_t (by omega), ck_t (by omega), Tu_ofFaces_s t y.1 (Int.lt_of_lt_of_le y.2 p.2.1) d0 (Int.le_trans d1 h5), bd_v]
/-- a new chart -/
theorem Ch_new_s {h : am_H} {u w H : Int} (c0 : 144 ≤ nn_ h) (h0 : 0 ≤ H) (h5 : H ≤ 5) (w0 : w = 0 ∨ w = 1) : ∃ h', Ch_new (nw_ h 0 11) (nn_ h) u H w = some (h', 0) ∧ CHs h' u (nn_ h) w H ∧ agB_ (nn_ h) h h' ∧ nn_ h' = nn_ h + 4 ∧ ss_ h' = ss_ h + 32 + 2 * nN_ w H ∧ (∀ a k, nn_ h + 1 ≤ a → a ≤ nn_ h + 3 → rd_ h' a k = 0) ∧ (rf_ h' (nn_ h) 7 = -1 ∧ rf_ h' (nn_ h) 8 = -1) := by
  have nv := nN_v (w := w) h0 h5
  have p := P2_v h0 h5
  generalize hc : nn_ h = c at c0 ⊢
  have n0 : nn_ (nw_ h 0 11) = c + 1 := by rw [nn_nw, hc]
  have l0 : ln_ (nw_ h 0 11) c = 11 := by rw [← hc]; exact ln_nwn _ _ _
  generalize k0 : nw_ h 0 11 = h0' at n0 l0 ⊢
  have z0 : ss_ h0' = ss_ h + 11 := by rw [← k0]; rfl
  have g0 : agB_ c h h0' := by rw [← k0]; exact agB_nw 0 (by omega) (by omega)
  have l1 : ln_ (nw_ h0' 20 21) (c + 1) = 21 := by rw [← n0]; exact ln_nwn _ _ _
  have r1 : ∀ k, rd_ (nw_ h0' 20 21) (c + 1) k = 0 := fun k => by rw [← n0]; exact rd_nwn _ _ _ _
  have l10 : ln_ (nw_ h0' 20 21) c = 11 := by rw [ln_nw (by omega)]; exact l0
  have g1 : agB_ (c + 1) h0' (nw_ h0' 20 21) := agB_nw 20 (by omega) (by omega)
  have z1 : ss_ (nw_ h0' 20 21) = ss_ h0' + 21 := rfl
  have n1 : nn_ (nw_ h0' 20 21) = c + 2 := by rw [nn_nw, n0]; omega
  generalize k1 : nw_ h0' 20 21 = h1 at l1 r1 l10 g1 z1 n1
  -- the fields
  have F2 : ∃ h2, h2 = wr_ (wr_ (wr_ (wf_ (wr_ (wf_ (wf_ (wf_ (wf_ h1 c 6 (c + 1)) c 7 (-1)) c 8 (-1)) c 9 (-1)) c 10 0) c 0 u) c 1 H) c 2 w) c 3 (nN_ w H) := ⟨_, rfl⟩
  obtain ⟨h2, k2⟩ := F2
  have n2 : nn_ h2 = c + 2 := by rw [k2]; exact n1
  have z2 : ss_ h2 = ss_ h1 := by rw [k2]; rfl
  have g2 : agB_ c h1 h2 := by rw [k2]; exact agB_tr (agB_wf (by omega)) (agB_tr (agB_wf (by omega)) (agB_tr (agB_wf (by omega)) (agB_tr (agB_wf (by omega)) (agB_tr (agB_wr (by omega)) (agB_tr (agB_wf (by omega)) (agB_tr (agB_wr (by omega)) (agB_tr (agB_wr (by omega)) (agB_wr (by omega)))))))))
  have L2 : ∀ a, ln_ h2 a = ln_ h1 a := fun a => by rw [k2]; rfl
  have d1 : rd_ h2 c 1 = H := by rw [k2, rd_wk (by omega), rd_wk (by omega), rd_ws]
  have d2 : rd_ h2 c 2 = w := by rw [k2, rd_wk (by omega), rd_ws]
  have d3 : rd_ h2 c 3 = nN_ w H := by rw [k2, rd_ws]
  have ro : ∀ a k, a ≠ c → rd_ h2 a k = rd_ h1 a k := fun a k q => by
    rw [k2, rd_wo q, rd_wo q, rd_wo q]
    show rd_ (wr_ _ c 10 0) a k = _
    rw [rd_wo q]
    rfl
  have q0 : rf_ h2 c 0 = u := by
    rw [k2]
    show rf_ (wf_ _ c 0 u) c 0 = u
    exact rf_ws _ _ _ _
  have qq : ∀ j, j ≠ 0 → rf_ h2 c j = rf_ (wf_ (wf_ (wf_ (wf_ h1 c 6 (c + 1)) c 7 (-1)) c 8 (-1)) c 9 (-1)) c j := fun j hj => by
    rw [k2]
    show rf_ (wf_ _ c 0 u) c j = _
    rw [rf_wk hj]
    rfl
  have q6 : rf_ h2 c 6 = c + 1 := by rw [qq 6 (by omega), rf_wk (by omega), rf_wk (by omega), rf_wk (by omega), rf_ws]
  have q7 : rf_ h2 c 7 = -1 := by rw [qq 7 (by omega), rf_wk (by omega), rf_wk (by omega), rf_ws]
  have q8 : rf_ h2 c 8 = -1 := by rw [qq 8 (by omega), rf_wk (by omega), rf_ws]
  -- least
  have l3 : ln_ (nw_ h2 20 (nN_ w H)) (c + 2) = nN_ w H := by rw [← n2]; exact ln_nwn _ _ _
  have r3 : ∀ k, rd_ (nw_ h2 20 (nN_ w H)) (c + 2) k = 0 := fun k => by rw [← n2]; exact rd_nwn _ _ _ _
  have g3 : agB_ (c + 2) h2 (nw_ h2 20 (nN_ w H)) := agB_nw 20 (by omega) (by omega)
  have z3 : ss_ (nw_ h2 20 (nN_ w H)) = ss_ h2 + nN_ w H := rfl
  have n3 : nn_ (nw_ h2 20 (nN_ w H)) = c + 3 := by rw [nn_nw, n2]; omega
  generalize k3 : nw_ h2 20 (nN_ w H) = h3 at l3 r3 g3 z3 n3
  have d33 : rd_ h3 c 3 = nN_ w H := by rw [(g3.2.2 c (by omega)).1]; exact d3
  have n3' : nn_ (wf_ h3 c 4 (c + 2)) = c + 3 := n3
  have l4 : ln_ (nw_ (wf_ h3 c 4 (c + 2)) 20 (nN_ w H)) (c + 3) = nN_ w H := by rw [← n3']; exact ln_nwn _ _ _
  have r4 : ∀ k, rd_ (nw_ (wf_ h3 c 4 (c + 2)) 20 (nN_ w H)) (c + 3) k = 0 := fun k => by rw [← n3']; exact rd_nwn _ _ _ _
  have g4 : agB_ (c + 3) (wf_ h3 c 4 (c + 2)) (nw_ (wf_ h3 c 4 (c + 2)) 20 (nN_ w H)) := agB_nw 20 (by omega) (by omega)
  have z4 : ss_ (nw_ (wf_ h3 c 4 (c + 2)) 20 (nN_ w H)) = ss_ h3 + nN_ w H := rfl
  have n4 : nn_ (nw_ (wf_ h3 c 4 (c + 2)) 20 (nN_ w H)) = c + 4 := by rw [nn_nw, n3']; omega
  generalize k4 : nw_ (wf_ h3 c 4 (c + 2)) 20 (nN_ w H) = h4 at l4 r4 g4 z4 n4
  have f4 : ∀ j, j ≠ 4 → rf_ h4 c j = rf_ h2 c j := fun j hj => by rw [(g4.2.2 c (by omega)).2.1, rf_wk hj, (g3.2.2 c (by omega)).2.1]
  have f44 : rf_ h4 c 4 = c + 2 := by rw [(g4.2.2 c (by omega)).2.1, rf_ws]
  have e4 : ∀ a, a < c + 2 → ln_ h4 a = ln_ h1 a ∧ ∀ k, rd_ h4 a k = rd_ h2 a k := fun a q => ⟨by rw [(g4.2.2 a (by omega)).2.2]; show ln_ h3 a = _; rw [(g3.2.2 a (by omega)).2.2, L2], fun k => by rw [(g4.2.2 a (by omega)).1]; show rd_ h3 a k = _; rw [(g3.2.2 a (by omega)).1]⟩
  have G : agB_ c h h4 := agB_tr g0 (agB_tr (agB_mo g1 (by omega)) (agB_tr g2 (agB_tr (agB_mo g3 (by omega)) (agB_tr (agB_wf (by omega)) (agB_mo g4 (by omega))))))
  refine ⟨wf_ h4 c 5 (c + 3), ?_, ⟨⟨by omega, by show c + 4 ≤ nn_ h4; omega, by show ln_ h4 c = 11; rw [(e4 c (by omega)).1]; exact l10⟩, by rw [rf_wk (by omega), f4 0 (by omega)]; exact q0, ⟨by show rd_ h4 c 1 = H; rw [(e4 c (by omega)).2]; exact d1, by show rd_ h4 c 2 = w; rw [(e4 c (by omega)).2]; exact d2, by show rd_ h4 c 3 = _; rw [(e4 c (by omega)).2]; exact d3⟩, ⟨by rw [rf_wk (by omega)]; exact f44, rf_ws _ _ _ _, by rw [rf_wk (by omega), f4 6 (by omega)]; exact q6⟩, by show ln_ h4 (c + 1) = 21; rw [(e4 (c + 1) (by omega)).1]; exact l1, by show ln_ h4 (c + 2) = _; rw [(g4.2.2 (c + 2) (by omega)).2.2]; exact l3, l4⟩, agB_tr G (agB_wf (by omega)), n4, by show ss_ h4 = _; omega, ?_, ⟨by rw [rf_wk (by omega), f4 7 (by omega)]; exact q7, by rw [rf_wk (by omega), f4 8 (by omega)]; exact q8⟩⟩
  · rw [Ch_new_e]
    repeat rw [ck_t (by omega)]
    rw [n0, k1]
    have fin : ∀ s0 : Int, s0 = w → Ch_new_3 (wr_ (wf_ (wr_ (wf_ (wf_ (wf_ (wf_ h1 c 6 (c + 1)) c 7 (-1)) c 8 (-1)) c 9 (-1)) c 10 0) c 0 u) c 1 H) c H s0 c = some (wf_ h4 c 5 (c + 3), 0) := by
      intro s0 es
      subst es
      have nb : ∀ v, nn_ (wr_ (wf_ (wr_ (wf_ (wf_ (wf_ (wf_ h1 c 6 (c + 1)) c 7 (-1)) c 8 (-1)) c 9 (-1)) c 10 0) c 0 u) c 1 v) = c + 2 := fun v => n1
      rw [Ch_new_3_e, ck_t (by omega), ck_t (by omega), ck_t (by omega), rd_ws, nb]
      rcases w0 with e | e
      · have en : fa_.getD (H : Int).toNat 0 = nN_ s0 H := by
          unfold nN_ fc_
          rw [if_neg (by omega)]
        rw [if_pos e, ck_t (by omega), en, ← k2]
        simp only [d3, k3, d33]
        repeat rw [ck_t (by omega)]
        rw [k4, show c + 2 + 1 = c + 3 by omega]
      · have en : w32 (fa_.getD (H : Int).toNat 0 * 2 ^ (H % 32 : Int).toNat) = nN_ s0 H := by
          unfold nN_
          rw [if_pos e, p.2.2.1]
          show w32 (fc_ H * P2_ H) = _
          exact w32_i (by unfold nN_ at nv; rw [if_pos e] at nv; omega) (by omega)
        rw [if_neg (by omega), ck_t (by omega), en, ← k2]
        simp only [d3, k3, d33]
        repeat rw [ck_t (by omega)]
        rw [k4, show c + 2 + 1 = c + 3 by omega]
    rcases w0 with e | e
    · rw [if_pos (by omega)]
      exact fin 0 e.symm
    · rw [if_neg (by omega)]
      exact fin 1 e.symm
  · intro a k a0 a1
    show rd_ h4 a k = 0
    have : a = c + 1 ∨ a = c + 2 ∨ a = c + 3 := by omega
    rcases this with e | e | e
    · rw [e, (e4 (c + 1) (by omega)).2, ro _ _ (by omega)]; exact r1 k
    · rw [e, (g4.2.2 (c + 2) (by omega)).1]; exact r3 k
    · rw [e]; exact r4 k
