/-! the law's pile, and the reference's beside it -/
section
variable {h : am_H} {T W I Q : Tx} {U : Int → Tx} {K S : Int}
theorem RM_ch {h h' : am_H} {K S k n : Int} (r : RM h K S) (en : nn_ h' = nn_ h + k) (es : ss_ h' = ss_ h + n) (e : rf_ h' 0 16 = rf_ h 0 16) (e9 : ∀ i, rf_ h' 90 i = rf_ h 90 i) (ec : ∀ i, 0 ≤ i → i < 12 → rf_ h 90 i < 0 ∨ (rf_ h' (rf_ h 90 i) 7 = rf_ h (rf_ h 90 i) 7 ∧ rf_ h' (rf_ h 90 i) 8 = rf_ h (rf_ h 90 i) 8)) : RM h' (K + k) (S + n) := by
  have pe : ∀ a b d, ∀ n : Nat, n ≤ 12 → sm_ (pcr_ a b d h') n = sm_ (pcr_ a b d h) n := by
    intro a b d n
    induction n with
    | zero => intro _; rfl
    | succ n ih =>
      intro hn
      unfold sm_
      rw [ih (by omega)]
      congr 1
      unfold pcr_
      rw [e9]
      rcases ec n (by omega) (by omega) with q | q
      · rw [if_pos (Or.inl q), if_pos (Or.inl q), if_pos (Or.inl q), if_pos (Or.inl q)]
      · rw [q.1, q.2]
  obtain ⟨r1, r2⟩ := r
  unfold RM
  rw [en, es, e, pe _ _ _ 12 (by omega), pe _ _ _ 12 (by omega)]
  exact ⟨by omega, by omega⟩
theorem ST_mo (st : ST h T W I U Q K S) {k n : Int} (k0 : 0 ≤ k) (n0 : 0 ≤ n) : ST h T W I U Q (K + k) (S + n) := by
  obtain ⟨⟨a, b, ⟨c1, c2⟩, d⟩, f⟩ := st
  exact ⟨⟨a, b, ⟨by omega, by omega⟩, d⟩, f⟩
theorem ST_nw (st : ST h T W I U Q K S) : ST (nw_ h 50 6) T W I U Q (K + 1) (S + 6) := by
  obtain ⟨⟨a, b, c, d⟩, m, sv, l⟩ := st
  have L : lwr_ h (nw_ h 50 6) := lwr_ag (agB_nw (B := nn_ h) 50 (by omega) (Int.le_refl _)) d
  have f := hi_agB (agB_nw (B := nn_ h) 50 (n := 6) (by omega) (Int.le_refl _)) (Int.le_refl (nn_ h))
  have e : rf_ (nw_ h 50 6) 0 16 = rf_ h 0 16 := rf_nwo (by omega) _
  have e9 : ∀ i, rf_ (nw_ h 50 6) 90 i = rf_ h 90 i := fun i => rf_nwo (by omega) _
  refine ⟨⟨CI_la (la_lw L) a, CH_hi b f e e9, RM_ch c rfl rfl e e9 (fun i i0 i1 => ?_), by rw [nn_nw]; omega⟩, MN_lb (lb_lw L) m, sv, by rw [L.2.1 143 (by omega)]; exact l⟩
  rcases CH_c b i0 i1 with q | q
  · exact Or.inl q
  · exact Or.inr ⟨(f.2 _ q.1 q.2).2.1 7, (f.2 _ q.1 q.2).2.1 8⟩
theorem ST_ou (st : ST h T W I U Q K S) (v : Int) : ST (wr_ h 143 0 v) T W I U Q K S := by
  obtain ⟨⟨a, b, c, d⟩, m, sv, l⟩ := st
  have L : la_ h (wr_ h 143 0 v) := ⟨fun a k q => rd_wo (by omega), fun _ _ => rfl, fun _ _ _ _ _ => rfl⟩
  have f : hi_ h (wr_ h 143 0 v) := ⟨Int.le_refl _, fun a q _ => ⟨fun k => rd_wo (by omega), fun _ => rfl, rfl⟩⟩
  exact ⟨⟨CI_la L a, CH_hi b f rfl (fun _ => rfl), RM_hi c b f rfl rfl rfl (fun _ => rfl), d⟩, MN_l3 ⟨fun a k p q => rd_wo (by omega), fun _ _ _ => rfl, fun _ _ _ _ => rfl⟩ m, sv, l⟩
theorem ST_22 (st : ST h T W I U Q K S) (v : Int) : ST (wr_ h 94 2 v) T W I U Q K S := ST_M st.1 (MN_q st.2.1 st.2.2.1.2.1 (Mq_2 h v)) (Fm_q (Mq_2 h v)) st.2.2.1 st.2.2.2
theorem B_pile (st : ST h T W I U Q K S) (a b : Int) : ∃ (h1 h2 : am_H) (k w : Int), LPL h 0 a b 143 = some (h1, k) ∧ Mo_pile h1 94 a b = some (h2, w) ∧ rd_ h2 94 2 = k ∧ (k = 0 → rd_ h2 143 0 = w) ∧ 0 < ln_ h2 143 ∧ ST h2 T W I U Q (K + 1) (S + 6) := by
  have ci := st.1.1
  have wo := ci.2.2.1
  have wv := st.2.2.1.2.1
  have l := st.2.2.2
  unfold LPL
  rw [ck_t ⟨rfl, rfl⟩, cr0_7 ci.1, ck_t (by omega)]
  by_cases c : 0 ≤ a ∧ a < T 0 1
  · rw [Wo_hasPile_t wo c.1 c.2, bd_v, if_neg (by omega)]
    by_cases d : 0 ≤ b ∧ b ≤ 4
    · rw [if_pos d, Pp_pile_t ci wv c.1 c.2 d.1 d.2, bd_v, ck_t (by omega)]
      have s1 := ST_ou st (pil_ T W a b)
      exact ⟨_, _, _, _, rfl, Mo_pile_t s1.2.1 wv c.1 c.2 d.1 d.2, rd_ws _ _ _ _, fun _ => (rd_wo (by omega)).trans (rd_ws _ _ _ _), by show 0 < ln_ h 143; omega, ST_mo (ST_22 s1 0) (by omega) (by omega)⟩
    · rw [if_neg d]
      have s1 := ST_nw st
      exact ⟨_, _, _, _, rfl, Mo_pile_2 s1.2.1 wv c.1 c.2 d, rd_ws _ _ _ _, fun z => absurd z (by omega), by show 0 < ln_ (nw_ h 50 6) 143; rw [s1.2.2.2]; omega, ST_22 (ST_22 s1 0) 2⟩
  · rw [Wo_hasPile_f wo c, bd_v, if_pos rfl]
    have s1 := ST_nw st
    exact ⟨_, _, _, _, rfl, Mo_pile_1 s1.2.1 wv c, rd_ws _ _ _ _, fun z => absurd z (by omega), by show 0 < ln_ (nw_ h 50 6) 143; rw [s1.2.2.2]; omega, ST_22 (ST_22 s1 0) 1⟩
end
