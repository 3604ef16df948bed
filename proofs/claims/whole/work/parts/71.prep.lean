/-! what is laid before minutes go, in the class -/
/-- the class's rows lie where they lie -/
def ShC (h : am_H) : Prop := rf_ h 0 0 = 1 ∧ rf_ h 0 4 = 2 ∧ rf_ h 0 7 = 47 ∧ rf_ h 0 8 = 56 ∧ rf_ h 0 9 = 65 ∧ rf_ h 0 11 = 74 ∧ rf_ h 0 12 = 76 ∧ rf_ h 0 13 = 79 ∧ rf_ h 0 14 = 83 ∧ rf_ h 0 15 = 90 ∧ rf_ h 0 17 = 91 ∧ rf_ h 0 18 = 92 ∧ rf_ h 0 19 = 93 ∧ rf_ h 2 0 = 3 ∧ rf_ h 2 1 = 5 ∧ rf_ h 3 0 = 4 ∧ rf_ h 5 0 = 6 ∧ rf_ h 74 0 = 75 ∧ rf_ h 76 0 = 77 ∧ rf_ h 77 0 = 78 ∧ rf_ h 79 0 = 80 ∧ rf_ h 79 1 = 81 ∧ rf_ h 79 2 = 82 ∧ rf_ h 83 0 = 84 ∧ rf_ h 83 1 = 85 ∧ rf_ h 83 2 = 86 ∧ rf_ h 83 3 = 87 ∧ rf_ h 83 4 = 88 ∧ rf_ h 83 5 = 89 ∧ ln_ h 1 = 700 ∧ ln_ h 4 = 20 ∧ ln_ h 6 = 72 ∧ ln_ h 75 = 64 ∧ ln_ h 78 = 64 ∧ ln_ h 80 = 20 ∧ ln_ h 81 = 20 ∧ ln_ h 82 = 20 ∧ ln_ h 84 = 24 ∧ ln_ h 85 = 24 ∧ ln_ h 86 = 24 ∧ ln_ h 87 = 24 ∧ ln_ h 88 = 24 ∧ ln_ h 89 = 24 ∧ ln_ h 90 = 12 ∧ ln_ h 91 = 5 ∧ ln_ h 92 = 25 ∧ ln_ h 93 = 4
theorem cr0_0 {h : am_H} (s : ShC h) : rf_ h 0 0 = 1 := s.1
theorem cr0_4 {h : am_H} (s : ShC h) : rf_ h 0 4 = 2 := s.2.1
theorem cr0_7 {h : am_H} (s : ShC h) : rf_ h 0 7 = 47 := s.2.2.1
theorem cr0_8 {h : am_H} (s : ShC h) : rf_ h 0 8 = 56 := s.2.2.2.1
theorem cr0_9 {h : am_H} (s : ShC h) : rf_ h 0 9 = 65 := s.2.2.2.2.1
theorem cr0_11 {h : am_H} (s : ShC h) : rf_ h 0 11 = 74 := s.2.2.2.2.2.1
theorem cr0_12 {h : am_H} (s : ShC h) : rf_ h 0 12 = 76 := s.2.2.2.2.2.2.1
theorem cr0_13 {h : am_H} (s : ShC h) : rf_ h 0 13 = 79 := s.2.2.2.2.2.2.2.1
theorem cr0_14 {h : am_H} (s : ShC h) : rf_ h 0 14 = 83 := s.2.2.2.2.2.2.2.2.1
theorem cr0_15 {h : am_H} (s : ShC h) : rf_ h 0 15 = 90 := s.2.2.2.2.2.2.2.2.2.1
theorem cr0_17 {h : am_H} (s : ShC h) : rf_ h 0 17 = 91 := s.2.2.2.2.2.2.2.2.2.2.1
theorem cr0_18 {h : am_H} (s : ShC h) : rf_ h 0 18 = 92 := s.2.2.2.2.2.2.2.2.2.2.2.1
theorem cr0_19 {h : am_H} (s : ShC h) : rf_ h 0 19 = 93 := s.2.2.2.2.2.2.2.2.2.2.2.2.1
theorem cr2_0 {h : am_H} (s : ShC h) : rf_ h 2 0 = 3 := s.2.2.2.2.2.2.2.2.2.2.2.2.2.1
theorem cr2_1 {h : am_H} (s : ShC h) : rf_ h 2 1 = 5 := s.2.2.2.2.2.2.2.2.2.2.2.2.2.2.1
theorem cr3_0 {h : am_H} (s : ShC h) : rf_ h 3 0 = 4 := s.2.2.2.2.2.2.2.2.2.2.2.2.2.2.2.1
theorem cr5_0 {h : am_H} (s : ShC h) : rf_ h 5 0 = 6 := s.2.2.2.2.2.2.2.2.2.2.2.2.2.2.2.2.1
theorem cr74_0 {h : am_H} (s : ShC h) : rf_ h 74 0 = 75 := s.2.2.2.2.2.2.2.2.2.2.2.2.2.2.2.2.2.1
theorem cr76_0 {h : am_H} (s : ShC h) : rf_ h 76 0 = 77 := s.2.2.2.2.2.2.2.2.2.2.2.2.2.2.2.2.2.2.1
theorem cr77_0 {h : am_H} (s : ShC h) : rf_ h 77 0 = 78 := s.2.2.2.2.2.2.2.2.2.2.2.2.2.2.2.2.2.2.2.1
theorem cr79_0 {h : am_H} (s : ShC h) : rf_ h 79 0 = 80 := s.2.2.2.2.2.2.2.2.2.2.2.2.2.2.2.2.2.2.2.2.1
theorem cr79_1 {h : am_H} (s : ShC h) : rf_ h 79 1 = 81 := s.2.2.2.2.2.2.2.2.2.2.2.2.2.2.2.2.2.2.2.2.2.1
theorem cr79_2 {h : am_H} (s : ShC h) : rf_ h 79 2 = 82 := s.2.2.2.2.2.2.2.2.2.2.2.2.2.2.2.2.2.2.2.2.2.2.1
theorem cr83_0 {h : am_H} (s : ShC h) : rf_ h 83 0 = 84 := s.2.2.2.2.2.2.2.2.2.2.2.2.2.2.2.2.2.2.2.2.2.2.2.1
theorem cr83_1 {h : am_H} (s : ShC h) : rf_ h 83 1 = 85 := s.2.2.2.2.2.2.2.2.2.2.2.2.2.2.2.2.2.2.2.2.2.2.2.2.1
theorem cr83_2 {h : am_H} (s : ShC h) : rf_ h 83 2 = 86 := s.2.2.2.2.2.2.2.2.2.2.2.2.2.2.2.2.2.2.2.2.2.2.2.2.2.1
theorem cr83_3 {h : am_H} (s : ShC h) : rf_ h 83 3 = 87 := s.2.2.2.2.2.2.2.2.2.2.2.2.2.2.2.2.2.2.2.2.2.2.2.2.2.2.1
theorem cr83_4 {h : am_H} (s : ShC h) : rf_ h 83 4 = 88 := s.2.2.2.2.2.2.2.2.2.2.2.2.2.2.2.2.2.2.2.2.2.2.2.2.2.2.2.1
theorem cr83_5 {h : am_H} (s : ShC h) : rf_ h 83 5 = 89 := s.2.2.2.2.2.2.2.2.2.2.2.2.2.2.2.2.2.2.2.2.2.2.2.2.2.2.2.2.1
theorem cl1 {h : am_H} (s : ShC h) : ln_ h 1 = 700 := s.2.2.2.2.2.2.2.2.2.2.2.2.2.2.2.2.2.2.2.2.2.2.2.2.2.2.2.2.2.1
theorem cl4 {h : am_H} (s : ShC h) : ln_ h 4 = 20 := s.2.2.2.2.2.2.2.2.2.2.2.2.2.2.2.2.2.2.2.2.2.2.2.2.2.2.2.2.2.2.1
theorem cl6 {h : am_H} (s : ShC h) : ln_ h 6 = 72 := s.2.2.2.2.2.2.2.2.2.2.2.2.2.2.2.2.2.2.2.2.2.2.2.2.2.2.2.2.2.2.2.1
theorem cl75 {h : am_H} (s : ShC h) : ln_ h 75 = 64 := s.2.2.2.2.2.2.2.2.2.2.2.2.2.2.2.2.2.2.2.2.2.2.2.2.2.2.2.2.2.2.2.2.1
theorem cl78 {h : am_H} (s : ShC h) : ln_ h 78 = 64 := s.2.2.2.2.2.2.2.2.2.2.2.2.2.2.2.2.2.2.2.2.2.2.2.2.2.2.2.2.2.2.2.2.2.1
theorem cl80 {h : am_H} (s : ShC h) : ln_ h 80 = 20 := s.2.2.2.2.2.2.2.2.2.2.2.2.2.2.2.2.2.2.2.2.2.2.2.2.2.2.2.2.2.2.2.2.2.2.1
theorem cl81 {h : am_H} (s : ShC h) : ln_ h 81 = 20 := s.2.2.2.2.2.2.2.2.2.2.2.2.2.2.2.2.2.2.2.2.2.2.2.2.2.2.2.2.2.2.2.2.2.2.2.1
theorem cl82 {h : am_H} (s : ShC h) : ln_ h 82 = 20 := s.2.2.2.2.2.2.2.2.2.2.2.2.2.2.2.2.2.2.2.2.2.2.2.2.2.2.2.2.2.2.2.2.2.2.2.2.1
theorem cl84 {h : am_H} (s : ShC h) : ln_ h 84 = 24 := s.2.2.2.2.2.2.2.2.2.2.2.2.2.2.2.2.2.2.2.2.2.2.2.2.2.2.2.2.2.2.2.2.2.2.2.2.2.1
theorem cl85 {h : am_H} (s : ShC h) : ln_ h 85 = 24 := s.2.2.2.2.2.2.2.2.2.2.2.2.2.2.2.2.2.2.2.2.2.2.2.2.2.2.2.2.2.2.2.2.2.2.2.2.2.2.1
theorem cl86 {h : am_H} (s : ShC h) : ln_ h 86 = 24 := s.2.2.2.2.2.2.2.2.2.2.2.2.2.2.2.2.2.2.2.2.2.2.2.2.2.2.2.2.2.2.2.2.2.2.2.2.2.2.2.1
theorem cl87 {h : am_H} (s : ShC h) : ln_ h 87 = 24 := s.2.2.2.2.2.2.2.2.2.2.2.2.2.2.2.2.2.2.2.2.2.2.2.2.2.2.2.2.2.2.2.2.2.2.2.2.2.2.2.2.1
theorem cl88 {h : am_H} (s : ShC h) : ln_ h 88 = 24 := s.2.2.2.2.2.2.2.2.2.2.2.2.2.2.2.2.2.2.2.2.2.2.2.2.2.2.2.2.2.2.2.2.2.2.2.2.2.2.2.2.2.1
theorem cl89 {h : am_H} (s : ShC h) : ln_ h 89 = 24 := s.2.2.2.2.2.2.2.2.2.2.2.2.2.2.2.2.2.2.2.2.2.2.2.2.2.2.2.2.2.2.2.2.2.2.2.2.2.2.2.2.2.2.1
theorem cl90 {h : am_H} (s : ShC h) : ln_ h 90 = 12 := s.2.2.2.2.2.2.2.2.2.2.2.2.2.2.2.2.2.2.2.2.2.2.2.2.2.2.2.2.2.2.2.2.2.2.2.2.2.2.2.2.2.2.2.1
theorem cl91 {h : am_H} (s : ShC h) : ln_ h 91 = 5 := s.2.2.2.2.2.2.2.2.2.2.2.2.2.2.2.2.2.2.2.2.2.2.2.2.2.2.2.2.2.2.2.2.2.2.2.2.2.2.2.2.2.2.2.2.1
theorem cl92 {h : am_H} (s : ShC h) : ln_ h 92 = 25 := s.2.2.2.2.2.2.2.2.2.2.2.2.2.2.2.2.2.2.2.2.2.2.2.2.2.2.2.2.2.2.2.2.2.2.2.2.2.2.2.2.2.2.2.2.2.1
theorem cl93 {h : am_H} (s : ShC h) : ln_ h 93 = 4 := s.2.2.2.2.2.2.2.2.2.2.2.2.2.2.2.2.2.2.2.2.2.2.2.2.2.2.2.2.2.2.2.2.2.2.2.2.2.2.2.2.2.2.2.2.2.2
theorem ShC_of {h h' : am_H} (e : h'.2 = h.2) (s : ShC h) : ShC h' := by
  have a : rf_ h' = rf_ h := by unfold rf_; rw [e]
  have b : ln_ h' = ln_ h := by unfold ln_; rw [e]
  unfold ShC at *
  rw [a, b]
  exact s
theorem rd_cpo {h : am_H} {s sp d dp n b j : Int} (q : b ≠ d) : rd_ (cp_ h s sp d dp n) b j = rd_ h b j := by rw [rd_cp, if_neg (fun z => q z.1)]
theorem rd_cps {h : am_H} {s d n j : Int} (p : 0 ≤ j) (q : j < n) : rd_ (cp_ h s 0 d 0 n) d j = rd_ h s j := by
  rw [rd_cp, if_pos ⟨rfl, p, by omega⟩]
  congr 1
  omega
theorem Wo_copy_s {h : am_H} {x y : Int} {T W : Tx} (s : ShW h x) (o : WO h y T W) (v : WV T W) (hd : x + 8 < y ∨ y + 8 < x) : ∃ h', Wo_copy h x y = some (h', 0) ∧ WO h' x T W ∧ fr_ h h' (fun a => x ≤ a ∧ a ≤ x + 7) := by
  obtain ⟨x0, r6, r7, r8, r9, r10, r11, r12, r13, k1, k2, k3, k4, k5, k6, k7, k8⟩ := id s
  obtain ⟨⟨w0, s6, s7, s8, s9, s10, s11, s12, s13, l1, l2, l3, l4, l5, l6, l7, l8⟩, ⟨e0, e1, e2, e3, e4, e5⟩, f1, f2, f3, f4, f5, f6, f7⟩ := id o
  have v0 := v.1
  have v1 := v.2.1
  rw [Wo_copy_e]
  simp only [r6, r7, r8, r9, r10, r11, r12, s6, s7, s8, s9, s10, s11, s12, k1, k2, k3, k4, k5, k6, k7, l1, l2, l3, l4, l5, l6, l7]
  clear r6 r7 r8 r9 r10 r11 r12 r13 k1 k2 k3 k4 k5 k6 k7 k8 s6 s7 s8 s9 s10 s11 s12 s13 l1 l2 l3 l4 l5 l6 l7 l8
  repeat rw [ck_t (by omega)]
  refine ⟨_, rfl, ?_, ?_⟩
  · refine ⟨ShW_of rfl s, ⟨?_, ?_, ?_, ?_, ?_, ?_⟩, ?_, ?_, ?_, ?_, ?_, ?_, ?_⟩
    · rw [← e0]
      repeat first | rw [rd_cpo (by omega)] | rw [rd_wo (by omega)] | rw [rd_ws] | rw [rd_wk (by omega)]
    · rw [← e1]
      repeat first | rw [rd_cpo (by omega)] | rw [rd_wo (by omega)] | rw [rd_ws] | rw [rd_wk (by omega)]
    · rw [← e2]
      repeat first | rw [rd_cpo (by omega)] | rw [rd_wo (by omega)] | rw [rd_ws] | rw [rd_wk (by omega)]
    · rw [← e3]
      repeat first | rw [rd_cpo (by omega)] | rw [rd_wo (by omega)] | rw [rd_ws] | rw [rd_wk (by omega)]
    · rw [← e4]
      repeat first | rw [rd_cpo (by omega)] | rw [rd_wo (by omega)] | rw [rd_ws] | rw [rd_wk (by omega)]
    · rw [← e5]
      repeat first | rw [rd_cpo (by omega)] | rw [rd_wo (by omega)] | rw [rd_ws] | rw [rd_wk (by omega)]
    · intro j a b
      rw [← f1 j a b]
      repeat first | rw [rd_cpo (by omega)] | rw [rd_cps (by omega) (by omega)] | rw [rd_wo (by omega)]
    · intro j a b
      rw [← f2 j a b]
      repeat first | rw [rd_cpo (by omega)] | rw [rd_cps (by omega) (by omega)] | rw [rd_wo (by omega)]
    · intro j a b
      rw [← f3 j a b]
      repeat first | rw [rd_cpo (by omega)] | rw [rd_cps (by omega) (by omega)] | rw [rd_wo (by omega)]
    · intro j k a b c d
      have := v1 j a b
      rw [← f4 j k a b c d]
      repeat first | rw [rd_cpo (by omega)] | rw [rd_cps (by omega) (by omega)] | rw [rd_wo (by omega)]
    · intro j a b
      rw [← f5 j a b]
      repeat first | rw [rd_cpo (by omega)] | rw [rd_cps (by omega) (by omega)] | rw [rd_wo (by omega)]
    · intro j a b
      rw [← f6 j a b]
      repeat first | rw [rd_cpo (by omega)] | rw [rd_cps (by omega) (by omega)] | rw [rd_wo (by omega)]
    · intro j a b
      rw [← f7 j a b]
      repeat first | rw [rd_cpo (by omega)] | rw [rd_cps (by omega) (by omega)] | rw [rd_wo (by omega)]
  · refine ⟨rfl, fun a ha k => ?_⟩
    repeat first | rw [rd_cpo (by omega)] | rw [rd_wo (by omega)]
def mk_M (dr tr id ot od : Int) : Int → Int := fun k => if k = 3 then dr else if k = 4 then tr else if k = 5 then id else if k = 6 then ot else od
theorem mk_V {dr tr id ot od : Int} (h1 : dr = 0 ∨ dr = 1) (h2 : -1 ≤ tr ∧ tr ≤ 4) (h3 : -1 ≤ id ∧ id < 4) (h4 : ot = -1 ∨ (0 ≤ ot ∧ 1 ≤ od ∧ od ≤ 5 ∧ tr = -1)) : MV (mk_M dr tr id ot od) := ⟨h1, h2, h3, h4⟩
theorem Mi_begin_s {h : am_H} {t w : Int} (s : ShC h) : ∃ h', Mi_begin h 76 t w = some (h', 0) ∧ MiO h' t w (mk_M 0 (-1) (-1) (-1) 0) ∧ fq_ h h' (fun a => a = 76) (fun a => a = 76) := by
  rw [Mi_begin_e]
  repeat rw [ck_t (by omega)]
  refine ⟨_, rfl, ⟨?_, ?_, ?_, ?_, ?_, ?_⟩, rfl, ?_, ?_⟩
  · simp [rf_wr, rf_wf, cr76_0 s]
  · simp [rf_wr, rf_wf]
  · simp [rf_wr, rf_wf]
  · simp [rf_wr, rf_wf, cr77_0 s]
  · exact cl78 s
  · intro k p q
    have c : k = 3 ∨ k = 4 ∨ k = 5 ∨ k = 6 ∨ k = 7 := by omega
    simp only [rd_wa]
    unfold mk_M
    rcases c with c | c | c | c | c <;> subst c <;> simp
  · intro a ha k
    repeat rw [rd_wo ha]
    rfl
  · intro a ha k
    simp only [rf_wr, rf_wf]
    rw [if_neg (fun q => ha q.1), if_neg (fun q => ha q.1)]
theorem Mi_set {h : am_H} {t w : Int} {M M' : Int → Int} (g : MiO h t w M) {h' : am_H} (f : fr_ h h' (fun a => a = 76)) (e : ∀ k, 3 ≤ k → k ≤ 7 → rd_ h' 76 k = M' k) : MiO h' t w M' := by
  obtain ⟨a, b, c, d, i, -⟩ := g
  exact ⟨by rw [fr_rf f]; exact a, by rw [fr_rf f]; exact b, by rw [fr_rf f]; exact c, by rw [fr_rf f]; exact d, by rw [fr_ln f]; exact i, e⟩
theorem Mi_byNumbers_s {h : am_H} {t w : Int} (g : MiO h t w (mk_M 0 (-1) (-1) (-1) 0)) : ∃ h', Mi_byNumbers h 76 = some (h', 0) ∧ MiO h' t w (mk_M 1 (-1) (-1) (-1) 0) ∧ fr_ h h' (fun a => a = 76) := by
  rw [Mi_byNumbers_e, ck_t (by omega)]
  have f : fr_ h (wr_ h 76 3 1) (fun a => a = 76) := fr_wr rfl
  refine ⟨_, rfl, Mi_set g f ?_, f⟩
  intro k p q
  rw [rd_wa]
  have := g.2.2.2.2.2 k p q
  unfold mk_M at *
  split
  · rfl
  · rename_i c
    rw [this, if_neg c]
theorem Mi_tryOtherwise_s {h : am_H} {t w : Int} (g : MiO h t w (mk_M 0 (-1) (-1) (-1) 0)) (x i : Int) : ∃ h', Mi_tryOtherwise h 76 x i = some (h', 0) ∧ MiO h' t w (mk_M 0 x (if x = 2 then i else -1) (-1) 0) ∧ fr_ h h' (fun a => a = 76) := by
  have key : ∀ z, fr_ h (wr_ (wr_ h 76 4 x) 76 5 z) (fun a => a = 76) ∧ MiO (wr_ (wr_ h 76 4 x) 76 5 z) t w (mk_M 0 x z (-1) 0) := by
    intro z
    have f : fr_ h (wr_ (wr_ h 76 4 x) 76 5 z) (fun a => a = 76) := fr_tr (fr_wr rfl) (fr_wr rfl)
    refine ⟨f, Mi_set g f ?_⟩
    intro k p q
    simp only [rd_wa]
    have e := g.2.2.2.2.2 k p q
    have c : k = 3 ∨ k = 4 ∨ k = 5 ∨ k = 6 ∨ k = 7 := by omega
    unfold mk_M at *
    rcases c with c | c | c | c | c <;> subst c <;> simp at e ⊢ <;> exact e
  rw [Mi_tryOtherwise_e]
  repeat rw [ck_t (by omega)]
  by_cases c : x = 2
  · rw [if_neg (by omega), if_pos c]
    repeat rw [ck_t (by omega)]
    exact ⟨_, rfl, (key i).2, (key i).1⟩
  · rw [if_pos c, if_neg c]
    repeat rw [ck_t (by omega)]
    exact ⟨_, rfl, (key (-1)).2, (key (-1)).1⟩
theorem Mi_turnBy_s {h : am_H} {t w : Int} (g : MiO h t w (mk_M 0 (-1) (-1) (-1) 0)) (x d : Int) : ∃ h', Mi_turnBy h 76 x d = some (h', 0) ∧ MiO h' t w (mk_M 0 (-1) (-1) x d) ∧ fr_ h h' (fun a => a = 76) := by
  rw [Mi_turnBy_e]
  repeat rw [ck_t (by omega)]
  have f : fr_ h (wr_ (wr_ h 76 6 x) 76 7 d) (fun a => a = 76) := fr_tr (fr_wr rfl) (fr_wr rfl)
  refine ⟨_, rfl, Mi_set g f ?_, f⟩
  intro k p q
  simp only [rd_wa]
  have e := g.2.2.2.2.2 k p q
  have c : k = 3 ∨ k = 4 ∨ k = 5 ∨ k = 6 ∨ k = 7 := by omega
  unfold mk_M at *
  rcases c with c | c | c | c | c <;> subst c <;> simp at e ⊢ <;> exact e
