/-! the law's pile, all of it, and the law's call of it -/
theorem lp_suc {l : Launch} {G : am_G} {z1 z2 : Nat} {h h2 : am_H} {a b w : Int} (e : Pp_pile h 0 a b = some (h2, w)) (hl2 : 0 < ln_ h2 143) (hoa : ∀ v ∈ aP_ a b, ov_ h.2.2 v) :
    vx_Met l yL_pile wsP { frames := 12, cells := (nn_ (wr_ h2 143 0 w) - nn_ h).toNat, slots := (ss_ (wr_ h2 143 0 w) - ss_ h).toNat, locals := 130 } (pwx_ G z1 z2 (aP_ a b) h) (qc_ G 0 (wr_ h2 143 0 w, 0)) (fun _ _ _ => False) (nn_ (wr_ h2 143 0 w) - nn_ h).toNat (ss_ (wr_ h2 143 0 w) - ss_ h).toNat (ar_ G) := by
  refine vx_ofWH (cc := cL_pile) (maxL := 5) (ret := some .int) (hh := hhP) (ws' := am_big) (by decide) rfl ?_
  intro p ev s m args below meth c s₁ B hml hP
  obtain ⟨hargs, hew, hH⟩ := hP
  have hts := atoms_spec (ws := wsP) B.pre
  have hbig : ∀ w ∈ am_big, w.before args s = true := fun w hw => hts w (List.mem_cons_of_mem _ hw)
  have hown : s.vm.findClass RL = some m.cls := findClass_of_methodNamed B.named
  have hev := hew.1
  have h8 := hev.2.1
  have hfr : G.2.1 ≤ s.heap.size := by rw [hH.1]; omega
  have X : cx_ p (headSpec wsP { frames := 12, cells := (nn_ (wr_ h2 143 0 w) - nn_ h).toNat, slots := (ss_ (wr_ h2 143 0 w) - ss_ h).toNat, locals := 130 }).room s m args meth c G RL cL_pile 12 130 5 false (some .int) h (wr_ h2 143 0 w, 0) :=
    ⟨B.exec, B.bytes, hml, hown, hbig, hev, hfr, rfl, B.notSynchronized, B.returns, fun q => by cases q⟩
  obtain ⟨-, g2⟩ := lp_ok (l := l) (e := ev) (below := below) X (lp_run e hl2)
  have hle : (lg_sl ((aP_ a b).map (cv_ G))).length ≤ 5 := Nat.le_succ 4
  have hlv := lv_entry ((aP_ a b).map (cv_ G)) (n := 5) hle
  have k2 := g2 _ s.heap [] (lv_has_sub hlv fun q hq => ?_) hH va_S.rf (en_ov (aP_ a b) 5 hoa) (fun v hv => absurd hv List.not_mem_nil) (Int.le_refl _) (Int.le_refl _)
  · rw [Int.sub_self, Int.sub_self] at k2
    subst hargs
    rw [lg_entry_eq]
    exact vx_ret k2
  · obtain ⟨v, w1, w2, w3⟩ := lv_l_mem.mp hq
    have := en_get h8 (aP_ a b) 5 q.1 0 v w1 w2
    rw [Nat.add_zero, ← w3] at this
    exact this
/-- what an answer of the law's pile tells -/
theorem lp_what {h : am_H} {x a b o : Int} {r1 : am_H × Int} (e : LPL h x a b o = some r1) : x = 0 ∧ o = 143 ∧ 0 ≤ rf_ h 0 7 ∧
    ((∃ v, Wo_hasPile h (rf_ h 0 7) a = some (h, v) ∧ r1.1 = nw_ h 50 6 ∧ ((v = 0 ∧ r1.2 = 1) ∨ (v = 1 ∧ ¬ (0 ≤ b ∧ b ≤ 4) ∧ r1.2 = 2))) ∨ (∃ h2 w, Pp_pile h 0 a b = some (h2, w) ∧ 0 < ln_ h2 143 ∧ r1 = (wr_ h2 143 0 w, 0))) := by
  unfold LPL at e
  obtain ⟨⟨x0, o0⟩, e⟩ := ck_s e
  obtain ⟨h7, e⟩ := ck_s e
  obtain ⟨⟨h1, v⟩, hp, e⟩ := bd_s e
  refine ⟨x0, o0, h7, ?_⟩
  rcases hasPile_h hp with q | q
  · cases q
    have e : some (nw_ h 50 6, (1 : Int)) = some r1 := by
      have e2 := e
      dsimp only at e2
      rw [if_pos rfl] at e2
      exact e2
    cases e
    exact Or.inl ⟨0, hp, rfl, Or.inl ⟨rfl, rfl⟩⟩
  · cases q
    dsimp only at e
    rw [if_neg (by decide)] at e
    by_cases hb : 0 ≤ b ∧ b ≤ 4
    · rw [if_pos hb] at e
      obtain ⟨⟨h2, w⟩, e1, e⟩ := bd_s e
      obtain ⟨hl, e⟩ := ck_s e
      cases e
      exact Or.inr ⟨h2, w, e1, hl, rfl⟩
    · rw [if_neg hb] at e
      cases e
      exact Or.inl ⟨1, hp, rfl, Or.inr ⟨rfl, hb, rfl⟩⟩
theorem lp_grow (l : Launch) (G : am_G) {h : am_H} {x a b o : Int} {r1 : am_H × Int} (e : LPL h x a b o = some r1) : nn_ h ≤ nn_ r1.1 ∧ ss_ h ≤ ss_ r1.1 ∧ ∀ q, 0 ≤ q → q < nn_ h → kd_ r1.1 q = kd_ h q := by
  obtain ⟨-, -, -, ⟨v, -, hr, -⟩ | ⟨h2, w, e1, -, hr⟩⟩ := lp_what e
  · rw [hr]
    exact ⟨by rw [nn_nw]; omega, by rw [ss_nw]; omega, fun q _ q2 => kd_nw (by omega)⟩
  · rw [hr]
    exact (cs_CC l G 142 [(21, 0), (0, a), (0, b)] h (h2, w) (by rw [cc_142]; exact e1) rfl).1
theorem lp_met {l : Launch} (hl : l.stackTraces = false) {G : am_G} {z1 z2 : Nat} {h : am_H} {x a b o : Int} {r1 : am_H × Int} (e : LPL h x a b o = some r1) (hoa : ∀ v ∈ [(21, x), (0, a), (0, b), (33, o)], ov_ h.2.2 v) :
    x = 0 ∧ o = 143 ∧ vx_Met l yL_pile wsP { frames := 12, cells := (nn_ r1.1 - nn_ h).toNat, slots := (ss_ r1.1 - ss_ h).toNat, locals := 130 } (pwx_ G z1 z2 (aP_ a b) h) (qc_ G 0 r1) (fun _ _ _ => False) (nn_ r1.1 - nn_ h).toNat (ss_ r1.1 - ss_ h).toNat (ar_ G) := by
  obtain ⟨x0, o0, h7, hw⟩ := lp_what e
  subst x0; subst o0
  refine ⟨rfl, rfl, ?_⟩
  have oa : i32_ a := hoa (0, a) (List.mem_cons_of_mem _ List.mem_cons_self)
  have ob : i32_ b := hoa (0, b) (List.mem_cons_of_mem _ (List.mem_cons_of_mem _ List.mem_cons_self))
  have o0 : 0 < nn_ h ∧ kd_ h 0 = 11 := ov_nat0 (t := 11) (hoa (21, 0) List.mem_cons_self) (Int.le_refl 0)
  rcases hw with ⟨v, hp, hr, hv⟩ | ⟨h2, w, e1, hl2, hr⟩
  · obtain ⟨r, k⟩ := r1
    have hr : r = nw_ h 50 6 := hr
    subst hr
    have y1 : (nn_ (nw_ h 50 6) - nn_ h).toNat = 1 := by rw [nn_nw]; omega
    have y2 : (ss_ (nw_ h 50 6) - ss_ h).toNat = 6 := by rw [ss_nw]; omega
    dsimp only
    rw [y1, y2]
    rcases hv with ⟨q1, q2⟩ | ⟨q1, q2, q3⟩
    · exact lp_thr (E := "java/lang/IndexOutOfBoundsException") hl hp h7 o0 oa ob (Or.inl ⟨q1, rfl, q2⟩)
    · exact lp_thr (E := "java/util/NoSuchElementException") hl hp h7 o0 oa ob (Or.inr ⟨q1, q2, rfl, q3⟩)
  · subst hr
    exact lp_suc e1 hl2 hoa
theorem L_okP {p : Program} {l : Launch} {e : Env} {R : Room} {s : State} {m : MethodId} {args : Array Value} {below : List Frame} {meth : Method} {c : Code} {G : am_G} {h0 : am_H} {r : am_H × Int} {z1 z2 : Nat} {cc : ByteArray} (hl : l.stackTraces = false) (X : cx_ p R s m args meth c G RL cc 13 542 7 false (some .boolean) h0 r) (hew : ew_ G z1 z2 s s.heap)
    {pc : Nat} {J : am_J} {K : am_K} (hd : decode cc pc = .ok (.invokestatic 39, 3)) (hK : ∀ Ls st h, K Ls st h = some r → gd_ p l e R s m args below meth c G 0 h0 r 7 (pc + 3) Ls st h) : ∀ Ls st h, i_lpl CC J K Ls st h = some r → gd_ p l e R s m args below meth c G 0 h0 r 7 pc Ls st h := by
  intro Ls st h hr
  obtain ⟨t4, o, u4, rfl, hr1⟩ := s1_s hr
  obtain ⟨t3, b, u3, rfl, hr2⟩ := s1_s hr1
  obtain ⟨t2, a, u2, rfl, hr3⟩ := s1_s hr2
  obtain ⟨t1, x, u, rfl, hr4⟩ := s1_s hr3
  obtain ⟨rfl, hr5⟩ := tg_s hr4
  obtain ⟨rfl, hr6⟩ := tg_s hr5
  obtain ⟨rfl, hr7⟩ := tg_s hr6
  obtain ⟨rfl, hr8⟩ := tg_s hr7
  obtain ⟨hct, hr9⟩ := bl_s hr8
  obtain ⟨r1, e1, hr10⟩ := bd_s hr9
  obtain ⟨hm, hw⟩ := hK _ _ _ hr10
  have hg := lp_grow l G e1
  refine ⟨⟨Int.le_trans hg.1 hm.1, Int.le_trans hg.2.1 hm.2.1, fun q g1 g2 => ?_⟩, fun ls H locs hl2 hH hS hvL hvS h1 h2 => ?_⟩
  · rw [hm.2.2 q g1 (by have := hg.1; omega), hg.2.2 q g1 g2]
  have hoa : ∀ v ∈ [(21, x), (0, a), (0, b), (33, o)], ov_ h.2.2 v := fun v hv => by
    simp only [List.mem_cons, List.not_mem_nil, or_false] at hv
    rcases hv with rfl | rfl | rfl | rfl
    · exact ov_hd (ov_tl (ov_tl (ov_tl hvS)))
    · exact ov_hd (ov_tl (ov_tl hvS))
    · exact ov_hd (ov_tl hvS)
    · exact ov_hd hvS
  have hou : ∀ v ∈ u, ov_ h.2.2 v := ov_tl (ov_tl (ov_tl (ov_tl hvS)))
  obtain ⟨x0, o0, hM⟩ := lp_met (G := G) (z1 := z1) (z2 := z2) hl e1 hoa
  subst x0; subst o0
  have hev := X.2.2.2.2.2.1
  have h8 := hev.2.1
  have hbig := X.2.2.2.2.1
  have hge : GoodIn am_big wsP := fun w hw => by
    rcases List.mem_cons.mp hw with rfl | hw
    · exact ⟨wo_L_pile, big_good wo_L_pile⟩
    · exact ⟨hw, big_good hw⟩
  have hRe := X.2.2.2.2.2.2.2.1
  have hfix : CallFix p m c cc 7 s args am_big RL := ⟨X.1, X.2.1, X.2.2.1, X.2.2.2.1, hbig⟩
  have hWs : 2 * 0 + ((u.map (cv_ G)).map fun v => v.category).sum ≤ 8 := by rw [ct_sum h8]; have := Nat.le_of_ble_eq_true hct; omega
  have hroom : (nn_ h - nn_ h0).toNat + (nn_ r1.1 - nn_ h).toNat ≤ R.cells ∧ (ss_ h - ss_ h0).toNat + (ss_ r1.1 - ss_ h).toNat ≤ R.slots := by
    rw [hRe]
    have := hg.1; have := hg.2.1; have := hm.1; have := hm.2.1
    exact ⟨by show _ ≤ (nn_ r.1 - nn_ h0).toNat; omega, by show _ ≤ (ss_ r.1 - ss_ h0).toNat; omega⟩
  have hRR : 12 + 1 ≤ R.frames ∧ 8 + (5 + 11) + 130 ≤ R.locals := by rw [hRe]; exact ⟨by show 13 ≤ 13; omega, by show 154 ≤ 542; omega⟩
  have hpre : ∀ U : State, U.heap = H → s.WarmedH U.vm → pwx_ G z1 z2 (aP_ a b) h ((aP_ a b).map (cv_ G)).toArray U := fun U hU hWU => ⟨rfl, by rw [hU]; exact ew_on hew hWU (fun q q1 q2 => hS.2.1 q q1 q2), by rw [hU]; exact hH⟩
  have kk : ∀ (H1 : Heap) (locs1 : List Loc), hr_ G H1 r1.1 → va_S (ar_ G) s.heap H1 locs1 → ov_ r1.1.2.2 (0, r1.2) → W p l e R s m args below meth c H1 locs1 ((nn_ h - nn_ h0).toNat + (nn_ r1.1 - nn_ h).toNat) ((ss_ h - ss_ h0).toNat + (ss_ r1.1 - ss_ h).toNat) (MQ below (qc_ G 0 r) args s (nn_ r.1 - nn_ h0).toNat (ss_ r.1 - ss_ h0).toNat (ar_ G)) (F0 m (pc + 3) ls ((rv_ G 0 r1.2).toList ++ u.map (cv_ G))) := by
    intro H1 locs1 q1 q2 q3
    have := hg.1; have := hg.2.1
    rw [show (nn_ h - nn_ h0).toNat + (nn_ r1.1 - nn_ h).toNat = (nn_ r1.1 - nn_ h0).toNat by omega, show (ss_ h - ss_ h0).toNat + (ss_ r1.1 - ss_ h).toNat = (ss_ r1.1 - ss_ h0).toNat by omega]
    have up : ∀ v, ov_ h.2.2 v → ov_ r1.1.2.2 v := fun v hv => ov_up hg.1 hg.2.2 hv
    exact hw ls H1 locs1 hl2 q1 q2 (fun v hv => up v (hvL v hv)) (ov_cs q3 (fun v hv => up v (hou v hv))) (by omega) (by omega)
  intro T hT X9
  have hst : (((33, (143 : Int)) :: (0, b) :: (0, a) :: (21, 0) :: u : List am_V).map (cv_ G)) = ((aP_ a b).map (cv_ G)).reverse ++ u.map (cv_ G) := rfl
  rw [hst]
  rcases vx_runSX (hh := hhP) (As := (aP_ a b).map (cv_ G)) (rest := u.map (cv_ G)) (ws := wsP) (g := F0 m pc ls (((aP_ a b).map (cv_ G)).reverse ++ u.map (cv_ G))) hfix hM (vx_cwSW (own := RL) (index := 39) (bytes := cL_pile) (maxL := 5) (ret := some .int) (hh := hhP) (ws' := am_big) 4 hbig (good_cs wm_L_39 (good_cs ws_L_pile (good_cs wn_L hge))) rfl rfl rfl (by decide +kernel) hRR) ⟨pwx_blind G z1 z2 _ h, hpre⟩ rfl rfl hl2.1 rfl hWs hd hroom T hT X9 with ⟨v, st₀, t, T9, L, hh0, X8, hL, e8, e9, ⟨q1, q2, q3, q4⟩, go⟩ | ⟨q, st₀, t, T9, L, E9, ce, -, -, -, -, -, hXC, -⟩
  · cases q1
    obtain ⟨t2, a1, b1⟩ := kk t.heap (locs ++ L) q2 (va_SF hS hh0 q3 hL) q4 T9 e8 X8
    exact ⟨t2, go t2 a1, b1⟩
  · exact hXC.elim
