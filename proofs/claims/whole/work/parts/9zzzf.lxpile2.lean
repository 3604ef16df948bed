/-! what the class's pile throws -/
theorem hr_x {G : am_G} {H H1 : Heap} {h : am_H} (hH : hr_ G H h) (z : H1.size = H.size + 1) (oq : ∀ q : Nat, q < H.size → H1[q]? = H[q]?) : hr_ G H1 (nw_ h 50 6) :=
  hr_nw hH z oq (oh_nw hH.2.1 (fun _ => ⟨by omega, by omega⟩) (by omega)) (fun N e => by
    have k : kd_ (nw_ h 50 6) N = 50 := by rw [← e]; exact kd_nwn h 50 6
    exact ⟨fun q => by rw [k] at q; omega, fun _ q => by rw [k] at q; omega⟩)
theorem dp_0 : decode cX11_pile 0 = .ok (.aload_n 0, 1) := by decide +kernel
theorem dp_1 : decode cX11_pile 1 = .ok (.getfield 43, 3) := by decide +kernel
theorem dp_4 : decode cX11_pile 4 = .ok (.iload_n 1, 1) := by decide +kernel
theorem dp_5 : decode cX11_pile 5 = .ok (.invokevirtual 147, 3) := by decide +kernel
theorem dp_8 : decode cX11_pile 8 = .ok (.ifCond .ne 13, 3) := by decide +kernel
theorem dp_11 : decode cX11_pile 11 = .ok (.new 151, 3) := by decide +kernel
theorem dp_14 : decode cX11_pile (11 + 3) = .ok (.dup, 1) := by decide +kernel
theorem dp_15 : decode cX11_pile (11 + 4) = .ok (.ldc 153, 2) := by decide +kernel
theorem dp_17 : decode cX11_pile (11 + 6) = .ok (.invokespecial 155, 3) := by decide +kernel
theorem dp_20 : decode cX11_pile (11 + 9) = .ok (.athrow, 1) := by decide +kernel
theorem dp_21 : decode cX11_pile 21 = .ok (.iload_n 2, 1) := by decide +kernel
theorem dp_22 : decode cX11_pile 22 = .ok (.tableswitch 97 0 4 #[34, 44, 61, 78, 87], 34) := by decide +kernel
theorem dp_119 : decode cX11_pile 119 = .ok (.new 174, 3) := by decide +kernel
theorem dp_122 : decode cX11_pile (119 + 3) = .ok (.dup, 1) := by decide +kernel
theorem dp_123 : decode cX11_pile (119 + 4) = .ok (.ldc 176, 2) := by decide +kernel
theorem dp_125 : decode cX11_pile (119 + 6) = .ok (.invokespecial 178, 3) := by decide +kernel
theorem dp_128 : decode cX11_pile (119 + 9) = .ok (.athrow, 1) := by decide +kernel
theorem d13_0 : decode prog_29_method_4_code 0 = .ok (.aload_n 0, 1) := by decide +kernel
theorem d13_1 : decode prog_29_method_4_code 1 = .ok (.aload_n 1, 1) := by decide +kernel
theorem d13_2 : decode prog_29_method_4_code 2 = .ok (.invokespecial 13, 3) := by decide +kernel
theorem d13_5 : decode prog_29_method_4_code 5 = .ok (.return_, 1) := by decide +kernel
theorem ov_nat0 {M : am_M} {x : Int} {t : Nat} (h : ov_ M (t + 10, x)) (h0 : 0 ≤ x) : x < M.2.2.1 ∧ M.1 x = t := by
  have h : x = -1 ∨ (0 ≤ x ∧ x < M.2.2.1 ∧ M.1 x = t) := h
  rcases h with z | z
  · omega
  · exact z.2
abbrev plX (G : am_G) (h : am_H) (E : String) : String → State → State → Prop := fun E9 st t => E9 = E ∧ hr_ G t.heap (nw_ h 50 6) ∧ va_F (ar_ G) st t
theorem pl_thr {l : Launch} (hl : l.stackTraces = false) {G : am_G} {z1 z2 : Nat} {h : am_H} {a b v : Int} {E : String} (hp : Wo_hasPile h (rf_ h 0 7) a = some (h, v)) (h7 : 0 ≤ rf_ h 0 7) (o0 : 0 < nn_ h ∧ kd_ h 0 = 11) (oa : i32_ a) (ob : i32_ b)
    (hv : (v = 0 ∧ E = "java/lang/IndexOutOfBoundsException") ∨ (v = 1 ∧ ¬ (0 ≤ b ∧ b ≤ 4) ∧ E = "java/util/NoSuchElementException")) :
    vx_Met l yX11_pile (ms_ sg_142) { frames := 8, cells := 1, slots := 6, locals := 100 } (pwx_ G z1 z2 [(21, 0), (0, a), (0, b)] h) (fun _ _ _ _ => False) (plX G h E) 1 6 (ar_ G) := by
  refine vx_ofW (cc := cX11_pile) (maxL := 3) (ret := some .int) (ws' := am_big) (by decide) rfl ?_
  intro p e s m args below meth c s₁ B hml htab hP
  obtain ⟨hargs, hew, hH⟩ := hP
  have hts := atoms_spec (ws := ms_ sg_142) B.pre
  have hbig : ∀ w ∈ am_big, w.before args s = true := fun w hw => hts w (List.mem_cons_of_mem _ hw)
  have hown : s.vm.findClass RX11 = some m.cls := findClass_of_methodNamed B.named
  have hfix : CallFix p m c cX11_pile 3 s args am_big RX11 := ⟨B.exec, B.bytes, hml, hown, hbig⟩
  have hev := hew.1
  have h8 := hev.2.1
  have hS : va_S (ar_ G) s.heap s.heap [] := va_S.rf
  have e0 : [(21, (0 : Int)), (0, a), (0, b)].map (cv_ G) = [.ref G.2.1, .int (Int32.ofInt a), .int (Int32.ofInt b)] := rfl
  rw [e0] at hargs
  have hle : (lg_sl [Value.ref G.2.1, .int (Int32.ofInt a), .int (Int32.ofInt b)]).length ≤ 3 := Nat.le_refl 3
  have hl3 := lv_entry [Value.ref G.2.1, .int (Int32.ofInt a), .int (Int32.ofInt b)] (n := 3) hle
  rw [hargs]
  rw [lg_entry_eq]
  rw [← hargs]
  generalize (lg_sl [Value.ref G.2.1, .int (Int32.ofInt a), .int (Int32.ofInt b)] ++ List.replicate (3 - (lg_sl [Value.ref G.2.1, .int (Int32.ofInt a), .int (Int32.ofInt b)]).length) Slot.unset).toArray = ls at hl3 ⊢
  have l0 : ls[0]? = some (.val (.ref G.2.1)) := hl3.2.2 (0, .ref G.2.1) (List.mem_cons_self)
  have l1 : ls[1]? = some (.val (.int (Int32.ofInt a))) := hl3.2.2 (1, .int (Int32.ofInt a)) (List.mem_cons_of_mem _ (List.mem_cons_self))
  have l2 : ls[2]? = some (.val (.int (Int32.ofInt b))) := hl3.2.2 (2, .int (Int32.ofInt b)) (List.mem_cons_of_mem _ (List.mem_cons_of_mem _ (List.mem_cons_self)))
  have hls : ls.size = c.maxLocals := hl3.1.trans hml.symm
  refine lv_aload_n B.exec B.bytes dp_0 rfl l0 ?_
  have hfr : G.2.1 ≤ s.heap.size := by rw [hH.1]; omega
  have X : cx_ p { frames := 8, cells := (nn_ (nw_ h 50 6) - nn_ h).toNat, slots := (ss_ (nw_ h 50 6) - ss_ h).toNat, locals := 100 } s m args meth c G RX11 cX11_pile 8 100 3 false (some .int) h (nw_ h 50 6, 0) :=
    ⟨B.exec, B.bytes, hml, hown, hbig, hev, hfr, rfl, B.notSynchronized, B.returns, fun q => by cases q⟩
  have e1 : (nn_ (nw_ h 50 6) - nn_ h).toNat = 1 := by rw [nn_nw]; omega
  have e2 : (ss_ (nw_ h 50 6) - ss_ h).toNat = 6 := by rw [ss_nw]; omega
  rw [e1, e2] at X
  obtain ⟨N, hN⟩ := Int.eq_ofNat_of_zero_le h7
  have hos := hH.2.1.1 0 (by omega) o0.1 7
  rw [o0.2, show sl_ 11 7 = 20 from by decide] at hos
  have hos : ov_ h.2.2 (20, rf_ h 0 7) := hos
  obtain ⟨n1, n2⟩ := ov_nat0 (t := 10) hos h7
  refine w_getf X (n := 0) vw_11 (show 7 < 20 by omega) in_11 wf_X11_43 hH o0.1 o0.2 dp_1 ?_
  have e3 : vs_ G h ((0 : Nat) : Int) 7 = .ref (G.2.1 + N) := by
    unfold vs_
    rw [show kd_ h ((0 : Nat) : Int) = 11 from o0.2, show sl_ 11 ((7 : Nat) : Int) = 20 from by decide]
    show cv_ G (20, rf_ h 0 7) = _
    rw [hN]
    exact cv_nat (by decide) N
  rw [e3]
  refine lv_iload_n B.exec B.bytes dp_4 rfl l1 ?_
  have hM : mm_ l G sg_54 ((10 + 10, (N : Int)) :: [(0, a)]) h (h, v) := by
    refine (cs_CC l G 54 [(20, (N : Int)), (0, a)] h (h, v) ?_ rfl).2 ?_
    · rw [cc_54, ← hN]
      exact hp
    · intro w hw
      simp only [List.mem_cons, List.not_mem_nil, or_false] at hw
      rcases hw with rfl | rfl
      · rw [← hN]; exact hos
      · exact oa
  have y1 : (nn_ (h, v).1 - nn_ h).toNat = 0 := by show (nn_ h - nn_ h).toNat = 0; omega
  have y2 : (ss_ (h, v).1 - ss_ h).toNat = 0 := by show (ss_ h - ss_ h).toNat = 0; omega
  refine w_vc (u := []) (as1 := [(0, a)]) hfix hev vw_10 rfl wm_X11_147 wh_X10_hasPile wl_X10_hasPile wn_X10 wo_X10_hasPile mh_X10_hasPile (by decide) hM (by rw [← hN]; exact n1) (by rw [← hN]; exact n2) rfl (by decide) hH hS (by rw [y1, y2]; exact ⟨Nat.zero_le _, Nat.zero_le _⟩) hl3.1 dp_5 ?_
  intro H1 locs1 hH1 hS1 ov1
  rw [y1, y2]
  have hH1 : hr_ G H1 h := hH1
  have hx : ∀ t : State, s.vm.Alike t.vm → t.heap.size = H1.size + 1 → (∀ q : Nat, q < H1.size → t.heap[q]? = H1[q]?) → plX G h E E s t := fun t _ hz hk => ⟨rfl, hr_x hH1 hz hk, by
    refine ⟨by have := hS1.1; omega, fun q q1 q2 => ?_⟩
    rw [hk q (Nat.lt_of_lt_of_le q1 hS1.1)]
    exact hS1.2.1 q q1 q2⟩
  obtain ⟨-, hU, hNN, hs1, hs2, -, -, -, dR, dE, dT⟩ := hew
  rcases hv with ⟨hv, hE⟩ | ⟨hv, hb, hE⟩
  · subst hv
    refine lv_if_ne B.exec B.bytes dp_8 (tgt := 21) rfl (fun q => absurd rfl q) (fun _ => ?_)
    subst hE
    exact xt_throw (names := ["java/lang/Exception"]) (ix := 7) B.exec B.bytes hl Bundle.six_0 Bundle.six_1 Bundle.six_2 Bundle.six_5 hown (by decide) (by decide) (by decide) hbig (xm_1 dR dE dT) hs1 hU hNN hS1 hls dp_11 dp_14 dp_15 dp_17 dp_20 (fun x hx => (htab x hx).elim) (by decide) (show 82 ≤ 100 by decide) (by decide) (by decide) B.notSynchronized hx hS1.2.2 (Nat.le_refl _) (Nat.le_refl _)
  · subst hv
    refine lv_if_ne B.exec B.bytes dp_8 (tgt := 21) rfl (fun _ => ?_) (fun q => absurd q (show ¬ Int32.ofInt 1 = 0 by decide))
    refine lv_iload_n B.exec B.bytes dp_21 rfl l2 ?_
    refine lv_tableOut B.exec B.bytes dp_22 (tgt := 119) ?_ rfl ?_
    · rw [i32_ti ob]; omega
    subst hE
    exact xt_throw (names := ["java/lang/Exception"]) (ix := 13) B.exec B.bytes hl d13_0 d13_1 d13_2 d13_5 hown (by decide) (by decide) (by decide) hbig (xm_2 dR dE dT) hs2 hU hNN hS1 hls dp_119 dp_122 dp_123 dp_125 dp_128 (fun x hx => (htab x hx).elim) (by decide) (show 82 ≤ 100 by decide) (by decide) (by decide) B.notSynchronized hx hS1.2.2 (Nat.le_refl _) (Nat.le_refl _)
