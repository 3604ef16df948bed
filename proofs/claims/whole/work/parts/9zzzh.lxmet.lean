/-! what the law's pile does, thrown or not -/
abbrev wsP : List Cond := Cond.codeWith yL_pile cL_pile 5 (some .int) hhP :: am_big
theorem dq_0 : decode cL_pile 0 = .ok (.aload_n 3, 1) := by decide +kernel
theorem dq_1 : decode cL_pile 1 = .ok (.iconst 0, 1) := by decide +kernel
theorem dq_2 : decode cL_pile 2 = .ok (.aload_n 0, 1) := by decide +kernel
theorem dq_3 : decode cL_pile 3 = .ok (.iload_n 1, 1) := by decide +kernel
theorem dq_4 : decode cL_pile 4 = .ok (.iload_n 2, 1) := by decide +kernel
theorem dq_5 : decode cL_pile 5 = .ok (.invokevirtual 7, 3) := by decide +kernel
theorem dq_13 : decode cL_pile 13 = .ok (.astore 4, 2) := by decide +kernel
theorem dq_15 : decode cL_pile 15 = .ok (.iconst 1, 1) := by decide +kernel
theorem dq_16 : decode cL_pile 16 = .ok (.ireturn, 1) := by decide +kernel
theorem dq_17 : decode cL_pile 17 = .ok (.astore 4, 2) := by decide +kernel
theorem dq_19 : decode cL_pile 19 = .ok (.iconst 2, 1) := by decide +kernel
theorem dq_20 : decode cL_pile 20 = .ok (.ireturn, 1) := by decide +kernel
def aP_ (a b : Int) : List am_V := [(21, 0), (0, a), (0, b), (33, 143)]
theorem cP_ (G : am_G) (a b : Int) : (aP_ a b).map (cv_ G) = [.ref G.2.1, .int (Int32.ofInt a), .int (Int32.ofInt b), .ref (G.2.1 + 143)] := rfl
theorem lp_thr {l : Launch} (hl : l.stackTraces = false) {G : am_G} {z1 z2 : Nat} {h : am_H} {a b v k : Int} {E : String} (hp : Wo_hasPile h (rf_ h 0 7) a = some (h, v)) (h7 : 0 ≤ rf_ h 0 7) (o0 : 0 < nn_ h ∧ kd_ h 0 = 11) (oa : i32_ a) (ob : i32_ b)
    (hv : (v = 0 ∧ E = "java/lang/IndexOutOfBoundsException" ∧ k = 1) ∨ (v = 1 ∧ ¬ (0 ≤ b ∧ b ≤ 4) ∧ E = "java/util/NoSuchElementException" ∧ k = 2)) :
    vx_Met l yL_pile wsP { frames := 12, cells := 1, slots := 6, locals := 130 } (pwx_ G z1 z2 (aP_ a b) h) (qc_ G 0 (nw_ h 50 6, k)) (fun _ _ _ => False) 1 6 (ar_ G) := by
  refine vx_ofWH (cc := cL_pile) (maxL := 5) (ret := some .int) (hh := hhP) (ws' := am_big) (by decide) rfl ?_
  intro p e s m args below meth c s₁ B hml hP
  obtain ⟨hargs, hew, hH⟩ := hP
  have hts := atoms_spec (ws := wsP) B.pre
  have htab := vx_table (x := yL_pile) B (hts _ List.mem_cons_self)
  have hbig : ∀ w ∈ am_big, w.before args s = true := fun w hw => hts w (List.mem_cons_of_mem _ hw)
  have hown : s.vm.findClass RL = some m.cls := findClass_of_methodNamed B.named
  have hfix : CallFix p m c cL_pile 5 s args am_big RL := ⟨B.exec, B.bytes, hml, hown, hbig⟩
  have hev := hew.1
  have h8 := hev.2.1
  have hS : va_S (ar_ G) s.heap s.heap [] := va_S.rf
  rw [cP_] at hargs
  have hle : (lg_sl [Value.ref G.2.1, .int (Int32.ofInt a), .int (Int32.ofInt b), .ref (G.2.1 + 143)]).length ≤ 5 := Nat.le_succ 4
  have hl3 := lv_entry [Value.ref G.2.1, .int (Int32.ofInt a), .int (Int32.ofInt b), .ref (G.2.1 + 143)] (n := 5) hle
  rw [hargs]
  rw [lg_entry_eq]
  rw [← hargs]
  generalize (lg_sl [Value.ref G.2.1, .int (Int32.ofInt a), .int (Int32.ofInt b), .ref (G.2.1 + 143)] ++ List.replicate (5 - (lg_sl [Value.ref G.2.1, .int (Int32.ofInt a), .int (Int32.ofInt b), .ref (G.2.1 + 143)]).length) Slot.unset).toArray = ls at hl3 ⊢
  have l0 : ls[0]? = some (.val (.ref G.2.1)) := hl3.2.2 (0, .ref G.2.1) (List.mem_cons_self)
  have l1 : ls[1]? = some (.val (.int (Int32.ofInt a))) := hl3.2.2 (1, .int (Int32.ofInt a)) (List.mem_cons_of_mem _ (List.mem_cons_self))
  have l2 : ls[2]? = some (.val (.int (Int32.ofInt b))) := hl3.2.2 (2, .int (Int32.ofInt b)) (List.mem_cons_of_mem _ (List.mem_cons_of_mem _ (List.mem_cons_self)))
  have l3 : ls[3]? = some (.val (.ref (G.2.1 + 143))) := hl3.2.2 (3, .ref (G.2.1 + 143)) (List.mem_cons_of_mem _ (List.mem_cons_of_mem _ (List.mem_cons_of_mem _ (List.mem_cons_self))))
  refine lv_aload_n B.exec B.bytes dq_0 rfl l3 ?_
  refine lv_iconst B.exec B.bytes dq_1 rfl ?_
  refine lv_aload_n B.exec B.bytes dq_2 rfl l0 ?_
  refine lv_iload_n B.exec B.bytes dq_3 rfl l1 ?_
  refine lv_iload_n B.exec B.bytes dq_4 rfl l2 ?_
  have hM : vx_Met l yX11_pile (ms_ sg_142) { frames := 8, cells := 1, slots := 6, locals := 100 } (pwx_ G z1 z2 [(21, 0), (0, a), (0, b)] h) (fun _ _ _ _ => False) (plX G h E) 1 6 (ar_ G) := by
    refine pl_thr hl hp h7 o0 oa ob ?_
    rcases hv with ⟨q1, q2, q3⟩ | ⟨q1, q2, q3, q4⟩
    · exact Or.inl ⟨q1, q2⟩
    · exact Or.inr ⟨q1, q2, q3⟩
  obtain ⟨rr, hr7, cell, g1, g2, g3, -⟩ := (hH.2.2 0 o0.1).1 (by rw [show kd_ h ((0 : Nat) : Int) = 11 from o0.2]; decide)
  rw [show kd_ h ((0 : Nat) : Int) = 11 from o0.2] at g2
  have hcls := (hev.1.1 11 _ vw_11).2
  have hge : GoodIn am_big (ms_ sg_142) := ms_good _ wo_X11_pile
  have e0 : [(21, (0 : Int)), (0, a), (0, b)].map (cv_ G) = [.ref G.2.1, .int (Int32.ofInt a), .int (Int32.ofInt b)] := rfl
  have hpre : ∀ U : State, U.heap = s.heap → s.WarmedH U.vm → pwx_ G z1 z2 [(21, 0), (0, a), (0, b)] h (Value.ref G.2.1 :: [.int (Int32.ofInt a), .int (Int32.ofInt b)]).toArray U := fun U hU hWU => ⟨by rw [e0], by rw [hU]; exact ew_on hew hWU (fun q q1 q2 => hS.2.1 q q1 q2), by rw [hU]; exact hH⟩
  intro T hT X
  rcases vx_runV (C := RX11) (b := G.2.1) (As := [.int (Int32.ofInt a), .int (Int32.ofInt b)]) (rest := [.int 0, .ref (G.2.1 + 143)]) (ws := ms_ sg_142) (g := F0 m 5 ls [.int (Int32.ofInt b), .int (Int32.ofInt a), .ref G.2.1, .int 0, .ref (G.2.1 + 143)]) hfix hM (cwV 2 hbig (good_cs wm_L_7 (good_cs wh_X11_pile (good_cs wl_X11_pile (good_cs wn_X11 hge)))) rfl rfl rfl ⟨rfl, mh_X11_pile⟩ (show 8 + 1 ≤ 12 ∧ 8 + (3 + 11) + 100 ≤ 130 by decide)) ⟨pwx_blind G z1 z2 _ h, ⟨cell, g1, by rw [g3]; rfl, by rw [g2]; exact hcls.1⟩, hpre⟩ rfl rfl hl3.1 rfl (show 2 * 0 + ([Value.int 0, .ref (G.2.1 + 143)].map fun v => v.category).sum ≤ 8 from (show 2 ≤ 8 by decide)) dq_5 (show 0 + 1 ≤ 1 ∧ 0 + 6 ≤ 6 by decide) T hT X with ⟨v9, st₀, t, T9, L, -, -, -, -, -, hq, -⟩ | ⟨q, st₀, t, T9, L, E9, ce, h0, X9, hL, e1, e2, hXC, hce, hcv, hcl, st⟩
  · exact hq.elim
  · obtain ⟨hE9, hHt, hF⟩ := hXC
    subst hE9
    have hq2 : ∀ t9 : State, t9.heap = t.heap → s.WarmedH t9.vm → qc_ G 0 (nw_ h 50 6, k) args s (.returned (some (.int (Int32.ofInt k)))) t9 := fun t9 h9 _ => by
      refine ⟨rfl, by rw [h9]; exact hHt, ?_, ?_⟩
      · obtain ⟨f1, f2⟩ := hF
        rw [h0] at f1 f2
        exact ⟨by rw [h9]; exact f1, fun q q1 q2 => by rw [h9]; exact f2 q q1 q2⟩
      · show i32_ k
        unfold i32_
        rcases hv with ⟨-, -, z⟩ | ⟨-, -, -, z⟩ <;> omega
    have hLL : ∀ z ∈ ([] : List Loc) ++ L, ar_ G z.base := fun z hz => hL z hz
    obtain ⟨-, -, -, -, -, nc, c1, c2, -, -, -⟩ := hew
    have kk : vx_W p l e (headSpec wsP { frames := 12, cells := 1, slots := 6, locals := 130 }).room s m args below meth c t.heap ([] ++ L) (0 + 1) (0 + 6) (vx_MQ below (qc_ G 0 (nw_ h 50 6, k)) (fun _ _ _ => False) args s 1 6 (ar_ G)) (F0 m 5 ls [.int 0, .ref (G.2.1 + 143)]) q := by
      rcases hv with ⟨-, hE, hk⟩ | ⟨-, -, hE, hk⟩
      · subst hE; subst hk
        refine xc_catch (own := RL) (name := "java/lang/IndexOutOfBoundsException") (E := "java/lang/IndexOutOfBoundsException") hown [] ⟨0, 10, 13, 13⟩ [⟨0, 10, 17, 15⟩] htab (fun z hz => nomatch hz) rfl (by decide) (hbig _ wk_L_13) c1 hce hcv hcl ?_
        refine lv_astore B.exec B.bytes dq_13 hl3 (by decide) rfl fun ls9 _ => ?_
        refine lv_iconst B.exec B.bytes dq_15 rfl (vx_ret ?_)
        exact W.iret B.exec B.bytes B.returns hq2 hLL dq_16 B.notSynchronized
      · subst hE; subst hk
        refine xc_catch (own := RL) (name := "java/util/NoSuchElementException") (E := "java/util/NoSuchElementException") hown [⟨0, 10, 13, 13⟩] ⟨0, 10, 17, 15⟩ [] htab (fun z hz => ?_) rfl (by decide) (hbig _ wk_L_15) c2 hce hcv hcl ?_
        · rw [List.mem_singleton] at hz
          subst hz
          exact Or.inr ⟨by decide, "java/lang/IndexOutOfBoundsException", hbig _ wk_L_13, nc⟩
        refine lv_astore B.exec B.bytes dq_17 hl3 (by decide) rfl fun ls9 _ => ?_
        refine lv_iconst B.exec B.bytes dq_19 rfl (vx_ret ?_)
        exact W.iret B.exec B.bytes B.returns hq2 hLL dq_20 B.notSynchronized
    obtain ⟨t2, a1, b1⟩ := kk T9 e1 X9
    exact ⟨t2, st.trans a1, b1⟩
