/-! the law's pile: its words, its way where nothing is thrown -/
theorem wm_L_7 : Cond.methodLink RL 7 yX11_pile ∈ am_big := bt_6 99 rfl rfl
theorem wh_X11_pile : Cond.instanceMethod yX11_pile ∈ am_big := bt_6 100 rfl rfl
theorem wk_L_13 : Cond.classLink RL 13 "java/lang/IndexOutOfBoundsException" ∈ am_big := bt_6 97 rfl rfl
theorem wk_L_15 : Cond.classLink RL 15 "java/util/NoSuchElementException" ∈ am_big := bt_6 98 rfl rfl
def hhP : List (Nat × Nat × Nat × Nat) := [(0, 10, 13, 13), (0, 10, 17, 15)]
theorem wo_L_pile : Cond.codeWith yL_pile cL_pile 5 (some .int) hhP ∈ am_big := bt_6 96 rfl rfl
theorem wm_L_39 : Cond.methodLink RL 39 yL_pile ∈ am_big := bt_6 94 rfl rfl
theorem ws_L_pile : Cond.static yL_pile ∈ am_big := bt_6 95 rfl rfl
theorem wn_L : Cond.initialized RL ∈ am_big := bt_1 0 rfl rfl
def lpP : Nat → Nat := fun b => ([0, 13, 17, 21] : List Nat).getD b 0
def bP_0 : List am_E := [(0, .aload_n 3, 1, i_load 3 33), (1, .iconst 0, 1, i_push 0 0), (2, .aload_n 0, 1, i_load 0 21), (3, .iload_n 1, 1, i_load 1 0), (4, .iload_n 2, 1, i_load 2 0), (5, .invokevirtual 7, 3, i_vcall 142 3 [21, 0, 0] 0), (8, .i2l, 1, i_op1 0 1 (fun a => a)), (9, .lastore, 1, i_ast 33 1), (10, .goto 11, 3, i_goto 3)]
theorem dP_0 : dc_ cL_pile bP_0 = true := by decide +kernel
theorem gP_0 : ∀ i ∈ bP_0, go_ mt_ RL 12 130 5 false (some .int) 0 lpP i := fm_ (g_aload_n rfl (by decide)) (fm_ (g_iconst (i32_dec rfl)) (fm_ (g_aload_n rfl (by decide)) (fm_ (g_iload_n rfl) (fm_ (g_iload_n rfl) (fm_ (g_vcall rfl vw_11 rfl rfl wm_L_7 wh_X11_pile wl_X11_pile wn_X11 wo_X11_pile mh_X11_pile (by decide)) (fm_ (g_i2l) (fm_ (g_last) (fm_ (g_goto (by decide)) fn_))))))))
theorem sP_0 : sq_ (lpP 0) bP_0 13 = true := rfl
def bP_3 : List am_E := [(21, .iconst 0, 1, i_push 0 0), (22, .ireturn, 1, i_ret 0)]
theorem dP_3 : dc_ cL_pile bP_3 = true := by decide +kernel
theorem gP_3 : ∀ i ∈ bP_3, go_ mt_ RL 12 130 5 false (some .int) 0 lpP i := fm_ (g_iconst (i32_dec rfl)) (fm_ (g_iret rfl rfl) fn_)
theorem sP_3 : sq_ (lpP 3) bP_3 23 = true := rfl
noncomputable def JP : am_J := fun b L st h => if b = 3 then ex_ CC (fun _ _ _ _ => none) 9999 bP_3 L st h else none
theorem lp_ok {p : Program} {l : Launch} {e : Env} {R : Room} {s : State} {m : MethodId} {args : Array Value} {below : List Frame} {meth : Method} {c : Code} {G : am_G} {h0 : am_H} {r : am_H × Int} (X : cx_ p R s m args meth c G RL cL_pile 12 130 5 false (some .int) h0 r) {L st : List am_V} {h : am_H} (hr : ex_ CC JP 9999 bP_0 L st h = some r) :
    gd_ p l e R s m args below meth c G 0 h0 r 5 0 L st h := by
  refine ok_ex (E := 13) (lpc := lpP) (rt := 0) (mt := mt_) X (cs_CC l G) (fun b L st h hb => ?_) (fun L st h hb => ?_) bP_0 0 dP_0 gP_0 sP_0 L st h hr
  · unfold JP at hb
    by_cases c3 : b = 3
    · rw [if_pos c3] at hb
      subst c3
      exact ok_ex (E := 23) (lpc := lpP) (rt := 0) (mt := mt_) X (cs_CC l G) (fun b L st h hb => by cases hb) (fun L st h hb => by cases hb) bP_3 21 dP_3 gP_3 sP_3 L st h hb
    · rw [if_neg c3] at hb
      cases hb
  · exfalso
    unfold JP at hb
    rw [if_neg (by decide)] at hb
    cases hb
theorem lp_run {h h2 : am_H} {a b w : Int} (e : Pp_pile h 0 a b = some (h2, w)) (hl : 0 < ln_ h2 143) : ex_ CC JP 9999 bP_0 [(21, 0), (0, a), (0, b), (33, 143), (9, 0)] [] h = some (wr_ h2 143 0 w, 0) := by
  show ck_ (0 ≤ (0 : Int)) (bd_ (CC 142 [(21, 0), (0, a), (0, b)] h) fun h1 v => ck_ (0 ≤ (143 : Int)) (ck_ (0 ≤ (0 : Int) ∧ (0 : Int) < ln_ h1 143) (JP 3 [(21, 0), (0, a), (0, b), (33, 143), (9, 0)] [] (wr_ h1 143 0 v)))) = _
  rw [ck_t (by omega), cc_142, e, bd_v, ck_t (by omega), ck_t (by omega)]
  unfold JP
  rw [if_pos rfl]
  rfl
