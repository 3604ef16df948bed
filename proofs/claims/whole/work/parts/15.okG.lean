/-! calls on the written text, Object's constructor, copies, returns -/
def i_tcall (j n : Nat) (sg : List Nat) (rt : Nat) : am_I := fun C _ k ls st h => tk_ n [] st fun as r => bl_ (te_ as sg) (bl_ (Nat.ble (ct_ r) 8) (s1_ as fun t a _ => tg_ t 6 (bl_ (decide (a = 0)) (bd_ (C j as h) fun h v => k ls (bif Nat.beq rt 9 then r else (rt, v) :: r) h))))
theorem lm_tcall (j n : Nat) (sg : List Nat) (rt : Nat) : lm_ (i_tcall j n sg rt) := fun _ _ _ _ _ _ hC _ hK _ _ _ => ch_tk (fun _ _ => ch_bl (ch_bl (ch_s1 fun _ _ _ => ch_tg (ch_bl (ch_bd (hC _ _ _) fun _ _ => hK _ _ _))))) _ _ _
section Rest
variable {mt : Nat → am_S} {own : String} {FR LO nL : Nat} {ini : Bool} {ret : Option FieldType} {rt : Nat} {lpc : Nat → Nat} {pc : Nat}
theorem ok_tcall {j n idx rt2 : Nat} {sg : List Nat} {y : MethodName} {bytes : ByteArray} {maxL fr lo : Nat} {rty : Option FieldType} (hmt : mt j = (y, bytes, maxL, rty, sg, rt2, fr, lo))
    (hyc : y.cls = "java/lang/String") (hlink : Cond.methodLink own idx y ∈ am_big) (hinst : Cond.instanceMethod y ∈ am_big) (hsel : Cond.selects "java/lang/String" y y ∈ am_big) (hini : Cond.initialized "java/lang/String" ∈ am_big) (hcode : Cond.code y bytes maxL rty ∈ am_big)
    (hd2 : y.cls ≠ "java/lang/invoke/MethodHandle" ∧ y.cls ≠ "java/lang/invoke/VarHandle" ∧ (parseMethodDescriptor y.desc).map (fun d => d.parameters.length) = some n) (hR : fr + 1 ≤ FR ∧ 8 + (maxL + 11) + lo ≤ LO) : ok_ mt own FR LO nL ini ret rt lpc pc (.invokevirtual idx) 3 (i_tcall j (n + 1) sg rt2) := by
  intro p l e R s m args below meth c G cc h0 r C J K X hd hC hJ hK L st h hr
  obtain ⟨xs, u, rfl, hlen, hr1⟩ := tk_s hr
  rw [List.append_nil] at hr1
  obtain ⟨hte, hr2⟩ := bl_s hr1
  obtain ⟨hct, hr3⟩ := bl_s hr2
  obtain ⟨as, has⟩ : ∃ as, as = xs.reverse := ⟨_, rfl⟩
  have hxs : xs = as.reverse := by rw [has, List.reverse_reverse]
  rw [← has] at hte hr3
  obtain ⟨t0, a, as1, hae, hr4⟩ := s1_s hr3
  obtain ⟨ht6, hr5⟩ := tg_s hr4
  obtain ⟨ha, hr5b⟩ := bl_s hr5
  have ha := of_decide_eq_true ha
  subst ha
  subst ht6
  obtain ⟨r1, hc1, hr6⟩ := bd_s hr5b
  obtain ⟨hm, hw⟩ := hK _ _ _ hr6
  have hcs := hC j as h r1 hc1 (by rw [hmt]; exact hte)
  refine ⟨⟨Int.le_trans hcs.1.1 hm.1, Int.le_trans hcs.1.2.1 hm.2.1, fun b g1 g2 => ?_⟩, fun ls H locs hl hH hS hvL hvS h1 h2 => ?_⟩
  · rw [hm.2.2 b g1 (by have := hcs.1.1; omega), hcs.1.2.2 b g1 g2]
  have hoa : ∀ v ∈ as, ov_ h.2.2 v := fun v hv => hvS v (List.mem_append_left _ (by rw [hxs]; exact List.mem_reverse.mpr hv))
  have hou : ∀ v ∈ u, ov_ h.2.2 v := fun v hv => hvS v (List.mem_append_right _ hv)
  have hM := hcs.2 hoa
  rw [hmt] at hM
  have h8 := X.2.2.2.2.2.1.2.1
  have hge : GoodIn am_big (ms_ (y, bytes, maxL, rty, sg, rt2, fr, lo)) := ms_good _ hcode
  have hRe := X.2.2.2.2.2.2.2.1
  have hfix : CallFix p m c cc nL s args am_big own := ⟨X.1, X.2.1, X.2.2.1, X.2.2.2.1, X.2.2.2.2.1⟩
  have hWs : 2 * 0 + ((u.map (cv_ G)).map fun v => v.category).sum ≤ 8 := by rw [ct_sum h8]; have := Nat.le_of_ble_eq_true hct; omega
  have hroom : (nn_ h - nn_ h0).toNat + (nn_ r1.1 - nn_ h).toNat ≤ R.cells ∧ (ss_ h - ss_ h0).toNat + (ss_ r1.1 - ss_ h).toNat ≤ R.slots := by
    rw [hRe]
    have := hcs.1.1; have := hcs.1.2.1; have := hm.1; have := hm.2.1
    exact ⟨by show _ ≤ (nn_ r.1 - nn_ h0).toNat; omega, by show _ ≤ (ss_ r.1 - ss_ h0).toNat; omega⟩
  have hRR : fr + 1 ≤ R.frames ∧ 8 + (maxL + 11) + lo ≤ R.locals := by rw [hRe]; exact hR
  have hpre : ∀ U : State, U.heap = H → s.WarmedH U.vm → pc_ G as h (as.map (cv_ G)).toArray U := fun U hU hWU => ⟨rfl, by rw [hU]; exact ev_on X.2.2.2.2.2.1 hWU (fun q q1 q2 => hS.2.1 q q1 q2), by rw [hU]; exact hH⟩
  have kk : ∀ (H1 : Heap) (locs1 : List Loc), hr_ G H1 r1.1 → va_S (ar_ G) s.heap H1 locs1 → ov_ r1.1.2.2 (rt2, r1.2) → W p l e R s m args below meth c H1 locs1 ((nn_ h - nn_ h0).toNat + (nn_ r1.1 - nn_ h).toNat) ((ss_ h - ss_ h0).toNat + (ss_ r1.1 - ss_ h).toNat) (MQ below (qc_ G rt r) args s (nn_ r.1 - nn_ h0).toNat (ss_ r.1 - ss_ h0).toNat (ar_ G)) (F0 m (pc + 3) ls ((rv_ G rt2 r1.2).toList ++ u.map (cv_ G))) := by
    intro H1 locs1 q1 q2 q3
    have := hcs.1.1; have := hcs.1.2.1
    rw [show (nn_ h - nn_ h0).toNat + (nn_ r1.1 - nn_ h).toNat = (nn_ r1.1 - nn_ h0).toNat by omega, show (ss_ h - ss_ h0).toNat + (ss_ r1.1 - ss_ h).toNat = (ss_ r1.1 - ss_ h0).toNat by omega]
    have up : ∀ v, ov_ h.2.2 v → ov_ r1.1.2.2 v := fun v hv => ov_up hcs.1.1 hcs.1.2.2 hv
    by_cases h9 : rt2 = 9
    · subst h9
      exact hw ls H1 locs1 hl q1 q2 (fun v hv => up v (hvL v hv)) (fun v hv => up v (hou v hv)) (by omega) (by omega)
    · have k2 := hw ls H1 locs1 hl q1 q2 (fun v hv => up v (hvL v hv)) (by rw [beq_no h9]; exact ov_cs q3 (fun v hv => up v (hou v hv))) (by omega) (by omega)
      rw [beq_no h9] at k2
      unfold rv_
      rw [if_neg h9]
      exact k2
  have hst : ((xs ++ u).map (cv_ G)) = (as.map (cv_ G)).reverse ++ u.map (cv_ G) := by rw [List.map_append, hxs, List.map_reverse]
  have hal : as.length = n + 1 := by rw [has, List.length_reverse, hlen]
  obtain ⟨cell, g1, g2, g3, -⟩ := (X.2.2.2.2.2.1.2.2.2.2.2.2.2.2.2.2.1.1).kept (fun q q1 q2 => hS.2.1 q q1 q2)
  have hae2 : as.map (cv_ G) = .ref (G.2.2.2.1 10) :: as1.map (cv_ G) := by rw [hae, List.map_cons]; rfl
  have hst2 : ((xs ++ u).map (cv_ G)) = (as1.map (cv_ G)).reverse ++ .ref (G.2.2.2.1 10) :: u.map (cv_ G) := by rw [hst, hae2, List.reverse_cons, List.append_assoc]; rfl
  have hal1 : (as1.map (cv_ G)).length = n := by
    have := hal
    rw [hae, List.length_cons] at this
    rw [List.length_map]; omega
  rw [hae2] at hpre
  exact w_after (va_runV (C := "java/lang/String") (b := G.2.2.2.1 10) (As := as1.map (cv_ G)) (rest := u.map (cv_ G)) (ws := ms_ (y, bytes, maxL, rty, sg, rt2, fr, lo)) hfix hM (cwV n X.2.2.2.2.1 (good_cs hlink (good_cs hinst (good_cs hsel (good_cs hini hge)))) rfl rfl rfl ⟨hyc, hd2⟩ hRR) ⟨pc_blind G as h, ⟨cell, g1, g2, g3⟩, hpre⟩ rfl hal1 hl.1 hst2 hWs hd hroom) hS kk

theorem ok_oini {idx t0 : Nat} (h10 : 10 ≤ t0) (hlink : Cond.methodLink own idx objectInit ∈ am_big) (hinst : Cond.instanceMethod objectInit ∈ am_big) (hcode : Cond.code objectInit ⟨#[0xb1]⟩ 1 none ∈ am_big) (hR : 1 ≤ FR ∧ 20 ≤ LO) : ok_ mt own FR LO nL ini ret rt lpc pc (.invokespecial idx) 3 (i_oini t0) := by
  intro p l e R s m args below meth c G cc h0 r C J K X hd hC hJ hK L st h hr
  obtain ⟨t1, a, u, rfl, hr1⟩ := s1_s hr
  obtain ⟨rfl, hr2⟩ := tg_s hr1
  obtain ⟨hct, hr3⟩ := bl_s hr2
  obtain ⟨ha, hr4⟩ := ck_s hr3
  obtain ⟨n, rfl⟩ := Int.eq_ofNat_of_zero_le ha
  obtain ⟨hm, hw⟩ := hK _ _ _ hr4
  refine ⟨hm, fun ls H locs hl hH hS hvL hvS h1 h2 => ?_⟩
  rw [List.map_cons, cv_nat h10]
  have hRe := X.2.2.2.2.2.2.2.1
  exact W.objInit X.1 X.2.1 X.2.2.2.1 (X.2.2.2.2.1 _ hlink) (X.2.2.2.2.1 _ hinst) (X.2.2.2.2.1 _ hcode) rfl (by rw [X.2.2.1]; exact hl.1) rfl hd (by rw [hRe]; exact hR.1) (by show 2 * 0 + _ + 12 ≤ _; rw [ct_sum X.2.2.2.2.2.1.2.1, hRe]; have := Nat.le_of_ble_eq_true hct; show _ ≤ LO; omega) (hw ls H locs hl hH hS hvL (ov_tl hvS) h1 h2)
theorem ok_iret (hret : ret = some .int) (hrt : rt = 0) : ok_ mt own FR LO nL ini ret rt lpc pc .ireturn 1 (i_ret 0) := by
  intro p l e R s m args below meth c G cc h0 r C J K X hd hC hJ hK L st h hr
  obtain ⟨t1, v, u, rfl, hr1⟩ := s1_s hr
  obtain ⟨rfl, hr2⟩ := tg_s hr1
  obtain ⟨hb, hr3⟩ := bl_s hr2
  have hu : u = [] := List.isEmpty_iff.mp hb
  subst hu
  cases hr3
  subst hrt
  refine ⟨⟨Int.le_refl _, Int.le_refl _, fun _ _ _ => rfl⟩, fun ls H locs hl hH hS hvL hvS h1 h2 => ?_⟩
  exact W.iret X.1 X.2.1 (X.2.2.2.2.2.2.2.2.2.1.trans hret) (fun t ht _ => ⟨rfl, by rw [ht]; exact hH, hS.F ht, ov_hd hvS⟩) hS.2.2 hd X.2.2.2.2.2.2.2.2.1
theorem ok_lret (hret : ret = some .long) (hrt : rt = 1) : ok_ mt own FR LO nL ini ret rt lpc pc .lreturn 1 (i_ret 1) := by
  intro p l e R s m args below meth c G cc h0 r C J K X hd hC hJ hK L st h hr
  obtain ⟨t1, v, u, rfl, hr1⟩ := s1_s hr
  obtain ⟨rfl, hr2⟩ := tg_s hr1
  obtain ⟨hb, hr3⟩ := bl_s hr2
  have hu : u = [] := List.isEmpty_iff.mp hb
  subst hu
  cases hr3
  subst hrt
  refine ⟨⟨Int.le_refl _, Int.le_refl _, fun _ _ _ => rfl⟩, fun ls H locs hl hH hS hvL hvS h1 h2 => ?_⟩
  exact W.lret X.1 X.2.1 (X.2.2.2.2.2.2.2.2.2.1.trans hret) (fun t ht _ => ⟨rfl, by rw [ht]; exact hH, hS.F ht, ov_hd hvS⟩) hS.2.2 hd X.2.2.2.2.2.2.2.2.1
theorem ok_zret (hret : ret = some .boolean) (hrt : rt = 0) : ok_ mt own FR LO nL ini ret rt lpc pc .ireturn 1 (i_zret) := by
  intro p l e R s m args below meth c G cc h0 r C J K X hd hC hJ hK L st h hr
  obtain ⟨t1, v, u, rfl, hr1⟩ := s1_s hr
  obtain ⟨rfl, hr2⟩ := tg_s hr1
  obtain ⟨hb, hr3⟩ := bl_s hr2
  obtain ⟨h01, hr4⟩ := ck_s hr3
  have hu : u = [] := List.isEmpty_iff.mp hb
  subst hu
  cases hr4
  subst hrt
  refine ⟨⟨Int.le_refl _, Int.le_refl _, fun _ _ _ => rfl⟩, fun ls H locs hl hH hS hvL hvS h1 h2 => ?_⟩
  exact W.zret X.1 X.2.1 (X.2.2.2.2.2.2.2.2.2.1.trans hret) (by rcases h01 with rfl | rfl <;> rfl) (fun t ht _ => ⟨rfl, by rw [ht]; exact hH, hS.F ht, ov_hd hvS⟩) hS.2.2 hd X.2.2.2.2.2.2.2.2.1
def i_cret : am_I := fun _ _ _ _ st h => s1_ st fun t1 v r => tg_ t1 0 (bl_ r.isEmpty (ck_ (0 ≤ v ∧ v < 128) (some (h, v))))
theorem lm_cret : lm_ i_cret := fun _ _ _ _ _ _ _ _ _ _ _ _ => ch_const _
theorem nr_small {v : Int} (h : 0 ≤ v ∧ v < 128) : narrow .char (.int (Int32.ofInt v)) = .int (Int32.ofInt v) ∧ narrow .byte (.int (Int32.ofInt v)) = .int (Int32.ofInt v) := by
  obtain ⟨n, rfl⟩ := Int.eq_ofNat_of_zero_le h.1
  have hall : ∀ n : Nat, n < 128 → narrow .char (.int (Int32.ofInt (n : Int))) = .int (Int32.ofInt (n : Int)) ∧ narrow .byte (.int (Int32.ofInt (n : Int))) = .int (Int32.ofInt (n : Int)) := by decide +kernel
  exact hall n (by omega)
theorem ok_cret (hret : ret = some .char) (hrt : rt = 0) : ok_ mt own FR LO nL ini ret rt lpc pc .ireturn 1 (i_cret) := by
  intro p l e R s m args below meth c G cc h0 r C J K X hd hC hJ hK L st h hr
  obtain ⟨t1, v, u, rfl, hr1⟩ := s1_s hr
  obtain ⟨rfl, hr2⟩ := tg_s hr1
  obtain ⟨hb, hr3⟩ := bl_s hr2
  obtain ⟨h01, hr4⟩ := ck_s hr3
  have hu : u = [] := List.isEmpty_iff.mp hb
  subst hu
  cases hr4
  subst hrt
  refine ⟨⟨Int.le_refl _, Int.le_refl _, fun _ _ _ => rfl⟩, fun ls H locs hl hH hS hvL hvS h1 h2 => ?_⟩
  exact W.zret X.1 X.2.1 (X.2.2.2.2.2.2.2.2.2.1.trans hret) (nr_small h01).1 (fun t ht _ => ⟨rfl, by rw [ht]; exact hH, hS.F ht, ov_hd hvS⟩) hS.2.2 hd X.2.2.2.2.2.2.2.2.1
theorem ok_bret (hret : ret = some .byte) (hrt : rt = 0) : ok_ mt own FR LO nL ini ret rt lpc pc .ireturn 1 (i_cret) := by
  intro p l e R s m args below meth c G cc h0 r C J K X hd hC hJ hK L st h hr
  obtain ⟨t1, v, u, rfl, hr1⟩ := s1_s hr
  obtain ⟨rfl, hr2⟩ := tg_s hr1
  obtain ⟨hb, hr3⟩ := bl_s hr2
  obtain ⟨h01, hr4⟩ := ck_s hr3
  have hu : u = [] := List.isEmpty_iff.mp hb
  subst hu
  cases hr4
  subst hrt
  refine ⟨⟨Int.le_refl _, Int.le_refl _, fun _ _ _ => rfl⟩, fun ls H locs hl hH hS hvL hvS h1 h2 => ?_⟩
  exact W.zret X.1 X.2.1 (X.2.2.2.2.2.2.2.2.2.1.trans hret) (nr_small h01).2 (fun t ht _ => ⟨rfl, by rw [ht]; exact hH, hS.F ht, ov_hd hvS⟩) hS.2.2 hd X.2.2.2.2.2.2.2.2.1
theorem ok_aret {t0 : Nat} {cn : String} (h10 : 10 ≤ t0) (hret : ret = some (.object cn)) (hrt : rt = t0) : ok_ mt own FR LO nL ini ret rt lpc pc .areturn 1 (i_ret t0) := by
  intro p l e R s m args below meth c G cc h0 r C J K X hd hC hJ hK L st h hr
  obtain ⟨t1, v, u, rfl, hr1⟩ := s1_s hr
  obtain ⟨e1, hr2⟩ := tg_s hr1
  obtain ⟨hb, hr3⟩ := bl_s hr2
  have e1 : t1 = t0 := e1
  subst e1
  have hu : u = [] := List.isEmpty_iff.mp hb
  subst hu
  cases hr3
  subst hrt
  refine ⟨⟨Int.le_refl _, Int.le_refl _, fun _ _ _ => rfl⟩, fun ls H locs hl hH hS hvL hvS h1 h2 => ?_⟩
  have h9 : rt ≠ 9 := by omega
  exact W.aret X.1 X.2.1 (X.2.2.2.2.2.2.2.2.2.1.trans hret) (Or.inl ⟨_, rfl⟩) (cv_r (Or.inr h10) v) (fun t ht _ => ⟨by unfold rv_; rw [if_neg h9], by rw [ht]; exact hH, hS.F ht, ov_hd hvS⟩) hS.2.2 hd X.2.2.2.2.2.2.2.2.1
theorem ok_vret (hret : ret = none) (hrt : rt = 9) : ok_ mt own FR LO nL ini ret rt lpc pc .return_ 1 i_vret := by
  intro p l e R s m args below meth c G cc h0 r C J K X hd hC hJ hK L st h hr
  obtain ⟨hb, hr1⟩ := bl_s hr
  have hu : st = [] := List.isEmpty_iff.mp hb
  subst hu
  cases hr1
  subst hrt
  refine ⟨⟨Int.le_refl _, Int.le_refl _, fun _ _ _ => rfl⟩, fun ls H locs hl hH hS hvL hvS h1 h2 => ?_⟩
  exact W.vret X.1 X.2.1 (X.2.2.2.2.2.2.2.2.2.1.trans hret) (fun t ht _ => ⟨rfl, by rw [ht]; exact hH, hS.F ht, trivial⟩) hS.2.2 hd X.2.2.2.2.2.2.2.2.1
theorem os_cp {h : am_H} (hoh : oh_ h) {s d sp dp n : Int} (hs : kd_ h s = 20) (hd : kd_ h d = 20) (hs0 : 0 ≤ s) (hsn : s < nn_ h) : oh_ (cp_ h s sp d dp n) := by
  refine ⟨fun a h1 h2 j => ?_, hoh.2⟩
  have h3 := hoh.1 a h1 h2 j
  by_cases hc : a = d ∧ dp ≤ j ∧ j < dp + n
  · have e : rd_ (cp_ h s sp d dp n) a j = rd_ h s (sp + (j - dp)) := by unfold rd_ cp_; simp [hc]
    have e2 : kd_ (cp_ h s sp d dp n) a = 20 := by rw [hc.1]; exact hd
    rw [e, e2]
    have h4 := hoh.1 s hs0 hsn (sp + (j - dp))
    rw [hs] at h4
    exact h4
  · have e : rd_ (cp_ h s sp d dp n) a j = rd_ h a j := by unfold rd_ cp_; exact if_neg hc
    rw [e]; exact h3
theorem ok_copy {idx : Nat} (hlink : Cond.methodLink own idx arraycopyName ∈ am_big) (hnat : Cond.native arraycopyName ∈ am_big) (hstat : Cond.static arraycopyName ∈ am_big) (hini : Cond.initialized "java/lang/System" ∈ am_big) (hR : 1 ≤ FR ∧ 8 + (nativeFrameWords "java/lang/System" "arraycopy" 5 + 11) ≤ LO) : ok_ mt own FR LO nL ini ret rt lpc pc (.invokestatic idx) 3 i_copy := by
  intro p l e R s m args below meth c G cc h0 r C J K X hd hC hJ hK L st h hr
  obtain ⟨t5, n, u, rfl, hr1⟩ := s1_s hr
  obtain ⟨t4, dp, u, rfl, hr2⟩ := s1_s hr1
  obtain ⟨t3, d, u, rfl, hr3⟩ := s1_s hr2
  obtain ⟨t2, sp, u, rfl, hr4⟩ := s1_s hr3
  obtain ⟨t1, sr, u, rfl, hr5⟩ := s1_s hr4
  obtain ⟨rfl, hr6⟩ := tg_s hr5
  obtain ⟨rfl, hr7⟩ := tg_s hr6
  obtain ⟨rfl, hr8⟩ := tg_s hr7
  obtain ⟨rfl, hr9⟩ := tg_s hr8
  obtain ⟨rfl, hr10⟩ := tg_s hr9
  obtain ⟨hct, hr11⟩ := bl_s hr10
  obtain ⟨hsd, hr12⟩ := ck_s hr11
  obtain ⟨hi, hr13⟩ := ck_s hr12
  obtain ⟨hm, hw⟩ := hK _ _ _ hr13
  refine ⟨hm, fun ls H locs hl hH hS hvL hvS h1 h2 => ?_⟩
  obtain ⟨S, rfl⟩ := Int.eq_ofNat_of_zero_le hsd.1
  obtain ⟨E, rfl⟩ := Int.eq_ofNat_of_zero_le hsd.2
  have hn32 : i32_ n := ov_hd hvS
  have hdp32 : i32_ dp := ov_hd (ov_tl hvS)
  have hsp32 : i32_ sp := ov_hd (ov_tl (ov_tl (ov_tl hvS)))
  obtain ⟨hdn, hdk⟩ := ov_nat (by decide) (ov_hd (ov_tl (ov_tl hvS)))
  have hdk : kd_ h E = 20 := Nat.add_right_cancel (m := 10) hdk
  obtain ⟨hsn, hsk⟩ := ov_nat (by decide) (ov_hd (ov_tl (ov_tl (ov_tl (ov_tl hvS)))))
  have hsk : kd_ h S = 20 := Nat.add_right_cancel (m := 10) hsk
  have hls := ln_ok hH.2.1 hsn hsk (by decide)
  have hld := ln_ok hH.2.1 hdn hdk (by decide)
  have hcs := w_arr hH hsn hsk (by decide) (by decide)
  have hcd := w_arr hH hdn hdk (by decide) (by decide)
  have hou : ∀ v ∈ u, ov_ h.2.2 v := ov_tl (ov_tl (ov_tl (ov_tl (ov_tl hvS))))
  have hRe := X.2.2.2.2.2.2.2.1
  have hsum : ((u.map (cv_ G)).map fun v => v.category).sum ≤ 8 := by
    rw [ct_sum X.2.2.2.2.2.1.2.1]
    have := Nat.le_of_ble_eq_true hct
    match u, this with
    | [], _ => decide
    | [v], _ => show _ + 0 ≤ 8; cases Nat.beq v.1 1 <;> decide
    | [v, w], _ => show _ + (_ + 0) ≤ 8; cases Nat.beq v.1 1 <;> cases Nat.beq w.1 1 <;> decide
    | v :: w :: z :: zs, q => simp at q
  have cn : n.toNat = (Int32.ofInt n).toNatClampNeg := (n32_clamp hn32).symm
  have cs : sp.toNat = (Int32.ofInt sp).toNatClampNeg := (n32_clamp hsp32).symm
  have cd : dp.toNat = (Int32.ofInt dp).toNatClampNeg := (n32_clamp hdp32).symm
  show W p l e R s m args below meth c H locs _ _ _ (F0 m pc ls (.int (Int32.ofInt n) :: .int (Int32.ofInt dp) :: cv_ G (30, (E : Int)) :: .int (Int32.ofInt sp) :: cv_ G (30, (S : Int)) :: u.map (cv_ G)))
  rw [cv_nat (t := 30) (by decide) E, cv_nat (t := 30) (by decide) S]
  intro T hT XT
  obtain ⟨-, k0, hk0, cm0, hkk0⟩ := (X.2.2.2.2.2.1.1.2 0 _ rfl).1 (ln_ h S).toNat (vs_ G h S)
  obtain ⟨-, k1, hk1, cm1, hkk1⟩ := (X.2.2.2.2.2.1.1.2 0 _ rfl).1 (ln_ h E).toNat (vs_ G h E)
  have hlt : E < H.size - G.2.1 := by rw [hH.1]; have : (E : Int) < nn_ h := hdn; omega
  obtain ⟨vm', X', step⟩ := XT.arraycopy X.1 X.2.2.2.1 (X.2.2.2.2.1 _ hlink) (X.2.2.2.2.1 _ hnat) (X.2.2.2.2.1 _ hstat) (X.2.2.2.2.1 _ hini) (src := G.2.1 + S) (dst := G.2.1 + E) (cs := arrV (G.2.2.1 20) (ln_ h S).toNat (vs_ G h S)) (cd := arrV (G.2.2.1 20) (ln_ h E).toNat (vs_ G h E)) (srcPos := Int32.ofInt sp) (destPos := Int32.ofInt dp) (n := Int32.ofInt n) (by rw [hT]; exact hcs) (by rw [hT]; exact hcd)
    (fun _ q => by cases q) (fun _ q => by cases q) (fun q => by cases q) (fun q => by cases q) hk0 hk1 hkk0 hkk1 (by rfl) (fun q => by have := (n32_lt hsp32 i32_0).mp q; omega) (fun q => by have := (n32_lt hdp32 i32_0).mp q; omega) (fun q => by have := (n32_lt hn32 i32_0).mp q; omega)
    (by rw [i32_ti hsp32, i32_ti hn32, arrV_size]; omega)
    (by rw [i32_ti hdp32, i32_ti hn32, arrV_size]; omega)
    (fun vm₁ _ i hi2 => by
      rw [← cn] at hi2
      have e : (arrV (G.2.2.1 20) (ln_ h S).toNat (vs_ G h S)).slots.getD ((Int32.ofInt sp).toNatClampNeg + i) .null = .int (Int32.ofInt (rd_ h S ((sp.toNat + i : Nat) : Int))) := by
        rw [Array.getD_eq_getD_getElem?, ← cs, arrV_read _ _ (by omega)]
        unfold vs_
        rw [hsk]
        rfl
      refine ⟨?_, ?_⟩
      · rw [e]; rfl
      · rw [e]; exact trivial)
    (g := F0 m pc ls (.int (Int32.ofInt n) :: .int (Int32.ofInt dp) :: .ref (G.2.1 + E) :: .int (Int32.ofInt sp) :: .ref (G.2.1 + S) :: u.map (cv_ G))) rfl (by rw [X.2.2.1]; exact hl.1) (rest := u.map (cv_ G)) rfl (by rw [X.2.1]; exact hd) (by rw [hRe]; exact hR.1) (by rw [hRe]; show 2 * 0 + _ + _ ≤ LO; have := hR.2; omega)
  have e1 : copied (arrV (G.2.2.1 20) (ln_ h S).toNat (vs_ G h S)) (arrV (G.2.2.1 20) (ln_ h E).toNat (vs_ G h E)) (Int32.ofInt sp) (Int32.ofInt dp) (Int32.ofInt n) = arrV (G.2.2.1 20) (ln_ h E).toNat (vs_ G (cp_ h S sp E dp n) E) := by
    have q := va_copied (n0 := (ln_ h S).toNat) (n1 := (ln_ h E).toNat) (sp := (Int32.ofInt sp).toNatClampNeg) (dp := (Int32.ofInt dp).toNatClampNeg) (n := (Int32.ofInt n).toNatClampNeg) (fun z : Value => z) (G.2.2.1 20) (G.2.2.1 20) (vs_ G h S) (vs_ G h E) (by rw [← cs, ← cn]; omega)
    refine Eq.trans q ?_
    congr 1
    funext j
    rw [← cs, ← cd, ← cn]
    unfold va_cpy vs_
    rw [show kd_ (cp_ h S sp E dp n) E = 20 from hdk, hdk, hsk]
    by_cases hj : dp.toNat ≤ j ∧ j < dp.toNat + n.toNat
    · rw [if_pos hj]
      have e3 : rd_ (cp_ h S sp E dp n) E j = rd_ h S ((sp.toNat + (j - dp.toNat) : Nat) : Int) := by
        unfold rd_ cp_
        dsimp only
        rw [if_pos ⟨rfl, by omega, by omega⟩, show sp + ((j : Int) - dp) = ((sp.toNat + (j - dp.toNat) : Nat) : Int) by omega]
      rw [e3]
      rfl
    · rw [if_neg hj]
      have e3 : rd_ (cp_ h S sp E dp n) E j = rd_ h E j := by
        unfold rd_ cp_
        dsimp only
        rw [if_neg (fun q => hj ⟨by omega, by omega⟩)]
      rw [e3]
      rfl
  rw [e1] at X' step
  have hheap : ((T.setVm vm').setCell (G.2.1 + E) (arrV (G.2.2.1 20) (ln_ h E).toNat (vs_ G (cp_ h S sp E dp n) E))).heap = H.setIfInBounds (G.2.1 + E) (arrV (G.2.2.1 20) (ln_ h E).toNat (vs_ G (cp_ h S sp E dp n) E)) := by rw [← hT]; rfl
  have oq : ∀ q : Nat, q ≠ G.2.1 + E → (H.setIfInBounds (G.2.1 + E) (arrV (G.2.2.1 20) (ln_ h E).toNat (vs_ G (cp_ h S sp E dp n) E)))[q]? = H[q]? := fun q hq => by simp [Array.getElem?_setIfInBounds, Ne.symm hq]
  have zz : (H.setIfInBounds (G.2.1 + E) (arrV (G.2.2.1 20) (ln_ h E).toNat (vs_ G (cp_ h S sp E dp n) E))).size = H.size := by simp
  have hH1 : hr_ G (H.setIfInBounds (G.2.1 + E) (arrV (G.2.2.1 20) (ln_ h E).toNat (vs_ G (cp_ h S sp E dp n) E))) (cp_ h S sp E dp n) := by
    refine hr_upd hH (n := E) rfl ?_ zz oq ⟨fun hk => ?_, fun _ _ => ?_⟩ (os_cp hH.2.1 hsk hdk (by omega) hsn)
    · intro a ha j
      refine ⟨?_, rfl⟩
      unfold rd_ cp_
      exact if_neg (fun q => ha q.1)
    · rw [show kd_ (cp_ h S sp E dp n) E = 20 from hdk] at hk; omega
    · rw [show kd_ (cp_ h S sp E dp n) E = 20 from hdk, show ln_ (cp_ h S sp E dp n) E = ln_ h E from rfl]
      have hlt2 : G.2.1 + E < H.size := by omega
      simp [Array.getElem?_setIfInBounds, hlt2]
  obtain ⟨t, a1, b1⟩ := hw ls _ _ hl hH1 ⟨by simp; exact hS.1, fun q g1 g2 => by
      rw [oq q (fun z => g2 (by rw [z]; show G.2.1 ≤ _; omega))]
      exact hS.2.1 q g1 g2, fun q hq => by
      rcases List.mem_append.mp hq with z | z
      · exact hS.2.2 q z
      · obtain ⟨z2, -, hz⟩ := List.mem_map.mp z
        rw [← hz]
        show G.2.1 ≤ G.2.1 + E
        omega⟩ hvL hou h1 h2 _ hheap X'
  exact ⟨t, step t a1, b1⟩
end Rest
