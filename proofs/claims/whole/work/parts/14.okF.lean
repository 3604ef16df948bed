/-! CALLS, RETURNS, COPIES -/
theorem ev_vm {G : am_G} {U U' : State} {H : Heap} (h : ev_ G U H) (hv : U.vm = U'.vm) : ev_ G U' H := by
  have hal : U.vm.Alike U'.vm := by rw [hv]; exact Vm.Alike.refl _
  obtain ⟨a1, a2, a3, a4, a5, a6, a7, a8, a9, b1, ⟨c1, c2, c3, c4⟩, b3, b4⟩ := h
  exact ⟨va_K.moved hal a1, a2, va_Z.moved hal a3, va_T.moved hal a4, va_Z.moved hal a5, va_T.moved hal a6, fun w hw => by
      have := a7 w hw
      simp only [nw_l, List.mem_cons, List.not_mem_nil, or_false] at hw
      rcases hw with rfl | rfl
      · exact va_tabs rfl hv this
      · exact va_tabs rfl hv this, fun q hq => va_tabs rfl hv (a8 q hq), va_AO.moved hal a9, vk_R.same hv.symm b1, ⟨va_O.moved hal c1, va_OF.moved hal c2, va_OF.moved hal c3, va_T.moved hal c4⟩, va_Z.moved hal b3, va_Z.moved hal b4⟩
theorem ev_on {G : am_G} {s U : State} {H : Heap} (h : ev_ G s s.heap) (hW : s.WarmedH U.vm) (hq : ∀ a : Nat, a < s.heap.size → ¬ ar_ G a → H[a]? = s.heap[a]?) : ev_ G U H := by
  have hal : s.vm.Alike U.vm := hW.alike
  obtain ⟨a1, a2, a3, a4, a5, a6, a7, a8, a9, b1, ⟨c1, c2, c3, c4⟩, b3, b4⟩ := h
  exact ⟨va_K.moved hal a1, a2, (va_Z.moved hal a3).kept hq, (va_T.moved hal a4).kept hq, (va_Z.moved hal a5).kept hq, (va_T.moved hal a6).kept hq, fun w hw => by
      have := a7 w hw
      simp only [nw_l, List.mem_cons, List.not_mem_nil, or_false] at hw
      rcases hw with rfl | rfl
      · exact va_Nw.warmF hW this
      · exact va_Nw.warmF hW this, fun q hq => va_Nw.warmM hW (a8 q hq), va_AO.moved hal a9, vk_R.warm hW b1, ⟨(va_O.moved hal c1).kept hq, (va_OF.moved hal c2).kept hq, (va_OF.moved hal c3).kept hq, (va_T.moved hal c4).kept hq⟩, (va_Z.moved hal b3).kept hq, (va_Z.moved hal b4).kept hq⟩
theorem pc_blind (G : am_G) (as : List am_V) (h : am_H) : FrameBlind (pc_ G as h) := fun a U g mk q => ⟨q.1, ev_vm (U := U) q.2.1 rfl, q.2.2⟩
theorem tk_s {r : am_H × Int} : ∀ {n : Nat} {acc st : List am_V} {f : List am_V → List am_V → am_O}, tk_ n acc st f = some r → ∃ xs u, st = xs ++ u ∧ xs.length = n ∧ f (xs.reverse ++ acc) u = some r := by
  intro n
  induction n with
  | zero => intro acc st f h; exact ⟨[], st, rfl, rfl, h⟩
  | succ n ih =>
    intro acc st f h
    cases st with
    | nil => cases h
    | cons v st =>
      obtain ⟨xs, u, h1, h2, h3⟩ := ih h
      refine ⟨v :: xs, u, by rw [h1]; rfl, by rw [List.length_cons, h2], ?_⟩
      rw [List.reverse_cons, List.append_assoc]
      exact h3
theorem ct_sum {G : am_G} (h8 : G.2.2.2.2.category = 1) : ∀ u : List am_V, ((u.map (cv_ G)).map fun v => v.category).sum = ct_ u := by
  intro u
  induction u with
  | nil => rfl
  | cons v u ih =>
    rw [List.map_cons, List.map_cons, List.sum_cons, ih, show ct_ (v :: u) = (bif Nat.beq v.1 1 then 2 else 1) + ct_ u from rfl]
    congr 1
    by_cases h : v.1 = 1
    · rw [show v = (v.1, v.2) from rfl, h]; rfl
    · rw [show cv_ G v = cv_ G (v.1, v.2) from rfl, cat_1 h (fun _ => h8), beq_no h]; rfl
theorem ov_up {h h' : am_H} (h1 : nn_ h ≤ nn_ h') (h2 : ∀ a, 0 ≤ a → a < nn_ h → kd_ h' a = kd_ h a) {v : am_V} (hv : ov_ h.2.2 v) : ov_ h'.2.2 v := by
  obtain ⟨t, x⟩ := v
  match t, hv with
  | 0, hv => exact hv
  | 1, hv => exact hv
  | 2, _ => trivial
  | 3, _ => trivial
  | 4, _ => trivial
  | 5, _ => trivial
  | 6, _ => trivial
  | 7, _ => trivial
  | 8, _ => trivial
  | 9, _ => trivial
  | t + 10, hv =>
    have hv : x = -1 ∨ (0 ≤ x ∧ x < nn_ h ∧ kd_ h x = t) := hv
    show x = -1 ∨ (0 ≤ x ∧ x < nn_ h' ∧ kd_ h' x = t)
    rcases hv with z | ⟨z1, z2, z3⟩
    · exact Or.inl z
    · exact Or.inr ⟨z1, by omega, by rw [h2 x z1 z2]; exact z3⟩
theorem va_SF {G : am_G} {s st t : State} {H : Heap} {locs L : List Loc} (hS : va_S (ar_ G) s.heap H locs) (h0 : st.heap = H) (hF : va_F (ar_ G) st t) (hL : ∀ q ∈ L, ar_ G q.base) : va_S (ar_ G) s.heap t.heap (locs ++ L) := by
  obtain ⟨f1, f2⟩ := hF
  rw [h0] at f1 f2
  refine ⟨Nat.le_trans hS.1 f1, fun q q1 q2 => ?_, fun q hq => ?_⟩
  · rw [f2 q (Nat.lt_of_lt_of_le q1 hS.1) q2]
    exact hS.2.1 q q1 q2
  · rcases List.mem_append.mp hq with z | z
    · exact hS.2.2 q z
    · exact hL q z
section Calls2
variable {p : Program} {l : Launch} {e : Env} {R : Room} {s : State} {m : MethodId} {args : Array Value} {below : List Frame} {meth : Method} {c : Code} {H : Heap} {locs : List Loc} {cells slots mc ms : Nat} {Q : State → Prop} {G : am_G}
/-- what goes on behind a call -/
theorem w_after {pc rt : Nat} {ls : Array Slot} {st0 rest : List Value} {a : Array Value} {r1 : am_H × Int} (hr : va_Run p l e R s m args below meth c H locs cells slots mc ms (F0 m pc ls st0) rest (qc_ G rt r1 a) (ar_ G)) (hS : va_S (ar_ G) s.heap H locs)
    (kk : ∀ (H1 : Heap) (locs1 : List Loc), hr_ G H1 r1.1 → va_S (ar_ G) s.heap H1 locs1 → ov_ r1.1.2.2 (rt, r1.2) → W p l e R s m args below meth c H1 locs1 (cells + mc) (slots + ms) Q (F0 m (pc + 3) ls ((rv_ G rt r1.2).toList ++ rest))) : W p l e R s m args below meth c H locs cells slots Q (F0 m pc ls st0) := by
  intro T hT X
  obtain ⟨v, st₀, t, T', L, h0, X', hL, e1, e2, ⟨q1, q2, q3, q4⟩, go⟩ := hr T hT X
  cases q1
  obtain ⟨t2, a1, b1⟩ := kk t.heap (locs ++ L) q2 (va_SF hS h0 q3 hL) q4 T' e1 X'
  exact ⟨t2, go t2 a1, b1⟩
end Calls2
theorem ms_good (M : am_S) (h : Cond.code M.1 M.2.1 M.2.2.1 M.2.2.2.1 ∈ am_big) : GoodIn am_big (ms_ M) := fun w hw => by
  rcases List.mem_cons.mp hw with rfl | hw
  · exact ⟨h, big_good h⟩
  · exact ⟨hw, big_good hw⟩
theorem good_cs {w : Cond} {ws : List Cond} (h : w ∈ am_big) (hg : GoodIn am_big ws) : GoodIn am_big (w :: ws) := fun z hz => by
  rcases List.mem_cons.mp hz with rfl | hz
  · exact ⟨h, big_good h⟩
  · exact hg z hz
section CallOps
variable {mt : Nat → am_S} {own : String} {FR LO nL : Nat} {ini : Bool} {ret : Option FieldType} {rt : Nat} {lpc : Nat → Nat} {pc : Nat}
theorem ok_scall {j n idx rt2 : Nat} {sg : List Nat} {y : MethodName} {bytes : ByteArray} {maxL fr lo : Nat} {rty : Option FieldType} (hmt : mt j = (y, bytes, maxL, rty, sg, rt2, fr, lo))
    (hlink : Cond.methodLink own idx y ∈ am_big) (hstat : Cond.static y ∈ am_big) (hini : Cond.initialized y.cls ∈ am_big) (hcode : Cond.code y bytes maxL rty ∈ am_big)
    (hd2 : y.cls ≠ "java/lang/invoke/MethodHandle" ∧ y.cls ≠ "java/lang/invoke/VarHandle" ∧ (parseMethodDescriptor y.desc).map (fun d => d.parameters.length) = some n) (hR : fr + 1 ≤ FR ∧ 8 + (maxL + 11) + lo ≤ LO) : ok_ mt own FR LO nL ini ret rt lpc pc (.invokestatic idx) 3 (i_call j n sg rt2) := by
  intro p l e R s m args below meth c G cc h0 r C J K X hd hC hJ hK L st h hr
  obtain ⟨xs, u, rfl, hlen, hr1⟩ := tk_s hr
  rw [List.append_nil] at hr1
  obtain ⟨hte, hr2⟩ := bl_s hr1
  obtain ⟨hct, hr3⟩ := bl_s hr2
  obtain ⟨as, has⟩ : ∃ as, as = xs.reverse := ⟨_, rfl⟩
  have hxs : xs = as.reverse := by rw [has, List.reverse_reverse]
  rw [← has] at hte hr3
  obtain ⟨r1, hc1, hr6⟩ := bd_s hr3
  obtain ⟨hm, hw⟩ := hK _ _ _ hr6
  have hcs := hC j as h r1 hc1 (by rw [hmt]; exact hte)
  refine ⟨⟨Int.le_trans hcs.1.1 hm.1, Int.le_trans hcs.1.2.1 hm.2.1, fun b g1 g2 => ?_⟩, fun ls H locs hl hH hS hvL hvS h1 h2 => ?_⟩
  · rw [hm.2.2 b g1 (by have := hcs.1.1; omega), hcs.1.2.2 b g1 g2]
  have hoa : ∀ v ∈ as, ov_ h.2.2 v := fun v hv => hvS v (List.mem_append_left _ (by rw [hxs]; exact List.mem_reverse.mpr hv))
  have hou : ∀ v ∈ u, ov_ h.2.2 v := fun v hv => hvS v (List.mem_append_right _ hv)
  have hM := hcs.2 hoa
  rw [hmt] at hM
  have h8 := X.2.2.2.2.2.1.2.1
  have hge : GoodIn am_big (ms_ (y, bytes, maxL, rty, sg, rt2, fr, lo)) := ms_good _ hcode
  have hRe := X.2.2.2.2.2.2.2.1
  have hfix : CallFix p m c cc nL s args am_big own := ⟨X.1, X.2.1, X.2.2.1, X.2.2.2.1, X.2.2.2.2.1⟩
  have hWs : 2 * 0 + ((u.map (cv_ G)).map fun v => v.category).sum ≤ 8 := by rw [ct_sum h8]; have := Nat.le_of_ble_eq_true hct; omega
  have hroom : (nn_ h - nn_ h0).toNat + (nn_ r1.1 - nn_ h).toNat ≤ R.cells ∧ (ss_ h - ss_ h0).toNat + (ss_ r1.1 - ss_ h).toNat ≤ R.slots := by
    rw [hRe]
    have := hcs.1.1; have := hcs.1.2.1; have := hm.1; have := hm.2.1
    exact ⟨by show _ ≤ (nn_ r.1 - nn_ h0).toNat; omega, by show _ ≤ (ss_ r.1 - ss_ h0).toNat; omega⟩
  have hRR : fr + 1 ≤ R.frames ∧ 8 + (maxL + 11) + lo ≤ R.locals := by rw [hRe]; exact hR
  have hpre : ∀ U : State, U.heap = H → s.WarmedH U.vm → pc_ G as h (as.map (cv_ G)).toArray U := fun U hU hWU => ⟨rfl, by rw [hU]; exact ev_on X.2.2.2.2.2.1 hWU (fun q q1 q2 => hS.2.1 q q1 q2), by rw [hU]; exact hH⟩
  have kk : ∀ (H1 : Heap) (locs1 : List Loc), hr_ G H1 r1.1 → va_S (ar_ G) s.heap H1 locs1 → ov_ r1.1.2.2 (rt2, r1.2) → W p l e R s m args below meth c H1 locs1 ((nn_ h - nn_ h0).toNat + (nn_ r1.1 - nn_ h).toNat) ((ss_ h - ss_ h0).toNat + (ss_ r1.1 - ss_ h).toNat) (MQ below (qc_ G rt r) args s (nn_ r.1 - nn_ h0).toNat (ss_ r.1 - ss_ h0).toNat (ar_ G)) (F0 m (pc + 3) ls ((rv_ G rt2 r1.2).toList ++ u.map (cv_ G))) := by
    intro H1 locs1 q1 q2 q3
    have := hcs.1.1; have := hcs.1.2.1
    rw [show (nn_ h - nn_ h0).toNat + (nn_ r1.1 - nn_ h).toNat = (nn_ r1.1 - nn_ h0).toNat by omega, show (ss_ h - ss_ h0).toNat + (ss_ r1.1 - ss_ h).toNat = (ss_ r1.1 - ss_ h0).toNat by omega]
    have up : ∀ v, ov_ h.2.2 v → ov_ r1.1.2.2 v := fun v hv => ov_up hcs.1.1 hcs.1.2.2 hv
    by_cases h9 : rt2 = 9
    · subst h9
      exact hw ls H1 locs1 hl q1 q2 (fun v hv => up v (hvL v hv)) (fun v hv => up v (hou v hv)) (by omega) (by omega)
    · have k2 := hw ls H1 locs1 hl q1 q2 (fun v hv => up v (hvL v hv)) (by rw [beq_no h9]; exact ov_cs q3 (fun v hv => up v (hou v hv))) (by omega) (by omega)
      rw [beq_no h9] at k2
      unfold rv_
      rw [if_neg h9]
      exact k2
  have hst : ((xs ++ u).map (cv_ G)) = (as.map (cv_ G)).reverse ++ u.map (cv_ G) := by rw [List.map_append, hxs, List.map_reverse]
  have hal : as.length = n := by rw [has, List.length_reverse, hlen]
  exact w_after (va_runS (As := as.map (cv_ G)) (rest := u.map (cv_ G)) (ws := ms_ (y, bytes, maxL, rty, sg, rt2, fr, lo)) hfix hM (va_cwS n X.2.2.2.2.1 (good_cs hlink (good_cs hstat (good_cs hini hge))) rfl rfl rfl hd2 hRR) ⟨pc_blind G as h, hpre⟩ rfl (by rw [List.length_map]; exact hal) hl.1 hst hWs hd hroom) hS kk
theorem ok_scallN {j n idx rt2 : Nat} {sg : List Nat} {y : MethodName} {bytes : ByteArray} {maxL fr lo : Nat} {rty : Option FieldType} (hmt : mt j = (y, bytes, maxL, rty, sg, rt2, fr, lo))
    (hlink : (own, idx, y) ∈ nm_l) (hstat : Cond.static y ∈ am_big) (hini : Cond.initialized y.cls ∈ am_big) (hcode : Cond.code y bytes maxL rty ∈ am_big)
    (hd2 : y.cls ≠ "java/lang/invoke/MethodHandle" ∧ y.cls ≠ "java/lang/invoke/VarHandle" ∧ (parseMethodDescriptor y.desc).map (fun d => d.parameters.length) = some n) (hR : fr + 1 ≤ FR ∧ 8 + (maxL + 11) + lo ≤ LO) : ok_ mt own FR LO nL ini ret rt lpc pc (.invokestatic idx) 3 (i_call j n sg rt2) := by
  intro p l e R s m args below meth c G cc h0 r C J K X hd hC hJ hK L st h hr
  obtain ⟨xs, u, rfl, hlen, hr1⟩ := tk_s hr
  rw [List.append_nil] at hr1
  obtain ⟨hte, hr2⟩ := bl_s hr1
  obtain ⟨hct, hr3⟩ := bl_s hr2
  obtain ⟨as, has⟩ : ∃ as, as = xs.reverse := ⟨_, rfl⟩
  have hxs : xs = as.reverse := by rw [has, List.reverse_reverse]
  rw [← has] at hte hr3
  obtain ⟨r1, hc1, hr6⟩ := bd_s hr3
  obtain ⟨hm, hw⟩ := hK _ _ _ hr6
  have hcs := hC j as h r1 hc1 (by rw [hmt]; exact hte)
  refine ⟨⟨Int.le_trans hcs.1.1 hm.1, Int.le_trans hcs.1.2.1 hm.2.1, fun b g1 g2 => ?_⟩, fun ls H locs hl hH hS hvL hvS h1 h2 => ?_⟩
  · rw [hm.2.2 b g1 (by have := hcs.1.1; omega), hcs.1.2.2 b g1 g2]
  have hoa : ∀ v ∈ as, ov_ h.2.2 v := fun v hv => hvS v (List.mem_append_left _ (by rw [hxs]; exact List.mem_reverse.mpr hv))
  have hou : ∀ v ∈ u, ov_ h.2.2 v := fun v hv => hvS v (List.mem_append_right _ hv)
  have hM := hcs.2 hoa
  rw [hmt] at hM
  have h8 := X.2.2.2.2.2.1.2.1
  have hge : GoodIn am_big (ms_ (y, bytes, maxL, rty, sg, rt2, fr, lo)) := ms_good _ hcode
  have hRe := X.2.2.2.2.2.2.2.1
  have hfix : CallFix p m c cc nL s args am_big own := ⟨X.1, X.2.1, X.2.2.1, X.2.2.2.1, X.2.2.2.2.1⟩
  have hWs : 2 * 0 + ((u.map (cv_ G)).map fun v => v.category).sum ≤ 8 := by rw [ct_sum h8]; have := Nat.le_of_ble_eq_true hct; omega
  have hroom : (nn_ h - nn_ h0).toNat + (nn_ r1.1 - nn_ h).toNat ≤ R.cells ∧ (ss_ h - ss_ h0).toNat + (ss_ r1.1 - ss_ h).toNat ≤ R.slots := by
    rw [hRe]
    have := hcs.1.1; have := hcs.1.2.1; have := hm.1; have := hm.2.1
    exact ⟨by show _ ≤ (nn_ r.1 - nn_ h0).toNat; omega, by show _ ≤ (ss_ r.1 - ss_ h0).toNat; omega⟩
  have hRR : fr + 1 ≤ R.frames ∧ 8 + (maxL + 11) + lo ≤ R.locals := by rw [hRe]; exact hR
  have hpre : ∀ U : State, U.heap = H → s.WarmedH U.vm → pc_ G as h (as.map (cv_ G)).toArray U := fun U hU hWU => ⟨rfl, by rw [hU]; exact ev_on X.2.2.2.2.2.1 hWU (fun q q1 q2 => hS.2.1 q q1 q2), by rw [hU]; exact hH⟩
  have kk : ∀ (H1 : Heap) (locs1 : List Loc), hr_ G H1 r1.1 → va_S (ar_ G) s.heap H1 locs1 → ov_ r1.1.2.2 (rt2, r1.2) → W p l e R s m args below meth c H1 locs1 ((nn_ h - nn_ h0).toNat + (nn_ r1.1 - nn_ h).toNat) ((ss_ h - ss_ h0).toNat + (ss_ r1.1 - ss_ h).toNat) (MQ below (qc_ G rt r) args s (nn_ r.1 - nn_ h0).toNat (ss_ r.1 - ss_ h0).toNat (ar_ G)) (F0 m (pc + 3) ls ((rv_ G rt2 r1.2).toList ++ u.map (cv_ G))) := by
    intro H1 locs1 q1 q2 q3
    have := hcs.1.1; have := hcs.1.2.1
    rw [show (nn_ h - nn_ h0).toNat + (nn_ r1.1 - nn_ h).toNat = (nn_ r1.1 - nn_ h0).toNat by omega, show (ss_ h - ss_ h0).toNat + (ss_ r1.1 - ss_ h).toNat = (ss_ r1.1 - ss_ h0).toNat by omega]
    have up : ∀ v, ov_ h.2.2 v → ov_ r1.1.2.2 v := fun v hv => ov_up hcs.1.1 hcs.1.2.2 hv
    by_cases h9 : rt2 = 9
    · subst h9
      exact hw ls H1 locs1 hl q1 q2 (fun v hv => up v (hvL v hv)) (fun v hv => up v (hou v hv)) (by omega) (by omega)
    · have k2 := hw ls H1 locs1 hl q1 q2 (fun v hv => up v (hvL v hv)) (by rw [beq_no h9]; exact ov_cs q3 (fun v hv => up v (hou v hv))) (by omega) (by omega)
      rw [beq_no h9] at k2
      unfold rv_
      rw [if_neg h9]
      exact k2
  have hst : ((xs ++ u).map (cv_ G)) = (as.map (cv_ G)).reverse ++ u.map (cv_ G) := by rw [List.map_append, hxs, List.map_reverse]
  have hal : as.length = n := by rw [has, List.length_reverse, hlen]
  exact w_after (va_runSN (As := as.map (cv_ G)) (rest := u.map (cv_ G)) (ws := ms_ (y, bytes, maxL, rty, sg, rt2, fr, lo)) (host := "PlatePiles") hfix hM ⟨va_cnB n X.2.2.2.2.1 hge rfl rfl rfl (X.2.2.2.2.2.1.2.2.2.2.2.2.2.1 _ hlink) (X.2.2.2.2.1 _ hini) hd2 hRR, X.2.2.2.2.1 _ hstat, trivial⟩ ⟨pc_blind G as h, hpre⟩ rfl (by rw [List.length_map]; exact hal) hl.1 hst hWs hd hroom) hS kk
theorem ok_vcall {j n idx rt2 : Nat} {sg : List Nat} {y : MethodName} {bytes : ByteArray} {maxL fr lo : Nat} {rty : Option FieldType} {ci N1 : Nat} {C1 : String} {T1 : u_T} {sg1 : List Nat} (hmt : mt j = (y, bytes, maxL, rty, sg, rt2, fr, lo))
    (hcc : vwCl[ci]? = some (C1, T1, N1)) (hsg : sg = (ci + 10) :: sg1) (hyc : y.cls = C1) (hlink : Cond.methodLink own idx y ∈ am_big) (hinst : Cond.instanceMethod y ∈ am_big) (hsel : Cond.selects C1 y y ∈ am_big) (hini : Cond.initialized C1 ∈ am_big) (hcode : Cond.code y bytes maxL rty ∈ am_big)
    (hd2 : y.cls ≠ "java/lang/invoke/MethodHandle" ∧ y.cls ≠ "java/lang/invoke/VarHandle" ∧ (parseMethodDescriptor y.desc).map (fun d => d.parameters.length) = some n) (hR : fr + 1 ≤ FR ∧ 8 + (maxL + 11) + lo ≤ LO) : ok_ mt own FR LO nL ini ret rt lpc pc (.invokevirtual idx) 3 (i_vcall j (n + 1) sg rt2) := by
  intro p l e R s m args below meth c G cc h0 r C J K X hd hC hJ hK L st h hr
  obtain ⟨xs, u, rfl, hlen, hr1⟩ := tk_s hr
  rw [List.append_nil] at hr1
  obtain ⟨hte, hr2⟩ := bl_s hr1
  obtain ⟨hct, hr3⟩ := bl_s hr2
  obtain ⟨as, has⟩ : ∃ as, as = xs.reverse := ⟨_, rfl⟩
  have hxs : xs = as.reverse := by rw [has, List.reverse_reverse]
  rw [← has] at hte hr3
  obtain ⟨t0, a, as1, hae, hr4⟩ := s1_s hr3
  obtain ⟨ha, hr5⟩ := ck_s hr4
  obtain ⟨r1, hc1, hr6⟩ := bd_s hr5
  obtain ⟨hm, hw⟩ := hK _ _ _ hr6
  have hcs := hC j as h r1 hc1 (by rw [hmt]; exact hte)
  refine ⟨⟨Int.le_trans hcs.1.1 hm.1, Int.le_trans hcs.1.2.1 hm.2.1, fun b g1 g2 => ?_⟩, fun ls H locs hl hH hS hvL hvS h1 h2 => ?_⟩
  · rw [hm.2.2 b g1 (by have := hcs.1.1; omega), hcs.1.2.2 b g1 g2]
  have hoa : ∀ v ∈ as, ov_ h.2.2 v := fun v hv => hvS v (List.mem_append_left _ (by rw [hxs]; exact List.mem_reverse.mpr hv))
  have hou : ∀ v ∈ u, ov_ h.2.2 v := fun v hv => hvS v (List.mem_append_right _ hv)
  have hM := hcs.2 hoa
  rw [hmt] at hM
  have h8 := X.2.2.2.2.2.1.2.1
  have hge : GoodIn am_big (ms_ (y, bytes, maxL, rty, sg, rt2, fr, lo)) := ms_good _ hcode
  have hRe := X.2.2.2.2.2.2.2.1
  have hfix : CallFix p m c cc nL s args am_big own := ⟨X.1, X.2.1, X.2.2.1, X.2.2.2.1, X.2.2.2.2.1⟩
  have hWs : 2 * 0 + ((u.map (cv_ G)).map fun v => v.category).sum ≤ 8 := by rw [ct_sum h8]; have := Nat.le_of_ble_eq_true hct; omega
  have hroom : (nn_ h - nn_ h0).toNat + (nn_ r1.1 - nn_ h).toNat ≤ R.cells ∧ (ss_ h - ss_ h0).toNat + (ss_ r1.1 - ss_ h).toNat ≤ R.slots := by
    rw [hRe]
    have := hcs.1.1; have := hcs.1.2.1; have := hm.1; have := hm.2.1
    exact ⟨by show _ ≤ (nn_ r.1 - nn_ h0).toNat; omega, by show _ ≤ (ss_ r.1 - ss_ h0).toNat; omega⟩
  have hRR : fr + 1 ≤ R.frames ∧ 8 + (maxL + 11) + lo ≤ R.locals := by rw [hRe]; exact hR
  have hpre : ∀ U : State, U.heap = H → s.WarmedH U.vm → pc_ G as h (as.map (cv_ G)).toArray U := fun U hU hWU => ⟨rfl, by rw [hU]; exact ev_on X.2.2.2.2.2.1 hWU (fun q q1 q2 => hS.2.1 q q1 q2), by rw [hU]; exact hH⟩
  have kk : ∀ (H1 : Heap) (locs1 : List Loc), hr_ G H1 r1.1 → va_S (ar_ G) s.heap H1 locs1 → ov_ r1.1.2.2 (rt2, r1.2) → W p l e R s m args below meth c H1 locs1 ((nn_ h - nn_ h0).toNat + (nn_ r1.1 - nn_ h).toNat) ((ss_ h - ss_ h0).toNat + (ss_ r1.1 - ss_ h).toNat) (MQ below (qc_ G rt r) args s (nn_ r.1 - nn_ h0).toNat (ss_ r.1 - ss_ h0).toNat (ar_ G)) (F0 m (pc + 3) ls ((rv_ G rt2 r1.2).toList ++ u.map (cv_ G))) := by
    intro H1 locs1 q1 q2 q3
    have := hcs.1.1; have := hcs.1.2.1
    rw [show (nn_ h - nn_ h0).toNat + (nn_ r1.1 - nn_ h).toNat = (nn_ r1.1 - nn_ h0).toNat by omega, show (ss_ h - ss_ h0).toNat + (ss_ r1.1 - ss_ h).toNat = (ss_ r1.1 - ss_ h0).toNat by omega]
    have up : ∀ v, ov_ h.2.2 v → ov_ r1.1.2.2 v := fun v hv => ov_up hcs.1.1 hcs.1.2.2 hv
    by_cases h9 : rt2 = 9
    · subst h9
      exact hw ls H1 locs1 hl q1 q2 (fun v hv => up v (hvL v hv)) (fun v hv => up v (hou v hv)) (by omega) (by omega)
    · have k2 := hw ls H1 locs1 hl q1 q2 (fun v hv => up v (hvL v hv)) (by rw [beq_no h9]; exact ov_cs q3 (fun v hv => up v (hou v hv))) (by omega) (by omega)
      rw [beq_no h9] at k2
      unfold rv_
      rw [if_neg h9]
      exact k2
  have hst : ((xs ++ u).map (cv_ G)) = (as.map (cv_ G)).reverse ++ u.map (cv_ G) := by rw [List.map_append, hxs, List.map_reverse]
  have hal : as.length = n + 1 := by rw [has, List.length_reverse, hlen]
  have ht0 : t0 = ci + 10 := by
    rw [hae, hsg] at hte
    have := (Bool.and_eq_true_iff.mp hte).1
    exact Nat.eq_of_beq_eq_true this
  subst ht0
  obtain ⟨N, rfl⟩ := Int.eq_ofNat_of_zero_le ha
  have h10 : 10 ≤ ci + 10 := by omega
  obtain ⟨hn, hkd⟩ := ov_nat h10 (hoa (ci + 10, (N : Int)) (by rw [hae]; exact List.mem_cons_self))
  have hkd : kd_ h N = ci := Nat.add_right_cancel hkd
  obtain ⟨rr, hr7, cell, g1, g2, g3, -⟩ := (hH.2.2 N hn).1 (by rw [hkd]; exact vw_lt hcc)
  rw [hkd] at g2
  have hcls := (X.2.2.2.2.2.1.1.1 ci _ hcc).2
  have hae2 : as.map (cv_ G) = .ref (G.2.1 + N) :: as1.map (cv_ G) := by rw [hae, List.map_cons, cv_nat h10]
  have hst2 : ((xs ++ u).map (cv_ G)) = (as1.map (cv_ G)).reverse ++ .ref (G.2.1 + N) :: u.map (cv_ G) := by rw [hst, hae2, List.reverse_cons, List.append_assoc]; rfl
  have hal1 : (as1.map (cv_ G)).length = n := by
    have := hal
    rw [hae, List.length_cons] at this
    rw [List.length_map]; omega
  rw [hae2] at hpre
  exact w_after (va_runV (C := C1) (b := G.2.1 + N) (As := as1.map (cv_ G)) (rest := u.map (cv_ G)) (ws := ms_ (y, bytes, maxL, rty, sg, rt2, fr, lo)) hfix hM (cwV n X.2.2.2.2.1 (good_cs hlink (good_cs hinst (good_cs hsel (good_cs hini hge)))) rfl rfl rfl ⟨hyc, hd2⟩ hRR) ⟨pc_blind G as h, ⟨cell, g1, by rw [g3]; rfl, by rw [g2]; exact hcls.1⟩, hpre⟩ rfl hal1 hl.1 hst2 hWs hd hroom) hS kk
theorem ok_icall {j n idx rt2 : Nat} {sg : List Nat} {y : MethodName} {bytes : ByteArray} {maxL fr lo : Nat} {ci N1 : Nat} {C1 : String} {T1 : u_T} {sg1 : List Nat} (hmt : mt j = (y, bytes, maxL, none, sg, rt2, fr, lo))
    (hcc : vwCl[ci]? = some (C1, T1, N1)) (hsg : sg = (ci + 10) :: sg1) (hyn : y.name = "<init>") (hlink : Cond.methodLink own idx y ∈ am_big) (hinst : Cond.instanceMethod y ∈ am_big) (hini : Cond.initialized y.cls ∈ am_big) (hcode : Cond.code y bytes maxL none ∈ am_big)
    (hd2 : y.cls ≠ "java/lang/invoke/MethodHandle" ∧ y.cls ≠ "java/lang/invoke/VarHandle" ∧ (parseMethodDescriptor y.desc).map (fun d => d.parameters.length) = some n) (hR : fr + 1 ≤ FR ∧ 8 + (maxL + 11) + lo ≤ LO) : ok_ mt own FR LO nL ini ret rt lpc pc (.invokespecial idx) 3 (i_vcall j (n + 1) sg rt2) := by
  intro p l e R s m args below meth c G cc h0 r C J K X hd hC hJ hK L st h hr
  obtain ⟨xs, u, rfl, hlen, hr1⟩ := tk_s hr
  rw [List.append_nil] at hr1
  obtain ⟨hte, hr2⟩ := bl_s hr1
  obtain ⟨hct, hr3⟩ := bl_s hr2
  obtain ⟨as, has⟩ : ∃ as, as = xs.reverse := ⟨_, rfl⟩
  have hxs : xs = as.reverse := by rw [has, List.reverse_reverse]
  rw [← has] at hte hr3
  obtain ⟨t0, a, as1, hae, hr4⟩ := s1_s hr3
  obtain ⟨ha, hr5⟩ := ck_s hr4
  obtain ⟨r1, hc1, hr6⟩ := bd_s hr5
  obtain ⟨hm, hw⟩ := hK _ _ _ hr6
  have hcs := hC j as h r1 hc1 (by rw [hmt]; exact hte)
  refine ⟨⟨Int.le_trans hcs.1.1 hm.1, Int.le_trans hcs.1.2.1 hm.2.1, fun b g1 g2 => ?_⟩, fun ls H locs hl hH hS hvL hvS h1 h2 => ?_⟩
  · rw [hm.2.2 b g1 (by have := hcs.1.1; omega), hcs.1.2.2 b g1 g2]
  have hoa : ∀ v ∈ as, ov_ h.2.2 v := fun v hv => hvS v (List.mem_append_left _ (by rw [hxs]; exact List.mem_reverse.mpr hv))
  have hou : ∀ v ∈ u, ov_ h.2.2 v := fun v hv => hvS v (List.mem_append_right _ hv)
  have hM := hcs.2 hoa
  rw [hmt] at hM
  have h8 := X.2.2.2.2.2.1.2.1
  have hge : GoodIn am_big (ms_ (y, bytes, maxL, none, sg, rt2, fr, lo)) := ms_good _ hcode
  have hRe := X.2.2.2.2.2.2.2.1
  have hfix : CallFix p m c cc nL s args am_big own := ⟨X.1, X.2.1, X.2.2.1, X.2.2.2.1, X.2.2.2.2.1⟩
  have hWs : 2 * 0 + ((u.map (cv_ G)).map fun v => v.category).sum ≤ 8 := by rw [ct_sum h8]; have := Nat.le_of_ble_eq_true hct; omega
  have hroom : (nn_ h - nn_ h0).toNat + (nn_ r1.1 - nn_ h).toNat ≤ R.cells ∧ (ss_ h - ss_ h0).toNat + (ss_ r1.1 - ss_ h).toNat ≤ R.slots := by
    rw [hRe]
    have := hcs.1.1; have := hcs.1.2.1; have := hm.1; have := hm.2.1
    exact ⟨by show _ ≤ (nn_ r.1 - nn_ h0).toNat; omega, by show _ ≤ (ss_ r.1 - ss_ h0).toNat; omega⟩
  have hRR : fr + 1 ≤ R.frames ∧ 8 + (maxL + 11) + lo ≤ R.locals := by rw [hRe]; exact hR
  have hpre : ∀ U : State, U.heap = H → s.WarmedH U.vm → pc_ G as h (as.map (cv_ G)).toArray U := fun U hU hWU => ⟨rfl, by rw [hU]; exact ev_on X.2.2.2.2.2.1 hWU (fun q q1 q2 => hS.2.1 q q1 q2), by rw [hU]; exact hH⟩
  have kk : ∀ (H1 : Heap) (locs1 : List Loc), hr_ G H1 r1.1 → va_S (ar_ G) s.heap H1 locs1 → ov_ r1.1.2.2 (rt2, r1.2) → W p l e R s m args below meth c H1 locs1 ((nn_ h - nn_ h0).toNat + (nn_ r1.1 - nn_ h).toNat) ((ss_ h - ss_ h0).toNat + (ss_ r1.1 - ss_ h).toNat) (MQ below (qc_ G rt r) args s (nn_ r.1 - nn_ h0).toNat (ss_ r.1 - ss_ h0).toNat (ar_ G)) (F0 m (pc + 3) ls ((rv_ G rt2 r1.2).toList ++ u.map (cv_ G))) := by
    intro H1 locs1 q1 q2 q3
    have := hcs.1.1; have := hcs.1.2.1
    rw [show (nn_ h - nn_ h0).toNat + (nn_ r1.1 - nn_ h).toNat = (nn_ r1.1 - nn_ h0).toNat by omega, show (ss_ h - ss_ h0).toNat + (ss_ r1.1 - ss_ h).toNat = (ss_ r1.1 - ss_ h0).toNat by omega]
    have up : ∀ v, ov_ h.2.2 v → ov_ r1.1.2.2 v := fun v hv => ov_up hcs.1.1 hcs.1.2.2 hv
    by_cases h9 : rt2 = 9
    · subst h9
      exact hw ls H1 locs1 hl q1 q2 (fun v hv => up v (hvL v hv)) (fun v hv => up v (hou v hv)) (by omega) (by omega)
    · have k2 := hw ls H1 locs1 hl q1 q2 (fun v hv => up v (hvL v hv)) (by rw [beq_no h9]; exact ov_cs q3 (fun v hv => up v (hou v hv))) (by omega) (by omega)
      rw [beq_no h9] at k2
      unfold rv_
      rw [if_neg h9]
      exact k2
  have hst : ((xs ++ u).map (cv_ G)) = (as.map (cv_ G)).reverse ++ u.map (cv_ G) := by rw [List.map_append, hxs, List.map_reverse]
  have hal : as.length = n + 1 := by rw [has, List.length_reverse, hlen]
  have ht0 : t0 = ci + 10 := by
    rw [hae, hsg] at hte
    have := (Bool.and_eq_true_iff.mp hte).1
    exact Nat.eq_of_beq_eq_true this
  subst ht0
  obtain ⟨N, rfl⟩ := Int.eq_ofNat_of_zero_le ha
  have h10 : 10 ≤ ci + 10 := by omega
  obtain ⟨hn, hkd⟩ := ov_nat h10 (hoa (ci + 10, (N : Int)) (by rw [hae]; exact List.mem_cons_self))
  have hkd : kd_ h N = ci := Nat.add_right_cancel hkd
  obtain ⟨rr, hr7, cell, g1, g2, g3, -⟩ := (hH.2.2 N hn).1 (by rw [hkd]; exact vw_lt hcc)
  rw [hkd] at g2
  have hcls := (X.2.2.2.2.2.1.1.1 ci _ hcc).2
  have hae2 : as.map (cv_ G) = .ref (G.2.1 + N) :: as1.map (cv_ G) := by rw [hae, List.map_cons, cv_nat h10]
  have hst2 : ((xs ++ u).map (cv_ G)) = (as1.map (cv_ G)).reverse ++ .ref (G.2.1 + N) :: u.map (cv_ G) := by rw [hst, hae2, List.reverse_cons, List.append_assoc]; rfl
  have hal1 : (as1.map (cv_ G)).length = n := by
    have := hal
    rw [hae, List.length_cons] at this
    rw [List.length_map]; omega
  rw [hae2] at hpre
  exact w_after (va_runI (b := G.2.1 + N) (As := as1.map (cv_ G)) (rest := u.map (cv_ G)) (ws := ms_ (y, bytes, maxL, none, sg, rt2, fr, lo)) hfix hM (cwI n X.2.2.2.2.1 hge rfl rfl rfl (X.2.2.2.2.1 _ hini) (X.2.2.2.2.1 _ hlink) (X.2.2.2.2.1 _ hinst) hyn hd2 hRR) ⟨pc_blind G as h, hpre⟩ rfl hal1 hl.1 hst2 hWs hd hroom) hS kk
end CallOps
