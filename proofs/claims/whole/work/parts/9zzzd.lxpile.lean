/-! the class's pile where it throws -/
/-- the surroundings, with what a throw reads -/
def ew_ (G : am_G) (z1 z2 : Nat) (U : State) (H : Heap) : Prop := ev_ G U H ∧ vx_Zq Bundle.tN "UNASSIGNED_STACK" Bundle.steD (ar_ G) U H ∧ vx_Zq Bundle.tN "SUPPRESSED_SENTINEL" Bundle.listD (ar_ G) U H ∧ vk_R "PlatePiles" 153 "no such pile" z1 U ∧ vk_R "PlatePiles" 176 "no such what" z2 U ∧
  va_Nc "java/util/NoSuchElementException" "java/lang/IndexOutOfBoundsException" U ∧ va_Nw (.castable "java/lang/IndexOutOfBoundsException" "java/lang/IndexOutOfBoundsException") U ∧ va_Nw (.castable "java/util/NoSuchElementException" "java/util/NoSuchElementException") U ∧ va_Nw (.declares (Bundle.initS "java/lang/RuntimeException")) U ∧ va_Nw (.declares (Bundle.initS "java/lang/Exception")) U ∧ va_Nw (.declares (Bundle.initS Bundle.tN)) U
theorem nw_declW {y : MethodName} {s U : State} (hW : s.WarmedH U.vm) (hZ : va_Nw (.declares y) s) : va_Nw (.declares y) U := va_tabs rfl (rfl : (s.setVm U.vm).vm = U.vm) (by rw [Cond.declares_setVm hW.alike]; exact hZ)
theorem ew_vm {G : am_G} {z1 z2 : Nat} {U U' : State} {H : Heap} (h : ew_ G z1 z2 U H) (hv : U.vm = U'.vm) : ew_ G z1 z2 U' H := by
  have hal : U.vm.Alike U'.vm := by rw [hv]; exact Vm.Alike.refl _
  obtain ⟨a1, a2, a3, a4, a5, a6, a7, a8, a9, b1, b2⟩ := h
  exact ⟨ev_vm a1 hv, vx_Zq.moved hal a2, vx_Zq.moved hal a3, vk_R.same hv.symm a4, vk_R.same hv.symm a5, va_Nc.moved hal a6, va_tabs rfl hv a7, va_tabs rfl hv a8, va_tabs rfl hv a9, va_tabs rfl hv b1, va_tabs rfl hv b2⟩
theorem ew_on {G : am_G} {z1 z2 : Nat} {s U : State} {H : Heap} (h : ew_ G z1 z2 s s.heap) (hW : s.WarmedH U.vm) (hq : ∀ a : Nat, a < s.heap.size → ¬ ar_ G a → H[a]? = s.heap[a]?) : ew_ G z1 z2 U H := by
  have hal : s.vm.Alike U.vm := hW.alike
  obtain ⟨a1, a2, a3, a4, a5, a6, a7, a8, a9, b1, b2⟩ := h
  exact ⟨ev_on a1 hW hq, vx_Zq.moved hal (a2.kept hq), vx_Zq.moved hal (a3.kept hq), vk_R.warm hW a4, vk_R.warm hW a5, va_Nc.moved hal a6, va_Nw.warmC hW a7, va_Nw.warmC hW a8, nw_declW hW a9, nw_declW hW b1, nw_declW hW b2⟩
abbrev pwx_ (G : am_G) (z1 z2 : Nat) (as : List am_V) (h : am_H) : Array Value → State → Prop := va_Pc (as.map (cv_ G)) (fun U => ew_ G z1 z2 U U.heap ∧ hr_ G U.heap h)
theorem pwx_blind (G : am_G) (z1 z2 : Nat) (as : List am_V) (h : am_H) : FrameBlind (pwx_ G z1 z2 as h) := fun a U g mk q => ⟨q.1, ew_vm (U := U) q.2.1 rfl, q.2.2⟩
section WV
variable {p : Program} {l : Launch} {e : Env} {R : Room} {s : State} {m : MethodId} {args : Array Value} {below : List Frame} {meth : Method} {c : Code} {H : Heap} {locs : List Loc} {cells slots : Nat} {Q : State → Prop} {G : am_G} {h : am_H}
/-- a call of a method of an object, for any end -/
theorem w_vc {idx n ci N1 fr lo rt2 maxL nL : Nat} {sg : List Nat} {y : MethodName} {bytes cc : ByteArray} {rty : Option FieldType} {C1 own : String} {T1 : u_T}
    (hfix : CallFix p m c cc nL s args am_big own) (hev : ev_ G s s.heap) (hcc : vwCl[ci]? = some (C1, T1, N1)) (hyc : y.cls = C1) (hlink : Cond.methodLink own idx y ∈ am_big) (hinst : Cond.instanceMethod y ∈ am_big) (hsel : Cond.selects C1 y y ∈ am_big) (hini : Cond.initialized C1 ∈ am_big) (hcode : Cond.code y bytes maxL rty ∈ am_big)
    (hd2 : y.cls ≠ "java/lang/invoke/MethodHandle" ∧ y.cls ≠ "java/lang/invoke/VarHandle" ∧ (parseMethodDescriptor y.desc).map (fun d => d.parameters.length) = some n) (hR : fr + 1 ≤ R.frames ∧ 8 + (maxL + 11) + lo ≤ R.locals)
    {as1 u : List am_V} {N : Nat} {r1 : am_H × Int} (hM : mm_ l G (y, bytes, maxL, rty, sg, rt2, fr, lo) ((ci + 10, (N : Int)) :: as1) h r1) (hn : (N : Int) < nn_ h) (hkd : kd_ h N = ci) (hal : as1.length = n) (hct : ct_ u ≤ 8)
    (hH : hr_ G H h) (hS : va_S (ar_ G) s.heap H locs) (hroom : cells + (nn_ r1.1 - nn_ h).toNat ≤ R.cells ∧ slots + (ss_ r1.1 - ss_ h).toNat ≤ R.slots) {pc : Nat} {ls : Array Slot} (hsz : ls.size = nL) (hd : decode cc pc = .ok (.invokevirtual idx, 3))
    (kk : ∀ (H1 : Heap) (locs1 : List Loc), hr_ G H1 r1.1 → va_S (ar_ G) s.heap H1 locs1 → ov_ r1.1.2.2 (rt2, r1.2) → W p l e R s m args below meth c H1 locs1 (cells + (nn_ r1.1 - nn_ h).toNat) (slots + (ss_ r1.1 - ss_ h).toNat) Q (F0 m (pc + 3) ls ((rv_ G rt2 r1.2).toList ++ u.map (cv_ G)))) :
    W p l e R s m args below meth c H locs cells slots Q (F0 m pc ls ((as1.map (cv_ G)).reverse ++ .ref (G.2.1 + N) :: u.map (cv_ G))) := by
  have h8 := hev.2.1
  have h10 : 10 ≤ ci + 10 := by omega
  obtain ⟨rr, hr7, cell, g1, g2, g3, -⟩ := (hH.2.2 N hn).1 (by rw [hkd]; exact vw_lt hcc)
  rw [hkd] at g2
  have hcls := (hev.1.1 ci _ hcc).2
  have hge : GoodIn am_big (ms_ (y, bytes, maxL, rty, sg, rt2, fr, lo)) := ms_good _ hcode
  have hWs : 2 * 0 + ((u.map (cv_ G)).map fun v => v.category).sum ≤ 8 := by rw [ct_sum h8]; omega
  have hpre : ∀ U : State, U.heap = H → s.WarmedH U.vm → pc_ G ((ci + 10, (N : Int)) :: as1) h (Value.ref (G.2.1 + N) :: as1.map (cv_ G)).toArray U := fun U hU hWU => ⟨by rw [List.map_cons, cv_nat h10], by rw [hU]; exact ev_on hev hWU (fun q q1 q2 => hS.2.1 q q1 q2), by rw [hU]; exact hH⟩
  exact w_after (va_runV (C := C1) (b := G.2.1 + N) (As := as1.map (cv_ G)) (rest := u.map (cv_ G)) (ws := ms_ (y, bytes, maxL, rty, sg, rt2, fr, lo)) hfix hM (cwV n hfix.2.2.2.2 (good_cs hlink (good_cs hinst (good_cs hsel (good_cs hini hge)))) rfl rfl rfl ⟨hyc, hd2⟩ hR) ⟨pc_blind G _ h, ⟨cell, g1, by rw [g3]; rfl, by rw [g2]; exact hcls.1⟩, hpre⟩ rfl (by rw [List.length_map]; exact hal) hsz rfl hWs hd hroom) hS kk
end WV
theorem hasPile_h {h : am_H} {w a : Int} {r : am_H × Int} (e : Wo_hasPile h w a = some r) : r = (h, 0) ∨ r = (h, 1) := by
  rw [Wo_hasPile_e] at e
  by_cases c : a < 0
  · rw [if_pos c] at e
    cases e
    exact Or.inl rfl
  · rw [if_neg c] at e
    have e := (ck_s e).2
    by_cases d : rd_ h w 1 ≤ a
    · rw [if_pos d] at e
      cases e
      exact Or.inl rfl
    · rw [if_neg d] at e
      cases e
      exact Or.inr rfl
