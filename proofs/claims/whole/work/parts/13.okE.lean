/-! NEW THINGS, static rows, the written text, copies -/
theorem nn_nw (h : am_H) (kind : Nat) (n : Int) : nn_ (nw_ h kind n) = nn_ h + 1 := rfl
theorem ss_nw (h : am_H) (kind : Nat) (n : Int) : ss_ (nw_ h kind n) = ss_ h + n := rfl
theorem kd_nw {h : am_H} {kind : Nat} {n a : Int} (ha : a ≠ nn_ h) : kd_ (nw_ h kind n) a = kd_ h a := if_neg ha
theorem kd_nwn (h : am_H) (kind : Nat) (n : Int) : kd_ (nw_ h kind n) (nn_ h) = kind := if_pos rfl
theorem ln_nw {h : am_H} {kind : Nat} {n a : Int} (ha : a ≠ nn_ h) : ln_ (nw_ h kind n) a = ln_ h a := if_neg ha
theorem ln_nwn (h : am_H) (kind : Nat) (n : Int) : ln_ (nw_ h kind n) (nn_ h) = n := if_pos rfl
theorem rd_nw {h : am_H} {kind : Nat} {n a : Int} (ha : a ≠ nn_ h) (k : Int) : rd_ (nw_ h kind n) a k = rd_ h a k := if_neg ha
theorem rd_nwn (h : am_H) (kind : Nat) (n k : Int) : rd_ (nw_ h kind n) (nn_ h) k = 0 := if_pos rfl
theorem rf_nw {h : am_H} {kind : Nat} {n a : Int} (ha : a ≠ nn_ h) (k : Int) : rf_ (nw_ h kind n) a k = rf_ h a k := if_neg ha
theorem rf_nwn (h : am_H) (kind : Nat) (n k : Int) : rf_ (nw_ h kind n) (nn_ h) k = -1 := if_pos rfl
theorem ov_nw {h : am_H} {kind : Nat} {n : Int} {v : am_V} (hv : ov_ h.2.2 v) : ov_ (nw_ h kind n).2.2 v := by
  obtain ⟨t, x⟩ := v
  match t, hv with
  | 0, hv => exact hv
  | 1, hv => exact hv
  | 2, _ => trivial
  | 3, _ => trivial
  | 4, _ => trivial
  | 5, _ => trivial
  | 6, _ => trivial
  | 7, _ => trivial
  | 8, _ => trivial
  | 9, _ => trivial
  | t + 10, hv =>
    have hv : x = -1 ∨ (0 ≤ x ∧ x < nn_ h ∧ kd_ h x = t) := hv
    show x = -1 ∨ (0 ≤ x ∧ x < nn_ h + 1 ∧ kd_ (nw_ h kind n) x = t)
    rcases hv with z | ⟨z1, z2, z3⟩
    · exact Or.inl z
    · exact Or.inr ⟨z1, by omega, by rw [kd_nw (by omega)]; exact z3⟩
theorem os_nw {h : am_H} {kind : Nat} {n : Int} {t : Nat} {x y : Int} (hv : os_ h.2.2 t x y) : os_ (nw_ h kind n).2.2 t x y := by
  match t, hv with
  | 0, hv => exact hv
  | 1, hv => exact hv
  | 2, hv => exact hv
  | t + 3, hv => exact ov_nw hv
theorem os_00 (M : am_M) (t : Nat) : os_ M t 0 (-1) := by
  match t with
  | 0 => exact i32_0
  | 1 => show i64_ 0; unfold i64_; omega
  | 2 => exact i32_0
  | 3 => trivial
  | 4 => trivial
  | 5 => trivial
  | 6 => trivial
  | 7 => trivial
  | 8 => trivial
  | 9 => trivial
  | t + 10 => exact Or.inl rfl
theorem oh_nw {h : am_H} {kind : Nat} {n : Int} (hoh : oh_ h) (hn : 20 ≤ kind → 0 ≤ n ∧ n ≤ 1000000) (hn0 : 0 ≤ n) : oh_ (nw_ h kind n) := by
  refine ⟨fun a h1 h2 k => ?_, fun a h1 h2 h3 => ?_, ?_, ?_⟩
  · by_cases hc : a = nn_ h
    · subst hc
      rw [rd_nwn, rf_nwn]
      exact os_00 _ _
    · rw [rd_nw hc, rf_nw hc, kd_nw hc]
      exact os_nw (hoh.1 a h1 (by rw [nn_nw] at h2; omega) k)
  · by_cases hc : a = nn_ h
    · subst hc
      rw [kd_nwn] at h3
      rw [ln_nwn]
      exact hn h3
    · rw [kd_nw hc] at h3
      rw [ln_nw hc]
      exact hoh.2.1 a h1 (by rw [nn_nw] at h2; omega) h3
  · have := hoh.2.2.1
    rw [nn_nw]; omega
  · have := hoh.2.2.2
    rw [ss_nw]; omega
theorem hr_nw {G : am_G} {H H' : Heap} {h : am_H} {kind : Nat} {n : Int} (hH : hr_ G H h) (z : H'.size = H.size + 1) (oq : ∀ q : Nat, q < H.size → H'[q]? = H[q]?) (hoh : oh_ (nw_ h kind n)) (hat : ∀ N : Nat, nn_ h = (N : Int) → at_ G (nw_ h kind n) H' N) : hr_ G H' (nw_ h kind n) := by
  have h0 := hH.2.1.2.2.1
  refine ⟨by rw [z, hH.1, nn_nw]; omega, hoh, fun a ha => ?_⟩
  rw [nn_nw] at ha
  by_cases hc : (a : Int) = nn_ h
  · exact hat a hc.symm
  · have h1 := hH.2.2 a (by omega)
    have e1 : H'[G.2.1 + a]? = H[G.2.1 + a]? := oq _ (by rw [hH.1]; omega)
    have hv : vs_ G (nw_ h kind n) a = vs_ G h a := by
      funext j
      unfold vs_
      rw [kd_nw hc, rd_nw hc, rf_nw hc]
    refine ⟨fun hk => ?_, fun hk1 hk2 => ?_⟩
    · rw [kd_nw hc] at hk ⊢
      obtain ⟨rr, q1, cell, q2, q3⟩ := h1.1 hk
      refine ⟨rr, q1, cell, by rw [e1]; exact q2, ?_⟩
      rw [hv]; exact q3
    · rw [kd_nw hc] at hk1 hk2 ⊢
      rw [e1, ln_nw hc, hv]
      exact h1.2 hk1 hk2
theorem va_S_nw {A : Nat → Prop} {H0 H H1 : Heap} {locs : List Loc} (hS : va_S A H0 H locs) (z : H1.size = H.size + 1) (oq : ∀ q : Nat, q < H.size → H1[q]? = H[q]?) : va_S A H0 H1 locs :=
  ⟨Nat.le_trans hS.1 (by omega), fun x h1 h2 => (oq x (Nat.lt_of_lt_of_le h1 hS.1)).trans (hS.2.1 x h1 h2), hS.2.2⟩
section Fresh
variable {mt : Nat → am_S} {own : String} {FR LO nL : Nat} {ini : Bool} {ret : Option FieldType} {rt : Nat} {lpc : Nat → Nat} {pc : Nat}
def i_stuck : am_I := fun _ _ _ _ _ _ => none
theorem lm_stuck : lm_ i_stuck := fun _ _ _ _ _ _ _ _ _ _ _ _ => ch_const _
theorem ok_stuck {ins : Instr} {len : Nat} : ok_ mt own FR LO nL ini ret rt lpc pc ins len i_stuck := by
  intro p l e R s m args below meth c G cc h0 r C J K X hd hC hJ hK L st h hr
  cases hr
theorem ok_newa_int (harr : Cond.arrayClass .int ∈ am_big) : ok_ mt own FR LO nL ini ret rt lpc pc (.newarray .int) 2 (i_newa 20) := by
  intro p l e R s m args below meth c G cc h0 r C J K X hd hC hJ hK L st h hr
  obtain ⟨t1, n, u, rfl, hr1⟩ := s1_s hr
  obtain ⟨rfl, hr2⟩ := tg_s hr1
  obtain ⟨hn, hr3⟩ := ck_s hr2
  obtain ⟨hm, hw⟩ := hK _ _ _ hr3
  rw [nn_nw, ss_nw] at hm
  refine ⟨⟨by omega, by omega, fun a g1 g2 => by rw [hm.2.2 a g1 (by omega), kd_nw (by omega)]⟩, fun ls H locs hl hH hS hvL hvS h1 h2 => ?_⟩
  have hn32 : i32_ n := ov_hd hvS
  have hnn := hH.2.1.2.2.1
  have hoh : oh_ (nw_ h 20 n) := oh_nw hH.2.1 (fun _ => hn) hn.1
  rw [List.map_cons]
  refine va_newaK (atype := .int) X.1 X.2.1 (X.2.2.2.2.1 _ harr) rfl hd rfl (fun q => by have := (n32_lt hn32 i32_0).mp q; omega) (N := n.toNat) (n32_clamp hn32) (by show n.toNat * 4 ≤ _; omega) (by rw [X.2.2.2.2.2.2.2.1]; show _ + 1 ≤ (nn_ r.1 - nn_ h0).toNat; omega) (by rw [X.2.2.2.2.2.2.2.1]; show _ + n.toNat ≤ (ss_ r.1 - ss_ h0).toNat; omega) rfl fun H1 cA e1 z1 o1 hAr hNm => ?_
  have hcA : cA = G.2.2.1 20 := Option.some.inj (hNm.symm.trans (X.2.2.2.2.2.1.1.2 0 _ rfl).2)
  subst hcA
  have hH1 : hr_ G H1 (nw_ h 20 n) := by
    refine hr_nw hH z1 o1 hoh fun N hN => ⟨fun hk => ?_, fun _ _ => ?_⟩
    · rw [← hN, kd_nwn] at hk; omega
    · rw [← hN, kd_nwn, ln_nwn]
      have e2 : G.2.1 + N = H.size := by rw [hH.1]; omega
      rw [e2, e1]
      congr 2
      funext j
      unfold vs_
      rw [kd_nwn, rd_nwn, rf_nwn]
      rfl
  have k2 := hw ls H1 locs hl hH1 (va_S_nw hS z1 o1) (fun v hv => ov_nw (hvL v hv)) (ov_cs (show ov_ (nw_ h 20 n).2.2 (20 + 10, nn_ h) from ?_) (fun v hv => ov_nw (ov_tl hvS v hv))) (by rw [nn_nw]; omega) (by rw [ss_nw]; omega)
  · rw [List.map_cons, nn_nw, ss_nw, cv_10 (t := 10 + 20) (by decide), if_neg (by omega)] at k2
    rw [show (nn_ h - nn_ h0).toNat + 1 = (nn_ h + 1 - nn_ h0).toNat by omega, show (ss_ h - ss_ h0).toNat + n.toNat = (ss_ h + n - ss_ h0).toNat by omega]
    rw [show G.2.1 + (nn_ h).toNat = H.size from hH.1.symm] at k2
    exact k2
  · exact Or.inr ⟨hnn, by show nn_ h < nn_ h + 1; omega, kd_nwn h _ n⟩
theorem ok_newa_byte (harr : Cond.arrayClass .byte ∈ am_big) : ok_ mt own FR LO nL ini ret rt lpc pc (.newarray .byte) 2 (i_newa 21) := by
  intro p l e R s m args below meth c G cc h0 r C J K X hd hC hJ hK L st h hr
  obtain ⟨t1, n, u, rfl, hr1⟩ := s1_s hr
  obtain ⟨rfl, hr2⟩ := tg_s hr1
  obtain ⟨hn, hr3⟩ := ck_s hr2
  obtain ⟨hm, hw⟩ := hK _ _ _ hr3
  rw [nn_nw, ss_nw] at hm
  refine ⟨⟨by omega, by omega, fun a g1 g2 => by rw [hm.2.2 a g1 (by omega), kd_nw (by omega)]⟩, fun ls H locs hl hH hS hvL hvS h1 h2 => ?_⟩
  have hn32 : i32_ n := ov_hd hvS
  have hnn := hH.2.1.2.2.1
  have hoh : oh_ (nw_ h 21 n) := oh_nw hH.2.1 (fun _ => hn) hn.1
  rw [List.map_cons]
  refine va_newaK (atype := .byte) X.1 X.2.1 (X.2.2.2.2.1 _ harr) rfl hd rfl (fun q => by have := (n32_lt hn32 i32_0).mp q; omega) (N := n.toNat) (n32_clamp hn32) (by show n.toNat * 1 ≤ _; omega) (by rw [X.2.2.2.2.2.2.2.1]; show _ + 1 ≤ (nn_ r.1 - nn_ h0).toNat; omega) (by rw [X.2.2.2.2.2.2.2.1]; show _ + n.toNat ≤ (ss_ r.1 - ss_ h0).toNat; omega) rfl fun H1 cA e1 z1 o1 hAr hNm => ?_
  have hcA : cA = G.2.2.1 21 := Option.some.inj (hNm.symm.trans (X.2.2.2.2.2.1.1.2 1 _ rfl).2)
  subst hcA
  have hH1 : hr_ G H1 (nw_ h 21 n) := by
    refine hr_nw hH z1 o1 hoh fun N hN => ⟨fun hk => ?_, fun _ _ => ?_⟩
    · rw [← hN, kd_nwn] at hk; omega
    · rw [← hN, kd_nwn, ln_nwn]
      have e2 : G.2.1 + N = H.size := by rw [hH.1]; omega
      rw [e2, e1]
      congr 2
      funext j
      unfold vs_
      rw [kd_nwn, rd_nwn, rf_nwn]
      rfl
  have k2 := hw ls H1 locs hl hH1 (va_S_nw hS z1 o1) (fun v hv => ov_nw (hvL v hv)) (ov_cs (show ov_ (nw_ h 21 n).2.2 (21 + 10, nn_ h) from ?_) (fun v hv => ov_nw (ov_tl hvS v hv))) (by rw [nn_nw]; omega) (by rw [ss_nw]; omega)
  · rw [List.map_cons, nn_nw, ss_nw, cv_10 (t := 10 + 21) (by decide), if_neg (by omega)] at k2
    rw [show (nn_ h - nn_ h0).toNat + 1 = (nn_ h + 1 - nn_ h0).toNat by omega, show (ss_ h - ss_ h0).toNat + n.toNat = (ss_ h + n - ss_ h0).toNat by omega]
    rw [show G.2.1 + (nn_ h).toNat = H.size from hH.1.symm] at k2
    exact k2
  · exact Or.inr ⟨hnn, by show nn_ h < nn_ h + 1; omega, kd_nwn h _ n⟩
theorem ok_newa_boolean (harr : Cond.arrayClass .boolean ∈ am_big) : ok_ mt own FR LO nL ini ret rt lpc pc (.newarray .boolean) 2 (i_newa 22) := by
  intro p l e R s m args below meth c G cc h0 r C J K X hd hC hJ hK L st h hr
  obtain ⟨t1, n, u, rfl, hr1⟩ := s1_s hr
  obtain ⟨rfl, hr2⟩ := tg_s hr1
  obtain ⟨hn, hr3⟩ := ck_s hr2
  obtain ⟨hm, hw⟩ := hK _ _ _ hr3
  rw [nn_nw, ss_nw] at hm
  refine ⟨⟨by omega, by omega, fun a g1 g2 => by rw [hm.2.2 a g1 (by omega), kd_nw (by omega)]⟩, fun ls H locs hl hH hS hvL hvS h1 h2 => ?_⟩
  have hn32 : i32_ n := ov_hd hvS
  have hnn := hH.2.1.2.2.1
  have hoh : oh_ (nw_ h 22 n) := oh_nw hH.2.1 (fun _ => hn) hn.1
  rw [List.map_cons]
  refine va_newaK (atype := .boolean) X.1 X.2.1 (X.2.2.2.2.1 _ harr) rfl hd rfl (fun q => by have := (n32_lt hn32 i32_0).mp q; omega) (N := n.toNat) (n32_clamp hn32) (by show n.toNat * 1 ≤ _; omega) (by rw [X.2.2.2.2.2.2.2.1]; show _ + 1 ≤ (nn_ r.1 - nn_ h0).toNat; omega) (by rw [X.2.2.2.2.2.2.2.1]; show _ + n.toNat ≤ (ss_ r.1 - ss_ h0).toNat; omega) rfl fun H1 cA e1 z1 o1 hAr hNm => ?_
  have hcA : cA = G.2.2.1 22 := Option.some.inj (hNm.symm.trans (X.2.2.2.2.2.1.1.2 2 _ rfl).2)
  subst hcA
  have hH1 : hr_ G H1 (nw_ h 22 n) := by
    refine hr_nw hH z1 o1 hoh fun N hN => ⟨fun hk => ?_, fun _ _ => ?_⟩
    · rw [← hN, kd_nwn] at hk; omega
    · rw [← hN, kd_nwn, ln_nwn]
      have e2 : G.2.1 + N = H.size := by rw [hH.1]; omega
      rw [e2, e1]
      congr 2
      funext j
      unfold vs_
      rw [kd_nwn, rd_nwn, rf_nwn]
      rfl
  have k2 := hw ls H1 locs hl hH1 (va_S_nw hS z1 o1) (fun v hv => ov_nw (hvL v hv)) (ov_cs (show ov_ (nw_ h 22 n).2.2 (22 + 10, nn_ h) from ?_) (fun v hv => ov_nw (ov_tl hvS v hv))) (by rw [nn_nw]; omega) (by rw [ss_nw]; omega)
  · rw [List.map_cons, nn_nw, ss_nw, cv_10 (t := 10 + 22) (by decide), if_neg (by omega)] at k2
    rw [show (nn_ h - nn_ h0).toNat + 1 = (nn_ h + 1 - nn_ h0).toNat by omega, show (ss_ h - ss_ h0).toNat + n.toNat = (ss_ h + n - ss_ h0).toNat by omega]
    rw [show G.2.1 + (nn_ h).toNat = H.size from hH.1.symm] at k2
    exact k2
  · exact Or.inr ⟨hnn, by show nn_ h < nn_ h + 1; omega, kd_nwn h _ n⟩
theorem ok_newa_long (harr : Cond.arrayClass .long ∈ am_big) : ok_ mt own FR LO nL ini ret rt lpc pc (.newarray .long) 2 (i_newa 23) := by
  intro p l e R s m args below meth c G cc h0 r C J K X hd hC hJ hK L st h hr
  obtain ⟨t1, n, u, rfl, hr1⟩ := s1_s hr
  obtain ⟨rfl, hr2⟩ := tg_s hr1
  obtain ⟨hn, hr3⟩ := ck_s hr2
  obtain ⟨hm, hw⟩ := hK _ _ _ hr3
  rw [nn_nw, ss_nw] at hm
  refine ⟨⟨by omega, by omega, fun a g1 g2 => by rw [hm.2.2 a g1 (by omega), kd_nw (by omega)]⟩, fun ls H locs hl hH hS hvL hvS h1 h2 => ?_⟩
  have hn32 : i32_ n := ov_hd hvS
  have hnn := hH.2.1.2.2.1
  have hoh : oh_ (nw_ h 23 n) := oh_nw hH.2.1 (fun _ => hn) hn.1
  rw [List.map_cons]
  refine va_newaK (atype := .long) X.1 X.2.1 (X.2.2.2.2.1 _ harr) rfl hd rfl (fun q => by have := (n32_lt hn32 i32_0).mp q; omega) (N := n.toNat) (n32_clamp hn32) (by show n.toNat * 8 ≤ _; omega) (by rw [X.2.2.2.2.2.2.2.1]; show _ + 1 ≤ (nn_ r.1 - nn_ h0).toNat; omega) (by rw [X.2.2.2.2.2.2.2.1]; show _ + n.toNat ≤ (ss_ r.1 - ss_ h0).toNat; omega) rfl fun H1 cA e1 z1 o1 hAr hNm => ?_
  have hcA : cA = G.2.2.1 23 := Option.some.inj (hNm.symm.trans (X.2.2.2.2.2.1.1.2 3 _ rfl).2)
  subst hcA
  have hH1 : hr_ G H1 (nw_ h 23 n) := by
    refine hr_nw hH z1 o1 hoh fun N hN => ⟨fun hk => ?_, fun _ _ => ?_⟩
    · rw [← hN, kd_nwn] at hk; omega
    · rw [← hN, kd_nwn, ln_nwn]
      have e2 : G.2.1 + N = H.size := by rw [hH.1]; omega
      rw [e2, e1]
      congr 2
      funext j
      unfold vs_
      rw [kd_nwn, rd_nwn, rf_nwn]
      rfl
  have k2 := hw ls H1 locs hl hH1 (va_S_nw hS z1 o1) (fun v hv => ov_nw (hvL v hv)) (ov_cs (show ov_ (nw_ h 23 n).2.2 (23 + 10, nn_ h) from ?_) (fun v hv => ov_nw (ov_tl hvS v hv))) (by rw [nn_nw]; omega) (by rw [ss_nw]; omega)
  · rw [List.map_cons, nn_nw, ss_nw, cv_10 (t := 10 + 23) (by decide), if_neg (by omega)] at k2
    rw [show (nn_ h - nn_ h0).toNat + 1 = (nn_ h + 1 - nn_ h0).toNat by omega, show (ss_ h - ss_ h0).toNat + n.toNat = (ss_ h + n - ss_ h0).toNat by omega]
    rw [show G.2.1 + (nn_ h).toNat = H.size from hH.1.symm] at k2
    exact k2
  · exact Or.inr ⟨hnn, by show nn_ h < nn_ h + 1; omega, kd_nwn h _ n⟩
def dv_ (t : Nat) : Value := match t with
  | 0 => .int 0
  | 1 => .long 0
  | 2 => .int 0
  | _ + 3 => .null
theorem dv_sv {G : am_G} {t : Nat} (h : t < 3 ∨ 10 ≤ t) : sv_ G t 0 (-1) = dv_ t := by
  rcases h with h | h
  · match t, h with
    | 0, _ => rfl
    | 1, _ => rfl
    | 2, _ => rfl
  · rw [sv_ref _ _ h, cv_10 h]
    obtain ⟨k, rfl⟩ := Nat.exists_eq_add_of_le' h
    rfl
theorem ok_new {ci idx : Nat} {C : String} {T : u_T} {N : Nat} (hc : vwCl[ci]? = some (C, T, N)) (hin : ∀ w ∈ u_ws C T N, w ∈ am_big) {ty0 : Nat → FieldType} (hty : ∀ k, k < N → parseFieldDescriptor (T k).2.2.1 = some (ty0 k))
    (hdv : ∀ k, k < N → defaultValue (ty0 k) = dv_ (sl_ ci k) ∧ (sl_ ci k < 3 ∨ 10 ≤ sl_ ci k)) (hcl : Cond.classLink own idx C ∈ am_big) (hinst : Cond.instantiable C N ∈ am_big) (hini : Cond.initialized C ∈ am_big) {n : Int} (hn : n = (N : Int)) : ok_ mt own FR LO nL ini ret rt lpc pc (.new idx) 3 (i_new ci n) := by
  intro p l e R s m args below meth c G cc h0 r C J K X hd hC hJ hK L st h hr
  subst hn
  obtain ⟨hm, hw⟩ := hK _ _ _ hr
  rw [nn_nw, ss_nw] at hm
  refine ⟨⟨by omega, by omega, fun a g1 g2 => by rw [hm.2.2 a g1 (by omega), kd_nw (by omega)]⟩, fun ls H locs hl hH hS hvL hvS h1 h2 => ?_⟩
  have hnn := hH.2.1.2.2.1
  have h13 := vw_lt hc
  have hoh : oh_ (nw_ h ci N) := oh_nw hH.2.1 (fun q => by omega) (by omega)
  have hKn := X.2.2.2.2.2.1.1.1 ci _ hc
  refine W.newcK X.1 X.2.1 X.2.2.2.1 (X.2.2.2.2.1 _ hcl) (X.2.2.2.2.1 _ hinst) (X.2.2.2.2.1 _ hini) rfl hd (by rw [X.2.2.2.2.2.2.2.1]; show _ + 1 ≤ (nn_ r.1 - nn_ h0).toNat; omega) (by rw [X.2.2.2.2.2.2.2.1]; show _ + N ≤ (ss_ r.1 - ss_ h0).toNat; omega) hKn.2.1 rfl fun H1 kC hkC e1 z1 o1 => ?_
  have hH1 : hr_ G H1 (nw_ h ci N) := by
    refine hr_nw hH z1 o1 hoh fun M hM => ⟨fun hk => ?_, fun hk _ => ?_⟩
    · rw [← hM, kd_nwn]
      refine ⟨_, hc, ?_⟩
      have e2 : G.2.1 + M = H.size := by rw [hH.1]; omega
      rw [e2]
      refine (u_born ty0 X.2.2.2.2.1 hin hKn hkC e1 hty).to fun k hk2 => ?_
      unfold vs_
      rw [kd_nwn, rd_nwn, rf_nwn, (hdv k hk2).1, dv_sv (hdv k hk2).2]
    · rw [← hM, kd_nwn] at hk; omega
  have k2 := hw ls H1 locs hl hH1 (va_S_nw hS z1 o1) (fun v hv => ov_nw (hvL v hv)) (ov_cs (show ov_ (nw_ h ci N).2.2 (10 + ci, nn_ h) from ?_) (fun v hv => ov_nw (hvS v hv))) (by rw [nn_nw]; omega) (by rw [ss_nw]; omega)
  · rw [List.map_cons, nn_nw, ss_nw, cv_10 (t := 10 + ci) (by omega), if_neg (by omega)] at k2
    rw [show (nn_ h - nn_ h0).toNat + 1 = (nn_ h + 1 - nn_ h0).toNat by omega, show (ss_ h - ss_ h0).toNat + N = (ss_ h + N - ss_ h0).toNat by omega]
    rw [show G.2.1 + (nn_ h).toNat = H.size from hH.1.symm] at k2
    exact k2
  · rw [Nat.add_comm]
    exact Or.inr ⟨hnn, by show nn_ h < nn_ h + 1; omega, kd_nwn h _ _⟩
theorem ok_anew {idx : Nat} (hcl : Cond.classLink own idx "PlatePiles$Chart" ∈ am_big) : ok_ mt own FR LO nL ini ret rt lpc pc (.anewarray idx) 3 (i_newa 24) := by
  intro p l e R s m args below meth c G cc h0 r C J K X hd hC hJ hK L st h hr
  obtain ⟨t1, n, u, rfl, hr1⟩ := s1_s hr
  obtain ⟨rfl, hr2⟩ := tg_s hr1
  obtain ⟨hn, hr3⟩ := ck_s hr2
  obtain ⟨hm, hw⟩ := hK _ _ _ hr3
  rw [nn_nw, ss_nw] at hm
  refine ⟨⟨by omega, by omega, fun a g1 g2 => by rw [hm.2.2 a g1 (by omega), kd_nw (by omega)]⟩, fun ls H locs hl hH hS hvL hvS h1 h2 => ?_⟩
  have hn32 : i32_ n := ov_hd hvS
  have hnn := hH.2.1.2.2.1
  have hoh : oh_ (nw_ h 24 n) := oh_nw hH.2.1 (fun _ => hn) hn.1
  rw [List.map_cons]
  have hcl2 := n32_clamp hn32
  refine W.anew X.1 X.2.1 X.2.2.2.1 (X.2.2.2.2.1 _ hcl) (va_AO.use X.2.2.2.2.2.1.2.2.2.2.2.2.2.2.1) rfl hd rfl (fun q => by have := (n32_lt hn32 i32_0).mp q; omega) (by rw [hcl2]; omega) (by rw [X.2.2.2.2.2.2.2.1]; show _ + 1 ≤ (nn_ r.1 - nn_ h0).toNat; omega) (by rw [X.2.2.2.2.2.2.2.1, hcl2]; show _ + n.toNat ≤ (ss_ r.1 - ss_ h0).toNat; omega) fun cA kA comp f1 f2 f3 f4 => ?_
  rw [hcl2]
  generalize hH1e : H.push ({ cls := cA, slots := Array.replicate n.toNat .null, vm := .none } : Cell) = H1
  have z1 : H1.size = H.size + 1 := by rw [← hH1e, Array.size_push]
  have e1 : H1[H.size]? = some (arrV cA n.toNat (fun _ => .null)) := by rw [← hH1e, Array.getElem?_push_size, ← arrV_new]
  have o1 : ∀ q : Nat, q < H.size → H1[q]? = H[q]? := fun q hq => by rw [← hH1e, Array.getElem?_push, if_neg (Nat.ne_of_lt hq)]
  have hcA : cA = G.2.2.1 24 := by
    obtain ⟨kA2, comp2, g1, g2, g3, g4⟩ := (X.2.2.2.2.2.1.1.2 4 _ rfl).2
    exact Option.some.inj (f1.symm.trans g4)
  subst hcA
  have hH1 : hr_ G H1 (nw_ h 24 n) := by
    refine hr_nw hH z1 o1 hoh fun N hN => ⟨fun hk => ?_, fun _ _ => ?_⟩
    · rw [← hN, kd_nwn] at hk; omega
    · rw [← hN, kd_nwn, ln_nwn]
      have e2 : G.2.1 + N = H.size := by rw [hH.1]; omega
      rw [e2, e1]
      congr 2
      funext j
      unfold vs_
      rw [kd_nwn, rd_nwn, rf_nwn]
      rfl
  have k2 := hw ls H1 locs hl hH1 (va_S_nw hS z1 o1) (fun v hv => ov_nw (hvL v hv)) (ov_cs (show ov_ (nw_ h 24 n).2.2 (24 + 10, nn_ h) from ?_) (fun v hv => ov_nw (ov_tl hvS v hv))) (by rw [nn_nw]; omega) (by rw [ss_nw]; omega)
  · rw [List.map_cons, nn_nw, ss_nw, cv_10 (t := 10 + 24) (by decide), if_neg (by omega)] at k2
    rw [show (nn_ h - nn_ h0).toNat + 1 = (nn_ h + 1 - nn_ h0).toNat by omega, show (ss_ h - ss_ h0).toNat + n.toNat = (ss_ h + n - ss_ h0).toNat by omega]
    rw [show G.2.1 + (nn_ h).toNat = H.size from hH.1.symm] at k2
    exact k2
  · exact Or.inr ⟨hnn, by show nn_ h < nn_ h + 1; omega, kd_nwn h _ n⟩
theorem ok_gets_fact {idx : Nat} (hl0 : Cond.fieldLink own idx "PlatePiles" "FACTORIAL" "[I" ∈ am_big) : ok_ mt own FR LO nL ini ret rt lpc pc (.getstatic idx) 3 (i_push 4 0) := by
  intro p l e R s m args below meth c G cc h0 r C J K X hd hC hJ hK L st h hr
  obtain ⟨hm, hw⟩ := hK _ _ _ hr
  exact ⟨hm, fun ls H locs hl hH hS hvL hvS h1 h2 => va_gets X.1 X.2.1 X.2.2.2.2.2.1.2.2.1 hS X.2.2.2.1 (X.2.2.2.2.1 _ hl0) (fun _ q => q) hd (hw ls H locs hl hH hS hvL (ov_cs trivial hvS) h1 h2)⟩
theorem ok_gets_factN {idx : Nat} (hl0 : Cond.fieldLinkNest own idx "PlatePiles" "FACTORIAL" "[I" "PlatePiles" ∈ nw_l) : ok_ mt own FR LO nL ini ret rt lpc pc (.getstatic idx) 3 (i_push 4 0) := by
  intro p l e R s m args below meth c G cc h0 r C J K X hd hC hJ hK L st h hr
  obtain ⟨hm, hw⟩ := hK _ _ _ hr
  exact ⟨hm, fun ls H locs hl hH hS hvL hvS h1 h2 => va_getsN X.1 X.2.1 X.2.2.2.2.2.1.2.2.1 hS X.2.2.2.1 (va_Nw.use rfl (X.2.2.2.2.2.1.2.2.2.2.2.2.1 _ hl0)) (fun _ q => q) hd (hw ls H locs hl hH hS hvL (ov_cs trivial hvS) h1 h2)⟩
theorem ok_gets_pow {idx : Nat} (hl0 : Cond.fieldLink own idx "PlatePiles" "POWER_OF_FIVE" "[I" ∈ am_big) : ok_ mt own FR LO nL ini ret rt lpc pc (.getstatic idx) 3 (i_push 4 1) := by
  intro p l e R s m args below meth c G cc h0 r C J K X hd hC hJ hK L st h hr
  obtain ⟨hm, hw⟩ := hK _ _ _ hr
  exact ⟨hm, fun ls H locs hl hH hS hvL hvS h1 h2 => va_gets X.1 X.2.1 X.2.2.2.2.2.1.2.2.2.2.1 hS X.2.2.2.1 (X.2.2.2.2.1 _ hl0) (fun _ q => q) hd (hw ls H locs hl hH hS hvL (ov_cs trivial hvS) h1 h2)⟩
theorem ok_gets_comp {idx : Nat} (hl0 : Cond.fieldLink own idx "java/lang/String" "COMPACT_STRINGS" "Z" ∈ am_big) : ok_ mt own FR LO nL ini ret rt lpc pc (.getstatic idx) 3 (i_push 0 1) := by
  intro p l e R s m args below meth c G cc h0 r C J K X hd hC hJ hK L st h hr
  obtain ⟨hm, hw⟩ := hK _ _ _ hr
  exact ⟨hm, fun ls H locs hl hH hS hvL hvS h1 h2 => va_gets X.1 X.2.1 X.2.2.2.2.2.1.2.2.2.2.2.2.2.2.2.2.2.1 hS X.2.2.2.1 (X.2.2.2.2.1 _ hl0) (fun _ q => q) hd (hw ls H locs hl hH hS hvL (ov_cs (show i32_ 1 by unfold i32_; omega) hvS) h1 h2)⟩
theorem ok_gets_sio {idx : Nat} (hl0 : Cond.fieldLink own idx "jdk/internal/util/Preconditions" "SIOOBE_FORMATTER" "Ljava/util/function/BiFunction;" ∈ am_big) : ok_ mt own FR LO nL ini ret rt lpc pc (.getstatic idx) 3 (i_push 8 0) := by
  intro p l e R s m args below meth c G cc h0 r C J K X hd hC hJ hK L st h hr
  obtain ⟨hm, hw⟩ := hK _ _ _ hr
  exact ⟨hm, fun ls H locs hl hH hS hvL hvS h1 h2 => va_gets X.1 X.2.1 X.2.2.2.2.2.1.2.2.2.2.2.2.2.2.2.2.2.2 hS X.2.2.2.1 (X.2.2.2.2.1 _ hl0) (fun _ q => q) hd (hw ls H locs hl hH hS hvL (ov_cs trivial hvS) h1 h2)⟩
theorem ok_tab_fact : ok_ mt own FR LO nL ini ret rt lpc pc .iaload 1 (i_tab 4 0 6 fa_) := by
  intro p l e R s m args below meth c G cc h0 r C J K X hd hC hJ hK L st h hr
  obtain ⟨t2, i, u, rfl, hr1⟩ := s1_s hr
  obtain ⟨t1, a, u, rfl, hr2⟩ := s1_s hr1
  obtain ⟨rfl, hr3⟩ := tg_s hr2
  obtain ⟨rfl, hr4⟩ := tg_s hr3
  obtain ⟨hb, hr5⟩ := bl_s hr4
  have hb := of_decide_eq_true hb
  subst hb
  obtain ⟨hi, hr6⟩ := ck_s hr5
  obtain ⟨hm, hw⟩ := hK _ _ _ hr6
  refine ⟨hm, fun ls H locs hl hH hS hvL hvS h1 h2 => ?_⟩
  have hi32 : i32_ i := ov_hd hvS
  have hall : ∀ j, j < 6 → i32_ (fa_.getD j 0) := by unfold i32_; decide
  have k2 := hw ls H locs hl hH hS hvL (ov_cs (show ov_ h.2.2 (0, fa_.getD i.toNat 0) from hall _ (by omega)) (ov_tl (ov_tl hvS))) h1 h2
  exact va_ti X.1 X.2.1 X.2.2.2.2.2.1.2.2.2.1 hS (i := Int32.ofInt i) (n32_in hi32 hi.1 (by omega)) (by rw [n32_clamp hi32]; rfl) hd k2
theorem ok_tab_pow : ok_ mt own FR LO nL ini ret rt lpc pc .iaload 1 (i_tab 4 1 5 pf_) := by
  intro p l e R s m args below meth c G cc h0 r C J K X hd hC hJ hK L st h hr
  obtain ⟨t2, i, u, rfl, hr1⟩ := s1_s hr
  obtain ⟨t1, a, u, rfl, hr2⟩ := s1_s hr1
  obtain ⟨rfl, hr3⟩ := tg_s hr2
  obtain ⟨rfl, hr4⟩ := tg_s hr3
  obtain ⟨hb, hr5⟩ := bl_s hr4
  have hb := of_decide_eq_true hb
  subst hb
  obtain ⟨hi, hr6⟩ := ck_s hr5
  obtain ⟨hm, hw⟩ := hK _ _ _ hr6
  refine ⟨hm, fun ls H locs hl hH hS hvL hvS h1 h2 => ?_⟩
  have hi32 : i32_ i := ov_hd hvS
  have hall : ∀ j, j < 5 → i32_ (pf_.getD j 0) := by unfold i32_; decide
  have k2 := hw ls H locs hl hH hS hvL (ov_cs (show ov_ h.2.2 (0, pf_.getD i.toNat 0) from hall _ (by omega)) (ov_tl (ov_tl hvS))) h1 h2
  exact va_ti X.1 X.2.1 X.2.2.2.2.2.1.2.2.2.2.2.1 hS (i := Int32.ofInt i) (n32_in hi32 hi.1 (by omega)) (by rw [n32_clamp hi32]; rfl) hd k2
theorem ok_tab_text : ok_ mt own FR LO nL ini ret rt lpc pc .baload 1 (i_tab 7 0 104 tx_) := by
  intro p l e R s m args below meth c G cc h0 r C J K X hd hC hJ hK L st h hr
  obtain ⟨t2, i, u, rfl, hr1⟩ := s1_s hr
  obtain ⟨t1, a, u, rfl, hr2⟩ := s1_s hr1
  obtain ⟨rfl, hr3⟩ := tg_s hr2
  obtain ⟨rfl, hr4⟩ := tg_s hr3
  obtain ⟨hb, hr5⟩ := bl_s hr4
  have hb := of_decide_eq_true hb
  subst hb
  obtain ⟨hi, hr6⟩ := ck_s hr5
  obtain ⟨hm, hw⟩ := hK _ _ _ hr6
  refine ⟨hm, fun ls H locs hl hH hS hvL hvS h1 h2 => ?_⟩
  have hi32 : i32_ i := ov_hd hvS
  have hall : ∀ j, j < 104 → i32_ (tx_.getD j 0) := by unfold i32_; decide
  have k2 := hw ls H locs hl hH hS hvL (ov_cs (show ov_ h.2.2 (0, tx_.getD i.toNat 0) from hall _ (by omega)) (ov_tl (ov_tl hvS))) h1 h2
  exact va_tb X.1 X.2.1 X.2.2.2.2.2.1.2.2.2.2.2.2.2.2.2.2.1.2.2.2 hS (i := Int32.ofInt i) (n32_in hi32 hi.1 (by omega)) (by rw [n32_clamp hi32]; rfl) hd k2
theorem ok_tlen : ok_ mt own FR LO nL ini ret rt lpc pc .arraylength 1 (i_con 7 0 104) := by
  intro p l e R s m args below meth c G cc h0 r C J K X hd hC hJ hK L st h hr
  obtain ⟨t1, a, u, rfl, hr1⟩ := s1_s hr
  obtain ⟨rfl, hr2⟩ := tg_s hr1
  obtain ⟨hb, hr3⟩ := bl_s hr2
  have hb := of_decide_eq_true hb
  subst hb
  obtain ⟨hm, hw⟩ := hK _ _ _ hr3
  refine ⟨hm, fun ls H locs hl hH hS hvL hvS h1 h2 => ?_⟩
  have k2 := hw ls H locs hl hH hS hvL (ov_cs (show i32_ 104 by unfold i32_; omega) (ov_tl hvS)) h1 h2
  exact va_tlen X.1 X.2.1 X.2.2.2.2.2.1.2.2.2.2.2.2.2.2.2.2.1.2.2.2 hS rfl hd k2
theorem ok_coder {idx : Nat} (hl0 : Cond.fieldLink own idx "java/lang/String" "coder" "B" ∈ am_big) : ok_ mt own FR LO nL ini ret rt lpc pc (.getfield idx) 3 (i_con 6 0 0) := by
  intro p l e R s m args below meth c G cc h0 r C J K X hd hC hJ hK L st h hr
  obtain ⟨t1, a, u, rfl, hr1⟩ := s1_s hr
  obtain ⟨rfl, hr2⟩ := tg_s hr1
  obtain ⟨hb, hr3⟩ := bl_s hr2
  have hb := of_decide_eq_true hb
  subst hb
  obtain ⟨hm, hw⟩ := hK _ _ _ hr3
  refine ⟨hm, fun ls H locs hl hH hS hvL hvS h1 h2 => ?_⟩
  have k2 := hw ls H locs hl hH hS hvL (ov_cs i32_0 (ov_tl hvS)) h1 h2
  exact vk_getf X.1 X.2.1 X.2.2.2.2.2.1.2.2.2.2.2.2.2.2.2.2.1.2.1 hS X.2.2.2.1 (X.2.2.2.2.1 _ hl0) (fun _ q => q) hd k2
def i_sval : am_I := fun _ _ k ls st h => s1_ st fun t1 a r => tg_ t1 6 (bl_ (decide (a = 0)) (k ls ((7, 0) :: r) h))
theorem lm_sval : lm_ i_sval := fun _ _ _ _ _ _ _ _ hK _ _ _ => ch_s1 fun _ _ _ => ch_tg (ch_bl (hK _ _ _))
theorem ok_sval {idx : Nat} (hl0 : Cond.fieldLink own idx "java/lang/String" "value" "[B" ∈ am_big) : ok_ mt own FR LO nL ini ret rt lpc pc (.getfield idx) 3 i_sval := by
  intro p l e R s m args below meth c G cc h0 r C J K X hd hC hJ hK L st h hr
  obtain ⟨t1, a, u, rfl, hr1⟩ := s1_s hr
  obtain ⟨rfl, hr2⟩ := tg_s hr1
  obtain ⟨hb, hr3⟩ := bl_s hr2
  have hb := of_decide_eq_true hb
  subst hb
  obtain ⟨hm, hw⟩ := hK _ _ _ hr3
  refine ⟨hm, fun ls H locs hl hH hS hvL hvS h1 h2 => ?_⟩
  have k2 := hw ls H locs hl hH hS hvL (ov_cs trivial (ov_tl hvS)) h1 h2
  exact vk_getf X.1 X.2.1 X.2.2.2.2.2.1.2.2.2.2.2.2.2.2.2.2.1.2.2.1 hS X.2.2.2.1 (X.2.2.2.2.1 _ hl0) (fun _ q => q) hd k2
theorem ok_ldcS (ho : own = "PlatePiles$Tokens") : ok_ mt own FR LO nL ini ret rt lpc pc (.ldc 19) 2 (i_push 6 0) := by
  intro p l e R s m args below meth c G cc h0 r C J K X hd hC hJ hK L st h hr
  obtain ⟨hm, hw⟩ := hK _ _ _ hr
  have hf := X.2.2.2.1
  rw [ho] at hf
  exact ⟨hm, fun ls H locs hl hH hS hvL hvS h1 h2 => va_ldcS X.1 X.2.1 hf X.2.2.2.2.2.1.2.2.2.2.2.2.2.2.2.1 hd (hw ls H locs hl hH hS hvL (ov_cs trivial hvS) h1 h2)⟩
theorem n32_i2c {a : Int} : ((Int32.ofInt a).toUInt32 % 65536).toInt32 = Int32.ofInt (a % 65536) := by
  rw [pk_char, n32_bv]
  have e : (a % 4294967296).toNat % 65536 = (a % 65536).toNat := by omega
  rw [e]
  apply Int32.toInt_inj.mp
  rw [nI_toInt (by omega), i32_ti (by unfold i32_; omega)]
  omega
theorem ok_i2c : ok_ mt own FR LO nL ini ret rt lpc pc .i2c 1 (i_op1 0 0 (fun a => a % 65536)) := by
  intro p l e R s m args below meth c G cc h0 r C J K X hd hC hJ hK L st h hr
  obtain ⟨t1, a, u, rfl, hr1⟩ := s1_s hr
  obtain ⟨rfl, hr2⟩ := tg_s hr1
  obtain ⟨hm, hw⟩ := hK _ _ _ hr2
  refine ⟨hm, fun ls H locs hl hH hS hvL hvS h1 h2 => ?_⟩
  have k2 := hw ls H locs hl hH hS hvL (ov_cs (show i32_ (a % 65536) by unfold i32_; omega) (ov_tl hvS)) h1 h2
  exact lv_i2c X.1 X.2.1 hd n32_i2c k2
end Fresh
