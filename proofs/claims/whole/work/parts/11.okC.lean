/-! READS AND WRITES of the heap -/
theorem cv_nat {G : am_G} {t : Nat} (h : 10 ≤ t) (n : Nat) : cv_ G (t, (n : Int)) = .ref (G.2.1 + n) := by
  rw [cv_10 h, if_neg (by omega), Int.toNat_natCast]
theorem ov_nat {M : am_M} {t : Nat} (h : 10 ≤ t) {n : Nat} (hv : ov_ M (t, (n : Int))) : (n : Int) < M.2.2.1 ∧ M.1 n + 10 = t := by
  obtain ⟨k, rfl⟩ := Nat.exists_eq_add_of_le' h
  have hv : (n : Int) = -1 ∨ (0 ≤ (n : Int) ∧ (n : Int) < M.2.2.1 ∧ M.1 n = k) := hv
  rcases hv with z | ⟨-, z1, z2⟩
  · omega
  · exact ⟨z1, by rw [z2]⟩
theorem vw_lt {ci : Nat} {q : vw_C} (h : vwCl[ci]? = some q) : ci < 13 := (List.getElem?_eq_some_iff.mp h).1
theorem os_num {M : am_M} {t : Nat} {x y : Int} (h : os_ M t x y) (ht : t = 0 ∨ t = 2) : i32_ x := by rcases ht with rfl | rfl <;> exact h
theorem sv_num {G : am_G} {t : Nat} (x y : Int) (ht : t = 0 ∨ t = 2) : sv_ G t x y = .int (Int32.ofInt x) := by rcases ht with rfl | rfl <;> rfl
theorem os_ref {M : am_M} {t : Nat} {x y : Int} (h : os_ M t x y) (ht : 10 ≤ t) : ov_ M (t, y) := by
  obtain ⟨k, rfl⟩ := Nat.exists_eq_add_of_le' ht
  exact h
theorem sv_ref {G : am_G} {t : Nat} (x y : Int) (ht : 10 ≤ t) : sv_ G t x y = cv_ G (t, y) := by
  obtain ⟨k, rfl⟩ := Nat.exists_eq_add_of_le' ht
  rfl
section Heap
variable {p : Program} {l : Launch} {e : Env} {R : Room} {s : State} {m : MethodId} {args : Array Value} {below : List Frame} {meth : Method} {c : Code} {H : Heap} {locs : List Loc} {cells slots : Nat} {Q : State → Prop}
variable {G : am_G} {own : String} {cc : ByteArray} {FR LO nL : Nat} {ini : Bool} {ret : Option FieldType} {h0 : am_H} {r : am_H × Int}
theorem w_getf (X : cx_ p R s m args meth c G own cc FR LO nL ini ret h0 r) {ci k idx : Nat} {C : String} {T : u_T} {N : Nat} (hc : vwCl[ci]? = some (C, T, N)) (hk : k < N) (hin : ∀ w ∈ u_ws C T N, w ∈ am_big)
    (hl : Cond.fieldLink own idx (T k).1 (T k).2.1 (T k).2.2.1 ∈ am_big) {h : am_H} (hH : hr_ G H h) {n : Nat} (hn : (n : Int) < nn_ h) (hkd : kd_ h n = ci) {pc : Nat} {ls : Array Slot} {rest : List Value} (hd : decode cc pc = .ok (.getfield idx, 3))
    (kk : W p l e R s m args below meth c H locs cells slots Q (F0 m (pc + 3) ls (vs_ G h n k :: rest))) : W p l e R s m args below meth c H locs cells slots Q (F0 m pc ls (.ref (G.2.1 + n) :: rest)) := by
  obtain ⟨hx, hb, hml, hown, hts, hev, hB, hR, hlocks, hret, hini⟩ := X
  obtain ⟨rr, h1, cell, q1, q2, q3, q4⟩ := (hH.2.2 n hn).1 (by rw [hkd]; exact vw_lt hc)
  rw [hkd] at h1 q2 q4
  have hr : rr = (C, T, N) := Option.some.inj (h1.symm.trans hc)
  subst hr
  obtain ⟨hS, hfc, kC, hkC, hkind⟩ := hev.1.1 ci _ hc
  obtain ⟨cf, kf, fi, f, hi, hsl⟩ := hS k hk
  refine W.getf hx hb hown (hts _ hl) hi (u_facts hfc hkC (u_lays hts hin hk) hi).1 q1 (by rw [q3]; exact fun h => by cases h) (v := vs_ G h n k) ?_ rfl rfl hd kk
  rw [hsl, q4 k hk]
/-- the heap behind a write at one cell -/
theorem hr_upd {h h' : am_H} {H' : Heap} (hH : hr_ G H h) {n : Nat} (hm : h'.2.2 = h.2.2) (hq : ∀ a : Int, a ≠ n → ∀ j, rd_ h' a j = rd_ h a j ∧ rf_ h' a j = rf_ h a j) (z : H'.size = H.size) (oq : ∀ q : Nat, q ≠ G.2.1 + n → H'[q]? = H[q]?) (hat : at_ G h' H' n) (hoh : oh_ h') : hr_ G H' h' := by
  have ek : ∀ a, kd_ h' a = kd_ h a := fun a => by unfold kd_; rw [hm]
  have el : ∀ a, ln_ h' a = ln_ h a := fun a => by unfold ln_; rw [hm]
  have en : nn_ h' = nn_ h := by unfold nn_; rw [hm]
  refine ⟨by rw [z, en]; exact hH.1, hoh, fun a ha => ?_⟩
  by_cases hc : a = n
  · subst hc; exact hat
  · have hv : vs_ G h' a = vs_ G h a := by
      funext j
      unfold vs_
      rw [ek, (hq a (by omega) j).1, (hq a (by omega) j).2]
    have h1 := hH.2.2 a (by rw [← en]; exact ha)
    have e1 : H'[G.2.1 + a]? = H[G.2.1 + a]? := oq _ (by omega)
    refine ⟨fun hk => ?_, fun hk1 hk2 => ?_⟩
    · rw [ek] at hk ⊢
      obtain ⟨rr, q1, cell, q2, q3⟩ := h1.1 hk
      refine ⟨rr, q1, cell, by rw [e1]; exact q2, ?_⟩
      rw [hv]; exact q3
    · rw [ek] at hk1 hk2 ⊢
      rw [e1, el, hv]
      exact h1.2 hk1 hk2
theorem os_wr {h : am_H} (hoh : oh_ h) {n : Int} {k v : Int} (hv : os_ h.2.2 (sl_ (kd_ h n) k) v (rf_ h n k)) : oh_ (wr_ h n k v) := by
  refine ⟨fun a h1 h2 j => ?_, hoh.2⟩
  have h3 := hoh.1 a h1 h2 j
  by_cases hc : a = n ∧ j = k
  · obtain ⟨rfl, rfl⟩ := hc
    have e : rd_ (wr_ h a j v) a j = v := by unfold rd_ wr_; simp
    rw [e]; exact hv
  · have e : rd_ (wr_ h n k v) a j = rd_ h a j := by unfold rd_ wr_; simp [hc]
    rw [e]; exact h3
theorem os_wf {h : am_H} (hoh : oh_ h) {n : Int} {k v : Int} (hv : os_ h.2.2 (sl_ (kd_ h n) k) (rd_ h n k) v) : oh_ (wf_ h n k v) := by
  refine ⟨fun a h1 h2 j => ?_, hoh.2⟩
  have h3 := hoh.1 a h1 h2 j
  by_cases hc : a = n ∧ j = k
  · obtain ⟨rfl, rfl⟩ := hc
    have e : rf_ (wf_ h a j v) a j = v := by unfold rf_ wf_; simp
    rw [e]; exact hv
  · have e : rf_ (wf_ h n k v) a j = rf_ h a j := by unfold rf_ wf_; simp [hc]
    rw [e]; exact h3
theorem vs_wr {h : am_H} {n k : Nat} {v : Int} : vs_ G (wr_ h n k v) n = updV (vs_ G h n) k (sv_ G (sl_ (kd_ h n) k) v (rf_ h n k)) := by
  funext j
  unfold updV vs_
  by_cases hj : j = k
  · subst hj
    rw [if_pos rfl]
    have e : rd_ (wr_ h n j v) n j = v := by unfold rd_ wr_; simp
    rw [e]; rfl
  · rw [if_neg hj]
    have e : rd_ (wr_ h n k v) n j = rd_ h n j := by unfold rd_ wr_; simp; omega
    rw [e]; rfl
theorem vs_wf {h : am_H} {n k : Nat} {v : Int} : vs_ G (wf_ h n k v) n = updV (vs_ G h n) k (sv_ G (sl_ (kd_ h n) k) (rd_ h n k) v) := by
  funext j
  unfold updV vs_
  by_cases hj : j = k
  · subst hj
    rw [if_pos rfl]
    have e : rf_ (wf_ h n j v) n j = v := by unfold rf_ wf_; simp
    rw [e]; rfl
  · rw [if_neg hj]
    have e : rf_ (wf_ h n k v) n j = rf_ h n j := by unfold rf_ wf_; simp; omega
    rw [e]; rfl
theorem wr_o {h : am_H} {n : Nat} {k v : Int} : ∀ a : Int, a ≠ n → ∀ j, rd_ (wr_ h n k v) a j = rd_ h a j ∧ rf_ (wr_ h n k v) a j = rf_ h a j := by
  intro a ha j
  refine ⟨?_, rfl⟩
  unfold rd_ wr_
  exact if_neg (fun q => ha q.1)
theorem wf_o {h : am_H} {n : Nat} {k v : Int} : ∀ a : Int, a ≠ n → ∀ j, rd_ (wf_ h n k v) a j = rd_ h a j ∧ rf_ (wf_ h n k v) a j = rf_ h a j := by
  intro a ha j
  refine ⟨rfl, ?_⟩
  unfold rf_ wf_
  exact if_neg (fun q => ha q.1)
/-- a field is written: v' the machine's value, h' the heap that follows -/
theorem w_put (X : cx_ p R s m args meth c G own cc FR LO nL ini ret h0 r) {ci k idx : Nat} {C : String} {T : u_T} {N : Nat} (hc : vwCl[ci]? = some (C, T, N)) (hk : k < N) (hin : ∀ w ∈ u_ws C T N, w ∈ am_big)
    {ty0 : Nat → FieldType} (hty : ∀ k, k < N → parseFieldDescriptor (T k).2.2.1 = some (ty0 k)) (hnm : ∀ a, a < N → ∀ b, b < N → a ≠ b → (T a).2.1 ≠ (T b).2.1)
    (hl : Cond.fieldLink own idx (T k).1 (T k).2.1 (T k).2.2.1 ∈ am_big) (hfin : (T k).2.2.2 = false ∨ ((T k).2.2.2 = true ∧ ini = true ∧ (T k).1 = own))
    {h h' : am_H} (hH : hr_ G H h) (hS0 : va_S (ar_ G) s.heap H locs) {n : Nat} (hn : (n : Int) < nn_ h) (hkd : kd_ h n = ci) {v : Value} (hna : narrow (ty0 k) v = v) (hfit : fits (ty0 k) v = true)
    (hm : h'.2.2 = h.2.2) (hq : ∀ a : Int, a ≠ n → ∀ j, rd_ h' a j = rd_ h a j ∧ rf_ h' a j = rf_ h a j) (hvs : vs_ G h' n = updV (vs_ G h n) k v) (hoh : oh_ h')
    {pc : Nat} {ls : Array Slot} {rest : List Value} (hd : decode cc pc = .ok (.putfield idx, 3))
    (kk : ∀ (H1 : Heap) (locs1 : List Loc), hr_ G H1 h' → va_S (ar_ G) s.heap H1 locs1 → W p l e R s m args below meth c H1 locs1 cells slots Q (F0 m (pc + 3) ls rest)) : W p l e R s m args below meth c H locs cells slots Q (F0 m pc ls (v :: .ref (G.2.1 + n) :: rest)) := by
  obtain ⟨hx, hb, hml, hown, hts, hev, hB, hR, hlocks, hret, hini⟩ := X
  obtain ⟨rr, h1, cell, q1, q2, q3, q4⟩ := (hH.2.2 n hn).1 (by rw [hkd]; exact vw_lt hc)
  rw [hkd] at h1 q2 q4
  have hr : rr = (C, T, N) := Option.some.inj (h1.symm.trans hc)
  subst hr
  have hap := va_apart (own := own) hts hin ty0 hty hnm hev.1 hc
  obtain ⟨hS, hfc, kC, hkC, hkind⟩ := hev.1.1 ci _ hc
  obtain ⟨cf, kf, fi, f, hi, hsl⟩ := hS k hk
  have hlay := hts _ (hin _ (u_in_lay hk))
  have hst := (u_facts hfc hkC (u_lays hts hin hk) hi).1
  have done : ∀ H' : Heap, H'[G.2.1 + n]? = some (cell.setSlot (G.1.2 ci k) v) → H'.size = H.size → (∀ q, q ≠ G.2.1 + n → H'[q]? = H[q]?) → hr_ G H' h' := by
    intro H' e1 e2 e3
    refine hr_upd hH hm hq e2 e3 ⟨fun hk1 => ?_, fun hk1 hk2 => ?_⟩ hoh
    · have ek : kd_ h' n = ci := by rw [← hkd]; unfold kd_; rw [hm]
      rw [ek]
      refine ⟨_, hc, _, e1, q2, q3, ?_⟩
      rw [hvs]
      exact t_set q4 hap hk v
    · have ek : kd_ h' n = ci := by rw [← hkd]; unfold kd_; rw [hm]
      have := vw_lt hc
      omega
  rcases hfin with hfin | ⟨hfin, hini1, hdecl⟩
  · unfold u_lay at hlay
    rw [if_neg (by rw [hfin]; decide)] at hlay
    have h6 := u_store hfc hkC hkind hlay hi (hty k hk) hna hfit
    refine W.putK hx hb (f := f) ⟨hown, hts _ hl, ⟨_, _, _, hi⟩, hst⟩ (by rw [q2]; exact h6) q1 q3 (by rw [hsl]; exact k2_hasslot (q4 k hk)) rfl rfl hd fun H' e1 e2 e3 => ?_
    rw [hsl] at e1
    exact kk H' _ (done H' e1 e2 e3) (hS0.put e2 e3 (by show G.2.1 ≤ _; omega))
  · unfold u_lay at hlay
    rw [if_pos hfin] at hlay
    have hcf : m.cls = cf := by
      obtain ⟨_, _, c', _, _, _, -, -, hf', -, -, -, hown2, -⟩ := Cond.laysFinal_spec hlay
      have e1 : c' = cf := by have := hi.symm.trans hf'; simp at this; exact this.1.symm
      rw [hdecl] at hown2
      rw [← e1]; exact Option.some.inj (hown.symm.trans hown2)
    have h6 := u_fits hfc hkC hkind (Or.inr hlay) hi (hty k hk) hna hfit
    refine W.putFinK hx hb hown (hts _ hl) hi hst hcf (hini hini1) (by rw [q2]; exact h6) q1 q3 (by rw [hsl]; exact k2_hasslot (q4 k hk)) rfl rfl hd fun H' e1 e2 e3 => ?_
    rw [hsl] at e1
    exact kk H' _ (done H' e1 e2 e3) (hS0.put e2 e3 (by show G.2.1 ≤ _; omega))
/-- an array's cell -/
theorem w_arr {h : am_H} (hH : hr_ G H h) {n : Nat} (hn : (n : Int) < nn_ h) {kind : Nat} (hkd : kd_ h n = kind) (h1 : 20 ≤ kind) (h2 : kind < 25) : H[G.2.1 + n]? = some (arrV (G.2.2.1 kind) (ln_ h n).toNat (vs_ G h n)) := by
  have := (hH.2.2 n hn).2 (by rw [hkd]; exact h1) (by rw [hkd]; exact h2)
  rw [hkd] at this
  exact this
/-- an array's cell behind a store -/
theorem hr_ast {h h' : am_H} {H' : Heap} (hH : hr_ G H h) {n : Nat} (hn : (n : Int) < nn_ h) {kind : Nat} (hkd : kd_ h n = kind) (h1 : 20 ≤ kind) (h2 : kind < 25) (hm : h'.2.2 = h.2.2) (hq : ∀ a : Int, a ≠ n → ∀ j, rd_ h' a j = rd_ h a j ∧ rf_ h' a j = rf_ h a j)
    (z : H'.size = H.size) (oq : ∀ q : Nat, q ≠ G.2.1 + n → H'[q]? = H[q]?) {k : Nat} {v : Value} (e1 : H'[G.2.1 + n]? = some ((arrV (G.2.2.1 kind) (ln_ h n).toNat (vs_ G h n)).setSlot k v)) (hvs : vs_ G h' n = updV (vs_ G h n) k v) (hoh : oh_ h') : hr_ G H' h' := by
  have ek : kd_ h' n = kind := by rw [← hkd]; unfold kd_; rw [hm]
  have el : ln_ h' n = ln_ h n := by unfold ln_; rw [hm]
  refine hr_upd hH hm hq z oq ⟨fun hk => ?_, fun _ _ => ?_⟩ hoh
  · rw [ek] at hk; omega
  · rw [ek, el, e1, arrV_store, hvs]
theorem ln_ok {h : am_H} (hoh : oh_ h) {n : Nat} (hn : (n : Int) < nn_ h) {kind : Nat} (hkd : kd_ h n = kind) (h1 : 20 ≤ kind) : 0 ≤ ln_ h n ∧ ln_ h n ≤ 1000000 := hoh.2.1 n (by omega) hn (by rw [hkd]; exact h1)
end Heap
