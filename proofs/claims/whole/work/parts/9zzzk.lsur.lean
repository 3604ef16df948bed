/-! the surroundings at the law's entry -/
theorem tbl_1 (i : Nat) {w : Cond} (hi : tables_1_1[i]? = some w) : w ∈ lw_tbl := by
  have h : w ∈ tables_1_1 := List.mem_of_getElem? hi
  exact List.mem_append_right _ (show w ∈ tables_1 from List.mem_append_left _ h)
theorem tbl_2 (i : Nat) {w : Cond} (hi : tables_1_2[i]? = some w) : w ∈ lw_tbl := by
  have h : w ∈ tables_1_2 := List.mem_of_getElem? hi
  exact List.mem_append_right _ (show w ∈ tables_1 from List.mem_append_right _ (List.mem_append_left _ h))
theorem tbl_3 (i : Nat) {w : Cond} (hi : tables_1_3[i]? = some w) : w ∈ lw_tbl := by
  have h : w ∈ tables_1_3 := List.mem_of_getElem? hi
  exact List.mem_append_right _ (show w ∈ tables_1 from List.mem_append_right _ (List.mem_append_right _ (List.mem_append_left _ h)))
theorem tbl_4 (i : Nat) {w : Cond} (hi : tables_1_4[i]? = some w) : w ∈ lw_tbl := by
  have h : w ∈ tables_1_4 := List.mem_of_getElem? hi
  exact List.mem_append_right _ (show w ∈ tables_1 from List.mem_append_right _ (List.mem_append_right _ (List.mem_append_right _ (List.mem_append_left _ h))))
theorem tbl_5 (i : Nat) {w : Cond} (hi : tables_1_5[i]? = some w) : w ∈ lw_tbl := by
  have h : w ∈ tables_1_5 := List.mem_of_getElem? hi
  exact List.mem_append_right _ (show w ∈ tables_1 from List.mem_append_right _ (List.mem_append_right _ (List.mem_append_right _ (List.mem_append_right _ (List.mem_append_left _ h)))))
theorem tbl_6 (i : Nat) {w : Cond} (hi : tables_1_6[i]? = some w) : w ∈ lw_tbl := by
  have h : w ∈ tables_1_6 := List.mem_of_getElem? hi
  exact List.mem_append_right _ (show w ∈ tables_1 from List.mem_append_right _ (List.mem_append_right _ (List.mem_append_right _ (List.mem_append_right _ (List.mem_append_right _ (List.mem_append_left _ h))))))
theorem tbl_7 (i : Nat) {w : Cond} (hi : tables_1_7[i]? = some w) : w ∈ lw_tbl := by
  have h : w ∈ tables_1_7 := List.mem_of_getElem? hi
  exact List.mem_append_right _ (show w ∈ tables_1 from List.mem_append_right _ (List.mem_append_right _ (List.mem_append_right _ (List.mem_append_right _ (List.mem_append_right _ (List.mem_append_right _ (List.mem_append_left _ h)))))))
theorem tbl_8 (i : Nat) {w : Cond} (hi : tables_1_8[i]? = some w) : w ∈ lw_tbl := by
  have h : w ∈ tables_1_8 := List.mem_of_getElem? hi
  exact List.mem_append_right _ (show w ∈ tables_1 from List.mem_append_right _ (List.mem_append_right _ (List.mem_append_right _ (List.mem_append_right _ (List.mem_append_right _ (List.mem_append_right _ (List.mem_append_right _ (List.mem_append_left _ h))))))))
theorem tbl_9 (i : Nat) {w : Cond} (hi : tables_1_9[i]? = some w) : w ∈ lw_tbl := by
  have h : w ∈ tables_1_9 := List.mem_of_getElem? hi
  exact List.mem_append_right _ (show w ∈ tables_1 from List.mem_append_right _ (List.mem_append_right _ (List.mem_append_right _ (List.mem_append_right _ (List.mem_append_right _ (List.mem_append_right _ (List.mem_append_right _ (List.mem_append_right _ (List.mem_append_left _ h)))))))))
theorem tbl_10 (i : Nat) {w : Cond} (hi : tables_1_10[i]? = some w) : w ∈ lw_tbl := by
  have h : w ∈ tables_1_10 := List.mem_of_getElem? hi
  exact List.mem_append_right _ (show w ∈ tables_1 from List.mem_append_right _ (List.mem_append_right _ (List.mem_append_right _ (List.mem_append_right _ (List.mem_append_right _ (List.mem_append_right _ (List.mem_append_right _ (List.mem_append_right _ (List.mem_append_right _ (h))))))))))
theorem ar_of {args : Array Value} {s : State} {ty : FieldType} (h : (Cond.arrayClass ty).before args s = true) : ∃ (cA : ClassId) (kA : Class) (comp : ClassId), s.vm.findClass ("[" ++ ty.toString) = some cA ∧ s.vm.classes[cA]? = some kA ∧ kA.kind = .array comp ty := Cond.arrayClass_spec h
theorem kn_all {args : Array Value} {s : State} (hbig : ∀ w ∈ am_big, w.before args s = true) : ∀ c : Nat, ∃ q9 : ClassId × (Nat → Nat), ∀ q : vw_C, vwCl[c]? = some q → u_Kn s q.1 q.2.1 q.2.2 q9.1 q9.2 := fun c => match c with
  | 0 => by
    obtain ⟨cC, iS, h⟩ := u_known hbig in_0 (hbig _ wi_X0)
    exact ⟨(cC, iS), fun q hq => by cases hq; exact h⟩
  | 1 => by
    obtain ⟨cC, iS, h⟩ := u_known hbig in_1 (hbig _ wi_X1)
    exact ⟨(cC, iS), fun q hq => by cases hq; exact h⟩
  | 2 => by
    obtain ⟨cC, iS, h⟩ := u_known hbig in_2 (hbig _ wi_X2)
    exact ⟨(cC, iS), fun q hq => by cases hq; exact h⟩
  | 3 => by
    obtain ⟨cC, iS, h⟩ := u_known hbig in_3 (hbig _ wi_X3)
    exact ⟨(cC, iS), fun q hq => by cases hq; exact h⟩
  | 4 => by
    obtain ⟨cC, iS, h⟩ := u_known hbig in_4 (hbig _ wi_X4)
    exact ⟨(cC, iS), fun q hq => by cases hq; exact h⟩
  | 5 => by
    obtain ⟨cC, iS, h⟩ := u_known hbig in_5 (hbig _ wi_X5)
    exact ⟨(cC, iS), fun q hq => by cases hq; exact h⟩
  | 6 => by
    obtain ⟨cC, iS, h⟩ := u_known hbig in_6 (hbig _ wi_X6)
    exact ⟨(cC, iS), fun q hq => by cases hq; exact h⟩
  | 7 => by
    obtain ⟨cC, iS, h⟩ := u_known hbig in_7 (hbig _ wi_X7)
    exact ⟨(cC, iS), fun q hq => by cases hq; exact h⟩
  | 8 => by
    obtain ⟨cC, iS, h⟩ := u_known hbig in_8 (hbig _ wi_X8)
    exact ⟨(cC, iS), fun q hq => by cases hq; exact h⟩
  | 9 => by
    obtain ⟨cC, iS, h⟩ := u_known hbig in_9 (hbig _ wi_X9)
    exact ⟨(cC, iS), fun q hq => by cases hq; exact h⟩
  | 10 => by
    obtain ⟨cC, iS, h⟩ := u_known hbig in_10 (hbig _ wi_X10)
    exact ⟨(cC, iS), fun q hq => by cases hq; exact h⟩
  | 11 => by
    obtain ⟨cC, iS, h⟩ := u_known hbig in_11 (hbig _ wi_X11)
    exact ⟨(cC, iS), fun q hq => by cases hq; exact h⟩
  | 12 => by
    obtain ⟨cC, iS, h⟩ := u_known hbig in_12 (hbig _ wi_X12)
    exact ⟨(cC, iS), fun q hq => by cases hq; exact h⟩
  | n + 13 => ⟨((0 : Nat), fun _ => 0), fun q hq => by cases hq⟩
theorem ar_all {args : Array Value} {s : State} (hbig : ∀ w ∈ am_big, w.before args s = true) (hAO : (Cond.arrayOver (.object "PlatePiles$Chart")).before args s = true) : ∃ A : Nat → ClassId, ∀ (k : Nat) (q : ClassId × FieldType), ([(A 20, .int), (A 21, .byte), (A 22, .boolean), (A 23, .long), (A 24, .object "PlatePiles$Chart")] : List (ClassId × FieldType))[k]? = some q → ArrOfT s q.1 q.2 ∧ va_RA s q.1 q.2 := by
  obtain ⟨c0, k0, p0, a0, b0, d0⟩ := ar_of (hbig _ wa_int)
  obtain ⟨c1, k1, p1, a1, b1, d1⟩ := ar_of (hbig _ wa_byte)
  obtain ⟨c2, k2, p2, a2, b2, d2⟩ := ar_of (hbig _ wa_boolean)
  obtain ⟨c3, k3, p3, a3, b3, d3⟩ := ar_of (hbig _ wa_long)
  obtain ⟨comp, c4, k4, h1, h2, h3, h4, h5⟩ := Cond.arrayOver_spec hAO
  refine ⟨fun k => if k = 20 then c0 else if k = 21 then c1 else if k = 22 then c2 else if k = 23 then c3 else c4, fun k q hq => ?_⟩
  match k, hq with
  | 0, hq => cases hq; exact ⟨fun n z => ⟨fun k h => (by cases h), k0, b0, p0, d0⟩, a0⟩
  | 1, hq => cases hq; exact ⟨fun n z => ⟨fun k h => (by cases h), k1, b1, p1, d1⟩, a1⟩
  | 2, hq => cases hq; exact ⟨fun n z => ⟨fun k h => (by cases h), k2, b2, p2, d2⟩, a2⟩
  | 3, hq => cases hq; exact ⟨fun n z => ⟨fun k h => (by cases h), k3, b3, p3, d3⟩, a3⟩
  | 4, hq => cases hq; exact ⟨fun n z => ⟨fun k h => (by cases h), k4, h3, comp, h4⟩, ⟨k4, comp, h3, h4, h1, h5⟩⟩
  | n + 5, hq => cases hq
