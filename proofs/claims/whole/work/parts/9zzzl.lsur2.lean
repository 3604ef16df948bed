/-! the surroundings at the law's entry, all of them -/
theorem xe_F : ∀ j : Nat, j < 6 → Cond.eq (.elem (.static "PlatePiles" "FACTORIAL" "[I") (.int (Int32.ofNat j))) (.int (Int32.ofInt (fa_.getD j 0))) ∈ flatC (Jvm.Cond.and given_1 narrow_1) := by decide +kernel
theorem xe_P : ∀ j : Nat, j < 5 → Cond.eq (.elem (.static "PlatePiles" "POWER_OF_FIVE" "[I") (.int (Int32.ofNat j))) (.int (Int32.ofInt (pf_.getD j 0))) ∈ flatC (Jvm.Cond.and given_1 narrow_1) := by decide +kernel
theorem xe_T : ∀ j : Nat, j < 104 → Cond.eq (.elem (.field (.string "PlatePiles$Tokens" 19) "java/lang/String" "value" "[B") (.int (Int32.ofNat j))) (.int (Int32.ofInt (tx_.getD j 0))) ∈ flatC (Jvm.Cond.and given_1 narrow_1) := by decide +kernel
theorem st_ad {args : Array Value} {s : State} {t : Term} (h : (Cond.exactly t "java/lang/String").before args s = true) : ∃ a : Nat, t.eval args s none [] s = some (.ref a) := by
  obtain ⟨a, c, cA, kA, q1, -⟩ := Cond.exactly_spec (args := args) (first := s) (o := none) (s := s) (idx := []) (t := t) (cls := "java/lang/String") h
  exact ⟨a, q1⟩
theorem sur_all {args : Array Value} {s : State} {b : Nat} (hts : ∀ w ∈ lw_tbl, w.before args s = true) (hgv : (Jvm.Cond.and given_1 narrow_1).before args s = true) : ∃ (G : am_G) (z1 z2 : Nat), G.2.1 = s.heap.size ∧ G.2.2.2.1 5 = b ∧ ew_ G z1 z2 s s.heap := by
  have hbig : ∀ w ∈ am_big, w.before args s = true := fun w hw => hts w (List.mem_filter.mp hw).1
  have hs := flat_of_before _ hgv
  have hA : ∀ a : Nat, a < s.heap.size → ¬ (fun q : Nat => s.heap.size ≤ q) a := fun a h q => absurd h (Nat.not_lt.mpr q)
  obtain ⟨D0, hD0⟩ := Classical.axiomOfChoice (kn_all hbig)
  obtain ⟨AC, hAC⟩ := ar_all hbig (hts _ (tbl_2 214 rfl))
  obtain ⟨tF, eF, hF⟩ := va_Tof (tm := .static "PlatePiles" "FACTORIAL" "[I") (ty := .int) (N := 6) (f := fun j => .int (Int32.ofInt (fa_.getD j 0))) (A := fun q => s.heap.size ≤ q) (by decide) (hs _ (by decide +kernel)) (va_eqt (hs _ (by decide +kernel))) (fun j hj => va_eqt (hs _ (xe_F j hj))) hA
  have zF := va_Zof (hts _ (tbl_4 197 rfl)) (hts _ (tbl_1 1 rfl)) eF hA
  obtain ⟨tP, eP, hP⟩ := va_Tof (tm := .static "PlatePiles" "POWER_OF_FIVE" "[I") (ty := .int) (N := 5) (f := fun j => .int (Int32.ofInt (pf_.getD j 0))) (A := fun q => s.heap.size ≤ q) (by decide) (hs _ (by decide +kernel)) (va_eqt (hs _ (by decide +kernel))) (fun j hj => va_eqt (hs _ (xe_P j hj))) hA
  have zP := va_Zof (hts _ (tbl_5 164 rfl)) (hts _ (tbl_1 1 rfl)) eP hA
  obtain ⟨tV, eV, hV⟩ := va_Tof (tm := .field (.string "PlatePiles$Tokens" 19) "java/lang/String" "value" "[B") (ty := .byte) (N := 104) (f := fun j => .int (Int32.ofInt (tx_.getD j 0))) (A := fun q => s.heap.size ≤ q) (by decide) (hs _ (by decide +kernel)) (va_eqt (hs _ (by decide +kernel))) (fun j hj => va_eqt (hs _ (xe_T j hj))) hA
  obtain ⟨tS, eS⟩ := st_ad (t := .string "PlatePiles$Tokens" 19) (hs (Cond.exactly (.string "PlatePiles$Tokens" 19) "java/lang/String") (by decide +kernel))
  have oS : va_O "java/lang/String" tS (fun q => s.heap.size ≤ q) s s.heap := va_Oof (hs (Cond.exactly (.string "PlatePiles$Tokens" 19) "java/lang/String") (by decide +kernel)) eS hA
  have cS : va_OF "java/lang/String" "coder" "B" (.int 0) tS (fun q => s.heap.size ≤ q) s s.heap := vk_OFof eS (va_eqt (hs (Cond.eq (.field (.string "PlatePiles$Tokens" 19) "java/lang/String" "coder" "B") (.int 0)) (by decide +kernel))) hA
  have vS : va_OF "java/lang/String" "value" "[B" (.ref tV) tS (fun q => s.heap.size ≤ q) s s.heap := vk_OFof eS eV hA
  have zC : va_Z "java/lang/String" "COMPACT_STRINGS" "Z" (.int 1) (fun q => s.heap.size ≤ q) s s.heap := va_Zof (hts _ (tbl_1 55 rfl)) (hts _ (tbl_1 4 rfl)) (va_eqt (hs (Cond.eq (.static "java/lang/String" "COMPACT_STRINGS" "Z") (.int 1)) (by decide +kernel))) hA
  obtain ⟨vF, cF, hvF⟩ : ∃ v : Value, v.category = 1 ∧ va_Z "jdk/internal/util/Preconditions" "SIOOBE_FORMATTER" "Ljava/util/function/BiFunction;" v (fun q => s.heap.size ≤ q) s s.heap := by
    rcases va_Zqof (A := fun q => s.heap.size ≤ q) (hts _ (tbl_1 71 rfl)) (hts _ (tbl_1 6 rfl)) (hs (Cond.isRef (.static "jdk/internal/util/Preconditions" "SIOOBE_FORMATTER" "Ljava/util/function/BiFunction;")) (by decide +kernel)) hA with q | ⟨t, q⟩
    · exact ⟨_, rfl, q⟩
    · exact ⟨_, rfl, q⟩
  have zU : vx_Zq Bundle.tN "UNASSIGNED_STACK" Bundle.steD (fun q => s.heap.size ≤ q) s s.heap := vx_Zqof (hts _ (tbl_6 130 rfl)) (hts _ (tbl_1 18 rfl)) (hs (Cond.isRef (.static "java/lang/Throwable" "UNASSIGNED_STACK" "[Ljava/lang/StackTraceElement;")) (by decide +kernel)) hA
  have zN : vx_Zq Bundle.tN "SUPPRESSED_SENTINEL" Bundle.listD (fun q => s.heap.size ≤ q) s s.heap := vx_Zqof (hts _ (tbl_6 132 rfl)) (hts _ (tbl_1 18 rfl)) (hs (Cond.isRef (.static "java/lang/Throwable" "SUPPRESSED_SENTINEL" "Ljava/util/List;")) (by decide +kernel)) hA
  obtain ⟨z1, y1⟩ := st_ad (t := .string "PlatePiles" 153) (hs (Cond.exactly (.string "PlatePiles" 153) "java/lang/String") (by decide +kernel))
  obtain ⟨z2, y2⟩ := st_ad (t := .string "PlatePiles" 176) (hs (Cond.exactly (.string "PlatePiles" 176) "java/lang/String") (by decide +kernel))
  have rr : ∀ {own tx : String} {k a : Nat}, (Cond.stringRef own k tx).before args s = true → (Term.string own k).eval args s none [] s = some (.ref a) → vk_R own k tx a s := fun h1 h2 => vk_R.of h1 (by rw [Term.string_eval_of_vm (args := args) (U := s) rfl]; exact h2)
  refine ⟨((fun c => (D0 c).1, fun c => (D0 c).2), s.heap.size, AC, fun i => if i = 0 then tF else if i = 1 then tP else if i = 5 then b else if i = 10 then tS else tV, vF), z1, z2, rfl, rfl, ⟨⟨fun c q hq => hD0 c q hq, hAC⟩, cF, zF, hF, zP, hP, fun w hw => ?_, fun q hq => ?_, va_AO.of (hts _ (tbl_2 214 rfl)), rr (hts _ (tbl_1 45 rfl)) eS, ⟨oS, cS, vS, hV⟩, zC, hvF⟩, zU, zN, rr (hts _ (tbl_6 143 rfl)) y1, rr (hts _ (tbl_6 179 rfl)) y2, va_Nc.of (hs (Cond.not (.castable "java/util/NoSuchElementException" "java/lang/IndexOutOfBoundsException")) (by decide +kernel)), va_Nw.of rfl (hts _ (tbl_6 105 rfl)), va_Nw.of rfl (hts _ (tbl_6 172 rfl)), va_Nw.of rfl (hts _ (tbl_6 107 rfl)), va_Nw.of rfl (hts _ (tbl_6 109 rfl)), va_Nw.of rfl (hts _ (tbl_6 111 rfl))⟩
  · simp only [nw_l, List.mem_cons, List.not_mem_nil, or_false] at hw
    rcases hw with rfl | rfl
    · exact va_Nw.of rfl (hts _ (tbl_4 196 rfl))
    · exact va_Nw.of rfl (hts _ (tbl_4 220 rfl))
  · simp only [nm_l, List.mem_cons, List.not_mem_nil, or_false] at hq
    rcases hq with rfl | rfl | rfl | rfl | rfl
    · exact va_Nw.of rfl (hts _ (tbl_3 79 rfl))
    · exact va_Nw.of rfl (hts _ (tbl_3 110 rfl))
    · exact va_Nw.of rfl (hts _ (tbl_4 198 rfl))
    · exact va_Nw.of rfl (hts _ (tbl_4 201 rfl))
    · exact va_Nw.of rfl (hts _ (tbl_5 35 rfl))
