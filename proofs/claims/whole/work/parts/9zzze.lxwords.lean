/-! the words of the two throws -/
theorem xm_T {s : State} : ∀ w ∈ Bundle.throwableAtoms.filter vx_no, xw_ok s w := by
  intro w hw
  obtain ⟨hw, hv⟩ := List.mem_filter.mp hw
  simp only [Bundle.throwableAtoms, List.mem_cons, List.not_mem_nil, or_false] at hw
  rcases hw with rfl | rfl | rfl | rfl | rfl | rfl | rfl | rfl | rfl | rfl | rfl | rfl | rfl | rfl | rfl | rfl | rfl | rfl | rfl | rfl | rfl | rfl | rfl | rfl
  · exact Or.inl (bt_1 18 rfl rfl)
  · exact Or.inl (bt_6 125 rfl rfl)
  · exact Or.inl (bt_6 134 rfl rfl)
  · exact Or.inl (bt_6 137 rfl rfl)
  · exact Or.inl (bt_6 140 rfl rfl)
  · exact Or.inl (bt_6 142 rfl rfl)
  · exact Or.inl (bt_6 126 rfl rfl)
  · exact Or.inl (bt_6 127 rfl rfl)
  · exact Or.inl (bt_1 31 rfl rfl)
  · exact Or.inl (bt_1 32 rfl rfl)
  · exact Or.inl (bt_6 128 rfl rfl)
  · exact Or.inl (bt_6 133 rfl rfl)
  · exact Or.inl (bt_6 138 rfl rfl)
  · exact Or.inl (bt_6 158 rfl rfl)
  · exact Or.inl (bt_6 115 rfl rfl)
  · exact Or.inl (bt_6 159 rfl rfl)
  · exact Or.inl (bt_6 117 rfl rfl)
  · exact Or.inl (bt_6 160 rfl rfl)
  · exact Or.inl (bt_6 119 rfl rfl)
  · exact Or.inl (bt_6 129 rfl rfl)
  · simp [vx_no] at hv
  · exact Or.inl (bt_6 131 rfl rfl)
  · simp [vx_no] at hv
  · exact Or.inl (bt_6 121 rfl rfl)
theorem xm_S {s : State} : ∀ w ∈ Bundle.throwableSAtoms, xw_ok s w := by
  intro w hw
  simp only [Bundle.throwableSAtoms, List.mem_cons, List.not_mem_nil, or_false] at hw
  rcases hw with rfl | rfl | rfl | rfl
  · exact Or.inl (bt_6 154 rfl rfl)
  · exact Or.inl (bt_6 155 rfl rfl)
  · exact Or.inl (bt_6 157 rfl rfl)
  · exact Or.inl (bt_6 121 rfl rfl)
theorem xm_R {s : State} (d : va_Nw (.declares (Bundle.initS "java/lang/Exception")) s) : ∀ w ∈ Bundle.passSAtoms "java/lang/RuntimeException" "java/lang/Exception" 7 Bundle.six, xw_ok s w := by
  intro w hw
  simp only [Bundle.passSAtoms, List.mem_cons, List.not_mem_nil, or_false] at hw
  rcases hw with rfl | rfl | rfl | rfl | rfl
  · exact Or.inl (bt_6 148 rfl rfl)
  · exact Or.inl (bt_6 149 rfl rfl)
  · exact Or.inl (bt_6 150 rfl rfl)
  · exact Or.inl (bt_6 151 rfl rfl)
  · exact Or.inr ⟨rfl, d⟩
theorem xm_E {s : State} (d : va_Nw (.declares (Bundle.initS Bundle.tN)) s) : ∀ w ∈ Bundle.passSAtoms "java/lang/Exception" Bundle.tN 7 Bundle.six, xw_ok s w := by
  intro w hw
  simp only [Bundle.passSAtoms, List.mem_cons, List.not_mem_nil, or_false] at hw
  rcases hw with rfl | rfl | rfl | rfl | rfl
  · exact Or.inl (bt_6 151 rfl rfl)
  · exact Or.inl (bt_6 152 rfl rfl)
  · exact Or.inl (bt_6 153 rfl rfl)
  · exact Or.inl (bt_6 154 rfl rfl)
  · exact Or.inr ⟨rfl, d⟩
theorem xm_C {s : State} (d1 : va_Nw (.declares (Bundle.initS "java/lang/Exception")) s) (d2 : va_Nw (.declares (Bundle.initS Bundle.tN)) s) : ∀ w ∈ Bundle.chainSAtoms "java/lang/RuntimeException" ["java/lang/Exception"], xw_ok s w := List.forall_mem_append.mpr ⟨xm_R d1, xm_E d2⟩
theorem xm_P1 {s : State} (d : va_Nw (.declares (Bundle.initS "java/lang/RuntimeException")) s) : ∀ w ∈ Bundle.passSAtoms "java/lang/IndexOutOfBoundsException" "java/lang/RuntimeException" 7 Bundle.six, xw_ok s w := by
  intro w hw
  simp only [Bundle.passSAtoms, List.mem_cons, List.not_mem_nil, or_false] at hw
  rcases hw with rfl | rfl | rfl | rfl | rfl
  · exact Or.inl (bt_6 145 rfl rfl)
  · exact Or.inl (bt_6 146 rfl rfl)
  · exact Or.inl (bt_6 147 rfl rfl)
  · exact Or.inl (bt_6 148 rfl rfl)
  · exact Or.inr ⟨rfl, d⟩
theorem xm_X1 {s : State} : ∀ w ∈ xtw "PlatePiles" 155 "java/lang/IndexOutOfBoundsException", xw_ok s w := by
  intro w hw
  simp only [xtw, List.mem_cons, List.not_mem_nil, or_false] at hw
  rcases hw with rfl | rfl | rfl | rfl | rfl | rfl | rfl | rfl | rfl | rfl | rfl
  · exact Or.inl (bt_6 144 rfl rfl)
  · exact Or.inl (bt_6 104 rfl rfl)
  · exact Or.inl (bt_6 112 rfl rfl)
  · exact Or.inl (bt_6 113 rfl rfl)
  · exact Or.inl (bt_6 114 rfl rfl)
  · exact Or.inl (bt_6 116 rfl rfl)
  · exact Or.inl (bt_6 118 rfl rfl)
  · exact Or.inl (bt_6 120 rfl rfl)
  · exact Or.inl (bt_6 124 rfl rfl)
  · exact Or.inl (bt_6 123 rfl rfl)
  · exact Or.inl (bt_6 122 rfl rfl)
theorem xm_1 {s : State} (d0 : va_Nw (.declares (Bundle.initS "java/lang/RuntimeException")) s) (d1 : va_Nw (.declares (Bundle.initS "java/lang/Exception")) s) (d2 : va_Nw (.declares (Bundle.initS Bundle.tN)) s) : ∀ w ∈ xwl "PlatePiles" 151 155 "java/lang/IndexOutOfBoundsException" "java/lang/RuntimeException" 7 Bundle.six ["java/lang/Exception"], xw_ok s w := List.forall_mem_cons.mpr ⟨Or.inl (bt_6 103 rfl rfl), List.forall_mem_cons.mpr ⟨Or.inl (bt_1 21 rfl rfl), List.forall_mem_append.mpr ⟨xm_T, List.forall_mem_append.mpr ⟨xm_S, List.forall_mem_append.mpr ⟨xm_P1 d0, List.forall_mem_append.mpr ⟨xm_C d1 d2, xm_X1⟩⟩⟩⟩⟩⟩
theorem xm_P2 {s : State} (d : va_Nw (.declares (Bundle.initS "java/lang/RuntimeException")) s) : ∀ w ∈ Bundle.passSAtoms "java/util/NoSuchElementException" "java/lang/RuntimeException" 13 prog_29_method_4_code, xw_ok s w := by
  intro w hw
  simp only [Bundle.passSAtoms, List.mem_cons, List.not_mem_nil, or_false] at hw
  rcases hw with rfl | rfl | rfl | rfl | rfl
  · exact Or.inl (bt_6 181 rfl rfl)
  · exact Or.inl (bt_6 182 rfl rfl)
  · exact Or.inl (bt_6 183 rfl rfl)
  · exact Or.inl (bt_6 148 rfl rfl)
  · exact Or.inr ⟨rfl, d⟩
theorem xm_X2 {s : State} : ∀ w ∈ xtw "PlatePiles" 178 "java/util/NoSuchElementException", xw_ok s w := by
  intro w hw
  simp only [xtw, List.mem_cons, List.not_mem_nil, or_false] at hw
  rcases hw with rfl | rfl | rfl | rfl | rfl | rfl | rfl | rfl | rfl | rfl | rfl
  · exact Or.inl (bt_6 180 rfl rfl)
  · exact Or.inl (bt_6 171 rfl rfl)
  · exact Or.inl (bt_6 173 rfl rfl)
  · exact Or.inl (bt_6 136 rfl rfl)
  · exact Or.inl (bt_6 174 rfl rfl)
  · exact Or.inl (bt_6 175 rfl rfl)
  · exact Or.inl (bt_6 176 rfl rfl)
  · exact Or.inl (bt_6 177 rfl rfl)
  · exact Or.inl (bt_6 124 rfl rfl)
  · exact Or.inl (bt_6 123 rfl rfl)
  · exact Or.inl (bt_6 178 rfl rfl)
theorem xm_2 {s : State} (d0 : va_Nw (.declares (Bundle.initS "java/lang/RuntimeException")) s) (d1 : va_Nw (.declares (Bundle.initS "java/lang/Exception")) s) (d2 : va_Nw (.declares (Bundle.initS Bundle.tN)) s) : ∀ w ∈ xwl "PlatePiles" 174 178 "java/util/NoSuchElementException" "java/lang/RuntimeException" 13 prog_29_method_4_code ["java/lang/Exception"], xw_ok s w := List.forall_mem_cons.mpr ⟨Or.inl (bt_6 170 rfl rfl), List.forall_mem_cons.mpr ⟨Or.inl (bt_1 22 rfl rfl), List.forall_mem_append.mpr ⟨xm_T, List.forall_mem_append.mpr ⟨xm_S, List.forall_mem_append.mpr ⟨xm_P2 d0, List.forall_mem_append.mpr ⟨xm_C d1 d2, xm_X2⟩⟩⟩⟩⟩⟩
