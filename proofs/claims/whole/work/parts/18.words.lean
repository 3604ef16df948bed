/-! words that the program links, by their places in the tables -/
theorem bt_1 (i : Nat) {w : Cond} (hi : tables_1_1[i]? = some w) (hg : goodWord w = true) : w ∈ am_big := by
  have h : w ∈ tables_1_1 := List.mem_of_getElem? hi
  exact List.mem_filter.mpr ⟨List.mem_append_right _ (show w ∈ tables_1 from List.mem_append_left _ h), hg⟩
theorem bt_2 (i : Nat) {w : Cond} (hi : tables_1_2[i]? = some w) (hg : goodWord w = true) : w ∈ am_big := by
  have h : w ∈ tables_1_2 := List.mem_of_getElem? hi
  exact List.mem_filter.mpr ⟨List.mem_append_right _ (show w ∈ tables_1 from List.mem_append_right _ (List.mem_append_left _ h)), hg⟩
theorem bt_3 (i : Nat) {w : Cond} (hi : tables_1_3[i]? = some w) (hg : goodWord w = true) : w ∈ am_big := by
  have h : w ∈ tables_1_3 := List.mem_of_getElem? hi
  exact List.mem_filter.mpr ⟨List.mem_append_right _ (show w ∈ tables_1 from List.mem_append_right _ (List.mem_append_right _ (List.mem_append_left _ h))), hg⟩
theorem bt_4 (i : Nat) {w : Cond} (hi : tables_1_4[i]? = some w) (hg : goodWord w = true) : w ∈ am_big := by
  have h : w ∈ tables_1_4 := List.mem_of_getElem? hi
  exact List.mem_filter.mpr ⟨List.mem_append_right _ (show w ∈ tables_1 from List.mem_append_right _ (List.mem_append_right _ (List.mem_append_right _ (List.mem_append_left _ h)))), hg⟩
theorem bt_5 (i : Nat) {w : Cond} (hi : tables_1_5[i]? = some w) (hg : goodWord w = true) : w ∈ am_big := by
  have h : w ∈ tables_1_5 := List.mem_of_getElem? hi
  exact List.mem_filter.mpr ⟨List.mem_append_right _ (show w ∈ tables_1 from List.mem_append_right _ (List.mem_append_right _ (List.mem_append_right _ (List.mem_append_right _ (List.mem_append_left _ h))))), hg⟩
theorem bt_6 (i : Nat) {w : Cond} (hi : tables_1_6[i]? = some w) (hg : goodWord w = true) : w ∈ am_big := by
  have h : w ∈ tables_1_6 := List.mem_of_getElem? hi
  exact List.mem_filter.mpr ⟨List.mem_append_right _ (show w ∈ tables_1 from List.mem_append_right _ (List.mem_append_right _ (List.mem_append_right _ (List.mem_append_right _ (List.mem_append_right _ (List.mem_append_left _ h)))))), hg⟩
theorem bt_7 (i : Nat) {w : Cond} (hi : tables_1_7[i]? = some w) (hg : goodWord w = true) : w ∈ am_big := by
  have h : w ∈ tables_1_7 := List.mem_of_getElem? hi
  exact List.mem_filter.mpr ⟨List.mem_append_right _ (show w ∈ tables_1 from List.mem_append_right _ (List.mem_append_right _ (List.mem_append_right _ (List.mem_append_right _ (List.mem_append_right _ (List.mem_append_right _ (List.mem_append_left _ h))))))), hg⟩
theorem bt_8 (i : Nat) {w : Cond} (hi : tables_1_8[i]? = some w) (hg : goodWord w = true) : w ∈ am_big := by
  have h : w ∈ tables_1_8 := List.mem_of_getElem? hi
  exact List.mem_filter.mpr ⟨List.mem_append_right _ (show w ∈ tables_1 from List.mem_append_right _ (List.mem_append_right _ (List.mem_append_right _ (List.mem_append_right _ (List.mem_append_right _ (List.mem_append_right _ (List.mem_append_right _ (List.mem_append_left _ h)))))))), hg⟩
theorem bt_9 (i : Nat) {w : Cond} (hi : tables_1_9[i]? = some w) (hg : goodWord w = true) : w ∈ am_big := by
  have h : w ∈ tables_1_9 := List.mem_of_getElem? hi
  exact List.mem_filter.mpr ⟨List.mem_append_right _ (show w ∈ tables_1 from List.mem_append_right _ (List.mem_append_right _ (List.mem_append_right _ (List.mem_append_right _ (List.mem_append_right _ (List.mem_append_right _ (List.mem_append_right _ (List.mem_append_right _ (List.mem_append_left _ h))))))))), hg⟩
theorem bt_10 (i : Nat) {w : Cond} (hi : tables_1_10[i]? = some w) (hg : goodWord w = true) : w ∈ am_big := by
  have h : w ∈ tables_1_10 := List.mem_of_getElem? hi
  exact List.mem_filter.mpr ⟨List.mem_append_right _ (show w ∈ tables_1 from List.mem_append_right _ (List.mem_append_right _ (List.mem_append_right _ (List.mem_append_right _ (List.mem_append_right _ (List.mem_append_right _ (List.mem_append_right _ (List.mem_append_right _ (List.mem_append_right _ (h)))))))))), hg⟩
theorem wm_X0_3 : Cond.methodLink RX0 3 objectInit ∈ am_big := bt_4 219 rfl rfl
theorem wh_obj : Cond.instanceMethod objectInit ∈ am_big := bt_1 31 rfl rfl
theorem wa_int : Cond.arrayClass .int ∈ am_big := bt_1 122 rfl rfl
theorem wf_X0_9 : Cond.fieldLink RX0 9 (TX0 6).1 (TX0 6).2.1 (TX0 6).2.2.1 ∈ am_big := bt_4 227 rfl rfl
theorem wf_X0_15 : Cond.fieldLink RX0 15 (TX0 7).1 (TX0 7).2.1 (TX0 7).2.2.1 ∈ am_big := bt_4 228 rfl rfl
theorem wf_X0_18 : Cond.fieldLink RX0 18 (TX0 8).1 (TX0 8).2.1 (TX0 8).2.2.1 ∈ am_big := bt_4 229 rfl rfl
theorem wf_X0_21 : Cond.fieldLink RX0 21 (TX0 9).1 (TX0 9).2.1 (TX0 9).2.2.1 ∈ am_big := bt_4 230 rfl rfl
theorem wf_X0_24 : Cond.fieldLink RX0 24 (TX0 10).1 (TX0 10).2.1 (TX0 10).2.2.1 ∈ am_big := bt_4 231 rfl rfl
theorem wf_X0_28 : Cond.fieldLink RX0 28 (TX0 0).1 (TX0 0).2.1 (TX0 0).2.2.1 ∈ am_big := bt_4 221 rfl rfl
theorem wf_X0_32 : Cond.fieldLink RX0 32 (TX0 1).1 (TX0 1).2.1 (TX0 1).2.2.1 ∈ am_big := bt_4 222 rfl rfl
theorem wf_X0_35 : Cond.fieldLink RX0 35 (TX0 2).1 (TX0 2).2.1 (TX0 2).2.2.1 ∈ am_big := bt_4 223 rfl rfl
theorem wf_X0_42 : Cond.fieldLink RX0 42 (TX0 3).1 (TX0 3).2.1 (TX0 3).2.2.1 ∈ am_big := bt_4 224 rfl rfl
theorem wf_X0_45 : Cond.fieldLink RX0 45 (TX0 4).1 (TX0 4).2.1 (TX0 4).2.2.1 ∈ am_big := bt_4 225 rfl rfl
theorem wf_X0_48 : Cond.fieldLink RX0 48 (TX0 5).1 (TX0 5).2.1 (TX0 5).2.2.1 ∈ am_big := bt_4 226 rfl rfl
theorem wm_X0_51 : Cond.methodLink RX0 51 yX0_turned ∈ am_big := bt_5 19 rfl rfl
theorem wn_X0 : Cond.initialized RX0 ∈ am_big := bt_1 24 rfl rfl
theorem wh_X0_turned : Cond.instanceMethod yX0_turned ∈ am_big := bt_5 21 rfl rfl
theorem wm_X0_55 : Cond.methodLink RX0 55 yX9_ofOrder ∈ am_big := bt_5 23 rfl rfl
theorem wn_X9 : Cond.initialized RX9 ∈ am_big := bt_1 23 rfl rfl
theorem wh_X9_ofOrder : Cond.instanceMethod yX9_ofOrder ∈ am_big := bt_5 24 rfl rfl
theorem wm_X0_60 : Cond.methodLink RX0 60 yX9_ofFaces ∈ am_big := bt_5 27 rfl rfl
theorem wh_X9_ofFaces : Cond.instanceMethod yX9_ofFaces ∈ am_big := bt_5 28 rfl rfl
theorem wm_X0_63 : Cond.methodLink RX0 63 yX0_has ∈ am_big := bt_5 40 rfl rfl
theorem wh_X0_has : Cond.instanceMethod yX0_has ∈ am_big := bt_5 42 rfl rfl
theorem wm_X0_67 : Cond.methodLink RX0 67 yX0_reach ∈ am_big := bt_5 103 rfl rfl
theorem wh_X0_reach : Cond.instanceMethod yX0_reach ∈ am_big := bt_5 105 rfl rfl
theorem wm_X0_70 : Cond.methodLink RX0 70 yX0_winsOf ∈ am_big := bt_5 123 rfl rfl
theorem wh_X0_winsOf : Cond.instanceMethod yX0_winsOf ∈ am_big := bt_5 125 rfl rfl
theorem wm_X0_74 : Cond.methodLink RX0 74 yX0_lossesOf ∈ am_big := bt_5 143 rfl rfl
theorem wh_X0_lossesOf : Cond.instanceMethod yX0_lossesOf ∈ am_big := bt_5 145 rfl rfl
theorem wm_X0_77 : Cond.methodLink RX0 77 yX0_allDepths ∈ am_big := bt_5 131 rfl rfl
theorem wh_X0_allDepths : Cond.instanceMethod yX0_allDepths ∈ am_big := bt_5 133 rfl rfl
theorem wm_X0_81 : Cond.methodLink RX0 81 yX0_playAll ∈ am_big := bt_5 127 rfl rfl
theorem wh_X0_playAll : Cond.instanceMethod yX0_playAll ∈ am_big := bt_5 129 rfl rfl
theorem wm_X0_84 : Cond.methodLink RX0 84 yX0_mark ∈ am_big := bt_5 135 rfl rfl
theorem wh_X0_mark : Cond.instanceMethod yX0_mark ∈ am_big := bt_5 137 rfl rfl
theorem wm_X0_88 : Cond.methodLink RX0 88 yX0_tellThoseBefore ∈ am_big := bt_5 139 rfl rfl
theorem wh_X0_tellThoseBefore : Cond.instanceMethod yX0_tellThoseBefore ∈ am_big := bt_5 141 rfl rfl
theorem wm_X1_3 : Cond.methodLink RX1 3 objectInit ∈ am_big := bt_2 164 rfl rfl
theorem wf_X1_9 : Cond.fieldLink RX1 9 (TX1 0).1 (TX1 0).2.1 (TX1 0).2.2.1 ∈ am_big := bt_2 165 rfl rfl
theorem wf_X1_15 : Cond.fieldLink RX1 15 (TX1 1).1 (TX1 1).2.1 (TX1 1).2.2.1 ∈ am_big := bt_2 166 rfl rfl
theorem wf_X1_18 : Cond.fieldLink RX1 18 (TX1 2).1 (TX1 2).2.1 (TX1 2).2.2.1 ∈ am_big := bt_2 167 rfl rfl
theorem wf_X1_21 : Cond.fieldLink RX1 21 (TX1 3).1 (TX1 3).2.1 (TX1 3).2.2.1 ∈ am_big := bt_2 168 rfl rfl
theorem wf_X1_25 : Cond.fieldLink RX1 25 (TX1 4).1 (TX1 4).2.1 (TX1 4).2.2.1 ∈ am_big := bt_2 169 rfl rfl
theorem wm_X1_28 : Cond.methodLink RX1 28 Lib.Math.min.name ∈ am_big := bt_4 72 rfl rfl
theorem ws_mmin : Cond.static Lib.Math.min.name ∈ am_big := bt_3 65 rfl rfl
theorem wn_Math : Cond.initialized "java/lang/Math" ∈ am_big := bt_1 16 rfl rfl
theorem wo_mmin : Cond.code Lib.Math.min.name Lib.Math.min.code 2 (some .int) ∈ am_big := bt_3 66 rfl rfl
theorem wm_X2_3 : Cond.methodLink RX2 3 objectInit ∈ am_big := bt_1 128 rfl rfl
theorem wf_X2_9 : Cond.fieldLink RX2 9 (TX2 0).1 (TX2 0).2.1 (TX2 0).2.2.1 ∈ am_big := bt_1 129 rfl rfl
theorem wf_X2_15 : Cond.fieldLink RX2 15 (TX2 1).1 (TX2 1).2.1 (TX2 1).2.2.1 ∈ am_big := bt_1 130 rfl rfl
theorem wf_X2_19 : Cond.fieldLink RX2 19 (TX2 2).1 (TX2 2).2.1 (TX2 2).2.2.1 ∈ am_big := bt_1 131 rfl rfl
theorem wf_X2_23 : Cond.fieldLink RX2 23 (TX2 3).1 (TX2 3).2.1 (TX2 3).2.2.1 ∈ am_big := bt_1 132 rfl rfl
theorem wf_X2_27 : Cond.fieldLink RX2 27 (TX2 4).1 (TX2 4).2.1 (TX2 4).2.2.1 ∈ am_big := bt_1 133 rfl rfl
theorem wf_X2_30 : Cond.fieldLink RX2 30 (TX8 3).1 (TX8 3).2.1 (TX8 3).2.2.1 ∈ am_big := bt_2 18 rfl rfl
theorem wf_X2_35 : Cond.fieldLink RX2 35 (TX2 5).1 (TX2 5).2.1 (TX2 5).2.2.1 ∈ am_big := bt_1 134 rfl rfl
theorem wf_X2_38 : Cond.fieldLink RX2 38 (TX2 6).1 (TX2 6).2.1 (TX2 6).2.2.1 ∈ am_big := bt_1 135 rfl rfl
theorem wf_X2_41 : Cond.fieldLink RX2 41 (TX2 7).1 (TX2 7).2.1 (TX2 7).2.2.1 ∈ am_big := bt_1 136 rfl rfl
theorem wf_X2_45 : Cond.fieldLink RX2 45 (TX2 8).1 (TX2 8).2.1 (TX2 8).2.2.1 ∈ am_big := bt_1 137 rfl rfl
theorem wm_X2_48 : Cond.methodLink RX2 48 yX7_step ∈ am_big := bt_3 185 rfl rfl
theorem wn_X7 : Cond.initialized RX7 ∈ am_big := bt_1 3 rfl rfl
theorem wh_X7_step : Cond.instanceMethod yX7_step ∈ am_big := bt_3 68 rfl rfl
theorem wf_X2_53 : Cond.fieldLink RX2 53 (TX7 4).1 (TX7 4).2.1 (TX7 4).2.2.1 ∈ am_big := bt_1 99 rfl rfl
theorem wm_X2_56 : Cond.methodLink RX2 56 yX2_putDown ∈ am_big := bt_3 186 rfl rfl
theorem wn_X2 : Cond.initialized RX2 ∈ am_big := bt_1 8 rfl rfl
theorem wh_X2_putDown : Cond.instanceMethod yX2_putDown ∈ am_big := bt_3 188 rfl rfl
theorem wm_X2_60 : Cond.methodLink RX2 60 yX2_takePart ∈ am_big := bt_3 197 rfl rfl
theorem wh_X2_takePart : Cond.instanceMethod yX2_takePart ∈ am_big := bt_3 199 rfl rfl
theorem wm_X2_64 : Cond.methodLink RX2 64 yX2_takeJoint ∈ am_big := bt_3 205 rfl rfl
theorem wh_X2_takeJoint : Cond.instanceMethod yX2_takeJoint ∈ am_big := bt_3 207 rfl rfl
theorem wm_X2_67 : Cond.methodLink RX2 67 yX2_await ∈ am_big := bt_3 201 rfl rfl
theorem wh_X2_await : Cond.instanceMethod yX2_await ∈ am_big := bt_3 203 rfl rfl
theorem wf_X2_71 : Cond.fieldLink RX2 71 (TX7 6).1 (TX7 6).2.1 (TX7 6).2.2.1 ∈ am_big := bt_1 104 rfl rfl
theorem wm_X2_74 : Cond.methodLink RX2 74 yX2_put ∈ am_big := bt_3 193 rfl rfl
theorem wh_X2_put : Cond.instanceMethod yX2_put ∈ am_big := bt_3 195 rfl rfl
theorem wm_X2_77 : Cond.methodLink RX2 77 yX2_strength ∈ am_big := bt_3 190 rfl rfl
theorem ws_X2_strength : Cond.static yX2_strength ∈ am_big := bt_3 191 rfl rfl
theorem wf_X2_80 : Cond.fieldLink RX2 80 (TX8 14).1 (TX8 14).2.1 (TX8 14).2.2.1 ∈ am_big := bt_2 53 rfl rfl
theorem wm_X3_3 : Cond.methodLink RX3 3 objectInit ∈ am_big := bt_2 102 rfl rfl
theorem wa_long : Cond.arrayClass .long ∈ am_big := bt_2 125 rfl rfl
theorem wf_X3_9 : Cond.fieldLink RX3 9 (TX3 0).1 (TX3 0).2.1 (TX3 0).2.2.1 ∈ am_big := bt_2 103 rfl rfl
theorem wf_X3_15 : Cond.fieldLink RX3 15 (TX3 1).1 (TX3 1).2.1 (TX3 1).2.2.1 ∈ am_big := bt_2 104 rfl rfl
theorem wf_X3_19 : Cond.fieldLink RX3 19 (TX3 2).1 (TX3 2).2.1 (TX3 2).2.2.1 ∈ am_big := bt_2 105 rfl rfl
theorem wf_X3_23 : Cond.fieldLink RX3 23 (TX3 3).1 (TX3 3).2.1 (TX3 3).2.2.1 ∈ am_big := bt_2 106 rfl rfl
theorem wf_X3_27 : Cond.fieldLink RX3 27 (TX3 4).1 (TX3 4).2.1 (TX3 4).2.2.1 ∈ am_big := bt_2 107 rfl rfl
theorem wf_X3_30 : Cond.fieldLink RX3 30 (TX3 5).1 (TX3 5).2.1 (TX3 5).2.2.1 ∈ am_big := bt_2 108 rfl rfl
theorem wm_X3_33 : Cond.methodLink RX3 33 yX8_hasLaw ∈ am_big := bt_4 24 rfl rfl
theorem wn_X8 : Cond.initialized RX8 ∈ am_big := bt_1 9 rfl rfl
theorem wh_X8_hasLaw : Cond.instanceMethod yX8_hasLaw ∈ am_big := bt_3 178 rfl rfl
theorem wf_X3_39 : Cond.fieldLink RX3 39 (TX3 6).1 (TX3 6).2.1 (TX3 6).2.2.1 ∈ am_big := bt_2 109 rfl rfl
theorem wf_X3_43 : Cond.fieldLink RX3 43 (TX8 15).1 (TX8 15).2.1 (TX8 15).2.2.1 ∈ am_big := bt_2 55 rfl rfl
theorem wf_X3_47 : Cond.fieldLink RX3 47 (TX8 16).1 (TX8 16).2.1 (TX8 16).2.2.1 ∈ am_big := bt_2 58 rfl rfl
theorem wf_X3_50 : Cond.fieldLink RX3 50 (TX8 14).1 (TX8 14).2.1 (TX8 14).2.2.1 ∈ am_big := bt_2 52 rfl rfl
theorem wm_X3_53 : Cond.methodLink RX3 53 yX3_truth ∈ am_big := bt_4 25 rfl rfl
theorem wn_X3 : Cond.initialized RX3 ∈ am_big := bt_1 11 rfl rfl
theorem ws_X3_truth : Cond.static yX3_truth ∈ am_big := bt_4 26 rfl rfl
theorem wm_X3_61 : Cond.methodLink RX3 61 yX3_joined ∈ am_big := bt_4 39 rfl rfl
theorem wh_X3_joined : Cond.instanceMethod yX3_joined ∈ am_big := bt_4 41 rfl rfl
theorem wm_X3_57 : Cond.methodLink RX3 57 yX3_nameValue ∈ am_big := bt_4 28 rfl rfl
theorem wh_X3_nameValue : Cond.instanceMethod yX3_nameValue ∈ am_big := bt_4 30 rfl rfl
theorem wm_X3_71 : Cond.methodLink RX3 71 yX10_hasPile ∈ am_big := bt_4 33 rfl rfl
theorem wn_X10 : Cond.initialized RX10 ∈ am_big := bt_1 10 rfl rfl
theorem wh_X10_hasPile : Cond.instanceMethod yX10_hasPile ∈ am_big := bt_3 140 rfl rfl
theorem wm_X3_86 : Cond.methodLink RX3 86 yX10_gaps ∈ am_big := bt_4 35 rfl rfl
theorem wh_X10_gaps : Cond.instanceMethod yX10_gaps ∈ am_big := bt_4 36 rfl rfl
theorem wm_X3_77 : Cond.methodLink RX3 77 yX10_hasMaid ∈ am_big := bt_4 34 rfl rfl
theorem wh_X10_hasMaid : Cond.instanceMethod yX10_hasMaid ∈ am_big := bt_4 8 rfl rfl
theorem wf_X3_83 : Cond.fieldLink RX3 83 (TX10 8).1 (TX10 8).2.1 (TX10 8).2.2.1 ∈ am_big := bt_1 206 rfl rfl
theorem wf_X3_80 : Cond.fieldLink RX3 80 (TX8 8).1 (TX8 8).2.1 (TX8 8).2.2.1 ∈ am_big := bt_2 32 rfl rfl
theorem wf_X3_74 : Cond.fieldLink RX3 74 (TX10 6).1 (TX10 6).2.1 (TX10 6).2.2.1 ∈ am_big := bt_1 199 rfl rfl
theorem wm_X3_65 : Cond.methodLink RX3 65 yX10_sizeAt ∈ am_big := bt_4 32 rfl rfl
theorem wh_X10_sizeAt : Cond.instanceMethod yX10_sizeAt ∈ am_big := bt_3 148 rfl rfl
theorem wf_X3_90 : Cond.fieldLink RX3 90 (TX10 3).1 (TX10 3).2.1 (TX10 3).2.2.1 ∈ am_big := bt_1 188 rfl rfl
theorem wm_X3_97 : Cond.methodLink RX3 97 yX3_product ∈ am_big := bt_4 49 rfl rfl
theorem wh_X3_product : Cond.instanceMethod yX3_product ∈ am_big := bt_4 51 rfl rfl
theorem wm_X3_93 : Cond.methodLink RX3 93 yX3_inBounds ∈ am_big := bt_4 43 rfl rfl
theorem wh_X3_inBounds : Cond.instanceMethod yX3_inBounds ∈ am_big := bt_4 45 rfl rfl
theorem wm_X3_101 : Cond.methodLink RX3 101 yX3_quotient ∈ am_big := bt_4 56 rfl rfl
theorem wh_X3_quotient : Cond.instanceMethod yX3_quotient ∈ am_big := bt_4 58 rfl rfl
theorem wc_X3_104 : Cond.constantLong RX3 104 (Int64.ofInt 1000000000000) ∈ am_big := bt_4 47 rfl rfl
theorem wc_X3_106 : Cond.constantLong RX3 106 (Int64.ofInt (-1000000000000)) ∈ am_big := bt_4 48 rfl rfl
theorem wm_X3_108 : Cond.methodLink RX3 108 Lib.MathLoose.abs_long.x ∈ am_big := bt_4 53 rfl rfl
theorem ws_labs : Cond.static Lib.MathLoose.abs_long.x ∈ am_big := bt_4 54 rfl rfl
theorem wo_labs : Cond.code Lib.MathLoose.abs_long.x Lib.MathLoose.abs_long.code 2 (some .long) ∈ am_big := bt_4 55 rfl rfl
theorem wm_X4_3 : Cond.methodLink RX4 3 objectInit ∈ am_big := bt_2 131 rfl rfl
theorem wk_X4_9 : Cond.classLink RX4 9 RX3 ∈ am_big := bt_2 132 rfl rfl
theorem wi_X3 : Cond.instantiable RX3 7 ∈ am_big := bt_2 98 rfl rfl
theorem wm_X4_11 : Cond.methodLink RX4 11 yX3_init ∈ am_big := bt_2 133 rfl rfl
theorem wh_X3_init : Cond.instanceMethod yX3_init ∈ am_big := bt_2 100 rfl rfl
theorem wf_X4_12 : Cond.fieldLink RX4 12 (TX4 0).1 (TX4 0).2.1 (TX4 0).2.2.1 ∈ am_big := bt_2 134 rfl rfl
theorem wf_X4_18 : Cond.fieldLink RX4 18 (TX4 1).1 (TX4 1).2.1 (TX4 1).2.2.1 ∈ am_big := bt_2 135 rfl rfl
theorem wf_X4_22 : Cond.fieldLink RX4 22 (TX4 2).1 (TX4 2).2.1 (TX4 2).2.2.1 ∈ am_big := bt_2 136 rfl rfl
theorem wf_X4_26 : Cond.fieldLink RX4 26 (TX4 3).1 (TX4 3).2.1 (TX4 3).2.2.1 ∈ am_big := bt_2 137 rfl rfl
theorem wf_X4_30 : Cond.fieldLink RX4 30 (TX4 4).1 (TX4 4).2.1 (TX4 4).2.2.1 ∈ am_big := bt_2 138 rfl rfl
theorem wf_X4_34 : Cond.fieldLink RX4 34 (TX4 5).1 (TX4 5).2.1 (TX4 5).2.2.1 ∈ am_big := bt_2 139 rfl rfl
theorem wf_X4_37 : Cond.fieldLink RX4 37 (TX4 6).1 (TX4 6).2.1 (TX4 6).2.2.1 ∈ am_big := bt_2 140 rfl rfl
theorem wf_X4_40 : Cond.fieldLink RX4 40 (TX4 7).1 (TX4 7).2.1 (TX4 7).2.2.1 ∈ am_big := bt_2 141 rfl rfl
theorem wm_X4_43 : Cond.methodLink RX4 43 yX4_pass ∈ am_big := bt_4 104 rfl rfl
theorem wn_X4 : Cond.initialized RX4 ∈ am_big := bt_1 12 rfl rfl
theorem wh_X4_pass : Cond.instanceMethod yX4_pass ∈ am_big := bt_4 105 rfl rfl
theorem wf_X4_46 : Cond.fieldLink RX4 46 (TX8 1).1 (TX8 1).2.1 (TX8 1).2.2.1 ∈ am_big := bt_2 10 rfl rfl
theorem wf_X4_51 : Cond.fieldLink RX4 51 (TX10 3).1 (TX10 3).2.1 (TX10 3).2.2.1 ∈ am_big := bt_1 189 rfl rfl
theorem wf_X4_56 : Cond.fieldLink RX4 56 (TX8 13).1 (TX8 13).2.1 (TX8 13).2.2.1 ∈ am_big := bt_2 49 rfl rfl
theorem wm_X4_60 : Cond.methodLink RX4 60 yX4_takeTurn ∈ am_big := bt_4 108 rfl rfl
theorem wh_X4_takeTurn : Cond.instanceMethod yX4_takeTurn ∈ am_big := bt_4 110 rfl rfl
theorem wf_X4_64 : Cond.fieldLink RX4 64 (TX8 10).1 (TX8 10).2.1 (TX8 10).2.2.1 ∈ am_big := bt_2 39 rfl rfl
theorem wf_X4_67 : Cond.fieldLink RX4 67 (TX8 11).1 (TX8 11).2.1 (TX8 11).2.2.1 ∈ am_big := bt_2 42 rfl rfl
theorem wm_X4_70 : Cond.methodLink RX4 70 yX10_hasMaid ∈ am_big := bt_4 112 rfl rfl
theorem wm_X4_74 : Cond.methodLink RX4 74 yX10_hasPile ∈ am_big := bt_4 113 rfl rfl
theorem wm_X4_77 : Cond.methodLink RX4 77 yX4_depthOf ∈ am_big := bt_4 114 rfl rfl
theorem wh_X4_depthOf : Cond.instanceMethod yX4_depthOf ∈ am_big := bt_4 116 rfl rfl
theorem wm_X4_81 : Cond.methodLink RX4 81 yX3_lookAt ∈ am_big := bt_4 118 rfl rfl
theorem wh_X3_lookAt : Cond.instanceMethod yX3_lookAt ∈ am_big := bt_4 17 rfl rfl
theorem wm_X4_85 : Cond.methodLink RX4 85 yX3_value ∈ am_big := bt_4 119 rfl rfl
theorem wh_X3_value : Cond.instanceMethod yX3_value ∈ am_big := bt_4 21 rfl rfl
theorem wf_X4_89 : Cond.fieldLink RX4 89 (TX10 6).1 (TX10 6).2.1 (TX10 6).2.2.1 ∈ am_big := bt_1 202 rfl rfl
theorem wm_X4_95 : Cond.methodLink RX4 95 yX4_within ∈ am_big := bt_4 120 rfl rfl
theorem ws_X4_within : Cond.static yX4_within ∈ am_big := bt_4 121 rfl rfl
theorem wm_X4_99 : Cond.methodLink RX4 99 yX10_turnOver ∈ am_big := bt_4 129 rfl rfl
theorem wh_X10_turnOver : Cond.instanceMethod yX10_turnOver ∈ am_big := bt_4 65 rfl rfl
theorem wf_X4_103 : Cond.fieldLink RX4 103 (TX10 8).1 (TX10 8).2.1 (TX10 8).2.2.1 ∈ am_big := bt_1 207 rfl rfl
theorem wc_X4_106 : Cond.constant RX4 106 (Int32.ofInt 99999) ∈ am_big := bt_4 130 rfl rfl
theorem wm_X4_107 : Cond.methodLink RX4 107 Lib.Math.min.name ∈ am_big := bt_4 131 rfl rfl
theorem wf_X4_112 : Cond.fieldLink RX4 112 (TX8 2).1 (TX8 2).2.1 (TX8 2).2.2.1 ∈ am_big := bt_2 14 rfl rfl
theorem wm_X4_115 : Cond.methodLink RX4 115 yX4_chips ∈ am_big := bt_4 132 rfl rfl
theorem wh_X4_chips : Cond.instanceMethod yX4_chips ∈ am_big := bt_4 134 rfl rfl
theorem wm_X4_118 : Cond.methodLink RX4 118 yX10_chipTop ∈ am_big := bt_4 141 rfl rfl
theorem wh_X10_chipTop : Cond.instanceMethod yX10_chipTop ∈ am_big := bt_4 142 rfl rfl
theorem wf_X4_92 : Cond.fieldLink RX4 92 (TX10 4).1 (TX10 4).2.1 (TX10 4).2.2.1 ∈ am_big := bt_1 192 rfl rfl
theorem wf_X4_121 : Cond.fieldLink RX4 121 (TX8 12).1 (TX8 12).2.1 (TX8 12).2.2.1 ∈ am_big := bt_2 47 rfl rfl
theorem wm_X4_124 : Cond.methodLink RX4 124 Lib.MathLoose.min_long.x ∈ am_big := bt_4 123 rfl rfl
theorem ws_lmin : Cond.static Lib.MathLoose.min_long.x ∈ am_big := bt_4 124 rfl rfl
theorem wo_lmin : Cond.code Lib.MathLoose.min_long.x Lib.MathLoose.min_long.code 4 (some .long) ∈ am_big := bt_4 125 rfl rfl
theorem wm_X4_127 : Cond.methodLink RX4 127 Lib.MathLoose.max_long.x ∈ am_big := bt_4 126 rfl rfl
theorem ws_lmax : Cond.static Lib.MathLoose.max_long.x ∈ am_big := bt_4 127 rfl rfl
theorem wo_lmax : Cond.code Lib.MathLoose.max_long.x Lib.MathLoose.max_long.code 4 (some .long) ∈ am_big := bt_4 128 rfl rfl
theorem wf_X4_130 : Cond.fieldLink RX4 130 (TX10 5).1 (TX10 5).2.1 (TX10 5).2.2.1 ∈ am_big := bt_1 196 rfl rfl
theorem wc_X4_134 : Cond.constantLong RX4 134 (Int64.ofInt 1103515245) ∈ am_big := bt_4 136 rfl rfl
theorem wc_X4_136 : Cond.constantLong RX4 136 (Int64.ofInt 12345) ∈ am_big := bt_4 137 rfl rfl
theorem wc_X4_138 : Cond.constantLong RX4 138 (Int64.ofInt 2147483647) ∈ am_big := bt_4 138 rfl rfl
theorem wc_X4_140 : Cond.constantLong RX4 140 (Int64.ofInt 65536) ∈ am_big := bt_4 139 rfl rfl
theorem wc_X4_142 : Cond.constantLong RX4 142 (Int64.ofInt 100) ∈ am_big := bt_4 140 rfl rfl
theorem wm_X5_3 : Cond.methodLink RX5 3 objectInit ∈ am_big := bt_1 38 rfl rfl
theorem wk_X5_9 : Cond.classLink RX5 9 RX7 ∈ am_big := bt_1 39 rfl rfl
theorem wi_X7 : Cond.instantiable RX7 7 ∈ am_big := bt_1 40 rfl rfl
theorem wm_X5_11 : Cond.methodLink RX5 11 yX7_init ∈ am_big := bt_1 41 rfl rfl
theorem wh_X7_init : Cond.instanceMethod yX7_init ∈ am_big := bt_1 42 rfl rfl
theorem wf_X5_12 : Cond.fieldLink RX5 12 (TX5 0).1 (TX5 0).2.1 (TX5 0).2.2.1 ∈ am_big := bt_1 157 rfl rfl
theorem wk_X5_18 : Cond.classLink RX5 18 RX2 ∈ am_big := bt_1 123 rfl rfl
theorem wi_X2 : Cond.instantiable RX2 9 ∈ am_big := bt_1 124 rfl rfl
theorem wm_X5_20 : Cond.methodLink RX5 20 yX2_init ∈ am_big := bt_1 125 rfl rfl
theorem wh_X2_init : Cond.instanceMethod yX2_init ∈ am_big := bt_1 126 rfl rfl
theorem wf_X5_21 : Cond.fieldLink RX5 21 (TX5 1).1 (TX5 1).2.1 (TX5 1).2.2.1 ∈ am_big := bt_1 158 rfl rfl
theorem wf_X5_25 : Cond.fieldLink RX5 25 (TX5 2).1 (TX5 2).2.1 (TX5 2).2.2.1 ∈ am_big := bt_1 159 rfl rfl
theorem wf_X5_29 : Cond.fieldLink RX5 29 (TX7 5).1 (TX7 5).2.1 (TX7 5).2.2.1 ∈ am_big := bt_1 101 rfl rfl
theorem wm_X5_33 : Cond.methodLink RX5 33 yX8_clear ∈ am_big := bt_3 52 rfl rfl
theorem wh_X8_clear : Cond.instanceMethod yX8_clear ∈ am_big := bt_3 53 rfl rfl
theorem wm_X5_38 : Cond.methodLink RX5 38 yX7_begin ∈ am_big := bt_3 60 rfl rfl
theorem wh_X7_begin : Cond.instanceMethod yX7_begin ∈ am_big := bt_3 61 rfl rfl
theorem wm_X5_42 : Cond.methodLink RX5 42 yX7_step ∈ am_big := bt_3 67 rfl rfl
theorem wf_X5_45 : Cond.fieldLink RX5 45 (TX7 4).1 (TX7 4).2.1 (TX7 4).2.2.1 ∈ am_big := bt_1 100 rfl rfl
theorem wm_X5_48 : Cond.methodLink RX5 48 yX5_readLine ∈ am_big := bt_3 98 rfl rfl
theorem wn_X5 : Cond.initialized RX5 ∈ am_big := bt_1 2 rfl rfl
theorem wh_X5_readLine : Cond.instanceMethod yX5_readLine ∈ am_big := bt_3 100 rfl rfl
theorem wf_X5_52 : Cond.fieldLink RX5 52 (TX8 0).1 (TX8 0).2.1 (TX8 0).2.2.1 ∈ am_big := bt_2 7 rfl rfl
theorem wm_X5_73 : Cond.methodLink RX5 73 yX5_readLaw ∈ am_big := bt_3 173 rfl rfl
theorem wh_X5_readLaw : Cond.instanceMethod yX5_readLaw ∈ am_big := bt_3 175 rfl rfl
theorem wm_X5_70 : Cond.methodLink RX5 70 yX5_readSeed ∈ am_big := bt_3 168 rfl rfl
theorem wh_X5_readSeed : Cond.instanceMethod yX5_readSeed ∈ am_big := bt_3 170 rfl rfl
theorem wm_X5_67 : Cond.methodLink RX5 67 yX5_readChip ∈ am_big := bt_3 164 rfl rfl
theorem wh_X5_readChip : Cond.instanceMethod yX5_readChip ∈ am_big := bt_3 166 rfl rfl
theorem wm_X5_64 : Cond.methodLink RX5 64 yX5_readTurn ∈ am_big := bt_3 160 rfl rfl
theorem wh_X5_readTurn : Cond.instanceMethod yX5_readTurn ∈ am_big := bt_3 162 rfl rfl
theorem wm_X5_61 : Cond.methodLink RX5 61 yX5_readPlate ∈ am_big := bt_3 131 rfl rfl
theorem wh_X5_readPlate : Cond.instanceMethod yX5_readPlate ∈ am_big := bt_3 133 rfl rfl
theorem wm_X5_58 : Cond.methodLink RX5 58 yX5_readPile ∈ am_big := bt_3 123 rfl rfl
theorem wh_X5_readPile : Cond.instanceMethod yX5_readPile ∈ am_big := bt_3 125 rfl rfl
theorem wm_X5_55 : Cond.methodLink RX5 55 yX5_readMaid ∈ am_big := bt_3 102 rfl rfl
theorem wh_X5_readMaid : Cond.instanceMethod yX5_readMaid ∈ am_big := bt_3 104 rfl rfl
theorem wf_X5_76 : Cond.fieldLink RX5 76 (TX8 6).1 (TX8 6).2.1 (TX8 6).2.2.1 ∈ am_big := bt_2 27 rfl rfl
theorem wf_X5_80 : Cond.fieldLink RX5 80 (TX10 0).1 (TX10 0).2.1 (TX10 0).2.2.1 ∈ am_big := bt_1 180 rfl rfl
theorem wf_X5_85 : Cond.fieldLink RX5 85 (TX8 7).1 (TX8 7).2.1 (TX8 7).2.2.1 ∈ am_big := bt_2 29 rfl rfl
theorem wm_X5_89 : Cond.methodLink RX5 89 yX5_readNewName ∈ am_big := bt_3 106 rfl rfl
theorem wh_X5_readNewName : Cond.instanceMethod yX5_readNewName ∈ am_big := bt_3 108 rfl rfl
theorem wm_X5_93 : Cond.methodLink RX5 93 yX5_readNumber ∈ am_big := bt_3 111 rfl rfl
theorem wh_X5_readNumber : Cond.instanceMethod yX5_readNumber ∈ am_big := bt_3 113 rfl rfl
theorem wf_X5_97 : Cond.fieldLink RX5 97 (TX8 8).1 (TX8 8).2.1 (TX8 8).2.2.1 ∈ am_big := bt_2 33 rfl rfl
theorem wf_X5_100 : Cond.fieldLink RX5 100 (TX7 6).1 (TX7 6).2.1 (TX7 6).2.2.1 ∈ am_big := bt_1 105 rfl rfl
theorem wm_X5_103 : Cond.methodLink RX5 103 yX10_addMaid ∈ am_big := bt_3 115 rfl rfl
theorem wh_X10_addMaid : Cond.instanceMethod yX10_addMaid ∈ am_big := bt_3 116 rfl rfl
theorem wm_X5_106 : Cond.methodLink RX5 106 yX5_readSemicolon ∈ am_big := bt_3 119 rfl rfl
theorem wh_X5_readSemicolon : Cond.instanceMethod yX5_readSemicolon ∈ am_big := bt_3 121 rfl rfl
theorem wf_X5_109 : Cond.fieldLink RX5 109 (TX10 1).1 (TX10 1).2.1 (TX10 1).2.2.1 ∈ am_big := bt_1 183 rfl rfl
theorem wf_X5_112 : Cond.fieldLink RX5 112 (TX8 9).1 (TX8 9).2.1 (TX8 9).2.2.1 ∈ am_big := bt_2 36 rfl rfl
theorem wm_X5_115 : Cond.methodLink RX5 115 yX10_addPile ∈ am_big := bt_3 127 rfl rfl
theorem wh_X10_addPile : Cond.instanceMethod yX10_addPile ∈ am_big := bt_3 128 rfl rfl
theorem wm_X5_118 : Cond.methodLink RX5 118 yX5_readToldName ∈ am_big := bt_3 135 rfl rfl
theorem wh_X5_readToldName : Cond.instanceMethod yX5_readToldName ∈ am_big := bt_3 137 rfl rfl
theorem wn_X11 : Cond.initialized RX11 ∈ am_big := bt_1 1 rfl rfl
theorem ws_X11_indexOf : Cond.static yX11_indexOf ∈ am_big := bt_3 80 rfl rfl
theorem wm_X5_125 : Cond.methodLink RX5 125 yX10_hasPile ∈ am_big := bt_3 139 rfl rfl
theorem wf_X5_129 : Cond.fieldLink RX5 129 (TX10 6).1 (TX10 6).2.1 (TX10 6).2.2.1 ∈ am_big := bt_1 201 rfl rfl
theorem wm_X5_132 : Cond.methodLink RX5 132 yX10_hasSize ∈ am_big := bt_3 143 rfl rfl
theorem wh_X10_hasSize : Cond.instanceMethod yX10_hasSize ∈ am_big := bt_3 144 rfl rfl
theorem wm_X5_136 : Cond.methodLink RX5 136 yX10_addPlate ∈ am_big := bt_3 155 rfl rfl
theorem wh_X10_addPlate : Cond.instanceMethod yX10_addPlate ∈ am_big := bt_3 156 rfl rfl
theorem wf_X5_140 : Cond.fieldLink RX5 140 (TX8 1).1 (TX8 1).2.1 (TX8 1).2.2.1 ∈ am_big := bt_2 11 rfl rfl
theorem wf_X5_143 : Cond.fieldLink RX5 143 (TX8 10).1 (TX8 10).2.1 (TX8 10).2.2.1 ∈ am_big := bt_2 40 rfl rfl
theorem wf_X5_146 : Cond.fieldLink RX5 146 (TX8 11).1 (TX8 11).2.1 (TX8 11).2.2.1 ∈ am_big := bt_2 43 rfl rfl
theorem wf_X5_149 : Cond.fieldLink RX5 149 (TX8 12).1 (TX8 12).2.1 (TX8 12).2.2.1 ∈ am_big := bt_2 46 rfl rfl
theorem wf_X5_152 : Cond.fieldLink RX5 152 (TX8 13).1 (TX8 13).2.1 (TX8 13).2.2.1 ∈ am_big := bt_2 50 rfl rfl
theorem wf_X5_155 : Cond.fieldLink RX5 155 (TX8 4).1 (TX8 4).2.1 (TX8 4).2.2.1 ∈ am_big := bt_2 22 rfl rfl
theorem wf_X5_159 : Cond.fieldLink RX5 159 (TX8 2).1 (TX8 2).2.1 (TX8 2).2.2.1 ∈ am_big := bt_2 15 rfl rfl
theorem wf_X5_162 : Cond.fieldLink RX5 162 (TX8 5).1 (TX8 5).2.1 (TX8 5).2.2.1 ∈ am_big := bt_2 24 rfl rfl
theorem wc_X5_165 : Cond.constant RX5 165 (Int32.ofInt 99999) ∈ am_big := bt_3 172 rfl rfl
theorem wf_X5_166 : Cond.fieldLink RX5 166 (TX10 5).1 (TX10 5).2.1 (TX10 5).2.2.1 ∈ am_big := bt_1 195 rfl rfl
theorem wm_X5_170 : Cond.methodLink RX5 170 yX8_hasLaw ∈ am_big := bt_3 177 rfl rfl
theorem wf_X5_173 : Cond.fieldLink RX5 173 (TX8 3).1 (TX8 3).2.1 (TX8 3).2.2.1 ∈ am_big := bt_2 19 rfl rfl
theorem wm_X5_176 : Cond.methodLink RX5 176 yX2_read ∈ am_big := bt_3 181 rfl rfl
theorem wh_X2_read : Cond.instanceMethod yX2_read ∈ am_big := bt_3 182 rfl rfl
theorem wf_X5_180 : Cond.fieldLink RX5 180 (TX8 15).1 (TX8 15).2.1 (TX8 15).2.2.1 ∈ am_big := bt_2 56 rfl rfl
theorem wf_X5_183 : Cond.fieldLink RX5 183 (TX8 16).1 (TX8 16).2.1 (TX8 16).2.2.1 ∈ am_big := bt_2 59 rfl rfl
theorem wm_X6_3 : Cond.methodLink RX6 3 objectInit ∈ am_big := bt_2 186 rfl rfl
theorem wf_X6_9 : Cond.fieldLink RX6 9 (TX6 0).1 (TX6 0).2.1 (TX6 0).2.2.1 ∈ am_big := bt_2 187 rfl rfl
theorem wf_X6_15 : Cond.fieldLink RX6 15 (TX6 1).1 (TX6 1).2.1 (TX6 1).2.2.1 ∈ am_big := bt_2 188 rfl rfl
theorem wf_X6_18 : Cond.fieldLink RX6 18 (TX6 2).1 (TX6 2).2.1 (TX6 2).2.2.1 ∈ am_big := bt_2 189 rfl rfl
theorem wa_boolean : Cond.arrayClass .boolean ∈ am_big := bt_2 212 rfl rfl
theorem wf_X6_21 : Cond.fieldLink RX6 21 (TX6 3).1 (TX6 3).2.1 (TX6 3).2.2.1 ∈ am_big := bt_2 190 rfl rfl
theorem wf_X6_25 : Cond.fieldLink RX6 25 (TX6 4).1 (TX6 4).2.1 (TX6 4).2.2.1 ∈ am_big := bt_2 191 rfl rfl
theorem wf_X6_28 : Cond.fieldLink RX6 28 (TX6 5).1 (TX6 5).2.1 (TX6 5).2.2.1 ∈ am_big := bt_2 192 rfl rfl
theorem wf_X6_31 : Cond.fieldLink RX6 31 (TX6 6).1 (TX6 6).2.1 (TX6 6).2.2.1 ∈ am_big := bt_2 193 rfl rfl
theorem wf_X6_35 : Cond.fieldLink RX6 35 (TX6 7).1 (TX6 7).2.1 (TX6 7).2.2.1 ∈ am_big := bt_2 194 rfl rfl
theorem wm_X6_38 : Cond.methodLink RX6 38 yX6_knownBy ∈ am_big := bt_5 218 rfl rfl
theorem wn_X6 : Cond.initialized RX6 ∈ am_big := bt_1 14 rfl rfl
theorem wh_X6_knownBy : Cond.instanceMethod yX6_knownBy ∈ am_big := bt_5 219 rfl rfl
theorem wm_X6_42 : Cond.methodLink RX6 42 Lib.Math.max.name ∈ am_big := bt_5 226 rfl rfl
theorem ws_mmax : Cond.static Lib.Math.max.name ∈ am_big := bt_5 227 rfl rfl
theorem wo_mmax : Cond.code Lib.Math.max.name Lib.Math.max.code 2 (some .int) ∈ am_big := bt_5 228 rfl rfl
theorem wm_X6_48 : Cond.methodLink RX6 48 yX10_sizeAt ∈ am_big := bt_6 1 rfl rfl
theorem wm_X7_3 : Cond.methodLink RX7 3 objectInit ∈ am_big := bt_1 44 rfl rfl
theorem wf_X7_11 : Cond.fieldLink RX7 11 (TX7 0).1 (TX7 0).2.1 (TX7 0).2.2.1 ∈ am_big := bt_1 94 rfl rfl
theorem wf_X7_15 : Cond.fieldLink RX7 15 (TX7 1).1 (TX7 1).2.1 (TX7 1).2.2.1 ∈ am_big := bt_1 95 rfl rfl
theorem wm_X7_21 : Cond.methodLink RX7 21 yJ0_length_8abf5 ∈ am_big := bt_1 46 rfl rfl
theorem wn_J0 : Cond.initialized RJ0 ∈ am_big := bt_1 4 rfl rfl
theorem wh_J0_length_8abf5 : Cond.instanceMethod yJ0_length_8abf5 ∈ am_big := bt_1 47 rfl rfl
theorem wm_X7_27 : Cond.methodLink RX7 27 yJ0_charAt_5068e ∈ am_big := bt_1 56 rfl rfl
theorem wh_J0_charAt_5068e : Cond.instanceMethod yJ0_charAt_5068e ∈ am_big := bt_1 57 rfl rfl
theorem wm_X7_31 : Cond.methodLink RX7 31 Lib.Math.min.name ∈ am_big := bt_3 64 rfl rfl
theorem wf_X7_37 : Cond.fieldLink RX7 37 (TX7 2).1 (TX7 2).2.1 (TX7 2).2.2.1 ∈ am_big := bt_1 96 rfl rfl
theorem wf_X7_40 : Cond.fieldLink RX7 40 (TX7 3).1 (TX7 3).2.1 (TX7 3).2.2.1 ∈ am_big := bt_1 97 rfl rfl
theorem wf_X7_43 : Cond.fieldLink RX7 43 (TX7 4).1 (TX7 4).2.1 (TX7 4).2.2.1 ∈ am_big := bt_1 98 rfl rfl
theorem wf_X7_46 : Cond.fieldLink RX7 46 (TX7 5).1 (TX7 5).2.1 (TX7 5).2.2.1 ∈ am_big := bt_1 102 rfl rfl
theorem wf_X7_49 : Cond.fieldLink RX7 49 (TX7 6).1 (TX7 6).2.1 (TX7 6).2.2.1 ∈ am_big := bt_1 103 rfl rfl
theorem wm_X7_52 : Cond.methodLink RX7 52 yX7_isLetter ∈ am_big := bt_3 71 rfl rfl
theorem wh_X7_isLetter : Cond.instanceMethod yX7_isLetter ∈ am_big := bt_3 73 rfl rfl
theorem wm_X7_56 : Cond.methodLink RX7 56 yX7_stepWord ∈ am_big := bt_3 75 rfl rfl
theorem wh_X7_stepWord : Cond.instanceMethod yX7_stepWord ∈ am_big := bt_3 77 rfl rfl
theorem wm_X7_59 : Cond.methodLink RX7 59 yX7_isDigit ∈ am_big := bt_3 82 rfl rfl
theorem wh_X7_isDigit : Cond.instanceMethod yX7_isDigit ∈ am_big := bt_3 84 rfl rfl
theorem wm_X7_62 : Cond.methodLink RX7 62 yX7_stepNumber ∈ am_big := bt_3 86 rfl rfl
theorem wh_X7_stepNumber : Cond.instanceMethod yX7_stepNumber ∈ am_big := bt_3 88 rfl rfl
theorem wm_X7_65 : Cond.methodLink RX7 65 yX7_signKind ∈ am_big := bt_3 91 rfl rfl
theorem ws_X7_signKind : Cond.static yX7_signKind ∈ am_big := bt_3 92 rfl rfl
theorem wm_X7_69 : Cond.methodLink RX7 69 yX7_stepSecondSign ∈ am_big := bt_3 94 rfl rfl
theorem wh_X7_stepSecondSign : Cond.instanceMethod yX7_stepSecondSign ∈ am_big := bt_3 96 rfl rfl
theorem wc_X7_76 : Cond.constant RX7 76 (Int32.ofInt 1000000) ∈ am_big := bt_3 90 rfl rfl
theorem wm_X8_3 : Cond.methodLink RX8 3 objectInit ∈ am_big := bt_1 172 rfl rfl
theorem wk_X8_9 : Cond.classLink RX8 9 RX10 ∈ am_big := bt_1 173 rfl rfl
theorem wi_X10 : Cond.instantiable RX10 14 ∈ am_big := bt_1 174 rfl rfl
theorem wm_X8_11 : Cond.methodLink RX8 11 yX10_init ∈ am_big := bt_1 175 rfl rfl
theorem wh_X10_init : Cond.instanceMethod yX10_init ∈ am_big := bt_1 176 rfl rfl
theorem wf_X8_12 : Cond.fieldLink RX8 12 (TX8 6).1 (TX8 6).2.1 (TX8 6).2.2.1 ∈ am_big := bt_2 25 rfl rfl
theorem wf_X8_18 : Cond.fieldLink RX8 18 (TX8 7).1 (TX8 7).2.1 (TX8 7).2.2.1 ∈ am_big := bt_2 28 rfl rfl
theorem wf_X8_22 : Cond.fieldLink RX8 22 (TX8 8).1 (TX8 8).2.1 (TX8 8).2.2.1 ∈ am_big := bt_2 31 rfl rfl
theorem wf_X8_25 : Cond.fieldLink RX8 25 (TX8 9).1 (TX8 9).2.1 (TX8 9).2.2.1 ∈ am_big := bt_2 35 rfl rfl
theorem wf_X8_28 : Cond.fieldLink RX8 28 (TX8 10).1 (TX8 10).2.1 (TX8 10).2.2.1 ∈ am_big := bt_2 38 rfl rfl
theorem wf_X8_31 : Cond.fieldLink RX8 31 (TX8 11).1 (TX8 11).2.1 (TX8 11).2.2.1 ∈ am_big := bt_2 41 rfl rfl
theorem wf_X8_34 : Cond.fieldLink RX8 34 (TX8 12).1 (TX8 12).2.1 (TX8 12).2.2.1 ∈ am_big := bt_2 45 rfl rfl
theorem wf_X8_37 : Cond.fieldLink RX8 37 (TX8 13).1 (TX8 13).2.1 (TX8 13).2.2.1 ∈ am_big := bt_2 48 rfl rfl
theorem wf_X8_40 : Cond.fieldLink RX8 40 (TX8 14).1 (TX8 14).2.1 (TX8 14).2.2.1 ∈ am_big := bt_2 51 rfl rfl
theorem wf_X8_43 : Cond.fieldLink RX8 43 (TX8 15).1 (TX8 15).2.1 (TX8 15).2.2.1 ∈ am_big := bt_2 54 rfl rfl
theorem wf_X8_46 : Cond.fieldLink RX8 46 (TX8 16).1 (TX8 16).2.1 (TX8 16).2.2.1 ∈ am_big := bt_2 57 rfl rfl
theorem wf_X8_49 : Cond.fieldLink RX8 49 (TX8 0).1 (TX8 0).2.1 (TX8 0).2.2.1 ∈ am_big := bt_2 6 rfl rfl
theorem wf_X8_53 : Cond.fieldLink RX8 53 (TX8 1).1 (TX8 1).2.1 (TX8 1).2.2.1 ∈ am_big := bt_2 9 rfl rfl
theorem wf_X8_56 : Cond.fieldLink RX8 56 (TX8 2).1 (TX8 2).2.1 (TX8 2).2.2.1 ∈ am_big := bt_2 13 rfl rfl
theorem wf_X8_59 : Cond.fieldLink RX8 59 (TX8 3).1 (TX8 3).2.1 (TX8 3).2.2.1 ∈ am_big := bt_2 17 rfl rfl
theorem wf_X8_62 : Cond.fieldLink RX8 62 (TX8 4).1 (TX8 4).2.1 (TX8 4).2.2.1 ∈ am_big := bt_2 21 rfl rfl
theorem wf_X8_66 : Cond.fieldLink RX8 66 (TX8 5).1 (TX8 5).2.1 (TX8 5).2.2.1 ∈ am_big := bt_2 23 rfl rfl
theorem wm_X8_69 : Cond.methodLink RX8 69 yX10_clear ∈ am_big := bt_3 56 rfl rfl
theorem wh_X10_clear : Cond.instanceMethod yX10_clear ∈ am_big := bt_3 57 rfl rfl
theorem wm_X9_3 : Cond.methodLink RX9 3 objectInit ∈ am_big := bt_4 192 rfl rfl
theorem wf_X9_11 : Cond.fieldLink RX9 11 (TX9 0).1 (TX9 0).2.1 (TX9 0).2.2.1 ∈ am_big := bt_4 208 rfl rfl
theorem wf_X9_15 : Cond.fieldLink RX9 15 (TX9 1).1 (TX9 1).2.1 (TX9 1).2.2.1 ∈ am_big := bt_4 209 rfl rfl
theorem wm_X9_18 : Cond.methodLink RX9 18 yX9_lay ∈ am_big := bt_4 193 rfl rfl
theorem ws_X9_lay : Cond.static yX9_lay ∈ am_big := bt_4 194 rfl rfl
theorem ws_X11_reverse : Cond.static yX11_reverse ∈ am_big := bt_4 199 rfl rfl
theorem ws_X11_orderOf : Cond.static yX11_orderOf ∈ am_big := bt_4 202 rfl rfl
theorem wm_X9_29 : Cond.methodLink RX9 29 yX9_flipped ∈ am_big := bt_4 205 rfl rfl
theorem ws_X9_flipped : Cond.static yX9_flipped ∈ am_big := bt_4 206 rfl rfl
theorem wm_X10_3 : Cond.methodLink RX10 3 objectInit ∈ am_big := bt_1 178 rfl rfl
theorem wf_X10_9 : Cond.fieldLink RX10 9 (TX10 6).1 (TX10 6).2.1 (TX10 6).2.2.1 ∈ am_big := bt_1 198 rfl rfl
theorem wf_X10_15 : Cond.fieldLink RX10 15 (TX10 7).1 (TX10 7).2.1 (TX10 7).2.2.1 ∈ am_big := bt_1 203 rfl rfl
theorem wf_X10_18 : Cond.fieldLink RX10 18 (TX10 8).1 (TX10 8).2.1 (TX10 8).2.2.1 ∈ am_big := bt_1 205 rfl rfl
theorem wf_X10_21 : Cond.fieldLink RX10 21 (TX10 9).1 (TX10 9).2.1 (TX10 9).2.2.1 ∈ am_big := bt_1 209 rfl rfl
theorem wf_X10_24 : Cond.fieldLink RX10 24 (TX10 10).1 (TX10 10).2.1 (TX10 10).2.2.1 ∈ am_big := bt_1 210 rfl rfl
theorem wf_X10_27 : Cond.fieldLink RX10 27 (TX10 11).1 (TX10 11).2.1 (TX10 11).2.2.1 ∈ am_big := bt_1 212 rfl rfl
theorem wf_X10_30 : Cond.fieldLink RX10 30 (TX10 12).1 (TX10 12).2.1 (TX10 12).2.2.1 ∈ am_big := bt_1 214 rfl rfl
theorem wf_X10_33 : Cond.fieldLink RX10 33 (TX10 13).1 (TX10 13).2.1 (TX10 13).2.2.1 ∈ am_big := bt_1 216 rfl rfl
theorem wf_X10_36 : Cond.fieldLink RX10 36 (TX10 0).1 (TX10 0).2.1 (TX10 0).2.2.1 ∈ am_big := bt_1 179 rfl rfl
theorem wf_X10_40 : Cond.fieldLink RX10 40 (TX10 1).1 (TX10 1).2.1 (TX10 1).2.2.1 ∈ am_big := bt_1 182 rfl rfl
theorem wf_X10_43 : Cond.fieldLink RX10 43 (TX10 2).1 (TX10 2).2.1 (TX10 2).2.2.1 ∈ am_big := bt_1 185 rfl rfl
theorem wf_X10_46 : Cond.fieldLink RX10 46 (TX10 3).1 (TX10 3).2.1 (TX10 3).2.2.1 ∈ am_big := bt_1 187 rfl rfl
theorem wf_X10_49 : Cond.fieldLink RX10 49 (TX10 4).1 (TX10 4).2.1 (TX10 4).2.2.1 ∈ am_big := bt_1 191 rfl rfl
theorem wf_X10_52 : Cond.fieldLink RX10 52 (TX10 5).1 (TX10 5).2.1 (TX10 5).2.2.1 ∈ am_big := bt_1 194 rfl rfl
theorem wm_X10_56 : Cond.methodLink RX10 56 arraycopyName ∈ am_big := bt_3 217 rfl rfl
theorem wnat : Cond.native arraycopyName ∈ am_big := bt_3 219 rfl rfl
theorem wst_copy : Cond.static arraycopyName ∈ am_big := bt_3 218 rfl rfl
theorem wn_Sys : Cond.initialized "java/lang/System" ∈ am_big := bt_1 17 rfl rfl
theorem wm_X10_62 : Cond.methodLink RX10 62 yX10_hasPile ∈ am_big := bt_3 159 rfl rfl
theorem wm_X10_66 : Cond.methodLink RX10 66 yX10_plateAt ∈ am_big := bt_3 151 rfl rfl
theorem wh_X10_plateAt : Cond.instanceMethod yX10_plateAt ∈ am_big := bt_3 152 rfl rfl
theorem wm_X10_70 : Cond.methodLink RX10 70 yX10_sizeAt ∈ am_big := bt_3 147 rfl rfl
theorem wm_X10_73 : Cond.methodLink RX10 73 yX10_rankAt ∈ am_big := bt_5 76 rfl rfl
theorem wh_X10_rankAt : Cond.instanceMethod yX10_rankAt ∈ am_big := bt_5 69 rfl rfl
theorem wm_X10_76 : Cond.methodLink RX10 76 yX10_faceAt ∈ am_big := bt_4 165 rfl rfl
theorem wh_X10_faceAt : Cond.instanceMethod yX10_faceAt ∈ am_big := bt_4 166 rfl rfl
theorem wm_X10_83 : Cond.methodLink RX10 83 yX10_isRight ∈ am_big := bt_4 153 rfl rfl
theorem wh_X10_isRight : Cond.instanceMethod yX10_isRight ∈ am_big := bt_4 154 rfl rfl
theorem wm_X10_86 : Cond.methodLink RX10 86 yX10_gaps ∈ am_big := bt_6 35 rfl rfl
theorem wm_X10_90 : Cond.methodLink RX10 90 yX10_isProper ∈ am_big := bt_4 161 rfl rfl
theorem wh_X10_isProper : Cond.instanceMethod yX10_isProper ∈ am_big := bt_4 162 rfl rfl
theorem wm_X10_93 : Cond.methodLink RX10 93 yX10_turnOver ∈ am_big := bt_6 60 rfl rfl
theorem wm_X11_3 : Cond.methodLink RX11 3 objectInit ∈ am_big := bt_1 30 rfl rfl
theorem wa_byte : Cond.arrayClass .byte ∈ am_big := bt_1 121 rfl rfl
theorem wf_X11_9 : Cond.fieldLink RX11 9 (TX11 0).1 (TX11 0).2.1 (TX11 0).2.2.1 ∈ am_big := bt_2 215 rfl rfl
theorem wf_X11_13 : Cond.fieldLink RX11 13 (TX11 1).1 (TX11 1).2.1 (TX11 1).2.2.1 ∈ am_big := bt_2 216 rfl rfl
theorem wf_X11_17 : Cond.fieldLink RX11 17 (TX11 2).1 (TX11 2).2.1 (TX11 2).2.2.1 ∈ am_big := bt_2 217 rfl rfl
theorem wf_X11_20 : Cond.fieldLink RX11 20 (TX11 3).1 (TX11 3).2.1 (TX11 3).2.2.1 ∈ am_big := bt_2 218 rfl rfl
theorem wk_X11_23 : Cond.classLink RX11 23 RX5 ∈ am_big := bt_1 33 rfl rfl
theorem wi_X5 : Cond.instantiable RX5 3 ∈ am_big := bt_1 34 rfl rfl
theorem wm_X11_25 : Cond.methodLink RX11 25 yX5_init ∈ am_big := bt_1 35 rfl rfl
theorem wh_X5_init : Cond.instanceMethod yX5_init ∈ am_big := bt_1 36 rfl rfl
theorem wf_X11_26 : Cond.fieldLink RX11 26 (TX11 4).1 (TX11 4).2.1 (TX11 4).2.2.1 ∈ am_big := bt_2 219 rfl rfl
theorem wk_X11_30 : Cond.classLink RX11 30 RX8 ∈ am_big := bt_1 167 rfl rfl
theorem wi_X8 : Cond.instantiable RX8 17 ∈ am_big := bt_1 168 rfl rfl
theorem wm_X11_32 : Cond.methodLink RX11 32 yX8_init ∈ am_big := bt_1 169 rfl rfl
theorem wh_X8_init : Cond.instanceMethod yX8_init ∈ am_big := bt_1 170 rfl rfl
theorem wf_X11_33 : Cond.fieldLink RX11 33 (TX11 5).1 (TX11 5).2.1 (TX11 5).2.2.1 ∈ am_big := bt_2 220 rfl rfl
theorem wf_X11_37 : Cond.fieldLink RX11 37 (TX11 6).1 (TX11 6).2.1 (TX11 6).2.2.1 ∈ am_big := bt_2 221 rfl rfl
theorem wk_X11_40 : Cond.classLink RX11 40 RX10 ∈ am_big := bt_2 95 rfl rfl
theorem wm_X11_42 : Cond.methodLink RX11 42 yX10_init ∈ am_big := bt_2 96 rfl rfl
theorem wf_X11_43 : Cond.fieldLink RX11 43 (TX11 7).1 (TX11 7).2.1 (TX11 7).2.2.1 ∈ am_big := bt_2 222 rfl rfl
theorem wf_X11_47 : Cond.fieldLink RX11 47 (TX11 8).1 (TX11 8).2.1 (TX11 8).2.2.1 ∈ am_big := bt_2 223 rfl rfl
theorem wf_X11_50 : Cond.fieldLink RX11 50 (TX11 9).1 (TX11 9).2.1 (TX11 9).2.2.1 ∈ am_big := bt_2 224 rfl rfl
theorem wf_X11_53 : Cond.fieldLink RX11 53 (TX11 10).1 (TX11 10).2.1 (TX11 10).2.2.1 ∈ am_big := bt_2 225 rfl rfl
theorem wk_X11_57 : Cond.classLink RX11 57 RX3 ∈ am_big := bt_2 97 rfl rfl
theorem wm_X11_59 : Cond.methodLink RX11 59 yX3_init ∈ am_big := bt_2 99 rfl rfl
theorem wf_X11_60 : Cond.fieldLink RX11 60 (TX11 11).1 (TX11 11).2.1 (TX11 11).2.2.1 ∈ am_big := bt_2 226 rfl rfl
theorem wk_X11_64 : Cond.classLink RX11 64 RX4 ∈ am_big := bt_2 126 rfl rfl
theorem wi_X4 : Cond.instantiable RX4 8 ∈ am_big := bt_2 127 rfl rfl
theorem wm_X11_66 : Cond.methodLink RX11 66 yX4_init ∈ am_big := bt_2 128 rfl rfl
theorem wh_X4_init : Cond.instanceMethod yX4_init ∈ am_big := bt_2 129 rfl rfl
theorem wf_X11_67 : Cond.fieldLink RX11 67 (TX11 12).1 (TX11 12).2.1 (TX11 12).2.2.1 ∈ am_big := bt_2 227 rfl rfl
theorem wk_X11_71 : Cond.classLink RX11 71 RX1 ∈ am_big := bt_2 159 rfl rfl
theorem wi_X1 : Cond.instantiable RX1 5 ∈ am_big := bt_2 160 rfl rfl
theorem wn_X1 : Cond.initialized RX1 ∈ am_big := bt_1 13 rfl rfl
theorem wm_X11_73 : Cond.methodLink RX11 73 yX1_init ∈ am_big := bt_2 161 rfl rfl
theorem wh_X1_init : Cond.instanceMethod yX1_init ∈ am_big := bt_2 162 rfl rfl
theorem wf_X11_74 : Cond.fieldLink RX11 74 (TX11 13).1 (TX11 13).2.1 (TX11 13).2.2.1 ∈ am_big := bt_2 228 rfl rfl
theorem wk_X11_78 : Cond.classLink RX11 78 RX6 ∈ am_big := bt_2 181 rfl rfl
theorem wi_X6 : Cond.instantiable RX6 8 ∈ am_big := bt_2 182 rfl rfl
theorem wm_X11_80 : Cond.methodLink RX11 80 yX6_init ∈ am_big := bt_2 183 rfl rfl
theorem wh_X6_init : Cond.instanceMethod yX6_init ∈ am_big := bt_2 184 rfl rfl
theorem wf_X11_81 : Cond.fieldLink RX11 81 (TX11 14).1 (TX11 14).2.1 (TX11 14).2.2.1 ∈ am_big := bt_2 229 rfl rfl
theorem wk_X11_85 : Cond.classLink RX11 85 "PlatePiles$Chart" ∈ am_big := bt_2 213 rfl rfl
theorem wf_X11_87 : Cond.fieldLink RX11 87 (TX11 15).1 (TX11 15).2.1 (TX11 15).2.2.1 ∈ am_big := bt_2 230 rfl rfl
theorem wf_X11_91 : Cond.fieldLink RX11 91 (TX11 16).1 (TX11 16).2.1 (TX11 16).2.2.1 ∈ am_big := bt_2 231 rfl rfl
theorem wf_X11_95 : Cond.fieldLink RX11 95 (TX11 17).1 (TX11 17).2.1 (TX11 17).2.2.1 ∈ am_big := bt_2 232 rfl rfl
theorem wf_X11_99 : Cond.fieldLink RX11 99 (TX11 18).1 (TX11 18).2.1 (TX11 18).2.2.1 ∈ am_big := bt_2 233 rfl rfl
theorem wf_X11_102 : Cond.fieldLink RX11 102 (TX11 19).1 (TX11 19).2.1 (TX11 19).2.2.1 ∈ am_big := bt_2 234 rfl rfl
theorem wm_X11_105 : Cond.methodLink RX11 105 yX11_putOnTape ∈ am_big := bt_3 40 rfl rfl
theorem wh_X11_putOnTape : Cond.instanceMethod yX11_putOnTape ∈ am_big := bt_3 42 rfl rfl
theorem wm_X11_109 : Cond.methodLink RX11 109 yX5_read ∈ am_big := bt_3 48 rfl rfl
theorem wh_X5_read : Cond.instanceMethod yX5_read ∈ am_big := bt_3 49 rfl rfl
theorem wf_X11_117 : Cond.fieldLink RX11 117 (TX8 6).1 (TX8 6).2.1 (TX8 6).2.2.1 ∈ am_big := bt_2 26 rfl rfl
theorem wm_X11_120 : Cond.methodLink RX11 120 yX10_copy ∈ am_big := bt_3 213 rfl rfl
theorem wh_X10_copy : Cond.instanceMethod yX10_copy ∈ am_big := bt_3 214 rfl rfl
theorem wm_X11_124 : Cond.methodLink RX11 124 yX1_forget ∈ am_big := bt_3 220 rfl rfl
theorem wh_X1_forget : Cond.instanceMethod yX1_forget ∈ am_big := bt_3 221 rfl rfl
theorem wm_X11_127 : Cond.methodLink RX11 127 yX6_forget ∈ am_big := bt_3 224 rfl rfl
theorem wh_X6_forget : Cond.instanceMethod yX6_forget ∈ am_big := bt_3 225 rfl rfl
theorem wf_X11_128 : Cond.fieldLink RX11 128 (TX8 0).1 (TX8 0).2.1 (TX8 0).2.2.1 ∈ am_big := bt_2 8 rfl rfl
theorem wm_X11_113 : Cond.methodLink RX11 113 yX5_place ∈ am_big := bt_3 209 rfl rfl
theorem wh_X5_place : Cond.instanceMethod yX5_place ∈ am_big := bt_3 210 rfl rfl
theorem wf_X11_131 : Cond.fieldLink RX11 131 (TX8 7).1 (TX8 7).2.1 (TX8 7).2.2.1 ∈ am_big := bt_2 30 rfl rfl
theorem wf_X11_134 : Cond.fieldLink RX11 134 (TX10 0).1 (TX10 0).2.1 (TX10 0).2.2.1 ∈ am_big := bt_1 181 rfl rfl
theorem wm_X11_137 : Cond.methodLink RX11 137 yX11_indexOf ∈ am_big := bt_3 236 rfl rfl
theorem wf_X11_141 : Cond.fieldLink RX11 141 (TX8 9).1 (TX8 9).2.1 (TX8 9).2.2.1 ∈ am_big := bt_2 37 rfl rfl
theorem wf_X11_144 : Cond.fieldLink RX11 144 (TX10 1).1 (TX10 1).2.1 (TX10 1).2.2.1 ∈ am_big := bt_1 184 rfl rfl
theorem wm_X11_147 : Cond.methodLink RX11 147 yX10_hasPile ∈ am_big := bt_4 1 rfl rfl
theorem wf_X11_171 : Cond.fieldLink RX11 171 (TX10 7).1 (TX10 7).2.1 (TX10 7).2.2.1 ∈ am_big := bt_1 204 rfl rfl
theorem wm_X11_167 : Cond.methodLink RX11 167 yX10_gaps ∈ am_big := bt_4 73 rfl rfl
theorem wm_X11_164 : Cond.methodLink RX11 164 yX10_isProper ∈ am_big := bt_6 169 rfl rfl
theorem wm_X11_161 : Cond.methodLink RX11 161 yX10_isRight ∈ am_big := bt_4 177 rfl rfl
theorem wf_X11_158 : Cond.fieldLink RX11 158 (TX10 6).1 (TX10 6).2.1 (TX10 6).2.2.1 ∈ am_big := bt_1 200 rfl rfl
theorem wm_X11_179 : Cond.methodLink RX11 179 yX10_plateAt ∈ am_big := bt_4 2 rfl rfl
theorem wf_X11_186 : Cond.fieldLink RX11 186 (TX10 11).1 (TX10 11).2.1 (TX10 11).2.2.1 ∈ am_big := bt_1 213 rfl rfl
theorem wf_X11_183 : Cond.fieldLink RX11 183 (TX10 10).1 (TX10 10).2.1 (TX10 10).2.2.1 ∈ am_big := bt_1 211 rfl rfl
theorem wf_X11_189 : Cond.fieldLink RX11 189 (TX10 12).1 (TX10 12).2.1 (TX10 12).2.2.1 ∈ am_big := bt_1 215 rfl rfl
theorem wm_X11_192 : Cond.methodLink RX11 192 yX10_hasMaid ∈ am_big := bt_4 7 rfl rfl
theorem wf_X11_195 : Cond.fieldLink RX11 195 (TX8 8).1 (TX8 8).2.1 (TX8 8).2.2.1 ∈ am_big := bt_2 34 rfl rfl
theorem wf_X11_198 : Cond.fieldLink RX11 198 (TX10 8).1 (TX10 8).2.1 (TX10 8).2.2.1 ∈ am_big := bt_1 208 rfl rfl
theorem wm_X11_205 : Cond.methodLink RX11 205 yX3_lookAt ∈ am_big := bt_4 16 rfl rfl
theorem wc_X11_203 : Cond.constantLong RX11 203 (Int64.ofInt (-9223372036854775808)) ∈ am_big := bt_4 15 rfl rfl
theorem wm_X11_209 : Cond.methodLink RX11 209 yX3_value ∈ am_big := bt_4 20 rfl rfl
theorem wm_X11_213 : Cond.methodLink RX11 213 yX10_turnOver ∈ am_big := bt_4 64 rfl rfl
theorem wm_X11_217 : Cond.methodLink RX11 217 yX1_note ∈ am_big := bt_4 68 rfl rfl
theorem wh_X1_note : Cond.instanceMethod yX1_note ∈ am_big := bt_4 69 rfl rfl
theorem wm_X11_221 : Cond.methodLink RX11 221 yX10_sizeAt ∈ am_big := bt_4 78 rfl rfl
theorem wm_X11_224 : Cond.methodLink RX11 224 yX10_hasSize ∈ am_big := bt_4 79 rfl rfl
theorem wm_X11_228 : Cond.methodLink RX11 228 yX10_lift ∈ am_big := bt_4 80 rfl rfl
theorem wh_X10_lift : Cond.instanceMethod yX10_lift ∈ am_big := bt_4 81 rfl rfl
theorem wf_X11_231 : Cond.fieldLink RX11 231 (TX10 3).1 (TX10 3).2.1 (TX10 3).2.2.1 ∈ am_big := bt_1 190 rfl rfl
theorem wm_X11_234 : Cond.methodLink RX11 234 yX4_begin ∈ am_big := bt_4 92 rfl rfl
theorem wh_X4_begin : Cond.instanceMethod yX4_begin ∈ am_big := bt_4 93 rfl rfl
theorem wm_X11_238 : Cond.methodLink RX11 238 yX4_byNumbers ∈ am_big := bt_4 96 rfl rfl
theorem wh_X4_byNumbers : Cond.instanceMethod yX4_byNumbers ∈ am_big := bt_4 97 rfl rfl
theorem wm_X11_241 : Cond.methodLink RX11 241 yX4_passAll ∈ am_big := bt_4 100 rfl rfl
theorem wh_X4_passAll : Cond.instanceMethod yX4_passAll ∈ am_big := bt_4 101 rfl rfl
theorem wf_X11_253 : Cond.fieldLink RX11 253 (TX10 4).1 (TX10 4).2.1 (TX10 4).2.2.1 ∈ am_big := bt_1 193 rfl rfl
theorem wm_X11_250 : Cond.methodLink RX11 250 yX10_chippedPlates ∈ am_big := bt_4 169 rfl rfl
theorem wh_X10_chippedPlates : Cond.instanceMethod yX10_chippedPlates ∈ am_big := bt_4 170 rfl rfl
theorem wm_X11_247 : Cond.methodLink RX11 247 yX10_properPiles ∈ am_big := bt_4 157 rfl rfl
theorem wh_X10_properPiles : Cond.instanceMethod yX10_properPiles ∈ am_big := bt_4 158 rfl rfl
theorem wm_X11_244 : Cond.methodLink RX11 244 yX10_rightPiles ∈ am_big := bt_4 149 rfl rfl
theorem wh_X10_rightPiles : Cond.instanceMethod yX10_rightPiles ∈ am_big := bt_4 150 rfl rfl
theorem wm_X11_256 : Cond.methodLink RX11 256 yX4_pass ∈ am_big := bt_4 178 rfl rfl
theorem wm_X11_259 : Cond.methodLink RX11 259 yX11_chartOf ∈ am_big := bt_4 183 rfl rfl
theorem wh_X11_chartOf : Cond.instanceMethod yX11_chartOf ∈ am_big := bt_4 185 rfl rfl
theorem wm_X11_263 : Cond.methodLink RX11 263 yX10_state ∈ am_big := bt_5 31 rfl rfl
theorem wh_X10_state : Cond.instanceMethod yX10_state ∈ am_big := bt_5 32 rfl rfl
theorem wm_X11_266 : Cond.methodLink RX11 266 yX0_leastOf ∈ am_big := bt_5 36 rfl rfl
theorem wh_X0_leastOf : Cond.instanceMethod yX0_leastOf ∈ am_big := bt_5 37 rfl rfl
theorem wk_X11_269 : Cond.classLink RX11 269 RX9 ∈ am_big := bt_4 187 rfl rfl
theorem wi_X9 : Cond.instantiable RX9 2 ∈ am_big := bt_4 188 rfl rfl
theorem wm_X11_271 : Cond.methodLink RX11 271 yX9_init ∈ am_big := bt_4 189 rfl rfl
theorem wh_X9_init : Cond.instanceMethod yX9_init ∈ am_big := bt_4 190 rfl rfl
theorem wi_X0 : Cond.instantiable RX0 11 ∈ am_big := bt_4 215 rfl rfl
theorem wm_X11_272 : Cond.methodLink RX11 272 yX0_init ∈ am_big := bt_4 216 rfl rfl
theorem wh_X0_init : Cond.instanceMethod yX0_init ∈ am_big := bt_4 217 rfl rfl
theorem wm_X11_275 : Cond.methodLink RX11 275 yX0_measure ∈ am_big := bt_5 15 rfl rfl
theorem wh_X0_measure : Cond.instanceMethod yX0_measure ∈ am_big := bt_5 16 rfl rfl
theorem wm_X11_278 : Cond.methodLink RX11 278 yX0_nearing ∈ am_big := bt_5 48 rfl rfl
theorem wh_X0_nearing : Cond.instanceMethod yX0_nearing ∈ am_big := bt_5 49 rfl rfl
theorem wm_X11_281 : Cond.methodLink RX11 281 yX0_rowsOf ∈ am_big := bt_5 56 rfl rfl
theorem wh_X0_rowsOf : Cond.instanceMethod yX0_rowsOf ∈ am_big := bt_5 57 rfl rfl
theorem wm_X11_284 : Cond.methodLink RX11 284 yX11_stateAgainst ∈ am_big := bt_5 64 rfl rfl
theorem wh_X11_stateAgainst : Cond.instanceMethod yX11_stateAgainst ∈ am_big := bt_5 66 rfl rfl
theorem wm_X11_288 : Cond.methodLink RX11 288 yX10_rankAt ∈ am_big := bt_5 68 rfl rfl
theorem wm_X11_291 : Cond.methodLink RX11 291 yX10_placeOfRank ∈ am_big := bt_5 72 rfl rfl
theorem wh_X10_placeOfRank : Cond.instanceMethod yX10_placeOfRank ∈ am_big := bt_5 73 rfl rfl
theorem wm_X11_294 : Cond.methodLink RX11 294 yX10_faceAt ∈ am_big := bt_5 77 rfl rfl
theorem wm_X11_297 : Cond.methodLink RX11 297 yX11_orderOf ∈ am_big := bt_5 78 rfl rfl
theorem wm_X11_301 : Cond.methodLink RX11 301 yX0_furthestLeast ∈ am_big := bt_5 83 rfl rfl
theorem wh_X0_furthestLeast : Cond.instanceMethod yX0_furthestLeast ∈ am_big := bt_5 84 rfl rfl
theorem wm_X11_304 : Cond.methodLink RX11 304 yX0_statesAt ∈ am_big := bt_5 91 rfl rfl
theorem wh_X0_statesAt : Cond.instanceMethod yX0_statesAt ∈ am_big := bt_5 92 rfl rfl
theorem wm_X11_307 : Cond.methodLink RX11 307 yX0_reachedBy ∈ am_big := bt_5 99 rfl rfl
theorem wh_X0_reachedBy : Cond.instanceMethod yX0_reachedBy ∈ am_big := bt_5 100 rfl rfl
theorem wm_X11_310 : Cond.methodLink RX11 310 yX11_placeOfGreatest ∈ am_big := bt_5 111 rfl rfl
theorem ws_X11_placeOfGreatest : Cond.static yX11_placeOfGreatest ∈ am_big := bt_5 112 rfl rfl
theorem wm_X11_313 : Cond.methodLink RX11 313 yX11_reverse ∈ am_big := bt_5 114 rfl rfl
theorem wm_X11_317 : Cond.methodLink RX11 317 yX0_winner ∈ am_big := bt_5 119 rfl rfl
theorem wh_X0_winner : Cond.instanceMethod yX0_winner ∈ am_big := bt_5 120 rfl rfl
theorem wm_X11_320 : Cond.methodLink RX11 320 yX0_opening ∈ am_big := bt_5 147 rfl rfl
theorem wh_X0_opening : Cond.instanceMethod yX0_opening ∈ am_big := bt_5 148 rfl rfl
theorem wm_X11_323 : Cond.methodLink RX11 323 yX11_priceThePiles ∈ am_big := bt_5 155 rfl rfl
theorem wh_X11_priceThePiles : Cond.instanceMethod yX11_priceThePiles ∈ am_big := bt_5 157 rfl rfl
theorem wm_X11_326 : Cond.methodLink RX11 326 yX11_bestChoice ∈ am_big := bt_5 159 rfl rfl
theorem wh_X11_bestChoice : Cond.instanceMethod yX11_bestChoice ∈ am_big := bt_5 161 rfl rfl
theorem wm_X11_329 : Cond.methodLink RX11 329 yX11_chosen ∈ am_big := bt_5 169 rfl rfl
theorem wh_X11_chosen : Cond.instanceMethod yX11_chosen ∈ am_big := bt_5 171 rfl rfl
theorem wf_X11_332 : Cond.fieldLink RX11 332 "PlatePiles" "POWER_OF_FIVE" "[I" ∈ am_big := bt_5 163 rfl rfl
theorem wm_X11_335 : Cond.methodLink RX11 335 yX11_worthOf ∈ am_big := bt_5 165 rfl rfl
theorem wh_X11_worthOf : Cond.instanceMethod yX11_worthOf ∈ am_big := bt_5 167 rfl rfl
theorem wf_X11_340 : Cond.fieldLink RX11 340 (TX8 2).1 (TX8 2).2.1 (TX8 2).2.2.1 ∈ am_big := bt_2 16 rfl rfl
theorem wm_X11_343 : Cond.methodLink RX11 343 yX11_commonDivisor ∈ am_big := bt_5 178 rfl rfl
theorem ws_X11_commonDivisor : Cond.static yX11_commonDivisor ∈ am_big := bt_5 179 rfl rfl
theorem wc_X11_338 : Cond.constantLong RX11 338 (Int64.ofInt (-1)) ∈ am_big := bt_5 177 rfl rfl
theorem wm_X11_346 : Cond.methodLink RX11 346 yX6_addSight ∈ am_big := bt_5 186 rfl rfl
theorem wh_X6_addSight : Cond.instanceMethod yX6_addSight ∈ am_big := bt_5 187 rfl rfl
theorem wm_X11_350 : Cond.methodLink RX11 350 yX6_addStrike ∈ am_big := bt_5 194 rfl rfl
theorem wh_X6_addStrike : Cond.instanceMethod yX6_addStrike ∈ am_big := bt_5 195 rfl rfl
theorem wm_X11_353 : Cond.methodLink RX11 353 yX6_knowBy ∈ am_big := bt_5 202 rfl rfl
theorem wh_X6_knowBy : Cond.instanceMethod yX6_knowBy ∈ am_big := bt_5 203 rfl rfl
theorem wf_X11_356 : Cond.fieldLink RX11 356 (TX8 1).1 (TX8 1).2.1 (TX8 1).2.2.1 ∈ am_big := bt_2 12 rfl rfl
theorem wm_X11_359 : Cond.methodLink RX11 359 yX11_depthsLeft ∈ am_big := bt_5 210 rfl rfl
theorem wh_X11_depthsLeft : Cond.instanceMethod yX11_depthsLeft ∈ am_big := bt_5 212 rfl rfl
theorem wm_X11_362 : Cond.methodLink RX11 362 yX6_weigh ∈ am_big := bt_5 214 rfl rfl
theorem wh_X6_weigh : Cond.instanceMethod yX6_weigh ∈ am_big := bt_5 215 rfl rfl
theorem wm_X11_365 : Cond.methodLink RX11 365 yX6_longest ∈ am_big := bt_5 222 rfl rfl
theorem wh_X6_longest : Cond.instanceMethod yX6_longest ∈ am_big := bt_5 223 rfl rfl
theorem wm_X11_368 : Cond.methodLink RX11 368 yX11_beginByDepth ∈ am_big := bt_5 229 rfl rfl
theorem wh_X11_beginByDepth : Cond.instanceMethod yX11_beginByDepth ∈ am_big := bt_5 231 rfl rfl
theorem wm_X11_371 : Cond.methodLink RX11 371 yX6_agrees ∈ am_big := bt_5 237 rfl rfl
theorem wh_X6_agrees : Cond.instanceMethod yX6_agrees ∈ am_big := bt_5 238 rfl rfl
theorem wm_X11_375 : Cond.methodLink RX11 375 yX4_turnBy ∈ am_big := bt_5 233 rfl rfl
theorem wh_X4_turnBy : Cond.instanceMethod yX4_turnBy ∈ am_big := bt_5 234 rfl rfl
theorem wf_X11_378 : Cond.fieldLink RX11 378 (TX8 11).1 (TX8 11).2.1 (TX8 11).2.2.1 ∈ am_big := bt_2 44 rfl rfl
theorem wm_X11_381 : Cond.methodLink RX11 381 yX11_noteAnswers ∈ am_big := bt_6 6 rfl rfl
theorem wh_X11_noteAnswers : Cond.instanceMethod yX11_noteAnswers ∈ am_big := bt_6 8 rfl rfl
theorem wm_X11_384 : Cond.methodLink RX11 384 yX11_bestPlace ∈ am_big := bt_6 10 rfl rfl
theorem wh_X11_bestPlace : Cond.instanceMethod yX11_bestPlace ∈ am_big := bt_6 12 rfl rfl
theorem wm_X11_387 : Cond.methodLink RX11 387 yX11_mostAlike ∈ am_big := bt_6 14 rfl rfl
theorem wh_X11_mostAlike : Cond.instanceMethod yX11_mostAlike ∈ am_big := bt_6 16 rfl rfl
theorem wm_X11_390 : Cond.methodLink RX11 390 Lib.Math.max.name ∈ am_big := bt_6 18 rfl rfl
theorem wf_X11_395 : Cond.fieldLink RX11 395 (TX10 5).1 (TX10 5).2.1 (TX10 5).2.2.1 ∈ am_big := bt_1 197 rfl rfl
theorem wm_X11_399 : Cond.methodLink RX11 399 yX4_tryOtherwise ∈ am_big := bt_6 27 rfl rfl
theorem wh_X4_tryOtherwise : Cond.instanceMethod yX4_tryOtherwise ∈ am_big := bt_6 28 rfl rfl
theorem wm_X11_402 : Cond.methodLink RX11 402 yX10_gapsOfAll ∈ am_big := bt_6 31 rfl rfl
theorem wh_X10_gapsOfAll : Cond.instanceMethod yX10_gapsOfAll ∈ am_big := bt_6 32 rfl rfl
theorem wm_X11_405 : Cond.methodLink RX11 405 yX1_takeLatest ∈ am_big := bt_6 40 rfl rfl
theorem wh_X1_takeLatest : Cond.instanceMethod yX1_takeLatest ∈ am_big := bt_6 41 rfl rfl
theorem wm_X11_409 : Cond.methodLink RX11 409 yX1_kind ∈ am_big := bt_6 44 rfl rfl
theorem wh_X1_kind : Cond.instanceMethod yX1_kind ∈ am_big := bt_6 45 rfl rfl
theorem wm_X11_415 : Cond.methodLink RX11 415 yX1_other ∈ am_big := bt_6 52 rfl rfl
theorem wh_X1_other : Cond.instanceMethod yX1_other ∈ am_big := bt_6 53 rfl rfl
theorem wm_X11_412 : Cond.methodLink RX11 412 yX1_one ∈ am_big := bt_6 48 rfl rfl
theorem wh_X1_one : Cond.instanceMethod yX1_one ∈ am_big := bt_6 49 rfl rfl
theorem wm_X11_424 : Cond.methodLink RX11 424 yX1_left ∈ am_big := bt_6 65 rfl rfl
theorem wh_X1_left : Cond.instanceMethod yX1_left ∈ am_big := bt_6 66 rfl rfl
theorem wm_X11_418 : Cond.methodLink RX11 418 yX10_turnBack ∈ am_big := bt_6 56 rfl rfl
theorem wh_X10_turnBack : Cond.instanceMethod yX10_turnBack ∈ am_big := bt_6 57 rfl rfl
theorem wm_X11_421 : Cond.methodLink RX11 421 yX10_mend ∈ am_big := bt_6 61 rfl rfl
theorem wh_X10_mend : Cond.instanceMethod yX10_mend ∈ am_big := bt_6 62 rfl rfl
theorem wm_X11_442 : Cond.methodLink RX11 442 yX6_knownBy ∈ am_big := bt_6 93 rfl rfl
theorem wm_X11_439 : Cond.methodLink RX11 439 yX6_total ∈ am_big := bt_6 89 rfl rfl
theorem wh_X6_total : Cond.instanceMethod yX6_total ∈ am_big := bt_6 90 rfl rfl
theorem wm_X11_436 : Cond.methodLink RX11 436 yX10_facesDown ∈ am_big := bt_6 85 rfl rfl
theorem wh_X10_facesDown : Cond.instanceMethod yX10_facesDown ∈ am_big := bt_6 86 rfl rfl
theorem wm_X11_433 : Cond.methodLink RX11 433 yX10_tiredOfAll ∈ am_big := bt_6 81 rfl rfl
theorem wh_X10_tiredOfAll : Cond.instanceMethod yX10_tiredOfAll ∈ am_big := bt_6 82 rfl rfl
theorem wf_X11_430 : Cond.fieldLink RX11 430 (TX8 3).1 (TX8 3).2.1 (TX8 3).2.2.1 ∈ am_big := bt_2 20 rfl rfl
theorem wf_X11_427 : Cond.fieldLink RX11 427 (TX10 2).1 (TX10 2).2.1 (TX10 2).2.2.1 ∈ am_big := bt_1 186 rfl rfl
theorem wf_X11_445 : Cond.fieldLink RX11 445 "PlatePiles" "FACTORIAL" "[I" ∈ am_big := bt_4 204 rfl rfl
theorem wm_X11_448 : Cond.methodLink RX11 448 Lib.Math.min.name ∈ am_big := bt_5 181 rfl rfl
theorem wm_X12_1 : Cond.methodLink RX12 1 objectInit ∈ am_big := bt_6 191 rfl rfl
theorem wf_X12_7 : Cond.fieldLink RX12 7 (TX12 0).1 (TX12 0).2.1 (TX12 0).2.2.1 ∈ am_big := bt_6 215 rfl rfl
theorem wf_X12_13 : Cond.fieldLink RX12 13 (TX12 3).1 (TX12 3).2.1 (TX12 3).2.2.1 ∈ am_big := bt_6 218 rfl rfl
theorem wf_X12_16 : Cond.fieldLink RX12 16 (TX12 5).1 (TX12 5).2.1 (TX12 5).2.2.1 ∈ am_big := bt_6 220 rfl rfl
theorem wf_X12_20 : Cond.fieldLink RX12 20 (TX12 22).1 (TX12 22).2.1 (TX12 22).2.2.1 ∈ am_big := bt_6 237 rfl rfl
theorem wf_X12_24 : Cond.fieldLink RX12 24 (TX12 23).1 (TX12 23).2.1 (TX12 23).2.2.1 ∈ am_big := bt_6 238 rfl rfl
theorem wf_X12_27 : Cond.fieldLink RX12 27 (TX12 24).1 (TX12 24).2.1 (TX12 24).2.2.1 ∈ am_big := bt_6 239 rfl rfl
theorem wf_X12_30 : Cond.fieldLink RX12 30 (TX12 25).1 (TX12 25).2.1 (TX12 25).2.2.1 ∈ am_big := bt_7 0 rfl rfl
theorem wf_X12_33 : Cond.fieldLink RX12 33 (TX12 26).1 (TX12 26).2.1 (TX12 26).2.2.1 ∈ am_big := bt_7 1 rfl rfl
theorem wf_X12_36 : Cond.fieldLink RX12 36 (TX12 27).1 (TX12 27).2.1 (TX12 27).2.2.1 ∈ am_big := bt_7 2 rfl rfl
theorem wf_X12_39 : Cond.fieldLink RX12 39 (TX12 28).1 (TX12 28).2.1 (TX12 28).2.2.1 ∈ am_big := bt_7 3 rfl rfl
theorem wf_X12_42 : Cond.fieldLink RX12 42 (TX12 29).1 (TX12 29).2.1 (TX12 29).2.2.1 ∈ am_big := bt_7 4 rfl rfl
theorem wf_X12_45 : Cond.fieldLink RX12 45 (TX12 30).1 (TX12 30).2.1 (TX12 30).2.2.1 ∈ am_big := bt_7 5 rfl rfl
theorem wf_X12_48 : Cond.fieldLink RX12 48 (TX12 31).1 (TX12 31).2.1 (TX12 31).2.2.1 ∈ am_big := bt_7 6 rfl rfl
theorem wf_X12_51 : Cond.fieldLink RX12 51 (TX12 32).1 (TX12 32).2.1 (TX12 32).2.2.1 ∈ am_big := bt_7 7 rfl rfl
theorem wf_X12_54 : Cond.fieldLink RX12 54 (TX12 33).1 (TX12 33).2.1 (TX12 33).2.2.1 ∈ am_big := bt_7 8 rfl rfl
theorem wf_X12_57 : Cond.fieldLink RX12 57 (TX12 34).1 (TX12 34).2.1 (TX12 34).2.2.1 ∈ am_big := bt_7 9 rfl rfl
theorem wf_X12_60 : Cond.fieldLink RX12 60 (TX12 35).1 (TX12 35).2.1 (TX12 35).2.2.1 ∈ am_big := bt_7 10 rfl rfl
theorem wf_X12_63 : Cond.fieldLink RX12 63 (TX12 36).1 (TX12 36).2.1 (TX12 36).2.2.1 ∈ am_big := bt_7 11 rfl rfl
theorem wf_X12_66 : Cond.fieldLink RX12 66 (TX12 37).1 (TX12 37).2.1 (TX12 37).2.2.1 ∈ am_big := bt_7 12 rfl rfl
theorem wf_X12_69 : Cond.fieldLink RX12 69 (TX12 38).1 (TX12 38).2.1 (TX12 38).2.2.1 ∈ am_big := bt_7 13 rfl rfl
theorem wf_X12_72 : Cond.fieldLink RX12 72 (TX12 39).1 (TX12 39).2.1 (TX12 39).2.2.1 ∈ am_big := bt_7 14 rfl rfl
theorem wf_X12_75 : Cond.fieldLink RX12 75 (TX12 40).1 (TX12 40).2.1 (TX12 40).2.2.1 ∈ am_big := bt_7 15 rfl rfl
theorem wf_X12_78 : Cond.fieldLink RX12 78 (TX12 41).1 (TX12 41).2.1 (TX12 41).2.2.1 ∈ am_big := bt_7 16 rfl rfl
theorem wf_X12_81 : Cond.fieldLink RX12 81 (TX12 42).1 (TX12 42).2.1 (TX12 42).2.2.1 ∈ am_big := bt_7 17 rfl rfl
theorem wf_X12_84 : Cond.fieldLink RX12 84 (TX12 49).1 (TX12 49).2.1 (TX12 49).2.2.1 ∈ am_big := bt_7 24 rfl rfl
theorem wf_X12_88 : Cond.fieldLink RX12 88 (TX12 50).1 (TX12 50).2.1 (TX12 50).2.2.1 ∈ am_big := bt_7 25 rfl rfl
theorem wf_X12_91 : Cond.fieldLink RX12 91 (TX12 52).1 (TX12 52).2.1 (TX12 52).2.2.1 ∈ am_big := bt_7 27 rfl rfl
theorem wf_X12_94 : Cond.fieldLink RX12 94 (TX12 53).1 (TX12 53).2.1 (TX12 53).2.2.1 ∈ am_big := bt_7 28 rfl rfl
theorem wf_X12_97 : Cond.fieldLink RX12 97 (TX12 54).1 (TX12 54).2.1 (TX12 54).2.2.1 ∈ am_big := bt_7 29 rfl rfl
theorem wf_X12_100 : Cond.fieldLink RX12 100 (TX12 55).1 (TX12 55).2.1 (TX12 55).2.2.1 ∈ am_big := bt_7 30 rfl rfl
theorem wf_X12_103 : Cond.fieldLink RX12 103 (TX12 56).1 (TX12 56).2.1 (TX12 56).2.2.1 ∈ am_big := bt_7 31 rfl rfl
theorem wf_X12_106 : Cond.fieldLink RX12 106 (TX12 57).1 (TX12 57).2.1 (TX12 57).2.2.1 ∈ am_big := bt_7 32 rfl rfl
theorem wf_X12_109 : Cond.fieldLink RX12 109 (TX12 58).1 (TX12 58).2.1 (TX12 58).2.2.1 ∈ am_big := bt_7 33 rfl rfl
theorem wf_X12_112 : Cond.fieldLink RX12 112 (TX12 59).1 (TX12 59).2.1 (TX12 59).2.2.1 ∈ am_big := bt_7 34 rfl rfl
theorem wf_X12_115 : Cond.fieldLink RX12 115 (TX12 69).1 (TX12 69).2.1 (TX12 69).2.2.1 ∈ am_big := bt_7 44 rfl rfl
theorem wf_X12_118 : Cond.fieldLink RX12 118 (TX12 71).1 (TX12 71).2.1 (TX12 71).2.2.1 ∈ am_big := bt_7 46 rfl rfl
theorem wf_X12_121 : Cond.fieldLink RX12 121 (TX12 72).1 (TX12 72).2.1 (TX12 72).2.2.1 ∈ am_big := bt_7 47 rfl rfl
theorem wf_X12_124 : Cond.fieldLink RX12 124 (TX12 73).1 (TX12 73).2.1 (TX12 73).2.2.1 ∈ am_big := bt_7 48 rfl rfl
theorem wf_X12_127 : Cond.fieldLink RX12 127 (TX12 75).1 (TX12 75).2.1 (TX12 75).2.2.1 ∈ am_big := bt_7 50 rfl rfl
theorem wf_X12_130 : Cond.fieldLink RX12 130 (TX12 76).1 (TX12 76).2.1 (TX12 76).2.2.1 ∈ am_big := bt_7 51 rfl rfl
theorem wf_X12_133 : Cond.fieldLink RX12 133 (TX12 79).1 (TX12 79).2.1 (TX12 79).2.2.1 ∈ am_big := bt_7 54 rfl rfl
theorem wf_X12_136 : Cond.fieldLink RX12 136 (TX12 81).1 (TX12 81).2.1 (TX12 81).2.2.1 ∈ am_big := bt_7 56 rfl rfl
theorem wf_X12_139 : Cond.fieldLink RX12 139 (TX12 82).1 (TX12 82).2.1 (TX12 82).2.2.1 ∈ am_big := bt_7 57 rfl rfl
theorem wf_X12_142 : Cond.fieldLink RX12 142 (TX12 83).1 (TX12 83).2.1 (TX12 83).2.2.1 ∈ am_big := bt_7 58 rfl rfl
theorem wf_X12_145 : Cond.fieldLink RX12 145 (TX12 84).1 (TX12 84).2.1 (TX12 84).2.2.1 ∈ am_big := bt_7 59 rfl rfl
theorem wf_X12_148 : Cond.fieldLink RX12 148 (TX12 86).1 (TX12 86).2.1 (TX12 86).2.2.1 ∈ am_big := bt_7 61 rfl rfl
theorem wf_X12_151 : Cond.fieldLink RX12 151 (TX12 87).1 (TX12 87).2.1 (TX12 87).2.2.1 ∈ am_big := bt_7 62 rfl rfl
theorem wf_X12_154 : Cond.fieldLink RX12 154 (TX12 89).1 (TX12 89).2.1 (TX12 89).2.2.1 ∈ am_big := bt_7 64 rfl rfl
theorem wf_X12_157 : Cond.fieldLink RX12 157 (TX12 90).1 (TX12 90).2.1 (TX12 90).2.2.1 ∈ am_big := bt_7 65 rfl rfl
theorem wf_X12_160 : Cond.fieldLink RX12 160 (TX12 91).1 (TX12 91).2.1 (TX12 91).2.2.1 ∈ am_big := bt_7 66 rfl rfl
theorem wm_X12_163 : Cond.methodLink RX12 163 yX12_plain ∈ am_big := bt_6 192 rfl rfl
theorem wn_X12 : Cond.initialized RX12 ∈ am_big := bt_1 15 rfl rfl
theorem wh_X12_plain : Cond.instanceMethod yX12_plain ∈ am_big := bt_6 194 rfl rfl
theorem wm_X12_166 : Cond.methodLink RX12 166 yX12_keepText ∈ am_big := bt_6 196 rfl rfl
theorem wh_X12_keepText : Cond.instanceMethod yX12_keepText ∈ am_big := bt_6 198 rfl rfl
theorem wf_X12_169 : Cond.fieldLink RX12 169 (TX12 2).1 (TX12 2).2.1 (TX12 2).2.2.1 ∈ am_big := bt_6 217 rfl rfl
theorem wf_X12_172 : Cond.fieldLink RX12 172 (TX12 1).1 (TX12 1).2.1 (TX12 1).2.2.1 ∈ am_big := bt_6 216 rfl rfl
theorem wf_X12_175 : Cond.fieldLink RX12 175 (TX12 4).1 (TX12 4).2.1 (TX12 4).2.2.1 ∈ am_big := bt_6 219 rfl rfl
theorem wf_X12_178 : Cond.fieldLink RX12 178 (TX12 10).1 (TX12 10).2.1 (TX12 10).2.2.1 ∈ am_big := bt_6 225 rfl rfl
theorem wf_X12_181 : Cond.fieldLink RX12 181 (TX12 6).1 (TX12 6).2.1 (TX12 6).2.2.1 ∈ am_big := bt_6 221 rfl rfl
theorem wf_X12_184 : Cond.fieldLink RX12 184 (TX12 7).1 (TX12 7).2.1 (TX12 7).2.2.1 ∈ am_big := bt_6 222 rfl rfl
theorem wf_X12_187 : Cond.fieldLink RX12 187 (TX12 8).1 (TX12 8).2.1 (TX12 8).2.2.1 ∈ am_big := bt_6 223 rfl rfl
theorem wm_X12_190 : Cond.methodLink RX12 190 yX12_isSmall ∈ am_big := bt_8 31 rfl rfl
theorem wh_X12_isSmall : Cond.instanceMethod yX12_isSmall ∈ am_big := bt_8 33 rfl rfl
theorem wm_X12_194 : Cond.methodLink RX12 194 yX12_wordAt ∈ am_big := bt_8 35 rfl rfl
theorem wh_X12_wordAt : Cond.instanceMethod yX12_wordAt ∈ am_big := bt_8 37 rfl rfl
theorem wf_X12_198 : Cond.fieldLink RX12 198 (TX12 9).1 (TX12 9).2.1 (TX12 9).2.2.1 ∈ am_big := bt_6 224 rfl rfl
theorem wm_X12_201 : Cond.methodLink RX12 201 yX12_packed ∈ am_big := bt_8 39 rfl rfl
theorem wh_X12_packed : Cond.instanceMethod yX12_packed ∈ am_big := bt_8 41 rfl rfl
theorem wm_X12_204 : Cond.methodLink RX12 204 yX12_isDigit ∈ am_big := bt_8 43 rfl rfl
theorem wh_X12_isDigit : Cond.instanceMethod yX12_isDigit ∈ am_big := bt_8 45 rfl rfl
theorem wc_X12_207 : Cond.constant RX12 207 (Int32.ofInt 99999) ∈ am_big := bt_8 47 rfl rfl
theorem wm_X12_208 : Cond.methodLink RX12 208 yX12_signToken ∈ am_big := bt_8 48 rfl rfl
theorem wh_X12_signToken : Cond.instanceMethod yX12_signToken ∈ am_big := bt_8 50 rfl rfl
theorem wm_X12_211 : Cond.methodLink RX12 211 yX12_wrong ∈ am_big := bt_8 56 rfl rfl
theorem wh_X12_wrong : Cond.instanceMethod yX12_wrong ∈ am_big := bt_8 58 rfl rfl
theorem wm_X12_214 : Cond.methodLink RX12 214 yX12_isIn ∈ am_big := bt_8 75 rfl rfl
theorem ws_X12_isIn : Cond.static yX12_isIn ∈ am_big := bt_8 76 rfl rfl
theorem wf_X12_218 : Cond.fieldLink RX12 218 (TX12 11).1 (TX12 11).2.1 (TX12 11).2.2.1 ∈ am_big := bt_6 226 rfl rfl
theorem wm_X12_221 : Cond.methodLink RX12 221 yX12_token ∈ am_big := bt_8 27 rfl rfl
theorem wh_X12_token : Cond.instanceMethod yX12_token ∈ am_big := bt_8 29 rfl rfl
theorem wf_X12_231 : Cond.fieldLink RX12 231 (TX12 17).1 (TX12 17).2.1 (TX12 17).2.2.1 ∈ am_big := bt_6 232 rfl rfl
theorem wf_X12_234 : Cond.fieldLink RX12 234 (TX12 18).1 (TX12 18).2.1 (TX12 18).2.2.1 ∈ am_big := bt_6 233 rfl rfl
theorem wf_X12_237 : Cond.fieldLink RX12 237 (TX12 19).1 (TX12 19).2.1 (TX12 19).2.2.1 ∈ am_big := bt_6 234 rfl rfl
theorem wf_X12_240 : Cond.fieldLink RX12 240 (TX12 20).1 (TX12 20).2.1 (TX12 20).2.2.1 ∈ am_big := bt_6 235 rfl rfl
theorem wf_X12_243 : Cond.fieldLink RX12 243 (TX12 21).1 (TX12 21).2.1 (TX12 21).2.2.1 ∈ am_big := bt_6 236 rfl rfl
theorem wf_X12_246 : Cond.fieldLink RX12 246 (TX12 46).1 (TX12 46).2.1 (TX12 46).2.2.1 ∈ am_big := bt_7 21 rfl rfl
theorem wf_X12_249 : Cond.fieldLink RX12 249 (TX12 12).1 (TX12 12).2.1 (TX12 12).2.2.1 ∈ am_big := bt_6 227 rfl rfl
theorem wf_X12_252 : Cond.fieldLink RX12 252 (TX12 13).1 (TX12 13).2.1 (TX12 13).2.2.1 ∈ am_big := bt_6 228 rfl rfl
theorem wf_X12_255 : Cond.fieldLink RX12 255 (TX12 14).1 (TX12 14).2.1 (TX12 14).2.2.1 ∈ am_big := bt_6 229 rfl rfl
theorem wf_X12_258 : Cond.fieldLink RX12 258 (TX12 15).1 (TX12 15).2.1 (TX12 15).2.2.1 ∈ am_big := bt_6 230 rfl rfl
theorem wf_X12_261 : Cond.fieldLink RX12 261 (TX12 16).1 (TX12 16).2.1 (TX12 16).2.2.1 ∈ am_big := bt_6 231 rfl rfl
theorem wm_X12_264 : Cond.methodLink RX12 264 yX12_copies ∈ am_big := bt_6 200 rfl rfl
theorem ws_X12_copies : Cond.static yX12_copies ∈ am_big := bt_6 201 rfl rfl
theorem wm_X12_268 : Cond.methodLink RX12 268 yX12_begin ∈ am_big := bt_6 203 rfl rfl
theorem wh_X12_begin : Cond.instanceMethod yX12_begin ∈ am_big := bt_6 205 rfl rfl
theorem wm_X12_271 : Cond.methodLink RX12 271 yX12_find ∈ am_big := bt_8 68 rfl rfl
theorem ws_X12_find : Cond.static yX12_find ∈ am_big := bt_8 69 rfl rfl
theorem wm_X12_275 : Cond.methodLink RX12 275 yX12_newName ∈ am_big := bt_8 64 rfl rfl
theorem wh_X12_newName : Cond.instanceMethod yX12_newName ∈ am_big := bt_8 66 rfl rfl
theorem wm_X12_227 : Cond.methodLink RX12 227 yX12_number ∈ am_big := bt_8 71 rfl rfl
theorem wh_X12_number : Cond.instanceMethod yX12_number ∈ am_big := bt_8 73 rfl rfl
theorem wm_X12_279 : Cond.methodLink RX12 279 yX12_thereIn ∈ am_big := bt_8 86 rfl rfl
theorem wh_X12_thereIn : Cond.instanceMethod yX12_thereIn ∈ am_big := bt_8 88 rfl rfl
theorem wm_X12_295 : Cond.methodLink RX12 295 yX12_onceLine ∈ am_big := bt_8 94 rfl rfl
theorem wh_X12_onceLine : Cond.instanceMethod yX12_onceLine ∈ am_big := bt_8 96 rfl rfl
theorem wm_X12_224 : Cond.methodLink RX12 224 yX12_isSign ∈ am_big := bt_8 102 rfl rfl
theorem wh_X12_isSign : Cond.instanceMethod yX12_isSign ∈ am_big := bt_8 104 rfl rfl
theorem wm_X12_292 : Cond.methodLink RX12 292 yX12_turnLine ∈ am_big := bt_8 90 rfl rfl
theorem wh_X12_turnLine : Cond.instanceMethod yX12_turnLine ∈ am_big := bt_8 92 rfl rfl
theorem wm_X12_289 : Cond.methodLink RX12 289 yX12_plateLine ∈ am_big := bt_8 82 rfl rfl
theorem wh_X12_plateLine : Cond.instanceMethod yX12_plateLine ∈ am_big := bt_8 84 rfl rfl
theorem wm_X12_286 : Cond.methodLink RX12 286 yX12_pileLine ∈ am_big := bt_8 78 rfl rfl
theorem wh_X12_pileLine : Cond.instanceMethod yX12_pileLine ∈ am_big := bt_8 80 rfl rfl
theorem wm_X12_282 : Cond.methodLink RX12 282 yX12_maidLine ∈ am_big := bt_8 60 rfl rfl
theorem wh_X12_maidLine : Cond.instanceMethod yX12_maidLine ∈ am_big := bt_8 62 rfl rfl
theorem wm_X12_298 : Cond.methodLink RX12 298 yX12_sumRead ∈ am_big := bt_8 98 rfl rfl
theorem wh_X12_sumRead : Cond.instanceMethod yX12_sumRead ∈ am_big := bt_8 100 rfl rfl
theorem wm_X12_301 : Cond.methodLink RX12 301 yX12_lineRead ∈ am_big := bt_8 52 rfl rfl
theorem wh_X12_lineRead : Cond.instanceMethod yX12_lineRead ∈ am_big := bt_8 54 rfl rfl
theorem wf_X12_304 : Cond.fieldLink RX12 304 (TX12 44).1 (TX12 44).2.1 (TX12 44).2.2.1 ∈ am_big := bt_7 19 rfl rfl
theorem wf_X12_307 : Cond.fieldLink RX12 307 (TX12 43).1 (TX12 43).2.1 (TX12 43).2.2.1 ∈ am_big := bt_7 18 rfl rfl
theorem wm_X12_310 : Cond.methodLink RX12 310 yX12_standing ∈ am_big := bt_8 138 rfl rfl
theorem ws_X12_standing : Cond.static yX12_standing ∈ am_big := bt_8 139 rfl rfl
theorem wm_X12_314 : Cond.methodLink RX12 314 yX12_dropHeld ∈ am_big := bt_8 141 rfl rfl
theorem wh_X12_dropHeld : Cond.instanceMethod yX12_dropHeld ∈ am_big := bt_8 143 rfl rfl
theorem wm_X12_318 : Cond.methodLink RX12 318 yX12_grown ∈ am_big := bt_8 126 rfl rfl
theorem wh_X12_grown : Cond.instanceMethod yX12_grown ∈ am_big := bt_8 128 rfl rfl
theorem wf_X12_322 : Cond.fieldLink RX12 322 (TX12 45).1 (TX12 45).2.1 (TX12 45).2.2.1 ∈ am_big := bt_7 20 rfl rfl
theorem wm_X12_325 : Cond.methodLink RX12 325 yX12_waitsFor ∈ am_big := bt_8 110 rfl rfl
theorem wh_X12_waitsFor : Cond.instanceMethod yX12_waitsFor ∈ am_big := bt_8 112 rfl rfl
theorem wf_X12_329 : Cond.fieldLink RX12 329 (TX12 48).1 (TX12 48).2.1 (TX12 48).2.2.1 ∈ am_big := bt_7 23 rfl rfl
theorem wm_X12_333 : Cond.methodLink RX12 333 yX12_isKey ∈ am_big := bt_8 114 rfl rfl
theorem wh_X12_isKey : Cond.instanceMethod yX12_isKey ∈ am_big := bt_8 116 rfl rfl
theorem wm_X12_336 : Cond.methodLink RX12 336 yX12_isCounted ∈ am_big := bt_8 118 rfl rfl
theorem wh_X12_isCounted : Cond.instanceMethod yX12_isCounted ∈ am_big := bt_8 120 rfl rfl
theorem wm_X12_339 : Cond.methodLink RX12 339 yX12_nameMet ∈ am_big := bt_8 122 rfl rfl
theorem wh_X12_nameMet : Cond.instanceMethod yX12_nameMet ∈ am_big := bt_8 124 rfl rfl
theorem wf_X12_342 : Cond.fieldLink RX12 342 (TX12 47).1 (TX12 47).2.1 (TX12 47).2.2.1 ∈ am_big := bt_7 22 rfl rfl
theorem wm_X12_345 : Cond.methodLink RX12 345 yX12_bind ∈ am_big := bt_8 134 rfl rfl
theorem wh_X12_bind : Cond.instanceMethod yX12_bind ∈ am_big := bt_8 136 rfl rfl
theorem wm_X12_348 : Cond.methodLink RX12 348 yX12_leafRead ∈ am_big := bt_8 106 rfl rfl
theorem wh_X12_leafRead : Cond.instanceMethod yX12_leafRead ∈ am_big := bt_8 108 rfl rfl
theorem wm_X12_351 : Cond.methodLink RX12 351 yX12_signs ∈ am_big := bt_8 130 rfl rfl
theorem wh_X12_signs : Cond.instanceMethod yX12_signs ∈ am_big := bt_8 132 rfl rfl
theorem wf_X12_354 : Cond.fieldLink RX12 354 (TX12 51).1 (TX12 51).2.1 (TX12 51).2.2.1 ∈ am_big := bt_7 26 rfl rfl
theorem wc_X12_357 : Cond.constantLong RX12 357 (Int64.ofInt 1000000000000) ∈ am_big := bt_8 230 rfl rfl
theorem wc_X12_359 : Cond.constantLong RX12 359 (Int64.ofInt (-1000000000000)) ∈ am_big := bt_8 231 rfl rfl
theorem wm_X12_365 : Cond.methodLink RX12 365 yX12_times ∈ am_big := bt_8 232 rfl rfl
theorem wh_X12_times : Cond.instanceMethod yX12_times ∈ am_big := bt_8 234 rfl rfl
theorem wm_X12_361 : Cond.methodLink RX12 361 yX12_bounded ∈ am_big := bt_8 226 rfl rfl
theorem wh_X12_bounded : Cond.instanceMethod yX12_bounded ∈ am_big := bt_8 228 rfl rfl
theorem wm_X12_369 : Cond.methodLink RX12 369 yX12_compares ∈ am_big := bt_8 236 rfl rfl
theorem ws_X12_compares : Cond.static yX12_compares ∈ am_big := bt_8 237 rfl rfl
theorem wm_X12_373 : Cond.methodLink RX12 373 yX12_atFirst ∈ am_big := bt_6 207 rfl rfl
theorem wh_X12_atFirst : Cond.instanceMethod yX12_atFirst ∈ am_big := bt_6 209 rfl rfl
theorem wf_X12_376 : Cond.fieldLink RX12 376 (TX12 60).1 (TX12 60).2.1 (TX12 60).2.2.1 ∈ am_big := bt_7 35 rfl rfl
theorem wm_X12_380 : Cond.methodLink RX12 380 yX12_plainTried ∈ am_big := bt_6 211 rfl rfl
theorem wh_X12_plainTried : Cond.instanceMethod yX12_plainTried ∈ am_big := bt_6 213 rfl rfl
theorem wf_X12_383 : Cond.fieldLink RX12 383 (TX12 80).1 (TX12 80).2.1 (TX12 80).2.2.1 ∈ am_big := bt_7 55 rfl rfl
theorem wf_X12_386 : Cond.fieldLink RX12 386 (TX12 85).1 (TX12 85).2.1 (TX12 85).2.2.1 ∈ am_big := bt_7 60 rfl rfl
theorem wf_X12_389 : Cond.fieldLink RX12 389 (TX12 88).1 (TX12 88).2.1 (TX12 88).2.2.1 ∈ am_big := bt_7 63 rfl rfl
theorem wf_X12_392 : Cond.fieldLink RX12 392 (TX12 61).1 (TX12 61).2.1 (TX12 61).2.2.1 ∈ am_big := bt_7 36 rfl rfl
theorem wf_X12_395 : Cond.fieldLink RX12 395 (TX12 62).1 (TX12 62).2.1 (TX12 62).2.2.1 ∈ am_big := bt_7 37 rfl rfl
theorem wf_X12_398 : Cond.fieldLink RX12 398 (TX12 63).1 (TX12 63).2.1 (TX12 63).2.2.1 ∈ am_big := bt_7 38 rfl rfl
theorem wf_X12_401 : Cond.fieldLink RX12 401 (TX12 64).1 (TX12 64).2.1 (TX12 64).2.2.1 ∈ am_big := bt_7 39 rfl rfl
theorem wf_X12_404 : Cond.fieldLink RX12 404 (TX12 65).1 (TX12 65).2.1 (TX12 65).2.2.1 ∈ am_big := bt_7 40 rfl rfl
theorem wf_X12_407 : Cond.fieldLink RX12 407 (TX12 66).1 (TX12 66).2.1 (TX12 66).2.2.1 ∈ am_big := bt_7 41 rfl rfl
theorem wf_X12_410 : Cond.fieldLink RX12 410 (TX12 67).1 (TX12 67).2.1 (TX12 67).2.2.1 ∈ am_big := bt_7 42 rfl rfl
theorem wf_X12_413 : Cond.fieldLink RX12 413 (TX12 68).1 (TX12 68).2.1 (TX12 68).2.2.1 ∈ am_big := bt_7 43 rfl rfl
theorem wm_X12_416 : Cond.methodLink RX12 416 yX12_highOf ∈ am_big := bt_8 169 rfl rfl
theorem wh_X12_highOf : Cond.instanceMethod yX12_highOf ∈ am_big := bt_8 171 rfl rfl
theorem wm_X12_419 : Cond.methodLink RX12 419 yX12_plateAt ∈ am_big := bt_8 177 rfl rfl
theorem wh_X12_plateAt : Cond.instanceMethod yX12_plateAt ∈ am_big := bt_8 179 rfl rfl
theorem wm_X12_423 : Cond.methodLink RX12 423 yX12_sizeAt ∈ am_big := bt_8 173 rfl rfl
theorem wh_X12_sizeAt : Cond.instanceMethod yX12_sizeAt ∈ am_big := bt_8 175 rfl rfl
theorem wm_X12_426 : Cond.methodLink RX12 426 yX12_faceAt ∈ am_big := bt_8 185 rfl rfl
theorem wh_X12_faceAt : Cond.instanceMethod yX12_faceAt ∈ am_big := bt_8 187 rfl rfl
theorem wm_X12_429 : Cond.methodLink RX12 429 yX12_isRight ∈ am_big := bt_8 165 rfl rfl
theorem wh_X12_isRight : Cond.instanceMethod yX12_isRight ∈ am_big := bt_8 167 rfl rfl
theorem wm_X12_432 : Cond.methodLink RX12 432 yX12_greaterAt ∈ am_big := bt_8 193 rfl rfl
theorem wh_X12_greaterAt : Cond.instanceMethod yX12_greaterAt ∈ am_big := bt_8 195 rfl rfl
theorem wm_X12_435 : Cond.methodLink RX12 435 yX12_gapsOf ∈ am_big := bt_8 189 rfl rfl
theorem wh_X12_gapsOf : Cond.instanceMethod yX12_gapsOf ∈ am_big := bt_8 191 rfl rfl
theorem wm_X12_438 : Cond.methodLink RX12 438 yX12_valueOf ∈ am_big := bt_8 222 rfl rfl
theorem wh_X12_valueOf : Cond.instanceMethod yX12_valueOf ∈ am_big := bt_8 224 rfl rfl
theorem wm_X12_442 : Cond.methodLink RX12 442 yX12_lawOf ∈ am_big := bt_8 218 rfl rfl
theorem wh_X12_lawOf : Cond.instanceMethod yX12_lawOf ∈ am_big := bt_8 220 rfl rfl
theorem wc_X12_445 : Cond.constantLong RX12 445 (Int64.ofInt 1103515245) ∈ am_big := bt_9 47 rfl rfl
theorem wc_X12_447 : Cond.constantLong RX12 447 (Int64.ofInt 12345) ∈ am_big := bt_9 48 rfl rfl
theorem wc_X12_449 : Cond.constantLong RX12 449 (Int64.ofInt 2147483647) ∈ am_big := bt_9 49 rfl rfl
theorem wc_X12_451 : Cond.constantLong RX12 451 (Int64.ofInt 65536) ∈ am_big := bt_9 50 rfl rfl
theorem wm_X12_453 : Cond.methodLink RX12 453 yX12_lay ∈ am_big := bt_8 214 rfl rfl
theorem wh_X12_lay : Cond.instanceMethod yX12_lay ∈ am_big := bt_8 216 rfl rfl
theorem wm_X12_457 : Cond.methodLink RX12 457 yX12_isHeeded ∈ am_big := bt_9 35 rfl rfl
theorem wh_X12_isHeeded : Cond.instanceMethod yX12_isHeeded ∈ am_big := bt_9 37 rfl rfl
theorem wm_X12_460 : Cond.methodLink RX12 460 yX12_boundLaw ∈ am_big := bt_9 39 rfl rfl
theorem wh_X12_boundLaw : Cond.instanceMethod yX12_boundLaw ∈ am_big := bt_9 41 rfl rfl
theorem wm_X12_463 : Cond.methodLink RX12 463 yX12_turnsBy ∈ am_big := bt_9 11 rfl rfl
theorem wh_X12_turnsBy : Cond.instanceMethod yX12_turnsBy ∈ am_big := bt_9 13 rfl rfl
theorem wm_X12_466 : Cond.methodLink RX12 466 yX12_number1 ∈ am_big := bt_9 43 rfl rfl
theorem wh_X12_number1 : Cond.instanceMethod yX12_number1 ∈ am_big := bt_9 45 rfl rfl
theorem wm_X12_469 : Cond.methodLink RX12 469 yX12_turnsOne ∈ am_big := bt_9 31 rfl rfl
theorem wh_X12_turnsOne : Cond.instanceMethod yX12_turnsOne ∈ am_big := bt_9 33 rfl rfl
theorem wm_X12_472 : Cond.methodLink RX12 472 yX12_minuteGoes ∈ am_big := bt_9 27 rfl rfl
theorem wh_X12_minuteGoes : Cond.instanceMethod yX12_minuteGoes ∈ am_big := bt_9 29 rfl rfl
theorem wm_X12_475 : Cond.methodLink RX12 475 yX12_isProper ∈ am_big := bt_8 181 rfl rfl
theorem wh_X12_isProper : Cond.instanceMethod yX12_isProper ∈ am_big := bt_8 183 rfl rfl
theorem wm_X12_478 : Cond.methodLink RX12 478 yX12_isPile ∈ am_big := bt_8 157 rfl rfl
theorem wh_X12_isPile : Cond.instanceMethod yX12_isPile ∈ am_big := bt_8 159 rfl rfl
theorem wm_X12_481 : Cond.methodLink RX12 481 yX12_fails ∈ am_big := bt_8 161 rfl rfl
theorem wh_X12_fails : Cond.instanceMethod yX12_fails ∈ am_big := bt_8 163 rfl rfl
theorem wm_X12_484 : Cond.methodLink RX12 484 yX12_isMaid ∈ am_big := bt_8 205 rfl rfl
theorem wh_X12_isMaid : Cond.instanceMethod yX12_isMaid ∈ am_big := bt_8 207 rfl rfl
theorem wc_X12_487 : Cond.constantLong RX12 487 (Int64.ofInt (-9223372036854775808)) ∈ am_big := bt_8 213 rfl rfl
theorem wm_X12_489 : Cond.methodLink RX12 489 yX12_remember ∈ am_big := bt_9 3 rfl rfl
theorem wh_X12_remember : Cond.instanceMethod yX12_remember ∈ am_big := bt_9 5 rfl rfl
theorem wm_X12_492 : Cond.methodLink RX12 492 yX12_layTried ∈ am_big := bt_9 55 rfl rfl
theorem wh_X12_layTried : Cond.instanceMethod yX12_layTried ∈ am_big := bt_9 57 rfl rfl
theorem wm_X12_495 : Cond.methodLink RX12 495 yX12_goMany ∈ am_big := bt_9 59 rfl rfl
theorem wh_X12_goMany : Cond.instanceMethod yX12_goMany ∈ am_big := bt_9 61 rfl rfl
theorem wm_X12_504 : Cond.methodLink RX12 504 yX12_chippedMany ∈ am_big := bt_9 71 rfl rfl
theorem wh_X12_chippedMany : Cond.instanceMethod yX12_chippedMany ∈ am_big := bt_9 73 rfl rfl
theorem wm_X12_501 : Cond.methodLink RX12 501 yX12_properMany ∈ am_big := bt_9 67 rfl rfl
theorem wh_X12_properMany : Cond.instanceMethod yX12_properMany ∈ am_big := bt_9 69 rfl rfl
theorem wm_X12_498 : Cond.methodLink RX12 498 yX12_rightMany ∈ am_big := bt_9 63 rfl rfl
theorem wh_X12_rightMany : Cond.instanceMethod yX12_rightMany ∈ am_big := bt_9 65 rfl rfl
theorem wf_X12_507 : Cond.fieldLink RX12 507 (TX12 70).1 (TX12 70).2.1 (TX12 70).2.2.1 ∈ am_big := bt_7 45 rfl rfl
theorem wm_X12_510 : Cond.methodLink RX12 510 yX12_codeOf ∈ am_big := bt_9 99 rfl rfl
theorem wh_X12_codeOf : Cond.instanceMethod yX12_codeOf ∈ am_big := bt_9 101 rfl rfl
theorem wm_X12_513 : Cond.methodLink RX12 513 yX12_layCode ∈ am_big := bt_9 91 rfl rfl
theorem wh_X12_layCode : Cond.instanceMethod yX12_layCode ∈ am_big := bt_9 93 rfl rfl
theorem wm_X12_517 : Cond.methodLink RX12 517 yX12_turnsRow ∈ am_big := bt_9 95 rfl rfl
theorem wh_X12_turnsRow : Cond.instanceMethod yX12_turnsRow ∈ am_big := bt_9 97 rfl rfl
theorem wf_X12_520 : Cond.fieldLink RX12 520 (TX12 74).1 (TX12 74).2.1 (TX12 74).2.2.1 ∈ am_big := bt_7 49 rfl rfl
theorem wm_X12_523 : Cond.methodLink RX12 523 yX12_turnedCode ∈ am_big := bt_9 87 rfl rfl
theorem wh_X12_turnedCode : Cond.instanceMethod yX12_turnedCode ∈ am_big := bt_9 89 rfl rfl
theorem wm_X12_527 : Cond.methodLink RX12 527 yX12_layFar ∈ am_big := bt_9 83 rfl rfl
theorem wh_X12_layFar : Cond.instanceMethod yX12_layFar ∈ am_big := bt_9 85 rfl rfl
theorem wm_X12_530 : Cond.methodLink RX12 530 yX12_codeOfPile ∈ am_big := bt_9 103 rfl rfl
theorem wh_X12_codeOfPile : Cond.instanceMethod yX12_codeOfPile ∈ am_big := bt_9 105 rfl rfl
theorem wm_X12_533 : Cond.methodLink RX12 533 yX12_worthBy ∈ am_big := bt_9 147 rfl rfl
theorem wh_X12_worthBy : Cond.instanceMethod yX12_worthBy ∈ am_big := bt_9 149 rfl rfl
theorem wm_X12_536 : Cond.methodLink RX12 536 yX12_isKnownNow ∈ am_big := bt_9 143 rfl rfl
theorem wh_X12_isKnownNow : Cond.instanceMethod yX12_isKnownNow ∈ am_big := bt_9 145 rfl rfl
theorem wm_X12_540 : Cond.methodLink RX12 540 yX12_layWorth ∈ am_big := bt_9 139 rfl rfl
theorem wh_X12_layWorth : Cond.instanceMethod yX12_layWorth ∈ am_big := bt_9 141 rfl rfl
theorem wf_X12_543 : Cond.fieldLink RX12 543 (TX12 77).1 (TX12 77).2.1 (TX12 77).2.2.1 ∈ am_big := bt_7 52 rfl rfl
theorem wf_X12_546 : Cond.fieldLink RX12 546 (TX12 78).1 (TX12 78).2.1 (TX12 78).2.2.1 ∈ am_big := bt_7 53 rfl rfl
theorem wm_X12_549 : Cond.methodLink RX12 549 yX12_isOf ∈ am_big := bt_9 159 rfl rfl
theorem ws_X12_isOf : Cond.static yX12_isOf ∈ am_big := bt_9 160 rfl rfl
theorem wm_X12_552 : Cond.methodLink RX12 552 yX12_laysMatch ∈ am_big := bt_9 155 rfl rfl
theorem wh_X12_laysMatch : Cond.instanceMethod yX12_laysMatch ∈ am_big := bt_9 157 rfl rfl
theorem wc_X12_558 : Cond.constantLong RX12 558 (Int64.ofInt 100) ∈ am_big := bt_9 167 rfl rfl
theorem wc_X12_556 : Cond.constantLong RX12 556 (Int64.ofInt (-1)) ∈ am_big := bt_9 166 rfl rfl
theorem wm_X12_560 : Cond.methodLink RX12 560 yX12_noted ∈ am_big := bt_9 172 rfl rfl
theorem wh_X12_noted : Cond.instanceMethod yX12_noted ∈ am_big := bt_9 174 rfl rfl
theorem wm_X12_563 : Cond.methodLink RX12 563 yX12_knownBy ∈ am_big := bt_9 196 rfl rfl
theorem wh_X12_knownBy : Cond.instanceMethod yX12_knownBy ∈ am_big := bt_9 198 rfl rfl
theorem wm_X12_566 : Cond.methodLink RX12 566 yX12_layDeep ∈ am_big := bt_9 204 rfl rfl
theorem wh_X12_layDeep : Cond.instanceMethod yX12_layDeep ∈ am_big := bt_9 206 rfl rfl
theorem wm_X12_569 : Cond.methodLink RX12 569 yX12_isSo ∈ am_big := bt_9 208 rfl rfl
theorem wh_X12_isSo : Cond.instanceMethod yX12_isSo ∈ am_big := bt_9 210 rfl rfl
theorem wm_X12_572 : Cond.methodLink RX12 572 yX12_fits ∈ am_big := bt_9 200 rfl rfl
theorem wh_X12_fits : Cond.instanceMethod yX12_fits ∈ am_big := bt_9 202 rfl rfl
theorem wm_X12_575 : Cond.methodLink RX12 575 yX12_isTurn ∈ am_big := bt_9 188 rfl rfl
theorem wh_X12_isTurn : Cond.instanceMethod yX12_isTurn ∈ am_big := bt_9 190 rfl rfl
theorem wm_X12_578 : Cond.methodLink RX12 578 yX12_deepBits ∈ am_big := bt_9 192 rfl rfl
theorem wh_X12_deepBits : Cond.instanceMethod yX12_deepBits ∈ am_big := bt_9 194 rfl rfl
theorem wm_X12_581 : Cond.methodLink RX12 581 yX12_worstAt ∈ am_big := bt_9 216 rfl rfl
theorem wh_X12_worstAt : Cond.instanceMethod yX12_worstAt ∈ am_big := bt_9 218 rfl rfl
theorem wm_X12_584 : Cond.methodLink RX12 584 yX12_gapsAll ∈ am_big := bt_9 228 rfl rfl
theorem wh_X12_gapsAll : Cond.instanceMethod yX12_gapsAll ∈ am_big := bt_9 230 rfl rfl
theorem wm_X12_587 : Cond.methodLink RX12 587 yX12_put ∈ am_big := bt_9 7 rfl rfl
theorem wh_X12_put : Cond.instanceMethod yX12_put ∈ am_big := bt_9 9 rfl rfl
theorem wm_X12_590 : Cond.methodLink RX12 590 yX12_take ∈ am_big := bt_9 236 rfl rfl
theorem wh_X12_take : Cond.instanceMethod yX12_take ∈ am_big := bt_9 238 rfl rfl
theorem wf_X12_593 : Cond.fieldLink RX12 593 (TX12 92).1 (TX12 92).2.1 (TX12 92).2.2.1 ∈ am_big := bt_7 67 rfl rfl
theorem wf_J0_9 : Cond.fieldLink RJ0 9 "java/lang/String" "value" "[B" ∈ am_big := bt_10 30 rfl rfl
theorem wm_J0_335 : Cond.methodLink RJ0 335 yJ0_coder_7d493 ∈ am_big := bt_1 50 rfl rfl
theorem wh_J0_coder_7d493 : Cond.instanceMethod yJ0_coder_7d493 ∈ am_big := bt_1 51 rfl rfl
theorem wm_J0_492 : Cond.methodLink RJ0 492 yJ0_isLatin1_aae02 ∈ am_big := bt_1 60 rfl rfl
theorem wh_J0_isLatin1_aae02 : Cond.instanceMethod yJ0_isLatin1_aae02 ∈ am_big := bt_1 61 rfl rfl
theorem wm_J0_495 : Cond.methodLink RJ0 495 yJ1_charAt_3b067 ∈ am_big := bt_1 64 rfl rfl
theorem wn_J1 : Cond.initialized RJ1 ∈ am_big := bt_1 5 rfl rfl
theorem ws_J1_charAt_3b067 : Cond.static yJ1_charAt_3b067 ∈ am_big := bt_1 65 rfl rfl
theorem wf_J0_38 : Cond.fieldLink RJ0 38 "java/lang/String" "COMPACT_STRINGS" "Z" ∈ am_big := bt_1 54 rfl rfl
theorem wf_J0_15 : Cond.fieldLink RJ0 15 "java/lang/String" "coder" "B" ∈ am_big := bt_10 31 rfl rfl
theorem wf_J0_1053 : Cond.fieldLink RJ0 1053 "jdk/internal/util/Preconditions" "SIOOBE_FORMATTER" "Ljava/util/function/BiFunction;" ∈ am_big := bt_1 70 rfl rfl
theorem wm_J0_1059 : Cond.methodLink RJ0 1059 yJ3_checkIndex_8e157 ∈ am_big := bt_1 72 rfl rfl
theorem wn_J3 : Cond.initialized RJ3 ∈ am_big := bt_1 6 rfl rfl
theorem ws_J3_checkIndex_8e157 : Cond.static yJ3_checkIndex_8e157 ∈ am_big := bt_1 73 rfl rfl
theorem wm_J1_9 : Cond.methodLink RJ1 9 yJ0_checkIndex_df160 ∈ am_big := bt_1 67 rfl rfl
theorem ws_J0_checkIndex_df160 : Cond.static yJ0_checkIndex_df160 ∈ am_big := bt_1 68 rfl rfl
theorem wo_obj : Cond.code objectInit ⟨#[0xb1]⟩ 1 none ∈ am_big := bt_1 32 rfl rfl
theorem wo_X0_init : Cond.code yX0_init cX0_init 4 none ∈ am_big := bt_4 218 rfl rfl
theorem mh_X0_init : yX0_init.cls ≠ "java/lang/invoke/MethodHandle" ∧ yX0_init.cls ≠ "java/lang/invoke/VarHandle" ∧ (parseMethodDescriptor yX0_init.desc).map (fun d => d.parameters.length) = some 3 := by decide +kernel
theorem wo_X9_ofFaces : Cond.code yX9_ofFaces cX9_ofFaces 3 (some .int) ∈ am_big := bt_5 30 rfl rfl
theorem mh_X9_ofFaces : yX9_ofFaces.cls ≠ "java/lang/invoke/MethodHandle" ∧ yX9_ofFaces.cls ≠ "java/lang/invoke/VarHandle" ∧ (parseMethodDescriptor yX9_ofFaces.desc).map (fun d => d.parameters.length) = some 2 := by decide +kernel
theorem wl_X9_ofFaces : Cond.selects RX9 yX9_ofFaces yX9_ofFaces ∈ am_big := bt_5 29 rfl rfl
theorem wo_X9_ofOrder : Cond.code yX9_ofOrder cX9_ofOrder 3 (some .int) ∈ am_big := bt_5 26 rfl rfl
theorem mh_X9_ofOrder : yX9_ofOrder.cls ≠ "java/lang/invoke/MethodHandle" ∧ yX9_ofOrder.cls ≠ "java/lang/invoke/VarHandle" ∧ (parseMethodDescriptor yX9_ofOrder.desc).map (fun d => d.parameters.length) = some 2 := by decide +kernel
theorem wl_X9_ofOrder : Cond.selects RX9 yX9_ofOrder yX9_ofOrder ∈ am_big := bt_5 25 rfl rfl
theorem wo_X0_turned : Cond.code yX0_turned cX0_turned 4 (some .int) ∈ am_big := bt_5 22 rfl rfl
theorem mh_X0_turned : yX0_turned.cls ≠ "java/lang/invoke/MethodHandle" ∧ yX0_turned.cls ≠ "java/lang/invoke/VarHandle" ∧ (parseMethodDescriptor yX0_turned.desc).map (fun d => d.parameters.length) = some 2 := by decide +kernel
theorem wl_X0_turned : Cond.selects RX0 yX0_turned yX0_turned ∈ am_big := big_pr 32 (by decide +kernel) (by decide +kernel)
theorem wo_X0_measure : Cond.code yX0_measure cX0_measure 7 none ∈ am_big := bt_5 18 rfl rfl
theorem mh_X0_measure : yX0_measure.cls ≠ "java/lang/invoke/MethodHandle" ∧ yX0_measure.cls ≠ "java/lang/invoke/VarHandle" ∧ (parseMethodDescriptor yX0_measure.desc).map (fun d => d.parameters.length) = some 0 := by decide +kernel
theorem wl_X0_measure : Cond.selects RX0 yX0_measure yX0_measure ∈ am_big := bt_5 17 rfl rfl
theorem wo_X0_has : Cond.code yX0_has cX0_has 2 (some .boolean) ∈ am_big := bt_5 43 rfl rfl
theorem mh_X0_has : yX0_has.cls ≠ "java/lang/invoke/MethodHandle" ∧ yX0_has.cls ≠ "java/lang/invoke/VarHandle" ∧ (parseMethodDescriptor yX0_has.desc).map (fun d => d.parameters.length) = some 1 := by decide +kernel
theorem wl_X0_has : Cond.selects RX0 yX0_has yX0_has ∈ am_big := big_pr 33 (by decide +kernel) (by decide +kernel)
theorem wo_X0_leastOf : Cond.code yX0_leastOf cX0_leastOf 2 (some .int) ∈ am_big := bt_5 39 rfl rfl
theorem mh_X0_leastOf : yX0_leastOf.cls ≠ "java/lang/invoke/MethodHandle" ∧ yX0_leastOf.cls ≠ "java/lang/invoke/VarHandle" ∧ (parseMethodDescriptor yX0_leastOf.desc).map (fun d => d.parameters.length) = some 1 := by decide +kernel
theorem wl_X0_leastOf : Cond.selects RX0 yX0_leastOf yX0_leastOf ∈ am_big := bt_5 38 rfl rfl
theorem wo_X0_rowsOf : Cond.code yX0_rowsOf cX0_rowsOf 2 (some .int) ∈ am_big := bt_5 59 rfl rfl
theorem mh_X0_rowsOf : yX0_rowsOf.cls ≠ "java/lang/invoke/MethodHandle" ∧ yX0_rowsOf.cls ≠ "java/lang/invoke/VarHandle" ∧ (parseMethodDescriptor yX0_rowsOf.desc).map (fun d => d.parameters.length) = some 1 := by decide +kernel
theorem wl_X0_rowsOf : Cond.selects RX0 yX0_rowsOf yX0_rowsOf ∈ am_big := bt_5 58 rfl rfl
theorem wo_X0_nearing : Cond.code yX0_nearing cX0_nearing 3 (some .int) ∈ am_big := bt_5 51 rfl rfl
theorem mh_X0_nearing : yX0_nearing.cls ≠ "java/lang/invoke/MethodHandle" ∧ yX0_nearing.cls ≠ "java/lang/invoke/VarHandle" ∧ (parseMethodDescriptor yX0_nearing.desc).map (fun d => d.parameters.length) = some 1 := by decide +kernel
theorem wl_X0_nearing : Cond.selects RX0 yX0_nearing yX0_nearing ∈ am_big := bt_5 50 rfl rfl
theorem wo_X0_furthestLeast : Cond.code yX0_furthestLeast cX0_furthestLeast 3 (some .int) ∈ am_big := bt_5 86 rfl rfl
theorem mh_X0_furthestLeast : yX0_furthestLeast.cls ≠ "java/lang/invoke/MethodHandle" ∧ yX0_furthestLeast.cls ≠ "java/lang/invoke/VarHandle" ∧ (parseMethodDescriptor yX0_furthestLeast.desc).map (fun d => d.parameters.length) = some 0 := by decide +kernel
theorem wl_X0_furthestLeast : Cond.selects RX0 yX0_furthestLeast yX0_furthestLeast ∈ am_big := bt_5 85 rfl rfl
theorem wo_X0_statesAt : Cond.code yX0_statesAt cX0_statesAt 2 (some .int) ∈ am_big := bt_5 94 rfl rfl
theorem mh_X0_statesAt : yX0_statesAt.cls ≠ "java/lang/invoke/MethodHandle" ∧ yX0_statesAt.cls ≠ "java/lang/invoke/VarHandle" ∧ (parseMethodDescriptor yX0_statesAt.desc).map (fun d => d.parameters.length) = some 1 := by decide +kernel
theorem wl_X0_statesAt : Cond.selects RX0 yX0_statesAt yX0_statesAt ∈ am_big := bt_5 93 rfl rfl
theorem wo_X0_reach : Cond.code yX0_reach cX0_reach 10 none ∈ am_big := bt_5 106 rfl rfl
theorem mh_X0_reach : yX0_reach.cls ≠ "java/lang/invoke/MethodHandle" ∧ yX0_reach.cls ≠ "java/lang/invoke/VarHandle" ∧ (parseMethodDescriptor yX0_reach.desc).map (fun d => d.parameters.length) = some 0 := by decide +kernel
theorem wl_X0_reach : Cond.selects RX0 yX0_reach yX0_reach ∈ am_big := big_pr 35 (by decide +kernel) (by decide +kernel)
theorem wo_X0_reachedBy : Cond.code yX0_reachedBy cX0_reachedBy 2 (some .int) ∈ am_big := bt_5 102 rfl rfl
theorem mh_X0_reachedBy : yX0_reachedBy.cls ≠ "java/lang/invoke/MethodHandle" ∧ yX0_reachedBy.cls ≠ "java/lang/invoke/VarHandle" ∧ (parseMethodDescriptor yX0_reachedBy.desc).map (fun d => d.parameters.length) = some 1 := by decide +kernel
theorem wl_X0_reachedBy : Cond.selects RX0 yX0_reachedBy yX0_reachedBy ∈ am_big := bt_5 101 rfl rfl
theorem wo_X0_allDepths : Cond.code yX0_allDepths cX0_allDepths 2 (some .int) ∈ am_big := bt_5 134 rfl rfl
theorem mh_X0_allDepths : yX0_allDepths.cls ≠ "java/lang/invoke/MethodHandle" ∧ yX0_allDepths.cls ≠ "java/lang/invoke/VarHandle" ∧ (parseMethodDescriptor yX0_allDepths.desc).map (fun d => d.parameters.length) = some 0 := by decide +kernel
theorem wl_X0_allDepths : Cond.selects RX0 yX0_allDepths yX0_allDepths ∈ am_big := big_pr 38 (by decide +kernel) (by decide +kernel)
theorem wo_X0_mark : Cond.code yX0_mark cX0_mark 3 none ∈ am_big := bt_5 138 rfl rfl
theorem mh_X0_mark : yX0_mark.cls ≠ "java/lang/invoke/MethodHandle" ∧ yX0_mark.cls ≠ "java/lang/invoke/VarHandle" ∧ (parseMethodDescriptor yX0_mark.desc).map (fun d => d.parameters.length) = some 2 := by decide +kernel
theorem wl_X0_mark : Cond.selects RX0 yX0_mark yX0_mark ∈ am_big := big_pr 39 (by decide +kernel) (by decide +kernel)
theorem wo_X0_tellThoseBefore : Cond.code yX0_tellThoseBefore cX0_tellThoseBefore 7 none ∈ am_big := bt_5 142 rfl rfl
theorem mh_X0_tellThoseBefore : yX0_tellThoseBefore.cls ≠ "java/lang/invoke/MethodHandle" ∧ yX0_tellThoseBefore.cls ≠ "java/lang/invoke/VarHandle" ∧ (parseMethodDescriptor yX0_tellThoseBefore.desc).map (fun d => d.parameters.length) = some 2 := by decide +kernel
theorem wl_X0_tellThoseBefore : Cond.selects RX0 yX0_tellThoseBefore yX0_tellThoseBefore ∈ am_big := big_pr 40 (by decide +kernel) (by decide +kernel)
theorem wo_X0_playAll : Cond.code yX0_playAll cX0_playAll 4 none ∈ am_big := bt_5 130 rfl rfl
theorem mh_X0_playAll : yX0_playAll.cls ≠ "java/lang/invoke/MethodHandle" ∧ yX0_playAll.cls ≠ "java/lang/invoke/VarHandle" ∧ (parseMethodDescriptor yX0_playAll.desc).map (fun d => d.parameters.length) = some 0 := by decide +kernel
theorem wl_X0_playAll : Cond.selects RX0 yX0_playAll yX0_playAll ∈ am_big := big_pr 37 (by decide +kernel) (by decide +kernel)
theorem wo_X0_lossesOf : Cond.code yX0_lossesOf cX0_lossesOf 2 (some .int) ∈ am_big := bt_5 146 rfl rfl
theorem mh_X0_lossesOf : yX0_lossesOf.cls ≠ "java/lang/invoke/MethodHandle" ∧ yX0_lossesOf.cls ≠ "java/lang/invoke/VarHandle" ∧ (parseMethodDescriptor yX0_lossesOf.desc).map (fun d => d.parameters.length) = some 1 := by decide +kernel
theorem wl_X0_lossesOf : Cond.selects RX0 yX0_lossesOf yX0_lossesOf ∈ am_big := big_pr 41 (by decide +kernel) (by decide +kernel)
theorem wo_X0_winsOf : Cond.code yX0_winsOf cX0_winsOf 2 (some .int) ∈ am_big := bt_5 126 rfl rfl
theorem mh_X0_winsOf : yX0_winsOf.cls ≠ "java/lang/invoke/MethodHandle" ∧ yX0_winsOf.cls ≠ "java/lang/invoke/VarHandle" ∧ (parseMethodDescriptor yX0_winsOf.desc).map (fun d => d.parameters.length) = some 1 := by decide +kernel
theorem wl_X0_winsOf : Cond.selects RX0 yX0_winsOf yX0_winsOf ∈ am_big := big_pr 36 (by decide +kernel) (by decide +kernel)
theorem wo_X0_winner : Cond.code yX0_winner cX0_winner 3 (some .int) ∈ am_big := bt_5 122 rfl rfl
theorem mh_X0_winner : yX0_winner.cls ≠ "java/lang/invoke/MethodHandle" ∧ yX0_winner.cls ≠ "java/lang/invoke/VarHandle" ∧ (parseMethodDescriptor yX0_winner.desc).map (fun d => d.parameters.length) = some 1 := by decide +kernel
theorem wl_X0_winner : Cond.selects RX0 yX0_winner yX0_winner ∈ am_big := bt_5 121 rfl rfl
theorem wo_X0_opening : Cond.code yX0_opening cX0_opening 4 (some .int) ∈ am_big := bt_5 150 rfl rfl
theorem mh_X0_opening : yX0_opening.cls ≠ "java/lang/invoke/MethodHandle" ∧ yX0_opening.cls ≠ "java/lang/invoke/VarHandle" ∧ (parseMethodDescriptor yX0_opening.desc).map (fun d => d.parameters.length) = some 1 := by decide +kernel
theorem wl_X0_opening : Cond.selects RX0 yX0_opening yX0_opening ∈ am_big := bt_5 149 rfl rfl
theorem wo_X1_init : Cond.code yX1_init cX1_init 1 none ∈ am_big := bt_2 163 rfl rfl
theorem mh_X1_init : yX1_init.cls ≠ "java/lang/invoke/MethodHandle" ∧ yX1_init.cls ≠ "java/lang/invoke/VarHandle" ∧ (parseMethodDescriptor yX1_init.desc).map (fun d => d.parameters.length) = some 0 := by decide +kernel
theorem wo_X1_forget : Cond.code yX1_forget cX1_forget 1 none ∈ am_big := bt_3 223 rfl rfl
theorem mh_X1_forget : yX1_forget.cls ≠ "java/lang/invoke/MethodHandle" ∧ yX1_forget.cls ≠ "java/lang/invoke/VarHandle" ∧ (parseMethodDescriptor yX1_forget.desc).map (fun d => d.parameters.length) = some 0 := by decide +kernel
theorem wl_X1_forget : Cond.selects RX1 yX1_forget yX1_forget ∈ am_big := bt_3 222 rfl rfl
theorem wo_X1_left : Cond.code yX1_left cX1_left 1 (some .int) ∈ am_big := bt_6 68 rfl rfl
theorem mh_X1_left : yX1_left.cls ≠ "java/lang/invoke/MethodHandle" ∧ yX1_left.cls ≠ "java/lang/invoke/VarHandle" ∧ (parseMethodDescriptor yX1_left.desc).map (fun d => d.parameters.length) = some 0 := by decide +kernel
theorem wl_X1_left : Cond.selects RX1 yX1_left yX1_left ∈ am_big := bt_6 67 rfl rfl
theorem wo_X1_note : Cond.code yX1_note cX1_note 4 none ∈ am_big := bt_4 71 rfl rfl
theorem mh_X1_note : yX1_note.cls ≠ "java/lang/invoke/MethodHandle" ∧ yX1_note.cls ≠ "java/lang/invoke/VarHandle" ∧ (parseMethodDescriptor yX1_note.desc).map (fun d => d.parameters.length) = some 3 := by decide +kernel
theorem wl_X1_note : Cond.selects RX1 yX1_note yX1_note ∈ am_big := bt_4 70 rfl rfl
theorem wo_X1_takeLatest : Cond.code yX1_takeLatest cX1_takeLatest 1 (some .boolean) ∈ am_big := bt_6 43 rfl rfl
theorem mh_X1_takeLatest : yX1_takeLatest.cls ≠ "java/lang/invoke/MethodHandle" ∧ yX1_takeLatest.cls ≠ "java/lang/invoke/VarHandle" ∧ (parseMethodDescriptor yX1_takeLatest.desc).map (fun d => d.parameters.length) = some 0 := by decide +kernel
theorem wl_X1_takeLatest : Cond.selects RX1 yX1_takeLatest yX1_takeLatest ∈ am_big := bt_6 42 rfl rfl
theorem wo_X1_kind : Cond.code yX1_kind cX1_kind 1 (some .int) ∈ am_big := bt_6 47 rfl rfl
theorem mh_X1_kind : yX1_kind.cls ≠ "java/lang/invoke/MethodHandle" ∧ yX1_kind.cls ≠ "java/lang/invoke/VarHandle" ∧ (parseMethodDescriptor yX1_kind.desc).map (fun d => d.parameters.length) = some 0 := by decide +kernel
theorem wl_X1_kind : Cond.selects RX1 yX1_kind yX1_kind ∈ am_big := bt_6 46 rfl rfl
theorem wo_X1_one : Cond.code yX1_one cX1_one 1 (some .int) ∈ am_big := bt_6 51 rfl rfl
theorem mh_X1_one : yX1_one.cls ≠ "java/lang/invoke/MethodHandle" ∧ yX1_one.cls ≠ "java/lang/invoke/VarHandle" ∧ (parseMethodDescriptor yX1_one.desc).map (fun d => d.parameters.length) = some 0 := by decide +kernel
theorem wl_X1_one : Cond.selects RX1 yX1_one yX1_one ∈ am_big := bt_6 50 rfl rfl
theorem wo_X1_other : Cond.code yX1_other cX1_other 1 (some .int) ∈ am_big := bt_6 55 rfl rfl
theorem mh_X1_other : yX1_other.cls ≠ "java/lang/invoke/MethodHandle" ∧ yX1_other.cls ≠ "java/lang/invoke/VarHandle" ∧ (parseMethodDescriptor yX1_other.desc).map (fun d => d.parameters.length) = some 0 := by decide +kernel
theorem wl_X1_other : Cond.selects RX1 yX1_other yX1_other ∈ am_big := bt_6 54 rfl rfl
theorem wo_X2_init : Cond.code yX2_init cX2_init 1 none ∈ am_big := bt_1 127 rfl rfl
theorem mh_X2_init : yX2_init.cls ≠ "java/lang/invoke/MethodHandle" ∧ yX2_init.cls ≠ "java/lang/invoke/VarHandle" ∧ (parseMethodDescriptor yX2_init.desc).map (fun d => d.parameters.length) = some 0 := by decide +kernel
theorem wo_X2_put : Cond.code yX2_put cX2_put 2 none ∈ am_big := bt_3 196 rfl rfl
theorem mh_X2_put : yX2_put.cls ≠ "java/lang/invoke/MethodHandle" ∧ yX2_put.cls ≠ "java/lang/invoke/VarHandle" ∧ (parseMethodDescriptor yX2_put.desc).map (fun d => d.parameters.length) = some 1 := by decide +kernel
theorem wl_X2_put : Cond.selects RX2 yX2_put yX2_put ∈ am_big := big_pr 19 (by decide +kernel) (by decide +kernel)
theorem wo_X2_strength : Cond.code yX2_strength cX2_strength 1 (some .int) ∈ am_big := bt_3 192 rfl rfl
theorem mh_X2_strength : yX2_strength.cls ≠ "java/lang/invoke/MethodHandle" ∧ yX2_strength.cls ≠ "java/lang/invoke/VarHandle" ∧ (parseMethodDescriptor yX2_strength.desc).map (fun d => d.parameters.length) = some 1 := by decide +kernel
theorem wo_X2_putDown : Cond.code yX2_putDown cX2_putDown 2 none ∈ am_big := bt_3 189 rfl rfl
theorem mh_X2_putDown : yX2_putDown.cls ≠ "java/lang/invoke/MethodHandle" ∧ yX2_putDown.cls ≠ "java/lang/invoke/VarHandle" ∧ (parseMethodDescriptor yX2_putDown.desc).map (fun d => d.parameters.length) = some 1 := by decide +kernel
theorem wl_X2_putDown : Cond.selects RX2 yX2_putDown yX2_putDown ∈ am_big := big_pr 18 (by decide +kernel) (by decide +kernel)
theorem wo_X2_await : Cond.code yX2_await cX2_await 2 (some .int) ∈ am_big := bt_3 204 rfl rfl
theorem mh_X2_await : yX2_await.cls ≠ "java/lang/invoke/MethodHandle" ∧ yX2_await.cls ≠ "java/lang/invoke/VarHandle" ∧ (parseMethodDescriptor yX2_await.desc).map (fun d => d.parameters.length) = some 1 := by decide +kernel
theorem wl_X2_await : Cond.selects RX2 yX2_await yX2_await ∈ am_big := big_pr 21 (by decide +kernel) (by decide +kernel)
theorem wo_X2_takeJoint : Cond.code yX2_takeJoint cX2_takeJoint 4 (some .int) ∈ am_big := bt_3 208 rfl rfl
theorem mh_X2_takeJoint : yX2_takeJoint.cls ≠ "java/lang/invoke/MethodHandle" ∧ yX2_takeJoint.cls ≠ "java/lang/invoke/VarHandle" ∧ (parseMethodDescriptor yX2_takeJoint.desc).map (fun d => d.parameters.length) = some 0 := by decide +kernel
theorem wl_X2_takeJoint : Cond.selects RX2 yX2_takeJoint yX2_takeJoint ∈ am_big := big_pr 22 (by decide +kernel) (by decide +kernel)
theorem wo_X2_takePart : Cond.code yX2_takePart cX2_takePart 3 (some .int) ∈ am_big := bt_3 200 rfl rfl
theorem mh_X2_takePart : yX2_takePart.cls ≠ "java/lang/invoke/MethodHandle" ∧ yX2_takePart.cls ≠ "java/lang/invoke/VarHandle" ∧ (parseMethodDescriptor yX2_takePart.desc).map (fun d => d.parameters.length) = some 0 := by decide +kernel
theorem wl_X2_takePart : Cond.selects RX2 yX2_takePart yX2_takePart ∈ am_big := big_pr 20 (by decide +kernel) (by decide +kernel)
theorem wo_X7_isDigit : Cond.code yX7_isDigit cX7_isDigit 2 (some .boolean) ∈ am_big := bt_3 85 rfl rfl
theorem mh_X7_isDigit : yX7_isDigit.cls ≠ "java/lang/invoke/MethodHandle" ∧ yX7_isDigit.cls ≠ "java/lang/invoke/VarHandle" ∧ (parseMethodDescriptor yX7_isDigit.desc).map (fun d => d.parameters.length) = some 1 := by decide +kernel
theorem wl_X7_isDigit : Cond.selects RX7 yX7_isDigit yX7_isDigit ∈ am_big := big_pr 3 (by decide +kernel) (by decide +kernel)
theorem wo_X7_isLetter : Cond.code yX7_isLetter cX7_isLetter 2 (some .boolean) ∈ am_big := bt_3 74 rfl rfl
theorem mh_X7_isLetter : yX7_isLetter.cls ≠ "java/lang/invoke/MethodHandle" ∧ yX7_isLetter.cls ≠ "java/lang/invoke/VarHandle" ∧ (parseMethodDescriptor yX7_isLetter.desc).map (fun d => d.parameters.length) = some 1 := by decide +kernel
theorem wl_X7_isLetter : Cond.selects RX7 yX7_isLetter yX7_isLetter ∈ am_big := big_pr 1 (by decide +kernel) (by decide +kernel)
theorem wo_X7_signKind : Cond.code yX7_signKind cX7_signKind 1 (some .int) ∈ am_big := bt_3 93 rfl rfl
theorem mh_X7_signKind : yX7_signKind.cls ≠ "java/lang/invoke/MethodHandle" ∧ yX7_signKind.cls ≠ "java/lang/invoke/VarHandle" ∧ (parseMethodDescriptor yX7_signKind.desc).map (fun d => d.parameters.length) = some 1 := by decide +kernel
theorem wo_X7_stepNumber : Cond.code yX7_stepNumber cX7_stepNumber 1 none ∈ am_big := bt_3 89 rfl rfl
theorem mh_X7_stepNumber : yX7_stepNumber.cls ≠ "java/lang/invoke/MethodHandle" ∧ yX7_stepNumber.cls ≠ "java/lang/invoke/VarHandle" ∧ (parseMethodDescriptor yX7_stepNumber.desc).map (fun d => d.parameters.length) = some 0 := by decide +kernel
theorem wl_X7_stepNumber : Cond.selects RX7 yX7_stepNumber yX7_stepNumber ∈ am_big := big_pr 4 (by decide +kernel) (by decide +kernel)
theorem wo_X7_stepSecondSign : Cond.code yX7_stepSecondSign cX7_stepSecondSign 1 none ∈ am_big := bt_3 97 rfl rfl
theorem mh_X7_stepSecondSign : yX7_stepSecondSign.cls ≠ "java/lang/invoke/MethodHandle" ∧ yX7_stepSecondSign.cls ≠ "java/lang/invoke/VarHandle" ∧ (parseMethodDescriptor yX7_stepSecondSign.desc).map (fun d => d.parameters.length) = some 0 := by decide +kernel
theorem wl_X7_stepSecondSign : Cond.selects RX7 yX7_stepSecondSign yX7_stepSecondSign ∈ am_big := big_pr 5 (by decide +kernel) (by decide +kernel)
theorem wo_X11_indexOf : Cond.code yX11_indexOf cX11_indexOf 4 (some .int) ∈ am_big := bt_3 81 rfl rfl
theorem mh_X11_indexOf : yX11_indexOf.cls ≠ "java/lang/invoke/MethodHandle" ∧ yX11_indexOf.cls ≠ "java/lang/invoke/VarHandle" ∧ (parseMethodDescriptor yX11_indexOf.desc).map (fun d => d.parameters.length) = some 3 := by decide +kernel
theorem wo_X7_stepWord : Cond.code yX7_stepWord cX7_stepWord 3 none ∈ am_big := bt_3 78 rfl rfl
theorem mh_X7_stepWord : yX7_stepWord.cls ≠ "java/lang/invoke/MethodHandle" ∧ yX7_stepWord.cls ≠ "java/lang/invoke/VarHandle" ∧ (parseMethodDescriptor yX7_stepWord.desc).map (fun d => d.parameters.length) = some 0 := by decide +kernel
theorem wl_X7_stepWord : Cond.selects RX7 yX7_stepWord yX7_stepWord ∈ am_big := big_pr 2 (by decide +kernel) (by decide +kernel)
theorem wo_X7_step : Cond.code yX7_step cX7_step 1 none ∈ am_big := bt_3 70 rfl rfl
theorem mh_X7_step : yX7_step.cls ≠ "java/lang/invoke/MethodHandle" ∧ yX7_step.cls ≠ "java/lang/invoke/VarHandle" ∧ (parseMethodDescriptor yX7_step.desc).map (fun d => d.parameters.length) = some 0 := by decide +kernel
theorem wl_X7_step : Cond.selects RX7 yX7_step yX7_step ∈ am_big := bt_3 69 rfl rfl
theorem wo_X2_read : Cond.code yX2_read cX2_read 5 (some .int) ∈ am_big := bt_3 184 rfl rfl
theorem mh_X2_read : yX2_read.cls ≠ "java/lang/invoke/MethodHandle" ∧ yX2_read.cls ≠ "java/lang/invoke/VarHandle" ∧ (parseMethodDescriptor yX2_read.desc).map (fun d => d.parameters.length) = some 2 := by decide +kernel
theorem wl_X2_read : Cond.selects RX2 yX2_read yX2_read ∈ am_big := bt_3 183 rfl rfl
theorem wo_X3_init : Cond.code yX3_init cX3_init 1 none ∈ am_big := bt_2 101 rfl rfl
theorem mh_X3_init : yX3_init.cls ≠ "java/lang/invoke/MethodHandle" ∧ yX3_init.cls ≠ "java/lang/invoke/VarHandle" ∧ (parseMethodDescriptor yX3_init.desc).map (fun d => d.parameters.length) = some 0 := by decide +kernel
theorem wo_X3_lookAt : Cond.code yX3_lookAt cX3_lookAt 6 none ∈ am_big := bt_4 19 rfl rfl
theorem mh_X3_lookAt : yX3_lookAt.cls ≠ "java/lang/invoke/MethodHandle" ∧ yX3_lookAt.cls ≠ "java/lang/invoke/VarHandle" ∧ (parseMethodDescriptor yX3_lookAt.desc).map (fun d => d.parameters.length) = some 5 := by decide +kernel
theorem wl_X3_lookAt : Cond.selects RX3 yX3_lookAt yX3_lookAt ∈ am_big := bt_4 18 rfl rfl
theorem wo_X3_inBounds : Cond.code yX3_inBounds cX3_inBounds 3 (some .long) ∈ am_big := bt_4 46 rfl rfl
theorem mh_X3_inBounds : yX3_inBounds.cls ≠ "java/lang/invoke/MethodHandle" ∧ yX3_inBounds.cls ≠ "java/lang/invoke/VarHandle" ∧ (parseMethodDescriptor yX3_inBounds.desc).map (fun d => d.parameters.length) = some 1 := by decide +kernel
theorem wl_X3_inBounds : Cond.selects RX3 yX3_inBounds yX3_inBounds ∈ am_big := big_pr 25 (by decide +kernel) (by decide +kernel)
theorem wo_X3_product : Cond.code yX3_product cX3_product 5 (some .long) ∈ am_big := bt_4 52 rfl rfl
theorem mh_X3_product : yX3_product.cls ≠ "java/lang/invoke/MethodHandle" ∧ yX3_product.cls ≠ "java/lang/invoke/VarHandle" ∧ (parseMethodDescriptor yX3_product.desc).map (fun d => d.parameters.length) = some 2 := by decide +kernel
theorem wl_X3_product : Cond.selects RX3 yX3_product yX3_product ∈ am_big := big_pr 26 (by decide +kernel) (by decide +kernel)
theorem wo_X3_quotient : Cond.code yX3_quotient cX3_quotient 5 (some .long) ∈ am_big := bt_4 59 rfl rfl
theorem mh_X3_quotient : yX3_quotient.cls ≠ "java/lang/invoke/MethodHandle" ∧ yX3_quotient.cls ≠ "java/lang/invoke/VarHandle" ∧ (parseMethodDescriptor yX3_quotient.desc).map (fun d => d.parameters.length) = some 2 := by decide +kernel
theorem wl_X3_quotient : Cond.selects RX3 yX3_quotient yX3_quotient ∈ am_big := big_pr 27 (by decide +kernel) (by decide +kernel)
theorem wo_X3_truth : Cond.code yX3_truth cX3_truth 1 (some .long) ∈ am_big := bt_4 27 rfl rfl
theorem mh_X3_truth : yX3_truth.cls ≠ "java/lang/invoke/MethodHandle" ∧ yX3_truth.cls ≠ "java/lang/invoke/VarHandle" ∧ (parseMethodDescriptor yX3_truth.desc).map (fun d => d.parameters.length) = some 1 := by decide +kernel
theorem wo_X3_joined : Cond.code yX3_joined cX3_joined 6 (some .long) ∈ am_big := bt_4 42 rfl rfl
theorem mh_X3_joined : yX3_joined.cls ≠ "java/lang/invoke/MethodHandle" ∧ yX3_joined.cls ≠ "java/lang/invoke/VarHandle" ∧ (parseMethodDescriptor yX3_joined.desc).map (fun d => d.parameters.length) = some 3 := by decide +kernel
theorem wl_X3_joined : Cond.selects RX3 yX3_joined yX3_joined ∈ am_big := big_pr 24 (by decide +kernel) (by decide +kernel)
theorem wo_X10_gaps : Cond.code yX10_gaps cX10_gaps 10 (some .int) ∈ am_big := bt_4 38 rfl rfl
theorem mh_X10_gaps : yX10_gaps.cls ≠ "java/lang/invoke/MethodHandle" ∧ yX10_gaps.cls ≠ "java/lang/invoke/VarHandle" ∧ (parseMethodDescriptor yX10_gaps.desc).map (fun d => d.parameters.length) = some 1 := by decide +kernel
theorem wl_X10_gaps : Cond.selects RX10 yX10_gaps yX10_gaps ∈ am_big := bt_4 37 rfl rfl
theorem wo_X10_hasMaid : Cond.code yX10_hasMaid cX10_hasMaid 2 (some .boolean) ∈ am_big := bt_4 10 rfl rfl
theorem mh_X10_hasMaid : yX10_hasMaid.cls ≠ "java/lang/invoke/MethodHandle" ∧ yX10_hasMaid.cls ≠ "java/lang/invoke/VarHandle" ∧ (parseMethodDescriptor yX10_hasMaid.desc).map (fun d => d.parameters.length) = some 1 := by decide +kernel
theorem wl_X10_hasMaid : Cond.selects RX10 yX10_hasMaid yX10_hasMaid ∈ am_big := bt_4 9 rfl rfl
theorem wo_X10_hasPile : Cond.code yX10_hasPile cX10_hasPile 2 (some .boolean) ∈ am_big := bt_3 142 rfl rfl
theorem mh_X10_hasPile : yX10_hasPile.cls ≠ "java/lang/invoke/MethodHandle" ∧ yX10_hasPile.cls ≠ "java/lang/invoke/VarHandle" ∧ (parseMethodDescriptor yX10_hasPile.desc).map (fun d => d.parameters.length) = some 1 := by decide +kernel
theorem wl_X10_hasPile : Cond.selects RX10 yX10_hasPile yX10_hasPile ∈ am_big := bt_3 141 rfl rfl
theorem wo_X10_plateAt : Cond.code yX10_plateAt cX10_plateAt 3 (some .int) ∈ am_big := bt_3 154 rfl rfl
theorem mh_X10_plateAt : yX10_plateAt.cls ≠ "java/lang/invoke/MethodHandle" ∧ yX10_plateAt.cls ≠ "java/lang/invoke/VarHandle" ∧ (parseMethodDescriptor yX10_plateAt.desc).map (fun d => d.parameters.length) = some 2 := by decide +kernel
theorem wl_X10_plateAt : Cond.selects RX10 yX10_plateAt yX10_plateAt ∈ am_big := bt_3 153 rfl rfl
theorem wo_X10_sizeAt : Cond.code yX10_sizeAt cX10_sizeAt 4 (some .int) ∈ am_big := bt_3 150 rfl rfl
theorem mh_X10_sizeAt : yX10_sizeAt.cls ≠ "java/lang/invoke/MethodHandle" ∧ yX10_sizeAt.cls ≠ "java/lang/invoke/VarHandle" ∧ (parseMethodDescriptor yX10_sizeAt.desc).map (fun d => d.parameters.length) = some 2 := by decide +kernel
theorem wl_X10_sizeAt : Cond.selects RX10 yX10_sizeAt yX10_sizeAt ∈ am_big := bt_3 149 rfl rfl
theorem wo_X3_nameValue : Cond.code yX3_nameValue cX3_nameValue 3 (some .long) ∈ am_big := bt_4 31 rfl rfl
theorem mh_X3_nameValue : yX3_nameValue.cls ≠ "java/lang/invoke/MethodHandle" ∧ yX3_nameValue.cls ≠ "java/lang/invoke/VarHandle" ∧ (parseMethodDescriptor yX3_nameValue.desc).map (fun d => d.parameters.length) = some 2 := by decide +kernel
theorem wl_X3_nameValue : Cond.selects RX3 yX3_nameValue yX3_nameValue ∈ am_big := big_pr 23 (by decide +kernel) (by decide +kernel)
theorem wo_X8_hasLaw : Cond.code yX8_hasLaw cX8_hasLaw 2 (some .boolean) ∈ am_big := bt_3 180 rfl rfl
theorem mh_X8_hasLaw : yX8_hasLaw.cls ≠ "java/lang/invoke/MethodHandle" ∧ yX8_hasLaw.cls ≠ "java/lang/invoke/VarHandle" ∧ (parseMethodDescriptor yX8_hasLaw.desc).map (fun d => d.parameters.length) = some 1 := by decide +kernel
theorem wl_X8_hasLaw : Cond.selects RX8 yX8_hasLaw yX8_hasLaw ∈ am_big := bt_3 179 rfl rfl
theorem wo_X3_value : Cond.code yX3_value cX3_value 7 (some .long) ∈ am_big := bt_4 23 rfl rfl
theorem mh_X3_value : yX3_value.cls ≠ "java/lang/invoke/MethodHandle" ∧ yX3_value.cls ≠ "java/lang/invoke/VarHandle" ∧ (parseMethodDescriptor yX3_value.desc).map (fun d => d.parameters.length) = some 2 := by decide +kernel
theorem wl_X3_value : Cond.selects RX3 yX3_value yX3_value ∈ am_big := bt_4 22 rfl rfl
theorem wo_X4_init : Cond.code yX4_init cX4_init 1 none ∈ am_big := bt_2 130 rfl rfl
theorem mh_X4_init : yX4_init.cls ≠ "java/lang/invoke/MethodHandle" ∧ yX4_init.cls ≠ "java/lang/invoke/VarHandle" ∧ (parseMethodDescriptor yX4_init.desc).map (fun d => d.parameters.length) = some 0 := by decide +kernel
theorem wo_X4_begin : Cond.code yX4_begin cX4_begin 3 none ∈ am_big := bt_4 95 rfl rfl
theorem mh_X4_begin : yX4_begin.cls ≠ "java/lang/invoke/MethodHandle" ∧ yX4_begin.cls ≠ "java/lang/invoke/VarHandle" ∧ (parseMethodDescriptor yX4_begin.desc).map (fun d => d.parameters.length) = some 2 := by decide +kernel
theorem wl_X4_begin : Cond.selects RX4 yX4_begin yX4_begin ∈ am_big := bt_4 94 rfl rfl
theorem wo_X4_byNumbers : Cond.code yX4_byNumbers cX4_byNumbers 1 none ∈ am_big := bt_4 99 rfl rfl
theorem mh_X4_byNumbers : yX4_byNumbers.cls ≠ "java/lang/invoke/MethodHandle" ∧ yX4_byNumbers.cls ≠ "java/lang/invoke/VarHandle" ∧ (parseMethodDescriptor yX4_byNumbers.desc).map (fun d => d.parameters.length) = some 0 := by decide +kernel
theorem wl_X4_byNumbers : Cond.selects RX4 yX4_byNumbers yX4_byNumbers ∈ am_big := bt_4 98 rfl rfl
theorem wo_X4_tryOtherwise : Cond.code yX4_tryOtherwise cX4_tryOtherwise 3 none ∈ am_big := bt_6 30 rfl rfl
theorem mh_X4_tryOtherwise : yX4_tryOtherwise.cls ≠ "java/lang/invoke/MethodHandle" ∧ yX4_tryOtherwise.cls ≠ "java/lang/invoke/VarHandle" ∧ (parseMethodDescriptor yX4_tryOtherwise.desc).map (fun d => d.parameters.length) = some 2 := by decide +kernel
theorem wl_X4_tryOtherwise : Cond.selects RX4 yX4_tryOtherwise yX4_tryOtherwise ∈ am_big := bt_6 29 rfl rfl
theorem wo_X4_turnBy : Cond.code yX4_turnBy cX4_turnBy 3 none ∈ am_big := bt_5 236 rfl rfl
theorem mh_X4_turnBy : yX4_turnBy.cls ≠ "java/lang/invoke/MethodHandle" ∧ yX4_turnBy.cls ≠ "java/lang/invoke/VarHandle" ∧ (parseMethodDescriptor yX4_turnBy.desc).map (fun d => d.parameters.length) = some 2 := by decide +kernel
theorem wl_X4_turnBy : Cond.selects RX4 yX4_turnBy yX4_turnBy ∈ am_big := bt_5 235 rfl rfl
theorem wo_X10_chipTop : Cond.code yX10_chipTop cX10_chipTop 3 none ∈ am_big := bt_4 144 rfl rfl
theorem mh_X10_chipTop : yX10_chipTop.cls ≠ "java/lang/invoke/MethodHandle" ∧ yX10_chipTop.cls ≠ "java/lang/invoke/VarHandle" ∧ (parseMethodDescriptor yX10_chipTop.desc).map (fun d => d.parameters.length) = some 1 := by decide +kernel
theorem wl_X10_chipTop : Cond.selects RX10 yX10_chipTop yX10_chipTop ∈ am_big := bt_4 143 rfl rfl
theorem wo_X10_turnOver : Cond.code yX10_turnOver cX10_turnOver 7 none ∈ am_big := bt_4 67 rfl rfl
theorem mh_X10_turnOver : yX10_turnOver.cls ≠ "java/lang/invoke/MethodHandle" ∧ yX10_turnOver.cls ≠ "java/lang/invoke/VarHandle" ∧ (parseMethodDescriptor yX10_turnOver.desc).map (fun d => d.parameters.length) = some 2 := by decide +kernel
theorem wl_X10_turnOver : Cond.selects RX10 yX10_turnOver yX10_turnOver ∈ am_big := bt_4 66 rfl rfl
theorem wo_X4_chips : Cond.code yX4_chips cX4_chips 2 (some .boolean) ∈ am_big := bt_4 135 rfl rfl
theorem mh_X4_chips : yX4_chips.cls ≠ "java/lang/invoke/MethodHandle" ∧ yX4_chips.cls ≠ "java/lang/invoke/VarHandle" ∧ (parseMethodDescriptor yX4_chips.desc).map (fun d => d.parameters.length) = some 1 := by decide +kernel
theorem wl_X4_chips : Cond.selects RX4 yX4_chips yX4_chips ∈ am_big := big_pr 30 (by decide +kernel) (by decide +kernel)
theorem wo_X4_depthOf : Cond.code yX4_depthOf cX4_depthOf 3 (some .int) ∈ am_big := bt_4 117 rfl rfl
theorem mh_X4_depthOf : yX4_depthOf.cls ≠ "java/lang/invoke/MethodHandle" ∧ yX4_depthOf.cls ≠ "java/lang/invoke/VarHandle" ∧ (parseMethodDescriptor yX4_depthOf.desc).map (fun d => d.parameters.length) = some 2 := by decide +kernel
theorem wl_X4_depthOf : Cond.selects RX4 yX4_depthOf yX4_depthOf ∈ am_big := big_pr 29 (by decide +kernel) (by decide +kernel)
theorem wo_X4_within : Cond.code yX4_within cX4_within 3 (some .int) ∈ am_big := bt_4 122 rfl rfl
theorem mh_X4_within : yX4_within.cls ≠ "java/lang/invoke/MethodHandle" ∧ yX4_within.cls ≠ "java/lang/invoke/VarHandle" ∧ (parseMethodDescriptor yX4_within.desc).map (fun d => d.parameters.length) = some 2 := by decide +kernel
theorem wo_X4_takeTurn : Cond.code yX4_takeTurn cX4_takeTurn 7 none ∈ am_big := bt_4 111 rfl rfl
theorem mh_X4_takeTurn : yX4_takeTurn.cls ≠ "java/lang/invoke/MethodHandle" ∧ yX4_takeTurn.cls ≠ "java/lang/invoke/VarHandle" ∧ (parseMethodDescriptor yX4_takeTurn.desc).map (fun d => d.parameters.length) = some 1 := by decide +kernel
theorem wl_X4_takeTurn : Cond.selects RX4 yX4_takeTurn yX4_takeTurn ∈ am_big := big_pr 28 (by decide +kernel) (by decide +kernel)
theorem wo_X4_pass : Cond.code yX4_pass cX4_pass 2 none ∈ am_big := bt_4 107 rfl rfl
theorem mh_X4_pass : yX4_pass.cls ≠ "java/lang/invoke/MethodHandle" ∧ yX4_pass.cls ≠ "java/lang/invoke/VarHandle" ∧ (parseMethodDescriptor yX4_pass.desc).map (fun d => d.parameters.length) = some 0 := by decide +kernel
theorem wl_X4_pass : Cond.selects RX4 yX4_pass yX4_pass ∈ am_big := bt_4 106 rfl rfl
theorem wo_X4_passAll : Cond.code yX4_passAll cX4_passAll 3 none ∈ am_big := bt_4 103 rfl rfl
theorem mh_X4_passAll : yX4_passAll.cls ≠ "java/lang/invoke/MethodHandle" ∧ yX4_passAll.cls ≠ "java/lang/invoke/VarHandle" ∧ (parseMethodDescriptor yX4_passAll.desc).map (fun d => d.parameters.length) = some 1 := by decide +kernel
theorem wl_X4_passAll : Cond.selects RX4 yX4_passAll yX4_passAll ∈ am_big := bt_4 102 rfl rfl
theorem wo_J0_isLatin1_aae02 : Cond.code yJ0_isLatin1_aae02 cJ0_isLatin1_aae02 1 (some .boolean) ∈ am_big := bt_1 63 rfl rfl
theorem mh_J0_isLatin1_aae02 : yJ0_isLatin1_aae02.cls ≠ "java/lang/invoke/MethodHandle" ∧ yJ0_isLatin1_aae02.cls ≠ "java/lang/invoke/VarHandle" ∧ (parseMethodDescriptor yJ0_isLatin1_aae02.desc).map (fun d => d.parameters.length) = some 0 := by decide +kernel
theorem wl_J0_isLatin1_aae02 : Cond.selects RJ0 yJ0_isLatin1_aae02 yJ0_isLatin1_aae02 ∈ am_big := bt_1 62 rfl rfl
theorem wo_J3_checkIndex_8e157 : Cond.code yJ3_checkIndex_8e157 cJ3_checkIndex_8e157 3 (some .int) ∈ am_big := bt_1 74 rfl rfl
theorem mh_J3_checkIndex_8e157 : yJ3_checkIndex_8e157.cls ≠ "java/lang/invoke/MethodHandle" ∧ yJ3_checkIndex_8e157.cls ≠ "java/lang/invoke/VarHandle" ∧ (parseMethodDescriptor yJ3_checkIndex_8e157.desc).map (fun d => d.parameters.length) = some 3 := by decide +kernel
theorem wo_J0_checkIndex_df160 : Cond.code yJ0_checkIndex_df160 cJ0_checkIndex_df160 2 none ∈ am_big := bt_1 69 rfl rfl
theorem mh_J0_checkIndex_df160 : yJ0_checkIndex_df160.cls ≠ "java/lang/invoke/MethodHandle" ∧ yJ0_checkIndex_df160.cls ≠ "java/lang/invoke/VarHandle" ∧ (parseMethodDescriptor yJ0_checkIndex_df160.desc).map (fun d => d.parameters.length) = some 2 := by decide +kernel
theorem wo_J1_charAt_3b067 : Cond.code yJ1_charAt_3b067 cJ1_charAt_3b067 2 (some .char) ∈ am_big := bt_1 66 rfl rfl
theorem mh_J1_charAt_3b067 : yJ1_charAt_3b067.cls ≠ "java/lang/invoke/MethodHandle" ∧ yJ1_charAt_3b067.cls ≠ "java/lang/invoke/VarHandle" ∧ (parseMethodDescriptor yJ1_charAt_3b067.desc).map (fun d => d.parameters.length) = some 2 := by decide +kernel
theorem wo_J0_charAt_5068e : Cond.code yJ0_charAt_5068e cJ0_charAt_5068e 2 (some .char) ∈ am_big := bt_1 59 rfl rfl
theorem mh_J0_charAt_5068e : yJ0_charAt_5068e.cls ≠ "java/lang/invoke/MethodHandle" ∧ yJ0_charAt_5068e.cls ≠ "java/lang/invoke/VarHandle" ∧ (parseMethodDescriptor yJ0_charAt_5068e.desc).map (fun d => d.parameters.length) = some 1 := by decide +kernel
theorem wl_J0_charAt_5068e : Cond.selects RJ0 yJ0_charAt_5068e yJ0_charAt_5068e ∈ am_big := bt_1 58 rfl rfl
theorem wo_J0_coder_7d493 : Cond.code yJ0_coder_7d493 cJ0_coder_7d493 1 (some .byte) ∈ am_big := bt_1 53 rfl rfl
theorem mh_J0_coder_7d493 : yJ0_coder_7d493.cls ≠ "java/lang/invoke/MethodHandle" ∧ yJ0_coder_7d493.cls ≠ "java/lang/invoke/VarHandle" ∧ (parseMethodDescriptor yJ0_coder_7d493.desc).map (fun d => d.parameters.length) = some 0 := by decide +kernel
theorem wl_J0_coder_7d493 : Cond.selects RJ0 yJ0_coder_7d493 yJ0_coder_7d493 ∈ am_big := bt_1 52 rfl rfl
theorem wo_J0_length_8abf5 : Cond.code yJ0_length_8abf5 cJ0_length_8abf5 1 (some .int) ∈ am_big := bt_1 49 rfl rfl
theorem mh_J0_length_8abf5 : yJ0_length_8abf5.cls ≠ "java/lang/invoke/MethodHandle" ∧ yJ0_length_8abf5.cls ≠ "java/lang/invoke/VarHandle" ∧ (parseMethodDescriptor yJ0_length_8abf5.desc).map (fun d => d.parameters.length) = some 0 := by decide +kernel
theorem wl_J0_length_8abf5 : Cond.selects RJ0 yJ0_length_8abf5 yJ0_length_8abf5 ∈ am_big := bt_1 48 rfl rfl
theorem wo_X7_init : Cond.code yX7_init cX7_init 5 none ∈ am_big := bt_1 43 rfl rfl
theorem mh_X7_init : yX7_init.cls ≠ "java/lang/invoke/MethodHandle" ∧ yX7_init.cls ≠ "java/lang/invoke/VarHandle" ∧ (parseMethodDescriptor yX7_init.desc).map (fun d => d.parameters.length) = some 0 := by decide +kernel
theorem wo_X5_init : Cond.code yX5_init cX5_init 1 none ∈ am_big := bt_1 37 rfl rfl
theorem mh_X5_init : yX5_init.cls ≠ "java/lang/invoke/MethodHandle" ∧ yX5_init.cls ≠ "java/lang/invoke/VarHandle" ∧ (parseMethodDescriptor yX5_init.desc).map (fun d => d.parameters.length) = some 0 := by decide +kernel
theorem wo_X5_place : Cond.code yX5_place cX5_place 1 (some .int) ∈ am_big := bt_3 212 rfl rfl
theorem mh_X5_place : yX5_place.cls ≠ "java/lang/invoke/MethodHandle" ∧ yX5_place.cls ≠ "java/lang/invoke/VarHandle" ∧ (parseMethodDescriptor yX5_place.desc).map (fun d => d.parameters.length) = some 0 := by decide +kernel
theorem wl_X5_place : Cond.selects RX5 yX5_place yX5_place ∈ am_big := bt_3 211 rfl rfl
theorem wo_X5_readNumber : Cond.code yX5_readNumber cX5_readNumber 3 (some .int) ∈ am_big := bt_3 114 rfl rfl
theorem mh_X5_readNumber : yX5_readNumber.cls ≠ "java/lang/invoke/MethodHandle" ∧ yX5_readNumber.cls ≠ "java/lang/invoke/VarHandle" ∧ (parseMethodDescriptor yX5_readNumber.desc).map (fun d => d.parameters.length) = some 2 := by decide +kernel
theorem wl_X5_readNumber : Cond.selects RX5 yX5_readNumber yX5_readNumber ∈ am_big := big_pr 9 (by decide +kernel) (by decide +kernel)
theorem wo_X5_readSemicolon : Cond.code yX5_readSemicolon cX5_readSemicolon 1 (some .int) ∈ am_big := bt_3 122 rfl rfl
theorem mh_X5_readSemicolon : yX5_readSemicolon.cls ≠ "java/lang/invoke/MethodHandle" ∧ yX5_readSemicolon.cls ≠ "java/lang/invoke/VarHandle" ∧ (parseMethodDescriptor yX5_readSemicolon.desc).map (fun d => d.parameters.length) = some 0 := by decide +kernel
theorem wl_X5_readSemicolon : Cond.selects RX5 yX5_readSemicolon yX5_readSemicolon ∈ am_big := big_pr 10 (by decide +kernel) (by decide +kernel)
theorem wo_X5_readChip : Cond.code yX5_readChip cX5_readChip 2 (some .int) ∈ am_big := bt_3 167 rfl rfl
theorem mh_X5_readChip : yX5_readChip.cls ≠ "java/lang/invoke/MethodHandle" ∧ yX5_readChip.cls ≠ "java/lang/invoke/VarHandle" ∧ (parseMethodDescriptor yX5_readChip.desc).map (fun d => d.parameters.length) = some 0 := by decide +kernel
theorem wl_X5_readChip : Cond.selects RX5 yX5_readChip yX5_readChip ∈ am_big := big_pr 15 (by decide +kernel) (by decide +kernel)
theorem wo_X5_readLaw : Cond.code yX5_readLaw cX5_readLaw 4 (some .int) ∈ am_big := bt_3 176 rfl rfl
theorem mh_X5_readLaw : yX5_readLaw.cls ≠ "java/lang/invoke/MethodHandle" ∧ yX5_readLaw.cls ≠ "java/lang/invoke/VarHandle" ∧ (parseMethodDescriptor yX5_readLaw.desc).map (fun d => d.parameters.length) = some 0 := by decide +kernel
theorem wl_X5_readLaw : Cond.selects RX5 yX5_readLaw yX5_readLaw ∈ am_big := big_pr 17 (by decide +kernel) (by decide +kernel)
theorem wo_X10_addMaid : Cond.code yX10_addMaid cX10_addMaid 1 none ∈ am_big := bt_3 118 rfl rfl
theorem mh_X10_addMaid : yX10_addMaid.cls ≠ "java/lang/invoke/MethodHandle" ∧ yX10_addMaid.cls ≠ "java/lang/invoke/VarHandle" ∧ (parseMethodDescriptor yX10_addMaid.desc).map (fun d => d.parameters.length) = some 0 := by decide +kernel
theorem wl_X10_addMaid : Cond.selects RX10 yX10_addMaid yX10_addMaid ∈ am_big := bt_3 117 rfl rfl
theorem wo_X5_readNewName : Cond.code yX5_readNewName cX5_readNewName 3 (some .int) ∈ am_big := bt_3 109 rfl rfl
theorem mh_X5_readNewName : yX5_readNewName.cls ≠ "java/lang/invoke/MethodHandle" ∧ yX5_readNewName.cls ≠ "java/lang/invoke/VarHandle" ∧ (parseMethodDescriptor yX5_readNewName.desc).map (fun d => d.parameters.length) = some 2 := by decide +kernel
theorem wl_X5_readNewName : Cond.selects RX5 yX5_readNewName yX5_readNewName ∈ am_big := big_pr 8 (by decide +kernel) (by decide +kernel)
theorem wo_X5_readMaid : Cond.code yX5_readMaid cX5_readMaid 3 (some .int) ∈ am_big := bt_3 105 rfl rfl
theorem mh_X5_readMaid : yX5_readMaid.cls ≠ "java/lang/invoke/MethodHandle" ∧ yX5_readMaid.cls ≠ "java/lang/invoke/VarHandle" ∧ (parseMethodDescriptor yX5_readMaid.desc).map (fun d => d.parameters.length) = some 0 := by decide +kernel
theorem wl_X5_readMaid : Cond.selects RX5 yX5_readMaid yX5_readMaid ∈ am_big := big_pr 7 (by decide +kernel) (by decide +kernel)
theorem wo_X10_addPile : Cond.code yX10_addPile cX10_addPile 1 none ∈ am_big := bt_3 130 rfl rfl
theorem mh_X10_addPile : yX10_addPile.cls ≠ "java/lang/invoke/MethodHandle" ∧ yX10_addPile.cls ≠ "java/lang/invoke/VarHandle" ∧ (parseMethodDescriptor yX10_addPile.desc).map (fun d => d.parameters.length) = some 0 := by decide +kernel
theorem wl_X10_addPile : Cond.selects RX10 yX10_addPile yX10_addPile ∈ am_big := bt_3 129 rfl rfl
theorem wo_X5_readPile : Cond.code yX5_readPile cX5_readPile 3 (some .int) ∈ am_big := bt_3 126 rfl rfl
theorem mh_X5_readPile : yX5_readPile.cls ≠ "java/lang/invoke/MethodHandle" ∧ yX5_readPile.cls ≠ "java/lang/invoke/VarHandle" ∧ (parseMethodDescriptor yX5_readPile.desc).map (fun d => d.parameters.length) = some 0 := by decide +kernel
theorem wl_X5_readPile : Cond.selects RX5 yX5_readPile yX5_readPile ∈ am_big := big_pr 11 (by decide +kernel) (by decide +kernel)
theorem wo_X10_addPlate : Cond.code yX10_addPlate cX10_addPlate 4 none ∈ am_big := bt_3 158 rfl rfl
theorem mh_X10_addPlate : yX10_addPlate.cls ≠ "java/lang/invoke/MethodHandle" ∧ yX10_addPlate.cls ≠ "java/lang/invoke/VarHandle" ∧ (parseMethodDescriptor yX10_addPlate.desc).map (fun d => d.parameters.length) = some 3 := by decide +kernel
theorem wl_X10_addPlate : Cond.selects RX10 yX10_addPlate yX10_addPlate ∈ am_big := bt_3 157 rfl rfl
theorem wo_X10_hasSize : Cond.code yX10_hasSize cX10_hasSize 4 (some .boolean) ∈ am_big := bt_3 146 rfl rfl
theorem mh_X10_hasSize : yX10_hasSize.cls ≠ "java/lang/invoke/MethodHandle" ∧ yX10_hasSize.cls ≠ "java/lang/invoke/VarHandle" ∧ (parseMethodDescriptor yX10_hasSize.desc).map (fun d => d.parameters.length) = some 2 := by decide +kernel
theorem wl_X10_hasSize : Cond.selects RX10 yX10_hasSize yX10_hasSize ∈ am_big := bt_3 145 rfl rfl
theorem wo_X5_readToldName : Cond.code yX5_readToldName cX5_readToldName 3 (some .int) ∈ am_big := bt_3 138 rfl rfl
theorem mh_X5_readToldName : yX5_readToldName.cls ≠ "java/lang/invoke/MethodHandle" ∧ yX5_readToldName.cls ≠ "java/lang/invoke/VarHandle" ∧ (parseMethodDescriptor yX5_readToldName.desc).map (fun d => d.parameters.length) = some 2 := by decide +kernel
theorem wl_X5_readToldName : Cond.selects RX5 yX5_readToldName yX5_readToldName ∈ am_big := big_pr 13 (by decide +kernel) (by decide +kernel)
theorem wo_X5_readPlate : Cond.code yX5_readPlate cX5_readPlate 4 (some .int) ∈ am_big := bt_3 134 rfl rfl
theorem mh_X5_readPlate : yX5_readPlate.cls ≠ "java/lang/invoke/MethodHandle" ∧ yX5_readPlate.cls ≠ "java/lang/invoke/VarHandle" ∧ (parseMethodDescriptor yX5_readPlate.desc).map (fun d => d.parameters.length) = some 0 := by decide +kernel
theorem wl_X5_readPlate : Cond.selects RX5 yX5_readPlate yX5_readPlate ∈ am_big := big_pr 12 (by decide +kernel) (by decide +kernel)
theorem wo_X5_readSeed : Cond.code yX5_readSeed cX5_readSeed 2 (some .int) ∈ am_big := bt_3 171 rfl rfl
theorem mh_X5_readSeed : yX5_readSeed.cls ≠ "java/lang/invoke/MethodHandle" ∧ yX5_readSeed.cls ≠ "java/lang/invoke/VarHandle" ∧ (parseMethodDescriptor yX5_readSeed.desc).map (fun d => d.parameters.length) = some 0 := by decide +kernel
theorem wl_X5_readSeed : Cond.selects RX5 yX5_readSeed yX5_readSeed ∈ am_big := big_pr 16 (by decide +kernel) (by decide +kernel)
theorem wo_X5_readTurn : Cond.code yX5_readTurn cX5_readTurn 3 (some .int) ∈ am_big := bt_3 163 rfl rfl
theorem mh_X5_readTurn : yX5_readTurn.cls ≠ "java/lang/invoke/MethodHandle" ∧ yX5_readTurn.cls ≠ "java/lang/invoke/VarHandle" ∧ (parseMethodDescriptor yX5_readTurn.desc).map (fun d => d.parameters.length) = some 0 := by decide +kernel
theorem wl_X5_readTurn : Cond.selects RX5 yX5_readTurn yX5_readTurn ∈ am_big := big_pr 14 (by decide +kernel) (by decide +kernel)
theorem wo_X5_readLine : Cond.code yX5_readLine cX5_readLine 1 (some .int) ∈ am_big := bt_3 101 rfl rfl
theorem mh_X5_readLine : yX5_readLine.cls ≠ "java/lang/invoke/MethodHandle" ∧ yX5_readLine.cls ≠ "java/lang/invoke/VarHandle" ∧ (parseMethodDescriptor yX5_readLine.desc).map (fun d => d.parameters.length) = some 0 := by decide +kernel
theorem wl_X5_readLine : Cond.selects RX5 yX5_readLine yX5_readLine ∈ am_big := big_pr 6 (by decide +kernel) (by decide +kernel)
theorem wo_X7_begin : Cond.code yX7_begin cX7_begin 3 none ∈ am_big := bt_3 63 rfl rfl
theorem mh_X7_begin : yX7_begin.cls ≠ "java/lang/invoke/MethodHandle" ∧ yX7_begin.cls ≠ "java/lang/invoke/VarHandle" ∧ (parseMethodDescriptor yX7_begin.desc).map (fun d => d.parameters.length) = some 2 := by decide +kernel
theorem wl_X7_begin : Cond.selects RX7 yX7_begin yX7_begin ∈ am_big := bt_3 62 rfl rfl
theorem wo_X10_clear : Cond.code yX10_clear cX10_clear 1 none ∈ am_big := bt_3 59 rfl rfl
theorem mh_X10_clear : yX10_clear.cls ≠ "java/lang/invoke/MethodHandle" ∧ yX10_clear.cls ≠ "java/lang/invoke/VarHandle" ∧ (parseMethodDescriptor yX10_clear.desc).map (fun d => d.parameters.length) = some 0 := by decide +kernel
theorem wl_X10_clear : Cond.selects RX10 yX10_clear yX10_clear ∈ am_big := bt_3 58 rfl rfl
theorem wo_X8_clear : Cond.code yX8_clear cX8_clear 2 none ∈ am_big := bt_3 55 rfl rfl
theorem mh_X8_clear : yX8_clear.cls ≠ "java/lang/invoke/MethodHandle" ∧ yX8_clear.cls ≠ "java/lang/invoke/VarHandle" ∧ (parseMethodDescriptor yX8_clear.desc).map (fun d => d.parameters.length) = some 0 := by decide +kernel
theorem wl_X8_clear : Cond.selects RX8 yX8_clear yX8_clear ∈ am_big := bt_3 54 rfl rfl
theorem wo_X5_read : Cond.code yX5_read cX5_read 6 (some .int) ∈ am_big := bt_3 51 rfl rfl
theorem mh_X5_read : yX5_read.cls ≠ "java/lang/invoke/MethodHandle" ∧ yX5_read.cls ≠ "java/lang/invoke/VarHandle" ∧ (parseMethodDescriptor yX5_read.desc).map (fun d => d.parameters.length) = some 3 := by decide +kernel
theorem wl_X5_read : Cond.selects RX5 yX5_read yX5_read ∈ am_big := bt_3 50 rfl rfl
theorem wo_X6_init : Cond.code yX6_init cX6_init 1 none ∈ am_big := bt_2 185 rfl rfl
theorem mh_X6_init : yX6_init.cls ≠ "java/lang/invoke/MethodHandle" ∧ yX6_init.cls ≠ "java/lang/invoke/VarHandle" ∧ (parseMethodDescriptor yX6_init.desc).map (fun d => d.parameters.length) = some 0 := by decide +kernel
theorem wo_X6_forget : Cond.code yX6_forget cX6_forget 1 none ∈ am_big := bt_3 227 rfl rfl
theorem mh_X6_forget : yX6_forget.cls ≠ "java/lang/invoke/MethodHandle" ∧ yX6_forget.cls ≠ "java/lang/invoke/VarHandle" ∧ (parseMethodDescriptor yX6_forget.desc).map (fun d => d.parameters.length) = some 0 := by decide +kernel
theorem wl_X6_forget : Cond.selects RX6 yX6_forget yX6_forget ∈ am_big := bt_3 226 rfl rfl
theorem wo_X6_total : Cond.code yX6_total cX6_total 1 (some .int) ∈ am_big := bt_6 92 rfl rfl
theorem mh_X6_total : yX6_total.cls ≠ "java/lang/invoke/MethodHandle" ∧ yX6_total.cls ≠ "java/lang/invoke/VarHandle" ∧ (parseMethodDescriptor yX6_total.desc).map (fun d => d.parameters.length) = some 0 := by decide +kernel
theorem wl_X6_total : Cond.selects RX6 yX6_total yX6_total ∈ am_big := bt_6 91 rfl rfl
theorem wo_X6_knownBy : Cond.code yX6_knownBy cX6_knownBy 1 (some .int) ∈ am_big := bt_5 221 rfl rfl
theorem mh_X6_knownBy : yX6_knownBy.cls ≠ "java/lang/invoke/MethodHandle" ∧ yX6_knownBy.cls ≠ "java/lang/invoke/VarHandle" ∧ (parseMethodDescriptor yX6_knownBy.desc).map (fun d => d.parameters.length) = some 0 := by decide +kernel
theorem wl_X6_knownBy : Cond.selects RX6 yX6_knownBy yX6_knownBy ∈ am_big := bt_5 220 rfl rfl
theorem wo_X6_knowBy : Cond.code yX6_knowBy cX6_knowBy 2 (some .boolean) ∈ am_big := bt_5 205 rfl rfl
theorem mh_X6_knowBy : yX6_knowBy.cls ≠ "java/lang/invoke/MethodHandle" ∧ yX6_knowBy.cls ≠ "java/lang/invoke/VarHandle" ∧ (parseMethodDescriptor yX6_knowBy.desc).map (fun d => d.parameters.length) = some 1 := by decide +kernel
theorem wl_X6_knowBy : Cond.selects RX6 yX6_knowBy yX6_knowBy ∈ am_big := bt_5 204 rfl rfl
theorem wo_X6_addSight : Cond.code yX6_addSight cX6_addSight 5 (some .int) ∈ am_big := bt_5 189 rfl rfl
theorem mh_X6_addSight : yX6_addSight.cls ≠ "java/lang/invoke/MethodHandle" ∧ yX6_addSight.cls ≠ "java/lang/invoke/VarHandle" ∧ (parseMethodDescriptor yX6_addSight.desc).map (fun d => d.parameters.length) = some 4 := by decide +kernel
theorem wl_X6_addSight : Cond.selects RX6 yX6_addSight yX6_addSight ∈ am_big := bt_5 188 rfl rfl
theorem wo_X6_addStrike : Cond.code yX6_addStrike cX6_addStrike 2 (some .int) ∈ am_big := bt_5 197 rfl rfl
theorem mh_X6_addStrike : yX6_addStrike.cls ≠ "java/lang/invoke/MethodHandle" ∧ yX6_addStrike.cls ≠ "java/lang/invoke/VarHandle" ∧ (parseMethodDescriptor yX6_addStrike.desc).map (fun d => d.parameters.length) = some 1 := by decide +kernel
theorem wl_X6_addStrike : Cond.selects RX6 yX6_addStrike yX6_addStrike ∈ am_big := bt_5 196 rfl rfl
theorem wo_X6_weigh : Cond.code yX6_weigh cX6_weigh 3 none ∈ am_big := bt_5 217 rfl rfl
theorem mh_X6_weigh : yX6_weigh.cls ≠ "java/lang/invoke/MethodHandle" ∧ yX6_weigh.cls ≠ "java/lang/invoke/VarHandle" ∧ (parseMethodDescriptor yX6_weigh.desc).map (fun d => d.parameters.length) = some 0 := by decide +kernel
theorem wl_X6_weigh : Cond.selects RX6 yX6_weigh yX6_weigh ∈ am_big := bt_5 216 rfl rfl
theorem wo_X6_longest : Cond.code yX6_longest cX6_longest 3 (some .int) ∈ am_big := bt_5 225 rfl rfl
theorem mh_X6_longest : yX6_longest.cls ≠ "java/lang/invoke/MethodHandle" ∧ yX6_longest.cls ≠ "java/lang/invoke/VarHandle" ∧ (parseMethodDescriptor yX6_longest.desc).map (fun d => d.parameters.length) = some 0 := by decide +kernel
theorem wl_X6_longest : Cond.selects RX6 yX6_longest yX6_longest ∈ am_big := bt_5 224 rfl rfl
theorem wo_X6_agrees : Cond.code yX6_agrees cX6_agrees 5 (some .boolean) ∈ am_big := bt_6 0 rfl rfl
theorem mh_X6_agrees : yX6_agrees.cls ≠ "java/lang/invoke/MethodHandle" ∧ yX6_agrees.cls ≠ "java/lang/invoke/VarHandle" ∧ (parseMethodDescriptor yX6_agrees.desc).map (fun d => d.parameters.length) = some 2 := by decide +kernel
theorem wl_X6_agrees : Cond.selects RX6 yX6_agrees yX6_agrees ∈ am_big := bt_5 239 rfl rfl
theorem wo_X10_init : Cond.code yX10_init cX10_init 1 none ∈ am_big := bt_1 177 rfl rfl
theorem mh_X10_init : yX10_init.cls ≠ "java/lang/invoke/MethodHandle" ∧ yX10_init.cls ≠ "java/lang/invoke/VarHandle" ∧ (parseMethodDescriptor yX10_init.desc).map (fun d => d.parameters.length) = some 0 := by decide +kernel
theorem wo_X8_init : Cond.code yX8_init cX8_init 1 none ∈ am_big := bt_1 171 rfl rfl
theorem mh_X8_init : yX8_init.cls ≠ "java/lang/invoke/MethodHandle" ∧ yX8_init.cls ≠ "java/lang/invoke/VarHandle" ∧ (parseMethodDescriptor yX8_init.desc).map (fun d => d.parameters.length) = some 0 := by decide +kernel
theorem wo_X11_orderOf : Cond.code yX11_orderOf cX11_orderOf 6 (some .int) ∈ am_big := bt_4 203 rfl rfl
theorem mh_X11_orderOf : yX11_orderOf.cls ≠ "java/lang/invoke/MethodHandle" ∧ yX11_orderOf.cls ≠ "java/lang/invoke/VarHandle" ∧ (parseMethodDescriptor yX11_orderOf.desc).map (fun d => d.parameters.length) = some 2 := by decide +kernel
theorem wo_X11_reverse : Cond.code yX11_reverse cX11_reverse 5 none ∈ am_big := bt_4 200 rfl rfl
theorem mh_X11_reverse : yX11_reverse.cls ≠ "java/lang/invoke/MethodHandle" ∧ yX11_reverse.cls ≠ "java/lang/invoke/VarHandle" ∧ (parseMethodDescriptor yX11_reverse.desc).map (fun d => d.parameters.length) = some 2 := by decide +kernel
theorem wo_X9_flipped : Cond.code yX9_flipped cX9_flipped 4 (some .int) ∈ am_big := bt_4 207 rfl rfl
theorem mh_X9_flipped : yX9_flipped.cls ≠ "java/lang/invoke/MethodHandle" ∧ yX9_flipped.cls ≠ "java/lang/invoke/VarHandle" ∧ (parseMethodDescriptor yX9_flipped.desc).map (fun d => d.parameters.length) = some 2 := by decide +kernel
theorem wo_X9_lay : Cond.code yX9_lay cX9_lay 6 none ∈ am_big := bt_4 195 rfl rfl
theorem mh_X9_lay : yX9_lay.cls ≠ "java/lang/invoke/MethodHandle" ∧ yX9_lay.cls ≠ "java/lang/invoke/VarHandle" ∧ (parseMethodDescriptor yX9_lay.desc).map (fun d => d.parameters.length) = some 2 := by decide +kernel
theorem wo_X9_init : Cond.code yX9_init cX9_init 4 none ∈ am_big := bt_4 191 rfl rfl
theorem mh_X9_init : yX9_init.cls ≠ "java/lang/invoke/MethodHandle" ∧ yX9_init.cls ≠ "java/lang/invoke/VarHandle" ∧ (parseMethodDescriptor yX9_init.desc).map (fun d => d.parameters.length) = some 0 := by decide +kernel
theorem wo_X10_copy : Cond.code yX10_copy cX10_copy 2 none ∈ am_big := bt_3 216 rfl rfl
theorem mh_X10_copy : yX10_copy.cls ≠ "java/lang/invoke/MethodHandle" ∧ yX10_copy.cls ≠ "java/lang/invoke/VarHandle" ∧ (parseMethodDescriptor yX10_copy.desc).map (fun d => d.parameters.length) = some 1 := by decide +kernel
theorem wl_X10_copy : Cond.selects RX10 yX10_copy yX10_copy ∈ am_big := bt_3 215 rfl rfl
theorem wo_X10_faceAt : Cond.code yX10_faceAt cX10_faceAt 4 (some .int) ∈ am_big := bt_4 168 rfl rfl
theorem mh_X10_faceAt : yX10_faceAt.cls ≠ "java/lang/invoke/MethodHandle" ∧ yX10_faceAt.cls ≠ "java/lang/invoke/VarHandle" ∧ (parseMethodDescriptor yX10_faceAt.desc).map (fun d => d.parameters.length) = some 2 := by decide +kernel
theorem wl_X10_faceAt : Cond.selects RX10 yX10_faceAt yX10_faceAt ∈ am_big := bt_4 167 rfl rfl
theorem wo_X10_rankAt : Cond.code yX10_rankAt cX10_rankAt 5 (some .int) ∈ am_big := bt_5 71 rfl rfl
theorem mh_X10_rankAt : yX10_rankAt.cls ≠ "java/lang/invoke/MethodHandle" ∧ yX10_rankAt.cls ≠ "java/lang/invoke/VarHandle" ∧ (parseMethodDescriptor yX10_rankAt.desc).map (fun d => d.parameters.length) = some 2 := by decide +kernel
theorem wl_X10_rankAt : Cond.selects RX10 yX10_rankAt yX10_rankAt ∈ am_big := bt_5 70 rfl rfl
theorem wo_X10_placeOfRank : Cond.code yX10_placeOfRank cX10_placeOfRank 4 (some .int) ∈ am_big := bt_5 75 rfl rfl
theorem mh_X10_placeOfRank : yX10_placeOfRank.cls ≠ "java/lang/invoke/MethodHandle" ∧ yX10_placeOfRank.cls ≠ "java/lang/invoke/VarHandle" ∧ (parseMethodDescriptor yX10_placeOfRank.desc).map (fun d => d.parameters.length) = some 2 := by decide +kernel
theorem wl_X10_placeOfRank : Cond.selects RX10 yX10_placeOfRank yX10_placeOfRank ∈ am_big := bt_5 74 rfl rfl
theorem wo_X10_state : Cond.code yX10_state cX10_state 5 (some .int) ∈ am_big := bt_5 34 rfl rfl
theorem mh_X10_state : yX10_state.cls ≠ "java/lang/invoke/MethodHandle" ∧ yX10_state.cls ≠ "java/lang/invoke/VarHandle" ∧ (parseMethodDescriptor yX10_state.desc).map (fun d => d.parameters.length) = some 2 := by decide +kernel
theorem wl_X10_state : Cond.selects RX10 yX10_state yX10_state ∈ am_big := bt_5 33 rfl rfl
theorem wo_X10_isRight : Cond.code yX10_isRight cX10_isRight 3 (some .boolean) ∈ am_big := bt_4 156 rfl rfl
theorem mh_X10_isRight : yX10_isRight.cls ≠ "java/lang/invoke/MethodHandle" ∧ yX10_isRight.cls ≠ "java/lang/invoke/VarHandle" ∧ (parseMethodDescriptor yX10_isRight.desc).map (fun d => d.parameters.length) = some 1 := by decide +kernel
theorem wl_X10_isRight : Cond.selects RX10 yX10_isRight yX10_isRight ∈ am_big := bt_4 155 rfl rfl
theorem wo_X10_isProper : Cond.code yX10_isProper cX10_isProper 3 (some .boolean) ∈ am_big := bt_4 164 rfl rfl
theorem mh_X10_isProper : yX10_isProper.cls ≠ "java/lang/invoke/MethodHandle" ∧ yX10_isProper.cls ≠ "java/lang/invoke/VarHandle" ∧ (parseMethodDescriptor yX10_isProper.desc).map (fun d => d.parameters.length) = some 1 := by decide +kernel
theorem wl_X10_isProper : Cond.selects RX10 yX10_isProper yX10_isProper ∈ am_big := bt_4 163 rfl rfl
theorem wo_X10_gapsOfAll : Cond.code yX10_gapsOfAll cX10_gapsOfAll 3 (some .int) ∈ am_big := bt_6 34 rfl rfl
theorem mh_X10_gapsOfAll : yX10_gapsOfAll.cls ≠ "java/lang/invoke/MethodHandle" ∧ yX10_gapsOfAll.cls ≠ "java/lang/invoke/VarHandle" ∧ (parseMethodDescriptor yX10_gapsOfAll.desc).map (fun d => d.parameters.length) = some 0 := by decide +kernel
theorem wl_X10_gapsOfAll : Cond.selects RX10 yX10_gapsOfAll yX10_gapsOfAll ∈ am_big := bt_6 33 rfl rfl
theorem wo_X10_rightPiles : Cond.code yX10_rightPiles cX10_rightPiles 3 (some .int) ∈ am_big := bt_4 152 rfl rfl
theorem mh_X10_rightPiles : yX10_rightPiles.cls ≠ "java/lang/invoke/MethodHandle" ∧ yX10_rightPiles.cls ≠ "java/lang/invoke/VarHandle" ∧ (parseMethodDescriptor yX10_rightPiles.desc).map (fun d => d.parameters.length) = some 0 := by decide +kernel
theorem wl_X10_rightPiles : Cond.selects RX10 yX10_rightPiles yX10_rightPiles ∈ am_big := bt_4 151 rfl rfl
theorem wo_X10_properPiles : Cond.code yX10_properPiles cX10_properPiles 3 (some .int) ∈ am_big := bt_4 160 rfl rfl
theorem mh_X10_properPiles : yX10_properPiles.cls ≠ "java/lang/invoke/MethodHandle" ∧ yX10_properPiles.cls ≠ "java/lang/invoke/VarHandle" ∧ (parseMethodDescriptor yX10_properPiles.desc).map (fun d => d.parameters.length) = some 0 := by decide +kernel
theorem wl_X10_properPiles : Cond.selects RX10 yX10_properPiles yX10_properPiles ∈ am_big := bt_4 159 rfl rfl
theorem wo_X10_chippedPlates : Cond.code yX10_chippedPlates cX10_chippedPlates 3 (some .int) ∈ am_big := bt_4 172 rfl rfl
theorem mh_X10_chippedPlates : yX10_chippedPlates.cls ≠ "java/lang/invoke/MethodHandle" ∧ yX10_chippedPlates.cls ≠ "java/lang/invoke/VarHandle" ∧ (parseMethodDescriptor yX10_chippedPlates.desc).map (fun d => d.parameters.length) = some 0 := by decide +kernel
theorem wl_X10_chippedPlates : Cond.selects RX10 yX10_chippedPlates yX10_chippedPlates ∈ am_big := bt_4 171 rfl rfl
theorem wo_X10_facesDown : Cond.code yX10_facesDown cX10_facesDown 3 (some .int) ∈ am_big := bt_6 88 rfl rfl
theorem mh_X10_facesDown : yX10_facesDown.cls ≠ "java/lang/invoke/MethodHandle" ∧ yX10_facesDown.cls ≠ "java/lang/invoke/VarHandle" ∧ (parseMethodDescriptor yX10_facesDown.desc).map (fun d => d.parameters.length) = some 0 := by decide +kernel
theorem wl_X10_facesDown : Cond.selects RX10 yX10_facesDown yX10_facesDown ∈ am_big := bt_6 87 rfl rfl
theorem wo_X10_tiredOfAll : Cond.code yX10_tiredOfAll cX10_tiredOfAll 3 (some .int) ∈ am_big := bt_6 84 rfl rfl
theorem mh_X10_tiredOfAll : yX10_tiredOfAll.cls ≠ "java/lang/invoke/MethodHandle" ∧ yX10_tiredOfAll.cls ≠ "java/lang/invoke/VarHandle" ∧ (parseMethodDescriptor yX10_tiredOfAll.desc).map (fun d => d.parameters.length) = some 0 := by decide +kernel
theorem wl_X10_tiredOfAll : Cond.selects RX10 yX10_tiredOfAll yX10_tiredOfAll ∈ am_big := bt_6 83 rfl rfl
theorem wo_X10_turnBack : Cond.code yX10_turnBack cX10_turnBack 3 none ∈ am_big := bt_6 59 rfl rfl
theorem mh_X10_turnBack : yX10_turnBack.cls ≠ "java/lang/invoke/MethodHandle" ∧ yX10_turnBack.cls ≠ "java/lang/invoke/VarHandle" ∧ (parseMethodDescriptor yX10_turnBack.desc).map (fun d => d.parameters.length) = some 2 := by decide +kernel
theorem wl_X10_turnBack : Cond.selects RX10 yX10_turnBack yX10_turnBack ∈ am_big := bt_6 58 rfl rfl
theorem wo_X10_lift : Cond.code yX10_lift cX10_lift 5 none ∈ am_big := bt_4 83 rfl rfl
theorem mh_X10_lift : yX10_lift.cls ≠ "java/lang/invoke/MethodHandle" ∧ yX10_lift.cls ≠ "java/lang/invoke/VarHandle" ∧ (parseMethodDescriptor yX10_lift.desc).map (fun d => d.parameters.length) = some 2 := by decide +kernel
theorem wl_X10_lift : Cond.selects RX10 yX10_lift yX10_lift ∈ am_big := bt_4 82 rfl rfl
theorem wo_X10_mend : Cond.code yX10_mend cX10_mend 2 none ∈ am_big := bt_6 64 rfl rfl
theorem mh_X10_mend : yX10_mend.cls ≠ "java/lang/invoke/MethodHandle" ∧ yX10_mend.cls ≠ "java/lang/invoke/VarHandle" ∧ (parseMethodDescriptor yX10_mend.desc).map (fun d => d.parameters.length) = some 1 := by decide +kernel
theorem wl_X10_mend : Cond.selects RX10 yX10_mend yX10_mend ∈ am_big := bt_6 63 rfl rfl
theorem wo_X11_init : Cond.code yX11_init cX11_init 1 none ∈ am_big := bt_1 29 rfl rfl
theorem mh_X11_init : yX11_init.cls ≠ "java/lang/invoke/MethodHandle" ∧ yX11_init.cls ≠ "java/lang/invoke/VarHandle" ∧ (parseMethodDescriptor yX11_init.desc).map (fun d => d.parameters.length) = some 0 := by decide +kernel
theorem wo_X11_putOnTape : Cond.code yX11_putOnTape cX11_putOnTape 3 none ∈ am_big := bt_3 43 rfl rfl
theorem mh_X11_putOnTape : yX11_putOnTape.cls ≠ "java/lang/invoke/MethodHandle" ∧ yX11_putOnTape.cls ≠ "java/lang/invoke/VarHandle" ∧ (parseMethodDescriptor yX11_putOnTape.desc).map (fun d => d.parameters.length) = some 1 := by decide +kernel
theorem wl_X11_putOnTape : Cond.selects RX11 yX11_putOnTape yX11_putOnTape ∈ am_big := big_pr 0 (by decide +kernel) (by decide +kernel)
theorem wo_X11_feed : Cond.code yX11_feed cX11_feed 6 (some .int) ∈ am_big := bt_3 39 rfl rfl
theorem mh_X11_feed : yX11_feed.cls ≠ "java/lang/invoke/MethodHandle" ∧ yX11_feed.cls ≠ "java/lang/invoke/VarHandle" ∧ (parseMethodDescriptor yX11_feed.desc).map (fun d => d.parameters.length) = some 5 := by decide +kernel
theorem wl_X11_feed : Cond.selects RX11 yX11_feed yX11_feed ∈ am_big := bt_3 38 rfl rfl
theorem wo_X11_text : Cond.code yX11_text cX11_text 3 (some .int) ∈ am_big := bt_3 47 rfl rfl
theorem mh_X11_text : yX11_text.cls ≠ "java/lang/invoke/MethodHandle" ∧ yX11_text.cls ≠ "java/lang/invoke/VarHandle" ∧ (parseMethodDescriptor yX11_text.desc).map (fun d => d.parameters.length) = some 1 := by decide +kernel
theorem wl_X11_text : Cond.selects RX11 yX11_text yX11_text ∈ am_big := bt_3 46 rfl rfl
theorem wo_X11_fault : Cond.code yX11_fault cX11_fault 2 (some .int) ∈ am_big := bt_3 231 rfl rfl
theorem mh_X11_fault : yX11_fault.cls ≠ "java/lang/invoke/MethodHandle" ∧ yX11_fault.cls ≠ "java/lang/invoke/VarHandle" ∧ (parseMethodDescriptor yX11_fault.desc).map (fun d => d.parameters.length) = some 1 := by decide +kernel
theorem wl_X11_fault : Cond.selects RX11 yX11_fault yX11_fault ∈ am_big := bt_3 230 rfl rfl
theorem wo_X11_named : Cond.code yX11_named cX11_named 3 (some .int) ∈ am_big := bt_3 235 rfl rfl
theorem mh_X11_named : yX11_named.cls ≠ "java/lang/invoke/MethodHandle" ∧ yX11_named.cls ≠ "java/lang/invoke/VarHandle" ∧ (parseMethodDescriptor yX11_named.desc).map (fun d => d.parameters.length) = some 2 := by decide +kernel
theorem wl_X11_named : Cond.selects RX11 yX11_named yX11_named ∈ am_big := bt_3 234 rfl rfl
theorem wo_X11_pile : Cond.code yX11_pile cX11_pile 3 (some .int) ∈ am_big := bt_6 102 rfl rfl
theorem mh_X11_pile : yX11_pile.cls ≠ "java/lang/invoke/MethodHandle" ∧ yX11_pile.cls ≠ "java/lang/invoke/VarHandle" ∧ (parseMethodDescriptor yX11_pile.desc).map (fun d => d.parameters.length) = some 2 := by decide +kernel
theorem wl_X11_pile : Cond.selects RX11 yX11_pile yX11_pile ∈ am_big := bt_6 101 rfl rfl
theorem wo_X11_plate : Cond.code yX11_plate cX11_plate 5 (some .int) ∈ am_big := bt_4 0 rfl rfl
theorem mh_X11_plate : yX11_plate.cls ≠ "java/lang/invoke/MethodHandle" ∧ yX11_plate.cls ≠ "java/lang/invoke/VarHandle" ∧ (parseMethodDescriptor yX11_plate.desc).map (fun d => d.parameters.length) = some 3 := by decide +kernel
theorem wl_X11_plate : Cond.selects RX11 yX11_plate yX11_plate ∈ am_big := bt_3 239 rfl rfl
theorem wo_X11_maid : Cond.code yX11_maid cX11_maid 3 (some .int) ∈ am_big := bt_4 6 rfl rfl
theorem mh_X11_maid : yX11_maid.cls ≠ "java/lang/invoke/MethodHandle" ∧ yX11_maid.cls ≠ "java/lang/invoke/VarHandle" ∧ (parseMethodDescriptor yX11_maid.desc).map (fun d => d.parameters.length) = some 2 := by decide +kernel
theorem wl_X11_maid : Cond.selects RX11 yX11_maid yX11_maid ∈ am_big := bt_4 5 rfl rfl
theorem wo_X11_law : Cond.code yX11_law cX11_law 5 (some .long) ∈ am_big := bt_4 14 rfl rfl
theorem mh_X11_law : yX11_law.cls ≠ "java/lang/invoke/MethodHandle" ∧ yX11_law.cls ≠ "java/lang/invoke/VarHandle" ∧ (parseMethodDescriptor yX11_law.desc).map (fun d => d.parameters.length) = some 4 := by decide +kernel
theorem wl_X11_law : Cond.selects RX11 yX11_law yX11_law ∈ am_big := bt_4 13 rfl rfl
theorem wo_X11_turn : Cond.code yX11_turn cX11_turn 3 (some .int) ∈ am_big := bt_4 63 rfl rfl
theorem mh_X11_turn : yX11_turn.cls ≠ "java/lang/invoke/MethodHandle" ∧ yX11_turn.cls ≠ "java/lang/invoke/VarHandle" ∧ (parseMethodDescriptor yX11_turn.desc).map (fun d => d.parameters.length) = some 2 := by decide +kernel
theorem wl_X11_turn : Cond.selects RX11 yX11_turn yX11_turn ∈ am_big := bt_4 62 rfl rfl
theorem wo_X11_move : Cond.code yX11_move cX11_move 3 (some .int) ∈ am_big := bt_4 77 rfl rfl
theorem mh_X11_move : yX11_move.cls ≠ "java/lang/invoke/MethodHandle" ∧ yX11_move.cls ≠ "java/lang/invoke/VarHandle" ∧ (parseMethodDescriptor yX11_move.desc).map (fun d => d.parameters.length) = some 2 := by decide +kernel
theorem wl_X11_move : Cond.selects RX11 yX11_move yX11_move ∈ am_big := bt_4 76 rfl rfl
theorem wo_X11_crack : Cond.code yX11_crack cX11_crack 4 (some .boolean) ∈ am_big := bt_4 87 rfl rfl
theorem mh_X11_crack : yX11_crack.cls ≠ "java/lang/invoke/MethodHandle" ∧ yX11_crack.cls ≠ "java/lang/invoke/VarHandle" ∧ (parseMethodDescriptor yX11_crack.desc).map (fun d => d.parameters.length) = some 2 := by decide +kernel
theorem wl_X11_crack : Cond.selects RX11 yX11_crack yX11_crack ∈ am_big := bt_4 86 rfl rfl
theorem wo_X11_go : Cond.code yX11_go cX11_go 2 (some .int) ∈ am_big := bt_4 91 rfl rfl
theorem mh_X11_go : yX11_go.cls ≠ "java/lang/invoke/MethodHandle" ∧ yX11_go.cls ≠ "java/lang/invoke/VarHandle" ∧ (parseMethodDescriptor yX11_go.desc).map (fun d => d.parameters.length) = some 1 := by decide +kernel
theorem wl_X11_go : Cond.selects RX11 yX11_go yX11_go ∈ am_big := bt_4 90 rfl rfl
theorem wo_X11_ahead : Cond.code yX11_ahead cX11_ahead 5 (some .int) ∈ am_big := bt_4 148 rfl rfl
theorem mh_X11_ahead : yX11_ahead.cls ≠ "java/lang/invoke/MethodHandle" ∧ yX11_ahead.cls ≠ "java/lang/invoke/VarHandle" ∧ (parseMethodDescriptor yX11_ahead.desc).map (fun d => d.parameters.length) = some 3 := by decide +kernel
theorem wl_X11_ahead : Cond.selects RX11 yX11_ahead yX11_ahead ∈ am_big := bt_4 147 rfl rfl
theorem wo_X11_rightWhen : Cond.code yX11_rightWhen cX11_rightWhen 3 (some .int) ∈ am_big := bt_4 176 rfl rfl
theorem mh_X11_rightWhen : yX11_rightWhen.cls ≠ "java/lang/invoke/MethodHandle" ∧ yX11_rightWhen.cls ≠ "java/lang/invoke/VarHandle" ∧ (parseMethodDescriptor yX11_rightWhen.desc).map (fun d => d.parameters.length) = some 1 := by decide +kernel
theorem wl_X11_rightWhen : Cond.selects RX11 yX11_rightWhen yX11_rightWhen ∈ am_big := bt_4 175 rfl rfl
theorem wo_X11_chartOf : Cond.code yX11_chartOf cX11_chartOf 4 (some (.object "PlatePiles$Chart")) ∈ am_big := bt_4 186 rfl rfl
theorem mh_X11_chartOf : yX11_chartOf.cls ≠ "java/lang/invoke/MethodHandle" ∧ yX11_chartOf.cls ≠ "java/lang/invoke/VarHandle" ∧ (parseMethodDescriptor yX11_chartOf.desc).map (fun d => d.parameters.length) = some 2 := by decide +kernel
theorem wl_X11_chartOf : Cond.selects RX11 yX11_chartOf yX11_chartOf ∈ am_big := big_pr 31 (by decide +kernel) (by decide +kernel)
theorem wo_X11_fewest : Cond.code yX11_fewest cX11_fewest 3 (some .int) ∈ am_big := bt_4 182 rfl rfl
theorem mh_X11_fewest : yX11_fewest.cls ≠ "java/lang/invoke/MethodHandle" ∧ yX11_fewest.cls ≠ "java/lang/invoke/VarHandle" ∧ (parseMethodDescriptor yX11_fewest.desc).map (fun d => d.parameters.length) = some 2 := by decide +kernel
theorem wl_X11_fewest : Cond.selects RX11 yX11_fewest yX11_fewest ∈ am_big := bt_4 181 rfl rfl
theorem wo_X11_first : Cond.code yX11_first cX11_first 3 (some .int) ∈ am_big := bt_5 47 rfl rfl
theorem mh_X11_first : yX11_first.cls ≠ "java/lang/invoke/MethodHandle" ∧ yX11_first.cls ≠ "java/lang/invoke/VarHandle" ∧ (parseMethodDescriptor yX11_first.desc).map (fun d => d.parameters.length) = some 2 := by decide +kernel
theorem wl_X11_first : Cond.selects RX11 yX11_first yX11_first ∈ am_big := bt_5 46 rfl rfl
theorem wo_X11_ways : Cond.code yX11_ways cX11_ways 3 (some .int) ∈ am_big := bt_5 55 rfl rfl
theorem mh_X11_ways : yX11_ways.cls ≠ "java/lang/invoke/MethodHandle" ∧ yX11_ways.cls ≠ "java/lang/invoke/VarHandle" ∧ (parseMethodDescriptor yX11_ways.desc).map (fun d => d.parameters.length) = some 2 := by decide +kernel
theorem wl_X11_ways : Cond.selects RX11 yX11_ways yX11_ways ∈ am_big := bt_5 54 rfl rfl
theorem wo_X11_stateAgainst : Cond.code yX11_stateAgainst cX11_stateAgainst 7 (some .int) ∈ am_big := bt_5 67 rfl rfl
theorem mh_X11_stateAgainst : yX11_stateAgainst.cls ≠ "java/lang/invoke/MethodHandle" ∧ yX11_stateAgainst.cls ≠ "java/lang/invoke/VarHandle" ∧ (parseMethodDescriptor yX11_stateAgainst.desc).map (fun d => d.parameters.length) = some 3 := by decide +kernel
theorem wl_X11_stateAgainst : Cond.selects RX11 yX11_stateAgainst yX11_stateAgainst ∈ am_big := big_pr 34 (by decide +kernel) (by decide +kernel)
theorem wo_X11_apart : Cond.code yX11_apart cX11_apart 4 (some .int) ∈ am_big := bt_5 63 rfl rfl
theorem mh_X11_apart : yX11_apart.cls ≠ "java/lang/invoke/MethodHandle" ∧ yX11_apart.cls ≠ "java/lang/invoke/VarHandle" ∧ (parseMethodDescriptor yX11_apart.desc).map (fun d => d.parameters.length) = some 3 := by decide +kernel
theorem wl_X11_apart : Cond.selects RX11 yX11_apart yX11_apart ∈ am_big := bt_5 62 rfl rfl
theorem wo_X11_furthest : Cond.code yX11_furthest cX11_furthest 3 (some .int) ∈ am_big := bt_5 82 rfl rfl
theorem mh_X11_furthest : yX11_furthest.cls ≠ "java/lang/invoke/MethodHandle" ∧ yX11_furthest.cls ≠ "java/lang/invoke/VarHandle" ∧ (parseMethodDescriptor yX11_furthest.desc).map (fun d => d.parameters.length) = some 2 := by decide +kernel
theorem wl_X11_furthest : Cond.selects RX11 yX11_furthest yX11_furthest ∈ am_big := bt_5 81 rfl rfl
theorem wo_X11_howMany : Cond.code yX11_howMany cX11_howMany 4 (some .int) ∈ am_big := bt_5 90 rfl rfl
theorem mh_X11_howMany : yX11_howMany.cls ≠ "java/lang/invoke/MethodHandle" ∧ yX11_howMany.cls ≠ "java/lang/invoke/VarHandle" ∧ (parseMethodDescriptor yX11_howMany.desc).map (fun d => d.parameters.length) = some 3 := by decide +kernel
theorem wl_X11_howMany : Cond.selects RX11 yX11_howMany yX11_howMany ∈ am_big := bt_5 89 rfl rfl
theorem wo_X11_could : Cond.code yX11_could cX11_could 4 (some .int) ∈ am_big := bt_5 98 rfl rfl
theorem mh_X11_could : yX11_could.cls ≠ "java/lang/invoke/MethodHandle" ∧ yX11_could.cls ≠ "java/lang/invoke/VarHandle" ∧ (parseMethodDescriptor yX11_could.desc).map (fun d => d.parameters.length) = some 3 := by decide +kernel
theorem wl_X11_could : Cond.selects RX11 yX11_could yX11_could ∈ am_big := bt_5 97 rfl rfl
theorem wo_X11_placeOfGreatest : Cond.code yX11_placeOfGreatest cX11_placeOfGreatest 4 (some .int) ∈ am_big := bt_5 113 rfl rfl
theorem mh_X11_placeOfGreatest : yX11_placeOfGreatest.cls ≠ "java/lang/invoke/MethodHandle" ∧ yX11_placeOfGreatest.cls ≠ "java/lang/invoke/VarHandle" ∧ (parseMethodDescriptor yX11_placeOfGreatest.desc).map (fun d => d.parameters.length) = some 2 := by decide +kernel
theorem wo_X11_greedy : Cond.code yX11_greedy cX11_greedy 5 (some .int) ∈ am_big := bt_5 110 rfl rfl
theorem mh_X11_greedy : yX11_greedy.cls ≠ "java/lang/invoke/MethodHandle" ∧ yX11_greedy.cls ≠ "java/lang/invoke/VarHandle" ∧ (parseMethodDescriptor yX11_greedy.desc).map (fun d => d.parameters.length) = some 1 := by decide +kernel
theorem wl_X11_greedy : Cond.selects RX11 yX11_greedy yX11_greedy ∈ am_big := bt_5 109 rfl rfl
theorem wo_X11_game : Cond.code yX11_game cX11_game 6 (some .int) ∈ am_big := bt_5 118 rfl rfl
theorem mh_X11_game : yX11_game.cls ≠ "java/lang/invoke/MethodHandle" ∧ yX11_game.cls ≠ "java/lang/invoke/VarHandle" ∧ (parseMethodDescriptor yX11_game.desc).map (fun d => d.parameters.length) = some 3 := by decide +kernel
theorem wl_X11_game : Cond.selects RX11 yX11_game yX11_game ∈ am_big := bt_5 117 rfl rfl
theorem wo_X11_chosen : Cond.code yX11_chosen cX11_chosen 3 (some .int) ∈ am_big := bt_5 172 rfl rfl
theorem mh_X11_chosen : yX11_chosen.cls ≠ "java/lang/invoke/MethodHandle" ∧ yX11_chosen.cls ≠ "java/lang/invoke/VarHandle" ∧ (parseMethodDescriptor yX11_chosen.desc).map (fun d => d.parameters.length) = some 2 := by decide +kernel
theorem wl_X11_chosen : Cond.selects RX11 yX11_chosen yX11_chosen ∈ am_big := big_pr 45 (by decide +kernel) (by decide +kernel)
theorem wo_X11_worthOf : Cond.code yX11_worthOf cX11_worthOf 7 (some .int) ∈ am_big := bt_5 168 rfl rfl
theorem mh_X11_worthOf : yX11_worthOf.cls ≠ "java/lang/invoke/MethodHandle" ∧ yX11_worthOf.cls ≠ "java/lang/invoke/VarHandle" ∧ (parseMethodDescriptor yX11_worthOf.desc).map (fun d => d.parameters.length) = some 1 := by decide +kernel
theorem wl_X11_worthOf : Cond.selects RX11 yX11_worthOf yX11_worthOf ∈ am_big := big_pr 44 (by decide +kernel) (by decide +kernel)
theorem wo_X11_bestChoice : Cond.code yX11_bestChoice cX11_bestChoice 6 (some .int) ∈ am_big := bt_5 162 rfl rfl
theorem mh_X11_bestChoice : yX11_bestChoice.cls ≠ "java/lang/invoke/MethodHandle" ∧ yX11_bestChoice.cls ≠ "java/lang/invoke/VarHandle" ∧ (parseMethodDescriptor yX11_bestChoice.desc).map (fun d => d.parameters.length) = some 0 := by decide +kernel
theorem wl_X11_bestChoice : Cond.selects RX11 yX11_bestChoice yX11_bestChoice ∈ am_big := big_pr 43 (by decide +kernel) (by decide +kernel)
theorem wo_X11_priceThePiles : Cond.code yX11_priceThePiles cX11_priceThePiles 2 none ∈ am_big := bt_5 158 rfl rfl
theorem mh_X11_priceThePiles : yX11_priceThePiles.cls ≠ "java/lang/invoke/MethodHandle" ∧ yX11_priceThePiles.cls ≠ "java/lang/invoke/VarHandle" ∧ (parseMethodDescriptor yX11_priceThePiles.desc).map (fun d => d.parameters.length) = some 0 := by decide +kernel
theorem wl_X11_priceThePiles : Cond.selects RX11 yX11_priceThePiles yX11_priceThePiles ∈ am_big := big_pr 42 (by decide +kernel) (by decide +kernel)
theorem wo_X11_match : Cond.code yX11_match cX11_match 7 (some .int) ∈ am_big := bt_5 154 rfl rfl
theorem mh_X11_match : yX11_match.cls ≠ "java/lang/invoke/MethodHandle" ∧ yX11_match.cls ≠ "java/lang/invoke/VarHandle" ∧ (parseMethodDescriptor yX11_match.desc).map (fun d => d.parameters.length) = some 1 := by decide +kernel
theorem wl_X11_match : Cond.selects RX11 yX11_match yX11_match ∈ am_big := bt_5 153 rfl rfl
theorem wo_X11_commonDivisor : Cond.code yX11_commonDivisor cX11_commonDivisor 3 (some .int) ∈ am_big := bt_5 180 rfl rfl
theorem mh_X11_commonDivisor : yX11_commonDivisor.cls ≠ "java/lang/invoke/MethodHandle" ∧ yX11_commonDivisor.cls ≠ "java/lang/invoke/VarHandle" ∧ (parseMethodDescriptor yX11_commonDivisor.desc).map (fun d => d.parameters.length) = some 2 := by decide +kernel
theorem wo_X11_holds : Cond.code yX11_holds cX11_holds 10 (some .long) ∈ am_big := bt_5 176 rfl rfl
theorem mh_X11_holds : yX11_holds.cls ≠ "java/lang/invoke/MethodHandle" ∧ yX11_holds.cls ≠ "java/lang/invoke/VarHandle" ∧ (parseMethodDescriptor yX11_holds.desc).map (fun d => d.parameters.length) = some 2 := by decide +kernel
theorem wl_X11_holds : Cond.selects RX11 yX11_holds yX11_holds ∈ am_big := bt_5 175 rfl rfl
theorem wo_X11_see : Cond.code yX11_see cX11_see 5 (some .int) ∈ am_big := bt_5 185 rfl rfl
theorem mh_X11_see : yX11_see.cls ≠ "java/lang/invoke/MethodHandle" ∧ yX11_see.cls ≠ "java/lang/invoke/VarHandle" ∧ (parseMethodDescriptor yX11_see.desc).map (fun d => d.parameters.length) = some 4 := by decide +kernel
theorem wl_X11_see : Cond.selects RX11 yX11_see yX11_see ∈ am_big := bt_5 184 rfl rfl
theorem wo_X11_strike : Cond.code yX11_strike cX11_strike 2 (some .int) ∈ am_big := bt_5 193 rfl rfl
theorem mh_X11_strike : yX11_strike.cls ≠ "java/lang/invoke/MethodHandle" ∧ yX11_strike.cls ≠ "java/lang/invoke/VarHandle" ∧ (parseMethodDescriptor yX11_strike.desc).map (fun d => d.parameters.length) = some 1 := by decide +kernel
theorem wl_X11_strike : Cond.selects RX11 yX11_strike yX11_strike ∈ am_big := bt_5 192 rfl rfl
theorem wo_X11_known : Cond.code yX11_known cX11_known 2 (some .boolean) ∈ am_big := bt_5 201 rfl rfl
theorem mh_X11_known : yX11_known.cls ≠ "java/lang/invoke/MethodHandle" ∧ yX11_known.cls ≠ "java/lang/invoke/VarHandle" ∧ (parseMethodDescriptor yX11_known.desc).map (fun d => d.parameters.length) = some 1 := by decide +kernel
theorem wl_X11_known : Cond.selects RX11 yX11_known yX11_known ∈ am_big := bt_5 200 rfl rfl
theorem wo_X11_beginByDepth : Cond.code yX11_beginByDepth cX11_beginByDepth 3 none ∈ am_big := bt_5 232 rfl rfl
theorem mh_X11_beginByDepth : yX11_beginByDepth.cls ≠ "java/lang/invoke/MethodHandle" ∧ yX11_beginByDepth.cls ≠ "java/lang/invoke/VarHandle" ∧ (parseMethodDescriptor yX11_beginByDepth.desc).map (fun d => d.parameters.length) = some 2 := by decide +kernel
theorem wl_X11_beginByDepth : Cond.selects RX11 yX11_beginByDepth yX11_beginByDepth ∈ am_big := big_pr 47 (by decide +kernel) (by decide +kernel)
theorem wo_X11_depthsLeft : Cond.code yX11_depthsLeft cX11_depthsLeft 7 (some .int) ∈ am_big := bt_5 213 rfl rfl
theorem mh_X11_depthsLeft : yX11_depthsLeft.cls ≠ "java/lang/invoke/MethodHandle" ∧ yX11_depthsLeft.cls ≠ "java/lang/invoke/VarHandle" ∧ (parseMethodDescriptor yX11_depthsLeft.desc).map (fun d => d.parameters.length) = some 1 := by decide +kernel
theorem wl_X11_depthsLeft : Cond.selects RX11 yX11_depthsLeft yX11_depthsLeft ∈ am_big := big_pr 46 (by decide +kernel) (by decide +kernel)
theorem wo_X11_deep : Cond.code yX11_deep cX11_deep 2 (some .int) ∈ am_big := bt_5 209 rfl rfl
theorem mh_X11_deep : yX11_deep.cls ≠ "java/lang/invoke/MethodHandle" ∧ yX11_deep.cls ≠ "java/lang/invoke/VarHandle" ∧ (parseMethodDescriptor yX11_deep.desc).map (fun d => d.parameters.length) = some 1 := by decide +kernel
theorem wl_X11_deep : Cond.selects RX11 yX11_deep yX11_deep ∈ am_big := bt_5 208 rfl rfl
theorem wo_X11_mostAlike : Cond.code yX11_mostAlike cX11_mostAlike 7 (some .int) ∈ am_big := bt_6 17 rfl rfl
theorem mh_X11_mostAlike : yX11_mostAlike.cls ≠ "java/lang/invoke/MethodHandle" ∧ yX11_mostAlike.cls ≠ "java/lang/invoke/VarHandle" ∧ (parseMethodDescriptor yX11_mostAlike.desc).map (fun d => d.parameters.length) = some 2 := by decide +kernel
theorem wl_X11_mostAlike : Cond.selects RX11 yX11_mostAlike yX11_mostAlike ∈ am_big := big_pr 50 (by decide +kernel) (by decide +kernel)
theorem wo_X11_bestPlace : Cond.code yX11_bestPlace cX11_bestPlace 4 (some .int) ∈ am_big := bt_6 13 rfl rfl
theorem mh_X11_bestPlace : yX11_bestPlace.cls ≠ "java/lang/invoke/MethodHandle" ∧ yX11_bestPlace.cls ≠ "java/lang/invoke/VarHandle" ∧ (parseMethodDescriptor yX11_bestPlace.desc).map (fun d => d.parameters.length) = some 1 := by decide +kernel
theorem wl_X11_bestPlace : Cond.selects RX11 yX11_bestPlace yX11_bestPlace ∈ am_big := big_pr 49 (by decide +kernel) (by decide +kernel)
theorem wo_X11_noteAnswers : Cond.code yX11_noteAnswers cX11_noteAnswers 4 none ∈ am_big := bt_6 9 rfl rfl
theorem mh_X11_noteAnswers : yX11_noteAnswers.cls ≠ "java/lang/invoke/MethodHandle" ∧ yX11_noteAnswers.cls ≠ "java/lang/invoke/VarHandle" ∧ (parseMethodDescriptor yX11_noteAnswers.desc).map (fun d => d.parameters.length) = some 2 := by decide +kernel
theorem wl_X11_noteAnswers : Cond.selects RX11 yX11_noteAnswers yX11_noteAnswers ∈ am_big := big_pr 48 (by decide +kernel) (by decide +kernel)
theorem wo_X11_ask : Cond.code yX11_ask cX11_ask 7 (some .int) ∈ am_big := bt_6 5 rfl rfl
theorem mh_X11_ask : yX11_ask.cls ≠ "java/lang/invoke/MethodHandle" ∧ yX11_ask.cls ≠ "java/lang/invoke/VarHandle" ∧ (parseMethodDescriptor yX11_ask.desc).map (fun d => d.parameters.length) = some 3 := by decide +kernel
theorem wl_X11_ask : Cond.selects RX11 yX11_ask yX11_ask ∈ am_big := bt_6 4 rfl rfl
theorem wo_X11_chance : Cond.code yX11_chance cX11_chance 8 (some .int) ∈ am_big := bt_6 22 rfl rfl
theorem mh_X11_chance : yX11_chance.cls ≠ "java/lang/invoke/MethodHandle" ∧ yX11_chance.cls ≠ "java/lang/invoke/VarHandle" ∧ (parseMethodDescriptor yX11_chance.desc).map (fun d => d.parameters.length) = some 3 := by decide +kernel
theorem wl_X11_chance : Cond.selects RX11 yX11_chance yX11_chance ∈ am_big := bt_6 21 rfl rfl
theorem wo_X11_tried : Cond.code yX11_tried cX11_tried 5 (some .int) ∈ am_big := bt_6 26 rfl rfl
theorem mh_X11_tried : yX11_tried.cls ≠ "java/lang/invoke/MethodHandle" ∧ yX11_tried.cls ≠ "java/lang/invoke/VarHandle" ∧ (parseMethodDescriptor yX11_tried.desc).map (fun d => d.parameters.length) = some 3 := by decide +kernel
theorem wl_X11_tried : Cond.selects RX11 yX11_tried yX11_tried ∈ am_big := bt_6 25 rfl rfl
theorem wo_X11_undo : Cond.code yX11_undo cX11_undo 1 (some .int) ∈ am_big := bt_6 39 rfl rfl
theorem mh_X11_undo : yX11_undo.cls ≠ "java/lang/invoke/MethodHandle" ∧ yX11_undo.cls ≠ "java/lang/invoke/VarHandle" ∧ (parseMethodDescriptor yX11_undo.desc).map (fun d => d.parameters.length) = some 0 := by decide +kernel
theorem wl_X11_undo : Cond.selects RX11 yX11_undo yX11_undo ∈ am_big := bt_6 38 rfl rfl
theorem wo_X11_keep : Cond.code yX11_keep cX11_keep 1 (some .int) ∈ am_big := bt_6 72 rfl rfl
theorem mh_X11_keep : yX11_keep.cls ≠ "java/lang/invoke/MethodHandle" ∧ yX11_keep.cls ≠ "java/lang/invoke/VarHandle" ∧ (parseMethodDescriptor yX11_keep.desc).map (fun d => d.parameters.length) = some 0 := by decide +kernel
theorem wl_X11_keep : Cond.selects RX11 yX11_keep yX11_keep ∈ am_big := bt_6 71 rfl rfl
theorem wo_X11_back : Cond.code yX11_back cX11_back 1 (some .int) ∈ am_big := bt_6 76 rfl rfl
theorem mh_X11_back : yX11_back.cls ≠ "java/lang/invoke/MethodHandle" ∧ yX11_back.cls ≠ "java/lang/invoke/VarHandle" ∧ (parseMethodDescriptor yX11_back.desc).map (fun d => d.parameters.length) = some 0 := by decide +kernel
theorem wl_X11_back : Cond.selects RX11 yX11_back yX11_back ∈ am_big := bt_6 75 rfl rfl
theorem wo_X11_count : Cond.code yX11_count cX11_count 2 (some .int) ∈ am_big := bt_6 80 rfl rfl
theorem mh_X11_count : yX11_count.cls ≠ "java/lang/invoke/MethodHandle" ∧ yX11_count.cls ≠ "java/lang/invoke/VarHandle" ∧ (parseMethodDescriptor yX11_count.desc).map (fun d => d.parameters.length) = some 1 := by decide +kernel
theorem wl_X11_count : Cond.selects RX11 yX11_count yX11_count ∈ am_big := bt_6 79 rfl rfl
theorem wo_X12_atFirst : Cond.code yX12_atFirst cX12_atFirst 3 none ∈ am_big := bt_6 210 rfl rfl
theorem mh_X12_atFirst : yX12_atFirst.cls ≠ "java/lang/invoke/MethodHandle" ∧ yX12_atFirst.cls ≠ "java/lang/invoke/VarHandle" ∧ (parseMethodDescriptor yX12_atFirst.desc).map (fun d => d.parameters.length) = some 1 := by decide +kernel
theorem wl_X12_atFirst : Cond.selects RX12 yX12_atFirst yX12_atFirst ∈ am_big := big_pr 55 (by decide +kernel) (by decide +kernel)
theorem wo_X12_plainTried : Cond.code yX12_plainTried cX12_plainTried 1 none ∈ am_big := bt_6 214 rfl rfl
theorem mh_X12_plainTried : yX12_plainTried.cls ≠ "java/lang/invoke/MethodHandle" ∧ yX12_plainTried.cls ≠ "java/lang/invoke/VarHandle" ∧ (parseMethodDescriptor yX12_plainTried.desc).map (fun d => d.parameters.length) = some 0 := by decide +kernel
theorem wl_X12_plainTried : Cond.selects RX12 yX12_plainTried yX12_plainTried ∈ am_big := big_pr 56 (by decide +kernel) (by decide +kernel)
theorem wo_X12_begin : Cond.code yX12_begin cX12_begin 1 none ∈ am_big := bt_6 206 rfl rfl
theorem mh_X12_begin : yX12_begin.cls ≠ "java/lang/invoke/MethodHandle" ∧ yX12_begin.cls ≠ "java/lang/invoke/VarHandle" ∧ (parseMethodDescriptor yX12_begin.desc).map (fun d => d.parameters.length) = some 0 := by decide +kernel
theorem wl_X12_begin : Cond.selects RX12 yX12_begin yX12_begin ∈ am_big := big_pr 54 (by decide +kernel) (by decide +kernel)
theorem wo_X12_copies : Cond.code yX12_copies cX12_copies 3 none ∈ am_big := bt_6 202 rfl rfl
theorem mh_X12_copies : yX12_copies.cls ≠ "java/lang/invoke/MethodHandle" ∧ yX12_copies.cls ≠ "java/lang/invoke/VarHandle" ∧ (parseMethodDescriptor yX12_copies.desc).map (fun d => d.parameters.length) = some 2 := by decide +kernel
theorem wo_X12_keepText : Cond.code yX12_keepText cX12_keepText 2 none ∈ am_big := bt_6 199 rfl rfl
theorem mh_X12_keepText : yX12_keepText.cls ≠ "java/lang/invoke/MethodHandle" ∧ yX12_keepText.cls ≠ "java/lang/invoke/VarHandle" ∧ (parseMethodDescriptor yX12_keepText.desc).map (fun d => d.parameters.length) = some 0 := by decide +kernel
theorem wl_X12_keepText : Cond.selects RX12 yX12_keepText yX12_keepText ∈ am_big := big_pr 53 (by decide +kernel) (by decide +kernel)
theorem wo_X12_plain : Cond.code yX12_plain cX12_plain 2 none ∈ am_big := bt_6 195 rfl rfl
theorem mh_X12_plain : yX12_plain.cls ≠ "java/lang/invoke/MethodHandle" ∧ yX12_plain.cls ≠ "java/lang/invoke/VarHandle" ∧ (parseMethodDescriptor yX12_plain.desc).map (fun d => d.parameters.length) = some 0 := by decide +kernel
theorem wl_X12_plain : Cond.selects RX12 yX12_plain yX12_plain ∈ am_big := big_pr 52 (by decide +kernel) (by decide +kernel)
theorem wo_X12_init : Cond.code yX12_init cX12_init 1 none ∈ am_big := bt_6 190 rfl rfl
theorem mh_X12_init : yX12_init.cls ≠ "java/lang/invoke/MethodHandle" ∧ yX12_init.cls ≠ "java/lang/invoke/VarHandle" ∧ (parseMethodDescriptor yX12_init.desc).map (fun d => d.parameters.length) = some 0 := by decide +kernel
theorem wo_X12_thrown : Cond.code yX12_thrown cX12_thrown 1 (some .int) ∈ am_big := bt_8 18 rfl rfl
theorem mh_X12_thrown : yX12_thrown.cls ≠ "java/lang/invoke/MethodHandle" ∧ yX12_thrown.cls ≠ "java/lang/invoke/VarHandle" ∧ (parseMethodDescriptor yX12_thrown.desc).map (fun d => d.parameters.length) = some 0 := by decide +kernel
theorem wl_X12_thrown : Cond.selects RX12 yX12_thrown yX12_thrown ∈ am_big := bt_8 17 rfl rfl
theorem wo_X12_feed : Cond.code yX12_feed cX12_feed 8 (some .int) ∈ am_big := bt_8 22 rfl rfl
theorem mh_X12_feed : yX12_feed.cls ≠ "java/lang/invoke/MethodHandle" ∧ yX12_feed.cls ≠ "java/lang/invoke/VarHandle" ∧ (parseMethodDescriptor yX12_feed.desc).map (fun d => d.parameters.length) = some 5 := by decide +kernel
theorem wl_X12_feed : Cond.selects RX12 yX12_feed yX12_feed ∈ am_big := bt_8 21 rfl rfl
theorem wo_X12_isIn : Cond.code yX12_isIn cX12_isIn 3 (some .boolean) ∈ am_big := bt_8 77 rfl rfl
theorem mh_X12_isIn : yX12_isIn.cls ≠ "java/lang/invoke/MethodHandle" ∧ yX12_isIn.cls ≠ "java/lang/invoke/VarHandle" ∧ (parseMethodDescriptor yX12_isIn.desc).map (fun d => d.parameters.length) = some 3 := by decide +kernel
theorem wo_X12_isOf : Cond.code yX12_isOf cX12_isOf 2 (some .boolean) ∈ am_big := bt_9 161 rfl rfl
theorem mh_X12_isOf : yX12_isOf.cls ≠ "java/lang/invoke/MethodHandle" ∧ yX12_isOf.cls ≠ "java/lang/invoke/VarHandle" ∧ (parseMethodDescriptor yX12_isOf.desc).map (fun d => d.parameters.length) = some 2 := by decide +kernel
theorem wo_X12_wrong : Cond.code yX12_wrong cX12_wrong 2 (some .boolean) ∈ am_big := bt_8 59 rfl rfl
theorem mh_X12_wrong : yX12_wrong.cls ≠ "java/lang/invoke/MethodHandle" ∧ yX12_wrong.cls ≠ "java/lang/invoke/VarHandle" ∧ (parseMethodDescriptor yX12_wrong.desc).map (fun d => d.parameters.length) = some 1 := by decide +kernel
theorem wl_X12_wrong : Cond.selects RX12 yX12_wrong yX12_wrong ∈ am_big := big_pr 64 (by decide +kernel) (by decide +kernel)
theorem wo_X12_wordAt : Cond.code yX12_wordAt cX12_wordAt 8 (some .int) ∈ am_big := bt_8 38 rfl rfl
theorem mh_X12_wordAt : yX12_wordAt.cls ≠ "java/lang/invoke/MethodHandle" ∧ yX12_wordAt.cls ≠ "java/lang/invoke/VarHandle" ∧ (parseMethodDescriptor yX12_wordAt.desc).map (fun d => d.parameters.length) = some 2 := by decide +kernel
theorem wl_X12_wordAt : Cond.selects RX12 yX12_wordAt yX12_wordAt ∈ am_big := big_pr 59 (by decide +kernel) (by decide +kernel)
theorem wo_X12_isSmall : Cond.code yX12_isSmall cX12_isSmall 2 (some .boolean) ∈ am_big := bt_8 34 rfl rfl
theorem mh_X12_isSmall : yX12_isSmall.cls ≠ "java/lang/invoke/MethodHandle" ∧ yX12_isSmall.cls ≠ "java/lang/invoke/VarHandle" ∧ (parseMethodDescriptor yX12_isSmall.desc).map (fun d => d.parameters.length) = some 1 := by decide +kernel
theorem wl_X12_isSmall : Cond.selects RX12 yX12_isSmall yX12_isSmall ∈ am_big := big_pr 58 (by decide +kernel) (by decide +kernel)
theorem wo_X12_isDigit : Cond.code yX12_isDigit cX12_isDigit 2 (some .boolean) ∈ am_big := bt_8 46 rfl rfl
theorem mh_X12_isDigit : yX12_isDigit.cls ≠ "java/lang/invoke/MethodHandle" ∧ yX12_isDigit.cls ≠ "java/lang/invoke/VarHandle" ∧ (parseMethodDescriptor yX12_isDigit.desc).map (fun d => d.parameters.length) = some 1 := by decide +kernel
theorem wl_X12_isDigit : Cond.selects RX12 yX12_isDigit yX12_isDigit ∈ am_big := big_pr 61 (by decide +kernel) (by decide +kernel)
theorem wo_X12_packed : Cond.code yX12_packed cX12_packed 5 (some .int) ∈ am_big := bt_8 42 rfl rfl
theorem mh_X12_packed : yX12_packed.cls ≠ "java/lang/invoke/MethodHandle" ∧ yX12_packed.cls ≠ "java/lang/invoke/VarHandle" ∧ (parseMethodDescriptor yX12_packed.desc).map (fun d => d.parameters.length) = some 2 := by decide +kernel
theorem wl_X12_packed : Cond.selects RX12 yX12_packed yX12_packed ∈ am_big := big_pr 60 (by decide +kernel) (by decide +kernel)
theorem wo_X12_signToken : Cond.code yX12_signToken cX12_signToken 4 none ∈ am_big := bt_8 51 rfl rfl
theorem mh_X12_signToken : yX12_signToken.cls ≠ "java/lang/invoke/MethodHandle" ∧ yX12_signToken.cls ≠ "java/lang/invoke/VarHandle" ∧ (parseMethodDescriptor yX12_signToken.desc).map (fun d => d.parameters.length) = some 0 := by decide +kernel
theorem wl_X12_signToken : Cond.selects RX12 yX12_signToken yX12_signToken ∈ am_big := big_pr 62 (by decide +kernel) (by decide +kernel)
theorem wo_X12_token : Cond.code yX12_token cX12_token 1 none ∈ am_big := bt_8 30 rfl rfl
theorem mh_X12_token : yX12_token.cls ≠ "java/lang/invoke/MethodHandle" ∧ yX12_token.cls ≠ "java/lang/invoke/VarHandle" ∧ (parseMethodDescriptor yX12_token.desc).map (fun d => d.parameters.length) = some 0 := by decide +kernel
theorem wl_X12_token : Cond.selects RX12 yX12_token yX12_token ∈ am_big := big_pr 57 (by decide +kernel) (by decide +kernel)
theorem wo_X12_isKey : Cond.code yX12_isKey cX12_isKey 2 (some .boolean) ∈ am_big := bt_8 117 rfl rfl
theorem mh_X12_isKey : yX12_isKey.cls ≠ "java/lang/invoke/MethodHandle" ∧ yX12_isKey.cls ≠ "java/lang/invoke/VarHandle" ∧ (parseMethodDescriptor yX12_isKey.desc).map (fun d => d.parameters.length) = some 1 := by decide +kernel
theorem wl_X12_isKey : Cond.selects RX12 yX12_isKey yX12_isKey ∈ am_big := big_pr 77 (by decide +kernel) (by decide +kernel)
theorem wo_X12_isSign : Cond.code yX12_isSign cX12_isSign 2 (some .boolean) ∈ am_big := bt_8 105 rfl rfl
theorem mh_X12_isSign : yX12_isSign.cls ≠ "java/lang/invoke/MethodHandle" ∧ yX12_isSign.cls ≠ "java/lang/invoke/VarHandle" ∧ (parseMethodDescriptor yX12_isSign.desc).map (fun d => d.parameters.length) = some 1 := by decide +kernel
theorem wl_X12_isSign : Cond.selects RX12 yX12_isSign yX12_isSign ∈ am_big := big_pr 74 (by decide +kernel) (by decide +kernel)
theorem wo_X12_number : Cond.code yX12_number cX12_number 3 (some .boolean) ∈ am_big := bt_8 74 rfl rfl
theorem mh_X12_number : yX12_number.cls ≠ "java/lang/invoke/MethodHandle" ∧ yX12_number.cls ≠ "java/lang/invoke/VarHandle" ∧ (parseMethodDescriptor yX12_number.desc).map (fun d => d.parameters.length) = some 2 := by decide +kernel
theorem wl_X12_number : Cond.selects RX12 yX12_number yX12_number ∈ am_big := big_pr 67 (by decide +kernel) (by decide +kernel)
theorem wo_X12_find : Cond.code yX12_find cX12_find 5 (some .int) ∈ am_big := bt_8 70 rfl rfl
theorem mh_X12_find : yX12_find.cls ≠ "java/lang/invoke/MethodHandle" ∧ yX12_find.cls ≠ "java/lang/invoke/VarHandle" ∧ (parseMethodDescriptor yX12_find.desc).map (fun d => d.parameters.length) = some 4 := by decide +kernel
theorem wo_X12_newName : Cond.code yX12_newName cX12_newName 4 (some .boolean) ∈ am_big := bt_8 67 rfl rfl
theorem mh_X12_newName : yX12_newName.cls ≠ "java/lang/invoke/MethodHandle" ∧ yX12_newName.cls ≠ "java/lang/invoke/VarHandle" ∧ (parseMethodDescriptor yX12_newName.desc).map (fun d => d.parameters.length) = some 3 := by decide +kernel
theorem wl_X12_newName : Cond.selects RX12 yX12_newName yX12_newName ∈ am_big := big_pr 66 (by decide +kernel) (by decide +kernel)
theorem wo_X12_thereIn : Cond.code yX12_thereIn cX12_thereIn 5 (some .boolean) ∈ am_big := bt_8 89 rfl rfl
theorem mh_X12_thereIn : yX12_thereIn.cls ≠ "java/lang/invoke/MethodHandle" ∧ yX12_thereIn.cls ≠ "java/lang/invoke/VarHandle" ∧ (parseMethodDescriptor yX12_thereIn.desc).map (fun d => d.parameters.length) = some 3 := by decide +kernel
theorem wl_X12_thereIn : Cond.selects RX12 yX12_thereIn yX12_thereIn ∈ am_big := big_pr 70 (by decide +kernel) (by decide +kernel)
theorem wo_X12_maidLine : Cond.code yX12_maidLine cX12_maidLine 1 (some .boolean) ∈ am_big := bt_8 63 rfl rfl
theorem mh_X12_maidLine : yX12_maidLine.cls ≠ "java/lang/invoke/MethodHandle" ∧ yX12_maidLine.cls ≠ "java/lang/invoke/VarHandle" ∧ (parseMethodDescriptor yX12_maidLine.desc).map (fun d => d.parameters.length) = some 0 := by decide +kernel
theorem wl_X12_maidLine : Cond.selects RX12 yX12_maidLine yX12_maidLine ∈ am_big := big_pr 65 (by decide +kernel) (by decide +kernel)
theorem wo_X12_pileLine : Cond.code yX12_pileLine cX12_pileLine 1 (some .boolean) ∈ am_big := bt_8 81 rfl rfl
theorem mh_X12_pileLine : yX12_pileLine.cls ≠ "java/lang/invoke/MethodHandle" ∧ yX12_pileLine.cls ≠ "java/lang/invoke/VarHandle" ∧ (parseMethodDescriptor yX12_pileLine.desc).map (fun d => d.parameters.length) = some 0 := by decide +kernel
theorem wl_X12_pileLine : Cond.selects RX12 yX12_pileLine yX12_pileLine ∈ am_big := big_pr 68 (by decide +kernel) (by decide +kernel)
theorem wo_X12_plateLine : Cond.code yX12_plateLine cX12_plateLine 5 (some .boolean) ∈ am_big := bt_8 85 rfl rfl
theorem mh_X12_plateLine : yX12_plateLine.cls ≠ "java/lang/invoke/MethodHandle" ∧ yX12_plateLine.cls ≠ "java/lang/invoke/VarHandle" ∧ (parseMethodDescriptor yX12_plateLine.desc).map (fun d => d.parameters.length) = some 0 := by decide +kernel
theorem wl_X12_plateLine : Cond.selects RX12 yX12_plateLine yX12_plateLine ∈ am_big := big_pr 69 (by decide +kernel) (by decide +kernel)
theorem wo_X12_turnLine : Cond.code yX12_turnLine cX12_turnLine 2 (some .boolean) ∈ am_big := bt_8 93 rfl rfl
theorem mh_X12_turnLine : yX12_turnLine.cls ≠ "java/lang/invoke/MethodHandle" ∧ yX12_turnLine.cls ≠ "java/lang/invoke/VarHandle" ∧ (parseMethodDescriptor yX12_turnLine.desc).map (fun d => d.parameters.length) = some 0 := by decide +kernel
theorem wl_X12_turnLine : Cond.selects RX12 yX12_turnLine yX12_turnLine ∈ am_big := big_pr 71 (by decide +kernel) (by decide +kernel)
theorem wo_X12_onceLine : Cond.code yX12_onceLine cX12_onceLine 3 (some .boolean) ∈ am_big := bt_8 97 rfl rfl
theorem mh_X12_onceLine : yX12_onceLine.cls ≠ "java/lang/invoke/MethodHandle" ∧ yX12_onceLine.cls ≠ "java/lang/invoke/VarHandle" ∧ (parseMethodDescriptor yX12_onceLine.desc).map (fun d => d.parameters.length) = some 2 := by decide +kernel
theorem wl_X12_onceLine : Cond.selects RX12 yX12_onceLine yX12_onceLine ∈ am_big := big_pr 72 (by decide +kernel) (by decide +kernel)
theorem wo_X12_dropHeld : Cond.code yX12_dropHeld cX12_dropHeld 1 (some .int) ∈ am_big := bt_8 144 rfl rfl
theorem mh_X12_dropHeld : yX12_dropHeld.cls ≠ "java/lang/invoke/MethodHandle" ∧ yX12_dropHeld.cls ≠ "java/lang/invoke/VarHandle" ∧ (parseMethodDescriptor yX12_dropHeld.desc).map (fun d => d.parameters.length) = some 0 := by decide +kernel
theorem wl_X12_dropHeld : Cond.selects RX12 yX12_dropHeld yX12_dropHeld ∈ am_big := big_pr 83 (by decide +kernel) (by decide +kernel)
theorem wo_X12_grown : Cond.code yX12_grown cX12_grown 4 none ∈ am_big := bt_8 129 rfl rfl
theorem mh_X12_grown : yX12_grown.cls ≠ "java/lang/invoke/MethodHandle" ∧ yX12_grown.cls ≠ "java/lang/invoke/VarHandle" ∧ (parseMethodDescriptor yX12_grown.desc).map (fun d => d.parameters.length) = some 3 := by decide +kernel
theorem wl_X12_grown : Cond.selects RX12 yX12_grown yX12_grown ∈ am_big := big_pr 80 (by decide +kernel) (by decide +kernel)
theorem wo_X12_standing : Cond.code yX12_standing cX12_standing 1 (some .int) ∈ am_big := bt_8 140 rfl rfl
theorem mh_X12_standing : yX12_standing.cls ≠ "java/lang/invoke/MethodHandle" ∧ yX12_standing.cls ≠ "java/lang/invoke/VarHandle" ∧ (parseMethodDescriptor yX12_standing.desc).map (fun d => d.parameters.length) = some 1 := by decide +kernel
theorem wo_X12_bind : Cond.code yX12_bind cX12_bind 5 none ∈ am_big := bt_8 137 rfl rfl
theorem mh_X12_bind : yX12_bind.cls ≠ "java/lang/invoke/MethodHandle" ∧ yX12_bind.cls ≠ "java/lang/invoke/VarHandle" ∧ (parseMethodDescriptor yX12_bind.desc).map (fun d => d.parameters.length) = some 1 := by decide +kernel
theorem wl_X12_bind : Cond.selects RX12 yX12_bind yX12_bind ∈ am_big := big_pr 82 (by decide +kernel) (by decide +kernel)
theorem wo_X12_isCounted : Cond.code yX12_isCounted cX12_isCounted 1 (some .boolean) ∈ am_big := bt_8 121 rfl rfl
theorem mh_X12_isCounted : yX12_isCounted.cls ≠ "java/lang/invoke/MethodHandle" ∧ yX12_isCounted.cls ≠ "java/lang/invoke/VarHandle" ∧ (parseMethodDescriptor yX12_isCounted.desc).map (fun d => d.parameters.length) = some 0 := by decide +kernel
theorem wl_X12_isCounted : Cond.selects RX12 yX12_isCounted yX12_isCounted ∈ am_big := big_pr 78 (by decide +kernel) (by decide +kernel)
theorem wo_X12_nameMet : Cond.code yX12_nameMet cX12_nameMet 1 (some .int) ∈ am_big := bt_8 125 rfl rfl
theorem mh_X12_nameMet : yX12_nameMet.cls ≠ "java/lang/invoke/MethodHandle" ∧ yX12_nameMet.cls ≠ "java/lang/invoke/VarHandle" ∧ (parseMethodDescriptor yX12_nameMet.desc).map (fun d => d.parameters.length) = some 0 := by decide +kernel
theorem wl_X12_nameMet : Cond.selects RX12 yX12_nameMet yX12_nameMet ∈ am_big := big_pr 79 (by decide +kernel) (by decide +kernel)
theorem wo_X12_waitsFor : Cond.code yX12_waitsFor cX12_waitsFor 2 none ∈ am_big := bt_8 113 rfl rfl
theorem mh_X12_waitsFor : yX12_waitsFor.cls ≠ "java/lang/invoke/MethodHandle" ∧ yX12_waitsFor.cls ≠ "java/lang/invoke/VarHandle" ∧ (parseMethodDescriptor yX12_waitsFor.desc).map (fun d => d.parameters.length) = some 1 := by decide +kernel
theorem wl_X12_waitsFor : Cond.selects RX12 yX12_waitsFor yX12_waitsFor ∈ am_big := big_pr 76 (by decide +kernel) (by decide +kernel)
theorem wo_X12_leafRead : Cond.code yX12_leafRead cX12_leafRead 2 (some .boolean) ∈ am_big := bt_8 109 rfl rfl
theorem mh_X12_leafRead : yX12_leafRead.cls ≠ "java/lang/invoke/MethodHandle" ∧ yX12_leafRead.cls ≠ "java/lang/invoke/VarHandle" ∧ (parseMethodDescriptor yX12_leafRead.desc).map (fun d => d.parameters.length) = some 0 := by decide +kernel
theorem wl_X12_leafRead : Cond.selects RX12 yX12_leafRead yX12_leafRead ∈ am_big := big_pr 75 (by decide +kernel) (by decide +kernel)
theorem wo_X12_signs : Cond.code yX12_signs cX12_signs 2 (some .boolean) ∈ am_big := bt_8 133 rfl rfl
theorem mh_X12_signs : yX12_signs.cls ≠ "java/lang/invoke/MethodHandle" ∧ yX12_signs.cls ≠ "java/lang/invoke/VarHandle" ∧ (parseMethodDescriptor yX12_signs.desc).map (fun d => d.parameters.length) = some 0 := by decide +kernel
theorem wl_X12_signs : Cond.selects RX12 yX12_signs yX12_signs ∈ am_big := big_pr 81 (by decide +kernel) (by decide +kernel)
theorem wo_X12_sumRead : Cond.code yX12_sumRead cX12_sumRead 1 (some .boolean) ∈ am_big := bt_8 101 rfl rfl
theorem mh_X12_sumRead : yX12_sumRead.cls ≠ "java/lang/invoke/MethodHandle" ∧ yX12_sumRead.cls ≠ "java/lang/invoke/VarHandle" ∧ (parseMethodDescriptor yX12_sumRead.desc).map (fun d => d.parameters.length) = some 0 := by decide +kernel
theorem wl_X12_sumRead : Cond.selects RX12 yX12_sumRead yX12_sumRead ∈ am_big := big_pr 73 (by decide +kernel) (by decide +kernel)
theorem wo_X12_lineRead : Cond.code yX12_lineRead cX12_lineRead 3 (some .boolean) ∈ am_big := bt_8 55 rfl rfl
theorem mh_X12_lineRead : yX12_lineRead.cls ≠ "java/lang/invoke/MethodHandle" ∧ yX12_lineRead.cls ≠ "java/lang/invoke/VarHandle" ∧ (parseMethodDescriptor yX12_lineRead.desc).map (fun d => d.parameters.length) = some 0 := by decide +kernel
theorem wl_X12_lineRead : Cond.selects RX12 yX12_lineRead yX12_lineRead ∈ am_big := big_pr 63 (by decide +kernel) (by decide +kernel)
theorem wo_X12_text : Cond.code yX12_text cX12_text 3 (some .int) ∈ am_big := bt_8 26 rfl rfl
theorem mh_X12_text : yX12_text.cls ≠ "java/lang/invoke/MethodHandle" ∧ yX12_text.cls ≠ "java/lang/invoke/VarHandle" ∧ (parseMethodDescriptor yX12_text.desc).map (fun d => d.parameters.length) = some 1 := by decide +kernel
theorem wl_X12_text : Cond.selects RX12 yX12_text yX12_text ∈ am_big := bt_8 25 rfl rfl
theorem wo_X12_fault : Cond.code yX12_fault cX12_fault 2 (some .int) ∈ am_big := bt_8 148 rfl rfl
theorem mh_X12_fault : yX12_fault.cls ≠ "java/lang/invoke/MethodHandle" ∧ yX12_fault.cls ≠ "java/lang/invoke/VarHandle" ∧ (parseMethodDescriptor yX12_fault.desc).map (fun d => d.parameters.length) = some 1 := by decide +kernel
theorem wl_X12_fault : Cond.selects RX12 yX12_fault yX12_fault ∈ am_big := bt_8 147 rfl rfl
theorem wo_X12_named : Cond.code yX12_named cX12_named 3 (some .int) ∈ am_big := bt_8 152 rfl rfl
theorem mh_X12_named : yX12_named.cls ≠ "java/lang/invoke/MethodHandle" ∧ yX12_named.cls ≠ "java/lang/invoke/VarHandle" ∧ (parseMethodDescriptor yX12_named.desc).map (fun d => d.parameters.length) = some 2 := by decide +kernel
theorem wl_X12_named : Cond.selects RX12 yX12_named yX12_named ∈ am_big := bt_8 151 rfl rfl
theorem wo_X12_bounded : Cond.code yX12_bounded cX12_bounded 3 (some .long) ∈ am_big := bt_8 229 rfl rfl
theorem mh_X12_bounded : yX12_bounded.cls ≠ "java/lang/invoke/MethodHandle" ∧ yX12_bounded.cls ≠ "java/lang/invoke/VarHandle" ∧ (parseMethodDescriptor yX12_bounded.desc).map (fun d => d.parameters.length) = some 1 := by decide +kernel
theorem wl_X12_bounded : Cond.selects RX12 yX12_bounded yX12_bounded ∈ am_big := big_pr 98 (by decide +kernel) (by decide +kernel)
theorem wo_X12_compares : Cond.code yX12_compares cX12_compares 5 (some .boolean) ∈ am_big := bt_8 238 rfl rfl
theorem mh_X12_compares : yX12_compares.cls ≠ "java/lang/invoke/MethodHandle" ∧ yX12_compares.cls ≠ "java/lang/invoke/VarHandle" ∧ (parseMethodDescriptor yX12_compares.desc).map (fun d => d.parameters.length) = some 3 := by decide +kernel
theorem wo_X12_times : Cond.code yX12_times cX12_times 6 (some .long) ∈ am_big := bt_8 235 rfl rfl
theorem mh_X12_times : yX12_times.cls ≠ "java/lang/invoke/MethodHandle" ∧ yX12_times.cls ≠ "java/lang/invoke/VarHandle" ∧ (parseMethodDescriptor yX12_times.desc).map (fun d => d.parameters.length) = some 2 := by decide +kernel
theorem wl_X12_times : Cond.selects RX12 yX12_times yX12_times ∈ am_big := big_pr 99 (by decide +kernel) (by decide +kernel)
theorem wo_X12_valueOf : Cond.code yX12_valueOf cX12_valueOf 6 (some .long) ∈ am_big := bt_8 225 rfl rfl
theorem mh_X12_valueOf : yX12_valueOf.cls ≠ "java/lang/invoke/MethodHandle" ∧ yX12_valueOf.cls ≠ "java/lang/invoke/VarHandle" ∧ (parseMethodDescriptor yX12_valueOf.desc).map (fun d => d.parameters.length) = some 1 := by decide +kernel
theorem wl_X12_valueOf : Cond.selects RX12 yX12_valueOf yX12_valueOf ∈ am_big := big_pr 97 (by decide +kernel) (by decide +kernel)
theorem wo_X12_layTried : Cond.code yX12_layTried cX12_layTried 2 none ∈ am_big := bt_9 58 rfl rfl
theorem mh_X12_layTried : yX12_layTried.cls ≠ "java/lang/invoke/MethodHandle" ∧ yX12_layTried.cls ≠ "java/lang/invoke/VarHandle" ∧ (parseMethodDescriptor yX12_layTried.desc).map (fun d => d.parameters.length) = some 0 := by decide +kernel
theorem wl_X12_layTried : Cond.selects RX12 yX12_layTried yX12_layTried ∈ am_big := big_pr 108 (by decide +kernel) (by decide +kernel)
theorem wo_X12_isMaid : Cond.code yX12_isMaid cX12_isMaid 2 (some .boolean) ∈ am_big := bt_8 208 rfl rfl
theorem mh_X12_isMaid : yX12_isMaid.cls ≠ "java/lang/invoke/MethodHandle" ∧ yX12_isMaid.cls ≠ "java/lang/invoke/VarHandle" ∧ (parseMethodDescriptor yX12_isMaid.desc).map (fun d => d.parameters.length) = some 1 := by decide +kernel
theorem wl_X12_isMaid : Cond.selects RX12 yX12_isMaid yX12_isMaid ∈ am_big := big_pr 94 (by decide +kernel) (by decide +kernel)
theorem wo_X12_isPile : Cond.code yX12_isPile cX12_isPile 2 (some .boolean) ∈ am_big := bt_8 160 rfl rfl
theorem mh_X12_isPile : yX12_isPile.cls ≠ "java/lang/invoke/MethodHandle" ∧ yX12_isPile.cls ≠ "java/lang/invoke/VarHandle" ∧ (parseMethodDescriptor yX12_isPile.desc).map (fun d => d.parameters.length) = some 1 := by decide +kernel
theorem wl_X12_isPile : Cond.selects RX12 yX12_isPile yX12_isPile ∈ am_big := big_pr 84 (by decide +kernel) (by decide +kernel)
theorem wo_X12_isTurn : Cond.code yX12_isTurn cX12_isTurn 2 (some .boolean) ∈ am_big := bt_9 191 rfl rfl
theorem mh_X12_isTurn : yX12_isTurn.cls ≠ "java/lang/invoke/MethodHandle" ∧ yX12_isTurn.cls ≠ "java/lang/invoke/VarHandle" ∧ (parseMethodDescriptor yX12_isTurn.desc).map (fun d => d.parameters.length) = some 1 := by decide +kernel
theorem wl_X12_isTurn : Cond.selects RX12 yX12_isTurn yX12_isTurn ∈ am_big := big_pr 124 (by decide +kernel) (by decide +kernel)
theorem wo_X12_highOf : Cond.code yX12_highOf cX12_highOf 3 (some .int) ∈ am_big := bt_8 172 rfl rfl
theorem mh_X12_highOf : yX12_highOf.cls ≠ "java/lang/invoke/MethodHandle" ∧ yX12_highOf.cls ≠ "java/lang/invoke/VarHandle" ∧ (parseMethodDescriptor yX12_highOf.desc).map (fun d => d.parameters.length) = some 2 := by decide +kernel
theorem wl_X12_highOf : Cond.selects RX12 yX12_highOf yX12_highOf ∈ am_big := big_pr 87 (by decide +kernel) (by decide +kernel)
theorem wo_X12_plateAt : Cond.code yX12_plateAt cX12_plateAt 4 (some .int) ∈ am_big := bt_8 180 rfl rfl
theorem mh_X12_plateAt : yX12_plateAt.cls ≠ "java/lang/invoke/MethodHandle" ∧ yX12_plateAt.cls ≠ "java/lang/invoke/VarHandle" ∧ (parseMethodDescriptor yX12_plateAt.desc).map (fun d => d.parameters.length) = some 3 := by decide +kernel
theorem wl_X12_plateAt : Cond.selects RX12 yX12_plateAt yX12_plateAt ∈ am_big := big_pr 89 (by decide +kernel) (by decide +kernel)
theorem wo_X12_sizeAt : Cond.code yX12_sizeAt cX12_sizeAt 5 (some .int) ∈ am_big := bt_8 176 rfl rfl
theorem mh_X12_sizeAt : yX12_sizeAt.cls ≠ "java/lang/invoke/MethodHandle" ∧ yX12_sizeAt.cls ≠ "java/lang/invoke/VarHandle" ∧ (parseMethodDescriptor yX12_sizeAt.desc).map (fun d => d.parameters.length) = some 3 := by decide +kernel
theorem wl_X12_sizeAt : Cond.selects RX12 yX12_sizeAt yX12_sizeAt ∈ am_big := big_pr 88 (by decide +kernel) (by decide +kernel)
theorem wo_X12_faceAt : Cond.code yX12_faceAt cX12_faceAt 4 (some .int) ∈ am_big := bt_8 188 rfl rfl
theorem mh_X12_faceAt : yX12_faceAt.cls ≠ "java/lang/invoke/MethodHandle" ∧ yX12_faceAt.cls ≠ "java/lang/invoke/VarHandle" ∧ (parseMethodDescriptor yX12_faceAt.desc).map (fun d => d.parameters.length) = some 3 := by decide +kernel
theorem wl_X12_faceAt : Cond.selects RX12 yX12_faceAt yX12_faceAt ∈ am_big := big_pr 91 (by decide +kernel) (by decide +kernel)
theorem wo_X12_isRight : Cond.code yX12_isRight cX12_isRight 4 (some .boolean) ∈ am_big := bt_8 168 rfl rfl
theorem mh_X12_isRight : yX12_isRight.cls ≠ "java/lang/invoke/MethodHandle" ∧ yX12_isRight.cls ≠ "java/lang/invoke/VarHandle" ∧ (parseMethodDescriptor yX12_isRight.desc).map (fun d => d.parameters.length) = some 2 := by decide +kernel
theorem wl_X12_isRight : Cond.selects RX12 yX12_isRight yX12_isRight ∈ am_big := big_pr 86 (by decide +kernel) (by decide +kernel)
theorem wo_X12_isProper : Cond.code yX12_isProper cX12_isProper 4 (some .boolean) ∈ am_big := bt_8 184 rfl rfl
theorem mh_X12_isProper : yX12_isProper.cls ≠ "java/lang/invoke/MethodHandle" ∧ yX12_isProper.cls ≠ "java/lang/invoke/VarHandle" ∧ (parseMethodDescriptor yX12_isProper.desc).map (fun d => d.parameters.length) = some 2 := by decide +kernel
theorem wl_X12_isProper : Cond.selects RX12 yX12_isProper yX12_isProper ∈ am_big := big_pr 90 (by decide +kernel) (by decide +kernel)
theorem wo_X12_greaterAt : Cond.code yX12_greaterAt cX12_greaterAt 7 (some .int) ∈ am_big := bt_8 196 rfl rfl
theorem mh_X12_greaterAt : yX12_greaterAt.cls ≠ "java/lang/invoke/MethodHandle" ∧ yX12_greaterAt.cls ≠ "java/lang/invoke/VarHandle" ∧ (parseMethodDescriptor yX12_greaterAt.desc).map (fun d => d.parameters.length) = some 3 := by decide +kernel
theorem wl_X12_greaterAt : Cond.selects RX12 yX12_greaterAt yX12_greaterAt ∈ am_big := big_pr 93 (by decide +kernel) (by decide +kernel)
theorem wo_X12_gapsOf : Cond.code yX12_gapsOf cX12_gapsOf 7 (some .int) ∈ am_big := bt_8 192 rfl rfl
theorem mh_X12_gapsOf : yX12_gapsOf.cls ≠ "java/lang/invoke/MethodHandle" ∧ yX12_gapsOf.cls ≠ "java/lang/invoke/VarHandle" ∧ (parseMethodDescriptor yX12_gapsOf.desc).map (fun d => d.parameters.length) = some 2 := by decide +kernel
theorem wl_X12_gapsOf : Cond.selects RX12 yX12_gapsOf yX12_gapsOf ∈ am_big := big_pr 92 (by decide +kernel) (by decide +kernel)
theorem wo_X12_turnsBy : Cond.code yX12_turnsBy cX12_turnsBy 7 none ∈ am_big := bt_9 14 rfl rfl
theorem mh_X12_turnsBy : yX12_turnsBy.cls ≠ "java/lang/invoke/MethodHandle" ∧ yX12_turnsBy.cls ≠ "java/lang/invoke/VarHandle" ∧ (parseMethodDescriptor yX12_turnsBy.desc).map (fun d => d.parameters.length) = some 3 := by decide +kernel
theorem wl_X12_turnsBy : Cond.selects RX12 yX12_turnsBy yX12_turnsBy ∈ am_big := big_pr 102 (by decide +kernel) (by decide +kernel)
theorem wo_X12_lay : Cond.code yX12_lay cX12_lay 5 none ∈ am_big := bt_8 217 rfl rfl
theorem mh_X12_lay : yX12_lay.cls ≠ "java/lang/invoke/MethodHandle" ∧ yX12_lay.cls ≠ "java/lang/invoke/VarHandle" ∧ (parseMethodDescriptor yX12_lay.desc).map (fun d => d.parameters.length) = some 4 := by decide +kernel
theorem wl_X12_lay : Cond.selects RX12 yX12_lay yX12_lay ∈ am_big := big_pr 95 (by decide +kernel) (by decide +kernel)
theorem wo_X12_lawOf : Cond.code yX12_lawOf cX12_lawOf 3 (some .long) ∈ am_big := bt_8 221 rfl rfl
theorem mh_X12_lawOf : yX12_lawOf.cls ≠ "java/lang/invoke/MethodHandle" ∧ yX12_lawOf.cls ≠ "java/lang/invoke/VarHandle" ∧ (parseMethodDescriptor yX12_lawOf.desc).map (fun d => d.parameters.length) = some 1 := by decide +kernel
theorem wl_X12_lawOf : Cond.selects RX12 yX12_lawOf yX12_lawOf ∈ am_big := big_pr 96 (by decide +kernel) (by decide +kernel)
theorem wo_X12_boundLaw : Cond.code yX12_boundLaw cX12_boundLaw 6 (some .int) ∈ am_big := bt_9 42 rfl rfl
theorem mh_X12_boundLaw : yX12_boundLaw.cls ≠ "java/lang/invoke/MethodHandle" ∧ yX12_boundLaw.cls ≠ "java/lang/invoke/VarHandle" ∧ (parseMethodDescriptor yX12_boundLaw.desc).map (fun d => d.parameters.length) = some 3 := by decide +kernel
theorem wl_X12_boundLaw : Cond.selects RX12 yX12_boundLaw yX12_boundLaw ∈ am_big := big_pr 106 (by decide +kernel) (by decide +kernel)
theorem wo_X12_isHeeded : Cond.code yX12_isHeeded cX12_isHeeded 3 (some .boolean) ∈ am_big := bt_9 38 rfl rfl
theorem mh_X12_isHeeded : yX12_isHeeded.cls ≠ "java/lang/invoke/MethodHandle" ∧ yX12_isHeeded.cls ≠ "java/lang/invoke/VarHandle" ∧ (parseMethodDescriptor yX12_isHeeded.desc).map (fun d => d.parameters.length) = some 0 := by decide +kernel
theorem wl_X12_isHeeded : Cond.selects RX12 yX12_isHeeded yX12_isHeeded ∈ am_big := big_pr 105 (by decide +kernel) (by decide +kernel)
theorem wo_X12_number1 : Cond.code yX12_number1 cX12_number1 2 (some .int) ∈ am_big := bt_9 46 rfl rfl
theorem mh_X12_number1 : yX12_number1.cls ≠ "java/lang/invoke/MethodHandle" ∧ yX12_number1.cls ≠ "java/lang/invoke/VarHandle" ∧ (parseMethodDescriptor yX12_number1.desc).map (fun d => d.parameters.length) = some 1 := by decide +kernel
theorem wl_X12_number1 : Cond.selects RX12 yX12_number1 yX12_number1 ∈ am_big := big_pr 107 (by decide +kernel) (by decide +kernel)
theorem wo_X12_turnsOne : Cond.code yX12_turnsOne cX12_turnsOne 9 none ∈ am_big := bt_9 34 rfl rfl
theorem mh_X12_turnsOne : yX12_turnsOne.cls ≠ "java/lang/invoke/MethodHandle" ∧ yX12_turnsOne.cls ≠ "java/lang/invoke/VarHandle" ∧ (parseMethodDescriptor yX12_turnsOne.desc).map (fun d => d.parameters.length) = some 4 := by decide +kernel
theorem wl_X12_turnsOne : Cond.selects RX12 yX12_turnsOne yX12_turnsOne ∈ am_big := big_pr 104 (by decide +kernel) (by decide +kernel)
theorem wo_X12_minuteGoes : Cond.code yX12_minuteGoes cX12_minuteGoes 6 none ∈ am_big := bt_9 30 rfl rfl
theorem mh_X12_minuteGoes : yX12_minuteGoes.cls ≠ "java/lang/invoke/MethodHandle" ∧ yX12_minuteGoes.cls ≠ "java/lang/invoke/VarHandle" ∧ (parseMethodDescriptor yX12_minuteGoes.desc).map (fun d => d.parameters.length) = some 1 := by decide +kernel
theorem wl_X12_minuteGoes : Cond.selects RX12 yX12_minuteGoes yX12_minuteGoes ∈ am_big := big_pr 103 (by decide +kernel) (by decide +kernel)
theorem wo_X12_goMany : Cond.code yX12_goMany cX12_goMany 3 none ∈ am_big := bt_9 62 rfl rfl
theorem mh_X12_goMany : yX12_goMany.cls ≠ "java/lang/invoke/MethodHandle" ∧ yX12_goMany.cls ≠ "java/lang/invoke/VarHandle" ∧ (parseMethodDescriptor yX12_goMany.desc).map (fun d => d.parameters.length) = some 1 := by decide +kernel
theorem wl_X12_goMany : Cond.selects RX12 yX12_goMany yX12_goMany ∈ am_big := big_pr 109 (by decide +kernel) (by decide +kernel)
theorem wo_X12_rightMany : Cond.code yX12_rightMany cX12_rightMany 4 (some .int) ∈ am_big := bt_9 66 rfl rfl
theorem mh_X12_rightMany : yX12_rightMany.cls ≠ "java/lang/invoke/MethodHandle" ∧ yX12_rightMany.cls ≠ "java/lang/invoke/VarHandle" ∧ (parseMethodDescriptor yX12_rightMany.desc).map (fun d => d.parameters.length) = some 1 := by decide +kernel
theorem wl_X12_rightMany : Cond.selects RX12 yX12_rightMany yX12_rightMany ∈ am_big := big_pr 110 (by decide +kernel) (by decide +kernel)
theorem wo_X12_properMany : Cond.code yX12_properMany cX12_properMany 4 (some .int) ∈ am_big := bt_9 70 rfl rfl
theorem mh_X12_properMany : yX12_properMany.cls ≠ "java/lang/invoke/MethodHandle" ∧ yX12_properMany.cls ≠ "java/lang/invoke/VarHandle" ∧ (parseMethodDescriptor yX12_properMany.desc).map (fun d => d.parameters.length) = some 1 := by decide +kernel
theorem wl_X12_properMany : Cond.selects RX12 yX12_properMany yX12_properMany ∈ am_big := big_pr 111 (by decide +kernel) (by decide +kernel)
theorem wo_X12_chippedMany : Cond.code yX12_chippedMany cX12_chippedMany 4 (some .int) ∈ am_big := bt_9 74 rfl rfl
theorem mh_X12_chippedMany : yX12_chippedMany.cls ≠ "java/lang/invoke/MethodHandle" ∧ yX12_chippedMany.cls ≠ "java/lang/invoke/VarHandle" ∧ (parseMethodDescriptor yX12_chippedMany.desc).map (fun d => d.parameters.length) = some 1 := by decide +kernel
theorem wl_X12_chippedMany : Cond.selects RX12 yX12_chippedMany yX12_chippedMany ∈ am_big := big_pr 112 (by decide +kernel) (by decide +kernel)
theorem wo_X12_gapsAll : Cond.code yX12_gapsAll cX12_gapsAll 4 (some .int) ∈ am_big := bt_9 231 rfl rfl
theorem mh_X12_gapsAll : yX12_gapsAll.cls ≠ "java/lang/invoke/MethodHandle" ∧ yX12_gapsAll.cls ≠ "java/lang/invoke/VarHandle" ∧ (parseMethodDescriptor yX12_gapsAll.desc).map (fun d => d.parameters.length) = some 1 := by decide +kernel
theorem wl_X12_gapsAll : Cond.selects RX12 yX12_gapsAll yX12_gapsAll ∈ am_big := big_pr 131 (by decide +kernel) (by decide +kernel)
theorem wo_X12_fails : Cond.code yX12_fails cX12_fails 2 (some .int) ∈ am_big := bt_8 164 rfl rfl
theorem mh_X12_fails : yX12_fails.cls ≠ "java/lang/invoke/MethodHandle" ∧ yX12_fails.cls ≠ "java/lang/invoke/VarHandle" ∧ (parseMethodDescriptor yX12_fails.desc).map (fun d => d.parameters.length) = some 1 := by decide +kernel
theorem wl_X12_fails : Cond.selects RX12 yX12_fails yX12_fails ∈ am_big := big_pr 85 (by decide +kernel) (by decide +kernel)
theorem wo_X12_pile : Cond.code yX12_pile cX12_pile 3 (some .int) ∈ am_big := bt_8 156 rfl rfl
theorem mh_X12_pile : yX12_pile.cls ≠ "java/lang/invoke/MethodHandle" ∧ yX12_pile.cls ≠ "java/lang/invoke/VarHandle" ∧ (parseMethodDescriptor yX12_pile.desc).map (fun d => d.parameters.length) = some 2 := by decide +kernel
theorem wl_X12_pile : Cond.selects RX12 yX12_pile yX12_pile ∈ am_big := bt_8 155 rfl rfl
theorem wo_X12_plate : Cond.code yX12_plate cX12_plate 5 (some .int) ∈ am_big := bt_8 200 rfl rfl
theorem mh_X12_plate : yX12_plate.cls ≠ "java/lang/invoke/MethodHandle" ∧ yX12_plate.cls ≠ "java/lang/invoke/VarHandle" ∧ (parseMethodDescriptor yX12_plate.desc).map (fun d => d.parameters.length) = some 3 := by decide +kernel
theorem wl_X12_plate : Cond.selects RX12 yX12_plate yX12_plate ∈ am_big := bt_8 199 rfl rfl
theorem wo_X12_maid : Cond.code yX12_maid cX12_maid 3 (some .int) ∈ am_big := bt_8 204 rfl rfl
theorem mh_X12_maid : yX12_maid.cls ≠ "java/lang/invoke/MethodHandle" ∧ yX12_maid.cls ≠ "java/lang/invoke/VarHandle" ∧ (parseMethodDescriptor yX12_maid.desc).map (fun d => d.parameters.length) = some 2 := by decide +kernel
theorem wl_X12_maid : Cond.selects RX12 yX12_maid yX12_maid ∈ am_big := bt_8 203 rfl rfl
theorem wo_X12_law : Cond.code yX12_law cX12_law 7 (some .long) ∈ am_big := bt_8 212 rfl rfl
theorem mh_X12_law : yX12_law.cls ≠ "java/lang/invoke/MethodHandle" ∧ yX12_law.cls ≠ "java/lang/invoke/VarHandle" ∧ (parseMethodDescriptor yX12_law.desc).map (fun d => d.parameters.length) = some 4 := by decide +kernel
theorem wl_X12_law : Cond.selects RX12 yX12_law yX12_law ∈ am_big := bt_8 211 rfl rfl
theorem wo_X12_put : Cond.code yX12_put cX12_put 4 none ∈ am_big := bt_9 10 rfl rfl
theorem mh_X12_put : yX12_put.cls ≠ "java/lang/invoke/MethodHandle" ∧ yX12_put.cls ≠ "java/lang/invoke/VarHandle" ∧ (parseMethodDescriptor yX12_put.desc).map (fun d => d.parameters.length) = some 2 := by decide +kernel
theorem wl_X12_put : Cond.selects RX12 yX12_put yX12_put ∈ am_big := big_pr 101 (by decide +kernel) (by decide +kernel)
theorem wo_X12_remember : Cond.code yX12_remember cX12_remember 2 none ∈ am_big := bt_9 6 rfl rfl
theorem mh_X12_remember : yX12_remember.cls ≠ "java/lang/invoke/MethodHandle" ∧ yX12_remember.cls ≠ "java/lang/invoke/VarHandle" ∧ (parseMethodDescriptor yX12_remember.desc).map (fun d => d.parameters.length) = some 0 := by decide +kernel
theorem wl_X12_remember : Cond.selects RX12 yX12_remember yX12_remember ∈ am_big := big_pr 100 (by decide +kernel) (by decide +kernel)
theorem wo_X12_turn : Cond.code yX12_turn cX12_turn 3 (some .int) ∈ am_big := bt_9 2 rfl rfl
theorem mh_X12_turn : yX12_turn.cls ≠ "java/lang/invoke/MethodHandle" ∧ yX12_turn.cls ≠ "java/lang/invoke/VarHandle" ∧ (parseMethodDescriptor yX12_turn.desc).map (fun d => d.parameters.length) = some 2 := by decide +kernel
theorem wl_X12_turn : Cond.selects RX12 yX12_turn yX12_turn ∈ am_big := bt_9 1 rfl rfl
theorem wo_X12_move : Cond.code yX12_move cX12_move 5 (some .int) ∈ am_big := bt_9 18 rfl rfl
theorem mh_X12_move : yX12_move.cls ≠ "java/lang/invoke/MethodHandle" ∧ yX12_move.cls ≠ "java/lang/invoke/VarHandle" ∧ (parseMethodDescriptor yX12_move.desc).map (fun d => d.parameters.length) = some 2 := by decide +kernel
theorem wl_X12_move : Cond.selects RX12 yX12_move yX12_move ∈ am_big := bt_9 17 rfl rfl
theorem wo_X12_crack : Cond.code yX12_crack cX12_crack 4 (some .boolean) ∈ am_big := bt_9 22 rfl rfl
theorem mh_X12_crack : yX12_crack.cls ≠ "java/lang/invoke/MethodHandle" ∧ yX12_crack.cls ≠ "java/lang/invoke/VarHandle" ∧ (parseMethodDescriptor yX12_crack.desc).map (fun d => d.parameters.length) = some 2 := by decide +kernel
theorem wl_X12_crack : Cond.selects RX12 yX12_crack yX12_crack ∈ am_big := bt_9 21 rfl rfl
theorem wo_X12_go : Cond.code yX12_go cX12_go 3 (some .int) ∈ am_big := bt_9 26 rfl rfl
theorem mh_X12_go : yX12_go.cls ≠ "java/lang/invoke/MethodHandle" ∧ yX12_go.cls ≠ "java/lang/invoke/VarHandle" ∧ (parseMethodDescriptor yX12_go.desc).map (fun d => d.parameters.length) = some 1 := by decide +kernel
theorem wl_X12_go : Cond.selects RX12 yX12_go yX12_go ∈ am_big := bt_9 25 rfl rfl
theorem wo_X12_ahead : Cond.code yX12_ahead cX12_ahead 4 (some .int) ∈ am_big := bt_9 54 rfl rfl
theorem mh_X12_ahead : yX12_ahead.cls ≠ "java/lang/invoke/MethodHandle" ∧ yX12_ahead.cls ≠ "java/lang/invoke/VarHandle" ∧ (parseMethodDescriptor yX12_ahead.desc).map (fun d => d.parameters.length) = some 3 := by decide +kernel
theorem wl_X12_ahead : Cond.selects RX12 yX12_ahead yX12_ahead ∈ am_big := bt_9 53 rfl rfl
theorem wo_X12_rightWhen : Cond.code yX12_rightWhen cX12_rightWhen 3 (some .int) ∈ am_big := bt_9 78 rfl rfl
theorem mh_X12_rightWhen : yX12_rightWhen.cls ≠ "java/lang/invoke/MethodHandle" ∧ yX12_rightWhen.cls ≠ "java/lang/invoke/VarHandle" ∧ (parseMethodDescriptor yX12_rightWhen.desc).map (fun d => d.parameters.length) = some 1 := by decide +kernel
theorem wl_X12_rightWhen : Cond.selects RX12 yX12_rightWhen yX12_rightWhen ∈ am_big := bt_9 77 rfl rfl
theorem wo_X12_codeOf : Cond.code yX12_codeOf cX12_codeOf 6 (some .int) ∈ am_big := bt_9 102 rfl rfl
theorem mh_X12_codeOf : yX12_codeOf.cls ≠ "java/lang/invoke/MethodHandle" ∧ yX12_codeOf.cls ≠ "java/lang/invoke/VarHandle" ∧ (parseMethodDescriptor yX12_codeOf.desc).map (fun d => d.parameters.length) = some 1 := by decide +kernel
theorem wl_X12_codeOf : Cond.selects RX12 yX12_codeOf yX12_codeOf ∈ am_big := big_pr 117 (by decide +kernel) (by decide +kernel)
theorem wo_X12_layCode : Cond.code yX12_layCode cX12_layCode 6 none ∈ am_big := bt_9 94 rfl rfl
theorem mh_X12_layCode : yX12_layCode.cls ≠ "java/lang/invoke/MethodHandle" ∧ yX12_layCode.cls ≠ "java/lang/invoke/VarHandle" ∧ (parseMethodDescriptor yX12_layCode.desc).map (fun d => d.parameters.length) = some 2 := by decide +kernel
theorem wl_X12_layCode : Cond.selects RX12 yX12_layCode yX12_layCode ∈ am_big := big_pr 115 (by decide +kernel) (by decide +kernel)
theorem wo_X12_turnsRow : Cond.code yX12_turnsRow cX12_turnsRow 6 none ∈ am_big := bt_9 98 rfl rfl
theorem mh_X12_turnsRow : yX12_turnsRow.cls ≠ "java/lang/invoke/MethodHandle" ∧ yX12_turnsRow.cls ≠ "java/lang/invoke/VarHandle" ∧ (parseMethodDescriptor yX12_turnsRow.desc).map (fun d => d.parameters.length) = some 2 := by decide +kernel
theorem wl_X12_turnsRow : Cond.selects RX12 yX12_turnsRow yX12_turnsRow ∈ am_big := big_pr 116 (by decide +kernel) (by decide +kernel)
theorem wo_X12_codeOfPile : Cond.code yX12_codeOfPile cX12_codeOfPile 6 (some .int) ∈ am_big := bt_9 106 rfl rfl
theorem mh_X12_codeOfPile : yX12_codeOfPile.cls ≠ "java/lang/invoke/MethodHandle" ∧ yX12_codeOfPile.cls ≠ "java/lang/invoke/VarHandle" ∧ (parseMethodDescriptor yX12_codeOfPile.desc).map (fun d => d.parameters.length) = some 2 := by decide +kernel
theorem wl_X12_codeOfPile : Cond.selects RX12 yX12_codeOfPile yX12_codeOfPile ∈ am_big := big_pr 118 (by decide +kernel) (by decide +kernel)
theorem wo_X12_turnedCode : Cond.code yX12_turnedCode cX12_turnedCode 5 (some .int) ∈ am_big := bt_9 90 rfl rfl
theorem mh_X12_turnedCode : yX12_turnedCode.cls ≠ "java/lang/invoke/MethodHandle" ∧ yX12_turnedCode.cls ≠ "java/lang/invoke/VarHandle" ∧ (parseMethodDescriptor yX12_turnedCode.desc).map (fun d => d.parameters.length) = some 4 := by decide +kernel
theorem wl_X12_turnedCode : Cond.selects RX12 yX12_turnedCode yX12_turnedCode ∈ am_big := big_pr 114 (by decide +kernel) (by decide +kernel)
theorem wo_X12_layFar : Cond.code yX12_layFar cX12_layFar 8 none ∈ am_big := bt_9 86 rfl rfl
theorem mh_X12_layFar : yX12_layFar.cls ≠ "java/lang/invoke/MethodHandle" ∧ yX12_layFar.cls ≠ "java/lang/invoke/VarHandle" ∧ (parseMethodDescriptor yX12_layFar.desc).map (fun d => d.parameters.length) = some 3 := by decide +kernel
theorem wl_X12_layFar : Cond.selects RX12 yX12_layFar yX12_layFar ∈ am_big := big_pr 113 (by decide +kernel) (by decide +kernel)
theorem wo_X12_fewest : Cond.code yX12_fewest cX12_fewest 3 (some .int) ∈ am_big := bt_9 82 rfl rfl
theorem mh_X12_fewest : yX12_fewest.cls ≠ "java/lang/invoke/MethodHandle" ∧ yX12_fewest.cls ≠ "java/lang/invoke/VarHandle" ∧ (parseMethodDescriptor yX12_fewest.desc).map (fun d => d.parameters.length) = some 2 := by decide +kernel
theorem wl_X12_fewest : Cond.selects RX12 yX12_fewest yX12_fewest ∈ am_big := bt_9 81 rfl rfl
theorem wo_X12_first : Cond.code yX12_first cX12_first 5 (some .int) ∈ am_big := bt_9 110 rfl rfl
theorem mh_X12_first : yX12_first.cls ≠ "java/lang/invoke/MethodHandle" ∧ yX12_first.cls ≠ "java/lang/invoke/VarHandle" ∧ (parseMethodDescriptor yX12_first.desc).map (fun d => d.parameters.length) = some 2 := by decide +kernel
theorem wl_X12_first : Cond.selects RX12 yX12_first yX12_first ∈ am_big := bt_9 109 rfl rfl
theorem wo_X12_ways : Cond.code yX12_ways cX12_ways 3 (some .int) ∈ am_big := bt_9 114 rfl rfl
theorem mh_X12_ways : yX12_ways.cls ≠ "java/lang/invoke/MethodHandle" ∧ yX12_ways.cls ≠ "java/lang/invoke/VarHandle" ∧ (parseMethodDescriptor yX12_ways.desc).map (fun d => d.parameters.length) = some 2 := by decide +kernel
theorem wl_X12_ways : Cond.selects RX12 yX12_ways yX12_ways ∈ am_big := bt_9 113 rfl rfl
theorem wo_X12_apart : Cond.code yX12_apart cX12_apart 4 (some .int) ∈ am_big := bt_9 118 rfl rfl
theorem mh_X12_apart : yX12_apart.cls ≠ "java/lang/invoke/MethodHandle" ∧ yX12_apart.cls ≠ "java/lang/invoke/VarHandle" ∧ (parseMethodDescriptor yX12_apart.desc).map (fun d => d.parameters.length) = some 3 := by decide +kernel
theorem wl_X12_apart : Cond.selects RX12 yX12_apart yX12_apart ∈ am_big := bt_9 117 rfl rfl
theorem wo_X12_furthest : Cond.code yX12_furthest cX12_furthest 3 (some .int) ∈ am_big := bt_9 122 rfl rfl
theorem mh_X12_furthest : yX12_furthest.cls ≠ "java/lang/invoke/MethodHandle" ∧ yX12_furthest.cls ≠ "java/lang/invoke/VarHandle" ∧ (parseMethodDescriptor yX12_furthest.desc).map (fun d => d.parameters.length) = some 2 := by decide +kernel
theorem wl_X12_furthest : Cond.selects RX12 yX12_furthest yX12_furthest ∈ am_big := bt_9 121 rfl rfl
theorem wo_X12_howMany : Cond.code yX12_howMany cX12_howMany 6 (some .int) ∈ am_big := bt_9 126 rfl rfl
theorem mh_X12_howMany : yX12_howMany.cls ≠ "java/lang/invoke/MethodHandle" ∧ yX12_howMany.cls ≠ "java/lang/invoke/VarHandle" ∧ (parseMethodDescriptor yX12_howMany.desc).map (fun d => d.parameters.length) = some 3 := by decide +kernel
theorem wl_X12_howMany : Cond.selects RX12 yX12_howMany yX12_howMany ∈ am_big := bt_9 125 rfl rfl
theorem wo_X12_could : Cond.code yX12_could cX12_could 8 (some .int) ∈ am_big := bt_9 130 rfl rfl
theorem mh_X12_could : yX12_could.cls ≠ "java/lang/invoke/MethodHandle" ∧ yX12_could.cls ≠ "java/lang/invoke/VarHandle" ∧ (parseMethodDescriptor yX12_could.desc).map (fun d => d.parameters.length) = some 3 := by decide +kernel
theorem wl_X12_could : Cond.selects RX12 yX12_could yX12_could ∈ am_big := bt_9 129 rfl rfl
theorem wo_X12_greedy : Cond.code yX12_greedy cX12_greedy 5 (some .int) ∈ am_big := bt_9 134 rfl rfl
theorem mh_X12_greedy : yX12_greedy.cls ≠ "java/lang/invoke/MethodHandle" ∧ yX12_greedy.cls ≠ "java/lang/invoke/VarHandle" ∧ (parseMethodDescriptor yX12_greedy.desc).map (fun d => d.parameters.length) = some 1 := by decide +kernel
theorem wl_X12_greedy : Cond.selects RX12 yX12_greedy yX12_greedy ∈ am_big := bt_9 133 rfl rfl
theorem wo_X12_worthBy : Cond.code yX12_worthBy cX12_worthBy 4 (some .int) ∈ am_big := bt_9 150 rfl rfl
theorem mh_X12_worthBy : yX12_worthBy.cls ≠ "java/lang/invoke/MethodHandle" ∧ yX12_worthBy.cls ≠ "java/lang/invoke/VarHandle" ∧ (parseMethodDescriptor yX12_worthBy.desc).map (fun d => d.parameters.length) = some 2 := by decide +kernel
theorem wl_X12_worthBy : Cond.selects RX12 yX12_worthBy yX12_worthBy ∈ am_big := big_pr 121 (by decide +kernel) (by decide +kernel)
theorem wo_X12_isKnownNow : Cond.code yX12_isKnownNow cX12_isKnownNow 9 (some .boolean) ∈ am_big := bt_9 146 rfl rfl
theorem mh_X12_isKnownNow : yX12_isKnownNow.cls ≠ "java/lang/invoke/MethodHandle" ∧ yX12_isKnownNow.cls ≠ "java/lang/invoke/VarHandle" ∧ (parseMethodDescriptor yX12_isKnownNow.desc).map (fun d => d.parameters.length) = some 4 := by decide +kernel
theorem wl_X12_isKnownNow : Cond.selects RX12 yX12_isKnownNow yX12_isKnownNow ∈ am_big := big_pr 120 (by decide +kernel) (by decide +kernel)
theorem wo_X12_layWorth : Cond.code yX12_layWorth cX12_layWorth 6 none ∈ am_big := bt_9 142 rfl rfl
theorem mh_X12_layWorth : yX12_layWorth.cls ≠ "java/lang/invoke/MethodHandle" ∧ yX12_layWorth.cls ≠ "java/lang/invoke/VarHandle" ∧ (parseMethodDescriptor yX12_layWorth.desc).map (fun d => d.parameters.length) = some 2 := by decide +kernel
theorem wl_X12_layWorth : Cond.selects RX12 yX12_layWorth yX12_layWorth ∈ am_big := big_pr 119 (by decide +kernel) (by decide +kernel)
theorem wo_X12_game : Cond.code yX12_game cX12_game 8 (some .int) ∈ am_big := bt_9 138 rfl rfl
theorem mh_X12_game : yX12_game.cls ≠ "java/lang/invoke/MethodHandle" ∧ yX12_game.cls ≠ "java/lang/invoke/VarHandle" ∧ (parseMethodDescriptor yX12_game.desc).map (fun d => d.parameters.length) = some 3 := by decide +kernel
theorem wl_X12_game : Cond.selects RX12 yX12_game yX12_game ∈ am_big := bt_9 137 rfl rfl
theorem wo_X12_laysMatch : Cond.code yX12_laysMatch cX12_laysMatch 7 (some .boolean) ∈ am_big := bt_9 158 rfl rfl
theorem mh_X12_laysMatch : yX12_laysMatch.cls ≠ "java/lang/invoke/MethodHandle" ∧ yX12_laysMatch.cls ≠ "java/lang/invoke/VarHandle" ∧ (parseMethodDescriptor yX12_laysMatch.desc).map (fun d => d.parameters.length) = some 2 := by decide +kernel
theorem wl_X12_laysMatch : Cond.selects RX12 yX12_laysMatch yX12_laysMatch ∈ am_big := big_pr 122 (by decide +kernel) (by decide +kernel)
theorem wo_X12_match : Cond.code yX12_match cX12_match 7 (some .int) ∈ am_big := bt_9 154 rfl rfl
theorem mh_X12_match : yX12_match.cls ≠ "java/lang/invoke/MethodHandle" ∧ yX12_match.cls ≠ "java/lang/invoke/VarHandle" ∧ (parseMethodDescriptor yX12_match.desc).map (fun d => d.parameters.length) = some 1 := by decide +kernel
theorem wl_X12_match : Cond.selects RX12 yX12_match yX12_match ∈ am_big := bt_9 153 rfl rfl
theorem wo_X12_holds : Cond.code yX12_holds cX12_holds 13 (some .long) ∈ am_big := bt_9 165 rfl rfl
theorem mh_X12_holds : yX12_holds.cls ≠ "java/lang/invoke/MethodHandle" ∧ yX12_holds.cls ≠ "java/lang/invoke/VarHandle" ∧ (parseMethodDescriptor yX12_holds.desc).map (fun d => d.parameters.length) = some 2 := by decide +kernel
theorem wl_X12_holds : Cond.selects RX12 yX12_holds yX12_holds ∈ am_big := bt_9 164 rfl rfl
theorem wo_X12_noted : Cond.code yX12_noted cX12_noted 5 (some .int) ∈ am_big := bt_9 175 rfl rfl
theorem mh_X12_noted : yX12_noted.cls ≠ "java/lang/invoke/MethodHandle" ∧ yX12_noted.cls ≠ "java/lang/invoke/VarHandle" ∧ (parseMethodDescriptor yX12_noted.desc).map (fun d => d.parameters.length) = some 4 := by decide +kernel
theorem wl_X12_noted : Cond.selects RX12 yX12_noted yX12_noted ∈ am_big := big_pr 123 (by decide +kernel) (by decide +kernel)
theorem wo_X12_see : Cond.code yX12_see cX12_see 5 (some .int) ∈ am_big := bt_9 171 rfl rfl
theorem mh_X12_see : yX12_see.cls ≠ "java/lang/invoke/MethodHandle" ∧ yX12_see.cls ≠ "java/lang/invoke/VarHandle" ∧ (parseMethodDescriptor yX12_see.desc).map (fun d => d.parameters.length) = some 4 := by decide +kernel
theorem wl_X12_see : Cond.selects RX12 yX12_see yX12_see ∈ am_big := bt_9 170 rfl rfl
theorem wo_X12_strike : Cond.code yX12_strike cX12_strike 2 (some .int) ∈ am_big := bt_9 179 rfl rfl
theorem mh_X12_strike : yX12_strike.cls ≠ "java/lang/invoke/MethodHandle" ∧ yX12_strike.cls ≠ "java/lang/invoke/VarHandle" ∧ (parseMethodDescriptor yX12_strike.desc).map (fun d => d.parameters.length) = some 1 := by decide +kernel
theorem wl_X12_strike : Cond.selects RX12 yX12_strike yX12_strike ∈ am_big := bt_9 178 rfl rfl
theorem wo_X12_known : Cond.code yX12_known cX12_known 2 (some .boolean) ∈ am_big := bt_9 183 rfl rfl
theorem mh_X12_known : yX12_known.cls ≠ "java/lang/invoke/MethodHandle" ∧ yX12_known.cls ≠ "java/lang/invoke/VarHandle" ∧ (parseMethodDescriptor yX12_known.desc).map (fun d => d.parameters.length) = some 1 := by decide +kernel
theorem wl_X12_known : Cond.selects RX12 yX12_known yX12_known ∈ am_big := bt_9 182 rfl rfl
theorem wo_X12_knownBy : Cond.code yX12_knownBy cX12_knownBy 1 (some .int) ∈ am_big := bt_9 199 rfl rfl
theorem mh_X12_knownBy : yX12_knownBy.cls ≠ "java/lang/invoke/MethodHandle" ∧ yX12_knownBy.cls ≠ "java/lang/invoke/VarHandle" ∧ (parseMethodDescriptor yX12_knownBy.desc).map (fun d => d.parameters.length) = some 0 := by decide +kernel
theorem wl_X12_knownBy : Cond.selects RX12 yX12_knownBy yX12_knownBy ∈ am_big := big_pr 126 (by decide +kernel) (by decide +kernel)
theorem wo_X12_isSo : Cond.code yX12_isSo cX12_isSo 3 (some .boolean) ∈ am_big := bt_9 211 rfl rfl
theorem mh_X12_isSo : yX12_isSo.cls ≠ "java/lang/invoke/MethodHandle" ∧ yX12_isSo.cls ≠ "java/lang/invoke/VarHandle" ∧ (parseMethodDescriptor yX12_isSo.desc).map (fun d => d.parameters.length) = some 1 := by decide +kernel
theorem wl_X12_isSo : Cond.selects RX12 yX12_isSo yX12_isSo ∈ am_big := big_pr 129 (by decide +kernel) (by decide +kernel)
theorem wo_X12_layDeep : Cond.code yX12_layDeep cX12_layDeep 3 none ∈ am_big := bt_9 207 rfl rfl
theorem mh_X12_layDeep : yX12_layDeep.cls ≠ "java/lang/invoke/MethodHandle" ∧ yX12_layDeep.cls ≠ "java/lang/invoke/VarHandle" ∧ (parseMethodDescriptor yX12_layDeep.desc).map (fun d => d.parameters.length) = some 2 := by decide +kernel
theorem wl_X12_layDeep : Cond.selects RX12 yX12_layDeep yX12_layDeep ∈ am_big := big_pr 128 (by decide +kernel) (by decide +kernel)
theorem wo_X12_fits : Cond.code yX12_fits cX12_fits 4 (some .boolean) ∈ am_big := bt_9 203 rfl rfl
theorem mh_X12_fits : yX12_fits.cls ≠ "java/lang/invoke/MethodHandle" ∧ yX12_fits.cls ≠ "java/lang/invoke/VarHandle" ∧ (parseMethodDescriptor yX12_fits.desc).map (fun d => d.parameters.length) = some 2 := by decide +kernel
theorem wl_X12_fits : Cond.selects RX12 yX12_fits yX12_fits ∈ am_big := big_pr 127 (by decide +kernel) (by decide +kernel)
theorem wo_X12_deepBits : Cond.code yX12_deepBits cX12_deepBits 4 (some .int) ∈ am_big := bt_9 195 rfl rfl
theorem mh_X12_deepBits : yX12_deepBits.cls ≠ "java/lang/invoke/MethodHandle" ∧ yX12_deepBits.cls ≠ "java/lang/invoke/VarHandle" ∧ (parseMethodDescriptor yX12_deepBits.desc).map (fun d => d.parameters.length) = some 1 := by decide +kernel
theorem wl_X12_deepBits : Cond.selects RX12 yX12_deepBits yX12_deepBits ∈ am_big := big_pr 125 (by decide +kernel) (by decide +kernel)
theorem wo_X12_deep : Cond.code yX12_deep cX12_deep 2 (some .int) ∈ am_big := bt_9 187 rfl rfl
theorem mh_X12_deep : yX12_deep.cls ≠ "java/lang/invoke/MethodHandle" ∧ yX12_deep.cls ≠ "java/lang/invoke/VarHandle" ∧ (parseMethodDescriptor yX12_deep.desc).map (fun d => d.parameters.length) = some 1 := by decide +kernel
theorem wl_X12_deep : Cond.selects RX12 yX12_deep yX12_deep ∈ am_big := bt_9 186 rfl rfl
theorem wo_X12_worstAt : Cond.code yX12_worstAt cX12_worstAt 7 (some .int) ∈ am_big := bt_9 219 rfl rfl
theorem mh_X12_worstAt : yX12_worstAt.cls ≠ "java/lang/invoke/MethodHandle" ∧ yX12_worstAt.cls ≠ "java/lang/invoke/VarHandle" ∧ (parseMethodDescriptor yX12_worstAt.desc).map (fun d => d.parameters.length) = some 2 := by decide +kernel
theorem wl_X12_worstAt : Cond.selects RX12 yX12_worstAt yX12_worstAt ∈ am_big := big_pr 130 (by decide +kernel) (by decide +kernel)
theorem wo_X12_ask : Cond.code yX12_ask cX12_ask 7 (some .int) ∈ am_big := bt_9 215 rfl rfl
theorem mh_X12_ask : yX12_ask.cls ≠ "java/lang/invoke/MethodHandle" ∧ yX12_ask.cls ≠ "java/lang/invoke/VarHandle" ∧ (parseMethodDescriptor yX12_ask.desc).map (fun d => d.parameters.length) = some 3 := by decide +kernel
theorem wl_X12_ask : Cond.selects RX12 yX12_ask yX12_ask ∈ am_big := bt_9 214 rfl rfl
theorem wo_X12_chance : Cond.code yX12_chance cX12_chance 8 (some .int) ∈ am_big := bt_9 223 rfl rfl
theorem mh_X12_chance : yX12_chance.cls ≠ "java/lang/invoke/MethodHandle" ∧ yX12_chance.cls ≠ "java/lang/invoke/VarHandle" ∧ (parseMethodDescriptor yX12_chance.desc).map (fun d => d.parameters.length) = some 3 := by decide +kernel
theorem wl_X12_chance : Cond.selects RX12 yX12_chance yX12_chance ∈ am_big := bt_9 222 rfl rfl
theorem wo_X12_tried : Cond.code yX12_tried cX12_tried 4 (some .int) ∈ am_big := bt_9 227 rfl rfl
theorem mh_X12_tried : yX12_tried.cls ≠ "java/lang/invoke/MethodHandle" ∧ yX12_tried.cls ≠ "java/lang/invoke/VarHandle" ∧ (parseMethodDescriptor yX12_tried.desc).map (fun d => d.parameters.length) = some 3 := by decide +kernel
theorem wl_X12_tried : Cond.selects RX12 yX12_tried yX12_tried ∈ am_big := bt_9 226 rfl rfl
theorem wo_X12_take : Cond.code yX12_take cX12_take 4 none ∈ am_big := bt_9 239 rfl rfl
theorem mh_X12_take : yX12_take.cls ≠ "java/lang/invoke/MethodHandle" ∧ yX12_take.cls ≠ "java/lang/invoke/VarHandle" ∧ (parseMethodDescriptor yX12_take.desc).map (fun d => d.parameters.length) = some 2 := by decide +kernel
theorem wl_X12_take : Cond.selects RX12 yX12_take yX12_take ∈ am_big := big_pr 132 (by decide +kernel) (by decide +kernel)
theorem wo_X12_undo : Cond.code yX12_undo cX12_undo 2 (some .int) ∈ am_big := bt_9 235 rfl rfl
theorem mh_X12_undo : yX12_undo.cls ≠ "java/lang/invoke/MethodHandle" ∧ yX12_undo.cls ≠ "java/lang/invoke/VarHandle" ∧ (parseMethodDescriptor yX12_undo.desc).map (fun d => d.parameters.length) = some 0 := by decide +kernel
theorem wl_X12_undo : Cond.selects RX12 yX12_undo yX12_undo ∈ am_big := bt_9 234 rfl rfl
theorem wo_X12_keep : Cond.code yX12_keep cX12_keep 2 (some .int) ∈ am_big := bt_10 3 rfl rfl
theorem mh_X12_keep : yX12_keep.cls ≠ "java/lang/invoke/MethodHandle" ∧ yX12_keep.cls ≠ "java/lang/invoke/VarHandle" ∧ (parseMethodDescriptor yX12_keep.desc).map (fun d => d.parameters.length) = some 0 := by decide +kernel
theorem wl_X12_keep : Cond.selects RX12 yX12_keep yX12_keep ∈ am_big := bt_10 2 rfl rfl
theorem wo_X12_back : Cond.code yX12_back cX12_back 2 (some .int) ∈ am_big := bt_10 7 rfl rfl
theorem mh_X12_back : yX12_back.cls ≠ "java/lang/invoke/MethodHandle" ∧ yX12_back.cls ≠ "java/lang/invoke/VarHandle" ∧ (parseMethodDescriptor yX12_back.desc).map (fun d => d.parameters.length) = some 0 := by decide +kernel
theorem wl_X12_back : Cond.selects RX12 yX12_back yX12_back ∈ am_big := bt_10 6 rfl rfl
theorem wo_X12_count : Cond.code yX12_count cX12_count 4 (some .int) ∈ am_big := bt_10 11 rfl rfl
theorem mh_X12_count : yX12_count.cls ≠ "java/lang/invoke/MethodHandle" ∧ yX12_count.cls ≠ "java/lang/invoke/VarHandle" ∧ (parseMethodDescriptor yX12_count.desc).map (fun d => d.parameters.length) = some 1 := by decide +kernel
theorem wl_X12_count : Cond.selects RX12 yX12_count yX12_count ∈ am_big := bt_10 10 rfl rfl
theorem in_of {ws : List Cond} (ps : List Nat) (hp : ws = ps.filterMap (fun i => tables_1[i]?)) (h : ws.all goodWord = true) : ∀ w ∈ ws, w ∈ am_big := fun w hw => List.mem_filter.mpr ⟨List.mem_append_right _ ((goodIn_r ws ps hp h) w hw).1, List.all_eq_true.mp h w hw⟩
set_option maxRecDepth 20000 in
theorem in_0 : ∀ w ∈ u_ws RX0 TX0 11, w ∈ am_big := in_of [952, 954, 956, 958, 960, 962, 964, 966, 968, 970, 972] (by decide +kernel) (by decide +kernel)
theorem vw_0 : vwCl[0]? = some (RX0, TX0, 11) := rfl
theorem dv_0 : ∀ k, k < 11 → defaultValue (tyX0 k) = dv_ (sl_ 0 k) ∧ (sl_ 0 k < 3 ∨ 10 ≤ sl_ 0 k) := by decide +kernel
set_option maxRecDepth 20000 in
theorem in_1 : ∀ w ∈ u_ws RX1 TX1 5, w ∈ am_big := in_of [410, 412, 414, 416, 418] (by decide +kernel) (by decide +kernel)
theorem vw_1 : vwCl[1]? = some (RX1, TX1, 5) := rfl
theorem dv_1 : ∀ k, k < 5 → defaultValue (tyX1 k) = dv_ (sl_ 1 k) ∧ (sl_ 1 k < 3 ∨ 10 ≤ sl_ 1 k) := by decide +kernel
set_option maxRecDepth 20000 in
theorem in_2 : ∀ w ∈ u_ws RX2 TX2 9, w ∈ am_big := in_of [138, 140, 142, 144, 146, 148, 150, 152, 154] (by decide +kernel) (by decide +kernel)
theorem vw_2 : vwCl[2]? = some (RX2, TX2, 9) := rfl
theorem dv_2 : ∀ k, k < 9 → defaultValue (tyX2 k) = dv_ (sl_ 2 k) ∧ (sl_ 2 k < 3 ∨ 10 ≤ sl_ 2 k) := by decide +kernel
set_option maxRecDepth 20000 in
theorem in_3 : ∀ w ∈ u_ws RX3 TX3 7, w ∈ am_big := in_of [350, 352, 354, 356, 358, 360, 362] (by decide +kernel) (by decide +kernel)
theorem vw_3 : vwCl[3]? = some (RX3, TX3, 7) := rfl
theorem dv_3 : ∀ k, k < 7 → defaultValue (tyX3 k) = dv_ (sl_ 3 k) ∧ (sl_ 3 k < 3 ∨ 10 ≤ sl_ 3 k) := by decide +kernel
set_option maxRecDepth 20000 in
theorem in_4 : ∀ w ∈ u_ws RX4 TX4 8, w ∈ am_big := in_of [382, 384, 386, 388, 390, 392, 394, 396] (by decide +kernel) (by decide +kernel)
theorem vw_4 : vwCl[4]? = some (RX4, TX4, 8) := rfl
theorem dv_4 : ∀ k, k < 8 → defaultValue (tyX4 k) = dv_ (sl_ 4 k) ∧ (sl_ 4 k < 3 ∨ 10 ≤ sl_ 4 k) := by decide +kernel
set_option maxRecDepth 20000 in
theorem in_5 : ∀ w ∈ u_ws RX5 TX5 3, w ∈ am_big := in_of [160, 162, 164] (by decide +kernel) (by decide +kernel)
theorem vw_5 : vwCl[5]? = some (RX5, TX5, 3) := rfl
theorem dv_5 : ∀ k, k < 3 → defaultValue (tyX5 k) = dv_ (sl_ 5 k) ∧ (sl_ 5 k < 3 ∨ 10 ≤ sl_ 5 k) := by decide +kernel
set_option maxRecDepth 20000 in
theorem in_6 : ∀ w ∈ u_ws RX6 TX6 8, w ∈ am_big := in_of [435, 437, 439, 441, 443, 445, 447, 449] (by decide +kernel) (by decide +kernel)
theorem vw_6 : vwCl[6]? = some (RX6, TX6, 8) := rfl
theorem dv_6 : ∀ k, k < 8 → defaultValue (tyX6 k) = dv_ (sl_ 6 k) ∧ (sl_ 6 k < 3 ∨ 10 ≤ sl_ 6 k) := by decide +kernel
set_option maxRecDepth 20000 in
theorem in_7 : ∀ w ∈ u_ws RX7 TX7 7, w ∈ am_big := in_of [106, 108, 110, 112, 114, 116, 118] (by decide +kernel) (by decide +kernel)
theorem vw_7 : vwCl[7]? = some (RX7, TX7, 7) := rfl
theorem dv_7 : ∀ k, k < 7 → defaultValue (tyX7 k) = dv_ (sl_ 7 k) ∧ (sl_ 7 k < 3 ∨ 10 ≤ sl_ 7 k) := by decide +kernel
set_option maxRecDepth 20000 in
theorem in_8 : ∀ w ∈ u_ws RX8 TX8 17, w ∈ am_big := in_of [300, 302, 304, 306, 308, 310, 312, 314, 316, 318, 320, 322, 324, 326, 328, 330, 332] (by decide +kernel) (by decide +kernel)
theorem vw_8 : vwCl[8]? = some (RX8, TX8, 17) := rfl
theorem dv_8 : ∀ k, k < 17 → defaultValue (tyX8 k) = dv_ (sl_ 8 k) ∧ (sl_ 8 k < 3 ∨ 10 ≤ sl_ 8 k) := by decide +kernel
set_option maxRecDepth 20000 in
theorem in_9 : ∀ w ∈ u_ws RX9 TX9 2, w ∈ am_big := in_of [930, 932] (by decide +kernel) (by decide +kernel)
theorem vw_9 : vwCl[9]? = some (RX9, TX9, 2) := rfl
theorem dv_9 : ∀ k, k < 2 → defaultValue (tyX9 k) = dv_ (sl_ 9 k) ∧ (sl_ 9 k < 3 ∨ 10 ≤ sl_ 9 k) := by decide +kernel
set_option maxRecDepth 20000 in
theorem in_10 : ∀ w ∈ u_ws RX10 TX10 14, w ∈ am_big := in_of [217, 219, 221, 223, 225, 227, 229, 231, 233, 235, 237, 239, 241, 243] (by decide +kernel) (by decide +kernel)
theorem vw_10 : vwCl[10]? = some (RX10, TX10, 14) := rfl
theorem dv_10 : ∀ k, k < 14 → defaultValue (tyX10 k) = dv_ (sl_ 10 k) ∧ (sl_ 10 k < 3 ∨ 10 ≤ sl_ 10 k) := by decide +kernel
set_option maxRecDepth 20000 in
theorem in_11 : ∀ w ∈ u_ws RX11 TX11 20, w ∈ am_big := in_of [475, 477, 479, 481, 483, 485, 487, 489, 491, 493, 495, 497, 499, 501, 503, 505, 507, 509, 511, 513] (by decide +kernel) (by decide +kernel)
theorem vw_11 : vwCl[11]? = some (RX11, TX11, 20) := rfl
theorem dv_11 : ∀ k, k < 20 → defaultValue (tyX11 k) = dv_ (sl_ 11 k) ∧ (sl_ 11 k < 3 ∨ 10 ≤ sl_ 11 k) := by decide +kernel
set_option maxRecDepth 20000 in
theorem in_12 : ∀ w ∈ u_ws RX12 TX12 93, w ∈ am_big := in_of [1508, 1510, 1512, 1514, 1516, 1518, 1520, 1522, 1524, 1526, 1528, 1530, 1532, 1534, 1536, 1538, 1540, 1542, 1544, 1546, 1548, 1550, 1552, 1554, 1556, 1558, 1560, 1562, 1564, 1566, 1568, 1570, 1572, 1574, 1576, 1578, 1580, 1582, 1584, 1586, 1588, 1590, 1592, 1594, 1596, 1598, 1600, 1602, 1604, 1606, 1608, 1610, 1612, 1614, 1616, 1618, 1620, 1622, 1624, 1626, 1628, 1630, 1632, 1634, 1636, 1638, 1640, 1642, 1644, 1646, 1648, 1650, 1652, 1654, 1656, 1658, 1660, 1662, 1664, 1666, 1668, 1670, 1672, 1674, 1676, 1678, 1680, 1682, 1684, 1686, 1688, 1690, 1692] (by decide +kernel) (by decide +kernel)
theorem vw_12 : vwCl[12]? = some (RX12, TX12, 93) := rfl
theorem dv_12 : ∀ k, k < 93 → defaultValue (tyX12 k) = dv_ (sl_ 12 k) ∧ (sl_ 12 k < 3 ∨ 10 ≤ sl_ 12 k) := by decide +kernel
