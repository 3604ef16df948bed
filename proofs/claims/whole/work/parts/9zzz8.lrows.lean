/-! the law, case by case -/
def LA (X : Int → Int) (N : Int) (b : Nat) (L st : List am_V) (h : am_H) (r : am_H × Int) : Prop := ∃ n, Lrun X N n b L st h = some r
theorem LA_j {X : Int → Int} {N : Int} {b b1 : Nat} {L st L1 st1 : List am_V} {h h1 : am_H} {r : am_H × Int} {ma mb : List Bool} {es : List am_E} {fall : Nat} {q : am_B} (hb : (BL X N)[b]? = some (ma, (es, fall))) (hb1 : (BL X N)[b1]? = some (mb, q)) (e : ∀ J : am_J, ex_ CC J fall es L st h = J b1 L1 st1 h1) (g : LA X N b1 (mk_ mb L1) st1 h1 r) : LA X N b L st h r := by
  obtain ⟨n, g⟩ := g
  refine ⟨n + 1, ?_⟩
  unfold Lrun
  rw [hb]
  show ex_ CC (Ljmp X N n) fall es L st h = _
  rw [e]
  unfold Ljmp
  rw [hb1]
  exact g
theorem LA_e {X : Int → Int} {N : Int} {b : Nat} {L st : List am_V} {h : am_H} {r : am_H × Int} {ma : List Bool} {es : List am_E} {fall : Nat} (hb : (BL X N)[b]? = some (ma, (es, fall))) (e : ∀ J : am_J, ex_ CC J fall es L st h = some r) : LA X N b L st h r := by
  refine ⟨1, ?_⟩
  unfold Lrun
  rw [hb]
  exact e _
theorem lcm_s (v : Int) : lcm_ v v = 0 := by
  unfold lcm_
  rw [if_neg (by omega), if_pos rfl]
abbrev Lx (z i : Int) : List am_V := [(5, z), (21, 0), (22, 94), (33, 143), (0, i), (9, 0), (9, 0)]
def LC (X : Int → Int) (N z : Int) (b : Nat) : Prop := ∀ (i K S : Int) (h : am_H) (T W I : Tx) (U : Int → Tx) (Q : Tx), 0 ≤ i → i + 6 ≤ N → ST h T W I U Q K S → ∃ (h2 : am_H) (T W I : Tx) (U : Int → Tx) (Q : Tx), (∀ r, LA X N 86 (Lx z i) [] h2 r → LA X N b (Lx z i) [] h r) ∧ ST h2 T W I U Q (K + 1) (S + 6)
theorem BL_0 (X : Int → Int) (N : Int) : (BL X N)[0]? = some ([true, false, false, false, false, false, false], (bLw_0 X N, 1)) := rfl
theorem BL_1 (X : Int → Int) (N : Int) : (BL X N)[1]? = some ([true, true, true, true, true, false, false], (bLw_1 X N, 9999)) := rfl
theorem BL_2 (X : Int → Int) (N : Int) : (BL X N)[2]? = some ([true, true, true, true, true, false, false], (bLw_2 X N, 9999)) := rfl
theorem BL_3 (X : Int → Int) (N : Int) : (BL X N)[3]? = some ([true, true, true, true, true, false, false], (bLw_3 X N, 4)) := rfl
theorem BL_4 (X : Int → Int) (N : Int) : (BL X N)[4]? = some ([true, true, true, true, true, false, false], (bLw_4 X N, 9999)) := rfl
theorem BL_5 (X : Int → Int) (N : Int) : (BL X N)[5]? = some ([false, false, false, false, false, false, false], (bLw_5 X N, 9999)) := rfl
theorem BL_6 (X : Int → Int) (N : Int) : (BL X N)[6]? = some ([true, true, true, true, true, false, false], (bLw_6 X N, 9999)) := rfl
theorem BL_7 (X : Int → Int) (N : Int) : (BL X N)[7]? = some ([false, false, false, false, false, false, false], (bLw_7 X N, 9999)) := rfl
theorem BL_8 (X : Int → Int) (N : Int) : (BL X N)[8]? = some ([true, true, true, true, true, false, false], (bLw_8 X N, 9999)) := rfl
theorem BL_9 (X : Int → Int) (N : Int) : (BL X N)[9]? = some ([false, false, false, false, false, false, false], (bLw_9 X N, 9999)) := rfl
theorem BL_10 (X : Int → Int) (N : Int) : (BL X N)[10]? = some ([true, true, true, true, true, false, false], (bLw_10 X N, 9999)) := rfl
theorem BL_11 (X : Int → Int) (N : Int) : (BL X N)[11]? = some ([false, false, false, false, false, false, false], (bLw_11 X N, 9999)) := rfl
theorem BL_12 (X : Int → Int) (N : Int) : (BL X N)[12]? = some ([true, true, true, true, true, false, false], (bLw_12 X N, 9999)) := rfl
theorem BL_13 (X : Int → Int) (N : Int) : (BL X N)[13]? = some ([false, false, false, false, false, false, false], (bLw_13 X N, 9999)) := rfl
theorem BL_14 (X : Int → Int) (N : Int) : (BL X N)[14]? = some ([true, true, true, true, true, true, true], (bLw_14 X N, 9999)) := rfl
theorem BL_15 (X : Int → Int) (N : Int) : (BL X N)[15]? = some ([true, true, true, true, true, false, true], (bLw_15 X N, 9999)) := rfl
theorem BL_16 (X : Int → Int) (N : Int) : (BL X N)[16]? = some ([false, false, false, false, false, false, false], (bLw_16 X N, 9999)) := rfl
theorem BL_17 (X : Int → Int) (N : Int) : (BL X N)[17]? = some ([true, true, true, true, true, false, false], (bLw_17 X N, 9999)) := rfl
theorem BL_18 (X : Int → Int) (N : Int) : (BL X N)[18]? = some ([true, true, true, true, true, false, false], (bLw_18 X N, 9999)) := rfl
theorem BL_19 (X : Int → Int) (N : Int) : (BL X N)[19]? = some ([false, false, false, false, false, false, false], (bLw_19 X N, 9999)) := rfl
theorem BL_20 (X : Int → Int) (N : Int) : (BL X N)[20]? = some ([true, true, true, true, true, false, false], (bLw_20 X N, 9999)) := rfl
theorem BL_21 (X : Int → Int) (N : Int) : (BL X N)[21]? = some ([false, false, false, false, false, false, false], (bLw_21 X N, 9999)) := rfl
theorem BL_22 (X : Int → Int) (N : Int) : (BL X N)[22]? = some ([true, true, true, true, true, false, false], (bLw_22 X N, 9999)) := rfl
theorem BL_23 (X : Int → Int) (N : Int) : (BL X N)[23]? = some ([false, false, false, false, false, false, false], (bLw_23 X N, 9999)) := rfl
theorem BL_24 (X : Int → Int) (N : Int) : (BL X N)[24]? = some ([true, true, true, true, true, false, false], (bLw_24 X N, 9999)) := rfl
theorem BL_25 (X : Int → Int) (N : Int) : (BL X N)[25]? = some ([false, false, false, false, false, false, false], (bLw_25 X N, 9999)) := rfl
theorem BL_26 (X : Int → Int) (N : Int) : (BL X N)[26]? = some ([true, true, true, true, true, false, false], (bLw_26 X N, 9999)) := rfl
theorem BL_27 (X : Int → Int) (N : Int) : (BL X N)[27]? = some ([false, false, false, false, false, false, false], (bLw_27 X N, 9999)) := rfl
theorem BL_28 (X : Int → Int) (N : Int) : (BL X N)[28]? = some ([true, true, true, true, true, false, false], (bLw_28 X N, 9999)) := rfl
theorem BL_29 (X : Int → Int) (N : Int) : (BL X N)[29]? = some ([false, false, false, false, false, false, false], (bLw_29 X N, 9999)) := rfl
theorem BL_30 (X : Int → Int) (N : Int) : (BL X N)[30]? = some ([true, true, true, true, true, false, false], (bLw_30 X N, 9999)) := rfl
theorem BL_31 (X : Int → Int) (N : Int) : (BL X N)[31]? = some ([false, false, false, false, false, false, false], (bLw_31 X N, 9999)) := rfl
theorem BL_32 (X : Int → Int) (N : Int) : (BL X N)[32]? = some ([true, true, true, true, true, false, false], (bLw_32 X N, 9999)) := rfl
theorem BL_33 (X : Int → Int) (N : Int) : (BL X N)[33]? = some ([false, false, false, false, false, false, false], (bLw_33 X N, 9999)) := rfl
theorem BL_34 (X : Int → Int) (N : Int) : (BL X N)[34]? = some ([true, true, true, true, true, false, false], (bLw_34 X N, 9999)) := rfl
theorem BL_35 (X : Int → Int) (N : Int) : (BL X N)[35]? = some ([false, false, false, false, false, false, false], (bLw_35 X N, 9999)) := rfl
theorem BL_36 (X : Int → Int) (N : Int) : (BL X N)[36]? = some ([true, true, true, true, true, false, false], (bLw_36 X N, 9999)) := rfl
theorem BL_37 (X : Int → Int) (N : Int) : (BL X N)[37]? = some ([false, false, false, false, false, false, false], (bLw_37 X N, 9999)) := rfl
theorem BL_38 (X : Int → Int) (N : Int) : (BL X N)[38]? = some ([true, true, true, true, true, false, false], (bLw_38 X N, 9999)) := rfl
theorem BL_39 (X : Int → Int) (N : Int) : (BL X N)[39]? = some ([false, false, false, false, false, false, false], (bLw_39 X N, 9999)) := rfl
theorem BL_40 (X : Int → Int) (N : Int) : (BL X N)[40]? = some ([true, true, true, true, true, false, false], (bLw_40 X N, 9999)) := rfl
theorem BL_41 (X : Int → Int) (N : Int) : (BL X N)[41]? = some ([false, false, false, false, false, false, false], (bLw_41 X N, 9999)) := rfl
theorem BL_42 (X : Int → Int) (N : Int) : (BL X N)[42]? = some ([true, true, true, true, true, false, false], (bLw_42 X N, 9999)) := rfl
theorem BL_43 (X : Int → Int) (N : Int) : (BL X N)[43]? = some ([false, false, false, false, false, false, false], (bLw_43 X N, 9999)) := rfl
theorem BL_44 (X : Int → Int) (N : Int) : (BL X N)[44]? = some ([true, true, true, true, true, false, false], (bLw_44 X N, 9999)) := rfl
theorem BL_45 (X : Int → Int) (N : Int) : (BL X N)[45]? = some ([false, false, false, false, false, false, false], (bLw_45 X N, 9999)) := rfl
theorem BL_46 (X : Int → Int) (N : Int) : (BL X N)[46]? = some ([true, true, true, true, true, false, false], (bLw_46 X N, 9999)) := rfl
theorem BL_47 (X : Int → Int) (N : Int) : (BL X N)[47]? = some ([false, false, false, false, false, false, false], (bLw_47 X N, 9999)) := rfl
theorem BL_48 (X : Int → Int) (N : Int) : (BL X N)[48]? = some ([true, true, true, true, true, false, false], (bLw_48 X N, 9999)) := rfl
theorem BL_49 (X : Int → Int) (N : Int) : (BL X N)[49]? = some ([false, false, false, false, false, false, false], (bLw_49 X N, 9999)) := rfl
theorem BL_50 (X : Int → Int) (N : Int) : (BL X N)[50]? = some ([true, true, true, true, true, false, false], (bLw_50 X N, 9999)) := rfl
theorem BL_51 (X : Int → Int) (N : Int) : (BL X N)[51]? = some ([false, false, false, false, false, false, false], (bLw_51 X N, 9999)) := rfl
theorem BL_52 (X : Int → Int) (N : Int) : (BL X N)[52]? = some ([true, true, true, true, true, false, false], (bLw_52 X N, 9999)) := rfl
theorem BL_53 (X : Int → Int) (N : Int) : (BL X N)[53]? = some ([false, false, false, false, false, false, false], (bLw_53 X N, 9999)) := rfl
theorem BL_54 (X : Int → Int) (N : Int) : (BL X N)[54]? = some ([true, true, true, true, true, false, false], (bLw_54 X N, 9999)) := rfl
theorem BL_55 (X : Int → Int) (N : Int) : (BL X N)[55]? = some ([false, false, false, false, false, false, false], (bLw_55 X N, 9999)) := rfl
theorem BL_56 (X : Int → Int) (N : Int) : (BL X N)[56]? = some ([true, true, true, true, true, false, false], (bLw_56 X N, 9999)) := rfl
theorem BL_57 (X : Int → Int) (N : Int) : (BL X N)[57]? = some ([false, false, false, false, false, false, false], (bLw_57 X N, 9999)) := rfl
theorem BL_58 (X : Int → Int) (N : Int) : (BL X N)[58]? = some ([true, true, true, true, true, false, false], (bLw_58 X N, 9999)) := rfl
theorem BL_59 (X : Int → Int) (N : Int) : (BL X N)[59]? = some ([true, true, true, true, true, false, false], (bLw_59 X N, 9999)) := rfl
theorem BL_60 (X : Int → Int) (N : Int) : (BL X N)[60]? = some ([true, true, true, true, true, false, false], (bLw_60 X N, 61)) := rfl
theorem BL_61 (X : Int → Int) (N : Int) : (BL X N)[61]? = some ([true, true, true, true, true, false, false], (bLw_61 X N, 9999)) := rfl
theorem BL_62 (X : Int → Int) (N : Int) : (BL X N)[62]? = some ([true, true, true, true, true, false, false], (bLw_62 X N, 9999)) := rfl
theorem BL_63 (X : Int → Int) (N : Int) : (BL X N)[63]? = some ([true, true, true, true, true, false, false], (bLw_63 X N, 64)) := rfl
theorem BL_64 (X : Int → Int) (N : Int) : (BL X N)[64]? = some ([true, true, true, true, true, false, false], (bLw_64 X N, 9999)) := rfl
theorem BL_65 (X : Int → Int) (N : Int) : (BL X N)[65]? = some ([false, false, false, false, false, false, false], (bLw_65 X N, 9999)) := rfl
theorem BL_66 (X : Int → Int) (N : Int) : (BL X N)[66]? = some ([true, true, true, true, true, false, false], (bLw_66 X N, 9999)) := rfl
theorem BL_67 (X : Int → Int) (N : Int) : (BL X N)[67]? = some ([false, false, false, false, false, false, false], (bLw_67 X N, 9999)) := rfl
theorem BL_68 (X : Int → Int) (N : Int) : (BL X N)[68]? = some ([true, true, true, true, true, false, false], (bLw_68 X N, 9999)) := rfl
theorem BL_69 (X : Int → Int) (N : Int) : (BL X N)[69]? = some ([false, false, false, false, false, false, false], (bLw_69 X N, 9999)) := rfl
theorem BL_70 (X : Int → Int) (N : Int) : (BL X N)[70]? = some ([true, true, true, true, true, false, false], (bLw_70 X N, 9999)) := rfl
theorem BL_71 (X : Int → Int) (N : Int) : (BL X N)[71]? = some ([false, false, false, false, false, false, false], (bLw_71 X N, 9999)) := rfl
theorem BL_72 (X : Int → Int) (N : Int) : (BL X N)[72]? = some ([true, true, true, true, true, false, false], (bLw_72 X N, 9999)) := rfl
theorem BL_73 (X : Int → Int) (N : Int) : (BL X N)[73]? = some ([false, false, false, false, false, false, false], (bLw_73 X N, 9999)) := rfl
theorem BL_74 (X : Int → Int) (N : Int) : (BL X N)[74]? = some ([true, true, true, true, true, false, false], (bLw_74 X N, 9999)) := rfl
theorem BL_75 (X : Int → Int) (N : Int) : (BL X N)[75]? = some ([false, false, false, false, false, false, false], (bLw_75 X N, 9999)) := rfl
theorem BL_76 (X : Int → Int) (N : Int) : (BL X N)[76]? = some ([true, true, true, true, true, false, false], (bLw_76 X N, 9999)) := rfl
theorem BL_77 (X : Int → Int) (N : Int) : (BL X N)[77]? = some ([false, false, false, false, false, false, false], (bLw_77 X N, 9999)) := rfl
theorem BL_78 (X : Int → Int) (N : Int) : (BL X N)[78]? = some ([true, true, true, true, true, false, false], (bLw_78 X N, 9999)) := rfl
theorem BL_79 (X : Int → Int) (N : Int) : (BL X N)[79]? = some ([false, false, false, false, false, false, false], (bLw_79 X N, 9999)) := rfl
theorem BL_80 (X : Int → Int) (N : Int) : (BL X N)[80]? = some ([true, true, true, true, true, false, false], (bLw_80 X N, 9999)) := rfl
theorem BL_81 (X : Int → Int) (N : Int) : (BL X N)[81]? = some ([false, false, false, false, false, false, false], (bLw_81 X N, 9999)) := rfl
theorem BL_82 (X : Int → Int) (N : Int) : (BL X N)[82]? = some ([true, true, true, true, true, false, false], (bLw_82 X N, 9999)) := rfl
theorem BL_83 (X : Int → Int) (N : Int) : (BL X N)[83]? = some ([false, false, false, false, false, false, false], (bLw_83 X N, 9999)) := rfl
theorem BL_84 (X : Int → Int) (N : Int) : (BL X N)[84]? = some ([true, true, true, true, true, false, false], (bLw_84 X N, 9999)) := rfl
theorem BL_85 (X : Int → Int) (N : Int) : (BL X N)[85]? = some ([false, false, false, false, false, false, false], (bLw_85 X N, 9999)) := rfl
theorem BL_86 (X : Int → Int) (N : Int) : (BL X N)[86]? = some ([true, true, true, true, true, false, false], (bLw_86 X N, 9999)) := rfl
theorem BL_87 (X : Int → Int) (N : Int) : (BL X N)[87]? = some ([false, false, false, false, false, false, false], (bLw_87 X N, 9999)) := rfl
section
variable {X : Int → Int} {N z : Int}
set_option maxRecDepth 20000 in
theorem LC_6 (hN : N ≤ 3072) : LC X N z 6 := fun i K S h T W I U Q i0 i1 st => by
  obtain ⟨h1, h2, v, T1, W1, I1, U1, Q1, e1, e2, s2⟩ := B_text st (X (i + 1))
  have e2 : Mo_text h1 94 (X (i + 1)) = some (h2, v) := e2
  refine ⟨h2, T1, W1, I1, U1, Q1, fun r q => LA_j (L1 := Lx z i) (BL_6 X N) (BL_86 X N) (fun J => ?_) q, ST_mo s2 (by omega) (by omega)⟩
  show ck_ (0 ≤ (w32 (i + 1)) ∧ (w32 (i + 1)) < N) (ck_ (0 ≤ (0 : Int)) (bd_ (CC 139 [(21, 0), (0, X (w32 (i + 1)))] h) fun h1 v2 => ck_ (0 ≤ (w32 (i + 1)) ∧ (w32 (i + 1)) < N) (ck_ (0 ≤ (94 : Int)) (bd_ (CC 227 [(22, 94), (0, X (w32 (i + 1)))] h1) fun h3 v4 => if v2 = v4 then J 86 [(5, z), (21, 0), (22, 94), (33, 143), (0, i), (9, 0), (9, 0)] [] h3 else J 7 [(5, z), (21, 0), (22, 94), (33, 143), (0, i), (9, 0), (9, 0)] [] h3)))) = _
  try simp (disch := omega) only [w32_i]
  repeat first | rw [ck_t (by omega)] | rw [cc_139, e1, bd_v] | rw [cc_227, e2, bd_v]
  try rw [lcm_s]
  rw [if_pos rfl]
set_option maxRecDepth 20000 in
theorem LC_8 (hN : N ≤ 3072) : LC X N z 8 := fun i K S h T W I U Q i0 i1 st => by
  obtain ⟨h1, h2, v, T1, W1, I1, U1, Q1, e1, e2, s2⟩ := B_fault st (X (i + 1))
  have e2 : Mo_fault h1 94 (X (i + 1)) = some (h2, v) := e2
  refine ⟨h2, T1, W1, I1, U1, Q1, fun r q => LA_j (L1 := Lx z i) (BL_8 X N) (BL_86 X N) (fun J => ?_) q, ST_mo s2 (by omega) (by omega)⟩
  show ck_ (0 ≤ (w32 (i + 1)) ∧ (w32 (i + 1)) < N) (ck_ (0 ≤ (0 : Int)) (bd_ (CC 140 [(21, 0), (0, X (w32 (i + 1)))] h) fun h1 v2 => ck_ (0 ≤ (w32 (i + 1)) ∧ (w32 (i + 1)) < N) (ck_ (0 ≤ (94 : Int)) (bd_ (CC 228 [(22, 94), (0, X (w32 (i + 1)))] h1) fun h3 v4 => if v2 = v4 then J 86 [(5, z), (21, 0), (22, 94), (33, 143), (0, i), (9, 0), (9, 0)] [] h3 else J 9 [(5, z), (21, 0), (22, 94), (33, 143), (0, i), (9, 0), (9, 0)] [] h3)))) = _
  try simp (disch := omega) only [w32_i]
  repeat first | rw [ck_t (by omega)] | rw [cc_140, e1, bd_v] | rw [cc_228, e2, bd_v]
  try rw [lcm_s]
  rw [if_pos rfl]
set_option maxRecDepth 20000 in
theorem LC_10 (hN : N ≤ 3072) : LC X N z 10 := fun i K S h T W I U Q i0 i1 st => by
  obtain ⟨h1, h2, v, T1, W1, I1, U1, Q1, e1, e2, s2⟩ := B_named st (X (i + 1)) (X (i + 2))
  have e2 : Mo_named h1 94 (X (i + 1)) (X (i + 2)) = some (h2, v) := e2
  refine ⟨h2, T1, W1, I1, U1, Q1, fun r q => LA_j (L1 := Lx z i) (BL_10 X N) (BL_86 X N) (fun J => ?_) q, ST_mo s2 (by omega) (by omega)⟩
  show ck_ (0 ≤ (w32 (i + 1)) ∧ (w32 (i + 1)) < N) (ck_ (0 ≤ (w32 (i + 2)) ∧ (w32 (i + 2)) < N) (ck_ (0 ≤ (0 : Int)) (bd_ (CC 141 [(21, 0), (0, X (w32 (i + 1))), (0, X (w32 (i + 2)))] h) fun h1 v2 => ck_ (0 ≤ (w32 (i + 1)) ∧ (w32 (i + 1)) < N) (ck_ (0 ≤ (w32 (i + 2)) ∧ (w32 (i + 2)) < N) (ck_ (0 ≤ (94 : Int)) (bd_ (CC 229 [(22, 94), (0, X (w32 (i + 1))), (0, X (w32 (i + 2)))] h1) fun h3 v4 => if v2 = v4 then J 86 [(5, z), (21, 0), (22, 94), (33, 143), (0, i), (9, 0), (9, 0)] [] h3 else J 11 [(5, z), (21, 0), (22, 94), (33, 143), (0, i), (9, 0), (9, 0)] [] h3)))))) = _
  try simp (disch := omega) only [w32_i]
  repeat first | rw [ck_t (by omega)] | rw [cc_141, e1, bd_v] | rw [cc_229, e2, bd_v]
  try rw [lcm_s]
  rw [if_pos rfl]
set_option maxRecDepth 20000 in
theorem LC_18 (hN : N ≤ 3072) : LC X N z 18 := fun i K S h T W I U Q i0 i1 st => by
  obtain ⟨h1, h2, v, T1, W1, I1, U1, Q1, e1, e2, s2⟩ := B_plate st (X (i + 1)) (X (i + 2)) (X (i + 3))
  have e2 : Mo_plate h1 94 (X (i + 1)) (X (i + 2)) (X (i + 3)) = some (h2, v) := e2
  refine ⟨h2, T1, W1, I1, U1, Q1, fun r q => LA_j (L1 := Lx z i) (BL_18 X N) (BL_86 X N) (fun J => ?_) q, ST_mo s2 (by omega) (by omega)⟩
  show ck_ (0 ≤ (w32 (i + 1)) ∧ (w32 (i + 1)) < N) (ck_ (0 ≤ (w32 (i + 2)) ∧ (w32 (i + 2)) < N) (ck_ (0 ≤ (w32 (i + 3)) ∧ (w32 (i + 3)) < N) (ck_ (0 ≤ (0 : Int)) (bd_ (CC 143 [(21, 0), (0, X (w32 (i + 1))), (0, X (w32 (i + 2))), (0, X (w32 (i + 3)))] h) fun h1 v2 => ck_ (0 ≤ (w32 (i + 1)) ∧ (w32 (i + 1)) < N) (ck_ (0 ≤ (w32 (i + 2)) ∧ (w32 (i + 2)) < N) (ck_ (0 ≤ (w32 (i + 3)) ∧ (w32 (i + 3)) < N) (ck_ (0 ≤ (94 : Int)) (bd_ (CC 261 [(22, 94), (0, X (w32 (i + 1))), (0, X (w32 (i + 2))), (0, X (w32 (i + 3)))] h1) fun h3 v4 => if v2 = v4 then J 86 [(5, z), (21, 0), (22, 94), (33, 143), (0, i), (9, 0), (9, 0)] [] h3 else J 19 [(5, z), (21, 0), (22, 94), (33, 143), (0, i), (9, 0), (9, 0)] [] h3)))))))) = _
  try simp (disch := omega) only [w32_i]
  repeat first | rw [ck_t (by omega)] | rw [cc_143, e1, bd_v] | rw [cc_261, e2, bd_v]
  try rw [lcm_s]
  rw [if_pos rfl]
set_option maxRecDepth 20000 in
theorem LC_20 (hN : N ≤ 3072) : LC X N z 20 := fun i K S h T W I U Q i0 i1 st => by
  obtain ⟨h1, h2, v, T1, W1, I1, U1, Q1, e1, e2, s2⟩ := B_maid st (X (i + 1)) (X (i + 2))
  have e2 : Mo_maid h1 94 (X (i + 1)) (X (i + 2)) = some (h2, v) := e2
  refine ⟨h2, T1, W1, I1, U1, Q1, fun r q => LA_j (L1 := Lx z i) (BL_20 X N) (BL_86 X N) (fun J => ?_) q, ST_mo s2 (by omega) (by omega)⟩
  show ck_ (0 ≤ (w32 (i + 1)) ∧ (w32 (i + 1)) < N) (ck_ (0 ≤ (w32 (i + 2)) ∧ (w32 (i + 2)) < N) (ck_ (0 ≤ (0 : Int)) (bd_ (CC 144 [(21, 0), (0, X (w32 (i + 1))), (0, X (w32 (i + 2)))] h) fun h1 v2 => ck_ (0 ≤ (w32 (i + 1)) ∧ (w32 (i + 1)) < N) (ck_ (0 ≤ (w32 (i + 2)) ∧ (w32 (i + 2)) < N) (ck_ (0 ≤ (94 : Int)) (bd_ (CC 262 [(22, 94), (0, X (w32 (i + 1))), (0, X (w32 (i + 2)))] h1) fun h3 v4 => if v2 = v4 then J 86 [(5, z), (21, 0), (22, 94), (33, 143), (0, i), (9, 0), (9, 0)] [] h3 else J 21 [(5, z), (21, 0), (22, 94), (33, 143), (0, i), (9, 0), (9, 0)] [] h3)))))) = _
  try simp (disch := omega) only [w32_i]
  repeat first | rw [ck_t (by omega)] | rw [cc_144, e1, bd_v] | rw [cc_262, e2, bd_v]
  try rw [lcm_s]
  rw [if_pos rfl]
set_option maxRecDepth 20000 in
theorem LC_22 (hN : N ≤ 3072) : LC X N z 22 := fun i K S h T W I U Q i0 i1 st => by
  obtain ⟨h1, h2, v, T1, W1, I1, U1, Q1, e1, e2, s2⟩ := B_law st (X (i + 1)) (X (i + 2)) (X (i + 3)) (X (i + 4))
  have e2 : Mo_law h1 94 (X (i + 1)) (X (i + 2)) (X (i + 3)) (X (i + 4)) = some (h2, v) := e2
  refine ⟨h2, T1, W1, I1, U1, Q1, fun r q => LA_j (L1 := Lx z i) (BL_22 X N) (BL_86 X N) (fun J => ?_) q, ST_mo s2 (by omega) (by omega)⟩
  show ck_ (0 ≤ (w32 (i + 1)) ∧ (w32 (i + 1)) < N) (ck_ (0 ≤ (w32 (i + 2)) ∧ (w32 (i + 2)) < N) (ck_ (0 ≤ (w32 (i + 3)) ∧ (w32 (i + 3)) < N) (ck_ (0 ≤ (w32 (i + 4)) ∧ (w32 (i + 4)) < N) (ck_ (0 ≤ (0 : Int)) (bd_ (CC 145 [(21, 0), (0, X (w32 (i + 1))), (0, X (w32 (i + 2))), (0, X (w32 (i + 3))), (0, X (w32 (i + 4)))] h) fun h1 v2 => ck_ (0 ≤ (w32 (i + 1)) ∧ (w32 (i + 1)) < N) (ck_ (0 ≤ (w32 (i + 2)) ∧ (w32 (i + 2)) < N) (ck_ (0 ≤ (w32 (i + 3)) ∧ (w32 (i + 3)) < N) (ck_ (0 ≤ (w32 (i + 4)) ∧ (w32 (i + 4)) < N) (ck_ (0 ≤ (94 : Int)) (bd_ (CC 263 [(22, 94), (0, X (w32 (i + 1))), (0, X (w32 (i + 2))), (0, X (w32 (i + 3))), (0, X (w32 (i + 4)))] h1) fun h3 v4 => if (lcm_ v2 v4) = 0 then J 86 [(5, z), (21, 0), (22, 94), (33, 143), (0, i), (9, 0), (9, 0)] [] h3 else J 23 [(5, z), (21, 0), (22, 94), (33, 143), (0, i), (9, 0), (9, 0)] [] h3)))))))))) = _
  try simp (disch := omega) only [w32_i]
  repeat first | rw [ck_t (by omega)] | rw [cc_145, e1, bd_v] | rw [cc_263, e2, bd_v]
  try rw [lcm_s]
  rw [if_pos rfl]
set_option maxRecDepth 20000 in
theorem LC_24 (hN : N ≤ 3072) : LC X N z 24 := fun i K S h T W I U Q i0 i1 st => by
  obtain ⟨h1, h2, v, T1, W1, I1, U1, Q1, e1, e2, s2⟩ := B_turn st (X (i + 1)) (X (i + 2))
  have e2 : Mo_turn h1 94 (X (i + 1)) (X (i + 2)) = some (h2, v) := e2
  refine ⟨h2, T1, W1, I1, U1, Q1, fun r q => LA_j (L1 := Lx z i) (BL_24 X N) (BL_86 X N) (fun J => ?_) q, ST_mo s2 (by omega) (by omega)⟩
  show ck_ (0 ≤ (w32 (i + 1)) ∧ (w32 (i + 1)) < N) (ck_ (0 ≤ (w32 (i + 2)) ∧ (w32 (i + 2)) < N) (ck_ (0 ≤ (0 : Int)) (bd_ (CC 146 [(21, 0), (0, X (w32 (i + 1))), (0, X (w32 (i + 2)))] h) fun h1 v2 => ck_ (0 ≤ (w32 (i + 1)) ∧ (w32 (i + 1)) < N) (ck_ (0 ≤ (w32 (i + 2)) ∧ (w32 (i + 2)) < N) (ck_ (0 ≤ (94 : Int)) (bd_ (CC 266 [(22, 94), (0, X (w32 (i + 1))), (0, X (w32 (i + 2)))] h1) fun h3 v4 => if v2 = v4 then J 86 [(5, z), (21, 0), (22, 94), (33, 143), (0, i), (9, 0), (9, 0)] [] h3 else J 25 [(5, z), (21, 0), (22, 94), (33, 143), (0, i), (9, 0), (9, 0)] [] h3)))))) = _
  try simp (disch := omega) only [w32_i]
  repeat first | rw [ck_t (by omega)] | rw [cc_146, e1, bd_v] | rw [cc_266, e2, bd_v]
  try rw [lcm_s]
  rw [if_pos rfl]
set_option maxRecDepth 20000 in
theorem LC_26 (hN : N ≤ 3072) : LC X N z 26 := fun i K S h T W I U Q i0 i1 st => by
  obtain ⟨h1, h2, v, T1, W1, I1, U1, Q1, e1, e2, s2⟩ := B_move st (X (i + 1)) (X (i + 2))
  have e2 : Mo_move h1 94 (X (i + 1)) (X (i + 2)) = some (h2, v) := e2
  refine ⟨h2, T1, W1, I1, U1, Q1, fun r q => LA_j (L1 := Lx z i) (BL_26 X N) (BL_86 X N) (fun J => ?_) q, ST_mo s2 (by omega) (by omega)⟩
  show ck_ (0 ≤ (w32 (i + 1)) ∧ (w32 (i + 1)) < N) (ck_ (0 ≤ (w32 (i + 2)) ∧ (w32 (i + 2)) < N) (ck_ (0 ≤ (0 : Int)) (bd_ (CC 147 [(21, 0), (0, X (w32 (i + 1))), (0, X (w32 (i + 2)))] h) fun h1 v2 => ck_ (0 ≤ (w32 (i + 1)) ∧ (w32 (i + 1)) < N) (ck_ (0 ≤ (w32 (i + 2)) ∧ (w32 (i + 2)) < N) (ck_ (0 ≤ (94 : Int)) (bd_ (CC 267 [(22, 94), (0, X (w32 (i + 1))), (0, X (w32 (i + 2)))] h1) fun h3 v4 => if v2 = v4 then J 86 [(5, z), (21, 0), (22, 94), (33, 143), (0, i), (9, 0), (9, 0)] [] h3 else J 27 [(5, z), (21, 0), (22, 94), (33, 143), (0, i), (9, 0), (9, 0)] [] h3)))))) = _
  try simp (disch := omega) only [w32_i]
  repeat first | rw [ck_t (by omega)] | rw [cc_147, e1, bd_v] | rw [cc_267, e2, bd_v]
  try rw [lcm_s]
  rw [if_pos rfl]
set_option maxRecDepth 20000 in
theorem LC_28 (hN : N ≤ 3072) : LC X N z 28 := fun i K S h T W I U Q i0 i1 st => by
  obtain ⟨h1, h2, v, T1, W1, I1, U1, Q1, e1, e2, s2⟩ := B_crack st (X (i + 1)) (X (i + 2))
  have e2 : Mo_crack h1 94 (X (i + 1)) (X (i + 2)) = some (h2, v) := e2
  refine ⟨h2, T1, W1, I1, U1, Q1, fun r q => LA_j (L1 := Lx z i) (BL_28 X N) (BL_86 X N) (fun J => ?_) q, ST_mo s2 (by omega) (by omega)⟩
  show ck_ (0 ≤ (w32 (i + 1)) ∧ (w32 (i + 1)) < N) (ck_ (0 ≤ (w32 (i + 2)) ∧ (w32 (i + 2)) < N) (ck_ (0 ≤ (0 : Int)) (bd_ (CC 148 [(21, 0), (0, X (w32 (i + 1))), (0, X (w32 (i + 2)))] h) fun h1 v2 => ck_ (0 ≤ (w32 (i + 1)) ∧ (w32 (i + 1)) < N) (ck_ (0 ≤ (w32 (i + 2)) ∧ (w32 (i + 2)) < N) (ck_ (0 ≤ (94 : Int)) (bd_ (CC 268 [(22, 94), (0, X (w32 (i + 1))), (0, X (w32 (i + 2)))] h1) fun h3 v4 => if v2 = v4 then J 86 [(5, z), (21, 0), (22, 94), (33, 143), (0, i), (9, 0), (9, 0)] [] h3 else J 29 [(5, z), (21, 0), (22, 94), (33, 143), (0, i), (9, 0), (9, 0)] [] h3)))))) = _
  try simp (disch := omega) only [w32_i]
  repeat first | rw [ck_t (by omega)] | rw [cc_148, e1, bd_v] | rw [cc_268, e2, bd_v]
  try rw [lcm_s]
  rw [if_pos rfl]
set_option maxRecDepth 20000 in
theorem LC_30 (hN : N ≤ 3072) : LC X N z 30 := fun i K S h T W I U Q i0 i1 st => by
  obtain ⟨h1, h2, v, T1, W1, I1, U1, Q1, e1, e2, s2⟩ := B_go st (X (i + 1))
  have e2 : Mo_go h1 94 (X (i + 1)) = some (h2, v) := e2
  refine ⟨h2, T1, W1, I1, U1, Q1, fun r q => LA_j (L1 := Lx z i) (BL_30 X N) (BL_86 X N) (fun J => ?_) q, ST_mo s2 (by omega) (by omega)⟩
  show ck_ (0 ≤ (w32 (i + 1)) ∧ (w32 (i + 1)) < N) (ck_ (0 ≤ (0 : Int)) (bd_ (CC 149 [(21, 0), (0, X (w32 (i + 1)))] h) fun h1 v2 => ck_ (0 ≤ (w32 (i + 1)) ∧ (w32 (i + 1)) < N) (ck_ (0 ≤ (94 : Int)) (bd_ (CC 269 [(22, 94), (0, X (w32 (i + 1)))] h1) fun h3 v4 => if v2 = v4 then J 86 [(5, z), (21, 0), (22, 94), (33, 143), (0, i), (9, 0), (9, 0)] [] h3 else J 31 [(5, z), (21, 0), (22, 94), (33, 143), (0, i), (9, 0), (9, 0)] [] h3)))) = _
  try simp (disch := omega) only [w32_i]
  repeat first | rw [ck_t (by omega)] | rw [cc_149, e1, bd_v] | rw [cc_269, e2, bd_v]
  try rw [lcm_s]
  rw [if_pos rfl]
set_option maxRecDepth 20000 in
theorem LC_32 (hN : N ≤ 3072) : LC X N z 32 := fun i K S h T W I U Q i0 i1 st => by
  obtain ⟨h1, h2, v, T1, W1, I1, U1, Q1, e1, e2, s2⟩ := B_ahead st (X (i + 1)) (X (i + 2)) (X (i + 3))
  have e2 : Mo_ahead h1 94 (X (i + 1)) (X (i + 2)) (X (i + 3)) = some (h2, v) := e2
  refine ⟨h2, T1, W1, I1, U1, Q1, fun r q => LA_j (L1 := Lx z i) (BL_32 X N) (BL_86 X N) (fun J => ?_) q, ST_mo s2 (by omega) (by omega)⟩
  show ck_ (0 ≤ (w32 (i + 1)) ∧ (w32 (i + 1)) < N) (ck_ (0 ≤ (w32 (i + 2)) ∧ (w32 (i + 2)) < N) (ck_ (0 ≤ (w32 (i + 3)) ∧ (w32 (i + 3)) < N) (ck_ (0 ≤ (0 : Int)) (bd_ (CC 150 [(21, 0), (0, X (w32 (i + 1))), (0, X (w32 (i + 2))), (0, X (w32 (i + 3)))] h) fun h1 v2 => ck_ (0 ≤ (w32 (i + 1)) ∧ (w32 (i + 1)) < N) (ck_ (0 ≤ (w32 (i + 2)) ∧ (w32 (i + 2)) < N) (ck_ (0 ≤ (w32 (i + 3)) ∧ (w32 (i + 3)) < N) (ck_ (0 ≤ (94 : Int)) (bd_ (CC 270 [(22, 94), (0, X (w32 (i + 1))), (0, X (w32 (i + 2))), (0, X (w32 (i + 3)))] h1) fun h3 v4 => if v2 = v4 then J 86 [(5, z), (21, 0), (22, 94), (33, 143), (0, i), (9, 0), (9, 0)] [] h3 else J 33 [(5, z), (21, 0), (22, 94), (33, 143), (0, i), (9, 0), (9, 0)] [] h3)))))))) = _
  try simp (disch := omega) only [w32_i]
  repeat first | rw [ck_t (by omega)] | rw [cc_150, e1, bd_v] | rw [cc_270, e2, bd_v]
  try rw [lcm_s]
  rw [if_pos rfl]
set_option maxRecDepth 20000 in
theorem LC_34 (hN : N ≤ 3072) : LC X N z 34 := fun i K S h T W I U Q i0 i1 st => by
  obtain ⟨h1, h2, v, T1, W1, I1, U1, Q1, e1, e2, s2⟩ := B_rightWhen st (X (i + 1))
  have e2 : Mo_rightWhen h1 94 (X (i + 1)) = some (h2, v) := e2
  refine ⟨h2, T1, W1, I1, U1, Q1, fun r q => LA_j (L1 := Lx z i) (BL_34 X N) (BL_86 X N) (fun J => ?_) q, ST_mo s2 (by omega) (by omega)⟩
  show ck_ (0 ≤ (w32 (i + 1)) ∧ (w32 (i + 1)) < N) (ck_ (0 ≤ (0 : Int)) (bd_ (CC 151 [(21, 0), (0, X (w32 (i + 1)))] h) fun h1 v2 => ck_ (0 ≤ (w32 (i + 1)) ∧ (w32 (i + 1)) < N) (ck_ (0 ≤ (94 : Int)) (bd_ (CC 271 [(22, 94), (0, X (w32 (i + 1)))] h1) fun h3 v4 => if v2 = v4 then J 86 [(5, z), (21, 0), (22, 94), (33, 143), (0, i), (9, 0), (9, 0)] [] h3 else J 35 [(5, z), (21, 0), (22, 94), (33, 143), (0, i), (9, 0), (9, 0)] [] h3)))) = _
  try simp (disch := omega) only [w32_i]
  repeat first | rw [ck_t (by omega)] | rw [cc_151, e1, bd_v] | rw [cc_271, e2, bd_v]
  try rw [lcm_s]
  rw [if_pos rfl]
set_option maxRecDepth 20000 in
theorem LC_36 (hN : N ≤ 3072) : LC X N z 36 := fun i K S h T W I U Q i0 i1 st => by
  obtain ⟨h1, h2, v, T1, W1, I1, U1, Q1, e1, e2, s2⟩ := B_fewest st (X (i + 1)) (X (i + 2))
  have e2 : Mo_fewest h1 94 (X (i + 1)) (X (i + 2)) = some (h2, v) := e2
  refine ⟨h2, T1, W1, I1, U1, Q1, fun r q => LA_j (L1 := Lx z i) (BL_36 X N) (BL_86 X N) (fun J => ?_) q, ST_mo s2 (by omega) (by omega)⟩
  show ck_ (0 ≤ (w32 (i + 1)) ∧ (w32 (i + 1)) < N) (ck_ (0 ≤ (w32 (i + 2)) ∧ (w32 (i + 2)) < N) (ck_ (0 ≤ (0 : Int)) (bd_ (CC 153 [(21, 0), (0, X (w32 (i + 1))), (0, X (w32 (i + 2)))] h) fun h1 v2 => ck_ (0 ≤ (w32 (i + 1)) ∧ (w32 (i + 1)) < N) (ck_ (0 ≤ (w32 (i + 2)) ∧ (w32 (i + 2)) < N) (ck_ (0 ≤ (94 : Int)) (bd_ (CC 278 [(22, 94), (0, X (w32 (i + 1))), (0, X (w32 (i + 2)))] h1) fun h3 v4 => if v2 = v4 then J 86 [(5, z), (21, 0), (22, 94), (33, 143), (0, i), (9, 0), (9, 0)] [] h3 else J 37 [(5, z), (21, 0), (22, 94), (33, 143), (0, i), (9, 0), (9, 0)] [] h3)))))) = _
  try simp (disch := omega) only [w32_i]
  repeat first | rw [ck_t (by omega)] | rw [cc_153, e1, bd_v] | rw [cc_278, e2, bd_v]
  try rw [lcm_s]
  rw [if_pos rfl]
set_option maxRecDepth 20000 in
theorem LC_38 (hN : N ≤ 3072) : LC X N z 38 := fun i K S h T W I U Q i0 i1 st => by
  obtain ⟨h1, h2, v, T1, W1, I1, U1, Q1, e1, e2, s2⟩ := B_first st (X (i + 1)) (X (i + 2))
  have e2 : Mo_first h1 94 (X (i + 1)) (X (i + 2)) = some (h2, v) := e2
  refine ⟨h2, T1, W1, I1, U1, Q1, fun r q => LA_j (L1 := Lx z i) (BL_38 X N) (BL_86 X N) (fun J => ?_) q, ST_mo s2 (by omega) (by omega)⟩
  show ck_ (0 ≤ (w32 (i + 1)) ∧ (w32 (i + 1)) < N) (ck_ (0 ≤ (w32 (i + 2)) ∧ (w32 (i + 2)) < N) (ck_ (0 ≤ (0 : Int)) (bd_ (CC 154 [(21, 0), (0, X (w32 (i + 1))), (0, X (w32 (i + 2)))] h) fun h1 v2 => ck_ (0 ≤ (w32 (i + 1)) ∧ (w32 (i + 1)) < N) (ck_ (0 ≤ (w32 (i + 2)) ∧ (w32 (i + 2)) < N) (ck_ (0 ≤ (94 : Int)) (bd_ (CC 279 [(22, 94), (0, X (w32 (i + 1))), (0, X (w32 (i + 2)))] h1) fun h3 v4 => if v2 = v4 then J 86 [(5, z), (21, 0), (22, 94), (33, 143), (0, i), (9, 0), (9, 0)] [] h3 else J 39 [(5, z), (21, 0), (22, 94), (33, 143), (0, i), (9, 0), (9, 0)] [] h3)))))) = _
  try simp (disch := omega) only [w32_i]
  repeat first | rw [ck_t (by omega)] | rw [cc_154, e1, bd_v] | rw [cc_279, e2, bd_v]
  try rw [lcm_s]
  rw [if_pos rfl]
set_option maxRecDepth 20000 in
theorem LC_40 (hN : N ≤ 3072) : LC X N z 40 := fun i K S h T W I U Q i0 i1 st => by
  obtain ⟨h1, h2, v, T1, W1, I1, U1, Q1, e1, e2, s2⟩ := B_ways st (X (i + 1)) (X (i + 2))
  have e2 : Mo_ways h1 94 (X (i + 1)) (X (i + 2)) = some (h2, v) := e2
  refine ⟨h2, T1, W1, I1, U1, Q1, fun r q => LA_j (L1 := Lx z i) (BL_40 X N) (BL_86 X N) (fun J => ?_) q, ST_mo s2 (by omega) (by omega)⟩
  show ck_ (0 ≤ (w32 (i + 1)) ∧ (w32 (i + 1)) < N) (ck_ (0 ≤ (w32 (i + 2)) ∧ (w32 (i + 2)) < N) (ck_ (0 ≤ (0 : Int)) (bd_ (CC 155 [(21, 0), (0, X (w32 (i + 1))), (0, X (w32 (i + 2)))] h) fun h1 v2 => ck_ (0 ≤ (w32 (i + 1)) ∧ (w32 (i + 1)) < N) (ck_ (0 ≤ (w32 (i + 2)) ∧ (w32 (i + 2)) < N) (ck_ (0 ≤ (94 : Int)) (bd_ (CC 280 [(22, 94), (0, X (w32 (i + 1))), (0, X (w32 (i + 2)))] h1) fun h3 v4 => if v2 = v4 then J 86 [(5, z), (21, 0), (22, 94), (33, 143), (0, i), (9, 0), (9, 0)] [] h3 else J 41 [(5, z), (21, 0), (22, 94), (33, 143), (0, i), (9, 0), (9, 0)] [] h3)))))) = _
  try simp (disch := omega) only [w32_i]
  repeat first | rw [ck_t (by omega)] | rw [cc_155, e1, bd_v] | rw [cc_280, e2, bd_v]
  try rw [lcm_s]
  rw [if_pos rfl]
set_option maxRecDepth 20000 in
theorem LC_42 (hN : N ≤ 3072) : LC X N z 42 := fun i K S h T W I U Q i0 i1 st => by
  obtain ⟨h1, h2, v, T1, W1, I1, U1, Q1, e1, e2, s2⟩ := B_apart st (X (i + 1)) (X (i + 2)) (X (i + 3))
  have e2 : Mo_apart h1 94 (X (i + 1)) (X (i + 2)) (X (i + 3)) = some (h2, v) := e2
  refine ⟨h2, T1, W1, I1, U1, Q1, fun r q => LA_j (L1 := Lx z i) (BL_42 X N) (BL_86 X N) (fun J => ?_) q, ST_mo s2 (by omega) (by omega)⟩
  show ck_ (0 ≤ (w32 (i + 1)) ∧ (w32 (i + 1)) < N) (ck_ (0 ≤ (w32 (i + 2)) ∧ (w32 (i + 2)) < N) (ck_ (0 ≤ (w32 (i + 3)) ∧ (w32 (i + 3)) < N) (ck_ (0 ≤ (0 : Int)) (bd_ (CC 157 [(21, 0), (0, X (w32 (i + 1))), (0, X (w32 (i + 2))), (0, X (w32 (i + 3)))] h) fun h1 v2 => ck_ (0 ≤ (w32 (i + 1)) ∧ (w32 (i + 1)) < N) (ck_ (0 ≤ (w32 (i + 2)) ∧ (w32 (i + 2)) < N) (ck_ (0 ≤ (w32 (i + 3)) ∧ (w32 (i + 3)) < N) (ck_ (0 ≤ (94 : Int)) (bd_ (CC 281 [(22, 94), (0, X (w32 (i + 1))), (0, X (w32 (i + 2))), (0, X (w32 (i + 3)))] h1) fun h3 v4 => if v2 = v4 then J 86 [(5, z), (21, 0), (22, 94), (33, 143), (0, i), (9, 0), (9, 0)] [] h3 else J 43 [(5, z), (21, 0), (22, 94), (33, 143), (0, i), (9, 0), (9, 0)] [] h3)))))))) = _
  try simp (disch := omega) only [w32_i]
  repeat first | rw [ck_t (by omega)] | rw [cc_157, e1, bd_v] | rw [cc_281, e2, bd_v]
  try rw [lcm_s]
  rw [if_pos rfl]
set_option maxRecDepth 20000 in
theorem LC_44 (hN : N ≤ 3072) : LC X N z 44 := fun i K S h T W I U Q i0 i1 st => by
  obtain ⟨h1, h2, v, T1, W1, I1, U1, Q1, e1, e2, s2⟩ := B_furthest st (X (i + 1)) (X (i + 2))
  have e2 : Mo_furthest h1 94 (X (i + 1)) (X (i + 2)) = some (h2, v) := e2
  refine ⟨h2, T1, W1, I1, U1, Q1, fun r q => LA_j (L1 := Lx z i) (BL_44 X N) (BL_86 X N) (fun J => ?_) q, ST_mo s2 (by omega) (by omega)⟩
  show ck_ (0 ≤ (w32 (i + 1)) ∧ (w32 (i + 1)) < N) (ck_ (0 ≤ (w32 (i + 2)) ∧ (w32 (i + 2)) < N) (ck_ (0 ≤ (0 : Int)) (bd_ (CC 158 [(21, 0), (0, X (w32 (i + 1))), (0, X (w32 (i + 2)))] h) fun h1 v2 => ck_ (0 ≤ (w32 (i + 1)) ∧ (w32 (i + 1)) < N) (ck_ (0 ≤ (w32 (i + 2)) ∧ (w32 (i + 2)) < N) (ck_ (0 ≤ (94 : Int)) (bd_ (CC 282 [(22, 94), (0, X (w32 (i + 1))), (0, X (w32 (i + 2)))] h1) fun h3 v4 => if v2 = v4 then J 86 [(5, z), (21, 0), (22, 94), (33, 143), (0, i), (9, 0), (9, 0)] [] h3 else J 45 [(5, z), (21, 0), (22, 94), (33, 143), (0, i), (9, 0), (9, 0)] [] h3)))))) = _
  try simp (disch := omega) only [w32_i]
  repeat first | rw [ck_t (by omega)] | rw [cc_158, e1, bd_v] | rw [cc_282, e2, bd_v]
  try rw [lcm_s]
  rw [if_pos rfl]
set_option maxRecDepth 20000 in
theorem LC_46 (hN : N ≤ 3072) : LC X N z 46 := fun i K S h T W I U Q i0 i1 st => by
  obtain ⟨h1, h2, v, T1, W1, I1, U1, Q1, e1, e2, s2⟩ := B_howMany st (X (i + 1)) (X (i + 2)) (X (i + 3))
  have e2 : Mo_howMany h1 94 (X (i + 1)) (X (i + 2)) (X (i + 3)) = some (h2, v) := e2
  refine ⟨h2, T1, W1, I1, U1, Q1, fun r q => LA_j (L1 := Lx z i) (BL_46 X N) (BL_86 X N) (fun J => ?_) q, ST_mo s2 (by omega) (by omega)⟩
  show ck_ (0 ≤ (w32 (i + 1)) ∧ (w32 (i + 1)) < N) (ck_ (0 ≤ (w32 (i + 2)) ∧ (w32 (i + 2)) < N) (ck_ (0 ≤ (w32 (i + 3)) ∧ (w32 (i + 3)) < N) (ck_ (0 ≤ (0 : Int)) (bd_ (CC 159 [(21, 0), (0, X (w32 (i + 1))), (0, X (w32 (i + 2))), (0, X (w32 (i + 3)))] h) fun h1 v2 => ck_ (0 ≤ (w32 (i + 1)) ∧ (w32 (i + 1)) < N) (ck_ (0 ≤ (w32 (i + 2)) ∧ (w32 (i + 2)) < N) (ck_ (0 ≤ (w32 (i + 3)) ∧ (w32 (i + 3)) < N) (ck_ (0 ≤ (94 : Int)) (bd_ (CC 283 [(22, 94), (0, X (w32 (i + 1))), (0, X (w32 (i + 2))), (0, X (w32 (i + 3)))] h1) fun h3 v4 => if v2 = v4 then J 86 [(5, z), (21, 0), (22, 94), (33, 143), (0, i), (9, 0), (9, 0)] [] h3 else J 47 [(5, z), (21, 0), (22, 94), (33, 143), (0, i), (9, 0), (9, 0)] [] h3)))))))) = _
  try simp (disch := omega) only [w32_i]
  repeat first | rw [ck_t (by omega)] | rw [cc_159, e1, bd_v] | rw [cc_283, e2, bd_v]
  try rw [lcm_s]
  rw [if_pos rfl]
set_option maxRecDepth 20000 in
theorem LC_48 (hN : N ≤ 3072) : LC X N z 48 := fun i K S h T W I U Q i0 i1 st => by
  obtain ⟨h1, h2, v, T1, W1, I1, U1, Q1, e1, e2, s2⟩ := B_could st (X (i + 1)) (X (i + 2)) (X (i + 3))
  have e2 : Mo_could h1 94 (X (i + 1)) (X (i + 2)) (X (i + 3)) = some (h2, v) := e2
  refine ⟨h2, T1, W1, I1, U1, Q1, fun r q => LA_j (L1 := Lx z i) (BL_48 X N) (BL_86 X N) (fun J => ?_) q, ST_mo s2 (by omega) (by omega)⟩
  show ck_ (0 ≤ (w32 (i + 1)) ∧ (w32 (i + 1)) < N) (ck_ (0 ≤ (w32 (i + 2)) ∧ (w32 (i + 2)) < N) (ck_ (0 ≤ (w32 (i + 3)) ∧ (w32 (i + 3)) < N) (ck_ (0 ≤ (0 : Int)) (bd_ (CC 160 [(21, 0), (0, X (w32 (i + 1))), (0, X (w32 (i + 2))), (0, X (w32 (i + 3)))] h) fun h1 v2 => ck_ (0 ≤ (w32 (i + 1)) ∧ (w32 (i + 1)) < N) (ck_ (0 ≤ (w32 (i + 2)) ∧ (w32 (i + 2)) < N) (ck_ (0 ≤ (w32 (i + 3)) ∧ (w32 (i + 3)) < N) (ck_ (0 ≤ (94 : Int)) (bd_ (CC 284 [(22, 94), (0, X (w32 (i + 1))), (0, X (w32 (i + 2))), (0, X (w32 (i + 3)))] h1) fun h3 v4 => if v2 = v4 then J 86 [(5, z), (21, 0), (22, 94), (33, 143), (0, i), (9, 0), (9, 0)] [] h3 else J 49 [(5, z), (21, 0), (22, 94), (33, 143), (0, i), (9, 0), (9, 0)] [] h3)))))))) = _
  try simp (disch := omega) only [w32_i]
  repeat first | rw [ck_t (by omega)] | rw [cc_160, e1, bd_v] | rw [cc_284, e2, bd_v]
  try rw [lcm_s]
  rw [if_pos rfl]
set_option maxRecDepth 20000 in
theorem LC_50 (hN : N ≤ 3072) : LC X N z 50 := fun i K S h T W I U Q i0 i1 st => by
  obtain ⟨h1, h2, v, T1, W1, I1, U1, Q1, e1, e2, s2⟩ := B_greedy st (X (i + 1))
  have e2 : Mo_greedy h1 94 (X (i + 1)) = some (h2, v) := e2
  refine ⟨h2, T1, W1, I1, U1, Q1, fun r q => LA_j (L1 := Lx z i) (BL_50 X N) (BL_86 X N) (fun J => ?_) q, ST_mo s2 (by omega) (by omega)⟩
  show ck_ (0 ≤ (w32 (i + 1)) ∧ (w32 (i + 1)) < N) (ck_ (0 ≤ (0 : Int)) (bd_ (CC 162 [(21, 0), (0, X (w32 (i + 1)))] h) fun h1 v2 => ck_ (0 ≤ (w32 (i + 1)) ∧ (w32 (i + 1)) < N) (ck_ (0 ≤ (94 : Int)) (bd_ (CC 285 [(22, 94), (0, X (w32 (i + 1)))] h1) fun h3 v4 => if v2 = v4 then J 86 [(5, z), (21, 0), (22, 94), (33, 143), (0, i), (9, 0), (9, 0)] [] h3 else J 51 [(5, z), (21, 0), (22, 94), (33, 143), (0, i), (9, 0), (9, 0)] [] h3)))) = _
  try simp (disch := omega) only [w32_i]
  repeat first | rw [ck_t (by omega)] | rw [cc_162, e1, bd_v] | rw [cc_285, e2, bd_v]
  try rw [lcm_s]
  rw [if_pos rfl]
set_option maxRecDepth 20000 in
theorem LC_52 (hN : N ≤ 3072) : LC X N z 52 := fun i K S h T W I U Q i0 i1 st => by
  obtain ⟨h1, h2, v, T1, W1, I1, U1, Q1, e1, e2, s2⟩ := B_game st (X (i + 1)) (X (i + 2)) (X (i + 3))
  have e2 : Mo_game h1 94 (X (i + 1)) (X (i + 2)) (X (i + 3)) = some (h2, v) := e2
  refine ⟨h2, T1, W1, I1, U1, Q1, fun r q => LA_j (L1 := Lx z i) (BL_52 X N) (BL_86 X N) (fun J => ?_) q, ST_mo s2 (by omega) (by omega)⟩
  show ck_ (0 ≤ (w32 (i + 1)) ∧ (w32 (i + 1)) < N) (ck_ (0 ≤ (w32 (i + 2)) ∧ (w32 (i + 2)) < N) (ck_ (0 ≤ (w32 (i + 3)) ∧ (w32 (i + 3)) < N) (ck_ (0 ≤ (0 : Int)) (bd_ (CC 163 [(21, 0), (0, X (w32 (i + 1))), (0, X (w32 (i + 2))), (0, X (w32 (i + 3)))] h) fun h1 v2 => ck_ (0 ≤ (w32 (i + 1)) ∧ (w32 (i + 1)) < N) (ck_ (0 ≤ (w32 (i + 2)) ∧ (w32 (i + 2)) < N) (ck_ (0 ≤ (w32 (i + 3)) ∧ (w32 (i + 3)) < N) (ck_ (0 ≤ (94 : Int)) (bd_ (CC 289 [(22, 94), (0, X (w32 (i + 1))), (0, X (w32 (i + 2))), (0, X (w32 (i + 3)))] h1) fun h3 v4 => if v2 = v4 then J 86 [(5, z), (21, 0), (22, 94), (33, 143), (0, i), (9, 0), (9, 0)] [] h3 else J 53 [(5, z), (21, 0), (22, 94), (33, 143), (0, i), (9, 0), (9, 0)] [] h3)))))))) = _
  try simp (disch := omega) only [w32_i]
  repeat first | rw [ck_t (by omega)] | rw [cc_163, e1, bd_v] | rw [cc_289, e2, bd_v]
  try rw [lcm_s]
  rw [if_pos rfl]
set_option maxRecDepth 20000 in
theorem LC_54 (hN : N ≤ 3072) : LC X N z 54 := fun i K S h T W I U Q i0 i1 st => by
  obtain ⟨h1, h2, v, T1, W1, I1, U1, Q1, e1, e2, s2⟩ := B_match st (X (i + 1))
  have e2 : Mo_match h1 94 (X (i + 1)) = some (h2, v) := e2
  refine ⟨h2, T1, W1, I1, U1, Q1, fun r q => LA_j (L1 := Lx z i) (BL_54 X N) (BL_86 X N) (fun J => ?_) q, ST_mo s2 (by omega) (by omega)⟩
  show ck_ (0 ≤ (w32 (i + 1)) ∧ (w32 (i + 1)) < N) (ck_ (0 ≤ (0 : Int)) (bd_ (CC 168 [(21, 0), (0, X (w32 (i + 1)))] h) fun h1 v2 => ck_ (0 ≤ (w32 (i + 1)) ∧ (w32 (i + 1)) < N) (ck_ (0 ≤ (94 : Int)) (bd_ (CC 291 [(22, 94), (0, X (w32 (i + 1)))] h1) fun h3 v4 => if v2 = v4 then J 86 [(5, z), (21, 0), (22, 94), (33, 143), (0, i), (9, 0), (9, 0)] [] h3 else J 55 [(5, z), (21, 0), (22, 94), (33, 143), (0, i), (9, 0), (9, 0)] [] h3)))) = _
  try simp (disch := omega) only [w32_i]
  repeat first | rw [ck_t (by omega)] | rw [cc_168, e1, bd_v] | rw [cc_291, e2, bd_v]
  try rw [lcm_s]
  rw [if_pos rfl]
set_option maxRecDepth 20000 in
theorem LC_56 (hN : N ≤ 3072) : LC X N z 56 := fun i K S h T W I U Q i0 i1 st => by
  obtain ⟨h1, h2, v, T1, W1, I1, U1, Q1, e1, e2, s2⟩ := B_holds st (X (i + 1)) (X (i + 2))
  have e2 : Mo_holds h1 94 (X (i + 1)) (X (i + 2)) = some (h2, v) := e2
  refine ⟨h2, T1, W1, I1, U1, Q1, fun r q => LA_j (L1 := Lx z i) (BL_56 X N) (BL_86 X N) (fun J => ?_) q, ST_mo s2 (by omega) (by omega)⟩
  show ck_ (0 ≤ (w32 (i + 1)) ∧ (w32 (i + 1)) < N) (ck_ (0 ≤ (w32 (i + 2)) ∧ (w32 (i + 2)) < N) (ck_ (0 ≤ (0 : Int)) (bd_ (CC 170 [(21, 0), (0, X (w32 (i + 1))), (0, X (w32 (i + 2)))] h) fun h1 v2 => ck_ (0 ≤ (w32 (i + 1)) ∧ (w32 (i + 1)) < N) (ck_ (0 ≤ (w32 (i + 2)) ∧ (w32 (i + 2)) < N) (ck_ (0 ≤ (94 : Int)) (bd_ (CC 292 [(22, 94), (0, X (w32 (i + 1))), (0, X (w32 (i + 2)))] h1) fun h3 v4 => if (lcm_ v2 v4) = 0 then J 86 [(5, z), (21, 0), (22, 94), (33, 143), (0, i), (9, 0), (9, 0)] [] h3 else J 57 [(5, z), (21, 0), (22, 94), (33, 143), (0, i), (9, 0), (9, 0)] [] h3)))))) = _
  try simp (disch := omega) only [w32_i]
  repeat first | rw [ck_t (by omega)] | rw [cc_170, e1, bd_v] | rw [cc_292, e2, bd_v]
  try rw [lcm_s]
  rw [if_pos rfl]
set_option maxRecDepth 20000 in
theorem LC_66 (hN : N ≤ 3072) : LC X N z 66 := fun i K S h T W I U Q i0 i1 st => by
  obtain ⟨h1, h2, v, T1, W1, I1, U1, Q1, e1, e2, s2⟩ := B_strike st (X (i + 1))
  have e2 : Mo_strike h1 94 (X (i + 1)) = some (h2, v) := e2
  refine ⟨h2, T1, W1, I1, U1, Q1, fun r q => LA_j (L1 := Lx z i) (BL_66 X N) (BL_86 X N) (fun J => ?_) q, ST_mo s2 (by omega) (by omega)⟩
  show ck_ (0 ≤ (w32 (i + 1)) ∧ (w32 (i + 1)) < N) (ck_ (0 ≤ (0 : Int)) (bd_ (CC 172 [(21, 0), (0, X (w32 (i + 1)))] h) fun h1 v2 => ck_ (0 ≤ (w32 (i + 1)) ∧ (w32 (i + 1)) < N) (ck_ (0 ≤ (94 : Int)) (bd_ (CC 295 [(22, 94), (0, X (w32 (i + 1)))] h1) fun h3 v4 => if v2 = v4 then J 86 [(5, z), (21, 0), (22, 94), (33, 143), (0, i), (9, 0), (9, 0)] [] h3 else J 67 [(5, z), (21, 0), (22, 94), (33, 143), (0, i), (9, 0), (9, 0)] [] h3)))) = _
  try simp (disch := omega) only [w32_i]
  repeat first | rw [ck_t (by omega)] | rw [cc_172, e1, bd_v] | rw [cc_295, e2, bd_v]
  try rw [lcm_s]
  rw [if_pos rfl]
set_option maxRecDepth 20000 in
theorem LC_68 (hN : N ≤ 3072) : LC X N z 68 := fun i K S h T W I U Q i0 i1 st => by
  obtain ⟨h1, h2, v, T1, W1, I1, U1, Q1, e1, e2, s2⟩ := B_known st (X (i + 1))
  have e2 : Mo_known h1 94 (X (i + 1)) = some (h2, v) := e2
  refine ⟨h2, T1, W1, I1, U1, Q1, fun r q => LA_j (L1 := Lx z i) (BL_68 X N) (BL_86 X N) (fun J => ?_) q, ST_mo s2 (by omega) (by omega)⟩
  show ck_ (0 ≤ (w32 (i + 1)) ∧ (w32 (i + 1)) < N) (ck_ (0 ≤ (0 : Int)) (bd_ (CC 173 [(21, 0), (0, X (w32 (i + 1)))] h) fun h1 v2 => ck_ (0 ≤ (w32 (i + 1)) ∧ (w32 (i + 1)) < N) (ck_ (0 ≤ (94 : Int)) (bd_ (CC 296 [(22, 94), (0, X (w32 (i + 1)))] h1) fun h3 v4 => if v2 = v4 then J 86 [(5, z), (21, 0), (22, 94), (33, 143), (0, i), (9, 0), (9, 0)] [] h3 else J 69 [(5, z), (21, 0), (22, 94), (33, 143), (0, i), (9, 0), (9, 0)] [] h3)))) = _
  try simp (disch := omega) only [w32_i]
  repeat first | rw [ck_t (by omega)] | rw [cc_173, e1, bd_v] | rw [cc_296, e2, bd_v]
  try rw [lcm_s]
  rw [if_pos rfl]
set_option maxRecDepth 20000 in
theorem LC_70 (hN : N ≤ 3072) : LC X N z 70 := fun i K S h T W I U Q i0 i1 st => by
  obtain ⟨h1, h2, v, T1, W1, I1, U1, Q1, e1, e2, s2⟩ := B_deep st (X (i + 1))
  have e2 : Mo_deep h1 94 (X (i + 1)) = some (h2, v) := e2
  refine ⟨h2, T1, W1, I1, U1, Q1, fun r q => LA_j (L1 := Lx z i) (BL_70 X N) (BL_86 X N) (fun J => ?_) q, ST_mo s2 (by omega) (by omega)⟩
  show ck_ (0 ≤ (w32 (i + 1)) ∧ (w32 (i + 1)) < N) (ck_ (0 ≤ (0 : Int)) (bd_ (CC 176 [(21, 0), (0, X (w32 (i + 1)))] h) fun h1 v2 => ck_ (0 ≤ (w32 (i + 1)) ∧ (w32 (i + 1)) < N) (ck_ (0 ≤ (94 : Int)) (bd_ (CC 302 [(22, 94), (0, X (w32 (i + 1)))] h1) fun h3 v4 => if v2 = v4 then J 86 [(5, z), (21, 0), (22, 94), (33, 143), (0, i), (9, 0), (9, 0)] [] h3 else J 71 [(5, z), (21, 0), (22, 94), (33, 143), (0, i), (9, 0), (9, 0)] [] h3)))) = _
  try simp (disch := omega) only [w32_i]
  repeat first | rw [ck_t (by omega)] | rw [cc_176, e1, bd_v] | rw [cc_302, e2, bd_v]
  try rw [lcm_s]
  rw [if_pos rfl]
set_option maxRecDepth 20000 in
theorem LC_72 (hN : N ≤ 3072) : LC X N z 72 := fun i K S h T W I U Q i0 i1 st => by
  obtain ⟨h1, h2, v, T1, W1, I1, U1, Q1, e1, e2, s2⟩ := B_ask st (X (i + 1)) (X (i + 2)) (X (i + 3))
  have e2 : Mo_ask h1 94 (X (i + 1)) (X (i + 2)) (X (i + 3)) = some (h2, v) := e2
  refine ⟨h2, T1, W1, I1, U1, Q1, fun r q => LA_j (L1 := Lx z i) (BL_72 X N) (BL_86 X N) (fun J => ?_) q, ST_mo s2 (by omega) (by omega)⟩
  show ck_ (0 ≤ (w32 (i + 1)) ∧ (w32 (i + 1)) < N) (ck_ (0 ≤ (w32 (i + 2)) ∧ (w32 (i + 2)) < N) (ck_ (0 ≤ (w32 (i + 3)) ∧ (w32 (i + 3)) < N) (ck_ (0 ≤ (0 : Int)) (bd_ (CC 180 [(21, 0), (0, X (w32 (i + 1))), (0, X (w32 (i + 2))), (0, X (w32 (i + 3)))] h) fun h1 v2 => ck_ (0 ≤ (w32 (i + 1)) ∧ (w32 (i + 1)) < N) (ck_ (0 ≤ (w32 (i + 2)) ∧ (w32 (i + 2)) < N) (ck_ (0 ≤ (w32 (i + 3)) ∧ (w32 (i + 3)) < N) (ck_ (0 ≤ (94 : Int)) (bd_ (CC 304 [(22, 94), (0, X (w32 (i + 1))), (0, X (w32 (i + 2))), (0, X (w32 (i + 3)))] h1) fun h3 v4 => if v2 = v4 then J 86 [(5, z), (21, 0), (22, 94), (33, 143), (0, i), (9, 0), (9, 0)] [] h3 else J 73 [(5, z), (21, 0), (22, 94), (33, 143), (0, i), (9, 0), (9, 0)] [] h3)))))))) = _
  try simp (disch := omega) only [w32_i]
  repeat first | rw [ck_t (by omega)] | rw [cc_180, e1, bd_v] | rw [cc_304, e2, bd_v]
  try rw [lcm_s]
  rw [if_pos rfl]
set_option maxRecDepth 20000 in
theorem LC_74 (hN : N ≤ 3072) (hX : ∀ j, i32_ (X j)) : LC X N z 74 := fun i K S h T W I U Q i0 i1 st => by
  obtain ⟨h1, h2, v, T1, W1, I1, U1, Q1, e1, e2, s2⟩ := B_chance st (X (i + 1)) (X (i + 2)) (X (i + 3)) (by have := hX (i + 1); unfold i32_ at this; omega)
  have e2 : Mo_chance h1 94 (X (i + 1)) (X (i + 2)) (X (i + 3)) = some (h2, v) := e2
  refine ⟨h2, T1, W1, I1, U1, Q1, fun r q => LA_j (L1 := Lx z i) (BL_74 X N) (BL_86 X N) (fun J => ?_) q, ST_mo s2 (by omega) (by omega)⟩
  show ck_ (0 ≤ (w32 (i + 1)) ∧ (w32 (i + 1)) < N) (ck_ (0 ≤ (w32 (i + 2)) ∧ (w32 (i + 2)) < N) (ck_ (0 ≤ (w32 (i + 3)) ∧ (w32 (i + 3)) < N) (ck_ (0 ≤ (0 : Int)) (bd_ (CC 181 [(21, 0), (0, X (w32 (i + 1))), (0, X (w32 (i + 2))), (0, X (w32 (i + 3)))] h) fun h1 v2 => ck_ (0 ≤ (w32 (i + 1)) ∧ (w32 (i + 1)) < N) (ck_ (0 ≤ (w32 (i + 2)) ∧ (w32 (i + 2)) < N) (ck_ (0 ≤ (w32 (i + 3)) ∧ (w32 (i + 3)) < N) (ck_ (0 ≤ (94 : Int)) (bd_ (CC 305 [(22, 94), (0, X (w32 (i + 1))), (0, X (w32 (i + 2))), (0, X (w32 (i + 3)))] h1) fun h3 v4 => if v2 = v4 then J 86 [(5, z), (21, 0), (22, 94), (33, 143), (0, i), (9, 0), (9, 0)] [] h3 else J 75 [(5, z), (21, 0), (22, 94), (33, 143), (0, i), (9, 0), (9, 0)] [] h3)))))))) = _
  try simp (disch := omega) only [w32_i]
  repeat first | rw [ck_t (by omega)] | rw [cc_181, e1, bd_v] | rw [cc_305, e2, bd_v]
  try rw [lcm_s]
  rw [if_pos rfl]
set_option maxRecDepth 20000 in
theorem LC_76 (hN : N ≤ 3072) : LC X N z 76 := fun i K S h T W I U Q i0 i1 st => by
  obtain ⟨h1, h2, v, T1, W1, I1, U1, Q1, e1, e2, s2⟩ := B_tried st (X (i + 1)) (X (i + 2)) (X (i + 3))
  have e2 : Mo_tried h1 94 (X (i + 1)) (X (i + 2)) (X (i + 3)) = some (h2, v) := e2
  refine ⟨h2, T1, W1, I1, U1, Q1, fun r q => LA_j (L1 := Lx z i) (BL_76 X N) (BL_86 X N) (fun J => ?_) q, ST_mo s2 (by omega) (by omega)⟩
  show ck_ (0 ≤ (w32 (i + 1)) ∧ (w32 (i + 1)) < N) (ck_ (0 ≤ (w32 (i + 2)) ∧ (w32 (i + 2)) < N) (ck_ (0 ≤ (w32 (i + 3)) ∧ (w32 (i + 3)) < N) (ck_ (0 ≤ (0 : Int)) (bd_ (CC 182 [(21, 0), (0, X (w32 (i + 1))), (0, X (w32 (i + 2))), (0, X (w32 (i + 3)))] h) fun h1 v2 => ck_ (0 ≤ (w32 (i + 1)) ∧ (w32 (i + 1)) < N) (ck_ (0 ≤ (w32 (i + 2)) ∧ (w32 (i + 2)) < N) (ck_ (0 ≤ (w32 (i + 3)) ∧ (w32 (i + 3)) < N) (ck_ (0 ≤ (94 : Int)) (bd_ (CC 306 [(22, 94), (0, X (w32 (i + 1))), (0, X (w32 (i + 2))), (0, X (w32 (i + 3)))] h1) fun h3 v4 => if v2 = v4 then J 86 [(5, z), (21, 0), (22, 94), (33, 143), (0, i), (9, 0), (9, 0)] [] h3 else J 77 [(5, z), (21, 0), (22, 94), (33, 143), (0, i), (9, 0), (9, 0)] [] h3)))))))) = _
  try simp (disch := omega) only [w32_i]
  repeat first | rw [ck_t (by omega)] | rw [cc_182, e1, bd_v] | rw [cc_306, e2, bd_v]
  try rw [lcm_s]
  rw [if_pos rfl]
set_option maxRecDepth 20000 in
theorem LC_78 (hN : N ≤ 3072) : LC X N z 78 := fun i K S h T W I U Q i0 i1 st => by
  obtain ⟨h1, h2, v, T1, W1, I1, U1, Q1, e1, e2, s2⟩ := B_undo st
  have e2 : Mo_undo h1 94 = some (h2, v) := e2
  refine ⟨h2, T1, W1, I1, U1, Q1, fun r q => LA_j (L1 := Lx z i) (BL_78 X N) (BL_86 X N) (fun J => ?_) q, ST_mo s2 (by omega) (by omega)⟩
  show ck_ (0 ≤ (0 : Int)) (bd_ (CC 183 [(21, 0)] h) fun h1 v2 => ck_ (0 ≤ (94 : Int)) (bd_ (CC 308 [(22, 94)] h1) fun h3 v4 => if v2 = v4 then J 86 [(5, z), (21, 0), (22, 94), (33, 143), (0, i), (9, 0), (9, 0)] [] h3 else J 79 [(5, z), (21, 0), (22, 94), (33, 143), (0, i), (9, 0), (9, 0)] [] h3)) = _
  try simp (disch := omega) only [w32_i]
  repeat first | rw [ck_t (by omega)] | rw [cc_183, e1, bd_v] | rw [cc_308, e2, bd_v]
  try rw [lcm_s]
  rw [if_pos rfl]
set_option maxRecDepth 20000 in
theorem LC_80 (hN : N ≤ 3072) : LC X N z 80 := fun i K S h T W I U Q i0 i1 st => by
  obtain ⟨h1, h2, v, T1, W1, I1, U1, Q1, e1, e2, s2⟩ := B_keep st
  have e2 : Mo_keep h1 94 = some (h2, v) := e2
  refine ⟨h2, T1, W1, I1, U1, Q1, fun r q => LA_j (L1 := Lx z i) (BL_80 X N) (BL_86 X N) (fun J => ?_) q, ST_mo s2 (by omega) (by omega)⟩
  show ck_ (0 ≤ (0 : Int)) (bd_ (CC 184 [(21, 0)] h) fun h1 v2 => ck_ (0 ≤ (94 : Int)) (bd_ (CC 309 [(22, 94)] h1) fun h3 v4 => if v2 = v4 then J 86 [(5, z), (21, 0), (22, 94), (33, 143), (0, i), (9, 0), (9, 0)] [] h3 else J 81 [(5, z), (21, 0), (22, 94), (33, 143), (0, i), (9, 0), (9, 0)] [] h3)) = _
  try simp (disch := omega) only [w32_i]
  repeat first | rw [ck_t (by omega)] | rw [cc_184, e1, bd_v] | rw [cc_309, e2, bd_v]
  try rw [lcm_s]
  rw [if_pos rfl]
set_option maxRecDepth 20000 in
theorem LC_82 (hN : N ≤ 3072) : LC X N z 82 := fun i K S h T W I U Q i0 i1 st => by
  obtain ⟨h1, h2, v, T1, W1, I1, U1, Q1, e1, e2, s2⟩ := B_back st
  have e2 : Mo_back h1 94 = some (h2, v) := e2
  refine ⟨h2, T1, W1, I1, U1, Q1, fun r q => LA_j (L1 := Lx z i) (BL_82 X N) (BL_86 X N) (fun J => ?_) q, ST_mo s2 (by omega) (by omega)⟩
  show ck_ (0 ≤ (0 : Int)) (bd_ (CC 185 [(21, 0)] h) fun h1 v2 => ck_ (0 ≤ (94 : Int)) (bd_ (CC 310 [(22, 94)] h1) fun h3 v4 => if v2 = v4 then J 86 [(5, z), (21, 0), (22, 94), (33, 143), (0, i), (9, 0), (9, 0)] [] h3 else J 83 [(5, z), (21, 0), (22, 94), (33, 143), (0, i), (9, 0), (9, 0)] [] h3)) = _
  try simp (disch := omega) only [w32_i]
  repeat first | rw [ck_t (by omega)] | rw [cc_185, e1, bd_v] | rw [cc_310, e2, bd_v]
  try rw [lcm_s]
  rw [if_pos rfl]
set_option maxRecDepth 20000 in
theorem LC_84 (hN : N ≤ 3072) : LC X N z 84 := fun i K S h T W I U Q i0 i1 st => by
  obtain ⟨h1, h2, v, T1, W1, I1, U1, Q1, e1, e2, s2⟩ := B_count st (X (i + 1))
  have e2 : Mo_count h1 94 (X (i + 1)) = some (h2, v) := e2
  refine ⟨h2, T1, W1, I1, U1, Q1, fun r q => LA_j (L1 := Lx z i) (BL_84 X N) (BL_86 X N) (fun J => ?_) q, ST_mo s2 (by omega) (by omega)⟩
  show ck_ (0 ≤ (w32 (i + 1)) ∧ (w32 (i + 1)) < N) (ck_ (0 ≤ (0 : Int)) (bd_ (CC 186 [(21, 0), (0, X (w32 (i + 1)))] h) fun h1 v2 => ck_ (0 ≤ (w32 (i + 1)) ∧ (w32 (i + 1)) < N) (ck_ (0 ≤ (94 : Int)) (bd_ (CC 311 [(22, 94), (0, X (w32 (i + 1)))] h1) fun h3 v4 => if v2 = v4 then J 86 [(5, z), (21, 0), (22, 94), (33, 143), (0, i), (9, 0), (9, 0)] [] h3 else J 85 [(5, z), (21, 0), (22, 94), (33, 143), (0, i), (9, 0), (9, 0)] [] h3)))) = _
  try simp (disch := omega) only [w32_i]
  repeat first | rw [ck_t (by omega)] | rw [cc_186, e1, bd_v] | rw [cc_311, e2, bd_v]
  try rw [lcm_s]
  rw [if_pos rfl]
set_option maxRecDepth 20000 in
theorem LC_3 (hN : N ≤ 3072) : LC X N z 3 := fun i K S h T W I U Q i0 i1 st => by
  obtain ⟨h1, h2, v, T1, W1, I1, U1, Q1, e1, e2, s2⟩ := B_feed st (X (i + 1)) (X (i + 2)) (X (i + 3)) (X (i + 4)) (X (i + 5))
  have e2 : Mo_feed h1 94 (X (i + 1)) (X (i + 2)) (X (i + 3)) (X (i + 4)) (X (i + 5)) = some (h2, v) := e2
  refine ⟨h2, T1, W1, I1, U1, Q1, fun r q => LA_j (L1 := [(5, z), (21, 0), (22, 94), (33, 143), (0, i), (9, 0), (9, 0)]) (st1 := [(0, X (i + 4)), (0, X (i + 3)), (0, X (i + 2)), (0, X (i + 1)), (22, 94), (0, v)]) (h1 := h1) (BL_3 X N) (BL_4 X N) (fun J => ?_) (LA_j (L1 := [(5, z), (21, 0), (22, 94), (33, 143), (0, i), (9, 0), (9, 0)]) (st1 := []) (h1 := h2) (BL_4 X N) (BL_86 X N) (fun J => ?_) (q)), ST_mo s2 (by omega) (by omega)⟩
  · show (ck_ (0 ≤ (w32 (i + 1)) ∧ (w32 (i + 1)) < N) (ck_ (0 ≤ (w32 (i + 2)) ∧ (w32 (i + 2)) < N) (ck_ (0 ≤ (w32 (i + 3)) ∧ (w32 (i + 3)) < N) (ck_ (0 ≤ (w32 (i + 4)) ∧ (w32 (i + 4)) < N) (ck_ (0 ≤ (w32 (i + 5)) ∧ (w32 (i + 5)) < N) (ck_ (0 ≤ (0 : Int)) (bd_ (CC 138 [(21, 0), (0, X (w32 (i + 1))), (0, X (w32 (i + 2))), (0, X (w32 (i + 3))), (0, X (w32 (i + 4))), (0, X (w32 (i + 5)))] h) fun h1 v2 => ck_ (0 ≤ (w32 (i + 1)) ∧ (w32 (i + 1)) < N) (ck_ (0 ≤ (w32 (i + 2)) ∧ (w32 (i + 2)) < N) (ck_ (0 ≤ (w32 (i + 3)) ∧ (w32 (i + 3)) < N) (ck_ (0 ≤ (w32 (i + 4)) ∧ (w32 (i + 4)) < N) (J 4 [(5, z), (21, 0), (22, 94), (33, 143), (0, i), (9, 0), (9, 0)] [(0, X (w32 (i + 4))), (0, X (w32 (i + 3))), (0, X (w32 (i + 2))), (0, X (w32 (i + 1))), (22, 94), (0, v2)] h1))))))))))) = _
    try simp (disch := omega) only [w32_i]
    repeat first | rw [ck_t (by omega)] | rw [cc_138, e1, bd_v] | rw [cc_195, e2, bd_v] | rw [if_pos rfl]
  · show (ck_ (0 ≤ (w32 (i + 5)) ∧ (w32 (i + 5)) < N) (ck_ (0 ≤ (94 : Int)) (bd_ (CC 195 [(22, 94), (0, X (i + 1)), (0, X (i + 2)), (0, X (i + 3)), (0, X (i + 4)), (0, X (w32 (i + 5)))] h1) fun h8 v2 => if v = v2 then J 86 [(5, z), (21, 0), (22, 94), (33, 143), (0, i), (9, 0), (9, 0)] [] h8 else J 5 [(5, z), (21, 0), (22, 94), (33, 143), (0, i), (9, 0), (9, 0)] [] h8))) = _
    try simp (disch := omega) only [w32_i]
    repeat first | rw [ck_t (by omega)] | rw [cc_138, e1, bd_v] | rw [cc_195, e2, bd_v] | rw [if_pos rfl]
set_option maxRecDepth 20000 in
theorem LC_58 (hN : N ≤ 3072) : LC X N z 58 := fun i K S h T W I U Q i0 i1 st => by
  by_cases d : X (i + 4) = 0
  · obtain ⟨h1, h2, v, T1, W1, I1, U1, Q1, e1, e2, s2⟩ := B_see st (X (i + 1)) (X (i + 2)) (X (i + 3)) 0 (by omega)
    have e2 : Mo_see h1 94 (X (i + 1)) (X (i + 2)) (X (i + 3)) 0 = some (h2, v) := e2
    refine ⟨h2, T1, W1, I1, U1, Q1, fun r q => LA_j (L1 := [(5, z), (21, 0), (22, 94), (33, 143), (0, i), (9, 0), (9, 0)]) (st1 := [(0, X (i + 3)), (0, X (i + 2)), (0, X (i + 1)), (21, 0)]) (h1 := h) (BL_58 X N) (BL_60 X N) (fun J => ?_) (LA_j (L1 := [(5, z), (21, 0), (22, 94), (33, 143), (0, i), (9, 0), (9, 0)]) (st1 := [(0, 0), (0, X (i + 3)), (0, X (i + 2)), (0, X (i + 1)), (21, 0)]) (h1 := h) (BL_60 X N) (BL_61 X N) (fun J => ?_) (LA_j (L1 := [(5, z), (21, 0), (22, 94), (33, 143), (0, i), (9, 0), (9, 0)]) (st1 := [(0, X (i + 3)), (0, X (i + 2)), (0, X (i + 1)), (22, 94), (0, v)]) (h1 := h1) (BL_61 X N) (BL_63 X N) (fun J => ?_) (LA_j (L1 := [(5, z), (21, 0), (22, 94), (33, 143), (0, i), (9, 0), (9, 0)]) (st1 := [(0, 0), (0, X (i + 3)), (0, X (i + 2)), (0, X (i + 1)), (22, 94), (0, v)]) (h1 := h1) (BL_63 X N) (BL_64 X N) (fun J => ?_) (LA_j (L1 := [(5, z), (21, 0), (22, 94), (33, 143), (0, i), (9, 0), (9, 0)]) (st1 := []) (h1 := h2) (BL_64 X N) (BL_86 X N) (fun J => ?_) (q))))), ST_mo s2 (by omega) (by omega)⟩
    · show (ck_ (0 ≤ (w32 (i + 1)) ∧ (w32 (i + 1)) < N) (ck_ (0 ≤ (w32 (i + 2)) ∧ (w32 (i + 2)) < N) (ck_ (0 ≤ (w32 (i + 3)) ∧ (w32 (i + 3)) < N) (ck_ (0 ≤ (w32 (i + 4)) ∧ (w32 (i + 4)) < N) (if (X (w32 (i + 4))) = 0 then J 60 [(5, z), (21, 0), (22, 94), (33, 143), (0, i), (9, 0), (9, 0)] [(0, X (w32 (i + 3))), (0, X (w32 (i + 2))), (0, X (w32 (i + 1))), (21, 0)] h else J 59 [(5, z), (21, 0), (22, 94), (33, 143), (0, i), (9, 0), (9, 0)] [(0, X (w32 (i + 3))), (0, X (w32 (i + 2))), (0, X (w32 (i + 1))), (21, 0)] h))))) = _
      try simp (disch := omega) only [w32_i]
      repeat first | rw [ck_t (by omega)] | rw [cc_171, e1, bd_v] | rw [cc_294, e2, bd_v] | rw [if_pos rfl] | rw [if_pos d] | rw [if_neg d]
    · show (J 61 [(5, z), (21, 0), (22, 94), (33, 143), (0, i), (9, 0), (9, 0)] [(0, 0), (0, X (i + 3)), (0, X (i + 2)), (0, X (i + 1)), (21, 0)] h) = _
      try simp (disch := omega) only [w32_i]
      repeat first | rw [ck_t (by omega)] | rw [cc_171, e1, bd_v] | rw [cc_294, e2, bd_v] | rw [if_pos rfl] | rw [if_pos d] | rw [if_neg d]
    · show (ck_ (0 ≤ (0 : Int)) (bd_ (CC 171 [(21, 0), (0, X (i + 1)), (0, X (i + 2)), (0, X (i + 3)), (0, 0)] h) fun h1 v2 => ck_ (0 ≤ (w32 (i + 1)) ∧ (w32 (i + 1)) < N) (ck_ (0 ≤ (w32 (i + 2)) ∧ (w32 (i + 2)) < N) (ck_ (0 ≤ (w32 (i + 3)) ∧ (w32 (i + 3)) < N) (ck_ (0 ≤ (w32 (i + 4)) ∧ (w32 (i + 4)) < N) (if (X (w32 (i + 4))) = 0 then J 63 [(5, z), (21, 0), (22, 94), (33, 143), (0, i), (9, 0), (9, 0)] [(0, X (w32 (i + 3))), (0, X (w32 (i + 2))), (0, X (w32 (i + 1))), (22, 94), (0, v2)] h1 else J 62 [(5, z), (21, 0), (22, 94), (33, 143), (0, i), (9, 0), (9, 0)] [(0, X (w32 (i + 3))), (0, X (w32 (i + 2))), (0, X (w32 (i + 1))), (22, 94), (0, v2)] h1)))))) = _
      try simp (disch := omega) only [w32_i]
      repeat first | rw [ck_t (by omega)] | rw [cc_171, e1, bd_v] | rw [cc_294, e2, bd_v] | rw [if_pos rfl] | rw [if_pos d] | rw [if_neg d]
    · show (J 64 [(5, z), (21, 0), (22, 94), (33, 143), (0, i), (9, 0), (9, 0)] [(0, 0), (0, X (i + 3)), (0, X (i + 2)), (0, X (i + 1)), (22, 94), (0, v)] h1) = _
      try simp (disch := omega) only [w32_i]
      repeat first | rw [ck_t (by omega)] | rw [cc_171, e1, bd_v] | rw [cc_294, e2, bd_v] | rw [if_pos rfl] | rw [if_pos d] | rw [if_neg d]
    · show (ck_ (0 ≤ (94 : Int)) (bd_ (CC 294 [(22, 94), (0, X (i + 1)), (0, X (i + 2)), (0, X (i + 3)), (0, 0)] h1) fun h8 v2 => if v = v2 then J 86 [(5, z), (21, 0), (22, 94), (33, 143), (0, i), (9, 0), (9, 0)] [] h8 else J 65 [(5, z), (21, 0), (22, 94), (33, 143), (0, i), (9, 0), (9, 0)] [] h8)) = _
      try simp (disch := omega) only [w32_i]
      repeat first | rw [ck_t (by omega)] | rw [cc_171, e1, bd_v] | rw [cc_294, e2, bd_v] | rw [if_pos rfl] | rw [if_pos d] | rw [if_neg d]
  · obtain ⟨h1, h2, v, T1, W1, I1, U1, Q1, e1, e2, s2⟩ := B_see st (X (i + 1)) (X (i + 2)) (X (i + 3)) 1 (by omega)
    have e2 : Mo_see h1 94 (X (i + 1)) (X (i + 2)) (X (i + 3)) 1 = some (h2, v) := e2
    refine ⟨h2, T1, W1, I1, U1, Q1, fun r q => LA_j (L1 := [(5, z), (21, 0), (22, 94), (33, 143), (0, i), (9, 0), (9, 0)]) (st1 := [(0, X (i + 3)), (0, X (i + 2)), (0, X (i + 1)), (21, 0)]) (h1 := h) (BL_58 X N) (BL_59 X N) (fun J => ?_) (LA_j (L1 := [(5, z), (21, 0), (22, 94), (33, 143), (0, i), (9, 0), (9, 0)]) (st1 := [(0, 1), (0, X (i + 3)), (0, X (i + 2)), (0, X (i + 1)), (21, 0)]) (h1 := h) (BL_59 X N) (BL_61 X N) (fun J => ?_) (LA_j (L1 := [(5, z), (21, 0), (22, 94), (33, 143), (0, i), (9, 0), (9, 0)]) (st1 := [(0, X (i + 3)), (0, X (i + 2)), (0, X (i + 1)), (22, 94), (0, v)]) (h1 := h1) (BL_61 X N) (BL_62 X N) (fun J => ?_) (LA_j (L1 := [(5, z), (21, 0), (22, 94), (33, 143), (0, i), (9, 0), (9, 0)]) (st1 := [(0, 1), (0, X (i + 3)), (0, X (i + 2)), (0, X (i + 1)), (22, 94), (0, v)]) (h1 := h1) (BL_62 X N) (BL_64 X N) (fun J => ?_) (LA_j (L1 := [(5, z), (21, 0), (22, 94), (33, 143), (0, i), (9, 0), (9, 0)]) (st1 := []) (h1 := h2) (BL_64 X N) (BL_86 X N) (fun J => ?_) (q))))), ST_mo s2 (by omega) (by omega)⟩
    · show (ck_ (0 ≤ (w32 (i + 1)) ∧ (w32 (i + 1)) < N) (ck_ (0 ≤ (w32 (i + 2)) ∧ (w32 (i + 2)) < N) (ck_ (0 ≤ (w32 (i + 3)) ∧ (w32 (i + 3)) < N) (ck_ (0 ≤ (w32 (i + 4)) ∧ (w32 (i + 4)) < N) (if (X (w32 (i + 4))) = 0 then J 60 [(5, z), (21, 0), (22, 94), (33, 143), (0, i), (9, 0), (9, 0)] [(0, X (w32 (i + 3))), (0, X (w32 (i + 2))), (0, X (w32 (i + 1))), (21, 0)] h else J 59 [(5, z), (21, 0), (22, 94), (33, 143), (0, i), (9, 0), (9, 0)] [(0, X (w32 (i + 3))), (0, X (w32 (i + 2))), (0, X (w32 (i + 1))), (21, 0)] h))))) = _
      try simp (disch := omega) only [w32_i]
      repeat first | rw [ck_t (by omega)] | rw [cc_171, e1, bd_v] | rw [cc_294, e2, bd_v] | rw [if_pos rfl] | rw [if_pos d] | rw [if_neg d]
    · show (J 61 [(5, z), (21, 0), (22, 94), (33, 143), (0, i), (9, 0), (9, 0)] [(0, 1), (0, X (i + 3)), (0, X (i + 2)), (0, X (i + 1)), (21, 0)] h) = _
      try simp (disch := omega) only [w32_i]
      repeat first | rw [ck_t (by omega)] | rw [cc_171, e1, bd_v] | rw [cc_294, e2, bd_v] | rw [if_pos rfl] | rw [if_pos d] | rw [if_neg d]
    · show (ck_ (0 ≤ (0 : Int)) (bd_ (CC 171 [(21, 0), (0, X (i + 1)), (0, X (i + 2)), (0, X (i + 3)), (0, 1)] h) fun h1 v2 => ck_ (0 ≤ (w32 (i + 1)) ∧ (w32 (i + 1)) < N) (ck_ (0 ≤ (w32 (i + 2)) ∧ (w32 (i + 2)) < N) (ck_ (0 ≤ (w32 (i + 3)) ∧ (w32 (i + 3)) < N) (ck_ (0 ≤ (w32 (i + 4)) ∧ (w32 (i + 4)) < N) (if (X (w32 (i + 4))) = 0 then J 63 [(5, z), (21, 0), (22, 94), (33, 143), (0, i), (9, 0), (9, 0)] [(0, X (w32 (i + 3))), (0, X (w32 (i + 2))), (0, X (w32 (i + 1))), (22, 94), (0, v2)] h1 else J 62 [(5, z), (21, 0), (22, 94), (33, 143), (0, i), (9, 0), (9, 0)] [(0, X (w32 (i + 3))), (0, X (w32 (i + 2))), (0, X (w32 (i + 1))), (22, 94), (0, v2)] h1)))))) = _
      try simp (disch := omega) only [w32_i]
      repeat first | rw [ck_t (by omega)] | rw [cc_171, e1, bd_v] | rw [cc_294, e2, bd_v] | rw [if_pos rfl] | rw [if_pos d] | rw [if_neg d]
    · show (J 64 [(5, z), (21, 0), (22, 94), (33, 143), (0, i), (9, 0), (9, 0)] [(0, 1), (0, X (i + 3)), (0, X (i + 2)), (0, X (i + 1)), (22, 94), (0, v)] h1) = _
      try simp (disch := omega) only [w32_i]
      repeat first | rw [ck_t (by omega)] | rw [cc_171, e1, bd_v] | rw [cc_294, e2, bd_v] | rw [if_pos rfl] | rw [if_pos d] | rw [if_neg d]
    · show (ck_ (0 ≤ (94 : Int)) (bd_ (CC 294 [(22, 94), (0, X (i + 1)), (0, X (i + 2)), (0, X (i + 3)), (0, 1)] h1) fun h8 v2 => if v = v2 then J 86 [(5, z), (21, 0), (22, 94), (33, 143), (0, i), (9, 0), (9, 0)] [] h8 else J 65 [(5, z), (21, 0), (22, 94), (33, 143), (0, i), (9, 0), (9, 0)] [] h8)) = _
      try simp (disch := omega) only [w32_i]
      repeat first | rw [ck_t (by omega)] | rw [cc_171, e1, bd_v] | rw [cc_294, e2, bd_v] | rw [if_pos rfl] | rw [if_pos d] | rw [if_neg d]
set_option maxRecDepth 20000 in
theorem LC_12 (hN : N ≤ 3072) : LC X N z 12 := fun i K S h T W I U Q i0 i1 st => by
  obtain ⟨h1, h2, k, w, e1, e2, e3, e4, l0, s2⟩ := B_pile st (X (i + 1)) (X (i + 2))
  refine ⟨h2, T, W, I, U, Q, fun r q => ?_, s2⟩
  have q17 : LA X N 17 [(5, z), (21, 0), (22, 94), (33, 143), (0, i), (9, 0), (9, 0)] [] h2 r := LA_j (L1 := Lx z i) (BL_17 X N) (BL_86 X N) (fun J => rfl) q
  by_cases d : k = 0
  · have e5 := e4 d
    refine LA_j (L1 := [(5, z), (21, 0), (22, 94), (33, 143), (0, i), (0, k), (0, w)]) (st1 := []) (h1 := h2) (BL_12 X N) (BL_14 X N) (fun J => ?_) (LA_j (L1 := [(5, z), (21, 0), (22, 94), (33, 143), (0, i), (0, k), (0, w)]) (st1 := []) (h1 := h2) (BL_14 X N) (BL_15 X N) (fun J => ?_) (LA_j (L1 := [(5, z), (21, 0), (22, 94), (33, 143), (0, i), (9, 0), (0, w)]) (st1 := []) (h1 := h2) (BL_15 X N) (BL_17 X N) (fun J => ?_) (q17)))
    · show (ck_ (0 ≤ (w32 (i + 1)) ∧ (w32 (i + 1)) < N) (ck_ (0 ≤ (w32 (i + 2)) ∧ (w32 (i + 2)) < N) (bd_ (LPL h 0 (X (w32 (i + 1))) (X (w32 (i + 2))) 143) fun h1 v2 => ck_ (0 ≤ (w32 (i + 1)) ∧ (w32 (i + 1)) < N) (ck_ (0 ≤ (w32 (i + 2)) ∧ (w32 (i + 2)) < N) (ck_ (0 ≤ (94 : Int)) (bd_ (CC 260 [(22, 94), (0, X (w32 (i + 1))), (0, X (w32 (i + 2)))] h1) fun h3 v4 => ck_ (0 ≤ (94 : Int)) (bd_ (CC 194 [(22, 94)] h3) fun h5 v6 => if v6 = v2 then J 14 [(5, z), (21, 0), (22, 94), (33, 143), (0, i), (0, v2), (0, v4)] [] h5 else J 13 [(5, z), (21, 0), (22, 94), (33, 143), (0, i), (0, v2), (0, v4)] [] h5))))))) = _
      try simp (disch := omega) only [w32_i]
      repeat first | rw [ck_t (by omega)] | rw [e1, bd_v] | rw [cc_260, e2, bd_v] | rw [cc_194, Mo_thrown_e] | rw [e3] | rw [bd_v] | rw [if_pos rfl]
    · show (if k ≠ 0 then J 17 [(5, z), (21, 0), (22, 94), (33, 143), (0, i), (0, k), (0, w)] [] h2 else J 15 [(5, z), (21, 0), (22, 94), (33, 143), (0, i), (0, k), (0, w)] [] h2) = _
      try simp (disch := omega) only [w32_i]
      rw [if_neg (by omega)]
    · show (ck_ (0 ≤ (143 : Int)) (ck_ (0 ≤ (0 : Int) ∧ (0 : Int) < ln_ h2 143) (if (lcm_ (rd_ h2 143 0) w) = 0 then J 17 [(5, z), (21, 0), (22, 94), (33, 143), (0, i), (9, 0), (0, w)] [] h2 else J 16 [(5, z), (21, 0), (22, 94), (33, 143), (0, i), (9, 0), (0, w)] [] h2))) = _
      try simp (disch := omega) only [w32_i]
      rw [ck_t (by omega), ck_t (by omega), e5, lcm_s, if_pos rfl]
  · refine LA_j (L1 := [(5, z), (21, 0), (22, 94), (33, 143), (0, i), (0, k), (0, w)]) (st1 := []) (h1 := h2) (BL_12 X N) (BL_14 X N) (fun J => ?_) (LA_j (L1 := [(5, z), (21, 0), (22, 94), (33, 143), (0, i), (0, k), (0, w)]) (st1 := []) (h1 := h2) (BL_14 X N) (BL_17 X N) (fun J => ?_) (q17))
    · show (ck_ (0 ≤ (w32 (i + 1)) ∧ (w32 (i + 1)) < N) (ck_ (0 ≤ (w32 (i + 2)) ∧ (w32 (i + 2)) < N) (bd_ (LPL h 0 (X (w32 (i + 1))) (X (w32 (i + 2))) 143) fun h1 v2 => ck_ (0 ≤ (w32 (i + 1)) ∧ (w32 (i + 1)) < N) (ck_ (0 ≤ (w32 (i + 2)) ∧ (w32 (i + 2)) < N) (ck_ (0 ≤ (94 : Int)) (bd_ (CC 260 [(22, 94), (0, X (w32 (i + 1))), (0, X (w32 (i + 2)))] h1) fun h3 v4 => ck_ (0 ≤ (94 : Int)) (bd_ (CC 194 [(22, 94)] h3) fun h5 v6 => if v6 = v2 then J 14 [(5, z), (21, 0), (22, 94), (33, 143), (0, i), (0, v2), (0, v4)] [] h5 else J 13 [(5, z), (21, 0), (22, 94), (33, 143), (0, i), (0, v2), (0, v4)] [] h5))))))) = _
      try simp (disch := omega) only [w32_i]
      repeat first | rw [ck_t (by omega)] | rw [e1, bd_v] | rw [cc_260, e2, bd_v] | rw [cc_194, Mo_thrown_e] | rw [e3] | rw [bd_v] | rw [if_pos rfl]
    · show (if k ≠ 0 then J 17 [(5, z), (21, 0), (22, 94), (33, 143), (0, i), (0, k), (0, w)] [] h2 else J 15 [(5, z), (21, 0), (22, 94), (33, 143), (0, i), (0, k), (0, w)] [] h2) = _
      try simp (disch := omega) only [w32_i]
      rw [if_pos d]
end
