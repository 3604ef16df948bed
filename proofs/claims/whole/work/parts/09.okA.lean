/-! WHAT IS OWED OF A MEANING: where it answers, the machine comes to that answer -/
def am_big : List Cond := lw_tbl.filter goodWord
theorem big_in (i : Nat) {w : Cond} (h : tables_1[i]? = some w) (hg : goodWord w = true) : w ∈ am_big := List.mem_filter.mpr ⟨List.mem_append_right _ (List.mem_of_getElem? h), hg⟩
theorem big_pr (i : Nat) {w : Cond} (h : (k2_sels lw_privs)[i]? = some w) (hg : goodWord w = true) : w ∈ am_big := List.mem_filter.mpr ⟨List.mem_append_left _ (List.mem_of_getElem? h), hg⟩
theorem big_good {w : Cond} (h : w ∈ am_big) : (w.onTables && w.keeps) = true ∨ ∃ ty, w = .arrayClass ty := good_of_word (List.mem_filter.mp h).2
def fa_ : List Int := [1, 1, 2, 6, 24, 120]
def pf_ : List Int := [1, 5, 25, 125, 625]
def tx_ : List Int := [109, 97, 105, 100, 32, 112, 105, 108, 101, 32, 112, 108, 97, 116, 101, 32, 116, 117, 114, 110, 32, 99, 104, 105, 112, 32, 115, 101, 101, 100, 32, 108, 97, 119, 32, 101, 102, 102, 111, 114, 116, 32, 99, 114, 97, 99, 107, 32, 104, 101, 101, 100, 32, 111, 114, 32, 97, 110, 100, 32, 110, 111, 116, 32, 115, 105, 122, 101, 32, 100, 101, 112, 116, 104, 32, 104, 105, 103, 104, 32, 115, 107, 105, 108, 108, 32, 116, 105, 114, 101, 100, 32, 103, 97, 112, 115, 32, 109, 105, 110, 117, 116, 101, 32]
def nw_l : List Cond := [.fieldLinkNest "PlatePiles$Turning" 33 "PlatePiles" "FACTORIAL" "[I" "PlatePiles", .fieldLinkNest "PlatePiles$Chart" 39 "PlatePiles" "FACTORIAL" "[I" "PlatePiles"]
def nm_l : List (String × Nat × MethodName) := [("PlatePiles$Tokens", 72, ⟨"PlatePiles", "indexOf", "([III)I"⟩), ("PlatePiles$Reader", 121, ⟨"PlatePiles", "indexOf", "([III)I"⟩), ("PlatePiles$Turning", 22, ⟨"PlatePiles", "reverse", "([II)V"⟩), ("PlatePiles$Turning", 25, ⟨"PlatePiles", "orderOf", "([II)I"⟩), ("PlatePiles$World", 79, ⟨"PlatePiles", "orderOf", "([II)I"⟩)]
def ty_ (G : am_G) : List (ClassId × FieldType) := [(G.2.2.1 20, .int), (G.2.2.1 21, .byte), (G.2.2.1 22, .boolean), (G.2.2.1 23, .long), (G.2.2.1 24, .object "PlatePiles$Chart")]
/-- what stays as it was at the start: classes, static rows, words on nests, the written text -/
def ev_ (G : am_G) (U : State) (H : Heap) : Prop :=
  va_K G.1 vwCl (ty_ G) U ∧ G.2.2.2.2.category = 1 ∧
  va_Z "PlatePiles" "FACTORIAL" "[I" (.ref (G.2.2.2.1 0)) (ar_ G) U H ∧ va_T .int (G.2.2.2.1 0) 6 (fun j => .int (Int32.ofInt (fa_.getD j 0))) (ar_ G) U H ∧
  va_Z "PlatePiles" "POWER_OF_FIVE" "[I" (.ref (G.2.2.2.1 1)) (ar_ G) U H ∧ va_T .int (G.2.2.2.1 1) 5 (fun j => .int (Int32.ofInt (pf_.getD j 0))) (ar_ G) U H ∧
  (∀ w ∈ nw_l, va_Nw w U) ∧ (∀ q ∈ nm_l, va_Nw (.methodLinkNest q.1 q.2.1 q.2.2 "PlatePiles") U) ∧ va_AO "PlatePiles$Chart" U ∧
  vk_R "PlatePiles$Tokens" 19 "maid pile plate turn chip seed law effort crack heed or and not size depth high skill tired gaps minute " (G.2.2.2.1 10) U ∧
  (va_O "java/lang/String" (G.2.2.2.1 10) (ar_ G) U H ∧ va_OF "java/lang/String" "coder" "B" (.int 0) (G.2.2.2.1 10) (ar_ G) U H ∧ va_OF "java/lang/String" "value" "[B" (.ref (G.2.2.2.1 20)) (G.2.2.2.1 10) (ar_ G) U H ∧ va_T .byte (G.2.2.2.1 20) 104 (fun j => .int (Int32.ofInt (tx_.getD j 0))) (ar_ G) U H) ∧
  va_Z "java/lang/String" "COMPACT_STRINGS" "Z" (.int 1) (ar_ G) U H ∧ va_Z "jdk/internal/util/Preconditions" "SIOOBE_FORMATTER" "Ljava/util/function/BiFunction;" G.2.2.2.2 (ar_ G) U H
def rv_ (G : am_G) (rt : Nat) (v : Int) : Option Value := if rt = 9 then none else some (cv_ G (rt, v))
def qc_ (G : am_G) (rt : Nat) (r : am_H × Int) : Array Value → State → Outcome → State → Prop := fun _ st o t => o = .returned (rv_ G rt r.2) ∧ hr_ G t.heap r.1 ∧ va_F (ar_ G) st t ∧ ov_ r.1.2.2 (rt, r.2)
def pc_ (G : am_G) (as : List am_V) (h : am_H) : Array Value → State → Prop := va_Pc (as.map (cv_ G)) (fun U => ev_ G U U.heap ∧ hr_ G U.heap h)
/-- a method: name, code, locals, answer's type, arguments' tags, answer's tag, frames and locals' room -/
abbrev am_S : Type := MethodName × ByteArray × Nat × Option FieldType × List Nat × Nat × Nat × Nat
def ms_ (M : am_S) : List Cond := Cond.code M.1 M.2.1 M.2.2.1 M.2.2.2.1 :: am_big
def mm_ (l : Launch) (G : am_G) (M : am_S) (as : List am_V) (h : am_H) (r : am_H × Int) : Prop :=
  Met l M.1 (ms_ M) { frames := M.2.2.2.2.2.2.1, cells := (nn_ r.1 - nn_ h).toNat, slots := (ss_ r.1 - ss_ h).toNat, locals := M.2.2.2.2.2.2.2 } (pc_ G as h) (qc_ G M.2.2.2.2.2.1 r) (nn_ r.1 - nn_ h).toNat (ss_ r.1 - ss_ h).toNat (ar_ G)
def cs_ (l : Launch) (G : am_G) (mt : Nat → am_S) (C : am_C) : Prop := ∀ j as h r, C j as h = some r → te_ as (mt j).2.2.2.2.1 = true → (nn_ h ≤ nn_ r.1 ∧ ss_ h ≤ ss_ r.1 ∧ ∀ a, 0 ≤ a → a < nn_ h → kd_ r.1 a = kd_ h a) ∧ ((∀ v ∈ as, ov_ h.2.2 v) → mm_ l G (mt j) as h r)
section Ok
variable (p : Program) (l : Launch) (e : Env) (R : Room) (s : State) (m : MethodId) (args : Array Value) (below : List Frame) (meth : Method) (c : Code) (G : am_G)
def cx_ (own : String) (cc : ByteArray) (FR LO nL : Nat) (ini : Bool) (ret : Option FieldType) (h0 : am_H) (r : am_H × Int) : Prop :=
  p.tables.exec = Jvm.exec ∧ c.code = cc ∧ c.maxLocals = nL ∧ s.vm.findClass own = some m.cls ∧ (∀ w ∈ am_big, w.before args s = true) ∧ ev_ G s s.heap ∧ G.2.1 ≤ s.heap.size ∧
  R = { frames := FR, cells := (nn_ r.1 - nn_ h0).toNat, slots := (ss_ r.1 - ss_ h0).toNat, locals := LO } ∧ meth.locks = false ∧ meth.sig.returnType = ret ∧ (ini = true → meth.name = "<init>")
def gd_ (rt : Nat) (h0 : am_H) (r : am_H × Int) (nL pc : Nat) (L st : List am_V) (h : am_H) : Prop :=
  (nn_ h ≤ nn_ r.1 ∧ ss_ h ≤ ss_ r.1 ∧ ∀ a, 0 ≤ a → a < nn_ h → kd_ r.1 a = kd_ h a) ∧
  ∀ (ls : Array Slot) (H : Heap) (locs : List Loc), lv_has ls nL (lv_l G L) → hr_ G H h → va_S (ar_ G) s.heap H locs → (∀ v ∈ L, ov_ h.2.2 v) → (∀ v ∈ st, ov_ h.2.2 v) → nn_ h0 ≤ nn_ h → ss_ h0 ≤ ss_ h →
    W p l e R s m args below meth c H locs (nn_ h - nn_ h0).toNat (ss_ h - ss_ h0).toNat (MQ below (qc_ G rt r) args s (nn_ r.1 - nn_ h0).toNat (ss_ r.1 - ss_ h0).toNat (ar_ G)) (F0 m pc ls (st.map (cv_ G)))
end Ok
/-- the instruction at pc, with its meaning, in a method of the class own with room FR, LO, nL locals; lpc: where the blocks begin -/
def ok_ (mt : Nat → am_S) (own : String) (FR LO nL : Nat) (ini : Bool) (ret : Option FieldType) (rt : Nat) (lpc : Nat → Nat) (pc : Nat) (ins : Instr) (len : Nat) (i : am_I) : Prop :=
  ∀ (p : Program) (l : Launch) (e : Env) (R : Room) (s : State) (m : MethodId) (args : Array Value) (below : List Frame) (meth : Method) (c : Code) (G : am_G) (cc : ByteArray) (h0 : am_H) (r : am_H × Int) (C : am_C) (J : am_J) (K : am_K),
    cx_ p R s m args meth c G own cc FR LO nL ini ret h0 r → decode cc pc = .ok (ins, len) → cs_ l G mt C →
    (∀ b L st h, J b L st h = some r → gd_ p l e R s m args below meth c G rt h0 r nL (lpc b) L st h) →
    (∀ L st h, K L st h = some r → gd_ p l e R s m args below meth c G rt h0 r nL (pc + len) L st h) →
    ∀ L st h, i C J K L st h = some r → gd_ p l e R s m args below meth c G rt h0 r nL pc L st h
theorem d_09 : (0 : Nat) ≠ 9 := by decide
theorem d_19 : (1 : Nat) ≠ 9 := by decide
theorem d_01 : (0 : Nat) ≠ 1 := by decide
theorem tg_s {t c : Nat} {x : am_O} {r : am_H × Int} (h : tg_ t c x = some r) : t = c ∧ x = some r := by
  unfold tg_ at h
  cases hb : Nat.beq t c with
  | true => rw [hb] at h; exact ⟨Nat.eq_of_beq_eq_true hb, h⟩
  | false => rw [hb] at h; cases h
theorem bl_s {b : Bool} {x : am_O} {r : am_H × Int} (h : bl_ b x = some r) : b = true ∧ x = some r := by
  cases b
  · cases h
  · exact ⟨rfl, h⟩
theorem ck_s {q : Prop} [Decidable q] {x : am_O} {r : am_H × Int} (h : ck_ q x = some r) : q ∧ x = some r := by
  unfold ck_ at h
  by_cases z : q
  · rw [if_pos z] at h; exact ⟨z, h⟩
  · rw [if_neg z] at h; cases h
theorem s1_s {st : List am_V} {f : Nat → Int → List am_V → am_O} {r : am_H × Int} (h : s1_ st f = some r) : ∃ t x u, st = (t, x) :: u ∧ f t x u = some r := by
  cases st with
  | nil => cases h
  | cons v u => exact ⟨v.1, v.2, u, rfl, h⟩
theorem l1_s {ls : List am_V} {i : Nat} {f : Nat → Int → am_O} {r : am_H × Int} (h : l1_ ls i f = some r) : ∃ t x, ls[i]? = some (t, x) ∧ f t x = some r := by
  unfold l1_ at h
  cases hv : ls[i]? with
  | none => rw [hv] at h; cases h
  | some v => rw [hv] at h; exact ⟨v.1, v.2, rfl, h⟩
theorem bd_s {x : am_O} {f : am_H → Int → am_O} {r : am_H × Int} (h : bd_ x f = some r) : ∃ q, x = some q ∧ f q.1 q.2 = some r := by
  cases x with
  | none => cases h
  | some q => exact ⟨q, rfl, h⟩
theorem ov_hd {M : am_M} {v : am_V} {st : List am_V} (h : ∀ w ∈ v :: st, ov_ M w) : ov_ M v := h v List.mem_cons_self
theorem ov_tl {M : am_M} {v : am_V} {st : List am_V} (h : ∀ w ∈ v :: st, ov_ M w) : ∀ w ∈ st, ov_ M w := fun w hw => h w (List.mem_cons_of_mem _ hw)
theorem ov_cs {M : am_M} {v : am_V} {st : List am_V} (hv : ov_ M v) (h : ∀ w ∈ st, ov_ M w) : ∀ w ∈ v :: st, ov_ M w := fun w hw => (List.mem_cons.mp hw).elim (fun e => e ▸ hv) (h w)
section Simple
variable {mt : Nat → am_S} {own : String} {FR LO nL : Nat} {ini : Bool} {ret : Option FieldType} {rt : Nat} {lpc : Nat → Nat} {pc : Nat}
theorem ok_iconst {n : Int} (hn : i32_ n) : ok_ mt own FR LO nL ini ret rt lpc pc (.iconst n) 1 (i_push 0 n) := by
  intro p l e R s m args below meth c G cc h0 r C J K X hd hC hJ hK L st h hi
  obtain ⟨hm, hw⟩ := hK _ _ _ hi
  exact ⟨hm, fun ls H locs hl hH hS hvL hvS h1 h2 => lv_iconst X.1 X.2.1 hd rfl (hw ls H locs hl hH hS hvL (ov_cs hn hvS) h1 h2)⟩
theorem ok_bipush {n : Int} (hn : -128 ≤ n ∧ n < 128) : ok_ mt own FR LO nL ini ret rt lpc pc (.bipush n) 2 (i_push 0 n) := by
  intro p l e R s m args below meth c G cc h0 r C J K X hd hC hJ hK L st h hi
  obtain ⟨hm, hw⟩ := hK _ _ _ hi
  exact ⟨hm, fun ls H locs hl hH hS hvL hvS h1 h2 => lv_bipush X.1 X.2.1 hd (n8_of hn.1 hn.2) (hw ls H locs hl hH hS hvL (ov_cs (by show i32_ n; unfold i32_; omega) hvS) h1 h2)⟩
theorem ok_sipush {n : Int} (hn : -32768 ≤ n ∧ n < 32768) : ok_ mt own FR LO nL ini ret rt lpc pc (.sipush n) 3 (i_push 0 n) := by
  intro p l e R s m args below meth c G cc h0 r C J K X hd hC hJ hK L st h hi
  obtain ⟨hm, hw⟩ := hK _ _ _ hi
  exact ⟨hm, fun ls H locs hl hH hS hvL hvS h1 h2 => lv_sipush X.1 X.2.1 hd (n16_of hn.1 hn.2) (hw ls H locs hl hH hS hvL (ov_cs (by show i32_ n; unfold i32_; omega) hvS) h1 h2)⟩
theorem ok_lconst0 : ok_ mt own FR LO nL ini ret rt lpc pc (.lconst 0) 1 (i_push 1 0) := by
  intro p l e R s m args below meth c G cc h0 r C J K X hd hC hJ hK L st h hi
  obtain ⟨hm, hw⟩ := hK _ _ _ hi
  exact ⟨hm, fun ls H locs hl hH hS hvL hvS h1 h2 => lv_lconst X.1 X.2.1 hd rfl (hw ls H locs hl hH hS hvL (ov_cs (by show i64_ 0; unfold i64_; omega) hvS) h1 h2)⟩
theorem ok_lconst1 : ok_ mt own FR LO nL ini ret rt lpc pc (.lconst 1) 1 (i_push 1 1) := by
  intro p l e R s m args below meth c G cc h0 r C J K X hd hC hJ hK L st h hi
  obtain ⟨hm, hw⟩ := hK _ _ _ hi
  exact ⟨hm, fun ls H locs hl hH hS hvL hvS h1 h2 => lv_lconst X.1 X.2.1 hd rfl (hw ls H locs hl hH hS hvL (ov_cs (by show i64_ 1; unfold i64_; omega) hvS) h1 h2)⟩
theorem ok_null : ok_ mt own FR LO nL ini ret rt lpc pc .aconst_null 1 (i_push 3 (-1)) := by
  intro p l e R s m args below meth c G cc h0 r C J K X hd hC hJ hK L st h hi
  obtain ⟨hm, hw⟩ := hK _ _ _ hi
  exact ⟨hm, fun ls H locs hl hH hS hvL hvS h1 h2 => lv_null X.1 X.2.1 hd (hw ls H locs hl hH hS hvL (ov_cs trivial hvS) h1 h2)⟩
theorem ok_ldc {idx : Nat} {n : Int} (hn : i32_ n) (hw : Cond.constant own idx (Int32.ofInt n) ∈ am_big) : ok_ mt own FR LO nL ini ret rt lpc pc (.ldc idx) 2 (i_push 0 n) := by
  intro p l e R s m args below meth c G cc h0 r C J K X hd hC hJ hK L st h hi
  obtain ⟨hm, hk⟩ := hK _ _ _ hi
  exact ⟨hm, fun ls H locs hl hH hS hvL hvS h1 h2 => lv_ldc X.1 X.2.1 X.2.2.2.1 (X.2.2.2.2.1 _ hw) hd (hk ls H locs hl hH hS hvL (ov_cs hn hvS) h1 h2)⟩
theorem ok_ldc2 {idx : Nat} {n : Int} (hn : i64_ n) (hw : Cond.constantLong own idx (Int64.ofInt n) ∈ am_big) : ok_ mt own FR LO nL ini ret rt lpc pc (.ldc2_w idx) 3 (i_push 1 n) := by
  intro p l e R s m args below meth c G cc h0 r C J K X hd hC hJ hK L st h hi
  obtain ⟨hm, hk⟩ := hK _ _ _ hi
  exact ⟨hm, fun ls H locs hl hH hS hvL hvS h1 h2 => lv_ldc2 X.1 X.2.1 X.2.2.2.1 (X.2.2.2.2.1 _ hw) hd (hk ls H locs hl hH hS hvL (ov_cs hn hvS) h1 h2)⟩
theorem ok_iload_n {k : Fin 4} {i : Nat} (hi : (k : Nat) = i) : ok_ mt own FR LO nL ini ret rt lpc pc (.iload_n k) 1 (i_load i 0) := by
  intro p l e R s m args below meth c G cc h0 r C J K X hd hC hJ hK L st h hr
  obtain ⟨t, x, hv, hr⟩ := l1_s hr
  obtain ⟨rfl, hr⟩ := tg_s hr
  obtain ⟨hm, hw⟩ := hK _ _ _ hr
  exact ⟨hm, fun ls H locs hl hH hS hvL hvS h1 h2 => lv_iload_n X.1 X.2.1 hd hi (lv_l_at hl hv d_09) (hw ls H locs hl hH hS hvL (ov_cs (hvL _ (List.mem_of_getElem? hv)) hvS) h1 h2)⟩
theorem ok_iload {i : Nat} : ok_ mt own FR LO nL ini ret rt lpc pc (.iload i) 2 (i_load i 0) := by
  intro p l e R s m args below meth c G cc h0 r C J K X hd hC hJ hK L st h hr
  obtain ⟨t, x, hv, hr⟩ := l1_s hr
  obtain ⟨rfl, hr⟩ := tg_s hr
  obtain ⟨hm, hw⟩ := hK _ _ _ hr
  exact ⟨hm, fun ls H locs hl hH hS hvL hvS h1 h2 => lv_iload X.1 X.2.1 hd (lv_l_at hl hv d_09) (hw ls H locs hl hH hS hvL (ov_cs (hvL _ (List.mem_of_getElem? hv)) hvS) h1 h2)⟩
theorem ok_lload_n {k : Fin 4} {i : Nat} (hi : (k : Nat) = i) : ok_ mt own FR LO nL ini ret rt lpc pc (.lload_n k) 1 (i_load i 1) := by
  intro p l e R s m args below meth c G cc h0 r C J K X hd hC hJ hK L st h hr
  obtain ⟨t, x, hv, hr⟩ := l1_s hr
  obtain ⟨rfl, hr⟩ := tg_s hr
  obtain ⟨hm, hw⟩ := hK _ _ _ hr
  exact ⟨hm, fun ls H locs hl hH hS hvL hvS h1 h2 => lv_lload_n X.1 X.2.1 hd hi (lv_l_at hl hv d_19) (hw ls H locs hl hH hS hvL (ov_cs (hvL _ (List.mem_of_getElem? hv)) hvS) h1 h2)⟩
theorem ok_lload {i : Nat} : ok_ mt own FR LO nL ini ret rt lpc pc (.lload i) 2 (i_load i 1) := by
  intro p l e R s m args below meth c G cc h0 r C J K X hd hC hJ hK L st h hr
  obtain ⟨t, x, hv, hr⟩ := l1_s hr
  obtain ⟨rfl, hr⟩ := tg_s hr
  obtain ⟨hm, hw⟩ := hK _ _ _ hr
  exact ⟨hm, fun ls H locs hl hH hS hvL hvS h1 h2 => lv_lload X.1 X.2.1 hd (lv_l_at hl hv d_19) (hw ls H locs hl hH hS hvL (ov_cs (hvL _ (List.mem_of_getElem? hv)) hvS) h1 h2)⟩
theorem cv_r {G : am_G} {t : Nat} (ht : (4 ≤ t ∧ t ≤ 7) ∨ 10 ≤ t) (x : Int) : cv_ G (t, x) = .null ∨ ∃ a, cv_ G (t, x) = .ref a := by
  unfold cv_
  split
  all_goals first | exact Or.inl rfl | exact Or.inr ⟨_, rfl⟩ | (rename_i e; cases e; omega) | (split <;> first | exact Or.inl rfl | exact Or.inr ⟨_, rfl⟩)
theorem ok_aload_n {k : Fin 4} {i t : Nat} (hi : (k : Nat) = i) (ht : (4 ≤ t ∧ t ≤ 7) ∨ 10 ≤ t) : ok_ mt own FR LO nL ini ret rt lpc pc (.aload_n k) 1 (i_load i t) := by
  intro p l e R s m args below meth c G cc h0 r C J K X hd hC hJ hK L st h hr
  obtain ⟨t', x, hv, hr⟩ := l1_s hr
  obtain ⟨rfl, hr⟩ := tg_s hr
  obtain ⟨hm, hw⟩ := hK _ _ _ hr
  refine ⟨hm, fun ls H locs hl hH hS hvL hvS h1 h2 => ?_⟩
  have a := lv_l_at hl hv (by show t' ≠ 9; omega)
  have k2 := hw ls H locs hl hH hS hvL (ov_cs (hvL _ (List.mem_of_getElem? hv)) hvS) h1 h2
  rw [List.map_cons] at k2
  rcases cv_r (G := G) ht x with q | ⟨b, q⟩
  · rw [q] at a k2
    exact lv_aload_nN X.1 X.2.1 hd hi a k2
  · rw [q] at a k2
    exact lv_aload_n X.1 X.2.1 hd hi a k2
theorem ok_aload {i t : Nat} (ht : (4 ≤ t ∧ t ≤ 7) ∨ 10 ≤ t) : ok_ mt own FR LO nL ini ret rt lpc pc (.aload i) 2 (i_load i t) := by
  intro p l e R s m args below meth c G cc h0 r C J K X hd hC hJ hK L st h hr
  obtain ⟨t', x, hv, hr⟩ := l1_s hr
  obtain ⟨rfl, hr⟩ := tg_s hr
  obtain ⟨hm, hw⟩ := hK _ _ _ hr
  refine ⟨hm, fun ls H locs hl hH hS hvL hvS h1 h2 => ?_⟩
  have a := lv_l_at hl hv (by show t' ≠ 9; omega)
  have k2 := hw ls H locs hl hH hS hvL (ov_cs (hvL _ (List.mem_of_getElem? hv)) hvS) h1 h2
  rw [List.map_cons] at k2
  rcases cv_r (G := G) ht x with q | ⟨b, q⟩
  · rw [q] at a k2
    exact lv_aloadN X.1 X.2.1 hd a k2
  · rw [q] at a k2
    exact lv_aload X.1 X.2.1 hd a k2
theorem ok_istore_n {k : Fin 4} {i : Nat} (hi : (k : Nat) = i) (hn : i < nL) : ok_ mt own FR LO nL ini ret rt lpc pc (.istore_n k) 1 (i_store i 0) := by
  intro p l e R s m args below meth c G cc h0 r C J K X hd hC hJ hK L st h hr
  obtain ⟨t, x, u, rfl, hr⟩ := s1_s hr
  obtain ⟨rfl, hr⟩ := tg_s hr
  obtain ⟨hm, hw⟩ := hK _ _ _ hr
  exact ⟨hm, fun ls H locs hl hH hS hvL hvS h1 h2 => lv_istore_n X.1 X.2.1 hd hi hl hn rfl fun ls' hl' => hw ls' H locs (lv_l_st (v := (0, x)) X.2.2.2.2.2.1.2.1 d_01 hl') hH hS (ov_st hvL (ov_hd hvS)) (ov_tl hvS) h1 h2⟩
theorem ok_istore {i : Nat} (hn : i < nL) : ok_ mt own FR LO nL ini ret rt lpc pc (.istore i) 2 (i_store i 0) := by
  intro p l e R s m args below meth c G cc h0 r C J K X hd hC hJ hK L st h hr
  obtain ⟨t, x, u, rfl, hr⟩ := s1_s hr
  obtain ⟨rfl, hr⟩ := tg_s hr
  obtain ⟨hm, hw⟩ := hK _ _ _ hr
  exact ⟨hm, fun ls H locs hl hH hS hvL hvS h1 h2 => lv_istore X.1 X.2.1 hd hl hn rfl fun ls' hl' => hw ls' H locs (lv_l_st (v := (0, x)) X.2.2.2.2.2.1.2.1 d_01 hl') hH hS (ov_st hvL (ov_hd hvS)) (ov_tl hvS) h1 h2⟩
theorem ok_lstore_n {k : Fin 4} {i : Nat} (hi : (k : Nat) = i) (hn : i + 1 < nL) : ok_ mt own FR LO nL ini ret rt lpc pc (.lstore_n k) 1 (i_store i 1) := by
  intro p l e R s m args below meth c G cc h0 r C J K X hd hC hJ hK L st h hr
  obtain ⟨t, x, u, rfl, hr⟩ := s1_s hr
  obtain ⟨rfl, hr⟩ := tg_s hr
  obtain ⟨hm, hw⟩ := hK _ _ _ hr
  exact ⟨hm, fun ls H locs hl hH hS hvL hvS h1 h2 => lv_lstore_n X.1 X.2.1 hd hi hl hn rfl fun ls' hl' => hw ls' H locs (lv_l_st2 (v := (1, x)) X.2.2.2.2.2.1.2.1 rfl hl') hH hS (ov_st hvL (ov_hd hvS)) (ov_tl hvS) h1 h2⟩
theorem ok_lstore {i : Nat} (hn : i + 1 < nL) : ok_ mt own FR LO nL ini ret rt lpc pc (.lstore i) 2 (i_store i 1) := by
  intro p l e R s m args below meth c G cc h0 r C J K X hd hC hJ hK L st h hr
  obtain ⟨t, x, u, rfl, hr⟩ := s1_s hr
  obtain ⟨rfl, hr⟩ := tg_s hr
  obtain ⟨hm, hw⟩ := hK _ _ _ hr
  exact ⟨hm, fun ls H locs hl hH hS hvL hvS h1 h2 => lv_lstore X.1 X.2.1 hd hl hn rfl fun ls' hl' => hw ls' H locs (lv_l_st2 (v := (1, x)) X.2.2.2.2.2.1.2.1 rfl hl') hH hS (ov_st hvL (ov_hd hvS)) (ov_tl hvS) h1 h2⟩
theorem ok_astore_n {k : Fin 4} {i t : Nat} (hi : (k : Nat) = i) (hn : i < nL) (ht : (4 ≤ t ∧ t ≤ 7) ∨ 10 ≤ t) : ok_ mt own FR LO nL ini ret rt lpc pc (.astore_n k) 1 (i_store i t) := by
  intro p l e R s m args below meth c G cc h0 r C J K X hd hC hJ hK L st h hr
  obtain ⟨t', x, u, rfl, hr⟩ := s1_s hr
  obtain ⟨rfl, hr⟩ := tg_s hr
  obtain ⟨hm, hw⟩ := hK _ _ _ hr
  refine ⟨hm, fun ls H locs hl hH hS hvL hvS h1 h2 => ?_⟩
  rw [List.map_cons]
  have k2 : ∀ ls', lv_has ls' nL ((i, cv_ G (t', x)) :: (lv_l G L).filter (fun q => !(q.1 == i) && !(q.1 + 1 == i && q.2.category == 2))) → _ := fun ls' hl' => hw ls' H locs (lv_l_st (v := (t', x)) X.2.2.2.2.2.1.2.1 (by show t' ≠ 1; omega) hl') hH hS (ov_st hvL (ov_hd hvS)) (ov_tl hvS) h1 h2
  rcases cv_r (G := G) ht x with q | ⟨b, q⟩
  · rw [q] at k2 ⊢
    exact lv_astore_nN X.1 X.2.1 hd hi hl hn rfl k2
  · rw [q] at k2 ⊢
    exact lv_astore_n X.1 X.2.1 hd hi hl hn rfl k2
theorem ok_astore {i t : Nat} (hn : i < nL) (ht : (4 ≤ t ∧ t ≤ 7) ∨ 10 ≤ t) : ok_ mt own FR LO nL ini ret rt lpc pc (.astore i) 2 (i_store i t) := by
  intro p l e R s m args below meth c G cc h0 r C J K X hd hC hJ hK L st h hr
  obtain ⟨t', x, u, rfl, hr⟩ := s1_s hr
  obtain ⟨rfl, hr⟩ := tg_s hr
  obtain ⟨hm, hw⟩ := hK _ _ _ hr
  refine ⟨hm, fun ls H locs hl hH hS hvL hvS h1 h2 => ?_⟩
  rw [List.map_cons]
  have k2 : ∀ ls', lv_has ls' nL ((i, cv_ G (t', x)) :: (lv_l G L).filter (fun q => !(q.1 == i) && !(q.1 + 1 == i && q.2.category == 2))) → _ := fun ls' hl' => hw ls' H locs (lv_l_st (v := (t', x)) X.2.2.2.2.2.1.2.1 (by show t' ≠ 1; omega) hl') hH hS (ov_st hvL (ov_hd hvS)) (ov_tl hvS) h1 h2
  rcases cv_r (G := G) ht x with q | ⟨b, q⟩
  · rw [q] at k2 ⊢
    exact lv_astoreN X.1 X.2.1 hd hl hn rfl k2
  · rw [q] at k2 ⊢
    exact lv_astore X.1 X.2.1 hd hl hn rfl k2
theorem ok_iinc {i : Nat} {n : Int} (hn : i < nL) : ok_ mt own FR LO nL ini ret rt lpc pc (.iinc i n) 3 (i_inc i n) := by
  intro p l e R s m args below meth c G cc h0 r C J K X hd hC hJ hK L st h hr
  obtain ⟨t, x, hv, hr⟩ := l1_s hr
  obtain ⟨rfl, hr⟩ := tg_s hr
  obtain ⟨hm, hw⟩ := hK _ _ _ hr
  refine ⟨hm, fun ls H locs hl hH hS hvL hvS h1 h2 => ?_⟩
  obtain ⟨j, hj⟩ := List.mem_iff_getElem?.mp (lv_l_mem (G := G) (q := (i, cv_ G (0, x))).mpr ⟨(0, x), hv, d_09, rfl⟩)
  exact lv_iinc X.1 X.2.1 hd hl hj (n32_add x n) hn rfl fun ls' hl' => hw ls' H locs (lv_l_st (v := (0, w32 (x + n))) X.2.2.2.2.2.1.2.1 d_01 hl') hH hS (ov_st hvL (w32_in _)) hvS h1 h2
theorem ok_goto {b : Nat} {off : Int} (ht : (pc : Int) + off = (lpc b : Int)) : ok_ mt own FR LO nL ini ret rt lpc pc (.goto off) 3 (i_goto b) := by
  intro p l e R s m args below meth c G cc h0 r C J K X hd hC hJ hK L st h hr
  obtain ⟨hm, hw⟩ := hJ _ _ _ _ hr
  exact ⟨hm, fun ls H locs hl hH hS hvL hvS h1 h2 => lv_goto X.1 X.2.1 hd ht (hw ls H locs hl hH hS hvL hvS h1 h2)⟩
end Simple
