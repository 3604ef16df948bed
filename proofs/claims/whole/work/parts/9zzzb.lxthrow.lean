/-! 'throw new E("text")', with all its words among the big list's, and the heap behind it -/
def xwl (own : String) (ik ic : Nat) (cls Y9 : String) (ix : Nat) (bytes : ByteArray) (names : List String) : List Cond :=
  Cond.classLink own ik cls :: Cond.initialized cls :: (Bundle.throwableAtoms.filter vx_no ++ (Bundle.throwableSAtoms ++ (Bundle.passSAtoms cls Y9 ix bytes ++ (Bundle.chainSAtoms Y9 names ++ xtw own ic cls))))
def xw_ok (s : State) (w : Cond) : Prop := w ∈ am_big ∨ (w.onTables = true ∧ va_Nw w s)
section XT2
variable {p : Program} {l : Launch} {e : Env} {R : Room} {s : State} {m : MethodId} {args : Array Value} {below : List Frame} {meth : Method} {c : Code} {H : Heap} {locs : List Loc} {cells slots : Nat}
variable {mc ms : Nat} {free : Addr → Prop} {ls : Array Slot} {rest : List Value} {Qc : Array Value → State → Outcome → State → Prop} {XC : String → State → State → Prop}
theorem xt_throw {cc : ByteArray} {pc : Nat} (hexec : p.tables.exec = Jvm.exec) (hb : c.code = cc) (hl : l.stackTraces = false) {own cls Y9 text : String} {names : List String} {ik is ic ix sa : Nat} {bytes : ByteArray} {A : Nat → Prop}
    (b0 : decode bytes 0 = .ok (.aload_n 0, 1)) (b1 : decode bytes 1 = .ok (.aload_n 1, 1)) (b2 : decode bytes 2 = .ok (.invokespecial ix, 3)) (b5 : decode bytes 5 = .ok (.return_, 1))
    (hown : s.vm.findClass own = some m.cls) (hcls : Bundle.fit cls = true) (hY : Bundle.fit Y9 = true) (hnames : ∀ n ∈ names, Bundle.fit n = true)
    (hbig : ∀ w ∈ am_big, w.before args s = true) (hw : ∀ w ∈ xwl own ik ic cls Y9 ix bytes names, xw_ok s w) (hstr : vk_R own is text sa s)
    (hU : vx_Zq Bundle.tN "UNASSIGNED_STACK" Bundle.steD A s s.heap) (hN : vx_Zq Bundle.tN "SUPPRESSED_SENTINEL" Bundle.listD A s s.heap) (hS : va_S A s.heap H locs) (hsize : ls.size = c.maxLocals)
    (d0 : decode cc pc = .ok (.new ik, 3)) (d3 : decode cc (pc + 3) = .ok (.dup, 1)) (d4 : decode cc (pc + 4) = .ok (.ldc is, 2)) (d6 : decode cc (pc + 6) = .ok (.invokespecial ic, 3)) (d9 : decode cc (pc + 9) = .ok (.athrow, 1))
    (hout : ∀ x ∈ c.exceptionTable.toList, covers x (pc + 9) = false)
    (hRframes : names.length + 4 < R.frames) (hRlocals : (rest.map fun v => v.category).sum + (13 * (names.length + 2) + 43) ≤ R.locals) (hRcells : cells + 1 ≤ R.cells) (hRslots : slots + 6 ≤ R.slots) (hlocks : meth.locks = false)
    (hx : ∀ t : State, s.vm.Alike t.vm → t.heap.size = H.size + 1 → (∀ q : Nat, q < H.size → t.heap[q]? = H[q]?) → XC cls s t)
    (hf : ∀ z ∈ locs, free z.base) (hc : cells + 1 ≤ mc) (hs : slots + 6 ≤ ms) :
    W p l e R s m args below meth c H locs cells slots (vx_MQ below Qc XC args s mc ms free) (F0 m pc ls rest) := by
  intro T hT X
  have htr : e.platform.stackTraces = false := (show e.platform.stackTraces = l.stackTraces by rw [X.admits.platform]).trans hl
  have Y := vx_rebase X (R' := { frames := R.frames, locals := R.locals, cells := 1, slots := 6 }) (Nat.le_refl _) (Nat.le_refl _) hRcells hRslots
  obtain ⟨s9, hA⟩ : ∃ z, z = (T.setVm s.vm).setFrames (.invoking m args :: below) := ⟨_, rfl⟩
  rw [← hA] at Y
  have hvm : s9.vm = s.vm := by rw [hA]; rfl
  have hhp : s9.heap = H := by rw [hA]; exact hT
  have hW0 : s.WarmedH s9.vm := by rw [hvm]; exact State.WarmedH.refl s
  have hall : ∀ w ∈ xwl own ik ic cls Y9 ix bytes names, w.before args s9 = true := fun w h9 => by
    rcases hw w h9 with q | q
    · exact word_at hW0 (big_good q) (hbig w q)
    · exact va_tabs q.1 hvm.symm q.2
  have hU9 : vx_Zq Bundle.tN "UNASSIGNED_STACK" Bundle.steD A s9 s9.heap := by rw [hhp]; exact vx_Zq.moved hW0.alike (hU.kept hS.2.1)
  have hN9 : vx_Zq Bundle.tN "SUPPRESSED_SENTINEL" Bundle.listD A s9 s9.heap := by rw [hhp]; exact vx_Zq.moved hW0.alike (hN.kept hS.2.1)
  have w0 : ∀ w ∈ Bundle.throwableAtoms, w.before args s9 = true := vx_own (fun w h9 => hall w (List.mem_cons_of_mem _ (List.mem_cons_of_mem _ (List.mem_append_left _ h9)))) (vx_isRefq hU9.1) (vx_isRefq hN9.1) hU9.2.word hN9.2.word
  have w1 : ∀ w ∈ Bundle.throwableSAtoms, w.before args s9 = true := fun w h9 => hall w (List.mem_cons_of_mem _ (List.mem_cons_of_mem _ (List.mem_append_right _ (List.mem_append_left _ h9))))
  have w2 : ∀ w ∈ Bundle.passSAtoms cls Y9 ix bytes, w.before args s9 = true := fun w h9 => hall w (List.mem_cons_of_mem _ (List.mem_cons_of_mem _ (List.mem_append_right _ (List.mem_append_right _ (List.mem_append_left _ h9)))))
  have w3 : ∀ w ∈ Bundle.chainSAtoms Y9 names, w.before args s9 = true := fun w h9 => hall w (List.mem_cons_of_mem _ (List.mem_cons_of_mem _ (List.mem_append_right _ (List.mem_append_right _ (List.mem_append_right _ (List.mem_append_left _ h9))))))
  have w4 : ∀ w ∈ xtw own ic cls, w.before args s9 = true := fun w h9 => hall w (List.mem_cons_of_mem _ (List.mem_cons_of_mem _ (List.mem_append_right _ (List.mem_append_right _ (List.mem_append_right _ (List.mem_append_right _ h9))))))
  have hk9 : (Cond.classLink own ik cls).before args s9 = true := hall _ List.mem_cons_self
  have hini9 : (Cond.initialized cls).before args s9 = true := hall _ (List.mem_cons_of_mem _ List.mem_cons_self)
  have hown9 : s9.vm.findClass own = some m.cls := by rw [hvm]; exact hown
  have hins : (Cond.instantiable cls 6).before args s9 = true := w4 _ (by simp [xtw])
  obtain ⟨vm₁, cX, kX, hfX, hkX, -, -, X₁, st1⟩ := Y.newCold hexec (own := own) (C := cls) (index := ik) (n := 6) hown9 hk9 hins hini9
    (g := F0 m pc ls rest) rfl (by rw [hb]; exact d0) (Nat.le_refl _) (Nat.le_refl _)
  generalize hT1 : (T.setVm vm₁).pushCell { cls := cX, slots := kX.instanceTypes.map defaultValue, vm := .none } = T1 at X₁ st1
  have hcat : (Value.ref T.heap.size).category = 1 := rfl
  have hcellA : T1.heap[T.heap.size]? = some (freshCell cX kX) := by rw [← hT1]; exact State.heap_pushCell_size _ _
  have e3 : decode c.code (pc + 3) = .ok (.dup, 1) := by rw [hb]; exact d3
  have e4 : decode c.code (pc + 4) = .ok (.ldc is, 2) := by rw [hb]; exact d4
  have hstr9 : vk_R own is text sa s9 := vk_R.warm hW0 hstr
  obtain ⟨U, hsteps, hrun, hend, hW, hsame, ce, hce, hcc, hcv⟩ := xt_ctor X₁ hexec htr (own := own) (cls := cls) (Y9 := Y9) (names := names) (ic := ic) (ix := ix) (bytes := bytes) b0 b1 b2 b5 hown9 hcls hY hnames w0 w1 w2 w3 w4 (vx_isRefq hU9.1) (vx_isRefq hN9.1) (fun x hx => nomatch hx) hfX hkX hcellA (by rw [hhp, hT]; exact Nat.le_refl _) (msg := .ref sa) rfl
    (g := { method := m, pc := pc + 6, locals := ls, stack := .ref sa :: .ref T.heap.size :: .ref T.heap.size :: rest, locked := none }) rfl hsize rfl rfl (rest := rest) rfl
    (by rw [hb]; exact d6) (by rw [hb]; exact d9) hout hRframes (by simp only [List.map_cons, List.sum_cons, hcat]; show 2 * 0 + _ + _ ≤ R.locals; omega) hlocks
  obtain ⟨f1, f2⟩ := vx_frame hsame
  rw [hhp] at f1 f2
  have hsz : U.heap.size = H.size + 1 := by
    have q1 : U.heap.size ≤ s9.heap.size + 1 := hsame.2.2.1
    rw [hhp] at q1
    have q2 := (Array.getElem?_eq_some_iff.mp hce).1
    rw [hT] at q2
    omega
  have hWs : s.WarmedH U.vm := State.WarmedH.trans hW0 hW
  have hcl : s.vm.findClass cls = some ce.cls := by
    rw [hvm] at hcc
    exact hcc
  have hend9 : s.sameButNew ({ U with vm := s.vm } : State) locs mc ms := by
    subst hA
    obtain ⟨e1, e2⟩ := hsame
    rw [State.setFrames_setFrames] at e1
    have h2 : (T.setVm s.vm).sameButNew ({ U with vm := s.vm } : State) [] (0 + 1) (0 + 6) := ⟨e1, e2⟩
    have h3 := X.same.trans h2
    rw [List.append_nil] at h3
    exact h3.mono hc hs
  refine ⟨U, ?_, .threw T.heap.size, hrun, hend, Or.inr ⟨T.heap.size, rfl, cls, ce, locs, hx U hWs.alike hsz (fun q hq => f2 q hq (fun z hz => nomatch hz)), hce, hcv, hcl, hWs, hend9, hf⟩⟩
  refine st1 _ ?_
  show Steps p.tables e below (T1.setTop { method := m, pc := pc + 3, locals := ls, stack := .ref T.heap.size :: rest, locked := none }) _
  jvm_step X₁.here [X₁.here.top, hexec, e3, Value.category]
  exact X₁.ldcString hexec (own := own) (text := text) (index := is) (a := sa) hown9 hstr9.1 hstr9.2
    (g := { method := m, pc := pc + 4, locals := ls, stack := .ref T.heap.size :: .ref T.heap.size :: rest, locked := none }) rfl e4 _ hsteps
end XT2
