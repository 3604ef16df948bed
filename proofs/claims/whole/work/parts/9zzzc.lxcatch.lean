/-! a thrown thing caught by a row of the method's own table, rows ahead of it passed, their classes linked on the way -/
theorem xc_row {Q : Handler → Pre} {E : CtlPost} {e : Env} {d : Bool} {acts : List Action} {s : State} {f : JFrame} {a : Addr} {x : ExceptionTableEntry} {t : List ExceptionTableEntry} {c : ClassId} {cell : Cell} (hx : covers x f.pc = true) (h0 : x.catchType ≠ 0)
    (hl : s.vm.ClassLinks e.platform f.method.cls x.catchType c) (hcell : s.heap[a]? = some cell) (hobj : ∀ k, cell.vm ≠ .statics k) (hk : ∃ k, s.vm.classes[cell.cls]? = some k) (hc : ∃ k, s.vm.classes[c]? = some k) :
    wp (findHandler.go f a (x :: t)) Q E e d acts s ↔ if s.vm.assignable cell.cls c = true then Q (.found x.handlerPc) d acts (s.setVm (s.vm.noted f.method.cls x.catchType (.cls c))) else wp (findHandler.go f a t) Q E e d acts (s.setVm (s.vm.noted f.method.cls x.catchType (.cls c))) := by
  simp only [covers] at hx
  obtain ⟨o1, o2⟩ := (resolveClass_links e.toSetting hl).op (op := VmOp.resolveClass f.method.cls x.catchType) rfl
  have hal : s.vm.Alike (s.vm.noted f.method.cls x.catchType (.cls c)) := (Vm.Alike.refl s.vm).noted _ _ _
  obtain ⟨k1, hk1⟩ := hk
  obtain ⟨k2, hk2⟩ := hc
  obtain ⟨k3, hk3, -⟩ := hal.2.2 _ _ hk1
  obtain ⟨k4, hk4, -⟩ := hal.2.2 _ _ hk2
  have has : (s.vm.noted f.method.cls x.catchType (.cls c)).assignable cell.cls c = s.vm.assignable cell.cls c := by rw [hal.assignable]
  cases hfit : s.vm.assignable cell.cls c <;> rw [hfit] at has <;>
    simp [findHandler.go, hx, h0, o1, o2, hcell, hobj, hk3, hk4, has, VmOp.dirties, VmOp.acts]
/-- passed, catching -/
def xc_no (e : Env) (s0 : State) (d : ClassId) (pc : Nat) (E : ClassId) (z : ExceptionTableEntry) : Prop := covers z pc = false ∨ (z.catchType ≠ 0 ∧ ∃ c, s0.vm.ClassLinks e.platform d z.catchType c ∧ s0.vm.assignable E c = false)
theorem xc_find {e : Env} {s0 : State} {f : JFrame} {a : Addr} {cell : Cell} {c9 : ClassId} {x : ExceptionTableEntry} {suf : List ExceptionTableEntry} (hobj : ∀ k, cell.vm ≠ .statics k) (hk : ∃ k, s0.vm.classes[cell.cls]? = some k) (hx : covers x f.pc = true) (h0 : x.catchType ≠ 0)
    (hl : s0.vm.ClassLinks e.platform f.method.cls x.catchType c9) (hfit : s0.vm.assignable cell.cls c9 = true) :
    ∀ (pre : List ExceptionTableEntry) (S : State), s0.WarmedH S.vm → S.heap[a]? = some cell → (∀ z ∈ pre, xc_no e s0 f.method.cls f.pc cell.cls z) →
      ∃ vm9, s0.WarmedH vm9 ∧ ∀ (Q : Handler → Pre) (E : CtlPost) (d : Bool) (acts : List Action), wp (findHandler.go f a (pre ++ x :: suf)) Q E e d acts S ↔ Q (.found x.handlerPc) d acts (S.setVm vm9) := by
  obtain ⟨k0, hk0⟩ := hk
  have row : ∀ (z : ExceptionTableEntry) (c : ClassId) (S : State), s0.WarmedH S.vm → s0.vm.ClassLinks e.platform f.method.cls z.catchType c → s0.WarmedH (S.vm.noted f.method.cls z.catchType (.cls c)) ∧ S.vm.ClassLinks e.platform f.method.cls z.catchType c ∧ (∃ k, S.vm.classes[cell.cls]? = some k) ∧ (∃ k, S.vm.classes[c]? = some k) ∧ S.vm.assignable cell.cls c = s0.vm.assignable cell.cls c := by
    intro z c S hW hl
    obtain ⟨dk, _, _, kt, hd, _, _, _, _, hkt, _, hopen⟩ := hl.here
    obtain ⟨k1, hk1, -⟩ := hW.alike.2.2 _ _ hk0
    obtain ⟨k2, hk2, -⟩ := hW.alike.2.2 _ _ hkt
    exact ⟨hW.noted hd hopen (State.rightAt_cls hl), hW.classLinks hl, ⟨k1, hk1⟩, ⟨k2, hk2⟩, by rw [hW.alike.assignable]⟩
  intro pre
  induction pre with
  | nil =>
    intro S hW hcell _
    obtain ⟨r1, r2, r3, r4, r5⟩ := row x c9 S hW hl
    exact ⟨_, r1, fun Q E d acts => by rw [List.nil_append, xc_row hx h0 r2 hcell hobj r3 r4, if_pos (r5.trans hfit)]⟩
  | cons z zs ih =>
    intro S hW hcell hp
    have hzs : ∀ y ∈ zs, xc_no e s0 f.method.cls f.pc cell.cls y := fun y hy => hp y (List.mem_cons_of_mem _ hy)
    cases hz : covers z f.pc with
    | false =>
      obtain ⟨v9, w9, q9⟩ := ih S hW hcell hzs
      exact ⟨v9, w9, fun Q E d acts => by rw [List.cons_append, W.findHandler_go_skip hz]; exact q9 Q E d acts⟩
    | true =>
      rcases hp z List.mem_cons_self with h | ⟨hz0, c, hlz, hno⟩
      · rw [hz] at h; cases h
      · obtain ⟨r1, r2, r3, r4, r5⟩ := row z c S hW hlz
        obtain ⟨v9, w9, q9⟩ := ih (S.setVm (S.vm.noted f.method.cls z.catchType (.cls c))) r1 hcell hzs
        exact ⟨v9, w9, fun Q E d acts => by rw [List.cons_append, xc_row hz hz0 r2 hcell hobj r3 r4, if_neg (by rw [r5, hno]; decide)]; exact q9 Q E d acts⟩
section XC
variable {p : Program} {l : Launch} {e : Env} {R : Room} {s : State} {m : MethodId} {args : Array Value} {below : List Frame} {meth : Method} {c : Code} {H : Heap} {locs : List Loc} {cells slots : Nat} {Q : State → Prop} {pc : Nat} {ls : Array Slot} {rest : List Value}
theorem xc_catch {own name : String} {E : String} {ce : Cell} {q : Addr} (hown : s.vm.findClass own = some m.cls) (pre : List ExceptionTableEntry) (x : ExceptionTableEntry) (suf : List ExceptionTableEntry) (hsplit : c.exceptionTable.toList = pre ++ x :: suf)
    (hpass : ∀ z ∈ pre, covers z pc = false ∨ (z.catchType ≠ 0 ∧ ∃ nm : String, (Cond.classLink own z.catchType nm).before args s = true ∧ va_Nc E nm s)) (hx : covers x pc = true) (h0 : x.catchType ≠ 0)
    (hlink : (Cond.classLink own x.catchType name).before args s = true) (hcast : va_Nw (.castable E name) s) (hcell : H[q]? = some ce) (hv : ce.vm = .none) (hcl : s.vm.findClass E = some ce.cls)
    (kk : W p l e R s m args below meth c H locs cells slots Q (F0 m x.handlerPc ls [.ref q])) : vx_W p l e R s m args below meth c H locs cells slots Q (F0 m pc ls rest) q := by
  intro T hT X
  have hpl : e.platform.magicAccessors = ({} : Platform).magicAccessors := by rw [X.admits.platform]
  obtain ⟨c3, c4, hc3, hc4, hasg⟩ := Cond.castable_spec (va_Nw.use (A := args) rfl hcast)
  cases Option.some.inj (hc3.symm.trans hcl)
  obtain ⟨c5, hc5, hcl5⟩ := Cond.classLink_spec hown hlink e.platform hpl
  cases Option.some.inj (hc4.symm.trans hc5)
  have hobj : ∀ k, ce.vm ≠ .statics k := fun k h9 => by rw [hv] at h9; cases h9
  obtain ⟨v9, w9, q9⟩ := xc_find (e := e) (s0 := s) (f := F0 m pc ls rest) (a := q) (cell := ce) (x := x) (suf := suf) hobj (by obtain ⟨k9, h9, -⟩ := Vm.findClass_spec hcl; exact ⟨k9, h9⟩) hx h0 hcl5 hasg pre ((T.setTop (F0 m pc ls rest)).pushFrame (.throwing q)) X.warmed (by show T.heap[q]? = _; rw [hT]; exact hcell)
    (fun z hz => by
      rcases hpass z hz with h | ⟨hz0, nm, hl1, hn1⟩
      · exact Or.inl h
      · obtain ⟨c6, hc6, hcl6⟩ := Cond.classLink_spec hown hl1 e.platform hpl
        obtain ⟨a8, b8, h1, h2, h3⟩ := hn1
        cases Option.some.inj (h1.symm.trans hcl)
        cases Option.some.inj (h2.symm.trans hc6)
        exact Or.inr ⟨hz0, _, hcl6, h3⟩)
  obtain ⟨t, a1, b1⟩ := kk (T.setVm v9) hT (X.noted w9)
  refine ⟨t, ?_, b1⟩
  have h : At T (F0 m pc ls rest).method c below := X.here
  obtain ⟨hgo, hw⟩ := h.throwing q
  refine Steps.head hgo hw ?_
  have hfind : ∀ (Q : Handler → Pre) (E : CtlPost) (d : Bool) (acts : List Action), wp (findHandler (F0 m pc ls rest) q) Q E e d acts ((T.setTop (F0 m pc ls rest)).pushFrame (.throwing q)) ↔ Q (.found x.handlerPc) d acts (((T.setTop (F0 m pc ls rest)).pushFrame (.throwing q)).setVm v9) := by
    intro Q E d acts
    rw [W.findHandler_eq (s := (T.setTop (F0 m pc ls rest)).pushFrame (.throwing q)) (f := F0 m pc ls rest) (meth := meth) (code := c) X.method' X.code, hsplit]
    exact q9 Q E d acts
  have hst : ∀ r : List Frame, (stepThrowing e ((T.setTop (F0 m pc ls rest)).pushFrame (.throwing q)) q (.java (F0 m pc ls rest) :: r)).Is ((((T.setTop (F0 m pc ls rest)).pushFrame (.throwing q)).setVm v9).setFrames (.java (F0 m x.handlerPc ls [.ref q]) :: r)) [] := by
    intro r
    simp only [stepThrowing, searchFrame, vmDo]
    generalize hr : Sem.go _ e false [] ((T.setTop (F0 m pc ls rest)).pushFrame (.throwing q)) = res
    obtain ⟨as, rfl, ha⟩ := Sem.eq_ok_of hr (a := Handler.found x.handlerPc) (s' := ((T.setTop (F0 m pc ls rest)).pushFrame (.throwing q)).setVm v9) (acts' := []) (by simp [hfind _ _ _ _])
    exact ⟨rfl, ha⟩
  rw [stepThread_throwing (frames_entered h.top _), (hst _).1]
  obtain ⟨g₀, hg⟩ := Option.isSome_iff_exists.mp h.top
  obtain ⟨r, hr⟩ := State.topJava?_eq_some.mp hg
  have hr9 : (T.setVm v9).frames = .java g₀ :: r := hr
  rw [State.setTop_of_frames _ hr9] at a1
  have e9 : ∀ (u : State) (F G : List Frame), ((u.setFrames F).setVm v9).setFrames G = (u.setVm v9).setFrames G := fun u F G => by
    rw [show (u.setFrames F).setVm v9 = (u.setVm v9).setFrames F from rfl, State.setFrames_setFrames]
  rw [hr, List.tail_cons, State.pushFrame, e9, State.setTop_of_frames _ hr, e9]
  exact a1
end XC
