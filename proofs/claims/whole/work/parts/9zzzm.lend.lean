/-! from the entry to the end -/
theorem stand_room {p : Program} {l : Launch} {e : Env} {R : Room} {s : State} {m : MethodId} {args : Array Value} {below : List Frame} {meth : Method} {c : Code} {T : State} {locs : List Loc} {cells slots : Nat} (X : Stand p l e R s m args below meth c T locs cells slots) {R9 : Room} (hf : R9.frames ≤ R.frames) (hl : R9.locals ≤ R.locals) (hc : R9.cells ≤ R.cells) (hs : R9.slots ≤ R.slots) : Stand p l e R9 s m args below meth c T locs cells slots := by
  refine { X with room := ?_ }
  have h := X.room
  simp only [State.hasRoom, Bool.and_eq_true, decide_eq_true_eq] at h ⊢
  obtain ⟨⟨⟨⟨h1, h2, h3, h4, h5, h6⟩, h7⟩, h8⟩, h9⟩ := h
  exact ⟨⟨⟨⟨by omega, by omega, by omega, by omega, by omega, h6⟩, by omega⟩, by omega⟩, h9⟩
theorem L_Z {p : Program} {l : Launch} {e : Env} {s : State} {m : MethodId} {below : List Frame} {meth : Method} {c : Code} {b : Nat} {G : am_G} {r : am_H × Int} {R9 : Room} {k n : Nat} {g : JFrame} (hr : r.2 = 1) (hG : G.2.1 = s.heap.size) (hf : R9.frames ≤ room_1.frames) (hl : R9.locals ≤ room_1.locals) (hc : R9.cells ≤ room_1.cells) (hs : R9.slots ≤ room_1.slots) (hk : k ≤ 601024) (hn : n ≤ 7293034)
    (kk : W p l e R9 s m #[Value.ref b] below meth c s.heap [] 0 0 (MQ below (qc_ G 0 r) #[Value.ref b] s k n (ar_ G)) g) : W p l e room_1 s m #[Value.ref b] below meth c s.heap [] 0 0 (lw_Z below #[Value.ref b] s) g := by
  intro T hT X
  obtain ⟨t, a1, o, b1, b2, ⟨q1, -, -, -⟩, L, ⟨f1, f2, f3⟩, b5⟩ := kk T hT (stand_room X hf hl hc hs)
  refine ⟨t, a1, o, b1, b2, ?_, f1, f2, f3.weaken (fun y hy hlt => ?_) hk hn⟩
  · rw [q1, hr]
    rfl
  · exfalso
    have h9 : G.2.1 ≤ y.base := b5 y hy
    rw [hG] at h9
    exact absurd hlt (Nat.not_lt.mpr h9)
theorem hr_00 {G : am_G} {H : Heap} (g : G.2.1 = H.size) : hr_ G H h00 := by
  have n0 : nn_ h00 = 0 := rfl
  refine ⟨by rw [n0, g]; rfl, ⟨fun a h1 h2 => ?_, fun a h1 h2 => ?_, by rw [n0]; omega, by show (0 : Int) ≤ 0; omega⟩, fun a ha => ?_⟩
  · rw [n0] at h2; omega
  · rw [n0] at h2; omega
  · rw [n0] at ha; omega
theorem fl_tr {l : Launch} (hflags : l.flags = flags0) : l.stackTraces = false := by
  first
    | (unfold Launch.stackTraces; rw [hflags]; rfl)
    | (show l.flags.stackTraces = false; rw [hflags]; rfl)
    | (simp [Launch.stackTraces, hflags, flags0])
/-- YOUR PART: from the entry, for every script of at most 3072 ints, the law comes to its end with true ('hflags': the launch's flags, for a law that throws: no stack traces) -/
theorem whole_start {p : Program} {e : Env} {s : State} {m : MethodId} {below : List Frame} {meth : Method} {c : Code} (l : Launch) (hflags : l.flags = flags0) {b L : Nat} {xs : Nat → Int32} (hL : L ≤ 3072) (C0 : lw_At p s m meth c b L xs) : W p l e room_1 s m #[Value.ref b] below meth c s.heap [] 0 0 (lw_Z below #[Value.ref b] s) (entryFrame m ([Value.ref b] : List Value).toArray 7) := by
  obtain ⟨hx, hb, hr, hml, hown, hts, hX, hbl, hlocks, hgv⟩ := C0
  obtain ⟨G, z1, z2, g1, g2, hew⟩ := sur_all (b := b) hts hgv
  have hl : l.stackTraces = false := fl_tr hflags
  have hbig : ∀ w ∈ am_big, w.before #[Value.ref b] s = true := fun w hw => hts w (List.mem_filter.mp hw).1
  obtain ⟨r, ⟨n, hrun⟩, r2, rn, rs⟩ := L_start (X := fun i => (xs i.toNat).toInt) (N := (L : Int)) (z := 0) (by omega) (by omega) (fun j => i32_of _)
  have cx : cx_ p { frames := 13, cells := (nn_ r.1 - nn_ h00).toNat, slots := (ss_ r.1 - ss_ h00).toNat, locals := 542 } s m #[Value.ref b] meth c G RL code 13 542 7 false (some .boolean) h00 r :=
    ⟨hx, hb, hml, hown, hbig, hew.1, by rw [g1]; exact Nat.le_refl _, rfl, hlocks, hr, fun q => by cases q⟩
  obtain ⟨-, g⟩ := L_sound (l := l) (e := e) (below := below) cx hL hX (by rw [g1]; exact hbl) g2 (fun pc J K hd hK => L_okP hl cx hew hd hK) n 0 _ [] h00 hrun
  have n0 : nn_ h00 = 0 := rfl
  have s0 : ss_ h00 = 0 := rfl
  have e0 : [((5 : Nat), (0 : Int))].map (cv_ G) = [Value.ref b] := congrArg (fun q => [Value.ref q]) g2
  have hlv := lv_entry [Value.ref b] (n := 7) (show (lg_sl [Value.ref b]).length ≤ 7 from (show 1 ≤ 7 by decide))
  have k2 := g _ s.heap [] (lv_has_sub hlv fun q hq => ?_) (hr_00 g1) va_S.rf (en_ov [(5, 0)] 7 (fun v hv => by
    rw [List.mem_singleton] at hv
    subst hv
    trivial)) (fun v hv => absurd hv List.not_mem_nil) (Int.le_refl _) (Int.le_refl _)
  · rw [Int.sub_self, Int.sub_self] at k2
    rw [lg_entry_eq]
    refine L_Z (R9 := { frames := 13, cells := (nn_ r.1 - nn_ h00).toNat, slots := (ss_ r.1 - ss_ h00).toNat, locals := 542 }) (k := (nn_ r.1 - nn_ h00).toNat) (n := (ss_ r.1 - ss_ h00).toNat) r2 g1 (show 13 ≤ room_1.frames by decide) (show 542 ≤ room_1.locals by decide) ?_ ?_ ?_ ?_ k2
    · show (nn_ r.1 - nn_ h00).toNat ≤ 601024
      omega
    · show (ss_ r.1 - ss_ h00).toNat ≤ 7293034
      omega
    · omega
    · omega
  · obtain ⟨v, w1, w2, w3⟩ := lv_l_mem.mp hq
    have := en_get hew.1.2.1 [(5, 0)] 7 q.1 0 v w1 w2
    rw [Nat.add_zero, ← w3, e0] at this
    exact this
