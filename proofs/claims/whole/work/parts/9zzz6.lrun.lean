/-! the law's own run, and that it is the machine's -/
noncomputable def Lrun (X : Int → Int) (N : Int) : Nat → Nat → am_K
  | 0 => fun _ _ _ _ => none
  | n + 1 => fun b L st h => match (BL X N)[b]? with
    | some q => ex_ CC (fun b L st h => match (BL X N)[b]? with
      | some q => Lrun X N n b (mk_ q.1 L) st h
      | none => none) q.2.2 q.2.1 L st h
    | none => none
noncomputable def Ljmp (X : Int → Int) (N : Int) (n : Nat) : am_J := fun b L st h => match (BL X N)[b]? with
  | some q => Lrun X N n b (mk_ q.1 L) st h
  | none => none
theorem cs_CC (l : Launch) (G : am_G) : cs_ l G mt_ CC := by
  intro j as h r hr hte
  unfold CC cl_ at hr
  cases hj : am_prog j with
  | none => rw [hj] at hr; cases hr
  | some q =>
    rw [hj] at hr
    obtain ⟨n, hn⟩ := (am_some lp_all).mp hr
    exact (am_sound hp_ l G n).1 j as h r (by unfold cl_; rw [hj]; exact hn) hte
section LS
variable {p : Program} {l : Launch} {e : Env} {R : Room} {s : State} {m : MethodId} {args : Array Value} {below : List Frame} {meth : Method} {c : Code} {G : am_G} {h0 : am_H} {r : am_H × Int} {cc : ByteArray}
theorem x_scr (X : cx_ p R s m args meth c G RL cc 13 542 7 false (some .boolean) h0 r) {b L : Nat} {xs : Nat → Int32} (hX : va_X b L xs s s.heap) (hbl : b < G.2.1) (hG : G.2.2.2.1 5 = b) {pc : Nat} (hd : decode cc pc = .ok (.iaload, 1)) {C : am_C} {J : am_J} {K : am_K} (hK : ∀ Ls st h, K Ls st h = some r → gd_ p l e R s m args below meth c G 0 h0 r 7 (pc + 1) Ls st h) : ∀ Ls st h, i_scr (fun i => (xs i.toNat).toInt) L C J K Ls st h = some r → gd_ p l e R s m args below meth c G 0 h0 r 7 pc Ls st h := by
  intro Ls st h hr
  obtain ⟨t2, i, u, rfl, hr1⟩ := s1_s hr
  obtain ⟨t1, a, u, rfl, hr2⟩ := s1_s hr1
  obtain ⟨rfl, hr3⟩ := tg_s hr2
  obtain ⟨rfl, hr4⟩ := tg_s hr3
  obtain ⟨hi, hr5⟩ := ck_s hr4
  obtain ⟨hm, hw⟩ := hK _ _ _ hr5
  refine ⟨hm, fun ls H locs hl hH hS hvL hvS h1 h2 => ?_⟩
  have hi32 : i32_ i := ov_hd hvS
  have k2 := hw ls H locs hl hH hS hvL (ov_cs (show i32_ _ from i32_of _) (ov_tl (ov_tl hvS))) h1 h2
  rw [List.map_cons, show cv_ G (0, (xs i.toNat).toInt) = .int (xs i.toNat) from congrArg Value.int (Int32.ofInt_toInt _)] at k2
  rw [List.map_cons, List.map_cons, show cv_ G (5, a) = .ref b from congrArg Value.ref hG]
  refine va_sld X.1 X.2.1 hX (Nat.lt_of_lt_of_le hbl X.2.2.2.2.2.2.1) (fun q => absurd hbl (Nat.not_lt.mpr q)) hS (n32_in hi32 hi.1 hi.2) hd ?_
  rw [n32_clamp hi32]
  exact k2
theorem x_slen (X : cx_ p R s m args meth c G RL cc 13 542 7 false (some .boolean) h0 r) {b L : Nat} {xs : Nat → Int32} (hL : L ≤ 3072) (hX : va_X b L xs s s.heap) (hbl : b < G.2.1) (hG : G.2.2.2.1 5 = b) {pc : Nat} (hd : decode cc pc = .ok (.arraylength, 1)) {C : am_C} {J : am_J} {K : am_K} (hK : ∀ Ls st h, K Ls st h = some r → gd_ p l e R s m args below meth c G 0 h0 r 7 (pc + 1) Ls st h) : ∀ Ls st h, i_slen L C J K Ls st h = some r → gd_ p l e R s m args below meth c G 0 h0 r 7 pc Ls st h := by
  intro Ls st h hr
  obtain ⟨t1, a, u, rfl, hr2⟩ := s1_s hr
  obtain ⟨rfl, hr3⟩ := tg_s hr2
  obtain ⟨hm, hw⟩ := hK _ _ _ hr3
  refine ⟨hm, fun ls H locs hl hH hS hvL hvS h1 h2 => ?_⟩
  have k2 := hw ls H locs hl hH hS hvL (ov_cs (show i32_ (L : Int) by unfold i32_; omega) (ov_tl hvS)) h1 h2
  rw [List.map_cons] at k2
  rw [List.map_cons, show cv_ G (5, a) = .ref b from congrArg Value.ref hG]
  exact va_slen X.1 X.2.1 hX (Nat.lt_of_lt_of_le hbl X.2.2.2.2.2.2.1) (fun q => absurd hbl (Nat.not_lt.mpr q)) hS hd k2
/-- what is owed of the call of the law's pile -/
def okP (cc : ByteArray) (p : Program) (l : Launch) (e : Env) (R : Room) (s : State) (m : MethodId) (args : Array Value) (below : List Frame) (meth : Method) (c : Code) (G : am_G) (h0 : am_H) (r : am_H × Int) : Prop :=
  ∀ (pc : Nat) (J : am_J) (K : am_K), decode cc pc = .ok (.invokestatic 39, 3) → (∀ Ls st h, K Ls st h = some r → gd_ p l e R s m args below meth c G 0 h0 r 7 (pc + 3) Ls st h) → ∀ Ls st h, i_lpl CC J K Ls st h = some r → gd_ p l e R s m args below meth c G 0 h0 r 7 pc Ls st h
theorem ok_exL (X : cx_ p R s m args meth c G RL cc 13 542 7 false (some .boolean) h0 r) {b L : Nat} {xs : Nat → Int32} (hL : L ≤ 3072) (hX : va_X b L xs s s.heap) (hbl : b < G.2.1) (hG : G.2.2.2.1 5 = b) (hP : okP cc p l e R s m args below meth c G h0 r) {J : am_J} {fall E : Nat}
    (hJ : ∀ b L st h, J b L st h = some r → gd_ p l e R s m args below meth c G 0 h0 r 7 (lpL b) L st h) (hE : ∀ L st h, J fall L st h = some r → E = lpL fall) :
    ∀ (qs : List am_E) (pc : Nat), dc_ cc qs = true → (∀ i ∈ qs, gqL (fun i => (xs i.toNat).toInt) L i) → sq_ pc qs E = true → ∀ L st h, ex_ CC J fall qs L st h = some r → gd_ p l e R s m args below meth c G 0 h0 r 7 pc L st h := by
  intro qs
  induction qs with
  | nil =>
    intro pc _ _ hs L st h hr
    have h1 : pc = E := Nat.eq_of_beq_eq_true hs
    rw [h1, hE L st h hr]
    exact hJ fall L st h hr
  | cons q qs ih =>
    intro pc hd hg hs Ls st h hr
    have hs2 := Bool.and_eq_true_iff.mp hs
    have hd2 := Bool.and_eq_true_iff.mp hd
    have hpc : q.1 = pc := Nat.eq_of_beq_eq_true hs2.1
    subst hpc
    have hdq : decode cc q.1 = .ok (q.2.1, q.2.2.1) := of_decide_eq_true hd2.1
    have hK : ∀ L st h, ex_ CC J fall qs L st h = some r → gd_ p l e R s m args below meth c G 0 h0 r 7 (q.1 + q.2.2.1) L st h := fun L st h hk => ih (q.1 + q.2.2.1) hd2.2 (fun i hi => hg i (List.mem_cons_of_mem _ hi)) hs2.2 L st h hk
    have hr : q.2.2.2 CC J (ex_ CC J fall qs) Ls st h = some r := hr
    rcases hg q List.mem_cons_self with g | ⟨g1, g2, g3⟩ | ⟨g1, g2, g3⟩ | ⟨g1, g2, g3⟩
    · exact g.2.2 p l e R s m args below meth c G cc h0 r CC J (ex_ CC J fall qs) X hdq (cs_CC l G) hJ hK Ls st h hr
    · rw [g1] at hr
      rw [g2, g3] at hdq
      rw [g3] at hK
      exact x_scr X hX hbl hG hdq hK Ls st h hr
    · rw [g1] at hr
      rw [g2, g3] at hdq
      rw [g3] at hK
      exact x_slen X hL hX hbl hG hdq hK Ls st h hr
    · rw [g1] at hr
      rw [g2, g3] at hdq
      rw [g3] at hK
      exact hP q.1 J _ hdq hK Ls st h hr
theorem L_sound (X : cx_ p R s m args meth c G RL code 13 542 7 false (some .boolean) h0 r) {b L : Nat} {xs : Nat → Int32} (hL : L ≤ 3072) (hX : va_X b L xs s s.heap) (hbl : b < G.2.1) (hG : G.2.2.2.1 5 = b) (hP : okP code p l e R s m args below meth c G h0 r) :
    ∀ n b Ls st h, Lrun (fun i => (xs i.toNat).toInt) L n b Ls st h = some r → gd_ p l e R s m args below meth c G 0 h0 r 7 (lpL b) Ls st h := by
  intro n
  induction n with
  | zero => intro b Ls st h hr; cases hr
  | succ n ih =>
    intro b Ls st h hr
    unfold Lrun at hr
    cases hq : (BL (fun i => (xs i.toNat).toInt) L)[b]? with
    | none => rw [hq] at hr; cases hr
    | some q =>
      rw [hq] at hr
      obtain ⟨hd, hg, E, hs, hfall⟩ := kL_all _ _ b q hq
      rw [Nat.zero_add] at hs
      have hJ : ∀ b Ls st h, Ljmp (fun i => (xs i.toNat).toInt) L n b Ls st h = some r → gd_ p l e R s m args below meth c G 0 h0 r 7 (lpL b) Ls st h := by
        intro b Ls st h hr
        unfold Ljmp at hr
        cases hz : (BL (fun i => (xs i.toNat).toInt) L)[b]? with
        | none => rw [hz] at hr; cases hr
        | some z =>
          rw [hz] at hr
          obtain ⟨g1, g2⟩ := ih b (mk_ z.1 Ls) st h hr
          refine ⟨g1, fun ls H locs hl hH hS hvL hvS h1 h2 => g2 ls H locs (lv_has_sub hl fun q hq => ?_) hH hS (mk_ov hvL) hvS h1 h2⟩
          obtain ⟨v, w1, w2, w3⟩ := lv_l_mem.mp hq
          exact lv_l_mem.mpr ⟨v, mk_get w1 w2, w2, w3⟩
      refine ok_exL X hL hX hbl hG hP hJ (fun L' st h hr => ?_) q.2.1 (lpL b) hd hg hs Ls st h hr
      rcases hfall with hf | hf
      · exfalso
        unfold Ljmp at hr
        rw [List.getElem?_eq_none (show (BL (fun i => (xs i.toNat).toInt) L).length ≤ q.2.2 from hf)] at hr
        cases hr
      · exact hf
end LS
