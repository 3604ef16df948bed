/-! cells only grow -/
def mn_ (x : am_O) (h : am_H) : Prop := ∀ r, x = some r → nn_ h ≤ nn_ r.1 ∧ ss_ h ≤ ss_ r.1 ∧ ∀ a, 0 ≤ a → a < nn_ h → kd_ r.1 a = kd_ h a
theorem mn_none (h : am_H) : mn_ none h := fun _ q => by cases q
theorem mn_some (h : am_H) (v : Int) : mn_ (some (h, v)) h := fun _ q => by cases q; exact ⟨Int.le_refl _, Int.le_refl _, fun _ _ _ => rfl⟩
theorem mn_ck {q : Prop} [Decidable q] {x : am_O} {h : am_H} (f : q → mn_ x h) : mn_ (ck_ q x) h := fun r hr => f (ck_s hr).1 r (ck_s hr).2
theorem mn_tg {t c : Nat} {x : am_O} {h : am_H} (f : mn_ x h) : mn_ (tg_ t c x) h := fun r hr => f r (tg_s hr).2
theorem mn_bl {b : Bool} {x : am_O} {h : am_H} (f : mn_ x h) : mn_ (bl_ b x) h := fun r hr => f r (bl_s hr).2
theorem mn_ite {q : Prop} [Decidable q] {x y : am_O} {h : am_H} (f : mn_ x h) (g : mn_ y h) : mn_ (if q then x else y) h := by
  by_cases z : q
  · rw [if_pos z]; exact f
  · rw [if_neg z]; exact g
theorem mn_s1 {st : List am_V} {f : Nat → Int → List am_V → am_O} {h : am_H} (g : ∀ t x r, mn_ (f t x r) h) : mn_ (s1_ st f) h := fun r hr => by
  obtain ⟨t, x, u, -, q⟩ := s1_s hr
  exact g _ _ _ r q
theorem mn_l1 {ls : List am_V} {i : Nat} {f : Nat → Int → am_O} {h : am_H} (g : ∀ t x, mn_ (f t x) h) : mn_ (l1_ ls i f) h := fun r hr => by
  obtain ⟨t, x, -, q⟩ := l1_s hr
  exact g _ _ r q
theorem mn_tk {n : Nat} {acc st : List am_V} {f : List am_V → List am_V → am_O} {h : am_H} (g : ∀ a u, mn_ (f a u) h) : mn_ (tk_ n acc st f) h := fun r hr => by
  obtain ⟨xs, u, -, -, q⟩ := tk_s hr
  exact g _ _ r q
theorem mn_sw {j : Nat → am_O} {d : Nat} {x : Int} {h : am_H} (g : ∀ b, mn_ (j b) h) (qs : List (Int × Nat)) : mn_ (sw_ j d x qs) h := fun r hr => by
  rcases sw_s hr with ⟨i, q, -, -, h3⟩ | ⟨-, h3⟩
  · exact g _ r h3
  · exact g _ r h3
theorem mn_bd {x : am_O} {f : am_H → Int → am_O} {h : am_H} (hx : mn_ x h) (g : ∀ h1 v, mn_ (f h1 v) h1) : mn_ (bd_ x f) h := fun r hr => by
  obtain ⟨q, h1, h2⟩ := bd_s hr
  have a := hx q h1
  have b := g q.1 q.2 r h2
  exact ⟨Int.le_trans a.1 b.1, Int.le_trans a.2.1 b.2.1, fun z z1 z2 => by rw [b.2.2 z z1 (by omega), a.2.2 z z1 z2]⟩
theorem mn_nw {x : am_O} {h : am_H} {kind : Nat} {n : Int} (hn : 0 ≤ n) (hx : mn_ x (nw_ h kind n)) : mn_ x h := fun r hr => by
  have a := hx r hr
  rw [nn_nw, ss_nw] at a
  exact ⟨by omega, by omega, fun z z1 z2 => by rw [a.2.2 z z1 (by omega), kd_nw (by omega)]⟩
def md_ (i : am_I) : Prop := ∀ (C : am_C) (J : am_J) (K : am_K), (∀ j as h, mn_ (C j as h) h) → (∀ b L st h, mn_ (J b L st h) h) → (∀ L st h, mn_ (K L st h) h) → ∀ L st h, mn_ (i C J K L st h) h
theorem md_push (t : Nat) (x : Int) : md_ (i_push t x) := fun _ _ _ _ _ hK _ _ _ => hK _ _ _
theorem md_load (i t : Nat) : md_ (i_load i t) := fun _ _ _ _ _ hK _ _ _ => mn_l1 fun _ _ => mn_tg (hK _ _ _)
theorem md_store (i t : Nat) : md_ (i_store i t) := fun _ _ _ _ _ hK _ _ _ => mn_s1 fun _ _ _ => mn_tg (hK _ _ _)
theorem md_inc (i : Nat) (x : Int) : md_ (i_inc i x) := fun _ _ _ _ _ hK _ _ _ => mn_l1 fun _ _ => mn_tg (hK _ _ _)
theorem md_dup : md_ i_dup := fun _ _ _ _ _ hK _ _ _ => mn_s1 fun _ _ _ => mn_bl (hK _ _ _)
theorem md_dup2 : md_ i_dup2 := fun _ _ _ _ _ hK _ _ _ => mn_s1 fun _ _ _ => mn_s1 fun _ _ _ => mn_bl (mn_bl (hK _ _ _))
theorem md_pop : md_ i_pop := fun _ _ _ _ _ hK _ _ _ => mn_s1 fun _ _ _ => mn_bl (hK _ _ _)
theorem md_op2 (t : Nat) (f : Int → Int → Int) : md_ (i_op2 t f) := fun _ _ _ _ _ hK _ _ _ => mn_s1 fun _ _ _ => mn_s1 fun _ _ _ => mn_tg (mn_tg (hK _ _ _))
theorem md_dv2 (t : Nat) (f : Int → Int → Int) : md_ (i_dv2 t f) := fun _ _ _ _ _ hK _ _ _ => mn_s1 fun _ _ _ => mn_s1 fun _ _ _ => mn_tg (mn_tg (mn_ck fun _ => hK _ _ _))
theorem md_op1 (t u : Nat) (f : Int → Int) : md_ (i_op1 t u f) := fun _ _ _ _ _ hK _ _ _ => mn_s1 fun _ _ _ => mn_tg (hK _ _ _)
theorem md_mm2 (t : Nat) (f : Int → Int → Int) : md_ (i_mm2 t f) := fun _ _ _ _ _ hK _ _ _ => mn_s1 fun _ _ _ => mn_s1 fun _ _ _ => mn_tg (mn_tg (mn_bl (hK _ _ _)))
theorem md_mm1 (t : Nat) (f : Int → Int) : md_ (i_mm1 t f) := fun _ _ _ _ _ hK _ _ _ => mn_s1 fun _ _ _ => mn_tg (mn_bl (hK _ _ _))
theorem md_lcmp : md_ i_lcmp := fun _ _ _ _ _ hK _ _ _ => mn_s1 fun _ _ _ => mn_s1 fun _ _ _ => mn_tg (mn_tg (hK _ _ _))
theorem md_if1 (c : Int → Prop) [∀ a, Decidable (c a)] (b1 b2 : Nat) : md_ (i_if1 c b1 b2) := fun _ _ _ _ hJ _ _ _ _ => mn_s1 fun _ _ _ => mn_tg (mn_ite (hJ _ _ _ _) (hJ _ _ _ _))
theorem md_if2 (c : Int → Int → Prop) [∀ a b, Decidable (c a b)] (b1 b2 : Nat) : md_ (i_if2 c b1 b2) := fun _ _ _ _ hJ _ _ _ _ => mn_s1 fun _ _ _ => mn_s1 fun _ _ _ => mn_tg (mn_tg (mn_ite (hJ _ _ _ _) (hJ _ _ _ _)))
theorem md_ifn (b1 b2 : Nat) : md_ (i_ifn b1 b2) := fun _ _ _ _ hJ _ _ _ _ => mn_s1 fun _ _ _ => mn_bl (mn_ite (hJ _ _ _ _) (hJ _ _ _ _))
theorem md_goto (b : Nat) : md_ (i_goto b) := fun _ _ _ _ hJ _ _ _ _ => hJ _ _ _ _
theorem md_sw (d : Nat) (qs : List (Int × Nat)) : md_ (i_sw d qs) := fun _ _ _ _ hJ _ _ _ _ => mn_s1 fun _ _ _ => mn_tg (mn_sw (fun _ => hJ _ _ _ _) _)
theorem md_getf (t0 : Nat) (f : Int) (t : Nat) : md_ (i_getf t0 f t) := fun _ _ _ _ _ hK _ _ _ => mn_s1 fun _ _ _ => mn_tg (mn_ck fun _ => hK _ _ _)
theorem md_getr (t0 : Nat) (f : Int) (t : Nat) : md_ (i_getr t0 f t) := fun _ _ _ _ _ hK _ _ _ => mn_s1 fun _ _ _ => mn_tg (mn_ck fun _ => hK _ _ _)
theorem md_putf (t0 : Nat) (f : Int) (t : Nat) : md_ (i_putf t0 f t) := fun _ _ _ _ _ hK _ _ h => mn_s1 fun _ v _ => mn_s1 fun _ a _ => mn_tg (mn_tg (mn_ck fun _ => hK _ _ (wr_ h a f v)))
theorem md_putz (t0 : Nat) (f : Int) : md_ (i_putz t0 f) := fun _ _ _ _ _ hK _ _ h => mn_s1 fun _ v _ => mn_s1 fun _ a _ => mn_tg (mn_tg (mn_ck fun _ => mn_ck fun _ => hK _ _ (wr_ h a f v)))
theorem md_putr (t0 : Nat) (f : Int) (t : Nat) : md_ (i_putr t0 f t) := fun _ _ _ _ _ hK _ _ h => mn_s1 fun _ v _ => mn_s1 fun _ a _ => mn_tg (mn_tg (mn_ck fun _ => hK _ _ (wf_ h a f v)))
theorem md_putn (t0 : Nat) (f : Int) : md_ (i_putn t0 f) := fun _ _ _ _ _ hK _ _ h => mn_s1 fun _ _ _ => mn_s1 fun _ a _ => mn_tg (mn_tg (mn_ck fun _ => hK _ _ (wf_ h a f (-1))))
theorem md_ald (t0 t : Nat) : md_ (i_ald t0 t) := fun _ _ _ _ _ hK _ _ _ => mn_s1 fun _ _ _ => mn_s1 fun _ _ _ => mn_tg (mn_tg (mn_ck fun _ => mn_ck fun _ => hK _ _ _))
theorem md_aldr (t0 t : Nat) : md_ (i_aldr t0 t) := fun _ _ _ _ _ hK _ _ _ => mn_s1 fun _ _ _ => mn_s1 fun _ _ _ => mn_tg (mn_tg (mn_ck fun _ => mn_ck fun _ => hK _ _ _))
theorem md_ast (t0 t : Nat) : md_ (i_ast t0 t) := fun _ _ _ _ _ hK _ _ h => mn_s1 fun _ v _ => mn_s1 fun _ i _ => mn_s1 fun _ a _ => mn_tg (mn_tg (mn_tg (mn_ck fun _ => mn_ck fun _ => hK _ _ (wr_ h a i v))))
theorem md_bast : md_ i_bast := fun _ _ _ _ _ hK _ _ h => mn_s1 fun _ v _ => mn_s1 fun _ i _ => mn_s1 fun _ a _ => mn_tg (mn_tg (mn_tg (mn_ck fun _ => mn_ck fun _ => hK _ _ (wr_ h a i (w8_ v)))))
theorem md_zast : md_ i_zast := fun _ _ _ _ _ hK _ _ h => mn_s1 fun _ v _ => mn_s1 fun _ i _ => mn_s1 fun _ a _ => mn_tg (mn_tg (mn_tg (mn_ck fun _ => mn_ck fun _ => mn_ck fun _ => hK _ _ (wr_ h a i v))))
theorem md_astr (t0 t : Nat) : md_ (i_astr t0 t) := fun _ _ _ _ _ hK _ _ h => mn_s1 fun _ v _ => mn_s1 fun _ i _ => mn_s1 fun _ a _ => mn_tg (mn_tg (mn_tg (mn_ck fun _ => mn_ck fun _ => mn_ck fun _ => hK _ _ (wf_ h a i v))))
theorem md_alen (t0 : Nat) : md_ (i_alen t0) := fun _ _ _ _ _ hK _ _ _ => mn_s1 fun _ _ _ => mn_tg (mn_ck fun _ => hK _ _ _)
theorem md_newa (kind : Nat) : md_ (i_newa kind) := fun _ _ _ _ _ hK _ _ _ => mn_s1 fun _ _ _ => mn_tg (mn_ck fun q => mn_nw q.1 (hK _ _ _))
theorem md_new (kind : Nat) (n : Int) (hn : 0 ≤ n) : md_ (i_new kind n) := fun _ _ _ _ _ hK _ _ _ => mn_nw hn (hK _ _ _)
theorem md_tab (t0 : Nat) (q n : Int) (row : List Int) : md_ (i_tab t0 q n row) := fun _ _ _ _ _ hK _ _ _ => mn_s1 fun _ _ _ => mn_s1 fun _ _ _ => mn_tg (mn_tg (mn_bl (mn_ck fun _ => hK _ _ _)))
theorem md_con (t0 : Nat) (q n : Int) : md_ (i_con t0 q n) := fun _ _ _ _ _ hK _ _ _ => mn_s1 fun _ _ _ => mn_tg (mn_bl (hK _ _ _))
theorem md_sval : md_ i_sval := fun _ _ _ _ _ hK _ _ _ => mn_s1 fun _ _ _ => mn_tg (mn_bl (hK _ _ _))
theorem md_copy : md_ i_copy := fun _ _ _ _ _ hK _ _ h => mn_s1 fun _ n _ => mn_s1 fun _ dp _ => mn_s1 fun _ d _ => mn_s1 fun _ sp _ => mn_s1 fun _ s _ => mn_tg (mn_tg (mn_tg (mn_tg (mn_tg (mn_bl (mn_ck fun _ => mn_ck fun _ => hK _ _ (cp_ h s sp d dp n)))))))
theorem md_call (j n : Nat) (sg : List Nat) (rt : Nat) : md_ (i_call j n sg rt) := fun _ _ _ hC _ hK _ _ _ => mn_tk fun _ _ => mn_bl (mn_bl (mn_bd (hC _ _ _) fun _ _ => hK _ _ _))
theorem md_vcall (j n : Nat) (sg : List Nat) (rt : Nat) : md_ (i_vcall j n sg rt) := fun _ _ _ hC _ hK _ _ _ => mn_tk fun _ _ => mn_bl (mn_bl (mn_s1 fun _ _ _ => mn_ck fun _ => mn_bd (hC _ _ _) fun _ _ => hK _ _ _))
theorem md_tcall (j n : Nat) (sg : List Nat) (rt : Nat) : md_ (i_tcall j n sg rt) := fun _ _ _ hC _ hK _ _ _ => mn_tk fun _ _ => mn_bl (mn_bl (mn_s1 fun _ _ _ => mn_tg (mn_bl (mn_bd (hC _ _ _) fun _ _ => hK _ _ _))))
theorem md_oini (t0 : Nat) : md_ (i_oini t0) := fun _ _ _ _ _ hK _ _ _ => mn_s1 fun _ _ _ => mn_tg (mn_bl (mn_ck fun _ => hK _ _ _))
theorem md_ret (t : Nat) : md_ (i_ret t) := fun _ _ _ _ _ _ _ _ _ => mn_s1 fun _ _ _ => mn_tg (mn_bl (mn_some _ _))
theorem md_zret : md_ i_zret := fun _ _ _ _ _ _ _ _ _ => mn_s1 fun _ _ _ => mn_tg (mn_bl (mn_ck fun _ => mn_some _ _))
theorem md_cret : md_ i_cret := fun _ _ _ _ _ _ _ _ _ => mn_s1 fun _ _ _ => mn_tg (mn_bl (mn_ck fun _ => mn_some _ _))
theorem md_vret : md_ i_vret := fun _ _ _ _ _ _ _ _ _ => mn_bl (mn_some _ _)
theorem md_stuck : md_ i_stuck := fun _ _ _ _ _ _ _ _ _ => mn_none _
/-! A PROGRAM's SOUNDNESS -/
abbrev am_E : Type := Nat × Instr × Nat × am_I
/-- a meaning with all that is asked of it -/
def go_ (mt : Nat → am_S) (own : String) (FR LO nL : Nat) (ini : Bool) (ret : Option FieldType) (rt : Nat) (lpc : Nat → Nat) (q : am_E) : Prop := lm_ q.2.2.2 ∧ md_ q.2.2.2 ∧ ok_ mt own FR LO nL ini ret rt lpc q.1 q.2.1 q.2.2.1 q.2.2.2
/-- instructions one behind the other, from pc to e -/
def sq_ : Nat → List am_E → Nat → Bool
  | pc, [], e => Nat.beq pc e
  | pc, q :: qs, e => Nat.beq q.1 pc && sq_ (pc + q.2.2.1) qs e
def dc_ (cc : ByteArray) (qs : List am_E) : Bool := qs.all fun q => decide (decode cc q.1 = .ok (q.2.1, q.2.2.1))
def sz_ (sg : List Nat) : Nat := (sg.map fun t => bif Nat.beq t 1 then 2 else 1).sum
def mo_ (mt : Nat → am_S) (M : am_S) (nL : Nat) (bs : List (List Bool × am_B)) : Prop :=
  ∃ (ini : Bool) (lpc : Nat → Nat), M.2.2.1 = nL ∧ plainName M.1.cls = true ∧ (ini = true → M.1.name = "<init>") ∧ lpc 0 = 0 ∧ sz_ M.2.2.2.2.1 ≤ nL ∧
    ∀ b q, bs[b]? = some q → dc_ M.2.1 q.2.1 = true ∧ (∀ i ∈ q.2.1, go_ mt M.1.cls M.2.2.2.2.2.2.1 M.2.2.2.2.2.2.2 nL ini M.2.2.2.1 M.2.2.2.2.2.1 lpc i) ∧ ∃ e, sq_ (lpc b) q.2.1 e = true ∧ (bs[q.2.2]? = none ∨ e = lpc q.2.2)
theorem mk_get : ∀ {bs : List Bool} {L : List am_V} {i : Nat} {v : am_V}, (mk_ bs L)[i]? = some v → v.1 ≠ 9 → L[i]? = some v := by
  intro bs
  induction bs with
  | nil => intro L i v h; cases L <;> simp [mk_] at h
  | cons b bs ih =>
    intro L i v h h9
    cases L with
    | nil => simp [mk_] at h
    | cons w L =>
      cases i with
      | zero =>
        cases b
        · have h : some ((9, 0) : am_V) = some v := h
          cases h; exact absurd rfl h9
        · exact h
      | succ i =>
        have h : (mk_ bs L)[i]? = some v := h
        show L[i]? = some v
        exact ih h h9
theorem mk_ov {M : am_M} : ∀ {bs : List Bool} {L : List am_V}, (∀ v ∈ L, ov_ M v) → ∀ v ∈ mk_ bs L, ov_ M v := by
  intro bs
  induction bs with
  | nil => intro L _ v h; cases L <;> simp [mk_] at h
  | cons b bs ih =>
    intro L hL v h
    cases L with
    | nil => simp [mk_] at h
    | cons w L =>
      unfold mk_ at h
      rcases List.mem_cons.mp h with rfl | h
      · cases b
        · trivial
        · exact hL w List.mem_cons_self
      · exact ih (fun z hz => hL z (List.mem_cons_of_mem _ hz)) v h
theorem lm_all {P : am_P} {mt : Nat → am_S} (hP : ∀ k nL bs, P k = some (nL, bs) → mo_ mt (mt k) nL bs) : lP_ P := by
  intro k b q hq i hi
  unfold bk_ at hq
  cases hk : P k with
  | none => rw [hk] at hq; cases hq
  | some z =>
    rw [hk] at hq
    obtain ⟨ini, lpc, -, -, -, -, -, h⟩ := hP k z.1 z.2 hk
    exact ((h b q hq).2.1 i hi).1
theorem md_ex {C : am_C} {J : am_J} (hC : ∀ j as h, mn_ (C j as h) h) (hJ : ∀ b L st h, mn_ (J b L st h) h) (fall : Nat) : ∀ qs : List am_E, (∀ q ∈ qs, md_ q.2.2.2) → ∀ L st h, mn_ (ex_ C J fall qs L st h) h := by
  intro qs
  induction qs with
  | nil => intro _ L st h; exact hJ _ _ _ _
  | cons q qs ih => intro hq L st h; exact hq q List.mem_cons_self C J _ hC hJ (ih fun z hz => hq z (List.mem_cons_of_mem _ hz)) L st h
theorem am_grow {P : am_P} {mt : Nat → am_S} (hP : ∀ k nL bs, P k = some (nL, bs) → mo_ mt (mt k) nL bs) : ∀ n k b L st h, mn_ (am_run P n k b L st h) h := by
  intro n
  induction n with
  | zero => intro k b L st h; exact mn_none h
  | succ n ih =>
    intro k b L st h
    show mn_ (am_body P (am_run P n) k b L st h) h
    unfold am_body
    cases hq : bk_ P k b with
    | none => exact mn_none h
    | some q =>
      refine md_ex ?_ ?_ _ _ ?_ L st h
      · intro j as h
        unfold cl_
        cases P j with
        | none => exact mn_none h
        | some z => exact ih _ _ _ _ _
      · intro b L st h
        unfold jm_
        cases bk_ P k b with
        | none => exact mn_none h
        | some z => exact ih _ _ _ _ _
      · intro i hi
        unfold bk_ at hq
        cases hk : P k with
        | none => rw [hk] at hq; cases hq
        | some z =>
          rw [hk] at hq
          obtain ⟨ini, lpc, -, -, -, -, -, h⟩ := hP k z.1 z.2 hk
          exact ((h b q hq).2.1 i hi).2.1
/-- a row of instructions is sound where what follows is -/
theorem ok_ex {mt : Nat → am_S} {own : String} {FR LO nL : Nat} {ini : Bool} {ret : Option FieldType} {rt : Nat} {lpc : Nat → Nat} {p : Program} {l : Launch} {e : Env} {R : Room} {s : State} {m : MethodId} {args : Array Value} {below : List Frame} {meth : Method} {c : Code} {G : am_G} {cc : ByteArray} {h0 : am_H} {r : am_H × Int} {C : am_C} {J : am_J} {fall E : Nat}
    (X : cx_ p R s m args meth c G own cc FR LO nL ini ret h0 r) (hC : cs_ l G mt C) (hJ : ∀ b L st h, J b L st h = some r → gd_ p l e R s m args below meth c G rt h0 r nL (lpc b) L st h) (hE : ∀ L st h, J fall L st h = some r → E = lpc fall) :
    ∀ (qs : List am_E) (pc : Nat), dc_ cc qs = true → (∀ i ∈ qs, go_ mt own FR LO nL ini ret rt lpc i) → sq_ pc qs E = true → ∀ L st h, ex_ C J fall qs L st h = some r → gd_ p l e R s m args below meth c G rt h0 r nL pc L st h := by
  intro qs
  induction qs with
  | nil =>
    intro pc _ _ hs L st h hr
    have h1 : pc = E := Nat.eq_of_beq_eq_true hs
    rw [h1, hE L st h hr]
    exact hJ fall L st h hr
  | cons q qs ih =>
    intro pc hd hg hs L st h hr
    have hs2 := Bool.and_eq_true_iff.mp hs
    have hd2 := Bool.and_eq_true_iff.mp hd
    have hpc : q.1 = pc := Nat.eq_of_beq_eq_true hs2.1
    subst hpc
    exact (hg q List.mem_cons_self).2.2 p l e R s m args below meth c G cc h0 r C J (ex_ C J fall qs) X (of_decide_eq_true hd2.1) hC hJ (fun L st h hk => ih (q.1 + q.2.2.1) hd2.2 (fun i hi => hg i (List.mem_cons_of_mem _ hi)) hs2.2 L st h hk) L st h hr
theorem te_len : ∀ {as : List am_V} {sg : List Nat}, te_ as sg = true → ct_ as = sz_ sg := by
  intro as
  induction as with
  | nil => intro sg h; cases sg with
    | nil => rfl
    | cons t ts => cases h
  | cons v as ih =>
    intro sg h
    cases sg with
    | nil => cases h
    | cons t ts =>
      have h2 := Bool.and_eq_true_iff.mp h
      have h3 : v.1 = t := Nat.eq_of_beq_eq_true h2.1
      have h4 := ih h2.2
      show (bif Nat.beq v.1 1 then 2 else 1) + ct_ as = ((t :: ts).map fun t => bif Nat.beq t 1 then 2 else 1).sum
      rw [List.map_cons, List.sum_cons, h3, h4]
      rfl
theorem sl_len {G : am_G} (h8 : G.2.2.2.2.category = 1) : ∀ as : List am_V, (lg_sl (as.map (cv_ G))).length = ct_ as := by
  intro as
  induction as with
  | nil => rfl
  | cons v as ih =>
    rw [List.map_cons, show lg_sl (cv_ G v :: as.map (cv_ G)) = (if (cv_ G v).category = 2 then [.val (cv_ G v), .second] else [.val (cv_ G v)]) ++ lg_sl (as.map (cv_ G)) from rfl, List.length_append, ih]
    show _ = (bif Nat.beq v.1 1 then 2 else 1) + ct_ as
    congr 1
    by_cases h : v.1 = 1
    · rw [show v = (v.1, v.2) from rfl, h]; rfl
    · rw [show cv_ G v = cv_ G (v.1, v.2) from rfl, cat_1 h (fun _ => h8), beq_no h]; rfl
theorem en_get {G : am_G} (h8 : G.2.2.2.2.category = 1) : ∀ (as : List am_V) (n i o : Nat) (v : am_V), (en_ n as)[i]? = some v → v.1 ≠ 9 → (i + o, cv_ G v) ∈ lv_args o (as.map (cv_ G)) := by
  intro as
  induction as with
  | nil =>
    intro n
    induction n with
    | zero => intro i o v h; simp [en_] at h
    | succ n ih =>
      intro i o v h h9
      cases i with
      | zero =>
        have h : some ((9, 0) : am_V) = some v := h
        cases h; exact absurd rfl h9
      | succ i =>
        have := ih i o v h h9
        exact absurd this (by simp [lv_args])
  | cons w as ih =>
    intro n i o v h h9
    cases n with
    | zero => simp [en_] at h
    | succ n =>
      rw [List.map_cons]
      unfold lv_args
      unfold en_ at h
      cases hw : Nat.beq w.1 1 with
      | false =>
        rw [hw] at h
        have hne : w.1 ≠ 1 := fun z => by rw [z] at hw; cases hw
        have hcat : (cv_ G w).category = 1 := cat_1 (G := G) (t := w.1) (x := w.2) hne (fun _ => h8)
        cases i with
        | zero =>
          have h : some w = some v := h
          cases h
          rw [Nat.zero_add]
          exact List.mem_cons_self
        | succ i =>
          have := ih n i (o + 1) v h h9
          rw [hcat, if_neg (by decide)]
          rw [show i + 1 + o = i + (o + 1) by omega]
          exact List.mem_cons_of_mem _ this
      | true =>
        rw [hw] at h
        have he : w.1 = 1 := Nat.eq_of_beq_eq_true hw
        have hcat : (cv_ G w).category = 2 := by rw [show w = (w.1, w.2) from rfl, he]; rfl
        cases i with
        | zero =>
          have h : some w = some v := h
          cases h
          rw [Nat.zero_add]
          exact List.mem_cons_self
        | succ i =>
          cases n with
          | zero => have h : ([] : List am_V)[i]? = some v := h; simp at h
          | succ n =>
            have h : ((9, 0) :: en_ n as : List am_V)[i]? = some v := h
            cases i with
            | zero => have h : some ((9, 0) : am_V) = some v := h; cases h; exact absurd rfl h9
            | succ i =>
              have := ih n i (o + 2) v h h9
              rw [hcat, if_pos rfl]
              rw [show i + 1 + 1 + o = i + (o + 2) by omega]
              exact List.mem_cons_of_mem _ this
theorem en_ov {M : am_M} : ∀ (as : List am_V) (n : Nat), (∀ v ∈ as, ov_ M v) → ∀ v ∈ en_ n as, ov_ M v := by
  intro as
  induction as with
  | nil =>
    intro n
    induction n with
    | zero => intro _ v h; simp [en_] at h
    | succ n ih =>
      intro hL v h
      unfold en_ at h
      rcases List.mem_cons.mp h with rfl | h
      · trivial
      · exact ih hL v h
  | cons w as ih =>
    intro n hL v h
    cases n with
    | zero => simp [en_] at h
    | succ n =>
      unfold en_ at h
      have ht : ∀ v ∈ as, ov_ M v := fun z hz => hL z (List.mem_cons_of_mem _ hz)
      cases hw : Nat.beq w.1 1 with
      | false =>
        rw [hw] at h
        have h : v ∈ w :: en_ n as := h
        rcases List.mem_cons.mp h with rfl | h
        · exact hL v List.mem_cons_self
        · exact ih n ht v h
      | true =>
        rw [hw] at h
        cases n with
        | zero =>
          have h : v ∈ [w] := h
          rcases List.mem_cons.mp h with rfl | h
          · exact hL v List.mem_cons_self
          · simp at h
        | succ n =>
          have h : v ∈ w :: (9, 0) :: en_ n as := h
          rcases List.mem_cons.mp h with rfl | h
          · exact hL v List.mem_cons_self
          · rcases List.mem_cons.mp h with rfl | h
            · trivial
            · exact ih n ht v h
/-- a method's answer is the machine's -/
theorem am_sound {P : am_P} {mt : Nat → am_S} (hP : ∀ k nL bs, P k = some (nL, bs) → mo_ mt (mt k) nL bs) (l : Launch) (G : am_G) : ∀ n, cs_ l G mt (cl_ P (am_run P n)) ∧
    ∀ k nL bs ini lpc, P k = some (nL, bs) → (mt k).2.2.1 = nL → (∀ b q, bs[b]? = some q → dc_ (mt k).2.1 q.2.1 = true ∧ (∀ i ∈ q.2.1, go_ mt (mt k).1.cls (mt k).2.2.2.2.2.2.1 (mt k).2.2.2.2.2.2.2 nL ini (mt k).2.2.2.1 (mt k).2.2.2.2.2.1 lpc i) ∧ ∃ e, sq_ (lpc b) q.2.1 e = true ∧ (bs[q.2.2]? = none ∨ e = lpc q.2.2)) →
      ∀ (p : Program) (e : Env) (R : Room) (s : State) (m : MethodId) (args : Array Value) (below : List Frame) (meth : Method) (c : Code) (h0 : am_H) (r : am_H × Int), cx_ p R s m args meth c G (mt k).1.cls (mt k).2.1 (mt k).2.2.2.2.2.2.1 (mt k).2.2.2.2.2.2.2 nL ini (mt k).2.2.2.1 h0 r →
        ∀ b L st h, am_run P n k b L st h = some r → gd_ p l e R s m args below meth c G (mt k).2.2.2.2.2.1 h0 r nL (lpc b) L st h := by
  intro n
  induction n with
  | zero =>
    refine ⟨fun j as h r hr => ?_, fun k nL bs ini lpc _ _ _ p e R s m args below meth c h0 r _ b L st h hr => by cases hr⟩
    unfold cl_ at hr
    cases hk : P j with
    | none => rw [hk] at hr; cases hr
    | some z => rw [hk] at hr; cases hr
  | succ n ih =>
    have body : ∀ k nL bs ini lpc, P k = some (nL, bs) → (mt k).2.2.1 = nL → (∀ b q, bs[b]? = some q → dc_ (mt k).2.1 q.2.1 = true ∧ (∀ i ∈ q.2.1, go_ mt (mt k).1.cls (mt k).2.2.2.2.2.2.1 (mt k).2.2.2.2.2.2.2 nL ini (mt k).2.2.2.1 (mt k).2.2.2.2.2.1 lpc i) ∧ ∃ e, sq_ (lpc b) q.2.1 e = true ∧ (bs[q.2.2]? = none ∨ e = lpc q.2.2)) →
      ∀ (p : Program) (e : Env) (R : Room) (s : State) (m : MethodId) (args : Array Value) (below : List Frame) (meth : Method) (c : Code) (h0 : am_H) (r : am_H × Int), cx_ p R s m args meth c G (mt k).1.cls (mt k).2.1 (mt k).2.2.2.2.2.2.1 (mt k).2.2.2.2.2.2.2 nL ini (mt k).2.2.2.1 h0 r →
        ∀ b L st h, am_run P (n + 1) k b L st h = some r → gd_ p l e R s m args below meth c G (mt k).2.2.2.2.2.1 h0 r nL (lpc b) L st h := by
      intro k nL bs ini lpc hk hnL hbs p e R s m args below meth c h0 r X b L st h hr
      have hr : am_body P (am_run P n) k b L st h = some r := hr
      unfold am_body at hr
      have hbk : ∀ b, bk_ P k b = bs[b]? := fun b => by unfold bk_; rw [hk]; rfl
      rw [hbk] at hr
      cases hq : bs[b]? with
      | none => rw [hq] at hr; cases hr
      | some q =>
        rw [hq] at hr
        obtain ⟨hd, hg, E, hs, hfall⟩ := hbs b q hq
        have hJ : ∀ b L st h, jm_ P (am_run P n) k b L st h = some r → gd_ p l e R s m args below meth c G (mt k).2.2.2.2.2.1 h0 r nL (lpc b) L st h := by
          intro b L st h hr
          unfold jm_ at hr
          cases hz : bk_ P k b with
          | none => rw [hz] at hr; cases hr
          | some z =>
            rw [hz] at hr
            obtain ⟨g1, g2⟩ := ih.2 k nL bs ini lpc hk hnL hbs p e R s m args below meth c h0 r X b (mk_ z.1 L) st h hr
            refine ⟨g1, fun ls H locs hl hH hS hvL hvS h1 h2 => g2 ls H locs (lv_has_sub hl fun q hq => ?_) hH hS (mk_ov hvL) hvS h1 h2⟩
            obtain ⟨v, w1, w2, w3⟩ := lv_l_mem.mp hq
            exact lv_l_mem.mpr ⟨v, mk_get w1 w2, w2, w3⟩
        refine ok_ex X ih.1 hJ (fun L st h hr => ?_) q.2.1 (lpc b) hd hg hs L st h hr
        rcases hfall with hf | hf
        · unfold jm_ at hr
          rw [hbk, hf] at hr
          cases hr
        · exact hf
    refine ⟨fun j as h r hr hte => ?_, body⟩
    unfold cl_ at hr
    cases hk : P j with
    | none => rw [hk] at hr; cases hr
    | some z =>
      rw [hk] at hr
      obtain ⟨nL, bs⟩ := z
      have hr : am_run P (n + 1) j 0 (en_ nL as) [] h = some r := hr
      refine ⟨am_grow hP (n + 1) j 0 _ _ h r hr, fun hoa => ?_⟩
      obtain ⟨ini, lpc, hnL, hpl, hini, hl0, hsz, hbs⟩ := hP j nL bs hk
      unfold mm_
      refine Met.ofW (cc := (mt j).2.1) (maxL := (mt j).2.2.1) (ret := (mt j).2.2.2.1) hpl rfl ?_
      intro p e s m args below meth c s₁ B hml hv
      obtain ⟨hargs, hev, hH⟩ := hv
      have hts := atoms_spec (ws := ms_ (mt j)) B.pre
      have hfr : G.2.1 ≤ s.heap.size := by rw [hH.1]; omega
      have X : cx_ p (headSpec (ms_ (mt j)) { frames := (mt j).2.2.2.2.2.2.1, cells := (nn_ r.1 - nn_ h).toNat, slots := (ss_ r.1 - ss_ h).toNat, locals := (mt j).2.2.2.2.2.2.2 }).room s m args meth c G (mt j).1.cls (mt j).2.1 (mt j).2.2.2.2.2.2.1 (mt j).2.2.2.2.2.2.2 nL ini (mt j).2.2.2.1 h r :=
        ⟨B.exec, B.bytes, hml.trans hnL, findClass_of_methodNamed B.named, fun w hw => hts w (List.mem_cons_of_mem _ hw), hev, hfr, rfl, B.notSynchronized, B.returns, fun q => by rw [(name_of_methodNamed B.named B.method).1]; exact hini q⟩
      obtain ⟨-, g2⟩ := body j nL bs ini lpc hk hnL hbs p e _ s m args below meth c h r X 0 (en_ nL as) [] h hr
      have h8 := hev.2.1
      have hle : (lg_sl (as.map (cv_ G))).length ≤ nL := by rw [sl_len h8, te_len hte]; exact hsz
      have hl := lv_entry (as.map (cv_ G)) (n := nL) hle
      have k2 := g2 _ s.heap [] (lv_has_sub hl fun q hq => ?_) hH va_S.rf (en_ov as nL hoa) (fun v hv => absurd hv List.not_mem_nil) (Int.le_refl _) (Int.le_refl _)
      · subst hargs
        rw [hnL, lg_entry_eq]
        rw [hl0, Int.sub_self, Int.sub_self] at k2
        exact k2
      · obtain ⟨v, w1, w2, w3⟩ := lv_l_mem.mp hq
        have := en_get h8 as nL q.1 0 v w1 w2
        rw [Nat.add_zero, ← w3] at this
        exact this
