/-! CHAINS: what a growing row of partial answers comes to -/
def ch_ (F : Nat → am_O) (x : am_O) : Prop := (∀ n r, F n = some r → F (n + 1) = some r) ∧ ∀ r, x = some r ↔ ∃ n, F n = some r
theorem ch_up {F : Nat → am_O} {x : am_O} (h : ch_ F x) {n m : Nat} (hnm : n ≤ m) {r : am_H × Int} (hr : F n = some r) : F m = some r := by
  induction m with
  | zero =>
    have : n = 0 := by omega
    subst this; exact hr
  | succ m ih =>
    rcases Nat.lt_or_ge m n with q | q
    · have : n = m + 1 := by omega
      subst this; exact hr
    · exact h.1 m r (ih q)
theorem ch_const (x : am_O) : ch_ (fun _ => x) x := ⟨fun _ _ h => h, fun r => ⟨fun h => ⟨0, h⟩, fun ⟨_, h⟩ => h⟩⟩
theorem ch_ite {p : Prop} [Decidable p] {F1 F2 : Nat → am_O} {x1 x2 : am_O} (h1 : ch_ F1 x1) (h2 : ch_ F2 x2) : ch_ (fun n => if p then F1 n else F2 n) (if p then x1 else x2) := by
  by_cases q : p
  · simpa [q] using h1
  · simpa [q] using h2
theorem ch_ck {p : Prop} [Decidable p] {F : Nat → am_O} {x : am_O} (h : ch_ F x) : ch_ (fun n => ck_ p (F n)) (ck_ p x) := ch_ite h (ch_const none)
theorem ch_tg {t c : Nat} {F : Nat → am_O} {x : am_O} (h : ch_ F x) : ch_ (fun n => tg_ t c (F n)) (tg_ t c x) := by
  unfold tg_
  cases Nat.beq t c
  · exact ch_const none
  · exact h
theorem ch_bl {b : Bool} {F : Nat → am_O} {x : am_O} (h : ch_ F x) : ch_ (fun n => bl_ b (F n)) (bl_ b x) := by
  cases b
  · exact ch_const none
  · exact h
theorem ch_s1 {st : List am_V} {F : Nat → Nat → Int → List am_V → am_O} {f : Nat → Int → List am_V → am_O} (h : ∀ t x r, ch_ (fun n => F n t x r) (f t x r)) : ch_ (fun n => s1_ st (F n)) (s1_ st f) := by
  cases st with
  | nil => exact ch_const none
  | cons v r => exact h _ _ _
theorem ch_l1 {ls : List am_V} {i : Nat} {F : Nat → Nat → Int → am_O} {f : Nat → Int → am_O} (h : ∀ t x, ch_ (fun n => F n t x) (f t x)) : ch_ (fun n => l1_ ls i (F n)) (l1_ ls i f) := by
  unfold l1_
  cases ls[i]? with
  | none => exact ch_const none
  | some v => exact h _ _
theorem ch_tk {F : Nat → List am_V → List am_V → am_O} {f : List am_V → List am_V → am_O} (h : ∀ a r, ch_ (fun n => F n a r) (f a r)) : ∀ (m : Nat) (acc st : List am_V), ch_ (fun n => tk_ m acc st (F n)) (tk_ m acc st f) := by
  intro m
  induction m with
  | zero => intro acc st; exact h _ _
  | succ m ih =>
    intro acc st
    cases st with
    | nil => exact ch_const none
    | cons v st => exact ih _ _
theorem ch_sw {F : Nat → Nat → am_O} {f : Nat → am_O} (h : ∀ b, ch_ (fun n => F n b) (f b)) (d : Nat) (x : Int) : ∀ qs : List (Int × Nat), ch_ (fun n => sw_ (F n) d x qs) (sw_ f d x qs) := by
  intro qs
  induction qs with
  | nil => exact h d
  | cons q qs ih => exact ch_ite (h _) ih
theorem ch_bd {X : Nat → am_O} {x : am_O} {F : Nat → am_H → Int → am_O} {f : am_H → Int → am_O} (hx : ch_ X x) (hf : ∀ h v, ch_ (fun n => F n h v) (f h v)) : ch_ (fun n => bd_ (X n) (F n)) (bd_ x f) := by
  refine ⟨fun n r h => ?_, fun r => ⟨fun h => ?_, fun ⟨n, h⟩ => ?_⟩⟩
  · dsimp only at h ⊢
    cases hX : X n with
    | none => rw [hX] at h; cases h
    | some q =>
      rw [hX] at h
      rw [hx.1 n q hX]
      exact (hf q.1 q.2).1 n r h
  · cases hX : x with
    | none => rw [hX] at h; cases h
    | some q =>
      rw [hX] at h
      obtain ⟨n1, h1⟩ := (hx.2 q).mp hX
      obtain ⟨n2, h2⟩ := ((hf q.1 q.2).2 r).mp h
      refine ⟨max n1 n2, ?_⟩
      dsimp only
      rw [ch_up hx (Nat.le_max_left n1 n2) h1]
      exact ch_up (hf q.1 q.2) (Nat.le_max_right n1 n2) h2
  · dsimp only at h
    cases hX : X n with
    | none => rw [hX] at h; cases h
    | some q =>
      rw [hX] at h
      rw [(hx.2 q).mpr ⟨n, hX⟩]
      exact ((hf q.1 q.2).2 r).mpr ⟨n, h⟩
/-- a meaning that keeps chains -/
def lm_ (i : am_I) : Prop := ∀ (C : Nat → am_C) (C' : am_C) (J : Nat → am_J) (J' : am_J) (K : Nat → am_K) (K' : am_K), (∀ j as h, ch_ (fun n => C n j as h) (C' j as h)) → (∀ b ls st h, ch_ (fun n => J n b ls st h) (J' b ls st h)) → (∀ ls st h, ch_ (fun n => K n ls st h) (K' ls st h)) → ∀ ls st h, ch_ (fun n => i (C n) (J n) (K n) ls st h) (i C' J' K' ls st h)
theorem lm_push (t : Nat) (x : Int) : lm_ (i_push t x) := fun _ _ _ _ _ _ _ _ hK _ _ _ => hK _ _ _
theorem lm_load (i t : Nat) : lm_ (i_load i t) := fun _ _ _ _ _ _ _ _ hK _ _ _ => ch_l1 fun _ _ => ch_tg (hK _ _ _)
theorem lm_store (i t : Nat) : lm_ (i_store i t) := fun _ _ _ _ _ _ _ _ hK _ _ _ => ch_s1 fun _ _ _ => ch_tg (hK _ _ _)
theorem lm_inc (i : Nat) (x : Int) : lm_ (i_inc i x) := fun _ _ _ _ _ _ _ _ hK _ _ _ => ch_l1 fun _ _ => ch_tg (hK _ _ _)
theorem lm_dup : lm_ i_dup := fun _ _ _ _ _ _ _ _ hK _ _ _ => ch_s1 fun _ _ _ => ch_bl (hK _ _ _)
theorem lm_dup2 : lm_ i_dup2 := fun _ _ _ _ _ _ _ _ hK _ _ _ => ch_s1 fun _ _ _ => ch_s1 fun _ _ _ => ch_bl (ch_bl (hK _ _ _))
theorem lm_pop : lm_ i_pop := fun _ _ _ _ _ _ _ _ hK _ _ _ => ch_s1 fun _ _ _ => ch_bl (hK _ _ _)
theorem lm_op2 (t : Nat) (f : Int → Int → Int) : lm_ (i_op2 t f) := fun _ _ _ _ _ _ _ _ hK _ _ _ => ch_s1 fun _ _ _ => ch_s1 fun _ _ _ => ch_tg (ch_tg (hK _ _ _))
theorem lm_dv2 (t : Nat) (f : Int → Int → Int) : lm_ (i_dv2 t f) := fun _ _ _ _ _ _ _ _ hK _ _ _ => ch_s1 fun _ _ _ => ch_s1 fun _ _ _ => ch_tg (ch_tg (ch_ck (hK _ _ _)))
theorem lm_op1 (t u : Nat) (f : Int → Int) : lm_ (i_op1 t u f) := fun _ _ _ _ _ _ _ _ hK _ _ _ => ch_s1 fun _ _ _ => ch_tg (hK _ _ _)
theorem lm_lcmp : lm_ i_lcmp := fun _ _ _ _ _ _ _ _ hK _ _ _ => ch_s1 fun _ _ _ => ch_s1 fun _ _ _ => ch_tg (ch_tg (hK _ _ _))
theorem lm_if1 (c : Int → Prop) [∀ a, Decidable (c a)] (b1 b2 : Nat) : lm_ (i_if1 c b1 b2) := fun _ _ _ _ _ _ _ hJ _ _ _ _ => ch_s1 fun _ _ _ => ch_tg (ch_ite (hJ _ _ _ _) (hJ _ _ _ _))
theorem lm_if2 (c : Int → Int → Prop) [∀ a b, Decidable (c a b)] (b1 b2 : Nat) : lm_ (i_if2 c b1 b2) := fun _ _ _ _ _ _ _ hJ _ _ _ _ => ch_s1 fun _ _ _ => ch_s1 fun _ _ _ => ch_tg (ch_tg (ch_ite (hJ _ _ _ _) (hJ _ _ _ _)))
theorem lm_ifn (b1 b2 : Nat) : lm_ (i_ifn b1 b2) := fun _ _ _ _ _ _ _ hJ _ _ _ _ => ch_s1 fun _ _ _ => ch_bl (ch_ite (hJ _ _ _ _) (hJ _ _ _ _))
theorem lm_goto (b : Nat) : lm_ (i_goto b) := fun _ _ _ _ _ _ _ hJ _ _ _ _ => hJ _ _ _ _
theorem lm_sw (d : Nat) (qs : List (Int × Nat)) : lm_ (i_sw d qs) := fun _ _ _ _ _ _ _ hJ _ _ _ _ => ch_s1 fun _ _ _ => ch_tg (ch_sw (fun _ => hJ _ _ _ _) _ _ _)
theorem lm_getf (t0 : Nat) (f : Int) (t : Nat) : lm_ (i_getf t0 f t) := fun _ _ _ _ _ _ _ _ hK _ _ _ => ch_s1 fun _ _ _ => ch_tg (ch_ck (hK _ _ _))
theorem lm_getr (t0 : Nat) (f : Int) (t : Nat) : lm_ (i_getr t0 f t) := fun _ _ _ _ _ _ _ _ hK _ _ _ => ch_s1 fun _ _ _ => ch_tg (ch_ck (hK _ _ _))
theorem lm_putf (t0 : Nat) (f : Int) (t : Nat) : lm_ (i_putf t0 f t) := fun _ _ _ _ _ _ _ _ hK _ _ _ => ch_s1 fun _ _ _ => ch_s1 fun _ _ _ => ch_tg (ch_tg (ch_ck (hK _ _ _)))
theorem lm_putz (t0 : Nat) (f : Int) : lm_ (i_putz t0 f) := fun _ _ _ _ _ _ _ _ hK _ _ _ => ch_s1 fun _ _ _ => ch_s1 fun _ _ _ => ch_tg (ch_tg (ch_ck (ch_ck (hK _ _ _))))
theorem lm_putr (t0 : Nat) (f : Int) (t : Nat) : lm_ (i_putr t0 f t) := fun _ _ _ _ _ _ _ _ hK _ _ _ => ch_s1 fun _ _ _ => ch_s1 fun _ _ _ => ch_tg (ch_tg (ch_ck (hK _ _ _)))
theorem lm_putn (t0 : Nat) (f : Int) : lm_ (i_putn t0 f) := fun _ _ _ _ _ _ _ _ hK _ _ _ => ch_s1 fun _ _ _ => ch_s1 fun _ _ _ => ch_tg (ch_tg (ch_ck (hK _ _ _)))
theorem lm_ald (t0 t : Nat) : lm_ (i_ald t0 t) := fun _ _ _ _ _ _ _ _ hK _ _ _ => ch_s1 fun _ _ _ => ch_s1 fun _ _ _ => ch_tg (ch_tg (ch_ck (ch_ck (hK _ _ _))))
theorem lm_aldr (t0 t : Nat) : lm_ (i_aldr t0 t) := fun _ _ _ _ _ _ _ _ hK _ _ _ => ch_s1 fun _ _ _ => ch_s1 fun _ _ _ => ch_tg (ch_tg (ch_ck (ch_ck (hK _ _ _))))
theorem lm_ast (t0 t : Nat) : lm_ (i_ast t0 t) := fun _ _ _ _ _ _ _ _ hK _ _ _ => ch_s1 fun _ _ _ => ch_s1 fun _ _ _ => ch_s1 fun _ _ _ => ch_tg (ch_tg (ch_tg (ch_ck (ch_ck (hK _ _ _)))))
theorem lm_bast : lm_ i_bast := fun _ _ _ _ _ _ _ _ hK _ _ _ => ch_s1 fun _ _ _ => ch_s1 fun _ _ _ => ch_s1 fun _ _ _ => ch_tg (ch_tg (ch_tg (ch_ck (ch_ck (hK _ _ _)))))
theorem lm_zast : lm_ i_zast := fun _ _ _ _ _ _ _ _ hK _ _ _ => ch_s1 fun _ _ _ => ch_s1 fun _ _ _ => ch_s1 fun _ _ _ => ch_tg (ch_tg (ch_tg (ch_ck (ch_ck (ch_ck (hK _ _ _))))))
theorem lm_astr (t0 t : Nat) : lm_ (i_astr t0 t) := fun _ _ _ _ _ _ _ _ hK _ _ _ => ch_s1 fun _ _ _ => ch_s1 fun _ _ _ => ch_s1 fun _ _ _ => ch_tg (ch_tg (ch_tg (ch_ck (ch_ck (ch_ck (hK _ _ _))))))
theorem lm_alen (t0 : Nat) : lm_ (i_alen t0) := fun _ _ _ _ _ _ _ _ hK _ _ _ => ch_s1 fun _ _ _ => ch_tg (ch_ck (hK _ _ _))
theorem lm_newa (kind : Nat) : lm_ (i_newa kind) := fun _ _ _ _ _ _ _ _ hK _ _ _ => ch_s1 fun _ _ _ => ch_tg (ch_ck (hK _ _ _))
theorem lm_new (kind : Nat) (n : Int) : lm_ (i_new kind n) := fun _ _ _ _ _ _ _ _ hK _ _ _ => hK _ _ _
theorem lm_tab (t0 : Nat) (q n : Int) (row : List Int) : lm_ (i_tab t0 q n row) := fun _ _ _ _ _ _ _ _ hK _ _ _ => ch_s1 fun _ _ _ => ch_s1 fun _ _ _ => ch_tg (ch_tg (ch_bl (ch_ck (hK _ _ _))))
theorem lm_con (t0 : Nat) (q n : Int) : lm_ (i_con t0 q n) := fun _ _ _ _ _ _ _ _ hK _ _ _ => ch_s1 fun _ _ _ => ch_tg (ch_bl (hK _ _ _))
theorem lm_copy : lm_ i_copy := fun _ _ _ _ _ _ _ _ hK _ _ _ => ch_s1 fun _ _ _ => ch_s1 fun _ _ _ => ch_s1 fun _ _ _ => ch_s1 fun _ _ _ => ch_s1 fun _ _ _ => ch_tg (ch_tg (ch_tg (ch_tg (ch_tg (ch_bl (ch_ck (ch_ck (hK _ _ _))))))))
theorem lm_call (j n : Nat) (sg : List Nat) (rt : Nat) : lm_ (i_call j n sg rt) := fun _ _ _ _ _ _ hC _ hK _ _ _ => ch_tk (fun _ _ => ch_bl (ch_bl (ch_bd (hC _ _ _) fun _ _ => hK _ _ _))) _ _ _
theorem lm_vcall (j n : Nat) (sg : List Nat) (rt : Nat) : lm_ (i_vcall j n sg rt) := fun _ _ _ _ _ _ hC _ hK _ _ _ => ch_tk (fun _ _ => ch_bl (ch_bl (ch_s1 fun _ _ _ => ch_ck (ch_bd (hC _ _ _) fun _ _ => hK _ _ _)))) _ _ _
theorem lm_oini (t0 : Nat) : lm_ (i_oini t0) := fun _ _ _ _ _ _ _ _ hK _ _ _ => ch_s1 fun _ _ _ => ch_tg (ch_bl (ch_ck (hK _ _ _)))
theorem lm_ret (t : Nat) : lm_ (i_ret t) := fun _ _ _ _ _ _ _ _ _ _ _ _ => ch_const _
theorem lm_zret : lm_ i_zret := fun _ _ _ _ _ _ _ _ _ _ _ _ => ch_const _
theorem lm_vret : lm_ i_vret := fun _ _ _ _ _ _ _ _ _ _ _ _ => ch_const _
theorem lm_ex {C : Nat → am_C} {C' : am_C} {J : Nat → am_J} {J' : am_J} (hC : ∀ j as h, ch_ (fun n => C n j as h) (C' j as h)) (hJ : ∀ b ls st h, ch_ (fun n => J n b ls st h) (J' b ls st h)) (fall : Nat) :
    ∀ qs : List (Nat × Instr × Nat × am_I), (∀ q ∈ qs, lm_ q.2.2.2) → ∀ ls st h, ch_ (fun n => ex_ (C n) (J n) fall qs ls st h) (ex_ C' J' fall qs ls st h) := by
  intro qs
  induction qs with
  | nil => intro _ ls st h; exact hJ _ _ _ _
  | cons q qs ih => intro hq ls st h; exact hq q List.mem_cons_self C C' J J' _ _ hC hJ (ih fun z hz => hq z (List.mem_cons_of_mem _ hz)) ls st h
/-- a program all of whose meanings keep chains -/
def lP_ (P : am_P) : Prop := ∀ k b q, bk_ P k b = some q → ∀ i ∈ q.2.1, lm_ i.2.2.2
theorem ch_jm {P : am_P} {r : Nat → Nat → Nat → am_K} {r' : Nat → Nat → am_K} (hr : ∀ k b ls st h, ch_ (fun n => r n k b ls st h) (r' k b ls st h)) (k b : Nat) (ls st : List am_V) (h : am_H) : ch_ (fun n => jm_ P (r n) k b ls st h) (jm_ P r' k b ls st h) := by
  unfold jm_
  cases bk_ P k b with
  | none => exact ch_const none
  | some q => exact hr _ _ _ _ _
theorem ch_cl {P : am_P} {r : Nat → Nat → Nat → am_K} {r' : Nat → Nat → am_K} (hr : ∀ k b ls st h, ch_ (fun n => r n k b ls st h) (r' k b ls st h)) (j : Nat) (as : List am_V) (h : am_H) : ch_ (fun n => cl_ P (r n) j as h) (cl_ P r' j as h) := by
  unfold cl_
  cases P j with
  | none => exact ch_const none
  | some q => exact hr _ _ _ _ _
theorem ch_body {P : am_P} (hP : lP_ P) {r : Nat → Nat → Nat → am_K} {r' : Nat → Nat → am_K} (hr : ∀ k b ls st h, ch_ (fun n => r n k b ls st h) (r' k b ls st h)) (k b : Nat) (ls st : List am_V) (h : am_H) : ch_ (fun n => am_body P (r n) k b ls st h) (am_body P r' k b ls st h) := by
  unfold am_body
  cases hq : bk_ P k b with
  | none => exact ch_const none
  | some q => exact lm_ex (ch_cl hr) (ch_jm hr k) _ _ (hP k b q hq) _ _ _
theorem am_mono {P : am_P} (hP : lP_ P) : ∀ (n : Nat) (k b : Nat) (ls st : List am_V) (h : am_H) (r : am_H × Int), am_run P n k b ls st h = some r → am_run P (n + 1) k b ls st h = some r := by
  intro n
  induction n with
  | zero => intro k b ls st h r q; cases q
  | succ n ih =>
    intro k b ls st h r q
    have hr : ∀ k b ls st h, ch_ (fun i => (match i with | 0 => am_run P n | _ + 1 => am_run P (n + 1) : Nat → Nat → am_K) k b ls st h) (am_run P (n + 1) k b ls st h) := by
      intro k b ls st h
      refine ⟨fun i r q => ?_, fun r => ⟨fun q => ⟨1, q⟩, fun ⟨i, q⟩ => ?_⟩⟩
      · cases i with
        | zero => exact ih k b ls st h r q
        | succ i => exact q
      · cases i with
        | zero => exact ih k b ls st h r q
        | succ i => exact q
    exact (ch_body hP hr k b ls st h).1 0 r q
theorem am_Rch {P : am_P} (hP : lP_ P) (k b : Nat) (ls st : List am_V) (h : am_H) : ch_ (fun n => am_run P n k b ls st h) (am_R P k b ls st h) := by
  refine ⟨fun n r q => am_mono hP n k b ls st h r q, fun r => ?_⟩
  have up : ∀ n m r, n ≤ m → am_run P n k b ls st h = some r → am_run P m k b ls st h = some r := by
    intro n m r hnm
    induction m with
    | zero =>
      intro q
      have : n = 0 := by omega
      subst this; exact q
    | succ m ih =>
      intro q
      rcases Nat.lt_or_ge m n with z | z
      · have : n = m + 1 := by omega
        subst this; exact q
      · exact am_mono hP m k b ls st h r (ih z q)
  unfold am_R
  split
  · rename_i q
    obtain ⟨n1, h1⟩ := Classical.choose_spec q
    constructor
    · intro z
      cases z
      exact ⟨n1, h1⟩
    · intro ⟨n2, h2⟩
      have e1 := up n1 (max n1 n2) _ (Nat.le_max_left _ _) h1
      have e2 := up n2 (max n1 n2) _ (Nat.le_max_right _ _) h2
      rw [e1] at e2
      exact e2
  · rename_i q
    exact ⟨fun z => (by cases z), fun ⟨n, z⟩ => absurd ⟨r, n, z⟩ q⟩
theorem am_some {P : am_P} (hP : lP_ P) {k b : Nat} {ls st : List am_V} {h : am_H} {r : am_H × Int} : am_R P k b ls st h = some r ↔ ∃ n, am_run P n k b ls st h = some r := (am_Rch hP k b ls st h).2 r
theorem am_fix {P : am_P} (hP : lP_ P) (k b : Nat) (ls st : List am_V) (h : am_H) : am_R P k b ls st h = am_body P (am_R P) k b ls st h := by
  have e : ∀ r, am_R P k b ls st h = some r ↔ am_body P (am_R P) k b ls st h = some r := by
    intro r
    rw [am_some hP, (ch_body hP (am_Rch hP) k b ls st h).2 r]
    constructor
    · intro ⟨n, q⟩
      cases n with
      | zero => cases q
      | succ n => exact ⟨n, q⟩
    · intro ⟨n, q⟩
      exact ⟨n + 1, q⟩
  cases h1 : am_R P k b ls st h with
  | some r => exact ((e r).mp h1).symm
  | none =>
    cases h2 : am_body P (am_R P) k b ls st h with
    | none => rfl
    | some r => rw [(e r).mpr h2] at h1; cases h1
/-- a block laid out, its jumps to blocks that are not in 'stop' laid out as well, at most d times -/
noncomputable def un_ (P : am_P) (stop : List Nat) (k : Nat) : Nat → Nat → am_K
  | 0, b => am_R P k b
  | d + 1, b => fun ls st h => match bk_ P k b with
    | some q => ex_ (cl_ P (am_R P)) (jm_ P (fun _ b => bif stop.elem b then am_R P k b else un_ P stop k d b) k) q.2.2 q.2.1 ls st h
    | none => none
theorem un_eq {P : am_P} (hP : lP_ P) (stop : List Nat) (k : Nat) : ∀ (d b : Nat) (ls st : List am_V) (h : am_H), un_ P stop k d b ls st h = am_R P k b ls st h := by
  intro d
  induction d with
  | zero => intro b ls st h; rfl
  | succ d ih =>
    intro b ls st h
    rw [am_fix hP]
    have e : (fun (_ b : Nat) => bif stop.elem b then am_R P k b else un_ P stop k d b) = (fun (_ b : Nat) => am_R P k b) := by
      funext _ b ls st h
      cases stop.elem b
      · exact ih b ls st h
      · rfl
    unfold un_ am_body
    rw [e]
    rfl
