/-! rows for walking the equations -/
theorem ck_t {p : Prop} [Decidable p] {x : am_O} (h : p) : ck_ p x = x := if_pos h
theorem w32_i {x : Int} (h1 : -2147483648 ≤ x) (h2 : x < 2147483648) : w32 x = x := w32_id ⟨h1, h2⟩
theorem w64_i {x : Int} (h1 : -9223372036854775808 ≤ x) (h2 : x < 9223372036854775808) : w64 x = x := w64_id ⟨h1, h2⟩
theorem w32_lo (x : Int) : -2147483648 ≤ w32 x := (w32_in x).1
theorem w32_hi (x : Int) : w32 x < 2147483648 := (w32_in x).2
theorem bd_v (h : am_H) (v : Int) (f : am_H → Int → am_O) : bd_ (some (h, v)) f = f h v := rfl
theorem rd_wr (h : am_H) (a k v b j : Int) : rd_ (wr_ h a k v) b j = if b = a ∧ j = k then v else rd_ h b j := rfl
theorem rd_wo {h : am_H} {a k v b j : Int} (n : b ≠ a) : rd_ (wr_ h a k v) b j = rd_ h b j := if_neg fun q => n q.1
theorem rd_wk {h : am_H} {a k v j : Int} (n : j ≠ k) : rd_ (wr_ h a k v) a j = rd_ h a j := if_neg fun q => n q.2
theorem rd_ws (h : am_H) (a k v : Int) : rd_ (wr_ h a k v) a k = v := if_pos ⟨rfl, rfl⟩
theorem rd_wa (h : am_H) (a k v j : Int) : rd_ (wr_ h a k v) a j = if j = k then v else rd_ h a j := by
  by_cases q : j = k
  · rw [if_pos q, q, rd_ws]
  · rw [if_neg q, rd_wk q]
theorem rd_cp (h : am_H) (s sp d dp n b j : Int) : rd_ (cp_ h s sp d dp n) b j = if b = d ∧ dp ≤ j ∧ j < dp + n then rd_ h s (sp + (j - dp)) else rd_ h b j := rfl
theorem rf_wf (h : am_H) (a k v b j : Int) : rf_ (wf_ h a k v) b j = if b = a ∧ j = k then v else rf_ h b j := rfl
theorem so_eq {h h' : am_H} {v v' : Int} (e1 : h = h') (e2 : v = v') : (some (h, v) : am_O) = some (h', v') := by rw [e1, e2]
theorem so_v {h : am_H} {v v' : Int} (e2 : v = v') : (some (h, v) : am_O) = some (h, v') := by rw [e2]
/-- numbers alone have changed, at cells of A alone -/
def fr_ (h h' : am_H) (A : Int → Prop) : Prop := h'.2 = h.2 ∧ ∀ a, ¬ A a → ∀ k, rd_ h' a k = rd_ h a k
theorem fr_refl (h : am_H) (A : Int → Prop) : fr_ h h A := ⟨rfl, fun _ _ _ => rfl⟩
theorem fr_wr {h : am_H} {a k v : Int} {A : Int → Prop} (ha : A a) : fr_ h (wr_ h a k v) A := ⟨rfl, fun b hb _ => rd_wo fun e => hb (e ▸ ha)⟩
theorem fr_cp {h : am_H} {s sp d dp n : Int} {A : Int → Prop} (ha : A d) : fr_ h (cp_ h s sp d dp n) A := ⟨rfl, fun b hb k => by
  rw [rd_cp]
  exact if_neg (fun (q : b = d ∧ _) => hb (q.1 ▸ ha))⟩
theorem fr_tr {h h1 h2 : am_H} {A : Int → Prop} (x : fr_ h h1 A) (y : fr_ h1 h2 A) : fr_ h h2 A := ⟨y.1.trans x.1, fun a ha k => (y.2 a ha k).trans (x.2 a ha k)⟩
theorem fr_mo {h h1 : am_H} {A B : Int → Prop} (x : fr_ h h1 A) (y : ∀ a, A a → B a) : fr_ h h1 B := ⟨x.1, fun a ha k => x.2 a (fun q => ha (y a q)) k⟩
theorem fr_rf {h h1 : am_H} {A : Int → Prop} (x : fr_ h h1 A) (a k : Int) : rf_ h1 a k = rf_ h a k := by unfold rf_; rw [x.1]
theorem fr_ln {h h1 : am_H} {A : Int → Prop} (x : fr_ h h1 A) (a : Int) : ln_ h1 a = ln_ h a := by unfold ln_; rw [x.1]
theorem fr_nn {h h1 : am_H} {A : Int → Prop} (x : fr_ h h1 A) : nn_ h1 = nn_ h := by unfold nn_; rw [x.1]
theorem fr_ss {h h1 : am_H} {A : Int → Prop} (x : fr_ h h1 A) : ss_ h1 = ss_ h := by unfold ss_; rw [x.1]
theorem fr_kd {h h1 : am_H} {A : Int → Prop} (x : fr_ h h1 A) (a : Int) : kd_ h1 a = kd_ h a := by unfold kd_; rw [x.1]
/-- a row of steps: what a loop's gathered values come to -/
def it_ {α : Type} (f : Nat → α → α) (a : α) : Nat → α
  | 0 => a
  | n + 1 => f n (it_ f a n)
theorem it_loop {α : Type} {L : α → Nat → am_O} {f : Nat → α → α} {n : Nat} {I : Nat → α → Prop} (hs : ∀ i a, i < n → I i a → L a i = L (f i a) (i + 1) ∧ I (i + 1) (f i a)) :
    ∀ j i a, i + j = n → I i (it_ f a i) → L (it_ f a i) i = L (it_ f a n) n ∧ I n (it_ f a n) := by
  intro j
  induction j with
  | zero => intro i a hi h; have : i = n := by omega
            subst this; exact ⟨rfl, h⟩
  | succ j ih =>
    intro i a hi h
    have q := hs i (it_ f a i) (by omega) h
    have z := ih (i + 1) a (by omega) q.2
    exact ⟨q.1.trans z.1, z.2⟩
theorem it_lp {α : Type} {L : α → Nat → am_O} {f : Nat → α → α} {n : Nat} {I : Nat → α → Prop} {a : α} (hs : ∀ i a, i < n → I i a → L a i = L (f i a) (i + 1) ∧ I (i + 1) (f i a)) (h0 : I 0 a) : L a 0 = L (it_ f a n) n :=
  (it_loop hs n 0 a (by omega) h0).1
theorem it_lq {α : Type} {L : α → Nat → am_O} {f : Nat → α → α} {n : Nat} {a : α} (hs : ∀ i a, i < n → L a i = L (f i a) (i + 1)) : L a 0 = L (it_ f a n) n :=
  it_lp (I := fun _ _ => True) (fun i a hi _ => ⟨hs i a hi, trivial⟩) trivial
/-- a fold from k on, n steps; whether all; the first -/
def fo_ {α : Type} (f : Int → α → α) : Nat → Int → α → α
  | 0, _, a => a
  | n + 1, k, a => fo_ f n (k + 1) (f k a)
def av_ (P : Int → Bool) : Nat → Int → Bool
  | 0, _ => true
  | n + 1, k => P k && av_ P n (k + 1)
def fi_ (P : Int → Bool) (d : Int) : Nat → Int → Int
  | 0, _ => d
  | n + 1, k => if P k then k else fi_ P d n (k + 1)
theorem fo_lp {α : Type} {L : α → Int → am_O} {f : Int → α → α} {I : Int → α → Prop} {N : Int} (hs : ∀ k a, k < N → I k a → L a k = L (f k a) (k + 1) ∧ I (k + 1) (f k a)) :
    ∀ (n : Nat) k a, k + n = N → I k a → L a k = L (fo_ f n k a) N ∧ I N (fo_ f n k a) := by
  intro n
  induction n with
  | zero =>
    intro k a hk hi
    have e : k = N := by omega
    subst e
    exact ⟨rfl, hi⟩
  | succ n ih =>
    intro k a hk hi
    have q := hs k a (by omega) hi
    have z := ih (k + 1) (f k a) (by omega) q.2
    exact ⟨q.1.trans z.1, z.2⟩
theorem fo_l0 {α : Type} {L : α → Int → am_O} {f : Int → α → α} {I : Int → α → Prop} {N : Int} {a : α} (h0 : 0 ≤ N) (hs : ∀ k a, k < N → I k a → L a k = L (f k a) (k + 1) ∧ I (k + 1) (f k a)) (hi : I 0 a) : L a 0 = L (fo_ f N.toNat 0 a) N :=
  (fo_lp hs N.toNat 0 a (by omega) hi).1
theorem fo_in {α : Type} {f : Int → α → α} {I : Int → α → Prop} {N : Int} (hs : ∀ k a, k < N → I k a → I (k + 1) (f k a)) : ∀ (n : Nat) k a, k + n = N → I k a → I N (fo_ f n k a) := by
  intro n
  induction n with
  | zero =>
    intro k a hk hi
    have e : k = N := by omega
    subst e
    exact hi
  | succ n ih =>
    intro k a hk hi
    exact ih (k + 1) (f k a) (by omega) (hs k a (by omega) hi)
theorem av_lp {L : Int → am_O} {P : Int → Bool} {yes no : am_O} {N k0 : Int} (hs : ∀ k, k0 ≤ k → k < N → L k = if P k then L (k + 1) else no) (hf : L N = yes) :
    ∀ (n : Nat) k, k + n = N → k0 ≤ k → L k = if av_ P n k then yes else no := by
  intro n
  induction n with
  | zero =>
    intro k hk _
    have e : k = N := by omega
    subst e
    exact hf
  | succ n ih =>
    intro k hk h0
    rw [hs k h0 (by omega)]
    unfold av_
    cases P k
    · rfl
    · exact ih (k + 1) (by omega) (by omega)
theorem fi_lp {L : Int → am_O} {P : Int → Bool} {R : Int → am_O} {N k0 d : Int} (hs : ∀ k, k0 ≤ k → k < N → L k = if P k then R k else L (k + 1)) (hf : L N = R d) :
    ∀ (n : Nat) k, k + n = N → k0 ≤ k → L k = R (fi_ P d n k) := by
  intro n
  induction n with
  | zero =>
    intro k hk _
    have e : k = N := by omega
    subst e
    exact hf
  | succ n ih =>
    intro k hk h0
    rw [hs k h0 (by omega)]
    unfold fi_
    cases P k
    · exact ih (k + 1) (by omega) (by omega)
    · rfl
/-- true and false as numbers -/
def bz (b : Bool) : Int := if b then 1 else 0
theorem bz_t : bz true = 1 := rfl
theorem bz_f : bz false = 0 := rfl
theorem bz_so (h : am_H) (b : Bool) : (if b then some (h, 1) else some (h, 0) : am_O) = some (h, bz b) := by cases b <;> rfl
