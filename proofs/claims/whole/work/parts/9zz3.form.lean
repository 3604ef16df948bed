/-! a formula, pure: what waits (the last first), knots put down -/
def fsr_ (k : Int) : Int := if k = 20 then 1 else if k = 21 then 2 else if k = 22 then 3 else if 30 ≤ k ∧ k ≤ 35 then 4 else if k = 36 ∨ k = 37 then 5 else if k = 38 ∨ k = 39 then 6 else 0
abbrev fS_ : Type := List Int × Int × Int × (Int → Int) × Int × Int × Int
def ku_ (K : Int → Int) (o w : Int) : Int → Int := fun j => if j = o then w else K j
def pd_ (m : Int) : List Int → (Int → Int) → Int → List Int × (Int → Int) × Int
  | [], K, o => ([], K, o)
  | w :: r, K, o => if fsr_ w < m then (w :: r, K, o) else pd_ m r (ku_ K o w) (o + 1)
theorem pd_c (m w : Int) (r : List Int) (K : Int → Int) (o : Int) : pd_ m (w :: r) K o = if fsr_ w < m then (w :: r, K, o) else pd_ m r (ku_ K o w) (o + 1) := rfl
/-- a part, a joint: the fault, what stands behind it -/
def tpt_ (k v : Int) (ws : List Int) (op tk : Int) (K : Int → Int) (o mn : Int) : Int × fS_ :=
  if k = 40 then (if op < 8 then (0, (40 :: ws, op + 1, tk, K, o, 1, 1)) else (2, (ws, op, tk, K, o, 1, mn)))
  else if k = 2 ∨ (23 ≤ k ∧ k ≤ 29) then (if 64 ≤ tk ∨ (k = 2 ∧ 9999 < v) then (2, (ws, op, tk, K, o, 1, mn)) else (0, (ws, op, tk + 1, ku_ K o (if k = 2 then -1 - v else k), o + 1, 0, mn)))
  else if k = 22 ∧ mn ≠ 0 then (if 64 ≤ tk then (2, (ws, op, tk, K, o, 1, mn)) else (0, (22 :: ws, op, tk + 1, K, o, 1, mn)))
  else (1, (ws, op, tk, K, o, 1, mn))
def lst_ (k : Int) : Int := if fsr_ k = 4 then 5 else fsr_ k
def tjt_ (k : Int) (ws : List Int) (op tk : Int) (K : Int → Int) (o mn : Int) : Int × fS_ :=
  if k = 41 ∧ 0 < op then (0, ((pd_ 1 ws K o).1.tail, op - 1, tk, (pd_ 1 ws K o).2.1, (pd_ 1 ws K o).2.2, 0, mn))
  else if fsr_ k = 0 ∨ k = 22 then (1, (ws, op, tk, K, o, 0, mn))
  else if fsr_ k = 4 ∧ fsr_ ((pd_ (lst_ k) ws K o).1.headD 0) = 4 then (1, (ws, op, tk, K, o, 0, mn))
  else if 64 ≤ tk then (2, (ws, op, tk, K, o, 0, mn))
  else (0, (k :: (pd_ (lst_ k) ws K o).1, op, tk + 1, (pd_ (lst_ k) ws K o).2.1, (pd_ (lst_ k) ws K o).2.2, 1, if k = 20 ∨ k = 21 then 1 else 0))
def fmt_ (k v : Int) (S : fS_) : Int × fS_ := if S.2.2.2.2.2.1 = 0 then tjt_ k S.1 S.2.1 S.2.2.1 S.2.2.2.1 S.2.2.2.2.1 S.2.2.2.2.2.2 else tpt_ k v S.1 S.2.1 S.2.2.1 S.2.2.2.1 S.2.2.2.2.1 S.2.2.2.2.2.2
/-- all of it: fault, place, where the next token may begin, knots, how many -/
def fml_ (B : Int → Int) (n : Int) : Nat → Int → fS_ → Int × Int × Int × (Int → Int) × Int
  | 0, p, S => (1, tp_ B n p, 0, S.2.2.2.1, S.2.2.2.2.1)
  | f + 1, p, S => if S.2.2.2.2.2.1 = 0 ∧ S.2.1 = 0 ∧ tk_k B n p = 42 then (0, 0, tk_n B n p, (pd_ 1 S.1 S.2.2.2.1 S.2.2.2.2.1).2.1, (pd_ 1 S.1 S.2.2.2.1 S.2.2.2.2.1).2.2)
    else if (fmt_ (tk_k B n p) (tk_v B n p) S).1 ≠ 0 then ((fmt_ (tk_k B n p) (tk_v B n p) S).1, tp_ B n p, 0, S.2.2.2.1, S.2.2.2.2.1) else fml_ B n f (tk_n B n p) (fmt_ (tk_k B n p) (tk_v B n p) S).2
theorem fml_s (B : Int → Int) (n : Int) (f : Nat) (p : Int) (S : fS_) : fml_ B n (f + 1) p S = if S.2.2.2.2.2.1 = 0 ∧ S.2.1 = 0 ∧ tk_k B n p = 42 then (0, 0, tk_n B n p, (pd_ 1 S.1 S.2.2.2.1 S.2.2.2.2.1).2.1, (pd_ 1 S.1 S.2.2.2.1 S.2.2.2.2.1).2.2)
    else if (fmt_ (tk_k B n p) (tk_v B n p) S).1 ≠ 0 then ((fmt_ (tk_k B n p) (tk_v B n p) S).1, tp_ B n p, 0, S.2.2.2.1, S.2.2.2.2.1) else fml_ B n f (tk_n B n p) (fmt_ (tk_k B n p) (tk_v B n p) S).2 := rfl
/-! counts: brackets, others, joints of two -/
def bkt_ : List Int → Int
  | [] => 0
  | w :: r => (if w = 40 then 1 else 0) + bkt_ r
def nb_ : List Int → Int
  | [] => 0
  | w :: r => (if w = 40 then 0 else 1) + nb_ r
def bj_ : List Int → Int
  | [] => 0
  | w :: r => (if w = 40 ∨ w = 22 then 0 else 1) + bj_ r
def wok_ : List Int → Prop
  | [] => True
  | w :: r => (w = 40 ∨ w = 20 ∨ w = 21 ∨ w = 22 ∨ (30 ≤ w ∧ w ≤ 39)) ∧ wok_ r
theorem bkt_c (w : Int) (r : List Int) : bkt_ (w :: r) = (if w = 40 then 1 else 0) + bkt_ r := rfl
theorem nb_c (w : Int) (r : List Int) : nb_ (w :: r) = (if w = 40 then 0 else 1) + nb_ r := rfl
theorem bj_c (w : Int) (r : List Int) : bj_ (w :: r) = (if w = 40 ∨ w = 22 then 0 else 1) + bj_ r := rfl
theorem ct_v : ∀ ws : List Int, 0 ≤ bkt_ ws ∧ 0 ≤ nb_ ws ∧ 0 ≤ bj_ ws ∧ bj_ ws ≤ nb_ ws ∧ (ws.length : Int) = bkt_ ws + nb_ ws := by
  intro ws
  induction ws with
  | nil => exact ⟨Int.le_refl _, Int.le_refl _, Int.le_refl _, Int.le_refl _, rfl⟩
  | cons w r ih =>
    have e : ((w :: r).length : Int) = (r.length : Int) + 1 := by simp
    rw [bkt_c, nb_c, bj_c, e]
    by_cases q : w = 40
    · rw [if_pos q, if_pos q, if_pos (Or.inl q)]; omega
    · rw [if_neg q, if_neg q]
      by_cases z : w = 22
      · rw [if_pos (Or.inr z)]; omega
      · rw [if_neg (by omega)]; omega
theorem fsr_40 : fsr_ 40 = 0 := by decide
theorem fsr_v (k : Int) : 0 ≤ fsr_ k ∧ fsr_ k ≤ 6 := by
  unfold fsr_
  repeat' split
  all_goals omega
theorem fsr_0 {k : Int} (h : fsr_ k ≠ 0) : k = 20 ∨ k = 21 ∨ k = 22 ∨ (30 ≤ k ∧ k ≤ 39) := by
  unfold fsr_ at h
  repeat' split at h
  all_goals omega
theorem fsr_1 {k : Int} (h : k = 20 ∨ k = 21 ∨ k = 22 ∨ (30 ≤ k ∧ k ≤ 39)) : 1 ≤ fsr_ k := by
  unfold fsr_
  repeat' split
  all_goals omega
theorem lst_1 {k : Int} (h : fsr_ k ≠ 0) : 1 ≤ lst_ k := by
  have := fsr_v k
  unfold lst_
  split <;> omega
/-! how many values stand behind some knots -/
def stp_ (k : Int) (d e : Nat) : Prop := (k < 0 ∧ -10000 ≤ k ∧ e = d + 1) ∨ (k = 22 ∧ 1 ≤ d ∧ e = d) ∨ (23 ≤ k ∧ k ≤ 29 ∧ e = d + 1) ∨ ((k = 20 ∨ k = 21 ∨ (30 ≤ k ∧ k ≤ 39)) ∧ 2 ≤ d ∧ e + 1 = d)
def lkq (K : Int → Int) : Nat → Int → Nat → Nat → Prop
  | 0, _, d, e => d = e
  | n + 1, i, d, e => ∃ x, stp_ (K i) d x ∧ lkq K n (i + 1) x e
theorem lkq_sn {K : Int → Int} {e e' : Nat} : ∀ (n : Nat) (i : Int) (d : Nat), lkq K n i d e → stp_ (K (i + n)) e e' → lkq K (n + 1) i d e' := by
  intro n
  induction n with
  | zero =>
    intro i d a b
    have a' : d = e := a
    rw [show i + ((0 : Nat) : Int) = i by omega] at b
    exact ⟨e', by rw [a']; exact b, rfl⟩
  | succ n ih =>
    intro i d a b
    obtain ⟨x, a1, a2⟩ := a
    exact ⟨x, a1, ih (i + 1) x a2 (by rw [show i + 1 + (n : Int) = i + ((n + 1 : Nat) : Int) by omega]; exact b)⟩
theorem lkq_cg {K K' : Int → Int} {e : Nat} : ∀ (n : Nat) (i : Int) (d : Nat), lkq K n i d e → (∀ j, i ≤ j → j < i + n → K' j = K j) → lkq K' n i d e := by
  intro n
  induction n with
  | zero => intro i d a _; exact a
  | succ n ih =>
    intro i d a g
    obtain ⟨x, a1, a2⟩ := a
    exact ⟨x, by rw [g i (by omega) (by omega)]; exact a1, ih (i + 1) x a2 (fun j p q => g j (by omega) (by omega))⟩
theorem lkq_lok {K : Int → Int} : ∀ (n : Nat) (i : Int) (d : Nat), lkq K n i d 1 → lok K n i d := by
  intro n
  induction n with
  | zero => intro i d a; exact a
  | succ n ih =>
    intro i d a
    obtain ⟨x, a1, a2⟩ := a
    have z := ih (i + 1) x a2
    show if K i < 0 then -10000 ≤ K i ∧ lok K n (i + 1) (d + 1) else if K i = 22 then 1 ≤ d ∧ lok K n (i + 1) d else if 23 ≤ K i ∧ K i ≤ 29 then lok K n (i + 1) (d + 1) else (20 ≤ K i ∧ K i ≤ 39) ∧ 2 ≤ d ∧ lok K n (i + 1) (d - 1)
    rcases a1 with ⟨b1, b2, b3⟩ | ⟨b1, b2, b3⟩ | ⟨b1, b2, b3⟩ | ⟨b1, b2, b3⟩
    · rw [if_pos b1]; rw [b3] at z; exact ⟨b2, z⟩
    · rw [if_neg (by omega), if_pos b1]; rw [b3] at z; exact ⟨b2, z⟩
    · rw [if_neg (by omega), if_neg (by omega), if_pos ⟨b1, b2⟩]; rw [b3] at z; exact z
    · rw [if_neg (by omega), if_neg (by omega), if_neg (by omega)]
      have ex : x = d - 1 := by omega
      rw [ex] at z
      exact ⟨by omega, b2, z⟩
theorem hp1_len {k i : Int} {s : List Int} {d e : Nat} (a : stp_ k d e) (l : s.length = d) : (hp1 k i s).length = e := by
  unfold hp1
  rcases a with ⟨b1, b2, b3⟩ | ⟨b1, b2, b3⟩ | ⟨b1, b2, b3⟩ | ⟨b1, b2, b3⟩
  · rw [if_pos b1]; simp; omega
  · rw [if_neg (by omega), if_pos b1]; simp; omega
  · rw [if_neg (by omega), if_neg (by omega), if_pos ⟨b1, b2⟩]; simp; omega
  · rw [if_neg (by omega), if_neg (by omega), if_neg (by omega)]; simp; omega
theorem hpn_len {K : Int → Int} {e : Nat} : ∀ (n : Nat) (i : Int) (d : Nat) (s : List Int), lkq K n i d e → s.length = d → (hpn K n i s).length = e := by
  intro n
  induction n with
  | zero =>
    intro i d s a l
    have a' : d = e := a
    show s.length = e
    omega
  | succ n ih =>
    intro i d s a l
    obtain ⟨x, a1, a2⟩ := a
    exact ih (i + 1) x (hp1 (K i) i s) a2 (hp1_len a1 l)
theorem hpn_cg {K K' : Int → Int} : ∀ (n : Nat) (i : Int) (s : List Int), (∀ j, i ≤ j → j < i + n → K' j = K j) → hpn K' n i s = hpn K n i s := by
  intro n
  induction n with
  | zero => intro i s _; rfl
  | succ n ih =>
    intro i s g
    show hpn K' n (i + 1) (hp1 (K' i) i s) = hpn K n (i + 1) (hp1 (K i) i s)
    rw [g i (by omega) (by omega)]
    exact ih (i + 1) _ (fun j p q => g j (by omega) (by omega))
/-! a number's value -/
theorem nuv_v {B : Int → Int} : ∀ (f : Nat) (k v : Int), 0 ≤ v → v ≤ 1000000 → 0 ≤ nuv_ B f k v ∧ nuv_ B f k v ≤ 1000000 := by
  intro f
  induction f with
  | zero => intro k v a b; exact ⟨a, b⟩
  | succ f ih =>
    intro k v a b
    have e : nuv_ B (f + 1) k v = if isD B k then nuv_ B f (k + 1) (if (1000000 : Int) < w32 (w32 (w32 (v * 10) + B k) - 48) then 1000000 else w32 (w32 (w32 (v * 10) + B k) - 48)) else v := rfl
    rw [e]
    cases d : isD B k with
    | false => rw [if_neg (by simp)]; exact ⟨a, b⟩
    | true =>
      have q := isD_t.mp d
      rw [if_pos rfl, w32_i (x := v * 10) (by omega) (by omega), w32_i (x := v * 10 + B k) (by omega) (by omega), w32_i (x := v * 10 + B k - 48) (by omega) (by omega)]
      by_cases z : (1000000 : Int) < v * 10 + B k - 48
      · rw [if_pos z]; exact ih _ _ (by omega) (by omega)
      · rw [if_neg z]; exact ih _ _ (by omega) (by omega)
theorem sn_k2 (B : Int → Int) (n s : Int) : (sn_k B n s).1 ≠ 2 := by
  have g : ∀ x, sg_k x ≠ 2 := fun x => by
    unfold sg_k
    repeat' split
    all_goals omega
  have := g (B s)
  unfold sn_k
  repeat' split
  all_goals (try dsimp only)
  all_goals omega
theorem tk_v2 {B : Int → Int} {n p : Int} (k : tk_k B n p = 2) : 0 ≤ tk_v B n p ∧ tk_v B n p ≤ 1000000 := by
  unfold tk_k at k
  unfold tk_v
  by_cases q : n ≤ tp_ B n p
  · rw [if_pos q] at k; omega
  · rw [if_neg q] at k ⊢
    cases l : isL B (tp_ B n p) with
    | true =>
      rw [l, if_pos rfl] at k
      unfold wd_k at k
      repeat' split at k
      all_goals omega
    | false =>
      rw [l, if_neg (by simp)] at k
      rw [if_neg (by simp)]
      cases d : isD B (tp_ B n p) with
      | true => rw [if_pos rfl]; exact nuv_v _ _ _ (by omega) (by omega)
      | false =>
        rw [d, if_neg (by simp)] at k
        exact absurd k (sn_k2 B n _)
