/-! what holds of a text behind a line -/
theorem nm_v {B : Int → Int} {n p lo hi : Int} (e : nm_f B n p lo hi = 0) : lo ≤ tk_v B n p ∧ tk_v B n p ≤ hi := by
  unfold nm_f at e
  repeat' split at e
  all_goals omega
theorem tn_v {B : Int → Int} {n p N : Int} {P : Int → Int} (e : tn_f B n p P N = 0) : 0 ≤ fx_ P (tk_v B n p) N.toNat 0 ∧ fx_ P (tk_v B n p) N.toNat 0 < N := by
  have fv := fx_v (P := P) (c := tk_v B n p) N.toNat 0
  unfold tn_f at e
  repeat' split at e
  all_goals (rcases fv with ⟨u, _⟩ | ⟨u, v, _⟩ <;> omega)
theorem smE_v {B : Int → Int} {n p c s : Int} {T : Tx} (e : (smE_ B n p T c s).1 = 0) : smE_ B n p T c s = (0, 0, tk_n B n p, T, c, s) := by
  unfold smE_ at *
  by_cases q : sc_f B n p = 0
  · rw [if_neg (fun z => z q)]
  · rw [if_pos q] at e
    exact absurd e q
theorem LV_of {T T' : Tx} (v : LV T) (a : T' 12 = T 12) (b : T' 13 = T 13) (d : T' 14 = T 14) (e : T' 0 4 = T 0 4) : LV T' := by
  unfold LV at *
  rw [a, b, d, e]
  exact v
theorem lok_cg {K K' : Int → Int} : ∀ (n : Nat) (i : Int) (d : Nat), lok K n i d → (∀ j, i ≤ j → j < i + n → K' j = K j) → lok K' n i d := by
  intro n
  induction n with
  | zero => intro i d a _; exact a
  | succ n ih =>
    intro i d a g
    have gi := g i (by omega) (by omega)
    have gr : ∀ j, i + 1 ≤ j → j < i + 1 + n → K' j = K j := fun j x y => g j (by omega) (by omega)
    have a' : if K i < 0 then -10000 ≤ K i ∧ lok K n (i + 1) (d + 1) else if K i = 22 then 1 ≤ d ∧ lok K n (i + 1) d else if 23 ≤ K i ∧ K i ≤ 29 then lok K n (i + 1) (d + 1) else (20 ≤ K i ∧ K i ≤ 39) ∧ 2 ≤ d ∧ lok K n (i + 1) (d - 1) := a
    show if K' i < 0 then -10000 ≤ K' i ∧ lok K' n (i + 1) (d + 1) else if K' i = 22 then 1 ≤ d ∧ lok K' n (i + 1) d else if 23 ≤ K' i ∧ K' i ≤ 29 then lok K' n (i + 1) (d + 1) else (20 ≤ K' i ∧ K' i ≤ 39) ∧ 2 ≤ d ∧ lok K' n (i + 1) (d - 1)
    rw [gi]
    by_cases q1 : K i < 0
    · rw [if_pos q1] at a' ⊢
      exact ⟨a'.1, ih _ _ a'.2 gr⟩
    · rw [if_neg q1] at a' ⊢
      by_cases q2 : K i = 22
      · rw [if_pos q2] at a' ⊢
        exact ⟨a'.1, ih _ _ a'.2 gr⟩
      · rw [if_neg q2] at a' ⊢
        by_cases q3 : 23 ≤ K i ∧ K i ≤ 29
        · rw [if_pos q3] at a' ⊢
          exact ih _ _ a' gr
        · rw [if_neg q3] at a' ⊢
          exact ⟨a'.1, a'.2.1, ih _ _ a'.2.2 gr⟩
def lnV_ (n p : Int) (T : Tx) (R : lRs_) : Prop := R.1 = 0 → WVt R.2.2.2.1 ∧ TV R.2.2.2.1 ∧ R.2.2.2.1 0 7 = T 0 7 ∧ p ≤ R.2.2.1 ∧ R.2.2.1 ≤ n
theorem lnV_f {n p f x y c s : Int} {T T' : Tx} (q : f ≠ 0) : lnV_ n p T (f, x, y, T', c, s) := fun z => absurd z q
section
variable {B : Int → Int} {n c s : Int} {T : Tx}
theorem lnV_s {p p0 : Int} {T' : Tx} (w : WVt T') (v : TV T') (e : T' 0 7 = T 0 7) (a : p0 ≤ p) (b : p ≤ n) : lnV_ n p0 T (smE_ B n p T' c s) := by
  intro z
  rw [smE_v z]
  have := tk_nv (B := B) (n := n) (p := p) b
  exact ⟨w, v, e, by show p0 ≤ tk_n B n p; omega, by show tk_n B n p ≤ n; omega⟩
theorem TV_maid {v x : Int} (t : TV T) (x0 : 0 ≤ x) (x1 : x ≤ 9) : TV (mdT_ T v x) := by
  have u0 : ∀ k, k ≠ 0 → mdT_ T v x 0 k = T 0 k := fun k q => by unfold mdT_; rw [up_s, if_neg q, up_o _ _ _ (by decide), up_o _ _ _ (by decide)]
  have u00 : mdT_ T v x 0 0 = T 0 0 + 1 := by unfold mdT_; rw [up_s, if_pos rfl]
  have u2 : ∀ j, mdT_ T v x 2 j = if j = T 0 0 then x else T 2 j := fun j => by unfold mdT_; rw [up_o _ _ _ (by decide), up_s, up_o _ _ _ (by decide)]
  have uf : ∀ f : Nat, f ≠ 0 → f ≠ 1 → f ≠ 2 → mdT_ T v x f = T f := fun f a b d => by unfold mdT_; rw [up_o _ _ _ a, up_o _ _ _ d, up_o _ _ _ b]
  obtain ⟨a1, a2, a3, a4⟩ := t
  refine ⟨by rw [u0 3 (by omega), u0 4 (by omega), u0 5 (by omega), u0 6 (by omega), u0 7 (by omega)]; exact a1, fun j j0 j1 => ?_, fun j j0 j1 => ?_, LV_of a4 (uf _ (by decide) (by decide) (by decide)) (uf _ (by decide) (by decide) (by decide)) (uf _ (by decide) (by decide) (by decide)) (u0 4 (by omega))⟩
  · rw [u00] at j1
    rw [u2]
    by_cases q : j = T 0 0
    · rw [if_pos q]; exact ⟨x0, x1⟩
    · rw [if_neg q]; exact a2 j j0 (by omega)
  · rw [u0 3 (by omega)] at j1
    rw [u00, u0 1 (by omega), uf 8 (by decide) (by decide) (by decide), uf 9 (by decide) (by decide) (by decide), uf 10 (by decide) (by decide) (by decide), uf 11 (by decide) (by decide) (by decide)]
    have := a3 j j0 j1
    omega
theorem TV_pile {v : Int} (t : TV T) : TV (piT_ T v) := by
  have u0 : ∀ k, k ≠ 1 → piT_ T v 0 k = T 0 k := fun k q => by unfold piT_; rw [up_s, if_neg q, up_o _ _ _ (by decide), up_o _ _ _ (by decide)]
  have u01 : piT_ T v 0 1 = T 0 1 + 1 := by unfold piT_; rw [up_s, if_pos rfl]
  have uf : ∀ f : Nat, f ≠ 0 → f ≠ 3 → f ≠ 4 → piT_ T v f = T f := fun f a b d => by unfold piT_; rw [up_o _ _ _ a, up_o _ _ _ d, up_o _ _ _ b]
  obtain ⟨a1, a2, a3, a4⟩ := t
  refine ⟨by rw [u0 3 (by omega), u0 4 (by omega), u0 5 (by omega), u0 6 (by omega), u0 7 (by omega)]; exact a1, fun j j0 j1 => ?_, fun j j0 j1 => ?_, LV_of a4 (uf _ (by decide) (by decide) (by decide)) (uf _ (by decide) (by decide) (by decide)) (uf _ (by decide) (by decide) (by decide)) (u0 4 (by omega))⟩
  · rw [u0 0 (by omega)] at j1
    rw [uf 2 (by decide) (by decide) (by decide)]
    exact a2 j j0 j1
  · rw [u0 3 (by omega)] at j1
    rw [u0 0 (by omega), u01, uf 8 (by decide) (by decide) (by decide), uf 9 (by decide) (by decide) (by decide), uf 10 (by decide) (by decide) (by decide), uf 11 (by decide) (by decide) (by decide)]
    have := a3 j j0 j1
    omega
theorem TV_plate {P z f : Int} (t : TV T) : TV (plT_ T P z f) := by
  obtain ⟨a1, a2, a3, a4⟩ := t
  refine ⟨by rw [plT_0 (k := 3) (by omega), plT_0 (k := 4) (by omega), plT_0 (k := 5) (by omega), plT_0 (k := 6) (by omega), plT_0 (k := 7) (by omega)]; exact a1, fun j j0 j1 => ?_, fun j j0 j1 => ?_, LV_of a4 (plT_f (by decide) (by decide) (by decide) (by decide) (by decide)) (plT_f (by decide) (by decide) (by decide) (by decide) (by decide)) (plT_f (by decide) (by decide) (by decide) (by decide) (by decide)) (plT_0 (by omega))⟩
  · rw [plT_0 (by omega)] at j1
    rw [plT_f (g := 2) (by decide) (by decide) (by decide) (by decide) (by decide)]
    exact a2 j j0 j1
  · rw [plT_0 (by omega)] at j1
    rw [plT_0 (k := 0) (by omega), plT_0 (k := 1) (by omega), plT_f (g := 8) (by decide) (by decide) (by decide) (by decide) (by decide), plT_f (g := 9) (by decide) (by decide) (by decide) (by decide) (by decide), plT_f (g := 10) (by decide) (by decide) (by decide) (by decide) (by decide), plT_f (g := 11) (by decide) (by decide) (by decide) (by decide) (by decide)]
    exact a3 j j0 j1
theorem TV_turn {m p d x : Int} (t : TV T) (l : T 0 3 < 14) (m0 : 0 ≤ m) (m1 : m < T 0 0) (p0 : 0 ≤ p) (p1 : p < T 0 1) (d0 : 1 ≤ d) (d1 : d ≤ 5) (x0 : 0 ≤ x) (x1 : x ≤ 99) : TV (tuT_ T m p d x) := by
  have u0 : ∀ k, k ≠ 3 → tuT_ T m p d x 0 k = T 0 k := fun k q => by unfold tuT_; rw [up_s, if_neg q, up_o _ _ _ (by decide), up_o _ _ _ (by decide), up_o _ _ _ (by decide), up_o _ _ _ (by decide)]
  have u03 : tuT_ T m p d x 0 3 = T 0 3 + 1 := by unfold tuT_; rw [up_s, if_pos rfl]
  have u8 : ∀ j, tuT_ T m p d x 8 j = if j = T 0 3 then m else T 8 j := fun j => by unfold tuT_; rw [up_o _ _ _ (by decide), up_o _ _ _ (by decide), up_o _ _ _ (by decide), up_o _ _ _ (by decide), up_s]
  have u9 : ∀ j, tuT_ T m p d x 9 j = if j = T 0 3 then p else T 9 j := fun j => by unfold tuT_; rw [up_o _ _ _ (by decide), up_o _ _ _ (by decide), up_o _ _ _ (by decide), up_s, up_o _ _ _ (by decide)]
  have u10 : ∀ j, tuT_ T m p d x 10 j = if j = T 0 3 then d else T 10 j := fun j => by unfold tuT_; rw [up_o _ _ _ (by decide), up_o _ _ _ (by decide), up_s, up_o _ _ _ (by decide), up_o _ _ _ (by decide)]
  have u11 : ∀ j, tuT_ T m p d x 11 j = if j = T 0 3 then x else T 11 j := fun j => by unfold tuT_; rw [up_o _ _ _ (by decide), up_s, up_o _ _ _ (by decide), up_o _ _ _ (by decide), up_o _ _ _ (by decide)]
  have uf : ∀ f : Nat, f ≠ 0 → f ≠ 8 → f ≠ 9 → f ≠ 10 → f ≠ 11 → tuT_ T m p d x f = T f := fun f a b b2 b3 b4 => by unfold tuT_; rw [up_o _ _ _ a, up_o _ _ _ b4, up_o _ _ _ b3, up_o _ _ _ b2, up_o _ _ _ b]
  obtain ⟨a1, a2, a3, a4⟩ := t
  refine ⟨by rw [u03, u0 4 (by omega), u0 5 (by omega), u0 6 (by omega), u0 7 (by omega)]; exact ⟨by omega, by omega, a1.2.2⟩, fun j j0 j1 => ?_, fun j j0 j1 => ?_, LV_of a4 (uf _ (by decide) (by decide) (by decide) (by decide) (by decide)) (uf _ (by decide) (by decide) (by decide) (by decide) (by decide)) (uf _ (by decide) (by decide) (by decide) (by decide) (by decide)) (u0 4 (by omega))⟩
  · rw [u0 0 (by omega)] at j1
    rw [uf 2 (by decide) (by decide) (by decide) (by decide) (by decide)]
    exact a2 j j0 j1
  · rw [u03] at j1
    rw [u0 0 (by omega), u0 1 (by omega), u8, u9, u10, u11]
    by_cases q : j = T 0 3
    · rw [if_pos q, if_pos q, if_pos q, if_pos q]; exact ⟨m0, m1, p0, p1, d0, d1, x0, x1⟩
    · rw [if_neg q, if_neg q, if_neg q, if_neg q]; exact a3 j j0 (by omega)
theorem TV_0 {k v : Int} (t : TV T) (e : k = 5 ∧ 0 ≤ v ∧ v ≤ 100 ∨ k = 6 ∧ 0 ≤ v ∧ v ≤ 99999 ∨ k = 7 ∧ i32_ v) : TV (up_ T 0 k v) := by
  have u0 : ∀ j, up_ T 0 k v 0 j = if j = k then v else T 0 j := fun j => up_s _ _ _ _ _
  have uf : ∀ f : Nat, f ≠ 0 → up_ T 0 k v f = T f := fun f a => up_o _ _ _ a
  obtain ⟨a1, a2, a3, a4⟩ := t
  refine ⟨?_, fun j j0 j1 => ?_, fun j j0 j1 => ?_, LV_of a4 (uf _ (by decide)) (uf _ (by decide)) (uf _ (by decide)) (by rw [u0, if_neg (by omega)])⟩
  · rw [u0 3, u0 4, u0 5, u0 6, u0 7, if_neg (c := (3 : Int) = k) (by omega), if_neg (c := (4 : Int) = k) (by omega)]
    rcases e with ⟨e, e1, e2⟩ | ⟨e, e1, e2⟩ | ⟨e, e1⟩
    · rw [if_pos (c := (5 : Int) = k) (by omega), if_neg (c := (6 : Int) = k) (by omega), if_neg (c := (7 : Int) = k) (by omega)]
      exact ⟨a1.1, a1.2.1, a1.2.2.1, a1.2.2.2.1, e1, e2, a1.2.2.2.2.2.2⟩
    · rw [if_neg (c := (5 : Int) = k) (by omega), if_pos (c := (6 : Int) = k) (by omega), if_neg (c := (7 : Int) = k) (by omega)]
      exact ⟨a1.1, a1.2.1, a1.2.2.1, a1.2.2.2.1, a1.2.2.2.2.1, a1.2.2.2.2.2.1, e1, e2, a1.2.2.2.2.2.2.2.2⟩
    · rw [if_neg (c := (5 : Int) = k) (by omega), if_neg (c := (6 : Int) = k) (by omega), if_pos (c := (7 : Int) = k) (by omega)]
      exact ⟨a1.1, a1.2.1, a1.2.2.1, a1.2.2.2.1, a1.2.2.2.2.1, a1.2.2.2.2.2.1, a1.2.2.2.2.2.2.1, a1.2.2.2.2.2.2.2.1, e1⟩
  · rw [u0 0, if_neg (by omega)] at j1
    rw [uf 2 (by decide)]
    exact a2 j j0 j1
  · rw [u0 3, if_neg (by omega)] at j1
    rw [u0 0, u0 1, if_neg (by omega), if_neg (by omega), uf 8 (by decide), uf 9 (by decide), uf 10 (by decide), uf 11 (by decide)]
    exact a3 j j0 j1
theorem TV_law {l o : Int} {K : Int → Int} (t : TV T) (o0 : T 0 4 ≤ o) (o1 : o ≤ 64) (kl : lkq K (o - T 0 4).toNat (T 0 4) 0 1) (kb : ∀ j, j < T 0 4 → K j = T 12 j) : TV (lwT_ T l K o) := by
  obtain ⟨a1, a2, a3, a4⟩ := t
  refine ⟨?_, fun j j0 j1 => ?_, fun j j0 j1 => ?_, fun k k0 k1 => ?_⟩
  · rw [lw_0 (k := 3) (by omega), lw_04, lw_0 (k := 5) (by omega), lw_0 (k := 6) (by omega), lw_0 (k := 7) (by omega)]
    exact ⟨a1.1, a1.2.1, by omega, o1, a1.2.2.2.2⟩
  · rw [lw_0 (by omega)] at j1
    rw [lw_f (f := 2) (by decide) (by decide) (by decide) (by decide)]
    exact a2 j j0 j1
  · rw [lw_0 (by omega)] at j1
    rw [lw_0 (k := 0) (by omega), lw_0 (k := 1) (by omega), lw_f (f := 8) (by decide) (by decide) (by decide) (by decide), lw_f (f := 9) (by decide) (by decide) (by decide) (by decide), lw_f (f := 10) (by decide) (by decide) (by decide) (by decide), lw_f (f := 11) (by decide) (by decide) (by decide) (by decide)]
    exact a3 j j0 j1
  · rw [lw_12, lw_13, lw_14, lw_04]
    by_cases q : k = l
    · rw [if_pos q, if_pos q]
      exact ⟨by omega, o0, Int.le_refl _, fun _ => lkq_lok _ _ _ kl⟩
    · rw [if_neg q, if_neg q]
      obtain ⟨b1, b2, b3, b4⟩ := a4 k k0 k1
      refine ⟨b1, b2, by omega, fun y => ?_⟩
      exact lok_cg _ _ _ (b4 y) (fun j j0 j1 => kb j (by omega))
end
