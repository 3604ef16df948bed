/-! rows of five: turned, numbered, laid, on both sides -/
def RW (h : am_H) (a n : Int) (R : Int → Int) : Prop := ∀ k, 0 ≤ k → k < n → rd_ h a k = R k
def eR (n : Int) (R S : Int → Int) : Prop := ∀ k, 0 ≤ k → k < n → R k = S k
theorem RW_wr {h : am_H} {a n : Int} {R : Int → Int} (r : RW h a n R) (k v : Int) : RW (wr_ h a k v) a n (ud_ R k v) := by
  intro j j0 j1
  rw [rd_wa]
  unfold ud_
  rw [r j j0 j1]
theorem RW_fr {h h' : am_H} {a n : Int} {R : Int → Int} {A : Int → Prop} (r : RW h a n R) (f : fr_ h h' A) (q : ¬ A a) : RW h' a n R := fun k k0 k1 => by rw [f.2 a q]; exact r k k0 k1
def rR_ (d : Int) (R : Int → Int) : Int → Int := fun k => if k < d then R (d - 1 - k) else R k
def rm_ (d i : Int) (R : Int → Int) : Int → Int := fun k => if k < d ∧ (k < i ∨ d - 1 - i < k) then R (d - 1 - k) else R k
theorem rm_st {d i n : Int} {R S : Int → Int} (i0 : 0 ≤ i) (hi : i < d - 1 - i) (hd : d ≤ n) (r : eR n S (rm_ d i R)) : eR n (ud_ (ud_ S i (S (d - 1 - i))) (d - 1 - i) (S i)) (rm_ d (i + 1) R) := by
  have e1 : S i = R i := by rw [r i i0 (by omega)]; exact if_neg (by omega)
  have e2 : S (d - 1 - i) = R (d - 1 - i) := by rw [r (d - 1 - i) (by omega) (by omega)]; exact if_neg (by omega)
  intro k k0 k1
  unfold rm_
  by_cases a : k = d - 1 - i
  · rw [a, ud_s, if_pos (by omega), e1, show d - 1 - (d - 1 - i) = i by omega]
  · rw [ud_o a]
    by_cases b : k = i
    · rw [b, ud_s, if_pos (by omega), e2]
    · rw [ud_o b, r k k0 k1]
      unfold rm_
      by_cases c : k < d ∧ (k < i ∨ d - 1 - i < k)
      · rw [if_pos c, if_pos (by omega)]
      · rw [if_neg c, if_neg (by omega)]
theorem rm_en {d i n : Int} {R S : Int → Int} (i0 : 0 ≤ i) (hi : d - 1 - i ≤ i) (r : eR n S (rm_ d i R)) : eR n S (rR_ d R) := by
  intro k k0 k1
  rw [r k k0 k1]
  unfold rm_ rR_
  by_cases c : k < d
  · rw [if_pos c]
    by_cases e : k < i ∨ d - 1 - i < k
    · rw [if_pos ⟨c, e⟩]
    · rw [if_neg (fun q => e q.2), show d - 1 - k = k by omega]
  · rw [if_neg c, if_neg (fun q => c q.1)]
theorem Pp_reverse_lp {a n d : Int} {R : Int → Int} (a0 : 0 ≤ a) (hd : d ≤ n) (hn : n ≤ 1000) : ∀ (f : Nat) (i : Int) (h : am_H) (S : Int → Int), n ≤ ln_ h a → 0 ≤ i → d - 1 - 2 * i ≤ f → -5 ≤ d - 1 - i → RW h a n S → eR n S (rm_ d i R) → ∃ h', Pp_reverse_1 h a i (d - 1 - i) = some (h', 0) ∧ RW h' a n (rR_ d R) ∧ fr_ h h' (fun x => x = a) := by
  intro f
  induction f with
  | zero =>
    intro i h S l i0 hf _ r e
    refine ⟨h, by rw [Pp_reverse_1_e, if_pos (by omega)], fun k k0 k1 => by rw [r k k0 k1]; exact rm_en i0 (by omega) e k k0 k1, fr_refl _ _⟩
  | succ f ih =>
    intro i h S l i0 hf hl r e
    by_cases q : d - 1 - i ≤ i
    · exact ⟨h, by rw [Pp_reverse_1_e, if_pos q], fun k k0 k1 => by rw [r k k0 k1]; exact rm_en i0 q e k k0 k1, fr_refl _ _⟩
    · have r1 := RW_wr (RW_wr r i (rd_ h a (d - 1 - i))) (d - 1 - i) (rd_ h a i)
      have fr : fr_ h (wr_ (wr_ h a i (rd_ h a (d - 1 - i))) a (d - 1 - i) (rd_ h a i)) (fun x => x = a) := fr_tr (fr_wr rfl) (fr_wr rfl)
      have st := rm_st i0 (by omega) hd e
      rw [← r (d - 1 - i) (by omega) (by omega), ← r i i0 (by omega)] at st
      obtain ⟨h', x1, x2, x3⟩ := ih (i + 1) _ _ (by rw [fr_ln fr]; exact l) (by omega) (by omega) (by omega) r1 st
      refine ⟨h', ?_, x2, fr_tr fr x3⟩
      rw [Pp_reverse_1_e, if_neg q]
      repeat rw [ck_t (by omega)]
      rw [w32_i (x := i + 1) (by omega) (by omega), w32_i (x := d - 1 - i + -1) (by omega) (by omega), show d - 1 - i + -1 = d - 1 - (i + 1) by omega, x1]
theorem Pp_reverse_s {h : am_H} {a n d : Int} {R : Int → Int} (a0 : 0 ≤ a) (l : n ≤ ln_ h a) (hn : n ≤ 1000) (d0 : 0 ≤ d) (hd : d ≤ n) (r : RW h a n R) : ∃ h', Pp_reverse h a d = some (h', 0) ∧ RW h' a n (rR_ d R) ∧ fr_ h h' (fun x => x = a) := by
  obtain ⟨h', x1, x2, x3⟩ := Pp_reverse_lp a0 hd hn d.toNat 0 h R l (by omega) (by omega) (by omega) r (fun k k0 k1 => (if_neg (by omega)).symm)
  refine ⟨h', ?_, x2, x3⟩
  rw [Pp_reverse_e, w32_i (by omega) (by omega), show d - 1 = d - 1 - 0 by omega, x1]
/-- an order's number in the class -/
def og_ (R : Int → Int) (p : Int) : Nat → Int → Int → Int
  | 0, _, g => g
  | n + 1, k, g => og_ R p n (k + 1) (if R k ≤ R p then g else w32 (g + 1))
def oo_ (R : Int → Int) : Nat → Int → Int → Int
  | 0, _, o => o
  | n + 1, p, o => oo_ R n (p + 1) (w32 (o + w32 (og_ R p p.toNat 0 0 * fa_.getD p.toNat 0)))
theorem og_c {R S : Int → Int} {N p : Int} (p0 : 0 ≤ p) (p1 : p < N) (e : ∀ i j, 0 ≤ i → i < N → 0 ≤ j → j < N → (R i ≤ R j ↔ S i ≤ S j)) : ∀ (n : Nat) (k g : Int), 0 ≤ k → k + n ≤ N → og_ R p n k g = og_ S p n k g := by
  intro n
  induction n with
  | zero => intro k g _ _; rfl
  | succ n ih =>
    intro k g k0 hk
    unfold og_
    rw [ih (k + 1) _ (by omega) (by omega)]
    have := e k p k0 (by omega) p0 p1
    by_cases q : R k ≤ R p
    · rw [if_pos q, if_pos (this.mp q)]
    · rw [if_neg q, if_neg (fun z => q (this.mpr z))]
theorem oo_c {R S : Int → Int} {N : Int} (e : ∀ i j, 0 ≤ i → i < N → 0 ≤ j → j < N → (R i ≤ R j ↔ S i ≤ S j)) : ∀ (n : Nat) (p o : Int), 0 ≤ p → p + n ≤ N → oo_ R n p o = oo_ S n p o := by
  intro n
  induction n with
  | zero => intro p o _ _; rfl
  | succ n ih =>
    intro p o p0 hp
    unfold oo_
    rw [ih (p + 1) _ (by omega) (by omega), og_c p0 (by omega) e p.toNat 0 0 (by omega) (by omega)]
theorem Pp_orderOf_in {h : am_H} {a N p H o : Int} {R : Int → Int} (a0 : 0 ≤ a) (l : N ≤ ln_ h a) (hN : N ≤ 6) (r : RW h a N R) (p0 : 0 ≤ p) (p1 : p < N) : ∀ (n : Nat) (k g : Int), 0 ≤ k → k + n = p → Pp_orderOf_3 h a H o p g k = Pp_orderOf_1 h a H (w32 (o + w32 (og_ R p n k g * fa_.getD p.toNat 0))) (p + 1) := by
  intro n
  induction n with
  | zero =>
    intro k g k0 hk
    rw [Pp_orderOf_3_e, if_pos (by omega), ck_t (by omega), w32_i (x := p + 1) (by omega) (by omega)]
    rfl
  | succ n ih =>
    intro k g k0 hk
    rw [Pp_orderOf_3_e, if_neg (by omega)]
    repeat rw [ck_t (by omega)]
    rw [r k k0 (by omega), r p p0 p1, w32_i (x := k + 1) (by omega) (by omega)]
    unfold og_
    by_cases q : R k ≤ R p
    · rw [if_pos q, if_pos q, ih (k + 1) g (by omega) (by omega)]
    · rw [if_neg q, if_neg q, ih (k + 1) _ (by omega) (by omega)]
theorem Pp_orderOf_lp {h : am_H} {a H : Int} {R : Int → Int} (a0 : 0 ≤ a) (l : H ≤ ln_ h a) (hN : H ≤ 6) (r : RW h a H R) : ∀ (n : Nat) (p o : Int), 0 ≤ p → p + n = H → Pp_orderOf_1 h a H o p = some (h, oo_ R n p o) := by
  intro n
  induction n with
  | zero =>
    intro p o p0 hp
    rw [Pp_orderOf_1_e, if_pos (by omega)]
    rfl
  | succ n ih =>
    intro p o p0 hp
    rw [Pp_orderOf_1_e, if_neg (by omega), Pp_orderOf_in a0 l hN r p0 (by omega) p.toNat 0 0 (by omega) (by omega), ih (p + 1) _ (by omega) (by omega)]
    rfl
theorem Pp_orderOf_s {h : am_H} {a H : Int} {R : Int → Int} (a0 : 0 ≤ a) (l : H ≤ ln_ h a) (hN : H ≤ 6) (h0 : 0 ≤ H) (r : RW h a H R) : Pp_orderOf h a H = some (h, oo_ R (H - 1).toNat 1 0) := by
  rw [Pp_orderOf_e]
  by_cases q : H = 0
  · rw [Pp_orderOf_1_e, if_pos (by omega), q]
    rfl
  · exact Pp_orderOf_lp a0 l hN r (H - 1).toNat 1 0 (by omega) (by omega)
/-- laid by its number, in the class -/
def ow_ (o p : Int) : Int := w32 (p - Int.tmod (w32 (Int.tdiv o (fa_.getD p.toNat 0))) (w32 (p + 1)))
def ly3_ (own : Int) : Nat → Int → (Int → Int) → Int → Int
  | 0, _, R => R
  | n + 1, k, R => ly3_ own n (k + 1) (if R k < own then R else ud_ R k (w32 (R k + 1)))
def ly1_ (o : Int) : Nat → Int → (Int → Int) → Int → Int
  | 0, _, R => R
  | n + 1, p, R => ly1_ o n (p + 1) (ud_ (ly3_ (ow_ o p) p.toNat 0 R) p (ow_ o p))
theorem ud_e {N k v : Int} {R S : Int → Int} (e : eR N R S) : eR N (ud_ R k v) (ud_ S k v) := by
  intro j j0 j1
  unfold ud_
  rw [e j j0 j1]
theorem ud_g {k v : Int} {R S : Int → Int} (e : eR k R S) : eR (k + 1) (ud_ R k v) (ud_ S k v) := by
  intro j j0 j1
  unfold ud_
  by_cases q : j = k
  · rw [if_pos q, if_pos q]
  · rw [if_neg q, if_neg q, e j j0 (by omega)]
theorem ly3_e {own N : Int} : ∀ (n : Nat) (k : Int) (R S : Int → Int), 0 ≤ k → k + n ≤ N → eR N R S → eR N (ly3_ own n k R) (ly3_ own n k S) := by
  intro n
  induction n with
  | zero => intro k R S _ _ e; exact e
  | succ n ih =>
    intro k R S k0 hk e
    unfold ly3_
    refine ih (k + 1) _ _ (by omega) (by omega) ?_
    rw [e k k0 (by omega)]
    split
    · exact e
    · exact ud_e e
theorem ly1_e {o : Int} : ∀ (n : Nat) (p : Int) (R S : Int → Int), 0 ≤ p → eR p R S → eR (p + n) (ly1_ o n p R) (ly1_ o n p S) := by
  intro n
  induction n with
  | zero => intro p R S _ e; simpa [ly1_] using e
  | succ n ih =>
    intro p R S p0 e
    unfold ly1_
    have := ih (p + 1) _ _ (by omega) (ud_g (k := p) (v := ow_ o p) (ly3_e (own := ow_ o p) p.toNat 0 R S (by omega) (by omega) e))
    intro k k0 k1
    exact this k k0 (by omega)
theorem Tu_lay_in {a o p : Int} (a0 : 0 ≤ a) (p0 : 0 ≤ p) (p1 : p < 5) : ∀ (n : Nat) (k : Int) (h : am_H) (R : Int → Int), 5 ≤ ln_ h a → 0 ≤ k → k + n = p → RW h a 5 R → ∃ h', Tu_lay_3 h a o p (ow_ o p) k = Tu_lay_1 h' a o (p + 1) ∧ RW h' a 5 (ud_ (ly3_ (ow_ o p) n k R) p (ow_ o p)) ∧ fr_ h h' (fun x => x = a) := by
  intro n
  induction n with
  | zero =>
    intro k h R l k0 hk r
    refine ⟨_, ?_, RW_wr r p (ow_ o p), fr_wr rfl⟩
    rw [Tu_lay_3_e, if_pos (by omega)]
    repeat rw [ck_t (by omega)]
    rw [w32_i (x := p + 1) (by omega) (by omega)]
  | succ n ih =>
    intro k h R l k0 hk r
    rw [Tu_lay_3_e, if_neg (by omega)]
    repeat rw [ck_t (by omega)]
    rw [r k k0 (by omega), w32_i (x := k + 1) (by omega) (by omega)]
    unfold ly3_
    by_cases q : R k < ow_ o p
    · rw [if_pos q, if_pos q]
      exact ih (k + 1) h R l (by omega) (by omega) r
    · rw [if_neg q, if_neg q]
      have f : fr_ h (wr_ h a k (w32 (R k + 1))) (fun x => x = a) := fr_wr rfl
      obtain ⟨h', x1, x2, x3⟩ := ih (k + 1) _ _ (by rw [fr_ln f]; exact l) (by omega) (by omega) (RW_wr r k (w32 (R k + 1)))
      exact ⟨h', x1, x2, fr_tr f x3⟩
theorem Tu_lay_lp {a o : Int} (a0 : 0 ≤ a) : ∀ (n : Nat) (p : Int) (h : am_H) (R : Int → Int), 5 ≤ ln_ h a → 0 ≤ p → p + n = 5 → RW h a 5 R → ∃ h', Tu_lay_1 h a o p = some (h', 0) ∧ RW h' a 5 (ly1_ o n p R) ∧ fr_ h h' (fun x => x = a) := by
  intro n
  induction n with
  | zero =>
    intro p h R l p0 hp r
    exact ⟨h, by rw [Tu_lay_1_e, if_pos (by omega)], r, fr_refl _ _⟩
  | succ n ih =>
    intro p h R l p0 hp r
    have fp : fa_.getD p.toNat 0 ≠ 0 := by
      have : p = 0 ∨ p = 1 ∨ p = 2 ∨ p = 3 ∨ p = 4 := by omega
      rcases this with e | e | e | e | e <;> subst e <;> decide
    obtain ⟨h1, x1, x2, x3⟩ := Tu_lay_in (o := o) a0 p0 (by omega) p.toNat 0 h R l (by omega) (by omega) r
    obtain ⟨h', y1, y2, y3⟩ := ih (p + 1) h1 _ (by rw [fr_ln x3]; exact l) (by omega) (by omega) x2
    refine ⟨h', ?_, y2, fr_tr x3 y3⟩
    rw [Tu_lay_1_e, if_neg (by omega), ck_t (by omega), ck_t fp, ck_t (by rw [w32_i (by omega) (by omega)]; omega)]
    unfold ow_ at x1
    rw [x1, y1]
theorem Tu_lay_s {h : am_H} {a o : Int} {R : Int → Int} (a0 : 0 ≤ a) (l : 5 ≤ ln_ h a) (r : RW h a 5 R) : ∃ h', Tu_lay h a o = some (h', 0) ∧ RW h' a 5 (ly1_ o 5 0 (fun _ => 0)) ∧ fr_ h h' (fun x => x = a) := by
  obtain ⟨h', x1, x2, x3⟩ := Tu_lay_lp (o := o) a0 5 0 h R l (by omega) (by omega) r
  refine ⟨h', by rw [Tu_lay_e]; exact x1, ?_, x3⟩
  intro k k0 k1
  rw [x2 k k0 k1]
  exact ly1_e 5 0 R (fun _ => 0) (by omega) (fun j j0 j1 => by omega) k k0 (by omega)
/-- faces turned, in the class -/
def fl_ (m d : Int) : Nat → Int → Int → Int
  | 0, _, x => x
  | n + 1, p, x => fl_ m d n (p + 1) (if an_ (m / 2 ^ (p % 32 : Int).toNat) 1 ≠ 0 then x else or_ x (w32 (1 * 2 ^ ((w32 ((w32 (d - 1)) - p)) % 32 : Int).toNat)))
def fC_ (m d : Int) : Int := fl_ m d d.toNat 0 (w32 ((m / 2 ^ (d % 32 : Int).toNat) * 2 ^ (d % 32 : Int).toNat))
theorem Tu_flipped_lp {h : am_H} {m d : Int} (hd : d ≤ 100) : ∀ (n : Nat) (p x : Int), 0 ≤ p → p + n = d → Tu_flipped_1 h m d x p = some (h, fl_ m d n p x) := by
  intro n
  induction n with
  | zero =>
    intro p x p0 hp
    rw [Tu_flipped_1_e, if_pos (by omega)]
    rfl
  | succ n ih =>
    intro p x p0 hp
    rw [Tu_flipped_1_e, if_neg (by omega), w32_i (x := p + 1) (by omega) (by omega)]
    unfold fl_
    by_cases q : an_ (m / 2 ^ (p % 32 : Int).toNat) 1 ≠ 0
    · rw [if_pos q, if_pos q, ih (p + 1) x (by omega) (by omega)]
    · rw [if_neg q, if_neg q, ih (p + 1) _ (by omega) (by omega)]
theorem Tu_flipped_s {h : am_H} {m d : Int} (d0 : 0 ≤ d) (hd : d ≤ 100) : Tu_flipped h m d = some (h, fC_ m d) := by
  rw [Tu_flipped_e]
  exact Tu_flipped_lp hd d.toNat 0 _ (by omega) (by omega)
