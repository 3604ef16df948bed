/-! named, pile, on both sides -/
def fx_ (P : Int → Int) (c : Int) : Nat → Int → Int
  | 0, _ => -1
  | n + 1, k => if P k = c then k else fx_ P c n (k + 1)
section
variable {h : am_H} {T W I : Tx} {U : Int → Tx} {Q : Tx}
theorem Pp_indexOf_lp {a N c : Int} {P : Int → Int} (a0 : 0 ≤ a) (l : N ≤ ln_ h a) (l2 : N ≤ 1000) (r : ∀ j, 0 ≤ j → j < N → rd_ h a j = P j) : ∀ (n : Nat) (k : Int), 0 ≤ k → k + n = N → Pp_indexOf_1 h a N c k = some (h, fx_ P c n k) := by
  intro n
  induction n with
  | zero =>
    intro k k0 hn
    rw [Pp_indexOf_1_e, if_pos (by omega)]
    rfl
  | succ n ih =>
    intro k k0 hn
    rw [Pp_indexOf_1_e, if_neg (by omega), ck_t a0, if_neg (by omega), ck_t a0, ck_t (by omega), r k k0 (by omega), w32_i (by omega) (by omega)]
    show _ = some (h, if P k = c then k else fx_ P c n (k + 1))
    by_cases e : P k = c
    · rw [if_neg (fun q => q e), if_pos e]
    · rw [if_pos e, if_neg e, ih (k + 1) (by omega) (by omega)]
theorem Mo_find_lp {a N c : Int} {P : Int → Int} (a0 : 0 ≤ a) (l : N ≤ ln_ h a) (l2 : N ≤ 1000) (r : ∀ j, 0 ≤ j → j < N → rd_ h a j = P j) : ∀ (n : Nat) (k : Int), 0 ≤ k → k + n = N → Mo_find_1 h a 0 N c k = some (h, fx_ P c n k) := by
  intro n
  induction n with
  | zero =>
    intro k k0 hn
    rw [Mo_find_1_e, if_pos (by omega)]
    rfl
  | succ n ih =>
    intro k k0 hn
    rw [Mo_find_1_e, if_neg (by omega), ck_t a0, w32_i (x := 0 + k) (by omega) (by omega), show 0 + k = k by omega, ck_t (by omega), r k k0 (by omega), w32_i (by omega) (by omega)]
    show _ = some (h, if P k = c then k else fx_ P c n (k + 1))
    by_cases e : P k = c
    · rw [if_neg (fun q => q e), if_pos e]
    · rw [if_pos e, if_neg e, ih (k + 1) (by omega) (by omega)]
def nam_ (T : Tx) (x c : Int) : Int := if x = 0 then fx_ (T 1) c (T 0 0).toNat 0 else if x = 1 then fx_ (T 3) c (T 0 1).toNat 0 else -1
theorem Pp_named_s (g : CI h T W I U Q) (v : WV T W) (x c : Int) : Pp_named h 0 x c = some (h, nam_ T x c) := by
  have v0 := v.1
  have w := g.2.2.1
  obtain ⟨t, cb, ct⟩ := CI_B g
  have ht := ct.1
  obtain ⟨-, -, t7, -, t9, -, -, -, -, -, -, -, m10, -, m12, -⟩ := id ct.2.2.2.1.1
  rw [Pp_named_e]
  simp only [ct.2.1, cr0_7 g.1, t7, t9, w.2.1.1, w.2.1.2.1, Pp_indexOf_e]
  rw [Pp_indexOf_lp (P := T 1) (by omega) (by omega) (by omega) (fun j p q => (ct.2.2.2.1.2.2.1 j p q).1) (T 0 0).toNat 0 (by omega) (by omega), Pp_indexOf_lp (P := T 3) (by omega) (by omega) (by omega) (fun j p q => ct.2.2.2.1.2.2.2.1 j p q) (T 0 1).toNat 0 (by omega) (by omega)]
  simp only [bd_v]
  repeat rw [ck_t (by omega)]
  unfold nam_
  by_cases c0 : x = 0
  · rw [if_neg (by omega), if_pos c0]
  · rw [if_pos c0, if_neg c0]
    by_cases c1 : x = 1
    · rw [if_neg (by omega), if_pos c1]
    · rw [if_pos c1, if_neg c1]
theorem Mo_named_s (g0 : MN h T W I U Q) (v : WV T W) (x c : Int) : Mo_named h 94 x c = some (wr_ h 94 2 0, nam_ T x c) := by
  have v0 := v.1
  have g := MN_q g0 v (Mq_2 h 0)
  have l1 := ml99 g.1
  have l2 := ml101 g.1
  rw [Mo_named_e]
  simp only [mr24 g0.1, mr26 g0.1, g.2.1.1.1, g.2.1.1.2.1, Mo_find_e]
  rw [Mo_find_lp (P := T 1) (by omega) (by omega) (by omega) (fun j p q => g.2.1.2.1 j p q) (T 0 0).toNat 0 (by omega) (by omega), Mo_find_lp (P := T 3) (by omega) (by omega) (by omega) (fun j p q => g.2.1.2.2.2.1 j p q) (T 0 1).toNat 0 (by omega) (by omega)]
  simp only [bd_v]
  repeat rw [ck_t (by omega)]
  unfold nam_
  by_cases c0 : x = 0
  · rw [if_neg (by omega), if_pos c0]
  · rw [if_pos c0, if_neg c0]
    by_cases c1 : x = 1
    · rw [if_neg (by omega), if_pos c1]
    · rw [if_pos c1, if_neg c1]
end
