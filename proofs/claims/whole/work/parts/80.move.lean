/-! a plate is put on another pile -/
def Mv (W : Tx) (p q : Int) : Tx := fun f => if f = 0 then (fun r => if r = p then W 0 p - 1 else if r = q then W 0 q + 1 else W 0 r)
  else if f = 3 then (fun i => if 5 * p ≤ i ∧ i < 5 * p + W 0 p - 1 then W 3 (i + 1) else if i = 5 * q then W 3 (5 * p) else if 5 * q < i ∧ i ≤ 5 * q + W 0 q then W 3 (i - 1) else W 3 i) else W f
theorem Mv_0 (W : Tx) (p q r : Int) : Mv W p q 0 r = if r = p then W 0 p - 1 else if r = q then W 0 q + 1 else W 0 r := rfl
theorem Mv_3 (W : Tx) (p q i : Int) : Mv W p q 3 i = if 5 * p ≤ i ∧ i < 5 * p + W 0 p - 1 then W 3 (i + 1) else if i = 5 * q then W 3 (5 * p) else if 5 * q < i ∧ i ≤ 5 * q + W 0 q then W 3 (i - 1) else W 3 i := rfl
/-- whence a plate comes -/
def mP (p q r k : Int) : Int := if r = q ∧ k = 0 then p else r
def mK (p q r k : Int) : Int := if r = p then k + 1 else if r = q then (if k = 0 then 0 else k - 1) else k
section
variable {T W : Tx} {p q : Int}
theorem Mv_3b (v : WV T W) (h1 : 0 ≤ p) (h2 : p < T 0 1) (h3 : 0 ≤ q) (h4 : q < T 0 1) (ne : p ≠ q) (hp : 1 ≤ W 0 p) (hq : W 0 q < 5) {r k : Int} (r0 : 0 ≤ r) (r1 : r < T 0 1) (k0 : 0 ≤ k) (k1 : k < Mv W p q 0 r) :
    Mv W p q 3 (5 * r + k) = W 3 (5 * mP p q r k + mK p q r k) ∧ 0 ≤ mP p q r k ∧ mP p q r k < T 0 1 ∧ 0 ≤ mK p q r k ∧ mK p q r k < W 0 (mP p q r k) := by
  have a := v.2.1 p h1 h2
  have b := v.2.1 q h3 h4
  have c := v.2.1 r r0 r1
  rw [Mv_0] at k1
  rw [Mv_3]
  unfold mP mK
  by_cases e1 : r = p
  · subst e1
    rw [if_pos rfl] at k1
    rw [if_pos (by omega), if_neg (by omega), if_pos rfl]
    refine ⟨by congr 1; omega, r0, r1, by omega, by omega⟩
  · rw [if_neg e1] at k1
    by_cases e2 : r = q
    · subst e2
      rw [if_pos rfl] at k1
      by_cases e3 : k = 0
      · subst e3
        rw [if_neg (by omega), if_pos (by omega), if_pos (by omega), if_neg e1, if_pos rfl, if_pos rfl]
        refine ⟨by congr 1; omega, h1, h2, by omega, by omega⟩
      · rw [if_neg (by omega), if_neg (by omega), if_pos (by omega), if_neg (by omega), if_neg e1, if_pos rfl, if_neg e3]
        refine ⟨by congr 1; omega, r0, r1, by omega, by omega⟩
    · rw [if_neg e2] at k1
      rw [if_neg (by omega), if_neg (by omega), if_neg (by omega), if_neg (by omega), if_neg e1, if_neg e2]
      exact ⟨rfl, r0, r1, k0, k1⟩
theorem Mv_v (v : WV T W) (h1 : 0 ≤ p) (h2 : p < T 0 1) (h3 : 0 ≤ q) (h4 : q < T 0 1) (ne : p ≠ q) (hp : 1 ≤ W 0 p) (hq : W 0 q < 5) (ns : ∀ k, 0 ≤ k → k < W 0 q → Zs T W q k ≠ Zs T W p 0) : WV T (Mv W p q) := by
  obtain ⟨v0, v1, v2, v3, v4, v5, v6, v7, v8, v9, v10, v11⟩ := id v
  have a := v1 p h1 h2
  have b := v1 q h3 h4
  have zz : ∀ r k, 0 ≤ r → r < T 0 1 → 0 ≤ k → k < W 0 r → Zs T W r k = T 5 (W 3 (5 * r + k)) := fun r k x y z u => by unfold Zs; rw [if_pos ⟨x, y, z, u⟩]
  refine ⟨v0, ?_, ?_, ?_, v4, ?_, v6, v7, v8, v9, v10, v11⟩
  · intro r x y
    have := v1 r x y
    rw [Mv_0]
    repeat' split
    all_goals omega
  · intro r k x y z u
    obtain ⟨e, e1, e2, e3, e4⟩ := Mv_3b v h1 h2 h3 h4 ne hp hq x y z u
    rw [e]
    exact v2 _ _ e1 e2 e3 e4
  · intro r k r' k' x y z u x' y' z' u' hh
    obtain ⟨e, e1, e2, e3, e4⟩ := Mv_3b v h1 h2 h3 h4 ne hp hq x y z u
    obtain ⟨d, d1, d2, d3, d4⟩ := Mv_3b v h1 h2 h3 h4 ne hp hq x' y' z' u'
    rw [e, d] at hh
    have y := v3 _ _ _ _ e1 e2 e3 e4 d1 d2 d3 d4 hh
    unfold mP mK at y
    repeat' split at y
    all_goals omega
  · intro r k j x y z u z' u' hh
    obtain ⟨e, e1, e2, e3, e4⟩ := Mv_3b v h1 h2 h3 h4 ne hp hq x y z u
    obtain ⟨d, d1, d2, d3, d4⟩ := Mv_3b v h1 h2 h3 h4 ne hp hq x y z' u'
    rw [e, d] at hh
    by_cases c1 : r = q
    · subst c1
      by_cases c2 : k = 0
      · by_cases c3 : j = 0
        · omega
        · exfalso
          have m1 : mP p r r k = p := by unfold mP; rw [if_pos ⟨rfl, c2⟩]
          have m2 : mK p r r k = 0 := by unfold mK; rw [if_neg (by omega), if_pos rfl, if_pos c2]
          have m3 : mP p r r j = r := by unfold mP; rw [if_neg (by omega)]
          have m4 : mK p r r j = j - 1 := by unfold mK; rw [if_neg (by omega), if_pos rfl, if_neg c3]
          rw [m1, m2, m3, m4] at hh
          rw [m3, m4] at d4
          apply ns (j - 1) (by omega) d4
          rw [zz r (j - 1) h3 h4 (by omega) d4, zz p 0 h1 h2 (by omega) (by omega), hh]
      · by_cases c3 : j = 0
        · exfalso
          have m1 : mP p r r j = p := by unfold mP; rw [if_pos ⟨rfl, c3⟩]
          have m2 : mK p r r j = 0 := by unfold mK; rw [if_neg (by omega), if_pos rfl, if_pos c3]
          have m3 : mP p r r k = r := by unfold mP; rw [if_neg (by omega)]
          have m4 : mK p r r k = k - 1 := by unfold mK; rw [if_neg (by omega), if_pos rfl, if_neg c2]
          rw [m1, m2, m3, m4] at hh
          rw [m3, m4] at e4
          apply ns (k - 1) (by omega) e4
          rw [zz r (k - 1) h3 h4 (by omega) e4, zz p 0 h1 h2 (by omega) (by omega), hh]
        · have m1 : mP p r r k = r := by unfold mP; rw [if_neg (by omega)]
          have m3 : mP p r r j = r := by unfold mP; rw [if_neg (by omega)]
          rw [m1, m3] at hh
          rw [m1] at e4
          rw [m3] at d4
          have := v5 r _ _ h3 h4 e3 e4 d3 d4 hh
          unfold mK at this
          repeat' split at this
          all_goals omega
    · have m1 : mP p q r k = r := by unfold mP; rw [if_neg (by omega)]
      have m3 : mP p q r j = r := by unfold mP; rw [if_neg (by omega)]
      rw [m1, m3] at hh
      rw [m1] at e4
      rw [m3] at d4
      have := v5 r _ _ x y e3 e4 d3 d4 hh
      unfold mK at this
      repeat' split at this
      all_goals omega
end
/-- a row's part moved one place towards the top; towards the bottom -/
theorem Wo_up {w p q : Int} (pl : Int) {n0 : Int} : ∀ (n : Nat) (h : am_H) (k : Int), ShW h w → 0 ≤ p → p < 4 → 0 ≤ q → q < 4 → rd_ h (w + 1) p = n0 → n0 ≤ 5 → 1 ≤ k → k + n = n0 →
    ∃ h', Wo_lift_5 h w p q pl k = Wo_lift_5 h' w p q pl n0 ∧ fr_ h h' (fun a => a = w + 4) ∧ ∀ i, rd_ h' (w + 4) i = if 5 * p + k - 1 ≤ i ∧ i < 5 * p + n0 - 1 then rd_ h (w + 4) (i + 1) else rd_ h (w + 4) i := by
  intro n
  induction n with
  | zero =>
    intro h k s p0 p4 q0 q4 e n5 hk hn
    have : k = n0 := by omega
    subst this
    exact ⟨h, rfl, fr_refl _ _, fun i => by rw [if_neg (by omega)]⟩
  | succ n ih =>
    intro h k s p0 p4 q0 q4 e n5 hk hn
    obtain ⟨w0, s6, -, -, s9, -, -, -, -, l1, -, -, l4, -⟩ := id s
    rw [Wo_lift_5_e]
    simp only [s6, s9, l1, l4, e]
    simp (disch := omega) only [w32_i]
    repeat rw [ck_t (by omega)]
    rw [if_neg (by omega)]
    repeat rw [ck_t (by omega)]
    obtain ⟨h', i1, i2, i3⟩ := ih (wr_ h (w + 4) (p * 5 + k - 1) (rd_ h (w + 4) (p * 5 + k))) (k + 1) (ShW_of rfl s) p0 p4 q0 q4 (by rw [rd_wo (by omega)]; exact e) n5 (by omega) (by omega)
    refine ⟨h', i1, fr_tr (fr_wr rfl) i2, ?_⟩
    intro i
    rw [i3]
    simp only [rd_wa]
    repeat' split
    all_goals first | omega | rfl | (congr 1; omega)
theorem Wo_down {w q : Int} (pl : Int) : ∀ (n : Nat) (h : am_H), ShW h w → 0 ≤ q → q < 4 → n ≤ 4 →
    ∃ h', Wo_lift_8 h w q pl n = Wo_lift_8 h' w q pl 0 ∧ fr_ h h' (fun a => a = w + 4) ∧ ∀ i, rd_ h' (w + 4) i = if 5 * q + 1 ≤ i ∧ i ≤ 5 * q + n then rd_ h (w + 4) (i - 1) else rd_ h (w + 4) i := by
  intro n
  induction n with
  | zero =>
    intro h s q0 q4 hn
    exact ⟨h, rfl, fr_refl _ _, fun i => by rw [if_neg (by omega)]⟩
  | succ n ih =>
    intro h s q0 q4 hn
    obtain ⟨w0, -, -, -, s9, -, -, -, -, -, -, -, l4, -⟩ := id s
    rw [Wo_lift_8_e]
    simp only [s9, l4]
    simp (disch := omega) only [w32_i]
    rw [if_neg (by omega), show ((n + 1 : Nat) : Int) + -1 = (n : Int) by omega]
    repeat rw [ck_t (by omega)]
    obtain ⟨h', i1, i2, i3⟩ := ih (wr_ h (w + 4) (q * 5 + ((n + 1 : Nat) : Int)) (rd_ h (w + 4) (q * 5 + ((n + 1 : Nat) : Int) - 1))) (ShW_of rfl s) q0 q4 (by omega)
    refine ⟨h', i1, fr_tr (fr_wr rfl) i2, ?_⟩
    intro i
    rw [i3]
    simp only [rd_wa]
    repeat' split
    all_goals first | omega | rfl | (congr 1; omega)
section
variable {h : am_H} {w : Int} {T W : Tx} {p q : Int}
theorem Wo_lift_s (o : WO h w T W) (v : WV T W) (h1 : 0 ≤ p) (h2 : p < T 0 1) (h3 : 0 ≤ q) (h4 : q < T 0 1) (ne : p ≠ q) (hp : 1 ≤ W 0 p) (hq : W 0 q < 5) : ∃ h', Wo_lift h w p q = some (h', 0) ∧ WO h' w T (Mv W p q) ∧ fr_ h h' (fun a => a = w + 1 ∨ a = w + 4) := by
  have v0 := v.1
  have v1 := v.2.1
  have s := o.1
  obtain ⟨⟨w0, s6, -, -, s9, -, -, -, -, l1, -, -, l4, -⟩, ⟨e0, e1, e2, e3, e4, e5⟩, f1, f2, f3, f4, f5, f6, f7⟩ := id o
  have yp := f1 p h1 h2
  have yq := f1 q h3 h4
  have bp := v1 p h1 h2
  have bq := v1 q h3 h4
  obtain ⟨q1, q2, q3⟩ := Pa_in v (k := 0) h1 h2 (by omega) (by omega)
  rw [Int.add_zero] at q1 q2 q3
  obtain ⟨ha, a1, a2, a3⟩ := Wo_up (w := w) (p := p) (q := q) (W 3 (5 * p)) (n0 := W 0 p) (W 0 p - 1).toNat h 1 s h1 (by omega) h3 (by omega) yp (by omega) (by omega) (by omega)
  have sa := ShW_of a2.1 s
  obtain ⟨-, s6a, -, -, s9a, -, -, -, -, l1a, -, -, l4a, -⟩ := id sa
  have ypa : rd_ ha (w + 1) p = W 0 p := by rw [a2.2 (w + 1) (by omega)]; exact yp
  have yqa : rd_ ha (w + 1) q = W 0 q := by rw [a2.2 (w + 1) (by omega)]; exact yq
  obtain ⟨hb, b1, b2, b3⟩ := Wo_down (w := w) (q := q) (W 3 (5 * p)) (W 0 q).toNat (wr_ ha (w + 1) p (W 0 p - 1)) (ShW_of rfl sa) h3 (by omega) (by omega)
  have sb : ShW hb w := ShW_of b2.1 (ShW_of rfl sa)
  obtain ⟨-, s6b, -, -, s9b, -, -, -, -, l1b, -, -, l4b, -⟩ := id sb
  have yqb : rd_ hb (w + 1) q = W 0 q := by rw [b2.2 (w + 1) (by omega), rd_wk (by omega)]; exact yqa
  refine ⟨wr_ (wr_ hb (w + 4) (5 * q) (W 3 (5 * p))) (w + 1) q (W 0 q + 1), ?_, ?_, ?_⟩
  · rw [Wo_lift_e, ck_t w0, Wo_plateAt_s o v, bd_v, q1, if_neg (by omega), ck_t w0, Wo_hasPile_t o h3 h4, bd_v, if_neg (by omega)]
    simp only [s6, l1, yq]
    repeat rw [ck_t (by omega)]
    rw [if_pos (by omega), a1, Wo_lift_5_e]
    simp only [s6a, l1a, ypa]
    repeat rw [ck_t (by omega)]
    rw [if_pos (by omega)]
    repeat rw [ck_t (by omega)]
    rw [w32_i (by omega) (by omega), rd_wk (by omega), yqa, show W 0 q = (((W 0 q).toNat : Nat) : Int) by omega, b1, Wo_lift_8_e]
    simp only [s6b, s9b, l1b, l4b]
    simp (disch := omega) only [w32_i]
    rw [if_pos (by omega)]
    repeat rw [ck_t (by omega)]
    rw [rd_wo (by omega), yqb, w32_i (by omega) (by omega), show q * 5 = 5 * q by omega, show (((W 0 q).toNat : Nat) : Int) = W 0 q by omega]
  · have R : ∀ a, a ≠ w + 1 → a ≠ w + 4 → ∀ k, rd_ (wr_ (wr_ hb (w + 4) (5 * q) (W 3 (5 * p))) (w + 1) q (W 0 q + 1)) a k = rd_ h a k := by
      intro a x y k
      rw [rd_wo x, rd_wo y, b2.2 a y, rd_wo x, a2.2 a y]
    refine ⟨ShW_of rfl sb, ?_, ?_, ?_, ?_, ?_, ?_, ?_, ?_⟩
    · rw [R w (by omega) (by omega), R w (by omega) (by omega), R w (by omega) (by omega), R w (by omega) (by omega), R w (by omega) (by omega), R w (by omega) (by omega)]
      exact ⟨e0, e1, e2, e3, e4, e5⟩
    · intro r x y
      rw [rd_wa, Mv_0]
      by_cases c1 : r = q
      · rw [if_pos c1, if_neg (by omega), if_pos c1]
      · rw [if_neg c1, rd_wo (by omega), b2.2 (w + 1) (by omega), rd_wa]
        by_cases c2 : r = p
        · rw [if_pos c2, if_pos c2]
        · rw [if_neg c2, if_neg c2, if_neg c1, a2.2 (w + 1) (by omega)]
          exact f1 r x y
    · intro r x y
      rw [R (w + 2) (by omega) (by omega)]; exact f2 r x y
    · intro r x y
      rw [R (w + 3) (by omega) (by omega)]; exact f3 r x y
    · intro r k x y z u
      obtain ⟨e, m1, m2, m3, m4⟩ := Mv_3b v h1 h2 h3 h4 ne hp hq x y z u
      rw [e, ← f4 _ _ m1 m2 m3 m4, rd_wo (by omega), rd_wa, b3, rd_wo (by omega), rd_wo (by omega), a3, a3]
      have br := v1 r x y
      rw [Mv_0] at u
      have fp : rd_ h (w + 4) (5 * p + 0) = W 3 (5 * p) := by rw [f4 p 0 h1 h2 (by omega) (by omega), Int.add_zero]
      unfold mP mK
      by_cases c1 : r = p
      · subst c1
        rw [if_pos rfl] at u
        rw [if_neg (by omega), if_neg (by omega), if_pos (by omega), if_neg (by omega), if_pos rfl]
        congr 1
        omega
      · rw [if_neg c1] at u
        by_cases c2 : r = q
        · subst c2
          rw [if_pos rfl] at u
          by_cases c3 : k = 0
          · subst c3
            rw [if_pos (by omega), if_pos (by omega), if_neg c1, if_pos rfl, if_pos rfl, fp]
          · rw [if_neg (by omega), if_pos (by omega), if_neg (by omega), if_neg (by omega), if_neg c1, if_pos rfl, if_neg c3]
            congr 1
            omega
        · rw [if_neg c2] at u
          rw [if_neg (by omega), if_neg (by omega), if_neg (by omega), if_neg (by omega), if_neg c1, if_neg c2]
    · intro j x y
      rw [R (w + 5) (by omega) (by omega)]; exact f5 j x y
    · intro j x y
      rw [R (w + 6) (by omega) (by omega)]; exact f6 j x y
    · intro j x y
      rw [R (w + 7) (by omega) (by omega)]; exact f7 j x y
  · exact fr_tr (fr_mo a2 (fun a q => Or.inr q)) (fr_tr (fr_wr (Or.inl rfl)) (fr_tr (fr_mo b2 (fun a q => Or.inr q)) (fr_tr (fr_wr (Or.inr rfl)) (fr_wr (Or.inl rfl)))))
end
