/-! laws, in the class -/
/-- what the names stand for -/
def nv_ (T W : Tx) (m p d k : Int) (x : Int) : Int := if x = 0 then Zs T W p (if k = 1 then 0 else d - 1) else if x = 1 then d else if x = 2 then W 0 p else if x = 3 then T 2 m else if x = 4 then W 2 m else if x = 5 then Gp T W p else W 6 0
theorem Zs_b {T W : Tx} (v : WV T W) (p k : Int) : 0 ≤ Zs T W p k ∧ Zs T W p k ≤ 99 := by
  obtain ⟨v0, v1, v2, v3, v4, v5, v6, v7, v8, v9, v10, v11⟩ := id v
  unfold Zs
  split
  · rename_i c
    have := v2 p k c.1 c.2.1 c.2.2.1 c.2.2.2
    have := v4 _ this.1 this.2
    omega
  · omega
theorem nv_b {T W : Tx} (v : WV T W) (u : TV T) {m p d : Int} (k : Int) (h1 : 0 ≤ p) (h2 : p < T 0 1) (h3 : 0 ≤ m) (h4 : m < T 0 0) (h5 : 0 ≤ d) (h6 : d ≤ 6) (x : Int) : bnd (nv_ T W m p d k x) := by
  obtain ⟨v0, v1, v2, v3, v4, v5, v6, v7, v8, v9, v10, v11⟩ := id v
  obtain ⟨u0, u1, -⟩ := u
  have a := Zs_b v p 0
  have a1 := Zs_b v p (d - 1)
  have b := v1 p h1 h2
  have c := u1 m h3 h4
  have e := v8 m h3 h4
  have f := Gp_b v h1 h2
  unfold i32_ at v9
  unfold bnd nv_
  repeat' split
  all_goals omega
/-- values one on the other, the top one last -/
def sk (h : am_H) (a : Int) : List Int → Prop
  | [] => True
  | v :: r => rd_ h a r.length = v ∧ sk h a r
theorem sk_wr {h : am_H} {a k v : Int} : ∀ {s : List Int}, sk h a s → (s.length : Int) ≤ k → sk (wr_ h a k v) a s := by
  intro s
  induction s with
  | nil => intro _ _; trivial
  | cons x r ih =>
    intro hs hk
    have : (r.length : Int) + 1 ≤ k := by have := hk; rw [List.length_cons] at this; omega
    exact ⟨by rw [rd_wk (by omega)]; exact hs.1, ih hs.2 (by omega)⟩
theorem sk_fr {h h' : am_H} {a : Int} (e : ∀ k, rd_ h' a k = rd_ h a k) : ∀ {s : List Int}, sk h a s → sk h' a s := by
  intro s
  induction s with
  | nil => intro _; trivial
  | cons x r ih => intro hs; exact ⟨(e _).trans hs.1, ih hs.2⟩
theorem La_truth_s (h : am_H) (x : Int) : La_truth h x = some (h, if x = 0 then 0 else 1) := by
  rw [La_truth_e]
  split <;> rfl
theorem La_inBounds_s (h : am_H) (l x : Int) (hl : 0 ≤ l) : La_inBounds h l x = match bo_ x with
    | some v => some (h, v)
    | none => some (wr_ h l 6 1, 0) := by
  rw [La_inBounds_e]
  simp only [lc_gt, lc_ge, ck_t hl]
  unfold bo_
  by_cases a : 1000000000000 < x
  · rw [if_pos a, if_neg (by omega)]
  · rw [if_neg a]
    by_cases b : -1000000000000 ≤ x
    · rw [if_pos b, if_pos (by omega)]
    · rw [if_neg b, if_neg (by omega)]
theorem La_product_s (h : am_H) (l a b : Int) (hl : 0 ≤ l) (ha : bnd a) (hb : bnd b) : La_product h l a b = match bo_ (a * b) with
    | some v => some (h, v)
    | none => some (wr_ h l 6 1, 0) := by
  unfold bnd at ha hb
  rw [La_product_e]
  simp only [lc_e, lc_le, ck_t hl]
  by_cases z : b = 0
  · subst z
    rw [if_pos rfl, Int.mul_zero]
    rfl
  · rw [if_neg z]
    have na : (if 0 < a then a else w64 (-a)) = (a.natAbs : Int) := by
      split
      · omega
      · rw [w64_i (by omega) (by omega)]; omega
    have nb : (if 0 < b then b else w64 (-b)) = (b.natAbs : Int) := by
      split
      · omega
      · rw [w64_i (by omega) (by omega)]; omega
    rw [na, nb, ck_t (by omega)]
    have t1 : 0 ≤ Int.tdiv 1000000000000 (b.natAbs : Int) := Int.tdiv_nonneg (by omega) (by omega)
    have t2 := Int.natAbs_tdiv_le_natAbs 1000000000000 (b.natAbs : Int)
    rw [w64_i (x := Int.tdiv _ _) (by omega) (by omega)]
    have key := pr_b (a := (a.natAbs : Int)) (b := (b.natAbs : Int)) (by omega) (by omega)
    have e : ((a * b).natAbs : Int) = (a.natAbs : Int) * (b.natAbs : Int) := by rw [Int.natAbs_mul]; push_cast; rfl
    unfold bo_
    by_cases c : (a.natAbs : Int) ≤ Int.tdiv 1000000000000 (b.natAbs : Int)
    · have := key.mp c
      rw [if_pos c, if_pos (by omega), w64_i (by omega) (by omega)]
    · have : ¬ (a.natAbs : Int) * (b.natAbs : Int) ≤ 1000000000000 := fun q => c (key.mpr q)
      rw [if_neg c, if_neg (by omega)]
theorem La_quotient_s (h : am_H) (l a b : Int) (hl : 0 ≤ l) (ha : bnd a) : La_quotient h l a b = if b = 0 then some (wr_ h l 6 1, 0) else some (h, Int.tdiv a b) := by
  rw [La_quotient_e]
  simp only [lc_n, ck_t hl]
  by_cases z : b = 0
  · rw [if_neg (by omega), if_pos z]
  · have := td_b (b := b) ha
    unfold bnd at this
    rw [if_pos z, if_neg z, ck_t z, w64_i (by omega) (by omega)]
theorem La_joined_s (h : am_H) (l k a b : Int) (hl : 0 ≤ l) (hk : 20 ≤ k ∧ k ≤ 39) (nk : ¬ (22 ≤ k ∧ k ≤ 29)) (ha : bnd a) (hb : bnd b) : La_joined h l k a b = match jo_ k a b with
    | some v => some (h, v)
    | none => some (wr_ h l 6 1, 0) := by
  have c : k = 20 ∨ k = 21 ∨ k = 30 ∨ k = 31 ∨ k = 32 ∨ k = 33 ∨ k = 34 ∨ k = 35 ∨ k = 36 ∨ k = 37 ∨ k = 38 ∨ k = 39 := by omega
  have ha' := ha
  have hb' := hb
  unfold bnd at ha' hb'
  rw [La_joined_e]
  unfold jo_
  rcases c with c | c | c | c | c | c | c | c | c | c | c | c <;> subst c
  all_goals simp only [lc_e, lc_n, lc_ge, lc_gt, lc_lt, lc_le, ck_t hl, La_truth_s, bd_v, ↓reduceIte, reduceCtorEq, Int.reduceEq]
  iterate 8 (repeat' split) <;> first | rfl | omega | (simp_all; done)
  · rw [w64_i (by omega) (by omega), La_inBounds_s h l _ hl]
    cases bo_ (a + b) <;> rfl
  · rw [w64_i (by omega) (by omega), La_inBounds_s h l _ hl]
    cases bo_ (a - b) <;> rfl
  · rw [La_product_s h l a b hl ha hb]
    cases bo_ (a * b) <;> rfl
  · rw [La_quotient_s h l a b hl ha]
    split <;> rfl
/-- a worker-out at l, told t, world w, of maid m, pile p, depth d -/
def LO (h : am_H) (l t w m p d : Int) : Prop := 0 ≤ l ∧ rf_ h l 0 = l + 1 ∧ ln_ h (l + 1) = 64 ∧ rf_ h l 1 = t ∧ rf_ h l 2 = w ∧ rd_ h l 3 = m ∧ rd_ h l 4 = p ∧ rd_ h l 5 = d
theorem LO_e {h : am_H} {l t w m p d : Int} (v : Int) (o : LO h l t w m p d) : LO (wr_ h l 6 v) l t w m p d := by
  obtain ⟨a, b, c, e, f, g, i, j⟩ := o
  exact ⟨a, b, c, e, f, by rw [rd_wk (by omega)]; exact g, by rw [rd_wk (by omega)]; exact i, by rw [rd_wk (by omega)]; exact j⟩
theorem LO_s {h : am_H} {l t w m p d : Int} (k v : Int) (o : LO h l t w m p d) : LO (wr_ h (l + 1) k v) l t w m p d := by
  obtain ⟨a, b, c, e, f, g, i, j⟩ := o
  exact ⟨a, b, c, e, f, by rw [rd_wo (by omega)]; exact g, by rw [rd_wo (by omega)]; exact i, by rw [rd_wo (by omega)]; exact j⟩
section
variable {h : am_H} {l t w m p d : Int} {T W : Tx}
theorem La_nameValue_s (g : LO h l t w m p d) (o : WO h w T W) (v : WV T W) (q : TO h t T) (h1 : 0 ≤ p) (h2 : p < T 0 1) (h3 : 0 ≤ m) (h4 : m < T 0 0) (h5 : 0 ≤ d) (h6 : d ≤ 6) {x : Int} (hx : 23 ≤ x ∧ x ≤ 29) (k : Int) : La_nameValue h l x k = some (h, nv_ T W m p d k (x - 23)) := by
  obtain ⟨⟨w0, s6, s7, s8, s9, s10, s11, s12, s13, l1, l2, l3, l4, l5, l6, l7, l8⟩, ⟨e0, e1, e2, e3, e4, e5⟩, f1, f2, f3, f4, f5, f6, f7⟩ := id o
  obtain ⟨v0, v1, v2, v3, v4, v5, v6, v7, v8, v9, v10, v11⟩ := id v
  obtain ⟨g0, g1, g2, g3, g4, g5, g6, g7⟩ := g
  obtain ⟨⟨t0, r6, r7, r8, r9, r10, r11, r12, r13, r14, r15, r16, m10, m11, m12, m13, m14, m15, m16, m17, m18, m19⟩, q1, q2, q3, q4, q5, q6⟩ := q
  have y1 := f1 p h1 h2
  have y2 := q2 m h3 h4
  have y3 := f3 m h3 h4
  rw [La_nameValue_e]
  simp only [g3, g4, g5, g6, g7, ck_t g0, ck_t w0, ck_t t0, Wo_hasPile_t o h1 h2, Wo_hasMaid_t o h3 h4, Wo_sizeAt_s o v, Wo_gaps_s o v h1 h2, bd_v, s6, s8, r8, l1, l3, m11, y1, y2.2, y3, e3]
  rw [w32_i (by omega) (by omega)]
  unfold nv_
  have c : x = 23 ∨ x = 24 ∨ x = 25 ∨ x = 26 ∨ x = 27 ∨ x = 28 ∨ x = 29 := by omega
  rcases c with c | c | c | c | c | c | c <;> subst c
  all_goals simp only [↓reduceIte, Int.reduceEq, Int.reduceSub]
  · by_cases e : k = 1
    · rw [if_neg (by omega), if_pos e]
    · rw [if_pos e, if_neg e]
  · rw [ck_t (by omega), ck_t (by omega)]
  · rw [ck_t (by omega), ck_t (by omega)]
  · rw [ck_t (by omega), ck_t (by omega)]
theorem To_hasLaw_s (q : TO h t T) {k : Int} (h1 : 0 ≤ k) (h2 : k < 3) : To_hasLaw h t k = some (h, if T 14 k ≤ T 13 k then 0 else 1) := by
  obtain ⟨⟨t0, r6, r7, r8, r9, r10, r11, r12, r13, r14, r15, r16, m10, m11, m12, m13, m14, m15, m16, m17, m18, m19⟩, q1, q2, q3, q4, q5, q6⟩ := q
  have y := q6 k h1 h2
  rw [To_hasLaw_e]
  simp only [r15, r16, m18, m19, y.1, y.2]
  repeat first | rw [ck_t (by omega)] | rw [if_neg (by omega)] | rw [if_pos (by omega)] | simp (disch := omega) only [w32_i]
  split <;> rfl
end
