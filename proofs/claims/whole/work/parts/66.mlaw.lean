/-! laws, in the reference -/
theorem wr_same {h : am_H} {a k v : Int} (e : rd_ h a k = v) : wr_ h a k v = h := by
  unfold wr_
  refine Prod.ext ?_ rfl
  funext x y
  dsimp only
  split
  · rename_i c
    rw [c.1, c.2, ← e]
    rfl
  · rfl
theorem Mo_bounded_A {h : am_H} (x : Int) (e : rd_ h 94 51 = 0) : Mo_bounded h 94 x = match bo_ x with
    | some v => some (h, v)
    | none => some (wr_ h 94 51 1, 0) := by
  rw [Mo_bounded_e]
  simp only [lc_gt, lc_ge, e, rd_ws]
  rw [ck_t (by omega), if_neg (by omega)]
  unfold bo_
  by_cases a : 1000000000000 < x
  · rw [if_pos a, if_neg (by omega)]
    repeat rw [ck_t (by omega)]
    rw [if_neg (by omega)]
  · rw [if_neg a]
    repeat rw [ck_t (by omega)]
    by_cases b : -1000000000000 ≤ x
    · rw [if_pos b]
      repeat rw [ck_t (by omega)]
      rw [if_pos (by first | trivial | omega), wr_same e, if_pos (by first | trivial | omega)]
    · rw [if_neg b, if_neg (by omega)]
      repeat rw [ck_t (by omega)]
      rw [if_neg (by omega)]
theorem Mo_bounded_B {h : am_H} (x : Int) (e : rd_ h 94 51 = 1) : Mo_bounded h 94 x = some (h, 0) := by
  rw [Mo_bounded_e]
  simp only [e, rd_ws]
  rw [ck_t (by omega), if_pos (by first | trivial | omega)]
  repeat rw [ck_t (by omega)]
  rw [if_neg (by omega), wr_same e]
theorem Mo_times11_B {h : am_H} (a b z : Int) (e : rd_ h 94 51 = 1) : Mo_times_11 h 94 a b z = some (h, 0) := by
  rw [Mo_times_11_e]
  simp only [e, rd_ws]
  rw [ck_t (by omega), if_pos (by first | trivial | omega)]
  repeat rw [ck_t (by omega)]
  rw [if_neg (by omega), wr_same e]
theorem Mo_times11_A {h : am_H} (a b : Int) {z : Int} (e : rd_ h 94 51 = 0) (hz : z = 0 ∨ z = 1) : Mo_times_11 h 94 a b z = if z = 0 then some (h, w64 (a * b)) else some (wr_ h 94 51 1, 0) := by
  rw [Mo_times_11_e]
  simp only [e, rd_ws]
  rw [ck_t (by omega), if_neg (by omega)]
  split
  · repeat rw [ck_t (by omega)]
    rw [if_pos (by first | trivial | omega), wr_same e]
  · repeat rw [ck_t (by omega)]
    rw [if_neg (by omega)]
theorem Mo_times_c {h : am_H} {a b : Int} (ha : bnd a) (hb : bnd b) : Mo_times h 94 a b = Mo_times_11 h 94 a b (if (bo_ (a * b)).isSome then 0 else 1) := by
  unfold bnd at ha hb
  rw [Mo_times_e]
  simp only [lc_e, lc_ge, Mo_times_5_e, lc_le]
  have bo0 : bo_ 0 = some 0 := rfl
  by_cases za : a = 0
  · subst za
    rw [if_pos rfl, Int.zero_mul, bo0]
    rfl
  · rw [if_neg za]
    by_cases zb : b = 0
    · subst zb
      rw [if_pos rfl, Int.mul_zero, bo0]
      rfl
    · rw [if_neg zb]
      have key := pr_b (a := (b.natAbs : Int)) (b := (a.natAbs : Int)) (by omega) (by omega)
      have e : ((a * b).natAbs : Int) = (b.natAbs : Int) * (a.natAbs : Int) := by rw [Int.natAbs_mul, Nat.mul_comm]; push_cast; rfl
      have t1 : 0 ≤ Int.tdiv 1000000000000 (a.natAbs : Int) := Int.tdiv_nonneg (by omega) (by omega)
      have t2 := Int.natAbs_tdiv_le_natAbs 1000000000000 (a.natAbs : Int)
      have fin : ∀ x y : Int, x = b.natAbs → y = a.natAbs → (if x ≤ w64 (Int.tdiv 1000000000000 y) then Mo_times_11 h 94 a b 0 else Mo_times_11 h 94 a b 1) = Mo_times_11 h 94 a b (if (bo_ (a * b)).isSome then 0 else 1) := by
        intro x y hx hy
        subst hx
        subst hy
        rw [w64_i (by omega) (by omega)]
        unfold bo_
        by_cases c : (b.natAbs : Int) ≤ Int.tdiv 1000000000000 (a.natAbs : Int)
        · have := key.mp c
          rw [if_pos c, if_pos (c := -1000000000000 ≤ a * b ∧ _) (by omega)]
          rfl
        · have : ¬ (b.natAbs : Int) * (a.natAbs : Int) ≤ 1000000000000 := fun q => c (key.mpr q)
          rw [if_neg c, if_neg (c := -1000000000000 ≤ a * b ∧ _) (by omega)]
          rfl
      by_cases sb : 0 ≤ b
      · rw [if_pos sb]
        by_cases sa : 0 ≤ a
        · rw [if_pos sa, ck_t za]
          exact fin _ _ (by omega) (by omega)
        · rw [if_neg sa, w64_i (x := -a) (by omega) (by omega), ck_t (by omega)]
          exact fin _ _ (by omega) (by omega)
      · rw [if_neg sb, w64_i (x := -b) (by omega) (by omega)]
        by_cases sa : 0 ≤ a
        · rw [if_pos sa, ck_t za]
          exact fin _ _ (by omega) (by omega)
        · rw [if_neg sa, w64_i (x := -a) (by omega) (by omega), ck_t (by omega)]
          exact fin _ _ (by omega) (by omega)
theorem Mo_times_A {h : am_H} {a b : Int} (ha : bnd a) (hb : bnd b) (e : rd_ h 94 51 = 0) : Mo_times h 94 a b = match bo_ (a * b) with
    | some v => some (h, v)
    | none => some (wr_ h 94 51 1, 0) := by
  rw [Mo_times_c ha hb, Mo_times11_A a b e (by split <;> omega)]
  unfold bo_
  by_cases c : -1000000000000 ≤ a * b ∧ a * b ≤ 1000000000000
  · rw [if_pos c, w64_i (by omega) (by omega)]
    rfl
  · rw [if_neg c]
    rfl
theorem Mo_compares_s (h : am_H) (k a b : Int) (hk : 30 ≤ k ∧ k ≤ 35) : ∃ v, Mo_compares h (k - 25) a b = some (h, v) ∧ jo_ k a b = some v ∧ (v = 0 ∨ v = 1) := by
  have c : k = 30 ∨ k = 31 ∨ k = 32 ∨ k = 33 ∨ k = 34 ∨ k = 35 := by omega
  rw [Mo_compares_e]
  unfold jo_
  rcases c with c | c | c | c | c | c <;> subst c
  all_goals simp only [lc_e, lc_n, lc_ge, lc_gt, lc_lt, lc_le, ↓reduceIte, Int.reduceEq, Int.reduceSub]
  all_goals (repeat' split) <;> first | exact ⟨_, rfl, rfl, by omega⟩ | omega
/-- the kind of a knot in the reference -/
def kc_ (c : Int) : Int := if c < 0 then 0 else if c = 22 then 2 else if 23 ≤ c ∧ c ≤ 29 then 1 else if c = 21 then 3 else if c = 20 then 4 else c - 25
/-- the knot at i, over the places hs -/
def KN (h : am_H) (c i : Int) (hs : List Int) : Prop := rd_ h 113 i = kc_ c ∧ (c < 0 → rd_ h 114 i = -1 - c) ∧ (23 ≤ c ∧ c ≤ 29 → rd_ h 114 i = c - 23) ∧ (c = 22 → rd_ h 114 i = hs.headD 0) ∧ (20 ≤ c → ¬ (22 ≤ c ∧ c ≤ 29) → rd_ h 114 i = hs.tail.headD 0 ∧ rd_ h 115 i = hs.headD 0)
def NM (h : am_H) (E : Int → Int) : Prop := ∀ x, 0 ≤ x → x < 7 → rd_ h 118 x = E x
/-- values by their places -/
def vk (h : am_H) : List Int → List Int → Prop
  | [], [] => True
  | p :: ps, v :: vs => rd_ h 119 p = v ∧ vk h ps vs
  | _, _ => False
theorem vk_len {h : am_H} : ∀ {ps vs : List Int}, vk h ps vs → ps.length = vs.length := by
  intro ps
  induction ps with
  | nil => intro vs h; cases vs with
    | nil => rfl
    | cons => cases h
  | cons p ps ih => intro vs h; cases vs with
    | nil => cases h
    | cons v vs => rw [List.length_cons, List.length_cons, ih h.2]
theorem vk_wr {h : am_H} {k v : Int} : ∀ {ps vs : List Int}, vk h ps vs → (∀ p ∈ ps, p < k) → vk (wr_ h 119 k v) ps vs := by
  intro ps
  induction ps with
  | nil => intro vs h _; cases vs with
    | nil => trivial
    | cons => cases h
  | cons p ps ih => intro vs h hp; cases vs with
    | nil => cases h
    | cons x vs => exact ⟨by rw [rd_wk (by have := hp p List.mem_cons_self; omega)]; exact h.1, ih h.2 fun q hq => hp q (List.mem_cons_of_mem _ hq)⟩
theorem vk_fr {h h' : am_H} (e : ∀ k, rd_ h' 119 k = rd_ h 119 k) : ∀ {ps vs : List Int}, vk h ps vs → vk h' ps vs := by
  intro ps
  induction ps with
  | nil => intro vs h; cases vs with
    | nil => trivial
    | cons => cases h
  | cons p ps ih => intro vs h; cases vs with
    | nil => cases h
    | cons x vs => exact ⟨(e p).trans h.1, ih h.2⟩
section
variable {h : am_H} {E : Int → Int} {c i f : Int} {hs : List Int}
theorem Mo_valueOf_p (s : ShM h) (k : KN h c i hs) (e : NM h E) (i0 : 0 ≤ i) (i1 : i < 64) (hc : (-10000 ≤ c ∧ c < 0) ∨ (23 ≤ c ∧ c ≤ 29)) : Mo_valueOf h 94 i = some (h, if c < 0 then -1 - c else E (c - 23)) := by
  obtain ⟨k1, k2, k3, -⟩ := k
  rw [Mo_valueOf_e]
  try simp only [mr38 s, ml113 s, mr39 s, ml114 s, mr40 s, ml115 s, mr49 s, ml118 s, mr50 s, ml119 s]
  simp only [k1]
  rcases hc with hc | hc
  · have := k2 hc.2
    have ek : kc_ c = 0 := by unfold kc_; rw [if_pos hc.2]
    rw [ek, if_pos hc.2]
    repeat rw [ck_t (by omega)]
    rw [if_neg (by omega)]
    repeat rw [ck_t (by omega)]
    rw [this]
  · have q := k3 hc
    have q2 := e (c - 23) (by omega) (by omega)
    have ek : kc_ c = 1 := by unfold kc_; rw [if_neg (by omega), if_neg (by omega), if_pos hc]
    rw [ek, if_neg (c := c < 0) (by omega)]
    repeat rw [ck_t (by omega)]
    rw [if_pos (by omega)]
    repeat rw [ck_t (by omega)]
    rw [if_neg (by omega)]
    repeat rw [ck_t (by omega)]
    rw [q]
    repeat rw [ck_t (by omega)]
    rw [q2]
theorem Mo_valueOf_n (s : ShM h) (k : KN h c i hs) (i0 : 0 ≤ i) (i1 : i < 64) (hc : c = 22) {p : Int} {ps : List Int} (hp : hs = p :: ps) (p0 : 0 ≤ p) (p1 : p < 64) : Mo_valueOf h 94 i = some (h, if rd_ h 119 p = 0 then 1 else 0) := by
  obtain ⟨k1, -, -, k4, -⟩ := k
  have q := k4 hc
  rw [hp, List.headD_cons] at q
  rw [Mo_valueOf_e]
  try simp only [mr38 s, ml113 s, mr39 s, ml114 s, mr40 s, ml115 s, mr49 s, ml118 s, mr50 s, ml119 s]
  simp only [k1, q, lc_n]
  rw [show kc_ c = 2 by rw [hc]; rfl]
  repeat rw [ck_t (by omega)]
  rw [if_pos (by omega)]
  repeat rw [ck_t (by omega)]
  rw [if_pos (by omega)]
  repeat rw [ck_t (by omega)]
  rw [if_neg (by omega)]
  by_cases z : rd_ h 119 p = 0
  · rw [if_neg (by omega), if_pos z]
  · rw [if_pos z, if_neg z]
theorem Mo_valueOf_j (s : ShM h) (k : KN h c i hs) (i0 : 0 ≤ i) (i1 : i < 64) (hc : 20 ≤ c ∧ c ≤ 39) (nc : ¬ (22 ≤ c ∧ c ≤ 29)) {p q : Int} {ps : List Int} (hp : hs = q :: p :: ps) (p0 : 0 ≤ p) (p1 : p < 64) (q0 : 0 ≤ q) (q1 : q < 64) (ba : bnd (rd_ h 119 p)) (bb : bnd (rd_ h 119 q)) :
    (rd_ h 94 51 = 0 → Mo_valueOf h 94 i = match jo_ c (rd_ h 119 p) (rd_ h 119 q) with
      | some v => some (h, v)
      | none => some (wr_ h 94 51 1, 0)) ∧ (rd_ h 94 51 = 1 → ∃ v, Mo_valueOf h 94 i = some (h, v) ∧ bnd v) := by
  obtain ⟨k1, -, -, -, k5⟩ := k
  have kk := k5 hc.1 nc
  rw [hp, List.headD_cons, List.tail_cons, List.headD_cons] at kk
  have eq : Mo_valueOf h 94 i = Mo_valueOf h 94 i := rfl
  conv at eq => rhs; rw [Mo_valueOf_e]
  simp only [mr38 s, ml113 s, mr39 s, ml114 s, mr40 s, ml115 s, mr49 s, ml118 s, mr50 s, ml119 s, k1, kk.1, kk.2, lc_e, lc_n] at eq
  generalize rd_ h 119 p = a at *
  generalize rd_ h 119 q = b at *
  have one : ∀ v : Int, v = 0 ∨ v = 1 → bnd v := fun v hv => by unfold bnd; omega
  have ba' := ba
  have bb' := bb
  unfold bnd at ba' bb'
  have cs : c = 20 ∨ c = 21 ∨ (30 ≤ c ∧ c ≤ 35) ∨ c = 36 ∨ c = 37 ∨ c = 38 ∨ c = 39 := by omega
  rcases cs with cs | cs | cs | cs | cs | cs | cs
  · subst cs
    rw [show kc_ 20 = 4 from rfl] at eq
    repeat rw [ck_t (by omega)] at eq
    simp only [ne_eq, Int.reduceEq, not_false_eq_true, ↓reduceIte] at eq
    repeat rw [ck_t (by omega)] at eq
    rw [eq]
    unfold jo_
    simp only [↓reduceIte]
    refine ⟨fun _ => ?_, fun _ => ?_⟩
    · repeat' split
      all_goals first | rfl | omega
    · repeat' split
      all_goals exact ⟨_, rfl, one _ (by omega)⟩
  · subst cs
    rw [show kc_ 21 = 3 from rfl] at eq
    repeat rw [ck_t (by omega)] at eq
    simp only [ne_eq, Int.reduceEq, not_false_eq_true, ↓reduceIte] at eq
    repeat rw [ck_t (by omega)] at eq
    rw [eq]
    unfold jo_
    simp only [Int.reduceEq, ↓reduceIte]
    refine ⟨fun _ => ?_, fun _ => ?_⟩
    · repeat' split
      all_goals first | rfl | omega
    · repeat' split
      all_goals exact ⟨_, rfl, one _ (by omega)⟩
  · obtain ⟨v, w1, w2, w3⟩ := Mo_compares_s h c a b cs
    have ev : (if v = 0 then some (h, (0 : Int)) else some (h, 1) : am_O) = some (h, v) := by
      rcases w3 with w3 | w3 <;> subst w3 <;> rfl
    have this : Mo_valueOf h 94 i = some (h, v) := by
      have c6 : c = 30 ∨ c = 31 ∨ c = 32 ∨ c = 33 ∨ c = 34 ∨ c = 35 := by omega
      rcases c6 with c6 | c6 | c6 | c6 | c6 | c6 <;> subst c6
      all_goals simp only [show kc_ 30 = 5 from rfl, show kc_ 31 = 6 from rfl, show kc_ 32 = 7 from rfl, show kc_ 33 = 8 from rfl, show kc_ 34 = 9 from rfl, show kc_ 35 = 10 from rfl] at eq
      all_goals simp only [Int.reduceSub] at w1
      all_goals simp only [ne_eq, Int.reduceEq, not_false_eq_true, ↓reduceIte, w1, bd_v, ev] at eq
      all_goals (repeat rw [ck_t (by omega)] at eq)
      all_goals exact eq
    rw [this, w2]
    exact ⟨fun _ => rfl, fun _ => ⟨v, rfl, one v w3⟩⟩
  · subst cs
    rw [show kc_ 36 = 11 from rfl] at eq
    repeat rw [ck_t (by omega)] at eq
    simp only [ne_eq, Int.reduceEq, not_false_eq_true, ↓reduceIte] at eq
    repeat rw [ck_t (by omega)] at eq
    rw [w64_i (by omega) (by omega)] at eq
    rw [eq]
    unfold jo_
    simp only [Int.reduceEq, ↓reduceIte]
    refine ⟨fun z => ?_, fun z => ?_⟩
    · rw [Mo_bounded_A _ z]
      cases bo_ (a + b) <;> rfl
    · rw [Mo_bounded_B _ z]
      exact ⟨_, rfl, one _ (by omega)⟩
  · subst cs
    rw [show kc_ 37 = 12 from rfl] at eq
    repeat rw [ck_t (by omega)] at eq
    simp only [ne_eq, Int.reduceEq, not_false_eq_true, ↓reduceIte] at eq
    repeat rw [ck_t (by omega)] at eq
    rw [w64_i (x := a - b) (by omega) (by omega)] at eq
    rw [eq]
    unfold jo_
    simp only [Int.reduceEq, ↓reduceIte]
    refine ⟨fun z => ?_, fun z => ?_⟩
    · rw [Mo_bounded_A _ z]
      cases bo_ (a - b) <;> rfl
    · rw [Mo_bounded_B _ z]
      exact ⟨_, rfl, one _ (by omega)⟩
  · subst cs
    rw [show kc_ 38 = 13 from rfl] at eq
    repeat rw [ck_t (by omega)] at eq
    simp only [ne_eq, Int.reduceEq, not_false_eq_true, ↓reduceIte] at eq
    repeat rw [ck_t (by omega)] at eq
    rw [eq]
    unfold jo_
    simp only [Int.reduceEq, ↓reduceIte]
    refine ⟨fun z => ?_, fun z => ?_⟩
    · rw [Mo_times_A ba bb z]
      cases bo_ (a * b) <;> rfl
    · rw [Mo_times_c ba bb, Mo_times11_B _ _ _ z]
      exact ⟨_, rfl, one _ (by omega)⟩
  · subst cs
    rw [show kc_ 39 = 14 from rfl] at eq
    repeat rw [ck_t (by omega)] at eq
    simp only [ne_eq, Int.reduceEq, not_false_eq_true, ↓reduceIte, rd_ws] at eq
    repeat rw [ck_t (by omega)] at eq
    rw [eq]
    unfold jo_
    simp only [Int.reduceEq, ↓reduceIte]
    have tb := td_b (b := b) ba
    unfold bnd at tb
    refine ⟨fun z => ?_, fun z => ?_⟩
    · rw [if_neg (by omega)]
      by_cases y : b = 0
      · rw [if_neg (by omega), if_pos y]
        repeat rw [ck_t (by omega)]
      · rw [if_pos y, if_neg y]
        repeat rw [ck_t (by omega)]
        rw [wr_same z, w64_i (by omega) (by omega)]
        repeat rw [ck_t (by omega)]
    · rw [if_pos (by omega)]
      repeat rw [ck_t (by omega)]
      rw [wr_same z]
      exact ⟨_, rfl, one _ (by omega)⟩
end
