/-! maids matched with piles: the choices of the class, the codes of the reference -/
def g5_ (M c m : Int) : Int := Int.tmod (w32 (Int.tdiv c (pf_.getD (w32 (w32 (M - 1) - m)).toNat 0))) 5
def rs_ (P : Int) : Nat → Int → Int
  | 0, c => c
  | n + 1, c => w32 (Int.tdiv (rs_ P n c) (w32 (P + 1)))
def gP_ (P M c m : Int) : Int := Int.tmod (rs_ P (M - 1 - m).toNat c) (w32 (P + 1))
def tr_ (P d : Int) : Int := if d = P then 4 else d
def tri_ (P d : Int) : Int := if d = 4 then P else d
def phi_ (P : Int) : Nat → Int → Int
  | 0, _ => 0
  | n + 1, c => 5 * phi_ P n (c / (P + 1)) + tr_ P (c % (P + 1))
def psi_ (P : Int) : Nat → Int → Int
  | 0, _ => 0
  | n + 1, b => (P + 1) * psi_ P n (b / 5) + tri_ P (b % 5)
def cp1_ (P : Int) : Nat → Int
  | 0 => 1
  | n + 1 => w32 (cp1_ P n * w32 (P + 1))
def kM_ (M P : Nat) : Bool :=
  decide (cp1_ P M = (P + 1) ^ M) && decide (pf_.getD M 0 = 5 ^ M) && decide (phi_ P M ((P + 1) ^ M - 1) = 5 ^ M - 1) &&
  ((List.range ((P + 1) ^ M)).all fun c : Nat => decide (0 ≤ phi_ P M c) && decide (phi_ P M c < 5 ^ M) && (decide (c + 1 = (P + 1) ^ M) || decide (phi_ P M c < phi_ P M (c + 1))) &&
    ((List.range M).all fun m : Nat => decide (g5_ M (phi_ P M c) m = tr_ P (gP_ P M c m)) && decide (0 ≤ gP_ P M c m) && decide (gP_ P M c m ≤ P)) &&
    (decide (c + 1 = (P + 1) ^ M) == (List.range M).all fun m : Nat => decide (gP_ P M c m = P))) &&
  ((List.range (5 ^ M)).all fun b : Nat => ((List.range M).all fun m : Nat => decide (0 ≤ g5_ M b m) && decide (g5_ M b m ≤ 4)) && (((List.range M).any fun m : Nat => decide (P ≤ g5_ M b m) && decide (g5_ M b m < 4)) || (decide (phi_ P M (psi_ P M b) = b) && decide (0 ≤ psi_ P M b) && decide (psi_ P M b < (P + 1) ^ M))))
set_option maxRecDepth 100000 in
set_option maxHeartbeats 4000000 in
theorem kM_00 : kM_ 0 0 = true := by decide +kernel
set_option maxRecDepth 100000 in
set_option maxHeartbeats 4000000 in
theorem kM_01 : kM_ 0 1 = true := by decide +kernel
set_option maxRecDepth 100000 in
set_option maxHeartbeats 4000000 in
theorem kM_02 : kM_ 0 2 = true := by decide +kernel
set_option maxRecDepth 100000 in
set_option maxHeartbeats 4000000 in
theorem kM_03 : kM_ 0 3 = true := by decide +kernel
set_option maxRecDepth 100000 in
set_option maxHeartbeats 4000000 in
theorem kM_04 : kM_ 0 4 = true := by decide +kernel
set_option maxRecDepth 100000 in
set_option maxHeartbeats 4000000 in
theorem kM_10 : kM_ 1 0 = true := by decide +kernel
set_option maxRecDepth 100000 in
set_option maxHeartbeats 4000000 in
theorem kM_11 : kM_ 1 1 = true := by decide +kernel
set_option maxRecDepth 100000 in
set_option maxHeartbeats 4000000 in
theorem kM_12 : kM_ 1 2 = true := by decide +kernel
set_option maxRecDepth 100000 in
set_option maxHeartbeats 4000000 in
theorem kM_13 : kM_ 1 3 = true := by decide +kernel
set_option maxRecDepth 100000 in
set_option maxHeartbeats 4000000 in
theorem kM_14 : kM_ 1 4 = true := by decide +kernel
set_option maxRecDepth 100000 in
set_option maxHeartbeats 4000000 in
theorem kM_20 : kM_ 2 0 = true := by decide +kernel
set_option maxRecDepth 100000 in
set_option maxHeartbeats 4000000 in
theorem kM_21 : kM_ 2 1 = true := by decide +kernel
set_option maxRecDepth 100000 in
set_option maxHeartbeats 4000000 in
theorem kM_22 : kM_ 2 2 = true := by decide +kernel
set_option maxRecDepth 100000 in
set_option maxHeartbeats 4000000 in
theorem kM_23 : kM_ 2 3 = true := by decide +kernel
set_option maxRecDepth 100000 in
set_option maxHeartbeats 4000000 in
theorem kM_24 : kM_ 2 4 = true := by decide +kernel
set_option maxRecDepth 100000 in
set_option maxHeartbeats 4000000 in
theorem kM_30 : kM_ 3 0 = true := by decide +kernel
set_option maxRecDepth 100000 in
set_option maxHeartbeats 4000000 in
theorem kM_31 : kM_ 3 1 = true := by decide +kernel
set_option maxRecDepth 100000 in
set_option maxHeartbeats 4000000 in
theorem kM_32 : kM_ 3 2 = true := by decide +kernel
set_option maxRecDepth 100000 in
set_option maxHeartbeats 4000000 in
theorem kM_33 : kM_ 3 3 = true := by decide +kernel
set_option maxRecDepth 100000 in
set_option maxHeartbeats 4000000 in
theorem kM_34 : kM_ 3 4 = true := by decide +kernel
set_option maxRecDepth 100000 in
set_option maxHeartbeats 4000000 in
theorem kM_40 : kM_ 4 0 = true := by decide +kernel
set_option maxRecDepth 100000 in
set_option maxHeartbeats 4000000 in
theorem kM_41 : kM_ 4 1 = true := by decide +kernel
set_option maxRecDepth 100000 in
set_option maxHeartbeats 4000000 in
theorem kM_42 : kM_ 4 2 = true := by decide +kernel
set_option maxRecDepth 100000 in
set_option maxHeartbeats 4000000 in
theorem kM_43 : kM_ 4 3 = true := by decide +kernel
set_option maxRecDepth 100000 in
set_option maxHeartbeats 4000000 in
theorem kM_44 : kM_ 4 4 = true := by decide +kernel
theorem kM_s {M P : Nat} (hM : M ≤ 4) (hP : P ≤ 4) : kM_ M P = true := by
  have a : M = 0 ∨ M = 1 ∨ M = 2 ∨ M = 3 ∨ M = 4 := by omega
  have b : P = 0 ∨ P = 1 ∨ P = 2 ∨ P = 3 ∨ P = 4 := by omega
  rcases a with q | q | q | q | q <;> subst q <;> rcases b with q | q | q | q | q <;> subst q
  · exact kM_00
  · exact kM_01
  · exact kM_02
  · exact kM_03
  · exact kM_04
  · exact kM_10
  · exact kM_11
  · exact kM_12
  · exact kM_13
  · exact kM_14
  · exact kM_20
  · exact kM_21
  · exact kM_22
  · exact kM_23
  · exact kM_24
  · exact kM_30
  · exact kM_31
  · exact kM_32
  · exact kM_33
  · exact kM_34
  · exact kM_40
  · exact kM_41
  · exact kM_42
  · exact kM_43
  · exact kM_44
/-- what holds of choices and codes -/
def nK_c (M P : Int) : Int := cp1_ P M.toNat
theorem kM_v {M P : Int} (m0 : 0 ≤ M) (m4 : M ≤ 4) (p0 : 0 ≤ P) (p4 : P ≤ 4) : (1 ≤ nK_c M P ∧ nK_c M P ≤ 625) ∧ (1 ≤ pf_.getD M.toNat 0 ∧ pf_.getD M.toNat 0 ≤ 625) ∧ phi_ P M.toNat (nK_c M P - 1) = pf_.getD M.toNat 0 - 1 ∧ (∀ c, 0 ≤ c → c < nK_c M P → (0 ≤ phi_ P M.toNat c ∧ phi_ P M.toNat c < pf_.getD M.toNat 0) ∧ (c + 1 < nK_c M P → phi_ P M.toNat c < phi_ P M.toNat (c + 1)) ∧ (∀ m, 0 ≤ m → m < M → g5_ M (phi_ P M.toNat c) m = tr_ P (gP_ P M c m) ∧ 0 ≤ gP_ P M c m ∧ gP_ P M c m ≤ P) ∧ (c + 1 = nK_c M P ↔ ∀ m, 0 ≤ m → m < M → gP_ P M c m = P)) ∧ ∀ b, 0 ≤ b → b < pf_.getD M.toNat 0 → (∀ m, 0 ≤ m → m < M → 0 ≤ g5_ M b m ∧ g5_ M b m ≤ 4) ∧ ((∃ m, 0 ≤ m ∧ m < M ∧ P ≤ g5_ M b m ∧ g5_ M b m < 4) ∨ (phi_ P M.toNat (psi_ P M.toNat b) = b ∧ 0 ≤ psi_ P M.toNat b ∧ psi_ P M.toNat b < nK_c M P)) := by
  have e := kM_s (M := M.toNat) (P := P.toNat) (by omega) (by omega)
  have eM : ((M.toNat : Nat) : Int) = M := by omega
  have eP : ((P.toNat : Nat) : Int) = P := by omega
  unfold kM_ at e
  simp only [Bool.and_eq_true, Bool.or_eq_true, decide_eq_true_eq, List.all_eq_true, List.any_eq_true, List.mem_range, beq_iff_eq, eM, eP] at e
  obtain ⟨⟨⟨⟨e1, e2⟩, e3⟩, e4⟩, e5⟩ := e
  have eN : nK_c M P = (P + 1) ^ M.toNat := e1
  have cN : (((P.toNat + 1) ^ M.toNat : Nat) : Int) = (P + 1) ^ M.toNat := by rw [Int.natCast_pow]; congr 1; omega
  have c5 : ((5 ^ M.toNat : Nat) : Int) = 5 ^ M.toNat := by rw [Int.natCast_pow]; rfl
  have bN : 1 ≤ (P.toNat + 1) ^ M.toNat ∧ (P.toNat + 1) ^ M.toNat ≤ 625 := by
    have a : M.toNat = 0 ∨ M.toNat = 1 ∨ M.toNat = 2 ∨ M.toNat = 3 ∨ M.toNat = 4 := by omega
    have b : P.toNat = 0 ∨ P.toNat = 1 ∨ P.toNat = 2 ∨ P.toNat = 3 ∨ P.toNat = 4 := by omega
    rcases a with q | q | q | q | q <;> rw [q] <;> rcases b with q | q | q | q | q <;> rw [q] <;> decide
  have b5 : 1 ≤ 5 ^ M.toNat ∧ 5 ^ M.toNat ≤ 625 := by
    have a : M.toNat = 0 ∨ M.toNat = 1 ∨ M.toNat = 2 ∨ M.toNat = 3 ∨ M.toNat = 4 := by omega
    rcases a with q | q | q | q | q <;> rw [q] <;> decide
  rw [eN, e2, ← cN, ← c5]
  refine ⟨⟨by omega, by omega⟩, ⟨by omega, by omega⟩, by rw [cN, c5]; exact e3, ?_, ?_⟩
  · intro c c0 c1
    have ec : ((c.toNat : Nat) : Int) = c := by omega
    obtain ⟨⟨⟨⟨f1, f2⟩, f3⟩, f4⟩, f5⟩ := e4 c.toNat (by omega)
    rw [ec] at f1 f2 f3
    refine ⟨⟨f1, by rw [c5]; exact f2⟩, fun q => ?_, fun m a b => ?_, ?_⟩
    · rcases f3 with z | z
      · omega
      · exact z
    · have := f4 m.toNat (by omega)
      rw [ec, show ((m.toNat : Nat) : Int) = m by omega] at this
      exact ⟨this.1.1, this.1.2, this.2⟩
    · constructor
      · intro q m a b
        have z : decide (c.toNat + 1 = (P.toNat + 1) ^ M.toNat) = true := decide_eq_true (by omega)
        rw [z] at f5
        have := f5.symm
        rw [List.all_eq_true] at this
        have := this m.toNat (List.mem_range.mpr (by omega))
        rw [decide_eq_true_eq, ec, show ((m.toNat : Nat) : Int) = m by omega] at this
        exact this
      · intro q
        have z : ((List.range M.toNat).all fun m : Nat => decide (gP_ P M ((c.toNat : Nat) : Int) m = P)) = true := by
          rw [List.all_eq_true]
          intro m hm
          rw [List.mem_range] at hm
          rw [decide_eq_true_eq, ec]
          exact q m (by omega) (by omega)
        rw [z, decide_eq_true_eq] at f5
        omega
  · intro b b0 b1
    have eb : ((b.toNat : Nat) : Int) = b := by omega
    obtain ⟨f1, f2⟩ := e5 b.toNat (by omega)
    refine ⟨fun m a c => ?_, ?_⟩
    · have := f1 m.toNat (by omega)
      rw [eb, show ((m.toNat : Nat) : Int) = m by omega] at this
      exact this
    · rw [eb] at f2
      rcases f2 with ⟨m, a, c⟩ | z
      · exact Or.inl ⟨m, by omega, by omega, c.1, c.2⟩
      · exact Or.inr ⟨z.1.1, z.1.2, by rw [cN]; exact z.2⟩
/-- a choice that can be; how many have a pile, their turns in sum -/
def VG (z P M : Int) (C sk e : Int → Int) : Prop := (∀ m, 0 ≤ m → m < M → e m = z ∨ (e m < P ∧ 1 ≤ C (e m) ∧ C (e m) ≤ sk m)) ∧ ∀ i j, 0 ≤ i → i < j → j < M → e i = e j → e i = z
def mny_ (z : Int) (e : Int → Int) (n : Nat) : Int := sm_ (fun i => if e i = z then 0 else 1) n
def su_ (z : Int) (C e : Int → Int) (n : Nat) : Int := sm_ (fun i => if e i = z then 0 else C (e i)) n
theorem mny_s1 (z : Int) (e : Int → Int) (n : Nat) : mny_ z e (n + 1) = mny_ z e n + if e n = z then 0 else 1 := rfl
theorem su_s1 (z : Int) (C e : Int → Int) (n : Nat) : su_ z C e (n + 1) = su_ z C e n + if e n = z then 0 else C (e n) := rfl
theorem sm_c {f g : Int → Int} : ∀ n : Nat, (∀ i, 0 ≤ i → i < (n : Int) → f i = g i) → sm_ f n = sm_ g n := by
  intro n
  induction n with
  | zero => intro _; rfl
  | succ n ih =>
    intro e
    unfold sm_
    rw [ih (fun i a b => e i a (by omega)), e n (by omega) (by omega)]
theorem mny_b (z : Int) (e : Int → Int) : ∀ n : Nat, 0 ≤ mny_ z e n ∧ mny_ z e n ≤ n := by
  intro n
  induction n with
  | zero => exact ⟨Int.le_refl _, Int.le_refl _⟩
  | succ n ih =>
    unfold mny_ sm_
    unfold mny_ at ih
    split <;> omega
theorem su_b {z : Int} {C e : Int → Int} : ∀ n : Nat, (∀ m, 0 ≤ m → m < (n : Int) → e m = z ∨ (0 ≤ C (e m) ∧ C (e m) ≤ 20)) → 0 ≤ su_ z C e n ∧ su_ z C e n ≤ 20 * mny_ z e n := by
  intro n
  induction n with
  | zero => intro _; exact ⟨Int.le_refl _, Int.le_refl _⟩
  | succ n ih =>
    intro q
    have k := ih (fun m a b => q m a (by omega))
    have r := q n (by omega) (by omega)
    unfold su_ mny_ sm_
    unfold su_ mny_ at k
    by_cases y : e n = z
    · rw [if_pos y, if_pos y]; omega
    · rw [if_neg y, if_neg y]; omega
theorem mny_0 {z : Int} {e : Int → Int} : ∀ n : Nat, mny_ z e n = 0 → ∀ m, 0 ≤ m → m < (n : Int) → e m = z := by
  intro n
  induction n with
  | zero => intro _ m a b; omega
  | succ n ih =>
    intro q m a b
    have k := (mny_b z e n).1
    unfold mny_ sm_ at q
    unfold mny_ at k ih
    by_cases y : e n = z
    · rw [if_pos y] at q
      by_cases t : m = n
      · rw [t]; exact y
      · exact ih (by omega) m a (by omega)
    · rw [if_neg y] at q
      omega
/-- the masks of those that are taken -/
def btt_ (x p : Int) : Int := an_ (x / 2 ^ (p % 32 : Int).toNat) 1
def bto_ (x p : Int) : Int := or_ x (w32 (1 * 2 ^ (p % 32 : Int).toNat))
def kB_ : Bool := (List.range 16).all fun x : Nat => (List.range 4).all fun q : Nat => decide (0 ≤ bto_ x q) && decide (bto_ x q < 16) && (decide (btt_ x q = 0) || decide (btt_ x q = 1)) && (List.range 4).all fun p : Nat => decide (btt_ (bto_ x q) p = if p = q then 1 else btt_ x p)
set_option maxRecDepth 100000 in
theorem kB_t : kB_ = true := by decide +kernel
theorem bto_s {x q : Int} (x0 : 0 ≤ x) (x1 : x < 16) (q0 : 0 ≤ q) (q1 : q < 4) : (0 ≤ bto_ x q ∧ bto_ x q < 16) ∧ (btt_ x q = 0 ∨ btt_ x q = 1) ∧ ∀ p, 0 ≤ p → p < 4 → btt_ (bto_ x q) p = if p = q then 1 else btt_ x p := by
  have e := kB_t
  unfold kB_ at e
  simp only [Bool.and_eq_true, Bool.or_eq_true, decide_eq_true_eq, List.all_eq_true, List.mem_range] at e
  obtain ⟨⟨⟨a, b⟩, c⟩, d⟩ := e x.toNat (by omega) q.toNat (by omega)
  rw [show ((x.toNat : Nat) : Int) = x by omega, show ((q.toNat : Nat) : Int) = q by omega] at a b c
  refine ⟨⟨a, b⟩, c, fun p p0 p1 => ?_⟩
  have := d p.toNat (by omega)
  rw [show ((x.toNat : Nat) : Int) = x by omega, show ((q.toNat : Nat) : Int) = q by omega, show ((p.toNat : Nat) : Int) = p by omega] at this
  rw [this]
  by_cases z : p = q
  · rw [if_pos z, if_pos (by omega)]
  · rw [if_neg z, if_neg (by omega)]
theorem btt_0 {p : Int} (p0 : 0 ≤ p) (p1 : p < 4) : btt_ 0 p = 0 := by
  have : p = 0 ∨ p = 1 ∨ p = 2 ∨ p = 3 := by omega
  rcases this with q | q | q | q <;> subst q <;> decide
