/-! ask: pure, and in the class -/
def ca_ (x : Int) : List Int → Int
  | [] => 0
  | y :: r => (if y = x then 1 else 0) + ca_ x r
def mx_ (L : List Int) : List Int → Int → Int
  | [], m => m
  | x :: r, m => mx_ L r (if m < ca_ x L then ca_ x L else m)
/-- the sizes of those left, from depth d on -/
def sy_ (f : Int → Bool) (s : Int → Int) : Nat → Int → List Int
  | 0, _ => []
  | n + 1, d => if f d then s d :: sy_ f s n (d + 1) else sy_ f s n (d + 1)
theorem sy_s (f : Int → Bool) (s : Int → Int) : ∀ (n : Nat) (d : Int), sy_ f s (n + 1) d = sy_ f s n d ++ (if f (d + n) then [s (d + n)] else []) := by
  intro n
  induction n with
  | zero => intro d; unfold sy_; rw [show d + ((0 : Nat) : Int) = d by omega]; unfold sy_; rfl
  | succ n ih =>
    intro d
    have := ih (d + 1)
    rw [show d + 1 + (n : Int) = d + ((n + 1 : Nat) : Int) by omega] at this
    show (if f d then s d :: sy_ f s (n + 1) (d + 1) else sy_ f s (n + 1) (d + 1)) = (if f d then s d :: sy_ f s n (d + 1) else sy_ f s n (d + 1)) ++ _
    rw [this]
    cases f d <;> rfl
theorem sy_len (f : Int → Bool) (s s' : Int → Int) : ∀ (n : Nat) (d : Int), (sy_ f s n d).length = (sy_ f s' n d).length := by
  intro n
  induction n with
  | zero => intro d; rfl
  | succ n ih =>
    intro d
    unfold sy_
    cases f d
    · exact ih (d + 1)
    · rw [if_pos rfl, if_pos rfl, List.length_cons, List.length_cons, ih (d + 1)]
theorem sy_le (f : Int → Bool) (s : Int → Int) : ∀ (n : Nat) (d : Int), (sy_ f s n d).length ≤ n := by
  intro n
  induction n with
  | zero => intro d; exact Nat.le_refl _
  | succ n ih =>
    intro d
    have := ih (d + 1)
    unfold sy_
    split
    · rw [List.length_cons]; omega
    · omega
theorem ca_b (x : Int) : ∀ L : List Int, 0 ≤ ca_ x L ∧ ca_ x L ≤ L.length := by
  intro L
  induction L with
  | nil => exact ⟨Int.le_refl _, Int.le_refl _⟩
  | cons y r ih =>
    unfold ca_
    rw [List.length_cons]
    split <;> omega
theorem mx_b (L : List Int) : ∀ (r : List Int) (m : Int), 0 ≤ m → m ≤ L.length → 0 ≤ mx_ L r m ∧ mx_ L r m ≤ L.length := by
  intro r
  induction r with
  | nil => intro m h1 h2; exact ⟨h1, h2⟩
  | cons x r ih =>
    intro m h1 h2
    have := ca_b x L
    unfold mx_
    apply ih
    · split <;> omega
    · split <;> omega
/-- how many are left at worst, of a place -/
def wa_ (T Q : Tx) (i n pl : Int) : Int := mx_ (sy_ (ft_ T Q i) (fun d => Zs T (dW T i d n) (T 9 i) pl) 5 1) (sy_ (ft_ T Q i) (fun d => Zs T (dW T i d n) (T 9 i) pl) 5 1) 0
def bp_ (T Q : Tx) (i n : Int) : Int := fo_ (fun pl b => if wa_ T Q i n b ≤ wa_ T Q i n pl then b else pl) 4 1 0
theorem bit_t : ∀ a b c d e : Bool, ∀ f : Int → Bool, f 1 = a → f 2 = b → f 3 = c → f 4 = d → f 5 = e → ∀ x : Int, 1 ≤ x → x ≤ 5 → an_ (fo_ (fun d b => if f d then or_ b (bt_ d) else b) 5 1 0 / 2 ^ ((w32 (x - 1)) % 32 : Int).toNat) 1 = bz (f x) := by
  intro a b c d e f h1 h2 h3 h4 h5 x p q
  have hx : x = 1 ∨ x = 2 ∨ x = 3 ∨ x = 4 ∨ x = 5 := by omega
  show an_ ((if f (1 + 1 + 1 + 1 + 1) then or_ (if f (1 + 1 + 1 + 1) then or_ (if f (1 + 1 + 1) then or_ (if f (1 + 1) then or_ (if f 1 then or_ 0 (bt_ 1) else 0) (bt_ (1 + 1)) else (if f 1 then or_ 0 (bt_ 1) else 0)) (bt_ (1 + 1 + 1)) else (if f (1 + 1) then or_ (if f 1 then or_ 0 (bt_ 1) else 0) (bt_ (1 + 1)) else (if f 1 then or_ 0 (bt_ 1) else 0))) (bt_ (1 + 1 + 1 + 1)) else (if f (1 + 1 + 1) then or_ (if f (1 + 1) then or_ (if f 1 then or_ 0 (bt_ 1) else 0) (bt_ (1 + 1)) else (if f 1 then or_ 0 (bt_ 1) else 0)) (bt_ (1 + 1 + 1)) else (if f (1 + 1) then or_ (if f 1 then or_ 0 (bt_ 1) else 0) (bt_ (1 + 1)) else (if f 1 then or_ 0 (bt_ 1) else 0)))) (bt_ (1 + 1 + 1 + 1 + 1)) else (if f (1 + 1 + 1 + 1) then or_ (if f (1 + 1 + 1) then or_ (if f (1 + 1) then or_ (if f 1 then or_ 0 (bt_ 1) else 0) (bt_ (1 + 1)) else (if f 1 then or_ 0 (bt_ 1) else 0)) (bt_ (1 + 1 + 1)) else (if f (1 + 1) then or_ (if f 1 then or_ 0 (bt_ 1) else 0) (bt_ (1 + 1)) else (if f 1 then or_ 0 (bt_ 1) else 0))) (bt_ (1 + 1 + 1 + 1)) else (if f (1 + 1 + 1) then or_ (if f (1 + 1) then or_ (if f 1 then or_ 0 (bt_ 1) else 0) (bt_ (1 + 1)) else (if f 1 then or_ 0 (bt_ 1) else 0)) (bt_ (1 + 1 + 1)) else (if f (1 + 1) then or_ (if f 1 then or_ 0 (bt_ 1) else 0) (bt_ (1 + 1)) else (if f 1 then or_ 0 (bt_ 1) else 0))))) / 2 ^ ((w32 (x - 1)) % 32 : Int).toNat) 1 = bz (f x)
  rw [show (1 : Int) + 1 + 1 + 1 + 1 = 5 from rfl, show (1 : Int) + 1 + 1 + 1 = 4 from rfl, show (1 : Int) + 1 + 1 = 3 from rfl, show (1 : Int) + 1 = 2 from rfl, h1, h2, h3, h4, h5]
  rcases hx with hx | hx | hx | hx | hx <;> subst hx
  · rw [h1]; cases a <;> cases b <;> cases c <;> cases d <;> cases e <;> decide
  · rw [h2]; cases a <;> cases b <;> cases c <;> cases d <;> cases e <;> decide
  · rw [h3]; cases a <;> cases b <;> cases c <;> cases d <;> cases e <;> decide
  · rw [h4]; cases a <;> cases b <;> cases c <;> cases d <;> cases e <;> decide
  · rw [h5]; cases a <;> cases b <;> cases c <;> cases d <;> cases e <;> decide
theorem db_t (T Q : Tx) (i : Int) {x : Int} (p : 1 ≤ x) (q : x ≤ 5) : an_ (db_ T Q i / 2 ^ ((w32 (x - 1)) % 32 : Int).toNat) 1 = bz (ft_ T Q i x) := bit_t _ _ _ _ _ (ft_ T Q i) rfl rfl rfl rfl rfl x p q
