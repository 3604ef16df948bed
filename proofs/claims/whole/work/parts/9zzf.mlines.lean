/-! lines of a text in the reference: what a line is made of -/
/-- cells that reading a text leaves as they are -/
def pk_ (a k : Int) : Prop := (a ≠ 94 ∧ a ≠ 97 ∧ a ≠ 116 ∧ a ≠ 117 ∧ (a < 98 ∨ 115 < a)) ∨ (a = 98 ∧ k < 2) ∨ (99 ≤ a ∧ a ≤ 102 ∧ k < 4) ∨ (103 ≤ a ∧ a ≤ 105 ∧ k < 20) ∨ (106 ≤ a ∧ a ≤ 109 ∧ k < 14) ∨ (110 ≤ a ∧ a ≤ 112 ∧ k < 3) ∨ (113 ≤ a ∧ a ≤ 115 ∧ k < 64) ∨ (a = 94 ∧ ¬ (4 ≤ k ∧ k ≤ 11) ∧ ¬ (17 ≤ k ∧ k ≤ 21) ∧ ¬ (43 ≤ k ∧ k ≤ 48))
def fk_ (h h' : am_H) : Prop := h'.2 = h.2 ∧ ∀ a k, pk_ a k → rd_ h' a k = rd_ h a k
theorem fk_refl (h : am_H) : fk_ h h := ⟨rfl, fun _ _ _ => rfl⟩
theorem fk_t {h h1 h2 : am_H} (x : fk_ h h1) (y : fk_ h1 h2) : fk_ h h2 := ⟨y.1.trans x.1, fun a k q => (y.2 a k q).trans (x.2 a k q)⟩
theorem fk_w {h : am_H} {a k v : Int} (n : ¬ pk_ a k) : fk_ h (wr_ h a k v) := ⟨rfl, fun b j q => by
  rw [rd_wr, if_neg]
  intro e
  rw [e.1, e.2] at q
  exact n q⟩
/-- a token and its like -/
def fzY (h h' : am_H) : Prop := fz_ h h' (fun _ => False) (fun k => 4 ≤ k ∧ k ≤ 11)
theorem fzY_K {h h' : am_H} (x : fzK h h') : fzY h h' := fz_mo x (fun _ q => q) (fun k q => ⟨by omega, by omega⟩)
theorem fzY_k {h h' : am_H} (x : fzY h h') : fk_ h h' := ⟨x.1, fun a k q => by
  by_cases e : a = 94
  · rw [e]; exact x.2.2 k (by unfold pk_ at q; omega)
  · exact x.2.1 a (fun z => z) e k⟩
theorem fzY_t {h h1 h2 : am_H} (x : fzY h h1) (y : fzY h1 h2) : fzY h h2 := fz_tr x y
theorem fzY_w {h : am_H} {k v : Int} (a : 4 ≤ k) (b : k ≤ 11) : fzY h (wr_ h 94 k v) := fz_wf ⟨a, b⟩
/-- the text that is being read -/
def KR (h : am_H) (c i : Int) (hs : List Int) : Prop := rd_ h 113 (64 + i) = kc_ c ∧ (c < 0 → rd_ h 114 (64 + i) = -1 - c) ∧ (23 ≤ c ∧ c ≤ 29 → rd_ h 114 (64 + i) = c - 23) ∧ (c = 22 → rd_ h 114 (64 + i) = hs.headD 0) ∧ (20 ≤ c → ¬ (22 ≤ c ∧ c ≤ 29) → rd_ h 114 (64 + i) = hs.tail.headD 0 ∧ rd_ h 115 (64 + i) = hs.headD 0)
def MP (h : am_H) (T : Tx) (c s : Int) : Prop := ShM h ∧ (rd_ h 94 17 = T 0 0 ∧ rd_ h 94 18 = T 0 1 ∧ rd_ h 94 19 = T 0 2 ∧ rd_ h 94 20 = T 0 3 ∧ rd_ h 94 21 = T 0 4 ∧ rd_ h 94 46 = T 0 4) ∧ (rd_ h 97 0 = c ∧ rd_ h 97 1 = s ∧ rd_ h 98 2 = T 0 5 ∧ rd_ h 98 3 = T 0 6) ∧
  (∀ j, 0 ≤ j → j < T 0 0 → rd_ h 99 (4 + j) = T 1 j ∧ rd_ h 100 (4 + j) = T 2 j) ∧ (∀ j, 0 ≤ j → j < T 0 1 → rd_ h 101 (4 + j) = T 3 j ∧ rd_ h 102 (4 + j) = T 4 j) ∧ (∀ j, T 0 1 ≤ j → j < 4 → rd_ h 102 (4 + j) = 0) ∧
  (∀ p k, 0 ≤ p → p < T 0 1 → 0 ≤ k → k < T 4 p → rd_ h 103 (20 + (5 * p + k)) = T 6 (5 * p + k)) ∧ (∀ j, 0 ≤ j → j < T 0 2 → rd_ h 104 (20 + j) = T 5 j ∧ rd_ h 105 (20 + j) = T 7 j) ∧
  (∀ j, 0 ≤ j → j < T 0 3 → rd_ h 106 (14 + j) = T 8 j ∧ rd_ h 107 (14 + j) = T 9 j ∧ rd_ h 108 (14 + j) = T 10 j ∧ rd_ h 109 (14 + j) = T 11 j) ∧
  (∀ k, 0 ≤ k → k < 3 → rd_ h 110 (3 + k) = if T 13 k < T 14 k then 1 else 0) ∧ (∀ k, 0 ≤ k → k < 3 → T 13 k < T 14 k → rd_ h 111 (3 + k) = T 13 k ∧ rd_ h 112 (3 + k) = T 14 k) ∧
  ∀ k i, 0 ≤ k → k < 3 → T 13 k ≤ i → i < T 14 k → KR h (T 12 i) i (hpn (T 12) (i - T 13 k).toNat (T 13 k) [])
theorem KR_c {h h' : am_H} {c i : Int} {hs : List Int} (e : ∀ a, 113 ≤ a → a ≤ 115 → rd_ h' a (64 + i) = rd_ h a (64 + i)) (k : KR h c i hs) : KR h' c i hs := by
  unfold KR at *
  rw [e 113 (by omega) (by omega), e 114 (by omega) (by omega), e 115 (by omega) (by omega)]
  exact k
theorem MP_L {h h' : am_H} {T : Tx} {c s : Int} (m : MP h T c s) (x : fzY h h') : MP h' T c s := by
  obtain ⟨a0, a1, a2, a3, a4, a5, a6, a7, a8, a9, a10, a11⟩ := m
  have R : ∀ a, a ≠ 94 → ∀ k, rd_ h' a k = rd_ h a k := fun a q k => x.2.1 a (fun z => z) q k
  have S : ∀ k, 12 ≤ k → rd_ h' 94 k = rd_ h 94 k := fun k q => x.2.2 k (by omega)
  refine ⟨ShM_of x.1 a0, ?_, ?_, ?_, ?_, ?_, ?_, ?_, ?_, ?_, ?_, ?_⟩
  · rw [S 17 (by omega), S 18 (by omega), S 19 (by omega), S 20 (by omega), S 21 (by omega), S 46 (by omega)]; exact a1
  · rw [R 97 (by omega), R 97 (by omega), R 98 (by omega), R 98 (by omega)]; exact a2
  · intro j p q
    rw [R 99 (by omega), R 100 (by omega)]; exact a3 j p q
  · intro j p q
    rw [R 101 (by omega), R 102 (by omega)]; exact a4 j p q
  · intro j p q
    rw [R 102 (by omega)]; exact a5 j p q
  · intro p k p0 p1 k0 k1
    rw [R 103 (by omega)]; exact a6 p k p0 p1 k0 k1
  · intro j p q
    rw [R 104 (by omega), R 105 (by omega)]; exact a7 j p q
  · intro j p q
    rw [R 106 (by omega), R 107 (by omega), R 108 (by omega), R 109 (by omega)]; exact a8 j p q
  · intro j p q
    rw [R 110 (by omega)]; exact a9 j p q
  · intro j p q r
    rw [R 111 (by omega), R 112 (by omega)]; exact a10 j p q r
  · intro k i p q r u
    exact KR_c (fun a y z => R a (by omega) _) (a11 k i p q r u)
/-- a fault and its place -/
def mwE_ (h : am_H) (f p : Int) : Prop := rd_ h 94 4 = f ∧ rd_ h 94 5 = p
theorem MRk_2 {k v K X : Int} (m : MRk k v K X) : (k = 2 → K = 3 ∧ ((X = v ∧ 0 ≤ v) ∨ (99999 < X ∧ 99999 < v))) ∧ (k ≠ 2 → K ≠ 3) := by
  unfold MRk at m
  omega
theorem MRk_3 {k v K X : Int} (m : MRk k v K X) : (k = 3 → K = 2 ∧ X = v) ∧ (k ≠ 3 → K ≠ 2) := by
  unfold MRk at m
  omega
theorem MRk_0 {k v K X : Int} (m : MRk k v K X) : (k = 0 → K = 0) ∧ (k ≠ 0 → K ≠ 0) := by
  unfold MRk at m
  omega
theorem MRk_42 {k v K X : Int} (m : MRk k v K X) : (k = 42 → K = 4 ∧ X = 59) ∧ (k ≠ 42 → ¬ (K = 4 ∧ X = 59)) := by
  unfold MRk msg_ at m
  repeat' split at m
  all_goals omega
section
variable {B : Int → Int} {n p : Int} {h : am_H}
theorem Mo_wrong_s (f : Int) {q : Int} (e : rd_ h 94 10 = q) : ∃ h', Mo_wrong h 94 f = some (h', 0) ∧ mwE_ h' f q ∧ fzY h h' := by
  refine ⟨wr_ (wr_ h 94 4 f) 94 5 q, ?_, ⟨by rw [rd_wk (by omega), rd_ws], rd_ws _ _ _ _⟩, fzY_t (fzY_w (by omega) (by omega)) (fzY_w (by omega) (by omega))⟩
  rw [Mo_wrong_e, ck_t (by omega), ck_t (by omega), ck_t (by omega), rd_wk (by omega), e]
theorem Mo_wrongB (f : Int) {q : Int} (e : rd_ h 94 10 = q) : ∃ h', (bd_ (Mo_wrong h 94 f) fun h1 v2 => ck_ (v2 = 0 ∨ v2 = 1) (some (h1, v2))) = some (h', 0) ∧ mwE_ h' f q ∧ fzY h h' := by
  obtain ⟨h', a, b, c⟩ := Mo_wrong_s f e
  exact ⟨h', by rw [a, bd_v, ck_t (Or.inl rfl)], b, c⟩
theorem MR_11 {v : Int} (r : MR h B n p) : MR (wr_ h 94 11 v) B n p := ⟨MT_w r.1 (by omega), by rw [rd_wk (by omega)]; exact r.2.1, by rw [rd_wk (by omega), rd_wk (by omega)]; exact r.2.2⟩
/-- a number -/
theorem Mo_number_s {lo hi : Int} (r : MR h B n p) (l0 : 0 ≤ lo) (h9 : hi ≤ 99999) : ∃ h' v, Mo_number h 94 lo hi = some (h', v) ∧ fzY h h' ∧ ((nm_f B n p lo hi = 0 ∧ v = 1 ∧ MR h' B n (tk_n B n p) ∧ rd_ h' 94 11 = tk_v B n p) ∨ (nm_f B n p lo hi ≠ 0 ∧ v = 0 ∧ mwE_ h' (nm_f B n p lo hi) (tp_ B n p))) := by
  have m := MRk_2 r.2.2
  rw [Mo_number_e, ck_t (by omega)]
  unfold nm_f
  by_cases q : tk_k B n p = 2
  · obtain ⟨mk, mx⟩ := m.1 q
    rw [if_pos mk, if_pos q, ck_t (by omega)]
    by_cases y : lo ≤ tk_v B n p ∧ tk_v B n p ≤ hi
    · have ex : rd_ h 94 9 = tk_v B n p := by omega
      rw [ex, Mo_isIn_t y.1 y.2, bd_v, if_pos (c := (1 : Int) ≠ 0) (by omega), ex, if_neg (by omega), if_pos y.2]
      obtain ⟨h', a1, a2, a3⟩ := Mo_token_s (MR_11 (v := tk_v B n p) r).1
      rw [ck_t (by omega), ck_t (by omega), ck_t (by omega), a1, bd_v]
      exact ⟨h', 1, rfl, fzY_t (fzY_w (by omega) (by omega)) (fzY_K a3), Or.inl ⟨rfl, rfl, a2, by rw [a3.2.2 11 (by omega), rd_ws]⟩⟩
    · obtain ⟨h', a1, a2, a3⟩ := Mo_wrongB 2 r.2.1
      rw [Mo_isIn_f (by omega), bd_v, if_neg (c := (0 : Int) ≠ 0) (by omega), ck_t (by omega), a1]
      have ef : (if tk_v B n p < lo then (2 : Int) else if tk_v B n p ≤ hi then 0 else 2) = 2 := by
        by_cases z : tk_v B n p < lo
        · rw [if_pos z]
        · rw [if_neg z, if_neg (by omega)]
      rw [ef]
      exact ⟨h', 0, rfl, a3, Or.inr ⟨by omega, rfl, a2⟩⟩
  · obtain ⟨h', a1, a2, a3⟩ := Mo_wrongB 1 r.2.1
    rw [if_neg (m.2 q), if_neg q, ck_t (by omega), a1]
    exact ⟨h', 0, rfl, a3, Or.inr ⟨by omega, rfl, a2⟩⟩
theorem Mo_find_o {a N c b : Int} {P : Int → Int} (a0 : 0 ≤ a) (b0 : 0 ≤ b) (l : b + N ≤ ln_ h a) (l2 : b + N ≤ 1000) (r : ∀ j, 0 ≤ j → j < N → rd_ h a (b + j) = P j) : ∀ (m : Nat) (k : Int), 0 ≤ k → k + m = N → Mo_find_1 h a b N c k = some (h, fx_ P c m k) := by
  intro m
  induction m with
  | zero =>
    intro k k0 e
    rw [Mo_find_1_e, if_pos (by omega)]
    rfl
  | succ m ih =>
    intro k k0 e
    rw [Mo_find_1_e, if_neg (by omega), ck_t (by omega), w32_i (by omega) (by omega), ck_t (by omega), r k k0 (by omega), w32_i (by omega) (by omega), ih (k + 1) (by omega) (by omega)]
    have es : fx_ P c (m + 1) k = if P k = c then k else fx_ P c m (k + 1) := rfl
    rw [es]
    by_cases q : P k = c
    · rw [if_neg (fun z => z q), if_pos q]
    · rw [if_pos q, if_neg q]
end
