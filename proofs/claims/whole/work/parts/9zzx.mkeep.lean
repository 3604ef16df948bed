/-! a text kept in the reference -/
section
variable {h g : am_H} {T : Tx} {c s : Int}
theorem Mo_copies_lp {a N : Int} (a0 : 0 ≤ a) (N1 : N ≤ 1000) : ∀ (m : Nat) (k : Int) (g : am_H), 0 ≤ k → k + m = N → 2 * N ≤ ln_ g a → ∃ h', Mo_copies_1 g a N k = some (h', 0) ∧ h'.2 = g.2 ∧ (∀ j, k ≤ j → j < N → rd_ h' a j = rd_ g a (N + j)) ∧ ∀ b j, ¬ (b = a ∧ k ≤ j ∧ j < N) → rd_ h' b j = rd_ g b j := by
  intro m
  induction m with
  | zero =>
    intro k g k0 e l
    exact ⟨g, by rw [Mo_copies_1_e, if_pos (by omega)], rfl, fun j x y => by omega, fun _ _ _ => rfl⟩
  | succ m ih =>
    intro k g k0 e l
    obtain ⟨h', b1, b2, b3, b4⟩ := ih (k + 1) (wr_ g a k (rd_ g a (N + k))) (by omega) (by omega) (by rw [ln_wr]; exact l)
    refine ⟨h', ?_, b2, fun j x y => ?_, fun b j q => ?_⟩
    · rw [Mo_copies_1_e, if_neg (by omega), w32_i (x := N + k) (by omega) (by omega), w32_i (x := k + 1) (by omega) (by omega)]
      repeat rw [ck_t (by omega)]
      exact b1
    · by_cases q : j = k
      · rw [b4 a j (by omega), q, rd_ws]
      · rw [b3 j (by omega) y, rd_wk (by omega)]
    · rw [b4 b j (by omega), rd_wr, if_neg (by omega)]
def nkp_ (a : Int) : Int := if a = 98 then 2 else if a ≤ 102 then 4 else if a ≤ 105 then 20 else if a ≤ 109 then 14 else if a ≤ 112 then 3 else 64
/-- rows 98 .. A - 1 are copied -/
def CPk (h g : am_H) (A : Int) : Prop := g.2 = h.2 ∧ (∀ a j, 98 ≤ a → a < A → 0 ≤ j → j < nkp_ a → rd_ g a j = rd_ h a (nkp_ a + j)) ∧ ∀ a j, ¬ (98 ≤ a ∧ a < A ∧ 0 ≤ j ∧ j < nkp_ a) → rd_ g a j = rd_ h a j
theorem CPk_0 : CPk h h 98 := ⟨rfl, fun a j x y => by omega, fun _ _ _ => rfl⟩
theorem CPk_g {g' : am_H} {A A' : Int} (eA : A' = A + 1) (A0 : 98 ≤ A) (n0 : 0 ≤ nkp_ A) (x : CPk h g A) (e : g'.2 = g.2) (r : ∀ j, 0 ≤ j → j < nkp_ A → rd_ g' A j = rd_ g A (nkp_ A + j)) (f : ∀ b j, ¬ (b = A ∧ 0 ≤ j ∧ j < nkp_ A) → rd_ g' b j = rd_ g b j) : CPk h g' A' := by
  subst eA
  obtain ⟨x1, x2, x3⟩ := x
  refine ⟨e.trans x1, fun a j p q u v => ?_, fun a j q => ?_⟩
  · by_cases z : a = A
    · rw [z] at v ⊢
      rw [r j u v, x3 A _ (by omega)]
    · rw [f a j (by omega), x2 a j p (by omega) u v]
  · by_cases z : a = A
    · rw [z] at q ⊢
      rw [f A j (by omega), x3 A j (by omega)]
    · rw [f a j (by omega), x3 a j (by omega)]
theorem CPk_s {A A' : Int} (eA : A' = A + 1) (A0 : 98 ≤ A) (n0 : 0 ≤ nkp_ A) (n1 : nkp_ A ≤ 64) (l : ln_ h A = 2 * nkp_ A) (x : CPk h g A) : ∃ g', Mo_copies g A (nkp_ A) = some (g', 0) ∧ CPk h g' A' := by
  have lg : ln_ g A = ln_ h A := by unfold ln_; rw [x.1]
  obtain ⟨g', b1, b2, b3, b4⟩ := Mo_copies_lp (a := A) (N := nkp_ A) (by omega) (by omega) (nkp_ A).toNat 0 g (by omega) (by omega) (by omega)
  exact ⟨g', by rw [Mo_copies_e]; exact b1, CPk_g eA A0 n0 x b2 b3 b4⟩
theorem nkp_98 : nkp_ 98 = 2 := by decide
theorem nkp_99 : nkp_ 99 = 4 := by decide
theorem nkp_100 : nkp_ 100 = 4 := by decide
theorem nkp_101 : nkp_ 101 = 4 := by decide
theorem nkp_102 : nkp_ 102 = 4 := by decide
theorem nkp_103 : nkp_ 103 = 20 := by decide
theorem nkp_104 : nkp_ 104 = 20 := by decide
theorem nkp_105 : nkp_ 105 = 20 := by decide
theorem nkp_106 : nkp_ 106 = 14 := by decide
theorem nkp_107 : nkp_ 107 = 14 := by decide
theorem nkp_108 : nkp_ 108 = 14 := by decide
theorem nkp_109 : nkp_ 109 = 14 := by decide
theorem nkp_110 : nkp_ 110 = 3 := by decide
theorem nkp_111 : nkp_ 111 = 3 := by decide
theorem nkp_112 : nkp_ 112 = 3 := by decide
theorem nkp_113 : nkp_ 113 = 64 := by decide
theorem nkp_114 : nkp_ 114 = 64 := by decide
theorem nkp_115 : nkp_ 115 = 64 := by decide
theorem CPk_98 (s : ShM h) (x : CPk h g 98) : ∃ g', Mo_copies g 98 2 = some (g', 0) ∧ CPk h g' 99 := by
  have y := CPk_s (A := 98) (A' := 99) (by omega) (by omega) (by rw [nkp_98]; omega) (by rw [nkp_98]; omega) (by have := ml98 s; rw [nkp_98]; omega) x
  rw [nkp_98] at y
  exact y
theorem CPk_99 (s : ShM h) (x : CPk h g 99) : ∃ g', Mo_copies g 99 4 = some (g', 0) ∧ CPk h g' 100 := by
  have y := CPk_s (A := 99) (A' := 100) (by omega) (by omega) (by rw [nkp_99]; omega) (by rw [nkp_99]; omega) (by have := ml99 s; rw [nkp_99]; omega) x
  rw [nkp_99] at y
  exact y
theorem CPk_100 (s : ShM h) (x : CPk h g 100) : ∃ g', Mo_copies g 100 4 = some (g', 0) ∧ CPk h g' 101 := by
  have y := CPk_s (A := 100) (A' := 101) (by omega) (by omega) (by rw [nkp_100]; omega) (by rw [nkp_100]; omega) (by have := ml100 s; rw [nkp_100]; omega) x
  rw [nkp_100] at y
  exact y
theorem CPk_101 (s : ShM h) (x : CPk h g 101) : ∃ g', Mo_copies g 101 4 = some (g', 0) ∧ CPk h g' 102 := by
  have y := CPk_s (A := 101) (A' := 102) (by omega) (by omega) (by rw [nkp_101]; omega) (by rw [nkp_101]; omega) (by have := ml101 s; rw [nkp_101]; omega) x
  rw [nkp_101] at y
  exact y
theorem CPk_102 (s : ShM h) (x : CPk h g 102) : ∃ g', Mo_copies g 102 4 = some (g', 0) ∧ CPk h g' 103 := by
  have y := CPk_s (A := 102) (A' := 103) (by omega) (by omega) (by rw [nkp_102]; omega) (by rw [nkp_102]; omega) (by have := ml102 s; rw [nkp_102]; omega) x
  rw [nkp_102] at y
  exact y
theorem CPk_103 (s : ShM h) (x : CPk h g 103) : ∃ g', Mo_copies g 103 20 = some (g', 0) ∧ CPk h g' 104 := by
  have y := CPk_s (A := 103) (A' := 104) (by omega) (by omega) (by rw [nkp_103]; omega) (by rw [nkp_103]; omega) (by have := ml103 s; rw [nkp_103]; omega) x
  rw [nkp_103] at y
  exact y
theorem CPk_104 (s : ShM h) (x : CPk h g 104) : ∃ g', Mo_copies g 104 20 = some (g', 0) ∧ CPk h g' 105 := by
  have y := CPk_s (A := 104) (A' := 105) (by omega) (by omega) (by rw [nkp_104]; omega) (by rw [nkp_104]; omega) (by have := ml104 s; rw [nkp_104]; omega) x
  rw [nkp_104] at y
  exact y
theorem CPk_105 (s : ShM h) (x : CPk h g 105) : ∃ g', Mo_copies g 105 20 = some (g', 0) ∧ CPk h g' 106 := by
  have y := CPk_s (A := 105) (A' := 106) (by omega) (by omega) (by rw [nkp_105]; omega) (by rw [nkp_105]; omega) (by have := ml105 s; rw [nkp_105]; omega) x
  rw [nkp_105] at y
  exact y
theorem CPk_106 (s : ShM h) (x : CPk h g 106) : ∃ g', Mo_copies g 106 14 = some (g', 0) ∧ CPk h g' 107 := by
  have y := CPk_s (A := 106) (A' := 107) (by omega) (by omega) (by rw [nkp_106]; omega) (by rw [nkp_106]; omega) (by have := ml106 s; rw [nkp_106]; omega) x
  rw [nkp_106] at y
  exact y
theorem CPk_107 (s : ShM h) (x : CPk h g 107) : ∃ g', Mo_copies g 107 14 = some (g', 0) ∧ CPk h g' 108 := by
  have y := CPk_s (A := 107) (A' := 108) (by omega) (by omega) (by rw [nkp_107]; omega) (by rw [nkp_107]; omega) (by have := ml107 s; rw [nkp_107]; omega) x
  rw [nkp_107] at y
  exact y
theorem CPk_108 (s : ShM h) (x : CPk h g 108) : ∃ g', Mo_copies g 108 14 = some (g', 0) ∧ CPk h g' 109 := by
  have y := CPk_s (A := 108) (A' := 109) (by omega) (by omega) (by rw [nkp_108]; omega) (by rw [nkp_108]; omega) (by have := ml108 s; rw [nkp_108]; omega) x
  rw [nkp_108] at y
  exact y
theorem CPk_109 (s : ShM h) (x : CPk h g 109) : ∃ g', Mo_copies g 109 14 = some (g', 0) ∧ CPk h g' 110 := by
  have y := CPk_s (A := 109) (A' := 110) (by omega) (by omega) (by rw [nkp_109]; omega) (by rw [nkp_109]; omega) (by have := ml109 s; rw [nkp_109]; omega) x
  rw [nkp_109] at y
  exact y
theorem CPk_111 (s : ShM h) (x : CPk h g 111) : ∃ g', Mo_copies g 111 3 = some (g', 0) ∧ CPk h g' 112 := by
  have y := CPk_s (A := 111) (A' := 112) (by omega) (by omega) (by rw [nkp_111]; omega) (by rw [nkp_111]; omega) (by have := ml111 s; rw [nkp_111]; omega) x
  rw [nkp_111] at y
  exact y
theorem CPk_112 (s : ShM h) (x : CPk h g 112) : ∃ g', Mo_copies g 112 3 = some (g', 0) ∧ CPk h g' 113 := by
  have y := CPk_s (A := 112) (A' := 113) (by omega) (by omega) (by rw [nkp_112]; omega) (by rw [nkp_112]; omega) (by have := ml112 s; rw [nkp_112]; omega) x
  rw [nkp_112] at y
  exact y
theorem CPk_113 (s : ShM h) (x : CPk h g 113) : ∃ g', Mo_copies g 113 64 = some (g', 0) ∧ CPk h g' 114 := by
  have y := CPk_s (A := 113) (A' := 114) (by omega) (by omega) (by rw [nkp_113]; omega) (by rw [nkp_113]; omega) (by have := ml113 s; rw [nkp_113]; omega) x
  rw [nkp_113] at y
  exact y
theorem CPk_114 (s : ShM h) (x : CPk h g 114) : ∃ g', Mo_copies g 114 64 = some (g', 0) ∧ CPk h g' 115 := by
  have y := CPk_s (A := 114) (A' := 115) (by omega) (by omega) (by rw [nkp_114]; omega) (by rw [nkp_114]; omega) (by have := ml114 s; rw [nkp_114]; omega) x
  rw [nkp_114] at y
  exact y
theorem CPk_115 (s : ShM h) (x : CPk h g 115) : ∃ g', Mo_copies g 115 64 = some (g', 0) ∧ CPk h g' 116 := by
  have y := CPk_s (A := 115) (A' := 116) (by omega) (by omega) (by rw [nkp_115]; omega) (by rw [nkp_115]; omega) (by have := ml115 s; rw [nkp_115]; omega) x
  rw [nkp_115] at y
  exact y
/-- the row of what is told of laws -/
theorem CPk_110 (s : ShM h) (x : CPk h g 110) (u : ∀ k, 0 ≤ k → k < 3 → rd_ h 110 (3 + k) = 0 ∨ rd_ h 110 (3 + k) = 1) : ∃ g', Mo_keepText_2 g 94 0 = Mo_keepText_2 g' 94 3 ∧ CPk h g' 111 := by
  have x3 := x.2.2
  have st : ∀ f (i j l : Int), f.2 = h.2 → 0 ≤ i → i < 3 → j = i + 1 → l = 3 + i → rd_ f 110 l = rd_ h 110 l → Mo_keepText_2 f 94 i = Mo_keepText_2 (wr_ f 110 i (rd_ h 110 l)) 94 j := fun f i j l sg a b e e2 e3 => by
    have sf := ShM_of sg s
    have := u i a b
    rw [← e2] at this
    rw [Mo_keepText_2_e, if_neg (by omega), mr35 sf, ml110 sf, w32_i (x := i + 1) (by omega) (by omega), w32_i (x := 3 + i) (by omega) (by omega), ← e, ← e2, e3]
    repeat rw [ck_t (by omega)]
  have r : ∀ l : Int, 3 ≤ l → rd_ g 110 l = rd_ h 110 l := fun l q => x3 110 l (by omega)
  refine ⟨wr_ (wr_ (wr_ g 110 0 (rd_ h 110 3)) 110 1 (rd_ h 110 4)) 110 2 (rd_ h 110 5), ?_, CPk_g (A := 110) (A' := 111) (by omega) (by omega) (by rw [nkp_110]; omega) x rfl (fun j a b => ?_) (fun b j q => ?_)⟩
  · rw [st g 0 1 3 x.1 (by omega) (by omega) rfl rfl (r 3 (by omega)), st (wr_ g 110 0 (rd_ h 110 3)) 1 2 4 x.1 (by omega) (by omega) rfl rfl (by rw [rd_wk (by omega)]; exact r 4 (by omega)), st (wr_ (wr_ g 110 0 (rd_ h 110 3)) 110 1 (rd_ h 110 4)) 2 3 5 x.1 (by omega) (by omega) rfl rfl (by rw [rd_wk (by omega), rd_wk (by omega)]; exact r 5 (by omega))]
  · rw [nkp_110] at b ⊢
    have : j = 0 ∨ j = 1 ∨ j = 2 := by omega
    rcases this with e | e | e
    · rw [e, rd_wk (by omega), rd_wk (by omega), rd_ws]; exact (r 3 (by omega)).symm
    · rw [e, rd_wk (by omega), rd_ws]; exact (r 4 (by omega)).symm
    · rw [e, rd_ws]; exact (r 5 (by omega)).symm
  · rw [nkp_110] at q
    rw [rd_wr, if_neg (by omega), rd_wr, if_neg (by omega), rd_wr, if_neg (by omega)]
/-- the second halves come to be the first ones -/
theorem Mo_keepC_s (m : MP h T c s) : ∃ h0 h1, h0.2 = h.2 ∧ (rd_ h0 94 12 = T 0 0 ∧ rd_ h0 94 13 = T 0 1 ∧ rd_ h0 94 14 = T 0 2 ∧ rd_ h0 94 15 = T 0 3 ∧ rd_ h0 94 16 = T 0 4) ∧ (∀ a k, ¬ (a = 94 ∧ 12 ≤ k ∧ k ≤ 16) → rd_ h0 a k = rd_ h a k) ∧ CPk h0 h1 116 ∧ Mo_keepText h 94 = bd_ (Mo_begin h1 94) fun h11 _ => some (h11, 0) := by
  obtain ⟨a0, ⟨b0, b1, b2, b3, b4, b5⟩, a2, a3, a4, a5, a6, a7, a8, a9, a10, a11⟩ := m
  have F0 : fp_ h (wr_ (wr_ (wr_ (wr_ (wr_ h 94 12 (T 0 0)) 94 13 (T 0 1)) 94 14 (T 0 2)) 94 15 (T 0 3)) 94 16 (T 0 4)) (fun a k => a = 94 ∧ 12 ≤ k ∧ k ≤ 16) := fp_t (fp_t (fp_t (fp_t (fp_w ⟨rfl, by omega, by omega⟩) (fp_w ⟨rfl, by omega, by omega⟩)) (fp_w ⟨rfl, by omega, by omega⟩)) (fp_w ⟨rfl, by omega, by omega⟩)) (fp_w ⟨rfl, by omega, by omega⟩)
  have z12 : rd_ (wr_ (wr_ (wr_ (wr_ (wr_ h 94 12 (T 0 0)) 94 13 (T 0 1)) 94 14 (T 0 2)) 94 15 (T 0 3)) 94 16 (T 0 4)) 94 12 = T 0 0 := by rw [rd_wk (by omega), rd_wk (by omega), rd_wk (by omega), rd_wk (by omega), rd_ws]
  have z13 : rd_ (wr_ (wr_ (wr_ (wr_ (wr_ h 94 12 (T 0 0)) 94 13 (T 0 1)) 94 14 (T 0 2)) 94 15 (T 0 3)) 94 16 (T 0 4)) 94 13 = T 0 1 := by rw [rd_wk (by omega), rd_wk (by omega), rd_wk (by omega), rd_ws]
  have z14 : rd_ (wr_ (wr_ (wr_ (wr_ (wr_ h 94 12 (T 0 0)) 94 13 (T 0 1)) 94 14 (T 0 2)) 94 15 (T 0 3)) 94 16 (T 0 4)) 94 14 = T 0 2 := by rw [rd_wk (by omega), rd_wk (by omega), rd_ws]
  have z15 : rd_ (wr_ (wr_ (wr_ (wr_ (wr_ h 94 12 (T 0 0)) 94 13 (T 0 1)) 94 14 (T 0 2)) 94 15 (T 0 3)) 94 16 (T 0 4)) 94 15 = T 0 3 := by rw [rd_wk (by omega), rd_ws]
  have z16 : rd_ (wr_ (wr_ (wr_ (wr_ (wr_ h 94 12 (T 0 0)) 94 13 (T 0 1)) 94 14 (T 0 2)) 94 15 (T 0 3)) 94 16 (T 0 4)) 94 16 = T 0 4 := rd_ws _ _ _ _
  have s0 : ShM (wr_ (wr_ (wr_ (wr_ (wr_ h 94 12 (T 0 0)) 94 13 (T 0 1)) 94 14 (T 0 2)) 94 15 (T 0 3)) 94 16 (T 0 4)) := ShM_of rfl a0
  have e18 : rd_ (wr_ h 94 12 (T 0 0)) 94 18 = T 0 1 := by rw [rd_wk (by omega)]; exact b1
  have e19 : rd_ (wr_ (wr_ h 94 12 (T 0 0)) 94 13 (T 0 1)) 94 19 = T 0 2 := by rw [rd_wk (by omega), rd_wk (by omega)]; exact b2
  have e20 : rd_ (wr_ (wr_ (wr_ h 94 12 (T 0 0)) 94 13 (T 0 1)) 94 14 (T 0 2)) 94 20 = T 0 3 := by rw [rd_wk (by omega), rd_wk (by omega), rd_wk (by omega)]; exact b3
  have e21 : rd_ (wr_ (wr_ (wr_ (wr_ h 94 12 (T 0 0)) 94 13 (T 0 1)) 94 14 (T 0 2)) 94 15 (T 0 3)) 94 21 = T 0 4 := by rw [rd_wk (by omega), rd_wk (by omega), rd_wk (by omega), rd_wk (by omega)]; exact b4
  rw [Mo_keepText_e]
  simp only [b0, e18, e19, e20, e21]
  repeat rw [ck_t (by omega)]
  rw [mr23 a0]
  have e2 : (wr_ (wr_ (wr_ (wr_ (wr_ h 94 12 (T 0 0)) 94 13 (T 0 1)) 94 14 (T 0 2)) 94 15 (T 0 3)) 94 16 (T 0 4)).2 = h.2 := rfl
  generalize wr_ (wr_ (wr_ (wr_ (wr_ h 94 12 (T 0 0)) 94 13 (T 0 1)) 94 14 (T 0 2)) 94 15 (T 0 3)) 94 16 (T 0 4) = h0 at F0 z12 z13 z14 z15 z16 s0 e2 ⊢
  clear e18 e19 e20 e21
  obtain ⟨g98, i98, c98⟩ := CPk_98 s0 CPk_0
  rw [i98, bd_v, ck_t (by omega)]
  obtain ⟨g99, i99, c99⟩ := CPk_99 s0 c98
  rw [mr24 (ShM_of c98.1 s0), i99, bd_v, ck_t (by omega)]
  obtain ⟨g100, i100, c100⟩ := CPk_100 s0 c99
  rw [mr25 (ShM_of c99.1 s0), i100, bd_v, ck_t (by omega)]
  obtain ⟨g101, i101, c101⟩ := CPk_101 s0 c100
  rw [mr26 (ShM_of c100.1 s0), i101, bd_v, ck_t (by omega)]
  obtain ⟨g102, i102, c102⟩ := CPk_102 s0 c101
  rw [mr27 (ShM_of c101.1 s0), i102, bd_v, ck_t (by omega)]
  obtain ⟨g103, i103, c103⟩ := CPk_103 s0 c102
  rw [mr28 (ShM_of c102.1 s0), i103, bd_v, ck_t (by omega)]
  obtain ⟨g104, i104, c104⟩ := CPk_104 s0 c103
  rw [mr29 (ShM_of c103.1 s0), i104, bd_v, ck_t (by omega)]
  obtain ⟨g105, i105, c105⟩ := CPk_105 s0 c104
  rw [mr30 (ShM_of c104.1 s0), i105, bd_v, ck_t (by omega)]
  obtain ⟨g106, i106, c106⟩ := CPk_106 s0 c105
  rw [mr31 (ShM_of c105.1 s0), i106, bd_v, ck_t (by omega)]
  obtain ⟨g107, i107, c107⟩ := CPk_107 s0 c106
  rw [mr32 (ShM_of c106.1 s0), i107, bd_v, ck_t (by omega)]
  obtain ⟨g108, i108, c108⟩ := CPk_108 s0 c107
  rw [mr33 (ShM_of c107.1 s0), i108, bd_v, ck_t (by omega)]
  obtain ⟨g109, i109, c109⟩ := CPk_109 s0 c108
  rw [mr34 (ShM_of c108.1 s0), i109, bd_v]
  obtain ⟨g110, i110, c110⟩ := CPk_110 s0 c109 (fun k k0 k1 => by
    rw [F0.2 110 _ (by omega), a9 k k0 k1]
    by_cases q : T 13 k < T 14 k
    · rw [if_pos q]; exact Or.inr rfl
    · rw [if_neg q]; exact Or.inl rfl)
  rw [i110, Mo_keepText_2_e, if_pos (by omega), ck_t (by omega)]
  obtain ⟨g111, i111, c111⟩ := CPk_111 s0 c110
  rw [mr36 (ShM_of c110.1 s0), i111, bd_v, ck_t (by omega)]
  obtain ⟨g112, i112, c112⟩ := CPk_112 s0 c111
  rw [mr37 (ShM_of c111.1 s0), i112, bd_v, ck_t (by omega)]
  obtain ⟨g113, i113, c113⟩ := CPk_113 s0 c112
  rw [mr38 (ShM_of c112.1 s0), i113, bd_v, ck_t (by omega)]
  obtain ⟨g114, i114, c114⟩ := CPk_114 s0 c113
  rw [mr39 (ShM_of c113.1 s0), i114, bd_v, ck_t (by omega)]
  obtain ⟨g115, i115, c115⟩ := CPk_115 s0 c114
  rw [mr40 (ShM_of c114.1 s0), i115, bd_v, ck_t (by omega)]
  exact ⟨h0, g115, e2, ⟨z12, z13, z14, z15, z16⟩, F0.2, c115, rfl⟩
end
