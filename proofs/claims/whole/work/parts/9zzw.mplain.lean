/-! a text begun in the reference: all is cleared -/
section
variable {h : am_H}
/-- the cells of P alone have changed -/
def fp_ (h h' : am_H) (P : Int → Int → Prop) : Prop := h'.2 = h.2 ∧ ∀ a k, ¬ P a k → rd_ h' a k = rd_ h a k
theorem fp_w {h : am_H} {a k v : Int} {P : Int → Int → Prop} (q : P a k) : fp_ h (wr_ h a k v) P := ⟨rfl, fun b j z => by
  rw [rd_wr, if_neg]
  intro e
  rw [e.1, e.2] at z
  exact z q⟩
theorem fp_t {h h1 h2 : am_H} {P : Int → Int → Prop} (x : fp_ h h1 P) (y : fp_ h1 h2 P) : fp_ h h2 P := ⟨y.1.trans x.1, fun a k q => (y.2 a k q).trans (x.2 a k q)⟩
theorem fp_k {h h1 : am_H} {P : Int → Int → Prop} (x : fp_ h h1 P) (y : ∀ a k, P a k → ¬ pk_ a k) : fk_ h h1 := ⟨x.1, fun a k q => x.2 a k (fun z => y a k z q)⟩
theorem Mo_plain_7_s (s : ShM h) : ∃ h', Mo_plain_7 h 94 3 = some (h', 0) ∧ (∀ k, 0 ≤ k → k < 3 → rd_ h' 110 (3 + k) = 0) ∧ fp_ h h' (fun a k => a = 110 ∧ 3 ≤ k) := by
  have e5 : ∀ g, ShM g → Mo_plain_7 g 94 6 = some (g, 0) := fun g _ => by rw [Mo_plain_7_e, if_pos (by omega)]
  have st : ∀ g (i j : Int), ShM g → 3 ≤ i → i < 6 → j = i + 1 → Mo_plain_7 g 94 i = Mo_plain_7 (wr_ g 110 i 0) 94 j := fun g i j sg a b e => by
    rw [Mo_plain_7_e, if_neg (by omega), mr35 sg, ml110 sg, w32_i (x := i + 1) (by omega) (by omega), ← e]
    repeat rw [ck_t (by omega)]
  refine ⟨wr_ (wr_ (wr_ h 110 3 0) 110 4 0) 110 5 0, ?_, fun k a b => ?_, fp_t (fp_t (fp_w ⟨rfl, by omega⟩) (fp_w ⟨rfl, by omega⟩)) (fp_w ⟨rfl, by omega⟩)⟩
  · rw [st h 3 4 s (by omega) (by omega) rfl, st (wr_ h 110 3 0) 4 5 (ShM_of (h := h) rfl s) (by omega) (by omega) rfl, st (wr_ (wr_ h 110 3 0) 110 4 0) 5 6 (ShM_of (h := h) rfl s) (by omega) (by omega) rfl]
    exact e5 _ (ShM_of (h := h) rfl s)
  · have : k = 0 ∨ k = 1 ∨ k = 2 := by omega
    rcases this with e | e | e
    · rw [e, rd_wk (by omega), rd_wk (by omega)]; exact rd_ws _ _ _ _
    · rw [e, rd_wk (by omega)]; exact rd_ws _ _ _ _
    · rw [e]; exact rd_ws _ _ _ _
theorem Mo_plain_4_s (s : ShM h) : ∃ h', Mo_plain_4 h 94 4 = Mo_plain_7 h' 94 3 ∧ (∀ k, 0 ≤ k → k < 4 → rd_ h' 102 (4 + k) = 0) ∧ fp_ h h' (fun a k => a = 102 ∧ 4 ≤ k) := by
  have st : ∀ g (i j : Int), ShM g → 4 ≤ i → i < 8 → j = i + 1 → Mo_plain_4 g 94 i = Mo_plain_4 (wr_ g 102 i 0) 94 j := fun g i j sg a b e => by
    rw [Mo_plain_4_e, if_neg (by omega), mr27 sg, ml102 sg, w32_i (x := i + 1) (by omega) (by omega), ← e]
    repeat rw [ck_t (by omega)]
  refine ⟨wr_ (wr_ (wr_ (wr_ h 102 4 0) 102 5 0) 102 6 0) 102 7 0, ?_, fun k a b => ?_, fp_t (fp_t (fp_t (fp_w ⟨rfl, by omega⟩) (fp_w ⟨rfl, by omega⟩)) (fp_w ⟨rfl, by omega⟩)) (fp_w ⟨rfl, by omega⟩)⟩
  · rw [st h 4 5 s (by omega) (by omega) rfl, st (wr_ h 102 4 0) 5 6 (ShM_of (h := h) rfl s) (by omega) (by omega) rfl, st (wr_ (wr_ h 102 4 0) 102 5 0) 6 7 (ShM_of (h := h) rfl s) (by omega) (by omega) rfl, st (wr_ (wr_ (wr_ h 102 4 0) 102 5 0) 102 6 0) 7 8 (ShM_of (h := h) rfl s) (by omega) (by omega) rfl, Mo_plain_4_e, if_pos (by omega)]
  · have : k = 0 ∨ k = 1 ∨ k = 2 ∨ k = 3 := by omega
    rcases this with e | e | e | e
    · rw [e, rd_wk (by omega), rd_wk (by omega), rd_wk (by omega)]; exact rd_ws _ _ _ _
    · rw [e, rd_wk (by omega), rd_wk (by omega)]; exact rd_ws _ _ _ _
    · rw [e, rd_wk (by omega)]; exact rd_ws _ _ _ _
    · rw [e]; exact rd_ws _ _ _ _
theorem Mo_plain_1_s (s : ShM h) : ∃ h', Mo_plain_1 h 94 0 = Mo_plain_4 h' 94 4 ∧ (rd_ h' 97 0 = 0 ∧ rd_ h' 97 1 = 0 ∧ rd_ h' 98 2 = 0 ∧ rd_ h' 98 3 = 0) ∧ fp_ h h' (fun a k => a = 97 ∨ (a = 98 ∧ 2 ≤ k)) := by
  have st : ∀ g (i j l : Int), ShM g → 0 ≤ i → i < 2 → j = i + 1 → l = 2 + i → Mo_plain_1 g 94 i = Mo_plain_1 (wr_ (wr_ g 97 i 0) 98 l 0) 94 j := fun g i j l sg a b e e2 => by
    rw [Mo_plain_1_e, if_neg (by omega), mr22 sg, ml97 sg, mr23 sg, ml98 sg, w32_i (x := i + 1) (by omega) (by omega), w32_i (x := 2 + i) (by omega) (by omega), ← e, ← e2]
    repeat rw [ck_t (by omega)]
  refine ⟨wr_ (wr_ (wr_ (wr_ h 97 0 0) 98 2 0) 97 1 0) 98 3 0, ?_, ⟨?_, ?_, ?_, ?_⟩, fp_t (fp_t (fp_t (fp_w (Or.inl rfl)) (fp_w (Or.inr ⟨rfl, by omega⟩))) (fp_w (Or.inl rfl))) (fp_w (Or.inr ⟨rfl, by omega⟩))⟩
  · rw [st h 0 1 2 s (by omega) (by omega) rfl rfl, st (wr_ (wr_ h 97 0 0) 98 2 0) 1 2 3 (ShM_of (h := h) rfl s) (by omega) (by omega) rfl rfl, Mo_plain_1_e, if_pos (by omega)]
  · rw [rd_wo (by omega), rd_wk (by omega), rd_wo (by omega), rd_ws]
  · rw [rd_wo (by omega), rd_ws]
  · rw [rd_wk (by omega), rd_wo (by omega), rd_ws]
  · rw [rd_ws]
theorem Mo_plain_s (s : ShM h) : ∃ h', Mo_plain h 94 = some (h', 0) ∧ MP h' emT 0 0 ∧ fk_ h h' ∧ ∀ k, k < 17 → rd_ h' 94 k = rd_ h 94 k := by
  have F0 : fp_ h (wr_ (wr_ (wr_ (wr_ (wr_ (wr_ h 94 17 0) 94 18 0) 94 19 0) 94 20 0) 94 21 0) 94 46 0) (fun a k => a = 94 ∧ (17 ≤ k ∧ k ≤ 21 ∨ k = 46)) := fp_t (fp_t (fp_t (fp_t (fp_t (fp_w ⟨rfl, by omega⟩) (fp_w ⟨rfl, by omega⟩)) (fp_w ⟨rfl, by omega⟩)) (fp_w ⟨rfl, by omega⟩)) (fp_w ⟨rfl, by omega⟩)) (fp_w ⟨rfl, by omega⟩)
  have z : ∀ k, (17 ≤ k ∧ k ≤ 21 ∨ k = 46) → rd_ (wr_ (wr_ (wr_ (wr_ (wr_ (wr_ h 94 17 0) 94 18 0) 94 19 0) 94 20 0) 94 21 0) 94 46 0) 94 k = 0 := fun k q => by
    have : k = 17 ∨ k = 18 ∨ k = 19 ∨ k = 20 ∨ k = 21 ∨ k = 46 := by omega
    rcases this with e | e | e | e | e | e
    · rw [e, rd_wk (by omega), rd_wk (by omega), rd_wk (by omega), rd_wk (by omega), rd_wk (by omega), rd_ws]
    · rw [e, rd_wk (by omega), rd_wk (by omega), rd_wk (by omega), rd_wk (by omega), rd_ws]
    · rw [e, rd_wk (by omega), rd_wk (by omega), rd_wk (by omega), rd_ws]
    · rw [e, rd_wk (by omega), rd_wk (by omega), rd_ws]
    · rw [e, rd_wk (by omega), rd_ws]
    · rw [e, rd_ws]
  have s0 : ShM (wr_ (wr_ (wr_ (wr_ (wr_ (wr_ h 94 17 0) 94 18 0) 94 19 0) 94 20 0) 94 21 0) 94 46 0) := ShM_of rfl s
  rw [Mo_plain_e]
  repeat rw [ck_t (by omega)]
  generalize wr_ (wr_ (wr_ (wr_ (wr_ (wr_ h 94 17 0) 94 18 0) 94 19 0) 94 20 0) 94 21 0) 94 46 0 = g0 at F0 z s0 ⊢
  obtain ⟨g1, a1, a2, a3⟩ := Mo_plain_1_s s0
  obtain ⟨g2, b1, b2, b3⟩ := Mo_plain_4_s (ShM_of a3.1 s0)
  obtain ⟨g3, c1, c2, c3⟩ := Mo_plain_7_s (ShM_of b3.1 (ShM_of a3.1 s0))
  have z3 : ∀ k, rd_ g3 94 k = rd_ g0 94 k := fun k => by rw [c3.2 94 k (by omega), b3.2 94 k (by omega), a3.2 94 k (by omega)]
  refine ⟨g3, by rw [a1, b1]; exact c1, ⟨ShM_of c3.1 (ShM_of b3.1 (ShM_of a3.1 s0)), ?_, ?_, ?_, ?_, ?_, ?_, ?_, ?_, ?_, ?_, ?_⟩, ?_, fun k q => by rw [z3, F0.2 94 k (by omega)]⟩
  · rw [z3, z3, z3, z3, z3, z3]
    exact ⟨z _ (by omega), z _ (by omega), z _ (by omega), z _ (by omega), z _ (by omega), z _ (by omega)⟩
  · rw [c3.2 97 _ (by omega), b3.2 97 _ (by omega), c3.2 97 _ (by omega), b3.2 97 _ (by omega), c3.2 98 _ (by omega), b3.2 98 _ (by omega), c3.2 98 _ (by omega), b3.2 98 _ (by omega)]
    exact a2
  · intro j x y
    have y' : j < (0 : Int) := y
    omega
  · intro j x y
    have y' : j < (0 : Int) := y
    omega
  · intro j x y
    have x' : (0 : Int) ≤ j := x
    rw [c3.2 102 _ (by omega)]
    exact b2 j x' y
  · intro p k x y
    have y' : p < (0 : Int) := y
    omega
  · intro j x y
    have y' : j < (0 : Int) := y
    omega
  · intro j x y
    have y' : j < (0 : Int) := y
    omega
  · intro k x y
    rw [c2 k x y]
    exact (if_neg (c := (0 : Int) < 0) (by omega)).symm
  · intro k x y w
    have w' : (0 : Int) < 0 := w
    omega
  · intro k i x y w w2
    have w' : (0 : Int) ≤ i := w
    have w2' : i < (0 : Int) := w2
    omega
  · refine fk_t (fp_k F0 ?_) (fk_t (fp_k a3 ?_) (fk_t (fp_k b3 ?_) (fp_k c3 ?_))) <;> (intro a k q; unfold pk_; omega)
end
