/-! piles as numbers on both sides: states, codes, turned -/
def P2_ (H : Int) : Int := 2 ^ H.toNat
theorem P2_v {H : Int} (h0 : 0 ≤ H) (h5 : H ≤ 5) : 1 ≤ P2_ H ∧ P2_ H ≤ 32 ∧ (2 : Int) ^ (H % 32).toNat = P2_ H ∧ p2_ H = P2_ H ∧ 1 ≤ fc_ H ∧ fc_ H ≤ 120 ∧ fc_ H * P2_ H ≤ 3840 := by
  have : H = 0 ∨ H = 1 ∨ H = 2 ∨ H = 3 ∨ H = 4 ∨ H = 5 := by omega
  rcases this with e | e | e | e | e | e <;> subst e <;> decide
theorem P2_d {H o f : Int} (h0 : 0 ≤ H) (h5 : H ≤ 5) (f0 : 0 ≤ f) (f1 : f < P2_ H) : (o * P2_ H + f) / P2_ H = o ∧ (o * P2_ H + f) % P2_ H = f := by
  have : H = 0 ∨ H = 1 ∨ H = 2 ∨ H = 3 ∨ H = 4 ∨ H = 5 := by omega
  rcases this with e | e | e | e | e | e <;> subst e
  · rw [show P2_ 0 = 1 from rfl] at *; omega
  · rw [show P2_ 1 = 2 from rfl] at *; omega
  · rw [show P2_ 2 = 4 from rfl] at *; omega
  · rw [show P2_ 3 = 8 from rfl] at *; omega
  · rw [show P2_ 4 = 16 from rfl] at *; omega
  · rw [show P2_ 5 = 32 from rfl] at *; omega
theorem P2_m {H o f : Int} (h0 : 0 ≤ H) (h5 : H ≤ 5) (o0 : 0 ≤ o) (o1 : o < fc_ H) (f0 : 0 ≤ f) (f1 : f < P2_ H) : 0 ≤ o * P2_ H + f ∧ o * P2_ H + f < fc_ H * P2_ H ∧ 0 ≤ o * P2_ H ∧ o * P2_ H ≤ 3840 := by
  have : H = 0 ∨ H = 1 ∨ H = 2 ∨ H = 3 ∨ H = 4 ∨ H = 5 := by omega
  rcases this with e | e | e | e | e | e <;> subst e
  · rw [show P2_ 0 = 1 from rfl, show fc_ 0 = 1 from rfl] at *; omega
  · rw [show P2_ 1 = 2 from rfl, show fc_ 1 = 1 from rfl] at *; omega
  · rw [show P2_ 2 = 4 from rfl, show fc_ 2 = 2 from rfl] at *; omega
  · rw [show P2_ 3 = 8 from rfl, show fc_ 3 = 6 from rfl] at *; omega
  · rw [show P2_ 4 = 16 from rfl, show fc_ 4 = 24 from rfl] at *; omega
  · rw [show P2_ 5 = 32 from rfl, show fc_ 5 = 120 from rfl] at *; omega
theorem P2_q {H s : Int} (h0 : 0 ≤ H) (h5 : H ≤ 5) (s0 : 0 ≤ s) (s1 : s < fc_ H * P2_ H) : (0 ≤ s / P2_ H ∧ s / P2_ H < fc_ H) ∧ (0 ≤ s % P2_ H ∧ s % P2_ H < P2_ H) ∧ s / P2_ H * P2_ H + s % P2_ H = s := by
  have : H = 0 ∨ H = 1 ∨ H = 2 ∨ H = 3 ∨ H = 4 ∨ H = 5 := by omega
  rcases this with e | e | e | e | e | e <;> subst e
  · rw [show P2_ 0 = 1 from rfl, show fc_ 0 = 1 from rfl] at *; omega
  · rw [show P2_ 1 = 2 from rfl, show fc_ 1 = 1 from rfl] at *; omega
  · rw [show P2_ 2 = 4 from rfl, show fc_ 2 = 2 from rfl] at *; omega
  · rw [show P2_ 3 = 8 from rfl, show fc_ 3 = 6 from rfl] at *; omega
  · rw [show P2_ 4 = 16 from rfl, show fc_ 4 = 24 from rfl] at *; omega
  · rw [show P2_ 5 = 32 from rfl, show fc_ 5 = 120 from rfl] at *; omega
def nN_ (w H : Int) : Int := if w = 1 then fc_ H * P2_ H else fc_ H
def sC_ (w H : Int) (V F : Int → Int) : Int := if w = 1 then oC_ H V * P2_ H + bF_ F H else oC_ H V
def sM_ (H : Int) (V F : Int → Int) : Int := oM_ H V * P2_ H + bF_ F H
def rW_ (w d : Int) (F : Int → Int) : Int → Int := if w = 1 then rF_ d F else F
def Vd_ (w H s : Int) : Int → Int := ly_ (if w = 1 then s / P2_ H else s)
def bi_ (f : Int) : Int → Int := fun k => f / 2 ^ k.toNat % 2
def Fd_ (w H s : Int) : Int → Int := if w = 1 then bi_ (s % P2_ H) else fun _ => 0
def nC_ (w H s d : Int) : Int := if w = 1 then or_ (w32 (tO_ (s / 2 ^ (H % 32).toNat) d * 2 ^ (H % 32).toNat)) (fC_ (an_ s (w32 ((w32 (1 * 2 ^ (H % 32).toNat)) - 1))) d) else tO_ s d
/-- each number is an order's, a row of faces' -/
def kS_ (H : Nat) : Bool := ((List.range (fc_ H).toNat).all fun o : Nat => decide (oC_ H (ly_ o) = o) && ((List.range H).all fun k : Nat => decide (0 ≤ ly_ o k) && decide (ly_ o k < H) && ((List.range k).all fun j : Nat => decide (ly_ o j ≠ ly_ o k)))) && (List.range (2 ^ H)).all fun f : Nat => decide (bF_ (bi_ f) H = f)
set_option maxRecDepth 100000 in
set_option maxHeartbeats 4000000 in
theorem kS_0 : kS_ 0 = true := by decide +kernel
set_option maxRecDepth 100000 in
set_option maxHeartbeats 4000000 in
theorem kS_1 : kS_ 1 = true := by decide +kernel
set_option maxRecDepth 100000 in
set_option maxHeartbeats 4000000 in
theorem kS_2 : kS_ 2 = true := by decide +kernel
set_option maxRecDepth 100000 in
set_option maxHeartbeats 4000000 in
theorem kS_3 : kS_ 3 = true := by decide +kernel
set_option maxRecDepth 100000 in
set_option maxHeartbeats 4000000 in
theorem kS_4 : kS_ 4 = true := by decide +kernel
set_option maxRecDepth 100000 in
set_option maxHeartbeats 4000000 in
theorem kS_5 : kS_ 5 = true := by decide +kernel
theorem kS_s {n : Nat} (hn : n = 0 ∨ n = 1 ∨ n = 2 ∨ n = 3 ∨ n = 4 ∨ n = 5) : kS_ n = true := by
  rcases hn with e | e | e | e | e | e <;> subst e
  · exact kS_0
  · exact kS_1
  · exact kS_2
  · exact kS_3
  · exact kS_4
  · exact kS_5
theorem oS_ {H : Int} (h0 : 0 ≤ H) (h5 : H ≤ 5) : (∀ o, 0 ≤ o → o < fc_ H → oC_ H (ly_ o) = o ∧ VP H (ly_ o)) ∧ ∀ f, 0 ≤ f → f < P2_ H → bF_ (bi_ f) H = f := by
  obtain ⟨n, e, hn⟩ := h5_ h0 h5
  subst e
  have k := kS_s hn
  unfold kS_ at k
  simp only [Bool.and_eq_true, decide_eq_true_eq, List.all_eq_true, List.mem_range] at k
  refine ⟨fun o o0 o1 => ?_, fun f f0 f1 => ?_⟩
  · obtain ⟨a, b⟩ := k.1 o.toNat (by omega)
    rw [show ((o.toNat : Nat) : Int) = o by omega] at a b
    refine ⟨a, fun j j0 j1 => ?_, fun i j i0 i1 j0 j1 e => ?_⟩
    · have := (b j.toNat (by omega)).1
      rw [show ((j.toNat : Nat) : Int) = j by omega] at this
      exact this
    · apply Classical.byContradiction
      intro q
      by_cases c : i < j
      · have := (b j.toNat (by omega)).2 i.toNat (by omega)
        rw [show ((j.toNat : Nat) : Int) = j by omega, show ((i.toNat : Nat) : Int) = i by omega] at this
        exact this e
      · have := (b i.toNat (by omega)).2 j.toNat (by omega)
        rw [show ((j.toNat : Nat) : Int) = j by omega, show ((i.toNat : Nat) : Int) = i by omega] at this
        exact this e.symm
  · have z : ((2 ^ n : Nat) : Int) = P2_ n := by
      unfold P2_
      rw [show ((n : Int)).toNat = n by omega]
      simp
    have := k.2 f.toNat (by omega)
    rw [show ((f.toNat : Nat) : Int) = f by omega] at this
    exact this
theorem bF_e {H : Int} {F G : Int → Int} (h0 : 0 ≤ H) (e : eR H F G) : bF_ F H = bF_ G H := bN_e H.toNat (fun k a b => e k a (by omega))
theorem VB_r {H w d : Int} {F : Int → Int} (hd : d ≤ H) (v : VB H F) : VB H (rW_ w d F) := by
  intro k k0 k1
  unfold rW_
  split
  · unfold rF_
    split
    · have := v (d - 1 - k) (by omega) (by omega)
      omega
    · exact v k k0 k1
  · exact v k k0 k1
theorem VB_b (H f : Int) : VB H (bi_ f) := by
  intro k k0 k1
  unfold bi_
  omega
theorem VB_d (w H s : Int) : VB H (Fd_ w H s) := by
  unfold Fd_
  split
  · exact VB_b _ _
  · exact fun _ _ _ => Or.inl rfl
theorem sC_b {w H : Int} {V F : Int → Int} (h0 : 0 ≤ H) (h5 : H ≤ 5) (v : VP H V) (f : VB H F) : 0 ≤ sC_ w H V F ∧ sC_ w H V F < nN_ w H := by
  have a := (oV_ h0 h5 v).1
  have b := (oF_ h0 h5 f).1
  unfold sC_ nN_
  split
  · have := P2_m h0 h5 a.1 a.2 b.1 b.2
    omega
  · exact a
theorem sM_b {H : Int} {V F : Int → Int} (h0 : 0 ≤ H) (h5 : H ≤ 5) (v : VP H V) (f : VB H F) : 0 ≤ sM_ H V F ∧ sM_ H V F < 3840 := by
  have a := (oV_ h0 h5 v).2.1
  have b := (oF_ h0 h5 f).1
  have p := P2_v h0 h5
  have := P2_m h0 h5 a.1 a.2 b.1 b.2
  unfold sM_
  omega
theorem sM_e {H : Int} {V V' F F' : Int → Int} (h0 : 0 ≤ H) (e : eR H V V') (e' : eR H F F') : sM_ H V F = sM_ H V' F' := by
  unfold sM_
  rw [oM_e h0 e, bF_e h0 e']
theorem sC_e {w H : Int} {V V' F F' : Int → Int} (h0 : 0 ≤ H) (e : eR H V V') (e' : eR H F F') : sC_ w H V F = sC_ w H V' F' := by
  unfold sC_
  rw [oC_e h0 e, bF_e h0 e']
/-- a state's pile -/
theorem sC_d {w H s : Int} (h0 : 0 ≤ H) (h5 : H ≤ 5) (s0 : 0 ≤ s) (s1 : s < nN_ w H) : VP H (Vd_ w H s) ∧ sC_ w H (Vd_ w H s) (Fd_ w H s) = s := by
  obtain ⟨a, b⟩ := oS_ h0 h5
  unfold nN_ at s1
  unfold Vd_ Fd_ sC_
  by_cases q : w = 1
  · rw [if_pos q] at s1
    obtain ⟨x, y, z⟩ := P2_q h0 h5 s0 s1
    obtain ⟨c, d⟩ := a _ x.1 x.2
    rw [if_pos q, if_pos q, if_pos q, c, b _ y.1 y.2]
    exact ⟨d, z⟩
  · rw [if_neg q] at s1
    obtain ⟨c, d⟩ := a _ s0 s1
    rw [if_neg q, if_neg q]
    exact ⟨d, c⟩
theorem Vd_s {w H : Int} {V F : Int → Int} (h0 : 0 ≤ H) (h5 : H ≤ 5) (v : VP H V) (f : VB H F) : eR H (Vd_ w H (sC_ w H V F)) V := by
  have a := oV_ h0 h5 v
  have b := (oF_ h0 h5 f).1
  unfold Vd_ sC_
  by_cases q : w = 1
  · rw [if_pos q, if_pos q, (P2_d h0 h5 b.1 b.2).1]
    exact a.2.2.1
  · rw [if_neg q, if_neg q]
    exact a.2.2.1
theorem Fd_s {w H : Int} {V F : Int → Int} (h0 : 0 ≤ H) (h5 : H ≤ 5) (f : VB H F) (z : w ≠ 1 → eR H F (fun _ => 0)) : eR H (Fd_ w H (sC_ w H V F)) F := by
  have b := oF_ h0 h5 f
  unfold Fd_ sC_
  by_cases q : w = 1
  · rw [if_pos q, if_pos q, (P2_d h0 h5 b.1.1 b.1.2).2]
    exact fun k k0 k1 => b.2.1 k k0 k1
  · rw [if_neg q]
    exact fun k k0 k1 => (z q k k0 k1).symm
/-- turned: the class's number, the reference's -/
theorem nC_s {w H d : Int} {V F : Int → Int} (h0 : 0 ≤ H) (h5 : H ≤ 5) (v : VP H V) (f : VB H F) (d0 : 0 ≤ d) (d1 : d ≤ H) : nC_ w H (sC_ w H V F) d = sC_ w H (rR_ d V) (rW_ w d F) := by
  have a := oV_ h0 h5 v
  have b := oF_ h0 h5 f
  have p := P2_v h0 h5
  unfold nC_ sC_ rW_
  by_cases q : w = 1
  · have a' := (oV_ h0 h5 (VP_r d1 v)).1
    have vb : VB H (rF_ d F) := by
      have := VB_r (w := 1) d1 f
      unfold rW_ at this
      rw [if_pos rfl] at this
      exact this
    have b' := (oF_ h0 h5 vb).1
    rw [if_pos q, if_pos q, if_pos q, if_pos q, p.2.2.1, (P2_d h0 h5 b.1.1 b.1.2).1, a.2.2.2.2 d d0 d1]
    have n1 := (oN_ h0 h5 a.1.1 a.1.2 b.1.1 b.1.2).2
    have n2 := (oN_ h0 h5 a'.1 a'.2 b'.1 b'.2).1
    rw [p.2.2.1] at n1 n2
    have e : (2 : Int) ^ H.toNat = P2_ H := rfl
    rw [e] at n1 n2
    rw [n1, (b.2.2.1 d d0 d1).1, n2]
  · rw [if_neg q, if_neg q, if_neg q]
    exact a.2.2.2.2 d d0 d1
theorem nM_s {w H d : Int} {V F : Int → Int} (h0 : 0 ≤ H) (h5 : H ≤ 5) (v : VP H V) (f : VB H F) (d0 : 0 ≤ d) (d1 : d ≤ H) : nM_ w H (sM_ H V F) d = sM_ H (rR_ d V) (rW_ w d F) := by
  have a := oV_ h0 h5 v
  have b := oF_ h0 h5 f
  have p := P2_v h0 h5
  have m := P2_m h0 h5 a.2.1.1 a.2.1.2 b.1.1 b.1.2
  have dd := P2_d (o := oM_ H V) h0 h5 b.1.1 b.1.2
  have e1 : Int.tdiv (sM_ H V F) (p2_ H) = oM_ H V := by
    unfold sM_
    rw [p.2.2.2.1, Int.tdiv_eq_ediv_of_nonneg m.1, dd.1]
  have e2 : Int.tmod (sM_ H V F) (p2_ H) = bF_ F H := by
    unfold sM_
    rw [p.2.2.2.1, Int.tmod_eq_emod_of_nonneg m.1, dd.2]
  have a' := (oV_ h0 h5 (VP_r d1 v)).2.1
  have b' := (oF_ h0 h5 (VB_r (w := w) d1 f)).1
  have m' := P2_m h0 h5 a'.1 a'.2 b'.1 b'.2
  have e3 : lR_ H (sM_ H V F) = lM_ H (oM_ H V) := by
    unfold lR_ lM_
    rw [e1, w32_i (by omega) (by omega)]
  have e4 : fM_ w (bF_ F H) d = bF_ (rW_ w d F) H := by
    unfold fM_ rW_
    by_cases q : w = 1
    · rw [if_pos q, if_pos q]
      exact (b.2.2.1 d d0 d1).2
    · rw [if_neg q, if_neg q]
  have e5 : cm_ (rR_ d (lM_ H (oM_ H V))) H H.toNat 0 0 = oM_ H (rR_ d V) := oM_e h0 (rR_e d1 a.2.2.2.1)
  unfold nM_
  rw [e2, e3, e4]
  unfold cM_
  have e6 : w32 (1 * 2 ^ (H % 32).toNat) = P2_ H := p.2.2.2.1
  rw [e5, e6, w32_i (x := oM_ H (rR_ d V) * P2_ H) (by omega) (by omega), w32_i (by omega) (by omega)]
  rfl
