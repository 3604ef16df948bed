/-! what holds at the start -/
def Q00 : Tx := fun _ _ => 0
def W00 : Tx := W0_ emT (emT 0 6)
theorem WO_em {h : am_H} {w : Int} (s : ShW h w) (e : rd_ h w 0 = 0 ∧ rd_ h w 1 = 0 ∧ rd_ h w 2 = 0 ∧ rd_ h w 3 = 0 ∧ rd_ h w 4 = 0 ∧ rd_ h w 5 = 0) : WO h w emT W00 := by
  refine ⟨s, e, ?_, ?_, ?_, ?_, ?_, ?_, ?_⟩
  · intro p a b
    have b' : p < (0 : Int) := b
    omega
  · intro p a b
    have b' : p < (0 : Int) := b
    omega
  · intro p a b
    have b' : p < (0 : Int) := b
    omega
  · intro p k a b
    have b' : p < (0 : Int) := b
    omega
  · intro p a b
    have b' : p < (0 : Int) := b
    omega
  · intro p a b
    have b' : p < (0 : Int) := b
    omega
  · intro p a b
    have b' : p < (0 : Int) := b
    omega
theorem CI_hM1 (I : Tx) (U : Int → Tx) : CI hM1 emT W00 I U (tQs_ Q00) := by
  have z := hM1_0
  have tt := hM1_T
  have k0 : tQs_ Q00 4 0 = 0 := by rw [tQs_4]; rfl
  have k1 : tQs_ Q00 4 1 = -1 := by rw [tQs_4]; rfl
  have k2 : tQs_ Q00 4 2 = 0 := by rw [tQs_4]; rfl
  have k3 : tQs_ Q00 4 3 = 0 := by rw [tQs_4]; rfl
  have k4 : tQs_ Q00 4 4 = 0 := by rw [tQs_4]; rfl
  have k5 : tQs_ Q00 4 5 = 0 := by rw [tQs_4]; rfl
  have k6 : tQs_ Q00 4 6 = -1 := by rw [tQs_4]; rfl
  refine ⟨hM1_X, ⟨7, Or.inl rfl, tt.1.1, tt.1.2, ⟨tt.2.1, z.1, ?_, ?_, ?_, ?_, ?_⟩, WO_em tt.2.2.2.1 z.2.1, tt.2.2.1, tt.2.2.2.2.1⟩, WO_em tt.2.2.2.2.2.1 z.2.2.1, tt.2.2.2.2.2.2.1, tt.2.2.2.2.2.2.2, ?_, ?_, ?_, ?_, ?_, ?_⟩
  · intro j a b
    have b' : j < (0 : Int) := b
    omega
  · intro j a b
    have b' : j < (0 : Int) := b
    omega
  · intro j a b
    have b' : j < (0 : Int) := b
    omega
  · intro j a b
    have b' : j < (0 : Int) := b
    omega
  · intro k a b
    exact nat_i (P := fun k => rd_ hM1 25 k = 0 ∧ rd_ hM1 26 k = 0) hM1_17 a b
  · rw [k3]
    exact ⟨z.2.2.2.1.1, fun q => by omega⟩
  · rw [k4]
    exact ⟨z.2.2.2.1.2.1, fun k p q => by omega⟩
  · rw [k5, k6]
    exact z.2.2.2.1.2.2
  · refine ⟨by rw [k0]; exact z.2.2.2.2.1.1, by rw [k1]; exact z.2.2.2.2.1.2, fun i p q => ?_⟩
    rw [k0] at q
    omega
  · rw [k2]
    have e3 := z.2.2.2.2.2.1.1
    have e4 := z.2.2.2.2.2.1.2
    exact ⟨e3, by omega, by omega, by omega, by omega, fun i p q => by omega, fun i p q => by omega⟩
  · intro i p q
    exact nat_i (P := fun i => rd_ hM1 4 i = lang_.getD i.toNat 0) (fun n q => hM1_4 n q) p q
theorem start_M (I : Tx) (U : Int → Tx) : ∃ h3, Mo_new hM0 94 = some (h3, 0) ∧ MN h3 emT W00 I U (tQs_ Q00) ∧ h3.2 = hM1.2 ∧ ∀ a k, (a < 94 ∨ 143 ≤ a) → rd_ h3 a k = rd_ hM1 a k := by
  have z := hM1_0
  obtain ⟨h2, a1, a2, a3, a4⟩ := Mo_plain_s hM1_M
  have R : ∀ a k, (a < 94 ∨ a = 96 ∨ 118 ≤ a) → rd_ h2 a k = rd_ hM1 a k := fun a k q => a3.2 a k (by unfold pk_; omega)
  obtain ⟨h3, b1, b2, b3⟩ := Mo_keepText_s (I := I) (U := U) (Q := Q00) a2 emT_W emT_V (fun x p q => by
      rw [R 124 x (by omega)]
      exact Or.inl (nat_i (P := fun x => rd_ hM1 124 x = 0) hM1_B.1 p q)) (fun x p q => by
      rw [R 139 x (by omega)]
      exact Or.inl (nat_i (P := fun x => rd_ hM1 139 x = 0) hM1_139 p q)) (fun x p q => by
      rw [R 141 x (by omega)]
      exact Or.inl (nat_i (P := fun x => rd_ hM1 141 x = 0) hM1_B.2 p q)) (fun i p q => by
      rw [R 96 i (by omega)]
      exact nat_i (P := fun i => rd_ hM1 96 i = wds_.getD i.toNat 0) (fun n q => hM1_96 n q) p q) (by rw [a4 1 (by omega)]; exact z.2.2.2.2.2.2.1.1) (by rw [a4 4 (by omega)]; exact z.2.2.2.2.2.2.1.2.1) (by rw [a4 5 (by omega)]; exact z.2.2.2.2.2.2.1.2.2)
  refine ⟨h3, ?_, b2, b3.1.trans a3.1, fun a k q => ?_⟩
  · rw [Mo_new_g hM0_n]
    have a1' : Mo_plain (mo0 hM0) 94 = some (h2, 0) := a1
    rw [a1', bd_v, ck_t (by omega), b1, bd_v]
  · rw [b3.2.1 a (by unfold kpA; omega) (by omega), R a k (by omega)]
/-- the room at the start -/
theorem RM_start {h : am_H} {K S : Int} (e : rf_ h 0 16 = -1) (e9 : ∀ i, 0 ≤ i → i < 12 → rf_ h 90 i = -1) (k : nn_ h + 124 ≤ K) (s : ss_ h + 415991 ≤ S) : RM h K S := by
  have p1 : ∀ i : Int, 0 ≤ i → i < 12 → pcr_ 5 3 2 h i = 10 := fun i a b => by
    unfold pcr_ fl1
    rw [e9 i a b, if_pos (by omega), if_pos (Or.inl (by omega)), if_pos (Or.inl (by omega))]
    omega
  have p2 : ∀ i : Int, 0 ≤ i → i < 12 → pcr_ 11552 15370 7680 h i = 34602 := fun i a b => by
    unfold pcr_ fl1
    rw [e9 i a b, if_pos (by omega), if_pos (Or.inl (by omega)), if_pos (Or.inl (by omega))]
    omega
  have q1 : sm_ (pcr_ 5 3 2 h) 12 = sm_ (fun _ => 10) 12 := sm_c 12 (fun i a b => p1 i a b)
  have q2 : sm_ (pcr_ 11552 15370 7680 h) 12 = sm_ (fun _ => 34602) 12 := sm_c 12 (fun i a b => p2 i a b)
  have r1 : sm_ (fun _ => (10 : Int)) 12 = 120 := by decide
  have r2 : sm_ (fun _ => (34602 : Int)) 12 = 415224 := by decide
  unfold RM
  rw [q1, q2, r1, r2, e]
  unfold fl1
  rw [if_pos (by omega)]
  omega
def lb3_ (h h' : am_H) : Prop := (∀ a k, 94 ≤ a → a < 143 → rd_ h' a k = rd_ h a k) ∧ (∀ a, 94 ≤ a → a < 143 → ln_ h' a = ln_ h a) ∧ ∀ a k, 94 ≤ a → a < 143 → rf_ h' a k = rf_ h a k
theorem MN_l3 {h h' : am_H} {T W I : Tx} {U : Int → Tx} {Q : Tx} (L : lb3_ h h') (g : MN h T W I U Q) : MN h' T W I U Q := by
  obtain ⟨a, b, c, d, e, f, i, j, k, l, m, n⟩ := g
  obtain ⟨L1, L2, L3⟩ := L
  refine ⟨?_, ?_, ⟨?_, ?_, ?_⟩, ?_, by rw [L1 94 60 (by omega) (by omega)]; exact e, ?_, ?_, ?_, ?_, ⟨by rw [L1 94 1 (by omega) (by omega)]; exact l.1, fun k p q => by rw [L1 95 k (by omega) (by omega)]; exact l.2 k p q⟩, ⟨by rw [L1 94 4 (by omega) (by omega)]; exact m.1, by rw [L1 94 5 (by omega) (by omega)]; exact m.2⟩, fun i p q => by rw [L1 96 i (by omega) (by omega)]; exact n i p q⟩
  · unfold ShM at *
    simp (disch := omega) only [L2, L3]
    exact a
  · unfold MT at *
    simp (disch := omega) only [L1]
    exact b
  · simp (disch := omega) only [L1]
    exact c.1
  · simp (disch := omega) only [L1]
    exact c.2.1
  · intro x y p q r s
    exact KN_fr (fun k => L1 113 k (by omega) (by omega)) (fun k => L1 114 k (by omega) (by omega)) (fun k => L1 115 k (by omega) (by omega)) (c.2.2 x y p q r s)
  · refine ⟨d.1, ?_⟩
    have d2 := d.2
    simp (disch := omega) only [L1]
    exact d2
  · unfold BB at *
    simp (disch := omega) only [L1]
    exact f
  · unfold MU SN B1 at *
    simp (disch := omega) only [L1]
    exact i
  · unfold MI SN B1 at *
    simp (disch := omega) only [L1]
    exact j
  · unfold QM at *
    simp (disch := omega) only [L1]
    exact k
theorem start_S {h3 : am_H} (I : Tx) (U : Int → Tx) (m : MN h3 emT W00 I U (tQs_ Q00)) (e : h3.2 = hM1.2) (r : ∀ a k, (a < 94 ∨ 143 ≤ a) → rd_ h3 a k = rd_ hM1 a k) : nn_ h3 = 143 ∧ ST (nw_ h3 23 1) emT W00 I U (tQs_ Q00) 268 600000 := by
  have z := hM1_0
  have en : nn_ h3 = 143 := by unfold nn_; rw [e]; exact z.2.2.2.2.2.2.2.2
  have es : ss_ h3 = ss_ hM1 := by unfold ss_; rw [e]
  have ef : ∀ a k, rf_ h3 a k = rf_ hM1 a k := fun a k => by unfold rf_; rw [e]
  have el : ∀ a, ln_ h3 a = ln_ hM1 a := fun a => by unfold ln_; rw [e]
  have rdn : ∀ a k, a ≠ 143 → rd_ (nw_ h3 23 1) a k = rd_ h3 a k := fun a k q => if_neg (by rw [en]; exact q)
  have rfn : ∀ a k, a ≠ 143 → rf_ (nw_ h3 23 1) a k = rf_ h3 a k := fun a k q => if_neg (by rw [en]; exact q)
  have lnn : ∀ a, a ≠ 143 → ln_ (nw_ h3 23 1) a = ln_ h3 a := fun a q => if_neg (by rw [en]; exact q)
  have nnn : nn_ (nw_ h3 23 1) = 144 := by
    show nn_ h3 + 1 = 144
    omega
  have ssn : ss_ (nw_ h3 23 1) = ss_ hM1 + 1 := by
    show ss_ h3 + 1 = ss_ hM1 + 1
    omega
  have sb := hM1_s
  have e16 : rf_ (nw_ h3 23 1) 0 16 = -1 := by rw [rfn 0 16 (by omega), ef]; exact z.2.2.2.2.2.2.2.1
  have e90 : ∀ i, 0 ≤ i → i < 12 → rf_ (nw_ h3 23 1) 90 i = -1 := fun i a b => by
    rw [rfn 90 i (by omega), ef]
    exact nat_i (P := fun i => rf_ hM1 90 i = -1) hM1_90 a b
  refine ⟨en, ⟨⟨CI_la ⟨fun a k q => ?_, fun a q => ?_, fun a k q _ _ => ?_⟩ (CI_hM1 I U), Or.inl ⟨e16, e90⟩, RM_start e16 e90 (by omega) (by omega), by omega⟩, MN_l3 ⟨fun a k q q2 => ?_, fun a q q2 => ?_, fun a k q q2 => ?_⟩ m, SV_tQs emT_W emT_V, ?_⟩⟩
  · rw [rdn a k (by omega), r a k (Or.inl q)]
  · rw [lnn a (by omega), el]
  · rw [rfn a k (by omega), ef]
  · exact rdn a k (by omega)
  · exact lnn a (by omega)
  · exact rfn a k (by omega)
  · exact if_pos en.symm
