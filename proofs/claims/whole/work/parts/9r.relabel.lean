/-! one pile against another: the class's states are the reference's codes under other names -/
def gF_ (w : Int) (V F Y : Int → Int) : Int → Int := fun k => if w = 1 then (if F k = Y (V k) then 0 else 1) else 0
def ph_ (w H : Int) (X Y : Int → Int) (s : Int) : Int := sM_ H (fun k => X (Vd_ w H s k)) (gF_ w (Vd_ w H s) (Fd_ w H s) Y)
section
variable {w H : Int} {X Y : Int → Int}
theorem VP_x {V : Int → Int} (x : VP H X) (v : VP H V) : VP H (fun k => X (V k)) := by
  refine ⟨fun k k0 k1 => ?_, fun i j i0 i1 j0 j1 e => ?_⟩
  · have := v.1 k k0 k1
    exact x.1 _ this.1 this.2
  · have a := v.1 i i0 i1
    have b := v.1 j j0 j1
    exact v.2 i j i0 i1 j0 j1 (x.2 _ _ a.1 a.2 b.1 b.2 e)
theorem VB_g {V F : Int → Int} : VB H (gF_ w V F Y) := by
  intro k _ _
  unfold gF_
  split
  · split <;> omega
  · omega
theorem gF_r {V F : Int → Int} {d : Int} (d1 : d ≤ H) (y : VB H Y) (v : VP H V) (f : VB H F) : eR H (rW_ w d (gF_ w V F Y)) (gF_ w (rR_ d V) (rW_ w d F) Y) := by
  intro k k0 k1
  unfold rW_
  by_cases q : w = 1
  · rw [if_pos q, if_pos q]
    show (if k < d then 1 - (if w = 1 then (if F (d - 1 - k) = Y (V (d - 1 - k)) then 0 else 1) else 0) else (if w = 1 then (if F k = Y (V k) then 0 else 1) else 0)) = (if w = 1 then (if (if k < d then 1 - F (d - 1 - k) else F k) = Y (if k < d then V (d - 1 - k) else V k) then 0 else 1) else 0)
    rw [if_pos q, if_pos q, if_pos q]
    by_cases c : k < d
    · have a := f (d - 1 - k) (by omega) (by omega)
      have vv := v.1 (d - 1 - k) (by omega) (by omega)
      have b := y _ vv.1 vv.2
      rw [if_pos c, if_pos c, if_pos c]
      by_cases e : F (d - 1 - k) = Y (V (d - 1 - k))
      · rw [if_pos e, if_neg (by omega)]; omega
      · rw [if_neg e, if_pos (by omega)]; omega
    · rw [if_neg c, if_neg c, if_neg c]
  · rw [if_neg q, if_neg q]
    show (if w = 1 then _ else 0) = (if w = 1 then _ else 0)
    rw [if_neg q, if_neg q]
theorem rR_x (V : Int → Int) (d : Int) : eR H (rR_ d (fun k => X (V k))) (fun k => X (rR_ d V k)) := by
  intro k k0 k1
  show (if k < d then X (V (d - 1 - k)) else X (V k)) = X (if k < d then V (d - 1 - k) else V k)
  by_cases c : k < d
  · rw [if_pos c, if_pos c]
  · rw [if_neg c, if_neg c]
theorem gF_e {V V' F F' : Int → Int} (e : eR H V V') (e' : eR H F F') : eR H (gF_ w V F Y) (gF_ w V' F' Y) := by
  intro k k0 k1
  unfold gF_
  rw [e k k0 k1, e' k k0 k1]
theorem ph_b (h0 : 0 ≤ H) (h5 : H ≤ 5) (x : VP H X) {s : Int} (s0 : 0 ≤ s) (s1 : s < nN_ w H) : 0 ≤ ph_ w H X Y s ∧ ph_ w H X Y s < 3840 := sM_b h0 h5 (VP_x x (sC_d h0 h5 s0 s1).1) VB_g
theorem nC_b (h0 : 0 ≤ H) (h5 : H ≤ 5) : nI_ (nC_ w H) (nN_ w H) H := by
  intro s d s0 s1 d0 d1
  obtain ⟨a, b⟩ := sC_d h0 h5 s0 s1
  have := nC_s (w := w) h0 h5 a (VB_d w H s) (d := d) (by omega) d1
  rw [b] at this
  rw [this]
  exact sC_b h0 h5 (VP_r d1 a) (VB_r d1 (VB_d w H s))
theorem ph_sC {V F : Int → Int} (h0 : 0 ≤ H) (h5 : H ≤ 5) (v : VP H V) (f : VB H F) (z : w ≠ 1 → eR H F (fun _ => 0)) : ph_ w H X Y (sC_ w H V F) = sM_ H (fun k => X (V k)) (gF_ w V F Y) := by
  unfold ph_
  refine sM_e h0 (fun k k0 k1 => ?_) (gF_e (Vd_s h0 h5 v f) (Fd_s h0 h5 f z))
  rw [Vd_s h0 h5 v f k k0 k1]
theorem ph_f (h0 : 0 ≤ H) (h5 : H ≤ 5) (x : VP H X) (y : VB H Y) : nF_ (nC_ w H) (nM_ w H) (ph_ w H X Y) (nN_ w H) H := by
  intro s d s0 s1 d0 d1
  obtain ⟨a, b⟩ := sC_d h0 h5 s0 s1
  have f := VB_d w H s
  have e1 := nC_s (w := w) h0 h5 a f (d := d) (by omega) d1
  rw [b] at e1
  have e2 : ph_ w H X Y (nC_ w H s d) = sM_ H (fun k => X (rR_ d (Vd_ w H s) k)) (gF_ w (rR_ d (Vd_ w H s)) (rW_ w d (Fd_ w H s)) Y) := by
    rw [e1]
    refine ph_sC h0 h5 (VP_r d1 a) (VB_r d1 f) ?_
    intro q k _ _
    unfold rW_ Fd_
    rw [if_neg q, if_neg q]
  rw [e2]
  unfold ph_
  rw [nM_s h0 h5 (VP_x x a) VB_g (by omega) d1]
  exact sM_e h0 (rR_x _ _) (gF_r d1 y a f)
theorem sM_i {V V' F F' : Int → Int} (h0 : 0 ≤ H) (h5 : H ≤ 5) (v : VP H V) (v' : VP H V') (f : VB H F) (f' : VB H F') (e : sM_ H V F = sM_ H V' F') : eR H V V' ∧ eR H F F' := by
  have a := oV_ h0 h5 v
  have b := oF_ h0 h5 f
  have a' := oV_ h0 h5 v'
  have b' := oF_ h0 h5 f'
  have p := P2_d (o := oM_ H V) h0 h5 b.1.1 b.1.2
  have p' := P2_d (o := oM_ H V') h0 h5 b'.1.1 b'.1.2
  unfold sM_ at e
  rw [e] at p
  have e1 : oM_ H V = oM_ H V' := p.1.symm.trans p'.1
  have e2 : bF_ F H = bF_ F' H := p.2.symm.trans p'.2
  refine ⟨fun k k0 k1 => ?_, fun k k0 k1 => ?_⟩
  · rw [← a.2.2.2.1 k k0 k1, ← a'.2.2.2.1 k k0 k1, e1]
  · rw [← b.2.1 k k0 k1, ← b'.2.1 k k0 k1, e2]
theorem ph_i (h0 : 0 ≤ H) (h5 : H ≤ 5) (x : VP H X) (y : VB H Y) : fI_ (ph_ w H X Y) (nN_ w H) := by
  intro s t s0 s1 t0 t1 e
  obtain ⟨a, b⟩ := sC_d h0 h5 s0 s1
  obtain ⟨a', b'⟩ := sC_d h0 h5 t0 t1
  obtain ⟨c1, c2⟩ := sM_i h0 h5 (VP_x x a) (VP_x x a') VB_g VB_g e
  have ev : eR H (Vd_ w H s) (Vd_ w H t) := fun k k0 k1 => by
    have := a.1 k k0 k1
    have z := a'.1 k k0 k1
    exact x.2 _ _ this.1 this.2 z.1 z.2 (c1 k k0 k1)
  rw [← b, ← b']
  refine sC_e h0 ev (fun k k0 k1 => ?_)
  by_cases q : w = 1
  · have z := c2 k k0 k1
    unfold gF_ at z
    rw [if_pos q, if_pos q, ev k k0 k1] at z
    have f1 := VB_d w H s k k0 k1
    have f2 := VB_d w H t k k0 k1
    have vv := a'.1 k k0 k1
    have f3 := y _ vv.1 vv.2
    by_cases c : Fd_ w H s k = Y (Vd_ w H t k)
    · rw [if_pos c] at z
      by_cases c' : Fd_ w H t k = Y (Vd_ w H t k)
      · rw [c, c']
      · rw [if_neg c'] at z; omega
    · rw [if_neg c] at z
      by_cases c' : Fd_ w H t k = Y (Vd_ w H t k)
      · rw [if_pos c'] at z; omega
      · omega
  · unfold Fd_
    rw [if_neg q, if_neg q]
theorem ly_0 (H : Int) (h5 : H ≤ 5) : eR H (ly_ 0) (fun k => k) := by
  intro k k0 k1
  have : k = 0 ∨ k = 1 ∨ k = 2 ∨ k = 3 ∨ k = 4 := by omega
  rcases this with e | e | e | e | e <;> subst e <;> decide +kernel
theorem ph_0 (h0 : 0 ≤ H) (h5 : H ≤ 5) (y : VB H Y) (z : w ≠ 1 → eR H Y (fun _ => 0)) : ph_ w H X Y 0 = sM_ H X Y := by
  have e : eR H (Vd_ w H 0) (fun k => k) := by
    unfold Vd_
    rw [Int.zero_ediv, ite_self]
    exact ly_0 H h5
  unfold ph_
  refine sM_e h0 (fun k k0 k1 => by rw [e k k0 k1]) (fun k k0 k1 => ?_)
  unfold gF_
  rw [e k k0 k1]
  by_cases q : w = 1
  · have : Fd_ w H 0 k = 0 := by
      unfold Fd_ bi_
      rw [if_pos q, Int.zero_emod, Int.zero_ediv, Int.zero_emod]
    have yy := y k k0 k1
    rw [if_pos q, this]
    by_cases c : 0 = Y k
    · rw [if_pos c]; exact c
    · rw [if_neg c]; omega
  · rw [if_neg q]
    exact (z q k k0 k1).symm
/-- the pile itself, against that which is right -/
theorem ph_id {V F : Int → Int} (h0 : 0 ≤ H) (h5 : H ≤ 5) (v : VP H V) (f : VB H F) (z : w ≠ 1 → eR H F (fun _ => 0)) : ph_ w H (fun k => k) (fun _ => 0) (sC_ w H V F) = sM_ H V F := by
  rw [ph_sC h0 h5 v f z]
  refine sM_e h0 (fun _ _ _ => rfl) (fun k k0 k1 => ?_)
  unfold gF_
  by_cases q : w = 1
  · have := f k k0 k1
    rw [if_pos q]
    by_cases c : F k = 0
    · rw [if_pos c, c]
    · rw [if_neg c]; omega
  · rw [if_neg q]
    exact (z q k k0 k1).symm
theorem VP_id (H : Int) : VP H (fun k => k) := ⟨fun _ k0 k1 => ⟨k0, k1⟩, fun _ _ _ _ _ _ e => e⟩
theorem VB_0 (H : Int) : VB H (fun _ => 0) := fun _ _ _ => Or.inl rfl
end
