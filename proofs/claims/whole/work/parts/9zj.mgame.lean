/-! the game in the reference -/
def TH (h : am_H) (w H : Int) (f : Int → Int) : Prop := ∀ s d, 0 ≤ s → s < nN_ w H → 1 ≤ d → d ≤ H → rd_ h 132 (5 * f s + d - 1) = f (nC_ w H s d)
def WT (h : am_H) (w H : Int) (f : Int → Int) (V : Int → Int → Int) : Prop := ∀ s t, 0 ≤ s → s < nN_ w H → 0 ≤ t → t ≤ H → rd_ h 133 (6 * f s + t) = V s t
def u2_ (V : Int → Int → Int) (s t v : Int) : Int → Int → Int := fun s' t' => if s' = s ∧ t' = t then v else V s' t'
def wb_ (w H : Int) (V : Int → Int → Int) (s d : Int) : Int := if nC_ w H s d = 0 then 1 else -(V (nC_ w H s d) d)
def SD (w H : Int) (V : Int → Int → Int) : Prop := ∀ s t, 0 < s → s < nN_ w H → 0 ≤ t → t ≤ H → (V s t = 0 ∨ V s t = 1 ∨ V s t = -1) ∧ (V s t = 1 → ∃ e, 2 - w ≤ e ∧ e ≤ H ∧ e ≠ t ∧ Um w H s e = 1) ∧ (V s t = -1 → ∀ e, 2 - w ≤ e → e ≤ H → e ≠ t → Um w H s e = 2)
theorem wb_v {w H : Int} {V : Int → Int → Int} (h0 : 0 ≤ H) (h5 : H ≤ 5) (w0 : w = 0 ∨ w = 1) (sd : SD w H V) {s d : Int} (s0 : 0 < s) (s1 : s < nN_ w H) (d0 : 2 - w ≤ d) (d1 : d ≤ H) : (wb_ w H V s d = 0 ∨ wb_ w H V s d = 1 ∨ wb_ w H V s d = -1) ∧ (wb_ w H V s d = 1 → Um w H s d = 1) ∧ (wb_ w H V s d = -1 → Um w H s d = 2) := by
  have g := GF_ h0 h5 w0
  have nb := nC_b (w := w) h0 h5 s d (by omega) s1 (by omega) d1
  have d0' : 0 ≤ d := by omega
  have F := fun (_ : Unit) => g.2.2.2 s d s0 s1 d0 d1
  unfold wb_
  by_cases q : nC_ w H s d = 0
  · rw [if_pos q]
    exact ⟨by omega, fun _ => (F ()).1 q, fun z => by omega⟩
  · rw [if_neg q]
    have t0 : 0 < nC_ w H s d := by omega
    have k := fun (_ : Unit) => sd (nC_ w H s d) d t0 nb.2 d0' d1
    refine ⟨?_, fun z => ?_, fun z => ?_⟩
    · have := (k ()).1
      omega
    · have e : V (nC_ w H s d) d = -1 := by omega
      exact ((F ()).2 q).2.1.mpr ((k ()).2.2 e)
    · have e : V (nC_ w H s d) d = 1 := by omega
      exact ((F ()).2 q).1.mpr ((k ()).2.1 e)
/-- what a state comes to by what is known -/
def kn_ (B : Int → Int) (had : Int) : Nat → Int → Int → Int → Int × Int
  | 0, _, b, m => (b, m)
  | n + 1, d, b, m => if d ≠ had then kn_ B had n (d + 1) (if B d ≤ b then b else B d) (w32 (m + 1)) else kn_ B had n (d + 1) b m
theorem kn_v {B : Int → Int} {had H : Int} : ∀ (n : Nat) (d b m : Int), d + n = H + 1 → 0 ≤ m → m + n ≤ 100 → b ≤ (kn_ B had n d b m).1 ∧ ((kn_ B had n d b m).1 = b ∨ ∃ e, d ≤ e ∧ e ≤ H ∧ e ≠ had ∧ B e = (kn_ B had n d b m).1) ∧ (∀ e, d ≤ e → e ≤ H → e ≠ had → B e ≤ (kn_ B had n d b m).1) ∧ m ≤ (kn_ B had n d b m).2 ∧ (kn_ B had n d b m).2 ≤ m + n ∧ ((kn_ B had n d b m).2 = m ↔ ∀ e, d ≤ e → e ≤ H → e = had) := by
  intro n
  induction n with
  | zero =>
    intro d b m hd m0 m1
    refine ⟨Int.le_refl _, Or.inl rfl, fun e a b => by omega, Int.le_refl _, by show m ≤ m + ((0 : Nat) : Int); omega, ⟨fun _ e a b => by omega, fun _ => rfl⟩⟩
  | succ n ih =>
    intro d b m hd m0 m1
    by_cases q : d = had
    · have e : kn_ B had (n + 1) d b m = kn_ B had n (d + 1) b m := by
        show (if d ≠ had then _ else _) = _
        rw [if_neg (fun z => z q)]
      rw [e]
      obtain ⟨a1, a2, a3, a4, a5, a6⟩ := ih (d + 1) b m (by omega) m0 (by omega)
      refine ⟨a1, ?_, fun e x y z => a3 e (by omega) y z, a4, by omega, a6.trans ⟨fun z e x y => ?_, fun z e x y => z e (by omega) y⟩⟩
      · rcases a2 with z | ⟨e, x, y, z⟩
        · exact Or.inl z
        · exact Or.inr ⟨e, by omega, y, z⟩
      · by_cases r : e = d
        · rw [r]; exact q
        · exact z e (by omega) y
    · have e : kn_ B had (n + 1) d b m = kn_ B had n (d + 1) (if B d ≤ b then b else B d) (m + 1) := by
        show (if d ≠ had then kn_ B had n (d + 1) (if B d ≤ b then b else B d) (w32 (m + 1)) else _) = _
        rw [if_pos q, w32_i (by omega) (by omega)]
      rw [e]
      have bb : b ≤ (if B d ≤ b then b else B d) ∧ B d ≤ (if B d ≤ b then b else B d) ∧ ((if B d ≤ b then b else B d) = b ∨ (if B d ≤ b then b else B d) = B d) := by
        split <;> omega
      generalize (if B d ≤ b then b else B d) = b' at bb
      obtain ⟨a1, a2, a3, a4, a5, a6⟩ := ih (d + 1) b' (m + 1) (by omega) (by omega) (by omega)
      refine ⟨by omega, ?_, fun e x y z => ?_, by omega, by omega, ⟨fun z => by omega, fun z => absurd (z d (Int.le_refl _) (by omega)) q⟩⟩
      · rcases a2 with z | ⟨e, x, y, z⟩
        · rcases bb.2.2 with y | y
          · exact Or.inl (by rw [z, y])
          · exact Or.inr ⟨d, Int.le_refl _, by omega, q, by rw [z, y]⟩
        · exact Or.inr ⟨e, by omega, y, z⟩
      · by_cases r : e = d
        · rw [r]; omega
        · exact a3 e (by omega) y z
def kv_ (w H : Int) (V : Int → Int → Int) (s t : Int) : Int × Int := kn_ (wb_ w H V s) t (H - 1 + w).toNat (2 - w) (-1) 0
theorem kv_v {w H : Int} {V : Int → Int → Int} (h0 : 0 ≤ H) (h5 : H ≤ 5) (w0 : w = 0 ∨ w = 1) (hl : 1 ≤ H + w) (s t : Int) : -1 ≤ (kv_ w H V s t).1 ∧ ((kv_ w H V s t).1 = -1 ∨ ∃ e, 2 - w ≤ e ∧ e ≤ H ∧ e ≠ t ∧ wb_ w H V s e = (kv_ w H V s t).1) ∧ (∀ e, 2 - w ≤ e → e ≤ H → e ≠ t → wb_ w H V s e ≤ (kv_ w H V s t).1) ∧ 0 ≤ (kv_ w H V s t).2 ∧ (kv_ w H V s t).2 ≤ 10 ∧ ((kv_ w H V s t).2 = 0 ↔ ∀ e, 2 - w ≤ e → e ≤ H → e = t) := by
  obtain ⟨a1, a2, a3, a4, a5, a6⟩ := kn_v (B := wb_ w H V s) (had := t) (H := H) (H - 1 + w).toNat (2 - w) (-1) 0 (by omega) (by omega) (by omega)
  exact ⟨a1, a2, a3, a4, by unfold kv_; omega, a6⟩
/-- known anew: still so -/
theorem SD_st {w H : Int} {V : Int → Int → Int} (h0 : 0 ≤ H) (h5 : H ≤ 5) (w0 : w = 0 ∨ w = 1) (hl : 1 ≤ H + w) (sd : SD w H V) {s t : Int} (s0 : 0 < s) (s1 : s < nN_ w H) (t0 : 0 ≤ t) (t1 : t ≤ H) (ok : ¬ (0 < (kv_ w H V s t).2 ∧ (kv_ w H V s t).1 = 0)) : SD w H (u2_ V s t (kv_ w H V s t).1) ∧ (kv_ w H V s t).1 ≠ 0 := by
  obtain ⟨a1, a2, a3, a4, a5, a6⟩ := kv_v (V := V) h0 h5 w0 hl s t
  have wv : ∀ e, 2 - w ≤ e → e ≤ H → _ := fun e e0 e1 => wb_v h0 h5 w0 sd s0 s1 e0 e1
  have val : (kv_ w H V s t).1 = 1 ∨ (kv_ w H V s t).1 = -1 := by
    rcases a2 with z | ⟨e, x, y, _, z⟩
    · exact Or.inr z
    · rcases (wv e x y).1 with r | r | r
      · exfalso
        apply ok
        refine ⟨?_, by omega⟩
        apply Classical.byContradiction
        intro n0
        have := a6.mp (by omega) e x y
        contradiction
      · exact Or.inl (by omega)
      · exact Or.inr (by omega)
  refine ⟨fun s' t' b0 b1 b2 b3 => ?_, by omega⟩
  unfold u2_
  by_cases q : s' = s ∧ t' = t
  · rw [if_pos q, q.1, q.2]
    refine ⟨by omega, fun z => ?_, fun z e e0 e1 e2 => ?_⟩
    · rcases a2 with y | ⟨e, x, y, x', y'⟩
      · omega
      · exact ⟨e, x, y, x', (wv e x y).2.1 (by omega)⟩
    · have le := a3 e e0 e1 e2
      rcases (wv e e0 e1).1 with r | r | r
      · omega
      · omega
      · exact (wv e e0 e1).2.2 r
  · rw [if_neg q]
    exact sd s' t' b0 b1 b2 b3
/-- nothing more can be known: then all is known -/
def CL (w H : Int) (V : Int → Int → Int) : Prop := ∀ s t, 0 < s → s < nN_ w H → 0 ≤ t → t ≤ H → V s t ≠ 0 ∨ (0 < (kv_ w H V s t).2 ∧ (kv_ w H V s t).1 = 0)
theorem CL_all {w H : Int} {V : Int → Int → Int} (h0 : 0 ≤ H) (h5 : H ≤ 5) (w0 : w = 0 ∨ w = 1) (hl : 1 ≤ H + w) (sd : SD w H V) (cl : CL w H V) : ∀ (n : Nat) (s d : Int), 0 < s → s < nN_ w H → 2 - w ≤ d → d ≤ H → Ur w H s d < n → (Um w H s d = 1 → wb_ w H V s d = 1) ∧ (Um w H s d = 2 → wb_ w H V s d = -1) := by
  intro n
  have g := GF_ h0 h5 w0
  induction n with
  | zero => intro s d _ _ _ _ q; omega
  | succ n ih =>
    intro s d s0 s1 d0 d1 q
    have nb := nC_b (w := w) h0 h5 s d (by omega) s1 (by omega) d1
    have F := fun (_ : Unit) => g.2.2.2 s d s0 s1 d0 d1
    have wv := wb_v h0 h5 w0 sd s0 s1 d0 d1
    by_cases tz : nC_ w H s d = 0
    · have e1 := (F ()).1 tz
      refine ⟨fun _ => ?_, fun e => by omega⟩
      unfold wb_
      rw [if_pos tz]
    · have t0 : 0 < nC_ w H s d := by omega
      have d0' : 0 ≤ d := by omega
      have rk : ∀ e', Ur w H (nC_ w H s d) e' < Ur w H s d → Ur w H (nC_ w H s d) e' < n := fun e' r => by omega
      have ev : wb_ w H V s d = -(V (nC_ w H s d) d) := by unfold wb_; rw [if_neg tz]
      obtain ⟨a1, a2, a3, a4, a5, a6⟩ := kv_v (V := V) h0 h5 w0 hl (nC_ w H s d) d
      have c := cl (nC_ w H s d) d t0 nb.2 d0' d1
      have sdt := fun (_ : Unit) => sd (nC_ w H s d) d t0 nb.2 d0' d1
      have nz : wb_ w H V s d = 0 → 0 < (kv_ w H V (nC_ w H s d) d).2 ∧ (kv_ w H V (nC_ w H s d) d).1 = 0 := fun z => by
        rcases c with y | y
        · omega
        · exact y
      refine ⟨fun e => ?_, fun e => ?_⟩
      · rcases wv.1 with y | y | y
        · exfalso
          obtain ⟨m0, b0⟩ := nz y
          rcases a2 with z | ⟨e', x1, x2, x3, x4⟩
          · omega
          · have u2 := ((F ()).2 tz).2.1.mp e e' x1 x2 x3
            have r := rk e' (((F ()).2 tz).2.2.1 e e' x1 x2 x3)
            have := (ih (nC_ w H s d) e' t0 nb.2 x1 x2 r).2 u2
            omega
        · exact y
        · have := wv.2.2 y
          omega
      · rcases wv.1 with y | y | y
        · exfalso
          obtain ⟨m0, b0⟩ := nz y
          obtain ⟨e', x1, x2, x3, x4, x5⟩ := ((F ()).2 tz).2.2.2 e
          have := (ih (nC_ w H s d) e' t0 nb.2 x1 x2 (rk e' x5)).1 x4
          have := a3 e' x1 x2 x3
          omega
        · have := wv.2.1 y
          omega
        · exact y
