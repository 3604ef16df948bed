/-! the game in the reference: laid -/
def qB (w H i : Int) : Int := (Bu_ w H).2.2.1 i
def mB_ (w H : Int) : Int := (Bu_ w H).2.2.2
theorem qB_v {w H : Int} (h0 : 0 ≤ H) (h5 : H ≤ 5) (w0 : w = 0 ∨ w = 1) : (1 ≤ mB_ w H ∧ mB_ w H ≤ nN_ w H) ∧ qB w H 0 = 0 ∧ (∀ i, 0 ≤ i → i < mB_ w H → 0 ≤ qB w H i ∧ qB w H i < nN_ w H) ∧ (∀ i j, 0 ≤ i → i < j → j < mB_ w H → qB w H i ≠ qB w H j) ∧ ∀ s, 0 ≤ s → s < nN_ w H → ∃ i, 0 ≤ i ∧ i < mB_ w H ∧ qB w H i = s := by
  obtain ⟨k, I, e⟩ := Bu_I h0 h5 w0
  refine ⟨Bu_m h0 h5 w0, I.1.2.1, fun i a b => ⟨(I.2.1 i a b).1, (I.2.1 i a b).2.1⟩, fun i j a b c => (I.2.2.1 i j a b c).1, fun s s0 s1 => ?_⟩
  rcases I.2.2.2.1 s s0 s1 with q | q
  · have := Bu_p h0 h5 w0 s0 s1
    omega
  · exact q
theorem hl_of {w H : Int} (h0 : 0 ≤ H) (w0 : w = 0 ∨ w = 1) (n : 2 ≤ nN_ w H) : 1 ≤ H + w := by
  apply Classical.byContradiction
  intro q
  have a : H = 0 := by omega
  have b : w = 0 := by omega
  subst a
  subst b
  have : nN_ 0 0 = 1 := by decide +kernel
  omega
/-- all that stands while the game is laid -/
def LW (h : am_H) (w H : Int) (f : Int → Int) : Prop := ShM h ∧ TH h w H f ∧ rd_ h 94 74 = mB_ w H ∧ ∀ i, 0 ≤ i → i < mB_ w H → rd_ h 131 i = f (qB w H i)
def fzG (h h' : am_H) : Prop := fz_ h h' (fun a => a = 133) (fun _ => False)
theorem LW_G {h h' : am_H} {w H : Int} {f : Int → Int} (l : LW h w H f) (z : fzG h h') : LW h' w H f := ⟨ShM_of z.1 l.1, fun s d a b c e => by rw [z.2.1 132 (by omega) (by omega)]; exact l.2.1 s d a b c e, by rw [z.2.2 74 (fun q => q)]; exact l.2.2.1, fun i a b => by rw [z.2.1 131 (by omega) (by omega)]; exact l.2.2.2 i a b⟩
section
variable {w H : Int} {f : Int → Int} {V : Int → Int → Int}
theorem Mo_worthBy_s {h : am_H} (h0 : 0 ≤ H) (h5 : H ≤ 5) (w0 : w = 0 ∨ w = 1) (fi : fI_ f (nN_ w H)) (fb : ∀ s, 0 ≤ s → s < nN_ w H → 0 ≤ f s ∧ f s < 3840) (f0 : f 0 = 0) (l : LW h w H f) (wt : WT h w H f V) (sd : SD w H V) {s d : Int} (s0 : 0 ≤ s) (s1 : s < nN_ w H) (d0 : 1 ≤ d) (d1 : d ≤ H) : Mo_worthBy h 94 (f s) d = some (h, wb_ w H V s d) := by
  have nb := nC_b (w := w) h0 h5 s d s0 s1 d0 d1
  have nv := nN_v (w := w) h0 h5
  have a1 := fb s s0 s1
  have a2 := fb _ nb.1 nb.2
  have th := l.2.1 s d s0 s1 d0 d1
  have wv := wt _ d nb.1 nb.2 (by omega) d1
  rw [Mo_worthBy_e]
  simp only [mr75 l.1, mr76 l.1, ml132 l.1, ml133 l.1]
  rw [w32_i (x := 5 * f s) (by omega) (by omega), w32_i (x := 5 * f s + d) (by omega) (by omega), w32_i (x := 5 * f s + d - 1) (by omega) (by omega), ck_t (by omega), ck_t (by omega), ck_t (by omega), th]
  unfold wb_
  by_cases q : nC_ w H s d = 0
  · rw [if_pos q, q, f0, if_neg (by omega)]
  · have fz : f (nC_ w H s d) ≠ 0 := fun e => q (fi _ 0 nb.1 nb.2 (by omega) (by omega) (by rw [e, f0]))
    have sv := (sd (nC_ w H s d) d (by omega) nb.2 (by omega) d1).1
    rw [if_neg q, if_pos fz, w32_i (x := 6 * f (nC_ w H s d)) (by omega) (by omega), w32_i (x := 6 * f (nC_ w H s d) + d) (by omega) (by omega), ck_t (by omega), ck_t (by omega), ck_t (by omega), wv, w32_i (by omega) (by omega)]
theorem Mo_known_1 {h : am_H} (h0 : 0 ≤ H) (h5 : H ≤ 5) (w0 : w = 0 ∨ w = 1) (fi : fI_ f (nN_ w H)) (fb : ∀ s, 0 ≤ s → s < nN_ w H → 0 ≤ f s ∧ f s < 3840) (f0 : f 0 = 0) (l : LW h w H f) (wt : WT h w H f V) (sd : SD w H V) {s t : Int} (s0 : 0 ≤ s) (s1 : s < nN_ w H) : ∀ (n : Nat) (d b m : Int), 1 ≤ d → d + n = H + 1 → Mo_isKnownNow_1 h 94 H (f s) t b m d = Mo_isKnownNow_1 h 94 H (f s) t (kn_ (wb_ w H V s) t n d b m).1 (kn_ (wb_ w H V s) t n d b m).2 (H + 1) := by
  intro n
  induction n with
  | zero =>
    intro d b m d0 hd
    rw [show d = H + 1 by omega]
    rfl
  | succ n ih =>
    intro d b m d0 hd
    have e : kn_ (wb_ w H V s) t (n + 1) d b m = if d ≠ t then kn_ (wb_ w H V s) t n (d + 1) (if wb_ w H V s d ≤ b then b else wb_ w H V s d) (w32 (m + 1)) else kn_ (wb_ w H V s) t n (d + 1) b m := rfl
    rw [e, Mo_isKnownNow_1_e, if_neg (by omega), w32_i (x := d + 1) (by omega) (by omega)]
    by_cases q : d = t
    · rw [if_neg (fun z => z q), if_neg (fun z => z q)]
      exact ih (d + 1) b m (by omega) (by omega)
    · rw [if_pos q, if_pos q, ck_t (by omega), Mo_worthBy_s h0 h5 w0 fi fb f0 l wt sd s0 s1 d0 (by omega), bd_v]
      by_cases r : wb_ w H V s d ≤ b
      · rw [if_pos r, if_pos r]
        exact ih (d + 1) _ _ (by omega) (by omega)
      · rw [if_neg r, if_neg r]
        exact ih (d + 1) _ _ (by omega) (by omega)
theorem Mo_known_s {h : am_H} (h0 : 0 ≤ H) (h5 : H ≤ 5) (w0 : w = 0 ∨ w = 1) (fi : fI_ f (nN_ w H)) (fb : ∀ s, 0 ≤ s → s < nN_ w H → 0 ≤ f s ∧ f s < 3840) (f0 : f 0 = 0) (l : LW h w H f) (wt : WT h w H f V) (sd : SD w H V) {s t : Int} (s0 : 0 < s) (s1 : s < nN_ w H) (t0 : 0 ≤ t) (t1 : t ≤ H) : (Mo_isKnownNow h 94 H (f s) t (w32 (2 - w)) = some (h, 0) ∧ (V s t ≠ 0 ∨ (0 < (kv_ w H V s t).2 ∧ (kv_ w H V s t).1 = 0))) ∨ (∃ h', Mo_isKnownNow h 94 H (f s) t (w32 (2 - w)) = some (h', 1) ∧ V s t = 0 ∧ (kv_ w H V s t).1 ≠ 0 ∧ WT h' w H f (u2_ V s t (kv_ w H V s t).1) ∧ SD w H (u2_ V s t (kv_ w H V s t).1) ∧ fzG h h') := by
  have hl := hl_of h0 w0 (by omega)
  have a1 := fb s (by omega) s1
  have nv := nN_v (w := w) h0 h5
  obtain ⟨b1, b2, b3, b4, b5, b6⟩ := kv_v (V := V) h0 h5 w0 hl s t
  have hb2 := fun (_ : Unit) => b2
  clear b2
  have wv := wt s t (by omega) s1 t0 t1
  have e1 : Mo_isKnownNow h 94 H (f s) t (w32 (2 - w)) = Mo_isKnownNow_1 h 94 H (f s) t (kv_ w H V s t).1 (kv_ w H V s t).2 (H + 1) := by
    rw [Mo_isKnownNow_e, w32_i (x := 2 - w) (by omega) (by omega)]
    exact Mo_known_1 h0 h5 w0 fi fb f0 l wt sd (by omega) s1 (H - 1 + w).toNat (2 - w) (-1) 0 (by omega) (by omega)
  rw [e1, Mo_isKnownNow_1_e, if_pos (by omega)]
  simp only [mr76 l.1, ml133 l.1]
  rw [w32_i (x := 6 * f s) (by omega) (by omega), w32_i (x := 6 * f s + t) (by omega) (by omega), ck_t (by omega), ck_t (by omega), ck_t (by omega), wv]
  by_cases vz : V s t = 0
  · rw [if_neg (fun z => z vz)]
    by_cases bad : 0 < (kv_ w H V s t).2 ∧ (kv_ w H V s t).1 = 0
    · refine Or.inl ⟨?_, Or.inr bad⟩
      rw [if_neg (c := (kv_ w H V s t).2 ≤ 0) (by omega), if_neg (fun z => z bad.2)]
    · obtain ⟨n1, n2⟩ := SD_st h0 h5 w0 hl sd s0 s1 t0 t1 bad
      refine Or.inr ⟨wr_ h 133 (6 * f s + t) (kv_ w H V s t).1, ?_, vz, n2, ?_, n1, fz_wr rfl (by omega)⟩
      · have fin : Mo_isKnownNow_13 h 94 (f s) t (kv_ w H V s t).1 (kv_ w H V s t).2 = some (wr_ h 133 (6 * f s + t) (kv_ w H V s t).1, 1) := by
          rw [Mo_isKnownNow_13_e]
          simp only [mr76 l.1, ml133 l.1]
          rw [w32_i (x := 6 * f s) (by omega) (by omega), w32_i (x := 6 * f s + t) (by omega) (by omega), ck_t (by omega)]
          by_cases mz : (kv_ w H V s t).2 = 0
          · have ebest : (kv_ w H V s t).1 = -1 := by
              rcases hb2 () with z | ⟨e, x1, x2, x3, _⟩
              · exact z
              · exact absurd (b6.mp mz e x1 x2) x3
            rw [if_neg (fun z => z mz), ck_t (by omega), ck_t (by omega), ebest]
          · rw [if_pos mz, ck_t (by omega), ck_t (by omega)]
        by_cases m0 : (kv_ w H V s t).2 ≤ 0
        · rw [if_pos m0, fin]
        · rw [if_neg m0, if_pos n2, fin]
      · intro s' t' c1 c2 c3 c4
        have cb := fb s' c1 c2
        unfold u2_
        rw [rd_wa]
        by_cases q : s' = s ∧ t' = t
        · rw [if_pos (c := s' = s ∧ t' = t) q, if_pos (by rw [q.1, q.2])]
        · rw [if_neg (c := s' = s ∧ t' = t) q, if_neg (fun z => q (by
            have e : f s' = f s := by omega
            exact ⟨fi s' s c1 c2 (by omega) s1 e, by omega⟩))]
          exact wt s' t' c1 c2 c3 c4
  · rw [if_pos vz]
    exact Or.inl ⟨rfl, Or.inl vz⟩
/-- how much is not known yet -/
def cz_ (w H : Int) (V : Int → Int → Int) : Int := sm_ (fun s => sm_ (fun t => if V s t = 0 then 1 else 0) (H + 1).toNat) (nN_ w H).toNat
theorem cz_p (w H : Int) (V : Int → Int → Int) : 0 ≤ cz_ w H V := sm_p (fun s => sm_p (fun t => by show 0 ≤ if V s t = 0 then (1 : Int) else 0; split <;> omega) _) _
theorem cz_u {s t b : Int} (s0 : 0 ≤ s) (s1 : s < nN_ w H) (t0 : 0 ≤ t) (t1 : t ≤ H) (z : V s t = 0) (n : b ≠ 0) : cz_ w H (u2_ V s t b) = cz_ w H V - 1 := by
  unfold cz_
  have in1 : sm_ (fun t' => if u2_ V s t b s t' = 0 then (1 : Int) else 0) (H + 1).toNat = sm_ (fun t' => if V s t' = 0 then (1 : Int) else 0) (H + 1).toNat - 1 := by
    have := sm_2 (f := fun t' => if V s t' = 0 then (1 : Int) else 0) (g := fun t' => if u2_ V s t b s t' = 0 then (1 : Int) else 0) (j := t) (H + 1).toNat (fun i i0 i1 hi => by
      show (if u2_ V s t b s i = 0 then (1 : Int) else 0) = if V s i = 0 then 1 else 0
      unfold u2_
      rw [if_neg (c := s = s ∧ i = t) (fun q => hi q.2)])
    rw [this, if_pos (by omega)]
    have e1 : u2_ V s t b s t = b := if_pos ⟨rfl, rfl⟩
    show _ + ((if u2_ V s t b s t = 0 then (1 : Int) else 0) - (if V s t = 0 then 1 else 0)) = _
    rw [e1, if_neg n, if_pos z]
    omega
  have := sm_2 (f := fun s' => sm_ (fun t' => if V s' t' = 0 then (1 : Int) else 0) (H + 1).toNat) (g := fun s' => sm_ (fun t' => if u2_ V s t b s' t' = 0 then (1 : Int) else 0) (H + 1).toNat) (j := s) (nN_ w H).toNat (fun i i0 i1 hi => by
    refine sm_c _ (fun t' _ _ => ?_)
    show (if u2_ V s t b i t' = 0 then (1 : Int) else 0) = if V i t' = 0 then 1 else 0
    unfold u2_
    rw [if_neg (c := i = s ∧ t' = t) (fun q => hi q.1)])
  rw [this, if_pos (by omega)]
  show _ + (sm_ (fun t' => if u2_ V s t b s t' = 0 then (1 : Int) else 0) (H + 1).toNat - sm_ (fun t' => if V s t' = 0 then (1 : Int) else 0) (H + 1).toNat) = _
  rw [in1]
  omega
def CA (w H : Int) (V : Int → Int → Int) (s t : Int) : Prop := V s t ≠ 0 ∨ (0 < (kv_ w H V s t).2 ∧ (kv_ w H V s t).1 = 0)
theorem or_x0 {x : Int} (q : x = 0 ∨ x = 1) : or_ x 0 = x ∧ or_ x 1 = 1 := by
  rcases q with e | e <;> subst e <;> decide
theorem Mo_lw_14 (h0 : 0 ≤ H) (h5 : H ≤ 5) (w0 : w = 0 ∨ w = 1) (fi : fI_ f (nN_ w H)) (fb : ∀ s, 0 ≤ s → s < nN_ w H → 0 ≤ f s ∧ f s < 3840) (f0 : f 0 = 0) {k : Int} (k0 : 1 ≤ k) (k1 : k < mB_ w H) : ∀ (n : Nat) (t x : Int) (h : am_H) (V : Int → Int → Int), 0 ≤ t → t + n = H + 1 → (x = 0 ∨ x = 1) → LW h w H f → WT h w H f V → SD w H V → ∃ h' V' x', Mo_layWorth_14 h 94 H w x k t = Mo_layWorth_12 h' 94 H w x' (k + 1) ∧ (x' = 0 ∨ x' = 1) ∧ LW h' w H f ∧ WT h' w H f V' ∧ SD w H V' ∧ fzG h h' ∧ ((x' = x ∧ V' = V ∧ ∀ t', t ≤ t' → t' ≤ H → CA w H V (qB w H k) t') ∨ (x' = 1 ∧ cz_ w H V' < cz_ w H V)) := by
  intro n
  obtain ⟨q1, q2, q3, q4, q5⟩ := qB_v h0 h5 w0
  have nv := nN_v (w := w) h0 h5
  have qk := q3 k (by omega) k1
  have qn : qB w H k ≠ 0 := fun e => q4 0 k (by omega) (by omega) k1 (by rw [q2, e])
  clear q5
  induction n with
  | zero =>
    intro t x h V t0 ht xx l wt sd
    refine ⟨h, V, x, ?_, xx, l, wt, sd, fz_refl _ _ _, Or.inl ⟨rfl, rfl, fun t' a b => by omega⟩⟩
    rw [Mo_layWorth_14_e, if_pos (by omega), w32_i (x := k + 1) (by omega) (by omega)]
  | succ n ih =>
    intro t x h V t0 ht xx l wt sd
    rw [Mo_layWorth_14_e, if_neg (by omega)]
    simp only [mr73 l.1, ml131 l.1, l.2.2.2 k (by omega) k1]
    rw [ck_t (by omega), ck_t (by omega), ck_t (by omega), ck_t (by omega), w32_i (x := t + 1) (by omega) (by omega)]
    rcases Mo_known_s h0 h5 w0 fi fb f0 l wt sd (s := qB w H k) (t := t) (by omega) qk.2 t0 (by omega) with ⟨y1, y2⟩ | ⟨h1, y1, y2, y3, y4, y5, y6⟩
    · rw [y1, bd_v, (or_x0 xx).1]
      obtain ⟨h', V', x', z1, z2, z3, z4, z5, z6, z7⟩ := ih (t + 1) x h V (by omega) (by omega) xx l wt sd
      refine ⟨h', V', x', z1, z2, z3, z4, z5, z6, ?_⟩
      rcases z7 with ⟨e1, e2, e3⟩ | z
      · refine Or.inl ⟨e1, e2, fun t' a b => ?_⟩
        by_cases e : t' = t
        · rw [e]; exact y2
        · exact e3 t' (by omega) b
      · exact Or.inr z
    · rw [y1, bd_v, (or_x0 xx).2]
      obtain ⟨h', V', x', z1, z2, z3, z4, z5, z6, z7⟩ := ih (t + 1) 1 h1 _ (by omega) (by omega) (Or.inr rfl) (LW_G l y6) y4 y5
      have cu := cz_u (w := w) (H := H) (V := V) (s := qB w H k) (t := t) qk.1 qk.2 t0 (by omega) y2 y3
      refine ⟨h', V', x', z1, z2, z3, z4, z5, fz_tr y6 z6, Or.inr ?_⟩
      rcases z7 with ⟨e1, e2, e3⟩ | ⟨e1, e2⟩
      · rw [e2]
        exact ⟨e1, by omega⟩
      · exact ⟨e1, by omega⟩
theorem Mo_lw_12 (h0 : 0 ≤ H) (h5 : H ≤ 5) (w0 : w = 0 ∨ w = 1) (fi : fI_ f (nN_ w H)) (fb : ∀ s, 0 ≤ s → s < nN_ w H → 0 ≤ f s ∧ f s < 3840) (f0 : f 0 = 0) : ∀ (n : Nat) (k x : Int) (h : am_H) (V : Int → Int → Int), 1 ≤ k → k + n = mB_ w H → (x = 0 ∨ x = 1) → LW h w H f → WT h w H f V → SD w H V → ∃ h' V' x', Mo_layWorth_12 h 94 H w x k = Mo_layWorth_10 h' 94 H w x' ∧ (x' = 0 ∨ x' = 1) ∧ LW h' w H f ∧ WT h' w H f V' ∧ SD w H V' ∧ fzG h h' ∧ ((x' = x ∧ V' = V ∧ ∀ i t', k ≤ i → i < mB_ w H → 0 ≤ t' → t' ≤ H → CA w H V (qB w H i) t') ∨ (x' = 1 ∧ cz_ w H V' < cz_ w H V)) := by
  intro n
  induction n with
  | zero =>
    intro k x h V k0 hk xx l wt sd
    refine ⟨h, V, x, ?_, xx, l, wt, sd, fz_refl _ _ _, Or.inl ⟨rfl, rfl, fun i t' a b => by omega⟩⟩
    rw [Mo_layWorth_12_e, ck_t (by omega), l.2.2.1, if_pos (by omega)]
  | succ n ih =>
    intro k x h V k0 hk xx l wt sd
    obtain ⟨h1, V1, x1, y1, y2, y3, y4, y5, y6, y7⟩ := Mo_lw_14 h0 h5 w0 fi fb f0 k0 (by omega) (H + 1).toNat 0 x h V (by omega) (by omega) xx l wt sd
    obtain ⟨h', V', x', z1, z2, z3, z4, z5, z6, z7⟩ := ih (k + 1) x1 h1 V1 (by omega) (by omega) y2 y3 y4 y5
    refine ⟨h', V', x', ?_, z2, z3, z4, z5, fz_tr y6 z6, ?_⟩
    · rw [Mo_layWorth_12_e, ck_t (by omega), l.2.2.1, if_neg (by omega), y1, z1]
    · rcases y7 with ⟨e1, e2, e3⟩ | ⟨e1, e2⟩
      · rcases z7 with ⟨g1, g2, g3⟩ | ⟨g1, g2⟩
        · refine Or.inl ⟨g1.trans e1, g2.trans e2, fun i t' a b c d => ?_⟩
          by_cases e : i = k
          · rw [e]; exact e3 t' c d
          · have := g3 i t' (by omega) b c d
            rw [e2] at this
            exact this
        · rw [e2] at g2
          exact Or.inr ⟨g1, g2⟩
      · rcases z7 with ⟨g1, g2, g3⟩ | ⟨g1, g2⟩
        · rw [g2]
          exact Or.inr ⟨g1.trans e1, e2⟩
        · exact Or.inr ⟨g1, by omega⟩
theorem Mo_lw_10 (h0 : 0 ≤ H) (h5 : H ≤ 5) (w0 : w = 0 ∨ w = 1) (fi : fI_ f (nN_ w H)) (fb : ∀ s, 0 ≤ s → s < nN_ w H → 0 ≤ f s ∧ f s < 3840) (f0 : f 0 = 0) : ∀ (n : Nat) (h : am_H) (V : Int → Int → Int), cz_ w H V < n → LW h w H f → WT h w H f V → SD w H V → ∃ h' V', Mo_layWorth_10 h 94 H w 1 = some (h', 0) ∧ LW h' w H f ∧ WT h' w H f V' ∧ SD w H V' ∧ CL w H V' ∧ fzG h h' := by
  intro n
  obtain ⟨q1, q2, q3, q4, q5⟩ := qB_v h0 h5 w0
  induction n with
  | zero =>
    intro h V c
    have := cz_p w H V
    omega
  | succ n ih =>
    intro h V c l wt sd
    obtain ⟨h1, V1, x1, y1, y2, y3, y4, y5, y6, y7⟩ := Mo_lw_12 h0 h5 w0 fi fb f0 (mB_ w H - 1).toNat 1 0 h V (by omega) (by omega) (Or.inl rfl) l wt sd
    rw [Mo_layWorth_10_e, if_neg (by omega), y1]
    rcases y7 with ⟨e1, e2, e3⟩ | ⟨e1, e2⟩
    · rw [e1, Mo_layWorth_10_e, if_pos rfl]
      refine ⟨h1, V1, rfl, y3, y4, y5, ?_, y6⟩
      rw [e2]
      intro s t s0 s1 t0 t1
      obtain ⟨i, i0, i1, i2⟩ := q5 s (by omega) s1
      have inz : i ≠ 0 := fun e => by rw [e, q2] at i2; omega
      have := e3 i t (by omega) i1 t0 t1
      rw [i2] at this
      exact this
    · rw [e1]
      obtain ⟨h', V', z1, z2, z3, z4, z5, z6⟩ := ih h1 V1 (by omega) y3 y4 y5
      exact ⟨h', V', z1, z2, z3, z4, z5, fz_tr y6 z6⟩
end
