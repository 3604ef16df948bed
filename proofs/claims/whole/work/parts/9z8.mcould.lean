/-! could in the reference -/
def aE (w H : Int) (f : Int → Int) (t : Int) (A : Int → Int) : Prop := ∀ k, 0 ≤ k → k < 3840 → (A k = 0 ∨ A k = 1) ∧ (A k = 1 ↔ ∃ s, 0 ≤ s ∧ s < nN_ w H ∧ Ex_ w H t s ∧ f s = k)
def aB (w H : Int) (f : Int → Int) (t m : Int) (B : Int → Int) : Prop := ∀ j, 0 ≤ j → j < 3840 → (B j = 0 ∨ B j = 1) ∧ (B j = 1 ↔ ∃ s e, 0 ≤ s ∧ s < nN_ w H ∧ Ex_ w H t s ∧ f s < m ∧ 1 ≤ e ∧ e ≤ H ∧ f (nC_ w H s e) = j)
section
variable {w H : Int} {f : Int → Int}
theorem Mo_cd_15 (h0 : 0 ≤ H) (h5 : H ≤ 5) (fb : ∀ s, 0 ≤ s → s < nN_ w H → 0 ≤ f s ∧ f s < 3840) (nf : nF_ (nC_ w H) (nM_ w H) f (nN_ w H) H) {s k t x : Int} (s0 : 0 ≤ s) (s1 : s < nN_ w H) (fs : f s = k) {A : Int → Int} (Ak : A k = 1) : ∀ (n : Nat) (d : Int) (h : am_H) (B : Int → Int), ShM h → 1 ≤ d → d + n = H + 1 → RW h 129 3840 A → RW h 130 3840 B → ∃ h' B', Mo_could_15 h 94 w t H x k d = Mo_could_13 h' 94 w t H x (k + 1) ∧ RW h' 129 3840 A ∧ RW h' 130 3840 B' ∧ (∀ j, (B' j = B j ∨ B' j = 1) ∧ (B' j = 1 ↔ B j = 1 ∨ ∃ e, d ≤ e ∧ e ≤ H ∧ f (nC_ w H s e) = j)) ∧ fzF h h' := by
  intro n
  have k0 := fb s s0 s1
  induction n with
  | zero =>
    intro d h B S d0 hd a b
    refine ⟨h, B, ?_, a, b, fun j => ⟨Or.inl rfl, ⟨Or.inl, fun q => ?_⟩⟩, fz_refl _ _ _⟩
    · rw [Mo_could_15_e, if_pos (by omega), w32_i (x := k + 1) (by omega) (by omega)]
    · rcases q with q | ⟨e, _, _, _⟩
      · exact q
      · omega
  | succ n ih =>
    intro d h B S d0 hd a b
    obtain ⟨h1, x1, x2⟩ := Mo_turnedCode_s (h := h) (H := H) (c := k) (d := d) (w := w) S h0 h5 (by omega) (by omega)
    have nb := nC_b (w := w) h0 h5 s d s0 s1 d0 (by omega)
    have ff := nf s d s0 s1 d0 (by omega)
    have fn := fb _ nb.1 nb.2
    rw [← fs, ff] at x1
    rw [fs] at x1
    have S1 := ShM_of x2.1 S
    have a1 : RW h1 129 3840 A := fun j j0 j1 => by rw [x2.2.1 129 (by omega) (by omega)]; exact a j j0 j1
    have b1 : RW h1 130 3840 B := fun j j0 j1 => by rw [x2.2.1 130 (by omega) (by omega)]; exact b j j0 j1
    obtain ⟨h2, B', y1, y2, y3, y4, y5⟩ := ih (d + 1) (wr_ h1 130 (f (nC_ w H s d)) 1) (ud_ B (f (nC_ w H s d)) 1) (ShM_of rfl S1) (by omega) (by omega) (RW_o a1 (by omega)) (RW_wr b1 _ _)
    refine ⟨h2, B', ?_, y2, y3, ?_, fzF_tr (fzF_R x2) (fzF_tr (fz_wr ⟨by omega, by omega⟩ (by omega)) y5)⟩
    · rw [Mo_could_15_e, if_neg (by omega)]
      simp only [mr71 S, ml129 S, mr72 S]
      rw [ck_t (by omega), ck_t (by omega), ck_t (by omega), a k (by omega) (by omega), if_neg (fun z => z Ak), ck_t (by omega), ck_t (by omega), x1, bd_v]
      simp only [ml130 S1]
      rw [ck_t (by omega), ck_t (by omega), w32_i (x := d + 1) (by omega) (by omega), y1]
    · intro j
      obtain ⟨z1, z2⟩ := y4 j
      by_cases q : j = f (nC_ w H s d)
      · have e1 : B' j = 1 := by
          rcases z1 with z | z
          · rw [z, q, ud_s]
          · exact z
        exact ⟨Or.inr e1, ⟨fun _ => Or.inr ⟨d, Int.le_refl _, by omega, q.symm⟩, fun _ => e1⟩⟩
      · rw [ud_o q] at z1 z2
        refine ⟨z1, z2.trans ⟨fun y => ?_, fun y => ?_⟩⟩
        · rcases y with y | ⟨e, e0, e1, e2⟩
          · exact Or.inl y
          · exact Or.inr ⟨e, by omega, e1, e2⟩
        · rcases y with y | ⟨e, e0, e1, e2⟩
          · exact Or.inl y
          · refine Or.inr ⟨e, ?_, e1, e2⟩
            have : e ≠ d := fun z => q (by rw [← z]; exact e2.symm)
            omega
theorem Mo_cd_13 (h0 : 0 ≤ H) (h5 : H ≤ 5) (fi : fI_ f (nN_ w H)) (fb : ∀ s, 0 ≤ s → s < nN_ w H → 0 ≤ f s ∧ f s < 3840) (nf : nF_ (nC_ w H) (nM_ w H) f (nN_ w H) H) {t m x : Int} {A : Int → Int} (ae : aE w H f m A) : ∀ (n : Nat) (k : Int) (h : am_H) (B : Int → Int), ShM h → 0 ≤ k → k + n = 3840 → RW h 129 3840 A → RW h 130 3840 B → aB w H f m k B → ∃ h' B', Mo_could_13 h 94 w t H x k = Mo_could_20 h' 94 w t H x 0 ∧ RW h' 129 3840 A ∧ RW h' 130 3840 B' ∧ aB w H f m 3840 B' ∧ fzF h h' := by
  intro n
  induction n with
  | zero =>
    intro k h B S k0 hk a b q
    have e : k = 3840 := by omega
    subst e
    exact ⟨h, B, by rw [Mo_could_13_e, if_pos (by omega)], a, b, q, fz_refl _ _ _⟩
  | succ n ih =>
    intro k h B S k0 hk a b q
    obtain ⟨ak, ai⟩ := ae k k0 (by omega)
    have st : ∃ h1 B1, Mo_could_15 h 94 w t H x k 1 = Mo_could_13 h1 94 w t H x (k + 1) ∧ RW h1 129 3840 A ∧ RW h1 130 3840 B1 ∧ aB w H f m (k + 1) B1 ∧ fzF h h1 := by
      by_cases A1 : A k = 1
      · obtain ⟨s, s0, s1, sx, sf⟩ := ai.mp A1
        obtain ⟨h1, B1, y1, y2, y3, y4, y5⟩ := Mo_cd_15 (x := x) (t := t) h0 h5 fb nf s0 s1 sf A1 H.toNat 1 h B S (by omega) (by omega) a b
        refine ⟨h1, B1, y1, y2, y3, ?_, y5⟩
        intro j j0 j1
        obtain ⟨b1, b2⟩ := q j j0 j1
        obtain ⟨z1, z2⟩ := y4 j
        refine ⟨by rcases z1 with z | z <;> rw [z] <;> omega, z2.trans ⟨fun y => ?_, fun y => ?_⟩⟩
        · rcases y with y | ⟨e, e0, e1, e2⟩
          · obtain ⟨s', e, c1, c2, c3, c4, c5⟩ := b2.mp y
            exact ⟨s', e, c1, c2, c3, by omega, c5⟩
          · exact ⟨s, e, s0, s1, sx, by omega, e0, e1, e2⟩
        · obtain ⟨s', e, c1, c2, c3, c4, c5, c6, c7⟩ := y
          by_cases r : f s' = k
          · have es : s' = s := fi s' s c1 c2 s0 s1 (by rw [r, sf])
            rw [es] at c7
            exact Or.inr ⟨e, c5, c6, c7⟩
          · exact Or.inl (b2.mpr ⟨s', e, c1, c2, c3, by omega, c5, c6, c7⟩)
      · refine ⟨h, B, ?_, a, b, ?_, fz_refl _ _ _⟩
        · rw [Mo_could_15_e]
          by_cases r : H < 1
          · rw [if_pos r, w32_i (x := k + 1) (by omega) (by omega)]
          · rw [if_neg r]
            simp only [mr71 S, ml129 S]
            rw [ck_t (by omega), ck_t (by omega), ck_t (by omega), a k k0 (by omega), if_pos A1, w32_i (x := k + 1) (by omega) (by omega)]
        · intro j j0 j1
          obtain ⟨b1, b2⟩ := q j j0 j1
          refine ⟨b1, b2.trans ⟨fun ⟨s', e, c1, c2, c3, c4, c5⟩ => ⟨s', e, c1, c2, c3, by omega, c5⟩, fun ⟨s', e, c1, c2, c3, c4, c5⟩ => ⟨s', e, c1, c2, c3, ?_, c5⟩⟩⟩
          have : f s' ≠ k := fun r => A1 (ai.mpr ⟨s', c1, c2, c3, r⟩)
          omega
    obtain ⟨h1, B1, y1, y2, y3, y4, y5⟩ := st
    obtain ⟨h2, B2, z1, z2, z3, z4, z5⟩ := ih (k + 1) h1 B1 (ShM_of y5.1 S) (by omega) (by omega) y2 y3 y4
    exact ⟨h2, B2, by rw [Mo_could_13_e, if_neg (by omega), y1, z1], z2, z3, z4, fzF_tr y5 z5⟩
theorem Mo_cd_20 {t x : Int} {B : Int → Int} : ∀ (n : Nat) (k : Int) (h : am_H), ShM h → 0 ≤ k → k + n = 3840 → RW h 129 k B → RW h 130 3840 B → ∃ h', Mo_could_20 h 94 w t H x k = Mo_could_8 h' 94 w t H (w32 (x + 1)) ∧ RW h' 129 3840 B ∧ RW h' 130 3840 B ∧ fzF h h' := by
  intro n
  induction n with
  | zero =>
    intro k h S k0 hk a b
    have e : k = 3840 := by omega
    subst e
    exact ⟨h, by rw [Mo_could_20_e, if_pos (by omega)], a, b, fz_refl _ _ _⟩
  | succ n ih =>
    intro k h S k0 hk a b
    obtain ⟨h1, y1, y2, y3, y4⟩ := ih (k + 1) (wr_ h 129 k (B k)) (ShM_of rfl S) (by omega) (by omega) (RW_gr a rfl) (RW_o b (by omega))
    refine ⟨h1, ?_, y2, y3, fzF_tr (fz_wr ⟨by omega, by omega⟩ (by omega)) y4⟩
    rw [Mo_could_20_e, if_neg (by omega)]
    simp only [mr71 S, ml129 S, mr72 S, ml130 S]
    rw [ck_t (by omega), ck_t (by omega), ck_t (by omega), ck_t (by omega), ck_t (by omega), ck_t (by omega), b k k0 (by omega), w32_i (x := k + 1) (by omega) (by omega), y1]
theorem Mo_cd_10 {t x : Int} : ∀ (n : Nat) (k : Int) (h : am_H), ShM h → 0 ≤ k → k + n = 3840 → RW h 130 k (fun _ => 0) → ∃ h', Mo_could_10 h 94 w t H x k = Mo_could_13 h' 94 w t H x 0 ∧ RW h' 130 3840 (fun _ => 0) ∧ fr_ h h' (fun a => a = 130) := by
  intro n
  induction n with
  | zero =>
    intro k h S k0 hk b
    have e : k = 3840 := by omega
    subst e
    exact ⟨h, by rw [Mo_could_10_e, if_pos (by omega)], b, fr_refl _ _⟩
  | succ n ih =>
    intro k h S k0 hk b
    obtain ⟨h1, y1, y2, y3⟩ := ih (k + 1) (wr_ h 130 k 0) (ShM_of rfl S) (by omega) (by omega) (RW_gr b rfl)
    refine ⟨h1, ?_, y2, fr_tr (fr_wr rfl) y3⟩
    rw [Mo_could_10_e, if_neg (by omega)]
    simp only [mr72 S, ml130 S]
    rw [ck_t (by omega), ck_t (by omega), ck_t (by omega), w32_i (x := k + 1) (by omega) (by omega), y1]
theorem Mo_cd_8 (h0 : 0 ≤ H) (h5 : H ≤ 5) (w0 : w = 0 ∨ w = 1) (fi : fI_ f (nN_ w H)) (fb : ∀ s, 0 ≤ s → s < nN_ w H → 0 ≤ f s ∧ f s < 3840) (nf : nF_ (nC_ w H) (nM_ w H) f (nN_ w H) H) {t : Int} (t1 : t ≤ 9) : ∀ (n : Nat) (x : Int) (h : am_H) (A : Int → Int), ShM h → 0 ≤ x → x + n = t → RW h 129 3840 A → aE w H f x A → ∃ h' A', Mo_could_8 h 94 w t H x = Mo_could_24 h' 94 0 0 ∧ RW h' 129 3840 A' ∧ aE w H f t A' ∧ fzF h h' := by
  intro n
  induction n with
  | zero =>
    intro x h A S x0 hx a ae
    have e : x = t := by omega
    subst e
    exact ⟨h, A, by rw [Mo_could_8_e, if_pos (by omega)], a, ae, fz_refl _ _ _⟩
  | succ n ih =>
    intro x h A S x0 hx a ae
    obtain ⟨h1, y1, y2, y3⟩ := Mo_cd_10 (w := w) (H := H) (t := t) (x := x) 3840 0 h S (by omega) (by omega) (fun k p q => by omega)
    have S1 := ShM_of y3.1 S
    obtain ⟨h2, B, z1, z2, z3, z4, z5⟩ := Mo_cd_13 (t := t) (x := x) h0 h5 fi fb nf ae 3840 0 h1 (fun _ => 0) S1 (by omega) (by omega) (RW_fr a y3 (by omega)) y2 (fun j j0 j1 => ⟨Or.inl rfl, ⟨fun q => by simp at q, fun ⟨s, e, c1, c2, _, c4, _⟩ => by have := fb s c1 c2; omega⟩⟩)
    have S2 := ShM_of z5.1 S1
    obtain ⟨h3, u1, u2, u3, u4⟩ := Mo_cd_20 (w := w) (H := H) (t := t) (x := x) 3840 0 h2 S2 (by omega) (by omega) (fun k p q => by omega) z3
    have S3 := ShM_of u4.1 S2
    obtain ⟨h4, A', v1, v2, v3, v4⟩ := ih (x + 1) h3 B S3 (by omega) (by omega) u2 (by
      intro j j0 j1
      obtain ⟨b1, b2⟩ := z4 j j0 j1
      refine ⟨b1, b2.trans ⟨fun ⟨s, e, c1, c2, c3, _, c5, c6, c7⟩ => ?_, fun ⟨s, c1, c2, c3, c4⟩ => ?_⟩⟩
      · have nb := nC_b (w := w) h0 h5 s e c1 c2 c5 c6
        exact ⟨nC_ w H s e, nb.1, nb.2, (Ex_st h0 h5 w0 x0 (by omega) nb.1 nb.2).mpr ⟨s, e, c1, c2, c5, c6, c3, rfl⟩, c7⟩
      · obtain ⟨u, d, d1, d2, d3, d4, d5, d6⟩ := (Ex_st h0 h5 w0 x0 (by omega) c1 c2).mp c3
        have := fb u d1 d2
        exact ⟨u, d, d1, d2, d5, by omega, d3, d4, by rw [d6]; exact c4⟩)
    refine ⟨h4, A', ?_, v2, v3, fzF_tr (fz_fr y3 (fun a q => by omega) (by omega)) (fzF_tr z5 (fzF_tr u4 v4))⟩
    rw [Mo_could_8_e, if_neg (by omega), y1, z1, u1, w32_i (x := x + 1) (by omega) (by omega), v1]
theorem Mo_cd_24 {h : am_H} {A : Int → Int} (S : ShM h) (a : RW h 129 3840 A) (ab : ∀ k, 0 ≤ k → k < 3840 → A k = 0 ∨ A k = 1) : ∀ (n k : Nat), k + n = 3840 → Mo_could_24 h 94 (tl_ A 1 k) k = some (h, tl_ A 1 3840) := by
  intro n
  induction n with
  | zero =>
    intro k hk
    have e : k = 3840 := by omega
    subst e
    rw [Mo_could_24_e, if_pos (by omega)]
  | succ n ih =>
    intro k hk
    have tb := tl_b A 1 k
    have y := ih (k + 1) (by omega)
    unfold tl_ at y
    rw [Mo_could_24_e, if_neg (by omega)]
    simp only [mr71 S, ml129 S]
    rw [ck_t (by omega), ck_t (by omega), ck_t (by omega), a k (by omega) (by omega), w32_i (x := (k : Int) + 1) (by omega) (by omega)]
    have ec : ((k + 1 : Nat) : Int) = (k : Int) + 1 := by omega
    rw [ec] at y
    rcases ab k (by omega) (by omega) with z | z
    · rw [z] at y ⊢
      rw [if_neg (by omega)] at y
      rw [w32_i (by omega) (by omega)]
      exact y
    · rw [z] at y ⊢
      rw [if_pos rfl] at y
      rw [w32_i (by omega) (by omega)]
      exact y
end
section
variable {h : am_H} {T W I : Tx} {U : Int → Tx} {Q : Tx}
theorem Mo_cd_5 {p w t H : Int} : ∀ (n : Nat) (k : Int) (h : am_H), ShM h → 0 ≤ k → k + n = 3840 → RW h 129 k (fun _ => 0) → ∃ h', Mo_could_5 h 94 p w t H k = Mo_could_5 h' 94 p w t H 3840 ∧ RW h' 129 3840 (fun _ => 0) ∧ fr_ h h' (fun a => a = 129) := by
  intro n
  induction n with
  | zero =>
    intro k h S k0 hk b
    have e : k = 3840 := by omega
    subst e
    exact ⟨h, rfl, b, fr_refl _ _⟩
  | succ n ih =>
    intro k h S k0 hk b
    obtain ⟨h1, y1, y2, y3⟩ := ih (k + 1) (wr_ h 129 k 0) (ShM_of rfl S) (by omega) (by omega) (RW_gr b rfl)
    refine ⟨h1, ?_, y2, fr_tr (fr_wr rfl) y3⟩
    rw [Mo_could_5_e, if_neg (by omega)]
    simp only [mr71 S, ml129 S]
    rw [ck_t (by omega), ck_t (by omega), ck_t (by omega), w32_i (x := k + 1) (by omega) (by omega), y1]
theorem Mo_could_t (g0 : MN h T W I U Q) (sv : SV T W I U Q) {p w t : Int} (p0 : 0 ≤ p) (p1 : p < T 0 1) (w0 : w = 0 ∨ w = 1) (t0 : 0 ≤ t) (t1 : t ≤ 9) : ∃ h', Mo_could h 94 p w t = some (h', cld_ w (W 0 p) t) ∧ MN h' T W I U Q ∧ Mq h h' := by
  have v := sv.2.1
  have v0 := v.1
  have hh := v.2.1 p p0 p1
  have q2 := Mq_2 h 0
  have g := MN_q g0 v q2
  have y0 : rd_ (wr_ h 94 2 0) 120 p = W 0 p := by have := g.2.2.2.1.2.1 p p0 p1; simpa using this
  have nv := nN_v (w := w) (H := W 0 p) (by omega) hh.2
  have rk := (Rk_v v p0 p1).1
  have fw := Fw_b (w := w) v p0 p1
  have fi := ph_i (w := w) (by omega) hh.2 rk fw
  have nf := ph_f (w := w) (by omega) hh.2 rk fw
  have fb : ∀ s, 0 ≤ s → s < nN_ w (W 0 p) → 0 ≤ ph_ w (W 0 p) (Rk T W p) (Fw T W p w) s ∧ ph_ w (W 0 p) (Rk T W p) (Fw T W p w) s < 3840 := fun s s0 s1 => ph_b (by omega) hh.2 rk s0 s1
  have f0 : ph_ w (W 0 p) (Rk T W p) (Fw T W p w) 0 = stM T W p w := ph_0 (by omega) hh.2 fw Fw_0
  obtain ⟨h1, a1, a2, a3⟩ := Mo_cd_5 (p := p) (w := w) (t := t) (H := W 0 p) 3840 0 (wr_ h 94 2 0) g.1 (by omega) (by omega) (fun k x y => by omega)
  have z1 : fzF (wr_ h 94 2 0) h1 := fz_fr a3 (fun a q => by omega) (by omega)
  have g1 := MN_q g v (mF_q z1)
  obtain ⟨h2, b1, b2, b3, b4⟩ := Mo_codeOfPile_s (p := p) (w := w) g1 v p0 p1 w0
  have st := st_b (w := w) v p0 p1
  have A2 : RW h2 129 3840 (fun _ => 0) := fun k k0 k1 => by rw [b4.2.1 129 (by omega) (by omega)]; exact a2 k k0 k1
  obtain ⟨h3, A', c1, c2, c3, c4⟩ := Mo_cd_8 (by omega) hh.2 w0 fi fb nf t1 t.toNat 0 (wr_ h2 129 (stM T W p w) 1) (ud_ (fun _ => 0) (stM T W p w) 1) (ShM_of rfl b3.1) (by omega) (by omega) (RW_wr A2 _ _) (by
    intro k k0 k1
    by_cases e : k = stM T W p w
    · rw [e, ud_s]
      exact ⟨Or.inr rfl, ⟨fun _ => ⟨0, by omega, by omega, (Ex_0 (by omega) hh.2 w0 (by omega) (by omega)).mpr rfl, f0⟩, fun _ => rfl⟩⟩
    · rw [ud_o e]
      refine ⟨Or.inl rfl, ⟨fun q => by simp at q, fun ⟨s, s0, s1, sx, sf⟩ => ?_⟩⟩
      have := (Ex_0 (by omega) hh.2 w0 s0 s1).mp sx
      rw [this, f0] at sf
      exact absurd sf.symm e)
  have Z : fzF h2 h3 := fzF_tr (fz_wr ⟨by omega, by omega⟩ (by omega)) c4
  have g3 := MN_q b3 v (mF_q Z)
  have ab : ∀ k, 0 ≤ k → k < 3840 → A' k = 0 ∨ A' k = 1 := fun k k0 k1 => (c3 k k0 k1).1
  refine ⟨h3, ?_, g3, Mq_tr q2 (Mq_tr (mF_q z1) (Mq_tr (mR_q b4) (mF_q Z)))⟩
  have fin := Mo_cd_24 g3.1 c2 ab 3840 0 (by omega)
  have ans : tl_ A' 1 3840 = cld_ w (W 0 p) t := by
    rw [tl_inj (nN_ w (W 0 p)).toNat (ph_ w (W 0 p) (Rk T W p) (Fw T W p w)) A' (fun s s0 s1 => by have := fb s s0 (by omega); omega) (fun s u s0 su u1 e => by have := fi s u s0 (by omega) (by omega) (by omega) e; omega) (fun x x0 x1 e => by
      obtain ⟨s, s0, s1, _, sf⟩ := (c3 x x0 x1).2.mp e
      exact ⟨s, s0, by omega, sf⟩)]
    unfold cld_
    refine tl_e _ (fun s s0 s1 => ?_)
    show A' (ph_ w (W 0 p) (Rk T W p) (Fw T W p w) s) = if Ex_ w (W 0 p) t s then 1 else 0
    have sN : s < nN_ w (W 0 p) := by omega
    have fs := fb s s0 sN
    obtain ⟨d1, d2⟩ := c3 _ fs.1 fs.2
    by_cases x : Ex_ w (W 0 p) t s
    · rw [if_pos x]
      exact d2.mpr ⟨s, s0, sN, x, rfl⟩
    · rw [if_neg x]
      rcases d1 with y | y
      · exact y
      · obtain ⟨s', e0, e1, e2, e3⟩ := d2.mp y
        have := fi s' s e0 e1 s0 sN e3
        rw [this] at e2
        exact absurd e2 x
  rw [Mo_could_e, ck_t (by omega), ck_t (by omega), Mo_isPile_t g.2.1 p0 p1, bd_v, if_neg (by omega), Mo_isIn_t (by omega) (by omega), bd_v, if_neg (by omega), Mo_isIn_t t0 t1, bd_v, if_pos (by omega)]
  simp only [mr52 g.1, ml120 g.1, y0]
  rw [ck_t (by omega), ck_t (by omega), ck_t (by omega), a1, Mo_could_5_e, if_pos (by omega), ck_t (by omega), ck_t (by omega), b1, bd_v]
  simp only [mr71 g1.1, ml129 b3.1]
  rw [ck_t (by omega), ck_t (by omega), c1, ← ans]
  exact fin
theorem Mo_could_f (g0 : MN h T W I U Q) (v : WV T W) {p w t : Int} (c : ¬ ((0 ≤ p ∧ p < T 0 1) ∧ (0 ≤ w ∧ w ≤ 1) ∧ 0 ≤ t ∧ t ≤ 9)) : Mo_could h 94 p w t = some (wr_ h 94 2 0, -1) := by
  have g := MN_q g0 v (Mq_2 h 0)
  rw [Mo_could_e, ck_t (by omega), ck_t (by omega)]
  by_cases q : 0 ≤ p ∧ p < T 0 1
  · rw [Mo_isPile_t g.2.1 q.1 q.2, bd_v, if_neg (by omega)]
    by_cases r : 0 ≤ w ∧ w ≤ 1
    · rw [Mo_isIn_t r.1 r.2, bd_v, if_neg (by omega), Mo_isIn_f (fun z => c ⟨q, r, z⟩), bd_v, if_neg (by omega)]
    · rw [Mo_isIn_f r, bd_v, if_pos (by omega)]
  · rw [Mo_isPile_f g.2.1 q, bd_v, if_pos (by omega)]
end
