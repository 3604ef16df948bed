/-! deep, in the reference -/
/-- the reference, as far as deep and ask go -/
def MD (h : am_H) (T Q : Tx) : Prop := ShM h ∧ MT h T ∧ ML h T ∧ QM h Q
/-- what such calls change -/
def mD (a : Int) : Prop := (118 ≤ a ∧ a ≤ 127) ∨ a = 136 ∨ a = 137
def mE (k : Int) : Prop := k = 51 ∨ (60 ≤ k ∧ k ≤ 68)
def MX (h h' : am_H) : Prop := fz_ h h' mD mE ∧ hf_ h h' 1 ∧ rd_ h' 94 60 = rd_ h 94 60 ∧ ∀ x, rd_ h' 124 x = rd_ h 124 x ∨ rd_ h' 124 x = 0 ∨ rd_ h' 124 x = 1
theorem MX_refl (h : am_H) : MX h h := ⟨fz_refl _ _ _, hf_refl _ _, rfl, fun _ => Or.inl rfl⟩
theorem MX_tr {h h1 h2 : am_H} (x : MX h h1) (y : MX h1 h2) : MX h h2 := ⟨fz_tr x.1 y.1, hf_tr x.2.1 y.2.1, y.2.2.1.trans x.2.2.1, fun k => by
  rcases y.2.2.2 k with e | e
  · rw [e]; exact x.2.2.2 k
  · exact Or.inr e⟩
theorem MX_MG {h h' : am_H} {M : Int → Int} (x : MG h h' 1 M) (m : M 3 = 0) : MX h h' := ⟨fz_mo x.1 (fun a q => by unfold mB at q; unfold mD; omega) (fun k q => by unfold mF at q; unfold mE; omega), x.2.1, x.2.2.1 m, fun k => by
  rcases x.2.2.2 k with e | e
  · exact Or.inl e
  · exact Or.inr (Or.inr e)⟩
theorem MX_pl {h h' : am_H} (x : fz_ h h' (fun _ => False) (fun k => 61 ≤ k ∧ k ≤ 68)) : MX h h' := ⟨fz_mo x (fun _ q => q.elim) (fun k q => by unfold mE; omega), hf_fz x (fun _ _ _ q => q) 1, x.2.2 60 (by omega), fun k => Or.inl (x.2.1 124 (fun q => q) (by omega) k)⟩
theorem MX_sc {h h' : am_H} (x : fr_ h h' (fun a => a = 136 ∨ a = 137)) : MX h h' := by
  have z : fz_ h h' (fun a => a = 136 ∨ a = 137) (fun _ => False) := fz_fr x (fun _ q => q) (by omega)
  exact ⟨fz_mo z (fun a q => by unfold mD; omega) (fun _ q => q.elim), hf_fz z (by intro a p q; omega) 1, z.2.2 60 (fun q => q), fun k => Or.inl (z.2.1 124 (by omega) (by omega) k)⟩
theorem MD_X {h h' : am_H} {T Q : Tx} (g : MD h T Q) (x : MX h h') : MD h' T Q := by
  obtain ⟨a, b, c, d⟩ := g
  exact ⟨fz_ShM x.1 a, MT_fz b x.1 (by intro a p q; unfold mD; omega) (by intro k p q; unfold mE; omega), ML_fm c x.1 (by intro a p q; unfold mD; omega), QM_fz d x.1 (by unfold mD; omega) (by unfold mE; omega) (by unfold mE; omega)⟩
section
variable {h : am_H} {T Q : Tx}
theorem Mo_layDeep_s (g : MD h T Q) (v : WV T (W0_ T (T 0 6))) (i d : Int) : ∃ h', Mo_layDeep h 94 i d = some (h', 0) ∧ MS h' 1 T (W0_ T (T 0 6)) (mk_M 0 (-1) (-1) i d) ∧ MX h h' ∧ (∀ k, rd_ h' 136 k = rd_ h 136 k) ∧ ∀ k, rd_ h' 137 k = rd_ h 137 k := by
  obtain ⟨s, t, l, q⟩ := g
  obtain ⟨ha, a1, a2, a3, a4, a5⟩ := Mo_atFirst_s (T 0 6) s t (b := 1) (by omega) v
  obtain ⟨hb, b1, b2, b3⟩ := Mo_plainTried_s ha
  have za : fz_ h ha (fun a => 120 ≤ a ∧ a ≤ 127) (fun _ => False) := fz_fr a3 (fun _ q => q) (by omega)
  have zc : fz_ hb (wr_ (wr_ hb 94 67 i) 94 68 d) (fun _ => False) (fun k => k = 67 ∨ k = 68) := fz_tr (fz_wf (Or.inl rfl)) (fz_wf (Or.inr rfl))
  have Z : fz_ h (wr_ (wr_ hb 94 67 i) 94 68 d) (fun a => 120 ≤ a ∧ a ≤ 127) (fun k => 61 ≤ k ∧ k ≤ 68) := fz_tr (fz_mo za (fun _ q => q) (fun _ q => q.elim)) (fz_tr (fz_mo b3 (fun _ q => q.elim) (fun _ q => q)) (fz_mo zc (fun _ q => q.elim) (fun k q => by omega)))
  refine ⟨wr_ (wr_ hb 94 67 i) 94 68 d, ?_, ⟨fz_ShM Z s, MT_fz t Z (by intro a p q; omega) (by intro k p q; omega), ML_fm l Z (by intro a p q; omega), MW_fz (MW_fz a2 b3 (fun _ _ _ q => q)) zc (fun _ _ _ q => q), ?_, fun q => by cases q⟩, ⟨fz_mo Z (fun a q => by unfold mD; omega) (fun k q => by unfold mE; omega), hf_tr a4 (hf_tr (hf_fz b3 (fun _ _ _ q => q) 1) (hf_fz zc (fun _ _ _ q => q) 1)), Z.2.2 60 (by omega), ?_⟩, fun k => Z.2.1 136 (by omega) (by omega) k, fun k => Z.2.1 137 (by omega) (by omega) k⟩
  · rw [Mo_layDeep_e]
    repeat rw [ck_t (by omega)]
    rw [a1, bd_v]
    repeat rw [ck_t (by omega)]
    rw [b1, bd_v]
    repeat rw [ck_t (by omega)]
  · obtain ⟨m1, m2, m3, m4, m5, m6, m7, m8⟩ := b2
    unfold MM M0_ mk_M at *
    simp only [rd_wa]
    simp at *
    exact ⟨m1, m2, m3, m4, m5, m6⟩
  · intro x
    rw [zc.2.1 124 (fun q => q) (by omega), b3.2.1 124 (fun q => q) (by omega)]
    rcases a5 x with e | e
    · exact Or.inl e
    · exact Or.inr (Or.inl e)
theorem Mo_fits_lp (u : TV T) (wv : WV T (W0_ T (T 0 6))) (v : QV T Q) {i d : Int} (hi : 0 ≤ i) (hd : 1 ≤ d) (hd5 : d ≤ 5) : ∀ (m : Nat) (n : Int) (h : am_H), MS h 1 T (dW T i d (n - 1)) (mk_M 0 (-1) (-1) i d) → QM h Q → (∀ j, 0 ≤ j → j < kw_ Q → rd_ h 136 j = ct_w Q j) → 1 ≤ n → n + m = 61 →
    ∃ h', Mo_fits_1 h 94 n = some (h', bz (av_ (fun n => ag_ T (dW T i d n) Q n) m n)) ∧ MX h h' ∧ ∀ k, rd_ h' 136 k = rd_ h 136 k := by
  intro m
  induction m with
  | zero =>
    intro n h g q hc hn hm
    refine ⟨h, ?_, MX_refl h, fun _ => rfl⟩
    rw [Mo_fits_1_e, if_pos (by omega)]
    rfl
  | succ m ih =>
    intro n h g q hc hn hm
    obtain ⟨ha, a1, a2, a3⟩ := Mo_minuteGoes_s u (mk_V (by omega) (by omega) (by omega) (Or.inr ⟨hi, hd, hd5, rfl⟩)) g (dW_v u wv i d (n - 1))
    rw [← dW_s T i d hn] at a2
    have X := MX_MG a3 rfl
    have qa := QM_fz q a3.1 (by unfold mB; omega) (by unfold mF; omega) (by unfold mF; omega)
    have ca : ∀ k, rd_ ha 136 k = rd_ h 136 k := fun k => a3.1.2.1 136 (by unfold mB; omega) (by omega) k
    have hca : ∀ j, 0 ≤ j → j < kw_ Q → rd_ ha 136 j = ct_w Q j := fun j p r => by rw [ca]; exact hc j p r
    rw [Mo_fits_1_e, if_neg (by omega), ck_t (by omega), a1, bd_v, ck_t (by omega), Mo_isSo_s a2.1 a2.2.1 qa v hca a2.2.2.2.1 (dW_v u wv i d n) hn, bd_v, w32_i (by omega) (by omega)]
    unfold av_
    cases hag : ag_ T (dW T i d n) Q n with
    | false =>
      rw [if_neg (show ¬ bz false ≠ 0 by decide)]
      exact ⟨ha, rfl, X, ca⟩
    | true =>
      rw [if_pos (show bz true ≠ 0 by decide), Bool.true_and]
      obtain ⟨h', i1, i2, i3⟩ := ih (n + 1) ha (by rw [show n + 1 - 1 = n by omega]; exact a2) qa hca (by omega) (by omega)
      exact ⟨h', i1, MX_tr X i2, fun k => (i3 k).trans (ca k)⟩
theorem Mo_fits_s (g : MD h T Q) (u : TV T) (wv : WV T (W0_ T (T 0 6))) (v : QV T Q) {i d : Int} (hi : 0 ≤ i) (hd : 1 ≤ d) (hd5 : d ≤ 5) (hc : ∀ j, 0 ≤ j → j < kw_ Q → rd_ h 136 j = ct_w Q j) : ∃ h', Mo_fits h 94 i d = some (h', bz (ft_ T Q i d)) ∧ MX h h' ∧ ∀ k, rd_ h' 136 k = rd_ h 136 k := by
  obtain ⟨ha, a1, a2, a3, a4, a5⟩ := Mo_layDeep_s g wv i d
  obtain ⟨h', b1, b2, b3⟩ := Mo_fits_lp u wv v hi hd hd5 60 1 ha a2 (MD_X g a3).2.2.2 (fun j p q => by rw [a4]; exact hc j p q) (by omega) (by omega)
  refine ⟨h', ?_, MX_tr a3 b2, fun k => (b3 k).trans (a4 k)⟩
  rw [Mo_fits_e, ck_t (by omega), a1, bd_v, b1]
  rfl
theorem or_0 {b : Int} (h : i32_ b) : or_ b 0 = b := by
  unfold or_
  have : Int32.ofInt b ||| Int32.ofInt 0 = Int32.ofInt b := by
    have e : Int32.ofInt 0 = 0 := rfl
    rw [e, Int32.or_zero]
  rw [this, i32_ti h]
theorem or_in (a b : Int) : i32_ (or_ a b) := by
  unfold or_ i32_
  generalize (Int32.ofInt a ||| Int32.ofInt b) = x
  have h1 := Int32.le_toInt x
  have h2 := Int32.toInt_lt x
  omega
theorem Mo_deepBits_lp (u : TV T) (wv : WV T (W0_ T (T 0 6))) (v : QV T Q) {i : Int} (hi : 0 ≤ i) : ∀ (m : Nat) (d b : Int) (h : am_H), MD h T Q → (∀ j, 0 ≤ j → j < kw_ Q → rd_ h 136 j = ct_w Q j) → i32_ b → 1 ≤ d → d + m = 6 →
    ∃ h', Mo_deepBits_10 h 94 i b d = some (h', fo_ (fun d b => if ft_ T Q i d then or_ b (bt_ d) else b) m d b) ∧ MX h h' ∧ MM h' M0_ := by
  intro m
  induction m with
  | zero =>
    intro d b h g hc hb hd hm
    obtain ⟨ha, a1, a2, a3⟩ := Mo_plainTried_s h
    refine ⟨ha, ?_, MX_pl a3, a2⟩
    rw [Mo_deepBits_10_e, if_pos (by omega), ck_t (by omega), a1, bd_v]
    rfl
  | succ m ih =>
    intro d b h g hc hb hd hm
    obtain ⟨ha, a1, a2, a3⟩ := Mo_fits_s g u wv v hi hd (by omega) hc
    rw [Mo_deepBits_10_e, if_neg (by omega), ck_t (by omega), a1, bd_v, w32_i (x := d + 1) (by omega) (by omega)]
    have go : ∀ b', i32_ b' → ∃ h', Mo_deepBits_10 ha 94 i b' (d + 1) = some (h', fo_ (fun d b => if ft_ T Q i d then or_ b (bt_ d) else b) m (d + 1) b') ∧ MX h h' ∧ MM h' M0_ := by
      intro b' hb'
      obtain ⟨h', i1, i2, i3⟩ := ih (d + 1) b' ha (MD_X g a2) (fun j p q => by rw [a3]; exact hc j p q) hb' (by omega) (by omega)
      exact ⟨h', i1, MX_tr a2 i2, i3⟩
    unfold fo_
    cases hf : ft_ T Q i d with
    | false =>
      rw [if_pos (show bz false = 0 from rfl), or_0 hb]
      exact go b hb
    | true =>
      rw [if_neg (show ¬ bz true = 0 by decide)]
      exact go _ (or_in _ _)
theorem Mo_deepBits_s (g : MD h T Q) (u : TV T) (wv : WV T (W0_ T (T 0 6))) (v : QV T Q) {i : Int} (hi : 0 ≤ i) : ∃ h', Mo_deepBits h 94 i = some (h', db_ T Q i) ∧ MX h h' ∧ MM h' M0_ := by
  obtain ⟨ha, a1, a2, a3⟩ := Mo_weigh_s (t := i) g.1 g.2.2.2 v
  have Xa := MX_sc (fr_mo a2 (fun a q => Or.inl q))
  obtain ⟨h', b1, b2, b3⟩ := Mo_deepBits_lp u wv v hi 5 1 0 ha (MD_X g Xa) a3 i32_0 (by omega) (by omega)
  refine ⟨h', ?_, MX_tr Xa b2, b3⟩
  rw [a1, b1]
  rfl
end
