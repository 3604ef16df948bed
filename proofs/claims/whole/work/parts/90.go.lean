/-! chance in the reference; go on both sides -/
section
variable {h : am_H} {T W I : Tx} {U : Int → Tx} {Q : Tx}
theorem MW_nu {b s : Int} (o : MW h b T W) : MW h b T (up_ W 6 2 s) := by
  obtain ⟨b0, g0, g1, g2, g3, g4, g5, g6, g7⟩ := id o
  exact ⟨b0, g0, g1, g2, g3, g4, g5, by rw [up_s, if_neg (by omega)]; exact g6, by rw [up_s, if_neg (by omega)]; exact g7⟩
/-- the reference but for its number -/
def MN0 (h : am_H) (T W : Tx) : Prop := ShM h ∧ MT h T ∧ ML h T ∧ MW h 0 T W ∧ BB h
def Mq0 (h h' : am_H) : Prop := fz_ h h' mQA mQF ∧ hf_ h h' 1 ∧ ∀ x, rd_ h' 124 x = rd_ h 124 x ∨ rd_ h' 124 x = 0 ∨ rd_ h' 124 x = 1
theorem Mq0_tr {h h1 h2 : am_H} (x : Mq0 h h1) (y : Mq0 h1 h2) : Mq0 h h2 := ⟨fz_tr x.1 y.1, hf_tr x.2.1 y.2.1, fun k => by
  rcases y.2.2 k with e | e
  · rw [e]; exact x.2.2 k
  · exact Or.inr e⟩
theorem MN0_q {h h' : am_H} (g : MN0 h T W) (v : WV T W) (x : Mq0 h h') : MN0 h' T W := by
  obtain ⟨s, t, l, m, b⟩ := g
  obtain ⟨z, hf, c⟩ := x
  refine ⟨fz_ShM z s, MT_fz t z (by intro a p q; unfold mQA; omega) (by intro k p q; unfold mQF; omega), ML_fm l z (by intro a p q; unfold mQA; omega), hf_MW hf (by omega) (by omega) v m, ?_⟩
  intro x p q
  rcases c x with r | r
  · rw [r]; exact b x p q
  · exact r
theorem Mq0_w (h : am_H) {k : Int} (v : Int) (f : mQF k) : Mq0 h (wr_ h 94 k v) := by
  have z : fz_ h (wr_ h 94 k v) (fun _ => False) (fun j => j = k) := fz_wf rfl
  exact ⟨fz_mo z (fun _ q => q.elim) (fun j q => by rw [q]; exact f), hf_fz z (fun _ _ _ q => q) 1, fun x => Or.inl (z.2.1 124 (fun q => q) (by omega) x)⟩
theorem Mo_chance_lp (u : TV T) (v : WV T W) {n c had : Int} (hn : 1 ≤ n) (hn2 : n ≤ 99) : ∀ (m : Nat) (k t s : Int) (h : am_H), MN0 h T W → rd_ h 94 60 = s → 0 ≤ s → s ≤ 2147483647 → 0 ≤ t → t ≤ k → k + m = 10 → ∃ h', Mo_chance_5 h 94 n c had t k = some (wr_ (wr_ h' 94 61 0) 94 60 had, cn_ T W n c m t s) ∧ Mq0 h h' := by
  intro m
  induction m with
  | zero =>
    intro k t s h g e s0 s1 t0 tk hm
    refine ⟨h, ?_, fz_refl _ _ _, hf_refl _ _, fun _ => Or.inl rfl⟩
    rw [Mo_chance_5_e, if_pos (by omega)]
    repeat rw [ck_t (by omega)]
    rfl
  | succ m ih =>
    intro k t s h g e s0 s1 t0 tk hm
    obtain ⟨sm, mt, ml, mw, bb⟩ := id g
    obtain ⟨ha, a1, a2, a3, a4, a5, a6⟩ := Mo_layTried_s sm mt ml mw bb v
    have Xa : Mq0 h ha := by
      refine ⟨fz_mo a5 (fun a q => by unfold mQA; omega) (fun k q => by unfold mQF; omega), a6, ?_⟩
      intro x
      by_cases c : 0 ≤ x ∧ x < 40
      · exact Or.inr (a4 x c.1 c.2)
      · exact Or.inl (a6.1 124 x (by omega) (by omega))
    have e60 : rd_ ha 94 60 = s := by rw [a5.2.2 60 (by omega)]; exact e
    have zb : fz_ ha (wr_ ha 94 61 1) (fun _ => False) (fun k => k = 61) := fz_wf rfl
    have mb : MS (wr_ ha 94 61 1) 1 T (up_ W 6 2 s) dM_ := by
      obtain ⟨s1', s2, s3, s4, s5, -⟩ := a2
      refine ⟨fz_ShM zb s1', MT_fz s2 zb (fun _ _ _ q => q) (by intro k p q; omega), ML_fm s3 zb (fun _ _ _ q => q), MW_nu (MW_fz s4 zb (fun _ _ _ q => q)), ?_, fun _ => by rw [rd_wk (by omega), up_s, if_pos rfl]; exact e60⟩
      obtain ⟨m1, m2, m3, m4, m5, m6, m7, m8⟩ := s5
      unfold MM dM_ M0_ mk_M at *
      simp only [rd_wa]
      simp at *
      exact ⟨m2, m3, m4, m5, m6, m7, m8⟩
    obtain ⟨hc, c1, c2, c3⟩ := Mo_goMany_s u dM_V (N := n) (by omega) (by omega) mb (nu_v2 v s0 s1)
    have vc : WV T (cV_ T W n s) := zn_v u _ _ (nu_v2 v s0 s1)
    have nb : 0 ≤ cV_ T W n s 6 2 ∧ cV_ T W n s 6 2 ≤ 2147483647 := vc.2.2.2.2.2.2.2.2.2.2.2
    have Xb := Mq0_w ha (k := 61) 1 (by unfold mQF; omega)
    have Xc : Mq0 (wr_ ha 94 61 1) hc := ⟨fz_mo c3.1 (fun a q => by unfold mB at q; unfold mQA; omega) (fun k q => by unfold mF at q; unfold mQF; omega), c3.2.1, fun x => by
      rcases c3.2.2.2 x with r | r
      · exact Or.inl r
      · exact Or.inr (Or.inr r)⟩
    have X := Mq0_tr Xa (Mq0_tr Xb Xc)
    obtain ⟨h', i1, i2⟩ := ih (k + 1) (if Cm T (cV_ T W n s) < c then t else t + 1) (cV_ T W n s 6 2) hc (MN0_q g v X) (c2.2.2.2.2.2 rfl) nb.1 nb.2 (by split <;> omega) (by split <;> omega) (by omega)
    refine ⟨h', ?_, Mq0_tr X i2⟩
    rw [Mo_chance_5_e, if_neg (by omega)]
    repeat rw [ck_t (by omega)]
    rw [a1, bd_v]
    repeat rw [ck_t (by omega)]
    rw [c1, bd_v]
    repeat rw [ck_t (by omega)]
    rw [Mo_chippedMany_s c2.1 c2.2.1 c2.2.2.2.1 vc, bd_v, w32_i (x := k + 1) (by omega) (by omega), w32_i (x := t + 1) (by omega) (by omega), w32_i (x := t + 0) (by omega) (by omega), Int.add_zero]
    have e : cn_ T W n c (m + 1) t s = cn_ T W n c m (if Cm T (cV_ T W n s) < c then t else t + 1) (cV_ T W n s 6 2) := rfl
    rw [e, ← i1]
    show (if Cm T (cV_ T W n s) < c then Mo_chance_5 hc 94 n c had t (k + 1) else Mo_chance_5 hc 94 n c had (t + 1) (k + 1)) = _
    split <;> rfl
theorem Mo_chance_t (g0 : MN h T W I U Q) (sv : SV T W I U Q) {s n c : Int} (k : ok_ch s n c) (s1 : s ≤ 2147483647) : ∃ h', Mo_chance h 94 s n c = some (h', cn_ T W n c 10 0 s) ∧ MN h' T W I U Q ∧ Mq h h' := by
  obtain ⟨k1, k2, k3, k4, k5⟩ := k
  have v := sv.2.1
  have X0 := Mq0_w h (k := 2) 0 (by unfold mQF; omega)
  have X1 := Mq0_w (wr_ h 94 2 0) (k := 60) s (by unfold mQF; omega)
  have g : MN0 h T W := ⟨g0.1, g0.2.1, g0.2.2.1, g0.2.2.2.1, g0.2.2.2.2.2.1⟩
  have e60 : rd_ (wr_ h 94 2 0) 94 60 = W 6 2 := by rw [rd_wk (by omega)]; exact g0.2.2.2.2.1
  obtain ⟨h', a1, a2⟩ := Mo_chance_lp sv.1 v (n := n) (c := c) (had := W 6 2) k2 k3 10 0 0 s (wr_ (wr_ h 94 2 0) 94 60 s) (MN0_q g v (Mq0_tr X0 X1)) (rd_ws _ _ _ _) k1 s1 (by omega) (by omega) (by omega)
  have X2 := Mq0_w h' (k := 61) 0 (by unfold mQF; omega)
  have X3 := Mq0_w (wr_ h' 94 61 0) (k := 60) (W 6 2) (by unfold mQF; omega)
  have X := Mq0_tr X0 (Mq0_tr X1 (Mq0_tr a2 (Mq0_tr X2 X3)))
  have XX : Mq h (wr_ (wr_ h' 94 61 0) 94 60 (W 6 2)) := ⟨X.1, X.2.1, by rw [rd_ws]; exact g0.2.2.2.2.1.symm, X.2.2⟩
  refine ⟨_, ?_, MN_q g0 v XX, XX⟩
  rw [Mo_chance_e, ck_t (by omega), if_neg (by omega), Mo_isIn_t k2 k3, bd_v, if_neg (by omega), Mo_isIn_t k4 k5, bd_v, if_pos (by omega)]
  repeat rw [ck_t (by omega)]
  rw [e60, a1]
theorem Mo_chance_f {s n c : Int} (k : ¬ ok_ch s n c) : Mo_chance h 94 s n c = some (wr_ h 94 2 0, -1) := by
  rw [Mo_chance_e, ck_t (by omega)]
  by_cases c1 : s < 0
  · rw [if_pos c1]
  · rw [if_neg c1]
    by_cases c2 : 1 ≤ n ∧ n ≤ 99
    · rw [Mo_isIn_t c2.1 c2.2, bd_v, if_neg (by omega)]
      have : ¬ (0 ≤ c ∧ c ≤ 20) := fun q => k ⟨by omega, c2.1, c2.2, q.1, q.2⟩
      rw [Mo_isIn_f this, bd_v, if_neg (by omega)]
    · rw [Mo_isIn_f c2, bd_v, if_pos rfl]
/-- a call that changes the class alone, and makes nothing -/
def Fc_ (h h' : am_H) : Prop := fq_ h h' (fun a => a < 94) (fun a => a < 90) ∧ rf_ h' 0 16 = rf_ h 0 16
theorem Fc_S {h h' : am_H} (f : Fs_ h h') : Fc_ h h' := ⟨fq_mo f.1 (fun a q => by unfold Sc at q; omega) (fun a q => by unfold ScR at q; omega), f.1.2.2 0 (by unfold ScR; omega) 16⟩
theorem Fc_fr {h h' : am_H} {A : Int → Prop} (f : fr_ h h' A) (n : ∀ a, A a → a < 94) : Fc_ h h' := ⟨fq_fr (fr_mo f n), fr_rf f 0 16⟩
theorem Fc_tr {h h1 h2 : am_H} (x : Fc_ h h1) (y : Fc_ h1 h2) : Fc_ h h2 := ⟨fq_tr x.1 y.1, y.2.trans x.2⟩
/-- some fields of the count of what can be undone: none -/
def q0_ (Q : Tx) : Tx := up_ Q 4 2 0
theorem CI_mv {h h' : am_H} (g : CI h T W I U Q) {V : Tx} {A : Int → Prop} (f : fr_ h h' A) (n : ∀ a, A a → (47 ≤ a ∧ a ≤ 55) ∨ (79 ≤ a ∧ a ≤ 82)) (o : WO h' 47 T V) {U' : Int → Tx} {k : Int} (d : DO h' T V U' k) : CI h' T V I U' (up_ Q 4 2 k) := by
  obtain ⟨s, ⟨t, c1, c2, c3, c4, c5, c6, c7⟩, w, s5, s6, im, tp, fa, se, -, lg⟩ := g
  have R : ∀ a, ¬ ((47 ≤ a ∧ a ≤ 55) ∨ (79 ≤ a ∧ a ≤ 82)) → ∀ k, rd_ h' a k = rd_ h a k := fun a q k => f.2 a (fun r => q (n a r)) k
  have e4 : ∀ j, j ≠ 2 → up_ Q 4 2 k 4 j = Q 4 j := fun j q => by rw [up_s, if_neg q]
  refine ⟨ShC_of f.1 s, ⟨t, c1, by rw [fr_rf f]; exact c2, by rw [fr_rf f]; exact c3, TO_fr c4 f (by intro a p q r; have := n a r; omega), WO_fr c5 f (by intro a p q r; have := n a r; omega), ShT_of f.1 c6, ShW_of f.1 c7⟩, o, ShW_of f.1 s5, ShW_of f.1 s6, ?_, ?_, ?_, ?_, ?_, ?_⟩
  · rw [e4 3 (by omega), R 0 (by omega)]
    exact ⟨im.1, fun q => WO_fr (im.2 q) f (by intro a p q r; have := n a r; omega)⟩
  · rw [e4 4 (by omega), R 0 (by omega)]
    exact ⟨tp.1, fun j p q => by rw [R 1 (by omega)]; exact tp.2 j p q⟩
  · rw [e4 5 (by omega), e4 6 (by omega), R 0 (by omega), R 0 (by omega)]; exact fa
  · have se' := SE_R se (h' := h') (fun a p q k => R a (by omega) k)
    obtain ⟨x, y, z⟩ := se'
    exact ⟨by rw [e4 0 (by omega)]; exact x, by rw [e4 1 (by omega)]; exact y, fun i p q => z i p (by rw [e4 0 (by omega)] at q; exact q)⟩
  · rw [up_s, if_pos rfl]; exact d
  · intro i p q
    rw [R 4 (by omega)]; exact lg i p q
end
