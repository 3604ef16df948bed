/-! deep, in the class -/
/-- what calls may use over and over: numbers, references -/
def Sc (a : Int) : Prop := a = 2 ∨ a = 3 ∨ a = 5 ∨ a = 6 ∨ a = 55 ∨ (56 ≤ a ∧ a ≤ 64) ∨ (73 ≤ a ∧ a ≤ 78) ∨ a = 89 ∨ (91 ≤ a ∧ a ≤ 93)
def ScR (a : Int) : Prop := a = 2 ∨ a = 3 ∨ a = 5 ∨ a = 74 ∨ a = 76 ∨ a = 77
theorem ShC_q {h h' : am_H} {A : Int → Prop} (f : fq_ h h' A ScR) (s : ShC h) (e : rf_ h' 2 0 = 3 ∧ rf_ h' 2 1 = 5 ∧ rf_ h' 3 0 = 4 ∧ rf_ h' 5 0 = 6 ∧ rf_ h' 74 0 = 75 ∧ rf_ h' 76 0 = 77 ∧ rf_ h' 77 0 = 78) : ShC h' := by
  obtain ⟨e1, e2, e3, e4, e5, e6, e7⟩ := e
  unfold ShC at *
  simp only [fq_ln f, f.2.2 0 (by unfold ScR; omega), f.2.2 79 (by unfold ScR; omega), f.2.2 83 (by unfold ScR; omega), e1, e2, e3, e4, e5, e6, e7]
  simp only [cr2_0 s, cr2_1 s, cr3_0 s, cr5_0 s, cr74_0 s, cr76_0 s, cr77_0 s] at s
  exact s
/-- the references that stay -/
def Kr (h : am_H) : Prop := rf_ h 2 0 = 3 ∧ rf_ h 2 1 = 5 ∧ rf_ h 3 0 = 4 ∧ rf_ h 5 0 = 6 ∧ rf_ h 74 0 = 75 ∧ rf_ h 76 0 = 77 ∧ rf_ h 77 0 = 78
theorem Kr_of {h : am_H} (s : ShC h) : Kr h := ⟨cr2_0 s, cr2_1 s, cr3_0 s, cr5_0 s, cr74_0 s, cr76_0 s, cr77_0 s⟩
/-- a step that leaves all but what may be used over -/
def Fs_ (h h' : am_H) : Prop := fq_ h h' Sc ScR ∧ (Kr h → Kr h')
theorem Fs_refl (h : am_H) : Fs_ h h := ⟨fq_refl _ _ _, fun q => q⟩
theorem Fs_tr {h h1 h2 : am_H} (x : Fs_ h h1) (y : Fs_ h1 h2) : Fs_ h h2 := ⟨fq_tr x.1 y.1, fun q => y.2 (x.2 q)⟩
theorem Fs_fr {h h' : am_H} {A : Int → Prop} (x : fr_ h h' A) (y : ∀ a, A a → Sc a) : Fs_ h h' := ⟨fq_fr (fr_mo x y), fun q => by
  unfold Kr at *
  simp only [fr_rf x]
  exact q⟩
theorem Fs_C {h h' : am_H} (x : Fs_ h h') (s : ShC h) : ShC h' := ShC_q x.1 s (x.2 (Kr_of s))
theorem Fs_min {h h' : am_H} {t w : Int} {M : Int → Int} (f : fq_ h h' (mA 56) (fun a => a = 77)) (g : MiO h' t w M) (s : ShC h) : Fs_ h h' := by
  refine ⟨fq_mo f (fun a q => by unfold mA at q; unfold Sc; omega) (fun a q => by unfold ScR; omega), fun q => ?_⟩
  obtain ⟨a, b, c, d, e, i, j⟩ := q
  exact ⟨by rw [f.2.2 2 (by omega)]; exact a, by rw [f.2.2 2 (by omega)]; exact b, by rw [f.2.2 3 (by omega)]; exact c, by rw [f.2.2 5 (by omega)]; exact d, by rw [f.2.2 74 (by omega)]; exact e, g.1, g.2.2.2.1⟩
/-- the class, as far as deep and ask go -/
def CB (h : am_H) (t : Int) (T Q : Tx) : Prop := ShC h ∧ (t = 7 ∨ t = 27) ∧ rf_ h 0 5 = t ∧ TO h t T ∧ WO h (t + 1) T (W0_ T (T 0 6)) ∧ ShW h 56 ∧ SE h Q
theorem CB_F {h h' : am_H} {t : Int} {T Q : Tx} (g : CB h t T Q) (f : Fs_ h h') : CB h' t T Q := by
  obtain ⟨s, ht, r, o, w, s5, e⟩ := g
  refine ⟨Fs_C f s, ht, by rw [f.1.2.2 0 (by unfold ScR; omega)]; exact r, TO_fq o f.1 (by intro a p q; unfold Sc; omega) (by unfold ScR; omega), WO_fq w f.1 (by intro a p q; unfold Sc; omega) (by unfold ScR; omega), ShW_q (fq_ln f.1) (f.1.2.2 56 (by unfold ScR; omega)) s5, SE_R e (fun a p q k => f.1.2.1 a (by unfold Sc; omega) k)⟩
section
variable {h : am_H} {t : Int} {T Q : Tx}
theorem Pp_beginByDepth_s (g : CB h t T Q) (v : WV T (W0_ T (T 0 6))) (i d : Int) : ∃ h', Pp_beginByDepth h 0 i d = some (h', 0) ∧ CB h' t T Q ∧ WO h' 56 T (W0_ T (T 0 6)) ∧ MiO h' t 56 (mk_M 0 (-1) (-1) i d) ∧ Fs_ h h' ∧ ∀ k, rd_ h' 89 k = rd_ h 89 k := by
  obtain ⟨s, ht, r, o, w, s5, e⟩ := id g
  have r6 := o.1.2.1
  obtain ⟨ha, a1, a2, a3⟩ := Wo_copy_s s5 w v (by omega)
  have Fa : Fs_ h ha := Fs_fr a3 (fun a q => by unfold Sc; omega)
  have ga := CB_F g Fa
  have sa := ga.1
  obtain ⟨hb, b1, b2, b3⟩ := Mi_begin_s (t := t) (w := 56) sa
  obtain ⟨hc, c1, c2, c3⟩ := Mi_turnBy_s b2 i d
  have Fb : Fs_ ha hb := ⟨fq_mo b3 (fun a q => by unfold Sc; omega) (fun a q => by unfold ScR; omega), fun q => by
    obtain ⟨k1, k2, k3, k4, k5, k6, k7⟩ := q
    exact ⟨by rw [b3.2.2 2 (by omega)]; exact k1, by rw [b3.2.2 2 (by omega)]; exact k2, by rw [b3.2.2 3 (by omega)]; exact k3, by rw [b3.2.2 5 (by omega)]; exact k4, by rw [b3.2.2 74 (by omega)]; exact k5, b2.1, b2.2.2.2.1⟩⟩
  have Fc : Fs_ hb hc := Fs_fr c3 (fun a q => by unfold Sc; omega)
  have F := Fs_tr Fa (Fs_tr Fb Fc)
  refine ⟨hc, ?_, CB_F g F, ?_, c2, F, ?_⟩
  · rw [Pp_beginByDepth_e]
    simp only [cr0_8 s, r, r6]
    repeat rw [ck_t (by omega)]
    rw [a1, bd_v]
    have ra : rf_ ha 0 5 = t := ga.2.2.1
    simp only [cr0_12 sa, cr0_8 sa, ra]
    repeat rw [ck_t (by omega)]
    rw [b1, bd_v]
    simp only [cr0_12 (Fs_C Fb sa)]
    repeat rw [ck_t (by omega)]
    rw [c1, bd_v]
  · exact WO_fr (WO_fq a2 b3 (by intro a p q; omega) (by omega)) c3 (by intro a p q; omega)
  · intro k
    rw [c3.2 89 (by omega), b3.2.1 89 (by omega), a3.2 89 (by omega)]
theorem zn_s (T : Tx) (M : Int → Int) : ∀ (n : Nat) (W : Tx), zn_ T M (n + 1) W = zp_ T M (zn_ T M n W) := by
  intro n
  induction n with
  | zero => intro W; rfl
  | succ n ih => intro W; exact ih (zp_ T M W)
/-- the scullery behind n minutes, turn i by d -/
def dW (T : Tx) (i d n : Int) : Tx := zn_ T (mk_M 0 (-1) (-1) i d) n.toNat (W0_ T (T 0 6))
theorem dW_v (u : TV T) (v : WV T (W0_ T (T 0 6))) (i d n : Int) : WV T (dW T i d n) := zn_v u _ _ v
theorem dW_s (T : Tx) (i d : Int) {n : Int} (h : 1 ≤ n) : dW T i d n = zp_ T (mk_M 0 (-1) (-1) i d) (dW T i d (n - 1)) := by
  unfold dW
  rw [show n.toNat = (n - 1).toNat + 1 by omega, zn_s]
/-- whether all is so by d -/
def ft_ (T Q : Tx) (i d : Int) : Bool := av_ (fun n => ag_ T (dW T i d n) Q n) 60 1
theorem lg_b (v : QV T Q) : 0 ≤ lg_ Q ∧ lg_ Q ≤ 60 ∧ ∀ i, 0 ≤ i → i < kw_ Q → ct_w Q i ≠ 0 → Q 0 i ≤ lg_ Q := by
  have kb := kw_b v
  have z := fo_in (f := fun i m => if ct_w Q i = 0 then m else if m < (if Q 0 i = -1 then 0 else Q 0 i) then (if Q 0 i = -1 then 0 else Q 0 i) else m) (I := fun k m => 0 ≤ k ∧ 0 ≤ m ∧ m ≤ 60 ∧ ∀ i, 0 ≤ i → i < k → ct_w Q i ≠ 0 → Q 0 i ≤ m) (N := kw_ Q) (fun k a hk hi => by
    obtain ⟨h0, h1, h2, h3⟩ := hi
    have q := v.2 k h0 (by omega)
    refine ⟨by omega, ?_, ?_, ?_⟩
    · repeat' split
      all_goals omega
    · repeat' split
      all_goals omega
    · intro i p r c
      by_cases e : i = k
      · subst e
        rw [if_neg c]
        repeat' split
        all_goals omega
      · have := h3 i p (by omega) c
        repeat' split
        all_goals omega) (kw_ Q).toNat 0 0 (by omega) ⟨by omega, by omega, by omega, by intro i p q; omega⟩
  exact ⟨z.2.1, z.2.2.1, z.2.2.2⟩
theorem ag_l (v : QV T Q) {n : Int} (h : lg_ Q < n) (W : Tx) : ag_ T W Q n = true := by
  unfold ag_
  rw [av_iff]
  intro j p q
  have kb := kw_b v
  unfold ao_
  by_cases c : ct_w Q j = 0
  · rw [if_pos c]
  · have := (lg_b v).2.2 j p (by omega) c
    rw [if_neg c, if_neg (by omega)]
/-- from n on -/
def fu_ (T Q : Tx) (i d n : Int) : Bool := av_ (fun n => ag_ T (dW T i d n) Q n) (61 - n).toNat n
theorem fu_s (v : QV T Q) (i d : Int) {n : Int} (h1 : n ≤ 60) : fu_ T Q i d n = (ag_ T (dW T i d n) Q n && fu_ T Q i d (n + 1)) := by
  unfold fu_
  rw [show (61 - n).toNat = (61 - (n + 1)).toNat + 1 by omega]
  rfl
theorem fu_l (v : QV T Q) (i d : Int) {n : Int} (h : lg_ Q < n) : fu_ T Q i d n = true := by
  unfold fu_
  rw [av_iff]
  intro j p q
  exact ag_l v (by omega) _
def bt_ (d : Int) : Int := w32 (1 * 2 ^ ((w32 (d - 1)) % 32 : Int).toNat)
/-- the bits -/
def db_ (T Q : Tx) (i : Int) : Int := fo_ (fun d b => if ft_ T Q i d then or_ b (bt_ d) else b) 5 1 0
theorem Pp_depthsLeft_in (u : TV T) (wv : WV T (W0_ T (T 0 6))) (v : QV T Q) {i d : Int} (hi : 0 ≤ i) (hd : 1 ≤ d) (hd5 : d ≤ 5) (b : Int) : ∀ (m : Nat) (n : Int) (so : Bool) (h : am_H), CB h t T Q → WO h 56 T (dW T i d (n - 1)) → MiO h t 56 (mk_M 0 (-1) (-1) i d) → (∀ j, 0 ≤ j → j < kw_ Q → rd_ h 89 j = ct_w Q j) → 1 ≤ n → n + m = lg_ Q + 1 →
    ∃ h', Pp_depthsLeft_3 h 0 i (lg_ Q) b d (bz so) n = Pp_depthsLeft_1 h' 0 i (lg_ Q) (if so && fu_ T Q i d n then or_ b (bt_ d) else b) (d + 1) ∧ CB h' t T Q ∧ Fs_ h h' ∧ ∀ j, 0 ≤ j → j < kw_ Q → rd_ h' 89 j = ct_w Q j := by
  have lb := lg_b v
  intro m
  induction m with
  | zero =>
    intro n so h g o mi hc hn hm
    refine ⟨h, ?_, g, Fs_refl h, hc⟩
    rw [Pp_depthsLeft_3_e, if_pos (by omega), fu_l v i d (by omega), Bool.and_true, w32_i (x := d + 1) (by omega) (by omega)]
    cases so <;> rfl
  | succ m ih =>
    intro n so h g o mi hc hn hm
    rw [Pp_depthsLeft_3_e, if_neg (by omega)]
    cases so with
    | false =>
      refine ⟨h, ?_, g, Fs_refl h, hc⟩
      rw [if_pos (show bz false = 0 from rfl), if_pos (show bz false = 0 from rfl), w32_i (x := d + 1) (by omega) (by omega)]
      rfl
    | true =>
      have ht := g.2.1
      have s := g.1
      obtain ⟨ha, a1, a2, a3, a4⟩ := Mi_pass_s u (t := t) (w := 56) (by omega) (by omega) (by omega) (by omega) (mk_V (by omega) (by omega) (by omega) (Or.inr ⟨hi, hd, hd5, rfl⟩)) mi o g.2.2.2.1 (dW_v u wv i d (n - 1))
      rw [← dW_s T i d hn] at a2
      have Fa := Fs_min a4 a3 s
      have ga := CB_F g Fa
      have ca : ∀ j, 0 ≤ j → j < kw_ Q → rd_ ha 89 j = ct_w Q j := fun j p q => by rw [a4.2.1 89 (by unfold mA; omega)]; exact hc j p q
      rw [if_neg (show ¬ bz true = 0 by decide)]
      simp only [cr0_12 s]
      repeat rw [ck_t (by omega)]
      rw [a1, bd_v]
      simp only [cr0_14 ga.1, cr0_8 ga.1]
      repeat rw [ck_t (by omega)]
      rw [Se_agrees_s ga.1 ga.2.2.2.2.2.2 v ca a2 (dW_v u wv i d n) hn, bd_v, w32_i (x := n + 1) (by omega) (by omega)]
      obtain ⟨h', i1, i2, i3, i4⟩ := ih (n + 1) (ag_ T (dW T i d n) Q n) ha ga (by rw [show n + 1 - 1 = n by omega]; exact a2) a3 ca (by omega) (by omega)
      refine ⟨h', ?_, i2, Fs_tr Fa i3, i4⟩
      rw [i1, fu_s (n := n) v i d (by omega)]
      rfl
theorem Pp_depthsLeft_lp (u : TV T) (wv : WV T (W0_ T (T 0 6))) (v : QV T Q) {i : Int} (hi : 0 ≤ i) : ∀ (m : Nat) (d b : Int) (h : am_H), CB h t T Q → (∀ j, 0 ≤ j → j < kw_ Q → rd_ h 89 j = ct_w Q j) → 1 ≤ d → d + m = 6 →
    ∃ h', Pp_depthsLeft_1 h 0 i (lg_ Q) b d = some (h', fo_ (fun d b => if ft_ T Q i d then or_ b (bt_ d) else b) m d b) ∧ CB h' t T Q ∧ Fs_ h h' := by
  intro m
  induction m with
  | zero =>
    intro d b h g hc hd hm
    refine ⟨h, ?_, g, Fs_refl h⟩
    rw [Pp_depthsLeft_1_e, if_pos (by omega)]
    rfl
  | succ m ih =>
    intro d b h g hc hd hm
    have lb := lg_b v
    obtain ⟨ha, a1, a2, a3, a4, a5, a6⟩ := Pp_beginByDepth_s g wv i d
    obtain ⟨hb, b1, b2, b3, b4⟩ := Pp_depthsLeft_in u wv v hi hd (by omega) b (lg_ Q).toNat 1 true ha a2 a3 a4 (fun j p q => by rw [a6]; exact hc j p q) (by omega) (by omega)
    obtain ⟨h', i1, i2, i3⟩ := ih (d + 1) _ hb b2 b4 (by omega) (by omega)
    refine ⟨h', ?_, i2, Fs_tr a5 (Fs_tr b3 i3)⟩
    have b1' : Pp_depthsLeft_3 ha 0 i (lg_ Q) b d 1 1 = _ := b1
    rw [Pp_depthsLeft_1_e, if_neg (by omega), ck_t (by omega), a1, bd_v, b1', i1]
    rfl
theorem Pp_depthsLeft_s (g : CB h t T Q) (u : TV T) (wv : WV T (W0_ T (T 0 6))) (v : QV T Q) {i : Int} (hi : 0 ≤ i) : ∃ h', Pp_depthsLeft h 0 i = some (h', db_ T Q i) ∧ CB h' t T Q ∧ Fs_ h h' := by
  have s := g.1
  obtain ⟨ha, a1, a2, a3⟩ := Se_weigh_s s g.2.2.2.2.2.2 v
  have Fa : Fs_ h ha := Fs_fr a2 (fun a q => by unfold Sc; omega)
  have ga := CB_F g Fa
  obtain ⟨h', b1, b2, b3⟩ := Pp_depthsLeft_lp u wv v hi 5 1 0 ha ga a3 (by omega) (by omega)
  refine ⟨h', ?_, b2, Fs_tr Fa b3⟩
  rw [Pp_depthsLeft_e]
  simp only [cr0_14 s]
  repeat rw [ck_t (by omega)]
  rw [a1, bd_v]
  simp only [cr0_14 ga.1]
  repeat rw [ck_t (by omega)]
  rw [Se_longest_s ga.1 ga.2.2.2.2.2.2 v a3, bd_v, b1]
  rfl
end
