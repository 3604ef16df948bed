/-! a turn, in the class: its steps put together -/
/-- what a turn that is done makes -/
def zr_ (T : Tx) (dr : Int) (W : Tx) (m p d : Int) : Tx := if ci_ dr (od_ T (ti_ (Tn W p d) m (ef_ T W m p d)) m p d) (nu_ dr (od_ T (ti_ (Tn W p d) m (ef_ T W m p d)) m p d) (ti_ (Tn W p d) m (ef_ T W m p d)))
    then up_ (nu_ dr (od_ T (ti_ (Tn W p d) m (ef_ T W m p d)) m p d) (ti_ (Tn W p d) m (ef_ T W m p d))) 5 (Tn W p d 3 (5 * p)) 1
    else nu_ dr (od_ T (ti_ (Tn W p d) m (ef_ T W m p d)) m p d) (ti_ (Tn W p d) m (ef_ T W m p d))
theorem zt_r (T : Tx) (dr nh : Int) (W : Tx) (m p d : Int) : zt_ T dr nh W m p d = if (nh = 0 ∧ hv_ T W m p d = 0) ∨ d < 1 ∨ W 0 p < d then up_ W 6 1 (w32 (W 6 1 + 1)) else zr_ T dr W m p d := rfl
/-- what a turn may change -/
def mA (w : Int) (a : Int) : Prop := a = 77 ∨ a = 78 ∨ (w ≤ a ∧ a ≤ w + 7)
theorem mA_l {w : Int} : ∀ a, a = (77 : Int) ∨ a = 77 + 1 → mA w a := by
  intro a h
  unfold mA
  omega
theorem mA_w {w : Int} {P : Int → Prop} (hp : ∀ a, P a → w ≤ a ∧ a ≤ w + 7) : ∀ a, P a → mA w a := by
  intro a h
  have := hp a h
  unfold mA
  omega
theorem mA_t {t w : Int} (ht : t + 19 < 47) (hw : 47 ≤ w) : ∀ a, t ≤ a → a ≤ t + 19 → ¬ mA w a := by
  intro a x y z
  unfold mA at z
  omega
theorem lA_t {t : Int} (ht : t + 19 < 47) : ∀ a, t ≤ a → a ≤ t + 19 → ¬ (a = (77 : Int) ∨ a = 77 + 1) := by
  intro a x y z
  omega
theorem lA_w {w : Int} (hw : w ≤ 56) : ∀ a, w ≤ a → a ≤ w + 7 → ¬ (a = (77 : Int) ∨ a = 77 + 1) := by
  intro a x y z
  omega
theorem LO_fr {h h' : am_H} {l t w m p d : Int} {A : Int → Prop} (g : LO h l t w m p d) (f : fr_ h h' A) (n : ¬ A l) : LO h' l t w m p d := by
  obtain ⟨a, b, c, e, i, j, k, r⟩ := g
  refine ⟨a, by rw [fr_rf f]; exact b, by rw [fr_ln f]; exact c, by rw [fr_rf f]; exact e, by rw [fr_rf f]; exact i, by rw [f.2 l n]; exact j, by rw [f.2 l n]; exact k, by rw [f.2 l n]; exact r⟩
theorem MiO_fr {h h' : am_H} {t w : Int} {M : Int → Int} {A : Int → Prop} (g : MiO h t w M) (f : fr_ h h' A) (n : ¬ A 76) : MiO h' t w M := MiO_fq g (fq_fr (B := fun _ => False) f) n (fun x => x) (by rw [fr_rf f]; exact g.2.2.2.1)
section
variable {h : am_H} {t w m p d : Int} {T W : Tx} {M : Int → Int}
theorem Mi_turn8_idle (g : MiO h t w M) (o : WO h w T W) {x : Int} : ck_ (0 ≤ (76 : Int)) (ck_ (0 ≤ w) (ck_ (0 ≤ w) (some (wr_ h w 4 (w32 (rd_ h w 4 + 1)), (0 : Int))))) = some (wr_ h w 4 (w32 (W 6 1 + 1)), 0) ∧ WO (wr_ h w 4 (w32 (W 6 1 + 1))) w T (up_ W 6 1 (w32 (W 6 1 + 1))) ∧ fr_ h (wr_ h w 4 (w32 (W 6 1 + 1))) (mA w) := by
  obtain ⟨⟨w0, -⟩, ⟨-, -, -, -, e4, -⟩, -⟩ := id o
  rw [ck_t (by omega), ck_t w0, ck_t w0, e4]
  exact ⟨rfl, WO_id o _, fr_wr (Or.inr (Or.inr ⟨by omega, by omega⟩))⟩
theorem Mi_turn8_s (g : MiO h t w M) (gl : LO h 77 t w m p d) (o : WO h w T W) (q : TO h t T) (v : WV T W) (u : TV T) (h1 : 0 ≤ p) (h2 : p < T 0 1) (h3 : 0 ≤ m) (h4 : m < T 0 0) (h5 : 0 ≤ d) (h6 : d ≤ 6) (t0 : 0 ≤ t) (ht : t + 19 < 47) (hw : 47 ≤ w) (hw2 : w ≤ 56) (hM : M 3 = 0 ∨ M 3 = 1) (hd : ¬ (d < 1 ∨ W 0 p < d)) :
    ∃ h', Mi_takeTurn_8 h 76 m p d 1 = some (h', 0) ∧ WO h' w T (zr_ T (M 3) W m p d) ∧ fr_ h h' (mA w) := by
  have g1 := g.1
  have g3 := g.2.2.1
  obtain ⟨w0, s6, -, s8, -, -, -, -, -, l1, -, l3, -⟩ := id o.1
  have y1 := o.2.2.1 p h1 h2
  have p4 : p < 4 := by have := v.1; omega
  have m4 : m < 4 := by have := v.1; omega
  rw [Mi_takeTurn_8_e]
  simp only [g3, s6, l1, y1]
  rw [if_neg (by omega), if_neg (by omega), ck_t (by omega), ck_t w0, ck_t (by omega), ck_t ⟨h1, p4⟩, if_pos (by omega), g1, ck_t (by omega), ck_t (by omega)]
  -- effort
  obtain ⟨ha, a1, a2, a3⟩ := La_value_s (k := 0) gl o q v u h1 h2 h3 h4 h5 h6 (by omega) (by omega) (Or.inr (by omega)) (Or.inr (by omega)) d
  have oa := WO_fr o a2 (lA_w hw2)
  have qa := TO_fr q a2 (lA_t ht)
  have Ma := MiO_fr g a2 (by omega)
  rw [a1, bd_v, Mi_within_s ha _ (by omega) (by omega), bd_v, Ma.2.2.1, ck_t (by omega), ck_t w0]
  obtain ⟨hb, b1, b2, b3⟩ := Wo_turnOver_s oa v h1 h2 (d := d) (by omega) (by omega)
  have qb := TO_fr qa b3 (by intro a x y z; omega)
  have lb := LO_fr a3 b3 (by omega)
  have Mb := MiO_fr Ma b3 (by omega)
  have vb := Tn_v v h1 h2 (d := d) (by omega) (by omega)
  obtain ⟨-, -, -, sb8, -, -, -, -, -, -, -, lb3, -⟩ := id b2.1
  have yb := b2.2.2.2.2.1 m h3 h4
  have tb : T 0 5 = rd_ hb t 2 := qb.2.1.2.2.1.symm
  have tm := vb.2.2.2.2.2.2.2.2.1 m h3 h4
  have eb : 0 ≤ ef_ T W m p d ∧ ef_ T W m p d ≤ 999 := wi_b (by omega)
  rw [b1, bd_v, Mb.1, Mb.2.1, Mb.2.2.1]
  simp only [sb8, lb3, yb]
  repeat rw [ck_t (by omega)]
  have tie : (if (99999 : Int) < w32 (Tn W p d 2 m + wi_ (if T 14 0 ≤ T 13 0 then d else (lv_ T (nv_ T W m p d 0) 0).getD d) 999) then (99999 : Int) else w32 (Tn W p d 2 m + wi_ (if T 14 0 ≤ T 13 0 then d else (lv_ T (nv_ T W m p d 0) 0).getD d) 999)) = (if 99999 < Tn W p d 2 m + ef_ T W m p d then 99999 else Tn W p d 2 m + ef_ T W m p d) := by
    show (if (99999 : Int) < w32 (Tn W p d 2 m + ef_ T W m p d) then (99999 : Int) else w32 (Tn W p d 2 m + ef_ T W m p d)) = _
    rw [w32_i (by omega) (by omega)]
  rw [tie, rd_wo (by omega), ← tb]
  have F3 : fr_ hb (wr_ hb (w + 3) m (if 99999 < Tn W p d 2 m + ef_ T W m p d then 99999 else Tn W p d 2 m + ef_ T W m p d)) (fun a => a = w + 3) := fr_wr rfl
  have oc : WO (wr_ hb (w + 3) m (if 99999 < Tn W p d 2 m + ef_ T W m p d then 99999 else Tn W p d 2 m + ef_ T W m p d)) w T (ti_ (Tn W p d) m (ef_ T W m p d)) := WO_ti b2 _
  have qc := TO_fr qb F3 (by intro a x y z; omega)
  have lc := LO_fr lb F3 (by omega)
  have Mc := MiO_fr Mb F3 (by omega)
  have vc := ti_v vb eb.1 h3 h4
  -- chipping
  obtain ⟨hd', d1, d2, d3⟩ := La_value_s (k := 1) lc oc qc vc u h1 h2 h3 h4 h5 h6 (by omega) (by omega) (Or.inr (by omega)) (Or.inr (by omega)) (T 0 5)
  have od := WO_fr oc d2 (lA_w hw2)
  have Md := MiO_fr Mc d2 (by omega)
  have ob : 0 ≤ od_ T (ti_ (Tn W p d) m (ef_ T W m p d)) m p d ∧ od_ T (ti_ (Tn W p d) m (ef_ T W m p d)) m p d ≤ 100 := wi_b (by omega)
  rw [d1, bd_v, Mi_within_s hd' _ (by omega) (by omega), bd_v, ck_t (by omega)]
  obtain ⟨he, e1, e2, e3⟩ := Mi_chips_s Md od vc (od_ T (ti_ (Tn W p d) m (ef_ T W m p d)) m p d) ob.1 ob.2 hM
  have e1' : Mi_chips hd' 76 (wi_ (if T 14 1 ≤ T 13 1 then T 0 5 else (lv_ T (nv_ T (ti_ (Tn W p d) m (ef_ T W m p d)) m p d 1) 1).getD (T 0 5)) 100) = _ := e1
  rw [e1', bd_v]
  have ve : WV T (nu_ (M 3) (od_ T (ti_ (Tn W p d) m (ef_ T W m p d)) m p d) (ti_ (Tn W p d) m (ef_ T W m p d))) := by
    unfold nu_
    split
    · exact nu_v vc _
    · exact vc
  have Fe : fr_ h he (mA w) := fr_tr (fr_mo a2 mA_l) (fr_tr (fr_mo b3 (mA_w fun a x => by omega)) (fr_tr (fr_mo F3 (mA_w fun a x => by omega)) (fr_tr (fr_mo d2 mA_l) (fr_mo e3 (mA_w fun a x => by omega)))))
  have Me := MiO_fr Md e3 (by omega)
  unfold zr_
  cases hc : ci_ (M 3) (od_ T (ti_ (Tn W p d) m (ef_ T W m p d)) m p d) (nu_ (M 3) (od_ T (ti_ (Tn W p d) m (ef_ T W m p d)) m p d) (ti_ (Tn W p d) m (ef_ T W m p d)))
  · rw [if_pos (show bz false = 0 from rfl), if_neg (show ¬ false = true by decide)]
    exact ⟨he, rfl, e2, Fe⟩
  · have hi : nu_ (M 3) (od_ T (ti_ (Tn W p d) m (ef_ T W m p d)) m p d) (ti_ (Tn W p d) m (ef_ T W m p d)) 0 = W 0 := by
      unfold nu_
      split <;> rfl
    have ly : nu_ (M 3) (od_ T (ti_ (Tn W p d) m (ef_ T W m p d)) m p d) (ti_ (Tn W p d) m (ef_ T W m p d)) 3 = Tn W p d 3 := by
      unfold nu_
      split <;> rfl
    rw [if_neg (show ¬ bz true = 0 by decide), if_pos (show true = true from rfl), Me.2.2.1, ck_t (by omega), ck_t w0, Wo_chipTop_s e2 ve h1 h2 (by rw [hi]; omega), bd_v, ly]
    exact ⟨_, rfl, WO_ch e2 _, fr_tr Fe (fr_wr (Or.inr (Or.inr ⟨by omega, by omega⟩)))⟩
theorem lc_ite (a : Int) (x y : am_O) : (if lcm_ a 0 = 0 then x else y) = if a = 0 then x else y := by simp only [lc_e]
/-- by how deep a turn told is -/
def dp_ (T : Tx) (M : Int → Int) (W : Tx) (i : Int) : Int := if i = M 6 then M 7 else if M 4 = 4 then W 0 (T 9 i) else if M 4 = 1 then T 10 i + 1 else T 10 i
/-- by what minutes go -/
def MV (M : Int → Int) : Prop := (M 3 = 0 ∨ M 3 = 1) ∧ (-1 ≤ M 4 ∧ M 4 ≤ 4) ∧ (-1 ≤ M 5 ∧ M 5 < 4) ∧ (M 6 = -1 ∨ (0 ≤ M 6 ∧ 1 ≤ M 7 ∧ M 7 ≤ 5 ∧ M 4 = -1))
theorem dp_b (u : TV T) (v : WV T W) (hM : MV M) {i : Int} (h1 : 0 ≤ i) (h2 : i < T 0 3) : 0 ≤ dp_ T M W i ∧ dp_ T M W i ≤ 6 := by
  have a := u.2.2.1 i h1 h2
  have b := v.2.1 (T 9 i) (by omega) (by omega)
  unfold MV at hM
  unfold dp_
  repeat' split
  all_goals omega
/-- a turn told -/
def zk_ (T : Tx) (M : Int → Int) (W : Tx) (i : Int) : Tx := if T 8 i = M 5 then W else zt_ T (M 3) (if M 4 = 0 then 1 else 0) W (T 8 i) (T 9 i) (dp_ T M W i)
theorem Mi_depthOf_s (g : MiO h t w M) (o : WO h w T W) (q : TO h t T) (u : TV T) (v : WV T W) (t0 : 0 ≤ t) {i : Int} (h1 : 0 ≤ i) (h2 : i < T 0 3) : Mi_depthOf h 76 i (T 9 i) = some (h, dp_ T M W i) := by
  have a := u.2.2.1 i h1 h2
  have b := o.2.2.1 (T 9 i) (by omega) (by omega)
  have c := (q.2.2.2.2.1 i h1 h2).2.2.1
  obtain ⟨w0, s6, -, -, -, -, -, -, -, l1, -⟩ := id o.1
  have r12 := q.1.2.2.2.2.2.2.2.1
  have m15 : ln_ h (t + 15) = 14 := q.1.2.2.2.2.2.2.2.2.2.2.2.2.2.2.2.2.2.1
  have v0 := v.1
  have u0 := u.1
  obtain ⟨g0, g1, g2, -, -, gm⟩ := g
  rw [Mi_depthOf_e]
  simp only [g1, g2, s6, l1, r12, m15, b, c, gm 6 (by omega) (by omega), gm 4 (by omega) (by omega), gm 7 (by omega) (by omega)]
  unfold dp_
  repeat rw [ck_t (by omega)]
  repeat' split
  all_goals first | omega | rfl | (repeat rw [ck_t (by omega)]) <;> first | rfl | (rw [w32_i (by omega) (by omega)])
theorem Mi_takeTurn_s (g : MiO h t w M) (o : WO h w T W) (q : TO h t T) (v : WV T W) (u : TV T) (t0 : 0 ≤ t) (ht : t + 19 < 47) (hw : 47 ≤ w) (hw2 : w ≤ 56) (hM : MV M) {i : Int} (h1 : 0 ≤ i) (h2 : i < T 0 3) :
    ∃ h', Mi_takeTurn h 76 i = some (h', 0) ∧ WO h' w T (zk_ T M W i) ∧ MiO h' t w M ∧ fq_ h h' (mA w) (fun a => a = 77) := by
  have a := u.2.2.1 i h1 h2
  have c := q.2.2.2.2.1 i h1 h2
  have r10 := q.1.2.2.2.2.2.1
  have r11 := q.1.2.2.2.2.2.2.1
  have m13 : ln_ h (t + 13) = 14 := q.1.2.2.2.2.2.2.2.2.2.2.2.2.2.2.2.1
  have m14 : ln_ h (t + 14) = 14 := q.1.2.2.2.2.2.2.2.2.2.2.2.2.2.2.2.2.1
  have w0 := o.1.1
  have u0 := u.1
  obtain ⟨g0, g1, g2, g3, g4, gm⟩ := id g
  rw [Mi_takeTurn_e]
  simp only [g1, g2, r10, r11, m13, m14, c.1, c.2.1, gm 5 (by omega) (by omega)]
  repeat rw [ck_t (by omega)]
  unfold zk_
  by_cases c1 : T 8 i = M 5
  · rw [if_pos c1, if_pos c1]
    exact ⟨h, rfl, o, g, fq_refl _ _ _⟩
  · rw [if_neg c1, if_neg c1]
    repeat rw [ck_t (by omega)]
    rw [Wo_hasMaid_t o (by omega) (by omega), bd_v, if_neg (by omega)]
    simp only [g2]
    repeat rw [ck_t (by omega)]
    rw [Wo_hasPile_t o (by omega) (by omega), bd_v, if_pos (by omega)]
    repeat rw [ck_t (by omega)]
    rw [Mi_depthOf_s g o q u v t0 h1 h2, bd_v]
    simp only [g0, g1, g2]
    repeat rw [ck_t (by omega)]
    have db := dp_b u v hM h1 h2
    obtain ⟨ha, a1, a2, a3, a4⟩ := La_lookAt_s (h := h) (l := 77) (t := t) (w := w) (m := T 8 i) (p := T 9 i) (d := dp_ T M W i) (by omega) g3 g4
    have Q : fq_ h ha (mA w) (fun a => a = 77) := ⟨a3, fun a x k => (a4 a (fun e => x (Or.inl e)) k).1, fun a x k => (a4 a x k).2⟩
    have oa : WO ha w T W := WO_fq o (A := fun a => a = 77) (B := fun a => a = 77) ⟨a3, fun a x k => (a4 a x k).1, fun a x k => (a4 a x k).2⟩ (by intro a x y z; omega) (by omega)
    have qa : TO ha t T := TO_fq q Q (mA_t ht hw) (by omega)
    have Ma : MiO ha t w M := MiO_fq g Q (by unfold mA; omega) (by omega) a2.2.1
    rw [a1, bd_v]
    repeat rw [ck_t (by omega)]
    rw [Ma.2.2.2.2.2 4 (by omega) (by omega)]
    -- whether the depth will do is asked behind the law of heeding
    have rest : ∀ hb s0, fr_ ha hb (fun a => a = 77 ∨ a = 77 + 1) → LO hb 77 t w (T 8 i) (T 9 i) (dp_ T M W i) → (s0 = 0 ∨ s0 = 1) → ∃ h', Mi_takeTurn_8 hb 76 (T 8 i) (T 9 i) (dp_ T M W i) s0 = some (h', 0) ∧ WO h' w T (if s0 = 0 ∨ dp_ T M W i < 1 ∨ W 0 (T 9 i) < dp_ T M W i then up_ W 6 1 (w32 (W 6 1 + 1)) else zr_ T (M 3) W (T 8 i) (T 9 i) (dp_ T M W i)) ∧ MiO h' t w M ∧ fq_ h h' (mA w) (fun a => a = 77) := by
      intro hb s0 fb lb hs
      have ob := WO_fr oa fb (lA_w hw2)
      have qb := TO_fr qa fb (lA_t ht)
      have Mb := MiO_fr Ma fb (by omega)
      have yb := ob.2.2.1 (T 9 i) (by omega) (by omega)
      obtain ⟨-, s6, -, -, -, -, -, -, -, l1, -⟩ := id ob.1
      have v0 := v.1
      by_cases c2 : s0 = 0 ∨ dp_ T M W i < 1 ∨ W 0 (T 9 i) < dp_ T M W i
      · obtain ⟨i1, i2, i3⟩ := Mi_turn8_idle (x := 0) Mb ob
        refine ⟨_, ?_, by rw [if_pos c2]; exact i2, MiO_fr Mb i3 (by unfold mA; omega), fq_tr Q (fq_tr (fq_fr (fr_mo fb mA_l)) (fq_fr i3))⟩
        rw [Mi_takeTurn_8_e]
        simp only [Mb.2.2.1, i1, s6, l1, yb]
        split
        · rfl
        · split
          · rfl
          · rw [ck_t (by omega), ck_t (by omega), ck_t (by omega), ck_t (by omega), if_neg (by omega)]
      · have hs1 : s0 = 1 := by omega
        subst hs1
        obtain ⟨hc, k1, k2, k3⟩ := Mi_turn8_s Mb lb ob qb v u (by omega) (by omega) (by omega) (by omega) db.1 db.2 t0 ht hw hw2 hM.1 (by omega)
        exact ⟨hc, k1, by rw [if_neg c2]; exact k2, MiO_fr Mb k3 (by unfold mA; omega), fq_tr Q (fq_tr (fq_fr (fr_mo fb mA_l)) (fq_fr k3))⟩
    rw [zt_r]
    by_cases c3 : M 4 = 0
    · rw [if_pos c3, if_pos c3]
      obtain ⟨h', r1, r2, r3, r4⟩ := rest ha 1 (fr_refl _ _) a2 (by omega)
      refine ⟨h', r1, ?_, r3, r4⟩
      have e : ((1 : Int) = 0 ∧ hv_ T W (T 8 i) (T 9 i) (dp_ T M W i) = 0 ∨ dp_ T M W i < 1 ∨ W 0 (T 9 i) < dp_ T M W i) ↔ ((1 : Int) = 0 ∨ dp_ T M W i < 1 ∨ W 0 (T 9 i) < dp_ T M W i) := by omega
      simp only [e]
      exact r2
    · rw [if_neg c3, if_neg c3, Ma.1]
      repeat rw [ck_t (by omega)]
      obtain ⟨hb, b1, b2, b3⟩ := La_value_s (k := 2) a2 oa qa v u (by omega) (by omega) (by omega) (by omega) db.1 db.2 (by omega) (by omega) (Or.inr (by omega)) (Or.inr (by omega)) 1
      rw [b1, bd_v, lc_ite]
      have eh : (if T 14 2 ≤ T 13 2 then 1 else (lv_ T (nv_ T W (T 8 i) (T 9 i) (dp_ T M W i) 2) 2).getD 1) = hv_ T W (T 8 i) (T 9 i) (dp_ T M W i) := rfl
      rw [eh]
      by_cases c4 : hv_ T W (T 8 i) (T 9 i) (dp_ T M W i) = 0
      · rw [if_pos c4]
        obtain ⟨h', r1, r2, r3, r4⟩ := rest hb 0 b2 b3 (by omega)
        refine ⟨h', r1, ?_, r3, r4⟩
        rw [if_pos (Or.inl rfl)] at r2
        rw [if_pos (Or.inl ⟨by omega, c4⟩)]
        exact r2
      · rw [if_neg c4]
        obtain ⟨h', r1, r2, r3, r4⟩ := rest hb 1 b2 b3 (by omega)
        refine ⟨h', r1, ?_, r3, r4⟩
        by_cases c5 : dp_ T M W i < 1 ∨ W 0 (T 9 i) < dp_ T M W i
        · rw [if_pos (Or.inr c5)] at r2
          rw [if_pos (Or.inr c5)]
          exact r2
        · rw [if_neg (by omega)] at r2
          rw [if_neg (by omega)]
          exact r2
end
