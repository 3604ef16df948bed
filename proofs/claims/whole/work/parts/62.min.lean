/-! a turn, a minute: pure -/
/-- numbers have changed at cells of A alone, references at cells of B alone -/
def fq_ (h h' : am_H) (A B : Int → Prop) : Prop := h'.2.2 = h.2.2 ∧ (∀ a, ¬ A a → ∀ k, rd_ h' a k = rd_ h a k) ∧ ∀ a, ¬ B a → ∀ k, rf_ h' a k = rf_ h a k
theorem fq_fr {h h' : am_H} {A B : Int → Prop} (x : fr_ h h' A) : fq_ h h' A B := ⟨by rw [x.1], x.2, fun a _ k => fr_rf x a k⟩
theorem fq_refl (h : am_H) (A B : Int → Prop) : fq_ h h A B := fq_fr (fr_refl h A)
theorem fq_tr {h h1 h2 : am_H} {A B : Int → Prop} (x : fq_ h h1 A B) (y : fq_ h1 h2 A B) : fq_ h h2 A B := ⟨y.1.trans x.1, fun a ha k => (y.2.1 a ha k).trans (x.2.1 a ha k), fun a ha k => (y.2.2 a ha k).trans (x.2.2 a ha k)⟩
theorem fq_mo {h h1 : am_H} {A B A' B' : Int → Prop} (x : fq_ h h1 A B) (y : ∀ a, A a → A' a) (z : ∀ a, B a → B' a) : fq_ h h1 A' B' := ⟨x.1, fun a ha k => x.2.1 a (fun q => ha (y a q)) k, fun a ha k => x.2.2 a (fun q => ha (z a q)) k⟩
theorem fq_ln {h h1 : am_H} {A B : Int → Prop} (x : fq_ h h1 A B) (a : Int) : ln_ h1 a = ln_ h a := by unfold ln_; rw [x.1]
theorem fq_nn {h h1 : am_H} {A B : Int → Prop} (x : fq_ h h1 A B) : nn_ h1 = nn_ h := by unfold nn_; rw [x.1]
theorem fq_ss {h h1 : am_H} {A B : Int → Prop} (x : fq_ h h1 A B) : ss_ h1 = ss_ h := by unfold ss_; rw [x.1]
theorem ShW_q {h h' : am_H} {w : Int} (l : ∀ a, ln_ h' a = ln_ h a) (r : ∀ k, rf_ h' w k = rf_ h w k) (s : ShW h w) : ShW h' w := by
  unfold ShW at *
  simp only [l, r]
  exact s
theorem ShT_q {h h' : am_H} {w : Int} (l : ∀ a, ln_ h' a = ln_ h a) (r : ∀ k, rf_ h' w k = rf_ h w k) (s : ShT h w) : ShT h' w := by
  unfold ShT at *
  simp only [l, r]
  exact s
theorem ShM_q {h h' : am_H} (l : ∀ a, ln_ h' a = ln_ h a) (r : ∀ k, rf_ h' 94 k = rf_ h 94 k) (s : ShM h) : ShM h' := by
  unfold ShM at *
  simp only [l, r]
  exact s
theorem WO_fq {h h' : am_H} {w : Int} {T W : Tx} {A B : Int → Prop} (o : WO h w T W) (f : fq_ h h' A B) (n : ∀ a, w ≤ a → a ≤ w + 7 → ¬ A a) (nb : ¬ B w) : WO h' w T W := by
  obtain ⟨s, ⟨e0, e1, e2, e3, e4, e5⟩, f1, f2, f3, f4, f5, f6, f7⟩ := o
  have R : ∀ a, w ≤ a → a ≤ w + 7 → ∀ k, rd_ h' a k = rd_ h a k := fun a x y k => f.2.1 a (n a x y) k
  refine ⟨ShW_q (fq_ln f) (f.2.2 w nb) s, ?_, ?_, ?_, ?_, ?_, ?_, ?_, ?_⟩
  · rw [R w (by omega) (by omega), R w (by omega) (by omega), R w (by omega) (by omega), R w (by omega) (by omega), R w (by omega) (by omega), R w (by omega) (by omega)]
    exact ⟨e0, e1, e2, e3, e4, e5⟩
  · intro j x y
    rw [R (w + 1) (by omega) (by omega)]; exact f1 j x y
  · intro j x y
    rw [R (w + 2) (by omega) (by omega)]; exact f2 j x y
  · intro j x y
    rw [R (w + 3) (by omega) (by omega)]; exact f3 j x y
  · intro j k x y z u
    rw [R (w + 4) (by omega) (by omega)]; exact f4 j k x y z u
  · intro j x y
    rw [R (w + 5) (by omega) (by omega)]; exact f5 j x y
  · intro j x y
    rw [R (w + 6) (by omega) (by omega)]; exact f6 j x y
  · intro j x y
    rw [R (w + 7) (by omega) (by omega)]; exact f7 j x y
theorem TO_fq {h h' : am_H} {t : Int} {T : Tx} {A B : Int → Prop} (o : TO h t T) (f : fq_ h h' A B) (n : ∀ a, t ≤ a → a ≤ t + 19 → ¬ A a) (nb : ¬ B t) : TO h' t T := by
  obtain ⟨s, ⟨a0, a1, a2, a3⟩, b, c, d, e, g⟩ := o
  have R : ∀ a, t ≤ a → a ≤ t + 19 → ∀ k, rd_ h' a k = rd_ h a k := fun a x y k => f.2.1 a (n a x y) k
  refine ⟨ShT_q (fq_ln f) (f.2.2 t nb) s, ?_, ?_, ?_, ?_, ?_, ?_⟩
  · rw [R t (by omega) (by omega), R t (by omega) (by omega), R t (by omega) (by omega), R t (by omega) (by omega)]
    exact ⟨a0, a1, a2, a3⟩
  · intro j x y
    rw [R (t + 10) (by omega) (by omega), R (t + 11) (by omega) (by omega)]; exact b j x y
  · intro j x y
    rw [R (t + 12) (by omega) (by omega)]; exact c j x y
  · intro j x y
    rw [R (t + 13) (by omega) (by omega), R (t + 14) (by omega) (by omega), R (t + 15) (by omega) (by omega), R (t + 16) (by omega) (by omega)]; exact d j x y
  · intro j x y
    rw [R (t + 17) (by omega) (by omega)]; exact e j x y
  · intro j x y
    rw [R (t + 18) (by omega) (by omega), R (t + 19) (by omega) (by omega)]; exact g j x y
/-- rows with one number changed -/
def up_ (W : Tx) (f : Nat) (k v : Int) : Tx := fun g => if g = f then (fun j => if j = k then v else W f j) else W g
theorem up_s (W : Tx) (f : Nat) (k v j : Int) : up_ W f k v f j = if j = k then v else W f j := by unfold up_; rw [if_pos rfl]
theorem up_o (W : Tx) {f g : Nat} (k v : Int) (n : g ≠ f) : up_ W f k v g = W g := by unfold up_; rw [if_neg n]
def hv_ (T W : Tx) (m p d : Int) : Int := if T 14 2 ≤ T 13 2 then 1 else (lv_ T (nv_ T W m p d 2) 2).getD 1
def wi_ (v mo : Int) : Int := if (if mo < v then mo else v) < 0 then 0 else (if mo < v then mo else v)
def ef_ (T W : Tx) (m p d : Int) : Int := wi_ (if T 14 0 ≤ T 13 0 then d else (lv_ T (nv_ T W m p d 0) 0).getD d) 999
def od_ (T W : Tx) (m p d : Int) : Int := wi_ (if T 14 1 ≤ T 13 1 then T 0 5 else (lv_ T (nv_ T W m p d 1) 1).getD (T 0 5)) 100
def nm_ (n : Int) : Int := al_ (w64 (w64 (n * 1103515245) + 12345)) 2147483647
def ti_ (W : Tx) (m e : Int) : Tx := up_ W 2 m (if 99999 < W 2 m + e then 99999 else W 2 m + e)
def dn_ (dr od : Int) : Bool := decide (dr ≠ 0 ∧ od ≠ 0 ∧ od ≠ 100)
def nu_ (dr od : Int) (W : Tx) : Tx := if dn_ dr od then up_ W 6 2 (nm_ (W 6 2)) else W
def ci_ (dr od : Int) (W : Tx) : Bool := if dn_ dr od then decide (Int.tmod (Int.tdiv (W 6 2) 65536) 100 < od) else if dr = 0 then decide (50 ≤ od) else decide (od = 100)
/-- one turn of maid m, pile p, by d -/
def zt_ (T : Tx) (dr nh : Int) (W : Tx) (m p d : Int) : Tx := if (nh = 0 ∧ hv_ T W m p d = 0) ∨ d < 1 ∨ W 0 p < d then up_ W 6 1 (w32 (W 6 1 + 1))
  else if ci_ dr (od_ T (ti_ (Tn W p d) m (ef_ T W m p d)) m p d) (nu_ dr (od_ T (ti_ (Tn W p d) m (ef_ T W m p d)) m p d) (ti_ (Tn W p d) m (ef_ T W m p d)))
    then up_ (nu_ dr (od_ T (ti_ (Tn W p d) m (ef_ T W m p d)) m p d) (ti_ (Tn W p d) m (ef_ T W m p d))) 5 (Tn W p d 3 (5 * p)) 1
    else nu_ dr (od_ T (ti_ (Tn W p d) m (ef_ T W m p d)) m p d) (ti_ (Tn W p d) m (ef_ T W m p d))
theorem wi_b {v mo : Int} (h : 0 ≤ mo) : 0 ≤ wi_ v mo ∧ wi_ v mo ≤ mo := by unfold wi_; repeat' split
                                                                            all_goals omega
theorem ti_v {T W : Tx} (v : WV T W) {m e : Int} (he : 0 ≤ e) (h3 : 0 ≤ m) (h4 : m < T 0 0) : WV T (ti_ W m e) := by
  obtain ⟨v0, v1, v2, v3, v4, v5, v6, v7, v8, v9, v10, v11⟩ := id v
  refine ⟨v0, v1, v2, v3, v4, v5, v6, v7, ?_, v9, v10, v11⟩
  intro j a b
  unfold ti_
  have := v8 m h3 h4
  rw [up_s]
  split
  · split <;> omega
  · exact v8 j a b
theorem ix_v {T W : Tx} (v : WV T W) : WV T (up_ W 6 1 (w32 (W 6 1 + 1))) := by
  obtain ⟨v0, v1, v2, v3, v4, v5, v6, v7, v8, v9, v10, v11⟩ := id v
  refine ⟨v0, v1, v2, v3, v4, v5, v6, v7, v8, ?_, ?_, ?_⟩
  · rw [up_s]; exact v9
  · rw [up_s]; exact w32_in _
  · rw [up_s]; exact v11
theorem mi_v {T W : Tx} (v : WV T W) : WV T (up_ W 6 0 (w32 (W 6 0 + 1))) := by
  obtain ⟨v0, v1, v2, v3, v4, v5, v6, v7, v8, v9, v10, v11⟩ := id v
  refine ⟨v0, v1, v2, v3, v4, v5, v6, v7, v8, ?_, ?_, ?_⟩
  · rw [up_s]; exact w32_in _
  · rw [up_s]; exact v10
  · rw [up_s]; exact v11
theorem al_mask (x : Int) : 0 ≤ al_ x 2147483647 ∧ al_ x 2147483647 ≤ 2147483647 := by
  unfold al_
  have e : (Int64.ofInt x &&& Int64.ofInt 2147483647).toInt = (Int64.ofInt x &&& Int64.ofInt 2147483647).toBitVec.toInt := rfl
  rw [e]
  have e2 : (Int64.ofInt x &&& Int64.ofInt 2147483647).toBitVec = (Int64.ofInt x).toBitVec &&& 2147483647#64 := rfl
  rw [e2]
  generalize (Int64.ofInt x).toBitVec = y
  have hle : (y &&& 2147483647#64).toNat ≤ 2147483647 := by
    rw [BitVec.toNat_and]
    exact Nat.and_le_right
  rw [BitVec.toInt_eq_toNat_of_lt (by omega)]
  omega
theorem nu_v {T W : Tx} (v : WV T W) (n : Int) : WV T (up_ W 6 2 (nm_ n)) := by
  obtain ⟨v0, v1, v2, v3, v4, v5, v6, v7, v8, v9, v10, v11⟩ := id v
  refine ⟨v0, v1, v2, v3, v4, v5, v6, v7, v8, ?_, ?_, ?_⟩
  · rw [up_s]; exact v9
  · rw [up_s]; exact v10
  · rw [up_s]; exact al_mask _
theorem ch_v {T W : Tx} (v : WV T W) (j : Int) : WV T (up_ W 5 j 1) := by
  obtain ⟨v0, v1, v2, v3, v4, v5, v6, v7, v8, v9, v10, v11⟩ := id v
  refine ⟨v0, v1, v2, v3, v4, v5, ?_, v7, v8, v9, v10, v11⟩
  intro i a b
  have := v6 i a b
  refine ⟨this.1, ?_⟩
  rw [up_s]
  split
  · omega
  · exact this.2
theorem zt_v {T W : Tx} (v : WV T W) {m p d : Int} (dr nh : Int) (h1 : 0 ≤ p) (h2 : p < T 0 1) (h3 : 0 ≤ m) (h4 : m < T 0 0) : WV T (zt_ T dr nh W m p d) := by
  unfold zt_
  by_cases c : (nh = 0 ∧ hv_ T W m p d = 0) ∨ d < 1 ∨ W 0 p < d
  · rw [if_pos c]; exact ix_v v
  · rw [if_neg c]
    have a := ti_v (Tn_v v h1 h2 (d := d) (by omega) (by omega)) (wi_b (v := if T 14 0 ≤ T 13 0 then d else (lv_ T (nv_ T W m p d 0) 0).getD d) (mo := 999) (by omega)).1 h3 h4
    have b : ∀ o, WV T (nu_ dr o (ti_ (Tn W p d) m (ef_ T W m p d))) := by
      intro o
      unfold nu_
      split
      · exact nu_v a _
      · exact a
    split
    · exact ch_v (b _) _
    · exact b _
