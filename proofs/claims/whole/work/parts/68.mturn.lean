/-! a turn, in the reference -/
theorem nv_k (T W : Tx) (m p d : Int) {k : Int} (h : k ≠ 1) : nv_ T W m p d k = nv_ T W m p d 0 := by
  funext x
  unfold nv_
  rw [if_neg (c := k = 1) h, if_neg (c := (0 : Int) = 1) (by omega)]
theorem MT_fz {h h' : am_H} {T : Tx} {A F : Int → Prop} (t : MT h T) (x : fz_ h h' A F) (n : ∀ a, 98 ≤ a → a ≤ 109 → ¬ A a) (nf : ∀ k, 12 ≤ k → k ≤ 16 → ¬ F k) : MT h' T := by
  obtain ⟨⟨t0, t1, t2, t3, t4, t5, t6⟩, a1, a2, a3, a4, a5, a6, a7, a8⟩ := t
  have R : ∀ a, 98 ≤ a → a ≤ 109 → ∀ k, rd_ h' a k = rd_ h a k := fun a p q k => x.2.1 a (n a p q) (by omega) k
  refine ⟨?_, ?_, ?_, ?_, ?_, ?_, ?_, ?_, ?_⟩
  · rw [x.2.2 12 (nf _ (by omega) (by omega)), x.2.2 13 (nf _ (by omega) (by omega)), x.2.2 14 (nf _ (by omega) (by omega)), x.2.2 15 (nf _ (by omega) (by omega)), x.2.2 16 (nf _ (by omega) (by omega)), R 98 (by omega) (by omega), R 98 (by omega) (by omega)]
    exact ⟨t0, t1, t2, t3, t4, t5, t6⟩
  · intro j p q
    rw [R 99 (by omega) (by omega)]; exact a1 j p q
  · intro j p q
    rw [R 100 (by omega) (by omega)]; exact a2 j p q
  · intro j p q
    rw [R 101 (by omega) (by omega)]; exact a3 j p q
  · intro j p q
    rw [R 102 (by omega) (by omega)]; exact a4 j p q
  · intro j k p q r s
    rw [R 103 (by omega) (by omega)]; exact a5 j k p q r s
  · intro j p q
    rw [R 104 (by omega) (by omega)]; exact a6 j p q
  · intro j p q
    rw [R 105 (by omega) (by omega)]; exact a7 j p q
  · intro j p q
    rw [R 106 (by omega) (by omega), R 107 (by omega) (by omega), R 108 (by omega) (by omega), R 109 (by omega) (by omega)]; exact a8 j p q
theorem MW_fz {h h' : am_H} {b : Int} {T W : Tx} {A F : Int → Prop} (o : MW h b T W) (x : fz_ h h' A F) (n : ∀ a, 120 ≤ a → a ≤ 127 → ¬ A a) : MW h' b T W := by
  obtain ⟨b0, g0, g1, g2, g3, g4, g5, g6, g7⟩ := id o
  have R : ∀ a, 120 ≤ a → a ≤ 127 → ∀ k, rd_ h' a k = rd_ h a k := fun a p q k => x.2.1 a (n a p q) (by omega) k
  refine ⟨b0, ?_, ?_, ?_, ?_, ?_, ?_, ?_, ?_⟩
  · intro j p q
    rw [R 120 (by omega) (by omega)]; exact g0 j p q
  · intro j p q
    rw [R 122 (by omega) (by omega)]; exact g1 j p q
  · intro j p q
    rw [R 125 (by omega) (by omega)]; exact g2 j p q
  · intro j k p q r s
    rw [R 121 (by omega) (by omega)]; exact g3 j k p q r s
  · intro j p q
    rw [R 123 (by omega) (by omega)]; exact g4 j p q
  · intro j p q
    rw [R 124 (by omega) (by omega)]; exact g5 j p q
  · rw [R 127 (by omega) (by omega)]; exact g6
  · rw [R 126 (by omega) (by omega)]; exact g7
theorem hf_fz {h h' : am_H} {A F : Int → Prop} (x : fz_ h h' A F) (n : ∀ a, 120 ≤ a → a ≤ 127 → ¬ A a) (b : Int) : hf_ h h' b := ⟨fun a k p _ => x.2.1 a (n a (by omega) (by omega)) (by omega) k, fun a k p _ => x.2.1 a (n a (by omega) (by omega)) (by omega) k, fun a k p _ => x.2.1 a (n a (by omega) (by omega)) (by omega) k⟩
section
variable {h : am_H} {T : Tx} {E : Int → Int} {k : Int}
theorem Mo_lawOf_s (s : ShM h) (m : ML h T) (e : NM h E) (u : TV T) (Eb : ∀ x, bnd (E x)) (hk : 0 ≤ k) (hk3 : k < 3) (ht : T 13 k < T 14 k) : ∃ h', Mo_lawOf h 94 k = some (h', (lv_ T E k).getD 0) ∧ rd_ h' 94 51 = (if (lv_ T E k).isSome then 0 else 1) ∧ fz_ h h' (fun a => a = 119) (fun x => x = 51) := by
  have u0 := u.1
  obtain ⟨a, b, c, d⟩ := u.2.2.2 k hk hk3
  have lk := d ht
  clear d
  have y := m.2.1 k hk hk3 ht
  have f1 : fz_ h (wr_ h 94 51 0) (fun a => a = 119) (fun x => x = 51) := fz_wf rfl
  rw [Mo_lawOf_e]
  simp only [mr36 s, ml111 s]
  rw [rd_wo (by omega), y.1]
  obtain ⟨h', e1, e2, e3⟩ := Mo_lawOf_lp (T := T) (E := E) (k := k) (f := T 13 k) hk hk3 a rfl (by omega) Eb (T 14 k - T 13 k).toNat (T 13 k) [] (wr_ h 94 51 0) (some []) (fz_ShM f1 s) (ML_fm m f1 (by intro a p q; omega)) (by
      intro x p q
      rw [f1.2.1 118 (by omega) (by omega)]; exact e x p q) lk (by rw [show (T 13 k - T 13 k).toNat = 0 by omega]; rfl) (Or.inl rfl) (fun p hp => by cases hp) (by intro j p q; omega) ⟨rd_ws _ _ _ _, trivial⟩ (by omega) (by omega) ht
  clear lk
  refine ⟨h', ?_, ?_, fz_tr f1 e3⟩
  · repeat rw [ck_t (by omega)]
    rw [e1, Option.bind_some]
    unfold lv_
    cases rn_ E (T 12) (T 14 k - T 13 k).toNat (T 13 k) [] <;> rfl
  · rw [e2, Option.bind_some]
    unfold lv_
    cases rn_ E (T 12) (T 14 k - T 13 k).toNat (T 13 k) [] <;> rfl
theorem Mo_boundLaw_s (s : ShM h) (m : ML h T) (e : NM h E) (u : TV T) (Eb : ∀ x, bnd (E x)) (hk : 0 ≤ k) (hk3 : k < 3) {wo mo : Int} (h0 : 0 ≤ wo) (h1 : wo ≤ mo) (h2 : mo < 1000) : ∃ h', Mo_boundLaw h 94 k wo mo = some (h', wi_ (if T 14 k ≤ T 13 k then wo else (lv_ T E k).getD wo) mo) ∧ fz_ h h' (fun a => a = 119) (fun x => x = 51) := by
  have wwo : wi_ wo mo = wo := by unfold wi_; repeat' split
                                  all_goals omega
  have y := m.1 k hk hk3
  rw [Mo_boundLaw_e]
  simp only [mr35 s, ml110 s, y, lc_ge, lc_le]
  repeat rw [ck_t (by omega)]
  by_cases c : T 13 k < T 14 k
  · obtain ⟨h', e1, e2, e3⟩ := Mo_lawOf_s s m e u Eb hk hk3 c
    refine ⟨h', ?_, e3⟩
    rw [if_pos c, if_pos (by omega), e1, bd_v, e2, if_neg (c := T 14 k ≤ T 13 k) (by omega)]
    repeat rw [ck_t (by omega)]
    cases lv_ T E k with
    | none =>
      rw [if_neg (show ¬ (if (none : Option Int).isSome then (0 : Int) else 1) = 0 by decide)]
      exact so_v wwo.symm
    | some z =>
      rw [if_pos (show (if (some z : Option Int).isSome then (0 : Int) else 1) = 0 by rfl)]
      show (if 0 ≤ z then (if z ≤ mo then some (h', w32 z) else some (h', mo)) else some (h', 0) : am_O) = some (h', wi_ z mo)
      unfold wi_
      by_cases a : 0 ≤ z
      · rw [if_pos a]
        by_cases b : z ≤ mo
        · rw [if_pos b, w32_i (by omega) (by omega), if_neg (c := mo < z) (by omega), if_neg (by omega)]
        · rw [if_neg b, if_pos (c := mo < z) (by omega), if_neg (by omega)]
      · rw [if_neg a, if_neg (c := mo < z) (by omega), if_pos (by omega)]
  · rw [if_neg c, if_neg (by omega), if_pos (by omega), wwo]
    exact ⟨h, rfl, fz_refl _ _ _⟩
theorem Mo_isHeeded_s (s : ShM h) (m : ML h T) (e : NM h E) (u : TV T) (Eb : ∀ x, bnd (E x)) {nh : Int} (hn : rd_ h 94 62 = nh) (hn01 : nh = 0 ∨ nh = 1) : ∃ h', Mo_isHeeded h 94 = some (h', if nh = 0 ∧ (if T 14 2 ≤ T 13 2 then 1 else (lv_ T E 2).getD 1) = 0 then 0 else 1) ∧ fz_ h h' (fun a => a = 119) (fun x => x = 51) := by
  have y := m.1 2 (by omega) (by omega)
  rw [Mo_isHeeded_e]
  simp only [mr35 s, ml110 s, y, hn, lc_e]
  repeat rw [ck_t (by omega)]
  by_cases c0 : nh = 0
  · rw [if_neg (by omega)]
    repeat rw [ck_t (by omega)]
    by_cases c : T 13 2 < T 14 2
    · obtain ⟨h', e1, e2, e3⟩ := Mo_lawOf_s s m e u Eb (k := 2) (by omega) (by omega) c
      refine ⟨h', ?_, e3⟩
      rw [if_pos c, if_pos (by omega), e1, bd_v, e2, if_neg (c := T 14 2 ≤ T 13 2) (by omega)]
      repeat rw [ck_t (by omega)]
      cases lv_ T E 2 with
      | none =>
        rw [if_pos (show (if (none : Option Int).isSome then (0 : Int) else 1) ≠ 0 by decide)]
        rw [if_neg (by show ¬ (nh = 0 ∧ (1 : Int) = 0); omega)]
      | some z =>
        rw [if_neg (show ¬ (if (some z : Option Int).isSome then (0 : Int) else 1) ≠ 0 by simp)]
        show (if z = 0 then some (h', 0) else some (h', 1) : am_O) = some (h', if nh = 0 ∧ z = 0 then 0 else 1)
        by_cases a : z = 0
        · rw [if_pos a, if_pos ⟨c0, a⟩]
        · rw [if_neg a, if_neg (fun q => a q.2)]
    · rw [if_neg c, if_neg (by omega), if_pos (c := T 14 2 ≤ T 13 2) (by omega), if_neg (by omega)]
      exact ⟨h, rfl, fz_refl _ _ _⟩
  · rw [if_pos c0, if_neg (fun q => c0 q.1)]
    exact ⟨h, rfl, fz_refl _ _ _⟩
end
theorem Mo_lay_s {h : am_H} {b : Int} {T W : Tx} (s : ShM h) (t : MT h T) (o : MW h b T W) (v : WV T W) {m p d : Int} (h1 : 0 ≤ p) (h2 : p < T 0 1) (h3 : 0 ≤ m) (h4 : m < T 0 0) (h5 : 0 ≤ d) (h6 : d ≤ 6) : ∃ h', Mo_lay h 94 b m p d = some (h', 0) ∧ NM h' (nv_ T W m p d 0) ∧ fz_ h h' (fun a => a = 118) (fun _ => False) := by
  have v0 := v.1
  have b0 := o.1
  have sk := t.2.2.1 m h3 h4
  have ti := o.2.2.2.1 m h3 h4
  have mi : rd_ h 127 b = W 6 0 := o.2.2.2.2.2.2.2.1
  have F1 : ∀ x y, fz_ h (wr_ (wr_ h 118 0 x) 118 1 y) (fun a => a = 118) (fun _ => False) := fun x y => fz_tr (fz_wr rfl (by omega)) (fz_wr rfl (by omega))
  have F2 : ∀ x y z a c, fz_ h (wr_ (wr_ (wr_ (wr_ (wr_ h 118 0 x) 118 1 y) 118 2 z) 118 3 a) 118 4 c) (fun a => a = 118) (fun _ => False) := fun x y z a c => fz_tr (F1 x y) (fz_tr (fz_wr rfl (by omega)) (fz_tr (fz_wr rfl (by omega)) (fz_wr rfl (by omega))))
  have sm : ∀ h', fz_ h h' (fun a => a = 118) (fun _ => False) → ShM h' ∧ MT h' T ∧ MW h' b T W := fun h' f => ⟨fz_ShM f s, MT_fz t f (by intro a p q; omega) (fun _ _ _ q => q), MW_fz o f (by intro a p q; omega)⟩
  rw [Mo_lay_e]
  repeat rw [ck_t (by omega)]
  rw [w32_i (by omega) (by omega), Mo_sizeAt_s s t o v h1 h2, bd_v]
  simp only [mr49 s, ml118 s]
  repeat rw [ck_t (by omega)]
  obtain ⟨s1, t1, o1⟩ := sm _ (F1 (Zs T W p (d - 1)) d)
  rw [Mo_highOf_s s1 o1 h1 h2 v, bd_v]
  simp only [mr49 s1, ml118 s1, mr25 s1, ml100 s1, mr57 s1, ml125 s1]
  repeat rw [ck_t (by omega)]
  simp (disch := omega) only [w32_i]
  repeat rw [ck_t (by omega)]
  rw [rd_wo (by omega), rd_wo (by omega), rd_wo (by omega), sk, rd_wo (by omega), rd_wo (by omega), rd_wo (by omega), rd_wo (by omega), ti]
  obtain ⟨s2, t2, o2⟩ := sm _ (F2 (Zs T W p (d - 1)) d (W 0 p) (T 2 m) (W 2 m))
  rw [Mo_gapsOf_s s2 t2 o2 v h1 h2, bd_v]
  simp only [mr49 s2, ml118 s2, mr59 s2, ml127 s2]
  repeat rw [ck_t (by omega)]
  simp only [rd_wo (show (127 : Int) ≠ 118 by omega), mi]
  refine ⟨_, rfl, ?_, fz_tr (F2 _ _ _ _ _) (fz_tr (fz_wr rfl (by omega)) (fz_wr rfl (by omega)))⟩
  intro x p0 p1
  unfold nv_
  have c : x = 0 ∨ x = 1 ∨ x = 2 ∨ x = 3 ∨ x = 4 ∨ x = 5 ∨ x = 6 := by omega
  simp only [rd_wa]
  rcases c with c | c | c | c | c | c | c <;> subst c <;> simp
/-- by what the reference's minutes go -/
def MM (h : am_H) (M : Int → Int) : Prop := rd_ h 94 61 = M 3 ∧ rd_ h 94 62 = (if M 4 = 0 then 1 else 0) ∧ rd_ h 94 63 = (if M 4 = 1 then 1 else 0) ∧ rd_ h 94 64 = (if M 4 = 3 then 1 else 0) ∧ rd_ h 94 65 = (if M 4 = 4 then 1 else 0) ∧ rd_ h 94 66 = M 5 ∧ rd_ h 94 67 = M 6 ∧ rd_ h 94 68 = M 7
theorem MM_fz {h h' : am_H} {M : Int → Int} {A F : Int → Prop} (m : MM h M) (x : fz_ h h' A F) (n : ∀ k, 61 ≤ k → k ≤ 68 → ¬ F k) : MM h' M := by
  unfold MM at *
  rw [x.2.2 61 (n _ (by omega) (by omega)), x.2.2 62 (n _ (by omega) (by omega)), x.2.2 63 (n _ (by omega) (by omega)), x.2.2 64 (n _ (by omega) (by omega)), x.2.2 65 (n _ (by omega) (by omega)), x.2.2 66 (n _ (by omega) (by omega)), x.2.2 67 (n _ (by omega) (by omega)), x.2.2 68 (n _ (by omega) (by omega))]
  exact m
def mB (a : Int) : Prop := 118 ≤ a ∧ a ≤ 127
def mF (k : Int) : Prop := k = 51 ∨ k = 60
/-- the reference as minutes go in its half b -/
def MS (h : am_H) (b : Int) (T W : Tx) (M : Int → Int) : Prop := ShM h ∧ MT h T ∧ ML h T ∧ MW h b T W ∧ MM h M ∧ (M 3 = 1 → rd_ h 94 60 = W 6 2)
/-- what has changed by it -/
def MG (h h' : am_H) (b : Int) (M : Int → Int) : Prop := fz_ h h' mB mF ∧ hf_ h h' b ∧ (M 3 = 0 → rd_ h' 94 60 = rd_ h 94 60) ∧ ∀ x, rd_ h' 124 x = rd_ h 124 x ∨ rd_ h' 124 x = 1
theorem MG_refl (h : am_H) (b : Int) (M : Int → Int) : MG h h b M := ⟨fz_refl _ _ _, hf_refl _ _, fun _ => rfl, fun _ => Or.inl rfl⟩
theorem MG_tr {h h1 h2 : am_H} {b : Int} {M : Int → Int} (x : MG h h1 b M) (y : MG h1 h2 b M) : MG h h2 b M := ⟨fz_tr x.1 y.1, hf_tr x.2.1 y.2.1, fun q => (y.2.2.1 q).trans (x.2.2.1 q), fun k => by
  rcases y.2.2.2 k with e | e
  · rw [e]; exact x.2.2.2 k
  · exact Or.inr e⟩
theorem MG_law {h h' : am_H} {b : Int} {M : Int → Int} (x : fz_ h h' (fun a => a = 119) (fun x => x = 51)) : MG h h' b M := ⟨fz_mo x (fun a q => by unfold mB; omega) (fun k q => Or.inl q), hf_fz x (by intro a p q; omega) b, fun _ => x.2.2 60 (by omega), fun k => Or.inl (x.2.1 124 (by omega) (by omega) k)⟩
theorem MG_lay {h h' : am_H} {b : Int} {M : Int → Int} (x : fz_ h h' (fun a => a = 118) (fun _ => False)) : MG h h' b M := ⟨fz_mo x (fun a q => by unfold mB; omega) (fun k q => q.elim), hf_fz x (by intro a p q; omega) b, fun _ => x.2.2 60 (fun q => q), fun k => Or.inl (x.2.1 124 (by omega) (by omega) k)⟩
theorem MS_law {h h' : am_H} {b : Int} {T W : Tx} {M : Int → Int} (m : MS h b T W M) (x : fz_ h h' (fun a => a = 119) (fun x => x = 51)) : MS h' b T W M := by
  obtain ⟨a, c, d, e, f, g⟩ := m
  exact ⟨fz_ShM x a, MT_fz c x (by intro a p q; omega) (by intro k p q; omega), ML_fm d x (by intro a p q; omega), MW_fz e x (by intro a p q; omega), MM_fz f x (by intro k p q; omega), fun z => (x.2.2 60 (by omega)).trans (g z)⟩
theorem MS_lay {h h' : am_H} {b : Int} {T W : Tx} {M : Int → Int} (m : MS h b T W M) (x : fz_ h h' (fun a => a = 118) (fun _ => False)) : MS h' b T W M := by
  obtain ⟨a, c, d, e, f, g⟩ := m
  exact ⟨fz_ShM x a, MT_fz c x (by intro a p q; omega) (fun _ _ _ q => q), ML_fm d x (by intro a p q; omega), MW_fz e x (by intro a p q; omega), MM_fz f x (fun _ _ _ q => q), fun z => (x.2.2 60 (fun q => q)).trans (g z)⟩
/-- a step within the half b that leaves the number -/
theorem MS_half {h h' : am_H} {b : Int} {T W W' : Tx} {M : Int → Int} (m : MS h b T W M) (x : fr_ h h' (fun a => 120 ≤ a ∧ a ≤ 127)) (y : hf_ h h' b) (o : MW h' b T W') (n : W' 6 2 = W 6 2) (ch : ∀ x, rd_ h' 124 x = rd_ h 124 x ∨ rd_ h' 124 x = 1) : MS h' b T W' M ∧ MG h h' b M := by
  obtain ⟨a, c, d, e, f, g⟩ := m
  have z : fz_ h h' (fun a => 120 ≤ a ∧ a ≤ 127) (fun _ => False) := fz_fr x (fun _ q => q) (by omega)
  refine ⟨⟨fz_ShM z a, MT_fz c z (by intro a p q; omega) (fun _ _ _ q => q), ML_fm d z (by intro a p q; omega), o, MM_fz f z (fun _ _ _ q => q), fun q => by rw [z.2.2 60 (fun q => q), n]; exact g q⟩, fz_mo z (fun a q => by unfold mB; omega) (fun _ q => q.elim), y, fun _ => z.2.2 60 (fun q => q), ch⟩
section
variable {h : am_H} {b : Int} {T W : Tx}
theorem MW_id (o : MW h b T W) (z : Int) : MW (wr_ h 126 b z) b T (up_ W 6 1 z) ∧ hf_ h (wr_ h 126 b z) b := by
  obtain ⟨b0, g0, g1, g2, g3, g4, g5, g6, g7⟩ := id o
  refine ⟨⟨b0, ?_, ?_, ?_, ?_, ?_, ?_, ?_, ?_⟩, fun a x p q => rd_wo (by omega), fun a x p q => rd_wo (by omega), fun a x p q => by rw [rd_wr, if_neg (by omega)]⟩
  · intro j p q
    rw [rd_wo (by omega)]; exact g0 j p q
  · intro j p q
    rw [rd_wo (by omega)]; exact g1 j p q
  · intro j p q
    rw [rd_wo (by omega)]; exact g2 j p q
  · intro j k p q r s
    rw [rd_wo (by omega)]; exact g3 j k p q r s
  · intro j p q
    rw [rd_wo (by omega)]; exact g4 j p q
  · intro j p q
    rw [rd_wo (by omega)]; exact g5 j p q
  · rw [rd_wo (by omega), up_s, if_neg (by omega)]; exact g6
  · rw [rd_ws, up_s, if_pos rfl]
theorem MW_mi (o : MW h b T W) (z : Int) : MW (wr_ h 127 b z) b T (up_ W 6 0 z) ∧ hf_ h (wr_ h 127 b z) b := by
  obtain ⟨b0, g0, g1, g2, g3, g4, g5, g6, g7⟩ := id o
  refine ⟨⟨b0, ?_, ?_, ?_, ?_, ?_, ?_, ?_, ?_⟩, fun a x p q => rd_wo (by omega), fun a x p q => rd_wo (by omega), fun a x p q => by rw [rd_wr, if_neg (by omega)]⟩
  · intro j p q
    rw [rd_wo (by omega)]; exact g0 j p q
  · intro j p q
    rw [rd_wo (by omega)]; exact g1 j p q
  · intro j p q
    rw [rd_wo (by omega)]; exact g2 j p q
  · intro j k p q r s
    rw [rd_wo (by omega)]; exact g3 j k p q r s
  · intro j p q
    rw [rd_wo (by omega)]; exact g4 j p q
  · intro j p q
    rw [rd_wo (by omega)]; exact g5 j p q
  · rw [rd_ws, up_s, if_pos rfl]
  · rw [rd_wo (by omega), up_s, if_neg (by omega)]; exact g7
theorem MW_ti (o : MW h b T W) (v : WV T W) {m : Int} (h3 : 0 ≤ m) (h4 : m < T 0 0) (z : Int) : MW (wr_ h 125 (4 * b + m) z) b T (up_ W 2 m z) ∧ hf_ h (wr_ h 125 (4 * b + m) z) b := by
  obtain ⟨b0, g0, g1, g2, g3, g4, g5, g6, g7⟩ := id o
  have v0 := v.1
  refine ⟨⟨b0, ?_, ?_, ?_, ?_, ?_, ?_, ?_, ?_⟩, fun a x p q => rd_wo (by omega), fun a x p q => by rw [rd_wr, if_neg (by omega)], fun a x p q => rd_wo (by omega)⟩
  · intro j p q
    rw [rd_wo (by omega)]; exact g0 j p q
  · intro j p q
    rw [rd_wo (by omega)]; exact g1 j p q
  · intro j p q
    rw [rd_wa, up_s]
    by_cases e : j = m
    · rw [if_pos (by omega), if_pos e]
    · rw [if_neg (by omega), if_neg e]; exact g2 j p q
  · intro j k p q r s
    rw [rd_wo (by omega)]; exact g3 j k p q r s
  · intro j p q
    rw [rd_wo (by omega)]; exact g4 j p q
  · intro j p q
    rw [rd_wo (by omega)]; exact g5 j p q
  · rw [rd_wo (by omega)]; exact g6
  · rw [rd_wo (by omega)]; exact g7
theorem MW_ch (o : MW h b T W) (v : WV T W) {i : Int} (h3 : 0 ≤ i) (h4 : i < T 0 2) (z : Int) : MW (wr_ h 124 (20 * b + i) z) b T (up_ W 5 i z) ∧ hf_ h (wr_ h 124 (20 * b + i) z) b := by
  obtain ⟨b0, g0, g1, g2, g3, g4, g5, g6, g7⟩ := id o
  have v0 := v.1
  refine ⟨⟨b0, ?_, ?_, ?_, ?_, ?_, ?_, ?_, ?_⟩, fun a x p q => by rw [rd_wr, if_neg (by omega)], fun a x p q => rd_wo (by omega), fun a x p q => rd_wo (by omega)⟩
  · intro j p q
    rw [rd_wo (by omega)]; exact g0 j p q
  · intro j p q
    rw [rd_wo (by omega)]; exact g1 j p q
  · intro j p q
    rw [rd_wo (by omega)]; exact g2 j p q
  · intro j k p q r s
    rw [rd_wo (by omega)]; exact g3 j k p q r s
  · intro j p q
    rw [rd_wo (by omega)]; exact g4 j p q
  · intro j p q
    rw [rd_wa, up_s]
    by_cases e : j = i
    · rw [if_pos (by omega), if_pos e]
    · rw [if_neg (by omega), if_neg e]; exact g5 j p q
  · rw [rd_wo (by omega)]; exact g6
  · rw [rd_wo (by omega)]; exact g7
end
