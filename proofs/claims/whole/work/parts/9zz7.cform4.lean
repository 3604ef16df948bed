/-! a formula in the class, all of it -/
def fsS_ (T : Tx) : fS_ := ([], 0, T 0 4, T 12, T 0 4, 1, 1)
theorem fsS_V {T : Tx} (z : 0 ≤ T 0 4) (z1 : T 0 4 ≤ 64) : FVs (T 0 4) (fsS_ T) := by
  refine ⟨⟨z, Int.le_refl _⟩, z1, ?_, rfl, ?_, Or.inr rfl, Or.inr rfl, trivial, ?_⟩
  · show T 0 4 + 0 = T 0 4
    omega
  · show (0 : Int) ≤ 8
    omega
  · show lkq (T 12) (T 0 4 - T 0 4).toNat (T 0 4) 0 ((1 : Int) + 0 - 1).toNat
    rw [show (T 0 4 - T 0 4).toNat = 0 by omega]
    rfl
theorem FVs_ft {F k v : Int} {S : fS_} (g : FVs F S) (kv : k = 2 → 0 ≤ v) (z : (fmt_ k v S).1 = 0) : FVs F (fmt_ k v S).2 := by
  obtain ⟨ws, op, tk, K, o, wp, mn⟩ := S
  have g' : FV F ws op tk K o wp mn := g
  unfold fmt_ at *
  rcases g'.2.2.2.2.2.1 with q | q
  · subst q
    rw [if_pos (c := (0 : Int) = 0) rfl] at z ⊢
    exact FV_joint g' z
  · subst q
    rw [if_neg (c := (1 : Int) = 0) (by omega)] at z ⊢
    exact FV_part g' kv z
theorem fmt_K {F k v : Int} {S : fS_} (g : FVs F S) (z : (fmt_ k v S).1 = 0) : ∀ j, j < F → (fmt_ k v S).2.2.2.2.1 j = S.2.2.2.1 j := by
  obtain ⟨ws, op, tk, K, o, wp, mn⟩ := S
  have g' : FV F ws op tk K o wp mn := g
  intro j hj
  have o1 := g'.1
  unfold fmt_ at *
  rcases g'.2.2.2.2.2.1 with q | q
  · subst q
    rw [if_pos (c := (0 : Int) = 0) rfl] at z ⊢
    obtain ⟨_, _, _, _, _, _, _, a8, a9⟩ := g'
    rw [show 1 + bj_ ws - 0 = 1 + bj_ ws by omega] at a9
    show (tjt_ k ws op tk K o mn).2.2.2.2.1 j = K j
    have z' : (tjt_ k ws op tk K o mn).1 = 0 := z
    unfold tjt_ at *
    by_cases q1 : k = 41 ∧ 0 < op
    · rw [if_pos q1]
      exact (pd_v (m := 1) (by omega) ws K o o1.1 o1.2 a8 a9).2.2.2.2.2.1 j (by omega)
    · rw [if_neg q1] at z' ⊢
      by_cases q2 : fsr_ k = 0 ∨ k = 22
      · rw [if_pos q2]
      · rw [if_neg q2] at z' ⊢
        repeat' split
        all_goals first
          | rfl
          | exact (pd_v (m := lst_ k) (lst_1 (by omega)) ws K o o1.1 o1.2 a8 a9).2.2.2.2.2.1 j (by omega)
  · subst q
    rw [if_neg (c := (1 : Int) = 0) (by omega)]
    show (tpt_ k v ws op tk K o mn).2.2.2.2.1 j = K j
    unfold tpt_
    repeat' split
    all_goals first
      | rfl
      | (show ku_ K o _ j = K j
         unfold ku_
         rw [if_neg (by omega)])
theorem fmt_0 (v : Int) (S : fS_) : (fmt_ 0 v S).1 = 1 := by
  unfold fmt_ tjt_ tpt_
  by_cases q : S.2.2.2.2.2.1 = 0
  · rw [if_pos q, if_neg (by omega), if_pos (Or.inl (by decide))]
  · rw [if_neg q, if_neg (by omega), if_neg (by omega), if_neg (by omega)]
theorem fml_v {B : Int → Int} {n F : Int} : ∀ (f : Nat) (p : Int) (S : fS_), FVs F S → (fml_ B n f p S).1 = 0 → (F ≤ (fml_ B n f p S).2.2.2.2 ∧ (fml_ B n f p S).2.2.2.2 ≤ 64) ∧ lkq (fml_ B n f p S).2.2.2.1 ((fml_ B n f p S).2.2.2.2 - F).toNat F 0 1 ∧ ∀ j, j < F → (fml_ B n f p S).2.2.2.1 j = S.2.2.2.1 j := by
  intro f
  induction f with
  | zero => intro p S _ z; exact absurd (show (1 : Int) = 0 from z) (by omega)
  | succ f ih =>
    intro p S g z
    rw [fml_s] at z ⊢
    by_cases q : S.2.2.2.2.2.1 = 0 ∧ S.2.1 = 0 ∧ tk_k B n p = 42
    · rw [if_pos q]
      obtain ⟨ws, op, tk, K, o, wp, mn⟩ := S
      obtain ⟨a1, a2, a3, a4, a5, a6, a7, a8, a9⟩ := g
      have q1 : wp = 0 := q.1
      have q2 : op = 0 := q.2.1
      have a2' : tk ≤ 64 := a2
      have a3' : o + nb_ ws = tk := a3
      have a4' : op = bkt_ ws := a4
      have a9' : lkq K (o - F).toNat F 0 (1 + bj_ ws).toNat := by
        have y : lkq K (o - F).toNat F 0 (1 + bj_ ws - wp).toNat := a9
        rw [q1, show 1 + bj_ ws - 0 = 1 + bj_ ws by omega] at y
        exact y
      obtain ⟨b1, b2, b3, b4, b5, b6, b7⟩ := pd_v (m := 1) (by omega) ws K o a1.1 a1.2 a8 a9'
      have e : (pd_ 1 ws K o).1 = [] := by
        rcases pd_1 a1.1 a1.2 a8 a9' with ⟨y, _⟩ | ⟨r, y⟩
        · exact y
        · rw [y, bkt_c, if_pos rfl] at b3
          have := ct_v r
          omega
      rw [e] at b2 b5
      have b2' : (pd_ 1 ws K o).2.2 + 0 = o + nb_ ws := b2
      have Fo : F ≤ o := a1.2
      exact ⟨⟨by show F ≤ (pd_ 1 ws K o).2.2; omega, by show (pd_ 1 ws K o).2.2 ≤ 64; omega⟩, b5, fun j hj => b6 j (by omega)⟩
    · rw [if_neg q] at z ⊢
      by_cases q2 : (fmt_ (tk_k B n p) (tk_v B n p) S).1 = 0
      · rw [if_neg (fun y => y q2)] at z ⊢
        obtain ⟨c1, c2, c3⟩ := ih _ _ (FVs_ft g (fun y => (tk_v2 y).1) q2) z
        exact ⟨c1, c2, fun j hj => by rw [c3 j hj]; exact fmt_K g q2 j hj⟩
      · rw [if_pos q2] at z
        exact absurd z q2
section
variable {B : Int → Int} {n t c s : Int} {T : Tx}
def F6 (t a : Int) : Prop := a = 3 ∨ a = 5 ∨ a = 6 ∨ (t ≤ a ∧ a ≤ t + 19)
theorem FC_3 {h h' : am_H} {S : fS_} (f : FCs h t T c s S) (fr : fr_ h h' (fun a => a = 3)) : FCs h' t T c s S := by
  obtain ⟨r, a, ⟨b3, b4, b5, b6, b7, b8⟩, d, e⟩ := f
  have tb : 7 ≤ t ∧ t ≤ 27 := by have := r.1; omega
  exact ⟨RT_fr r fr (fun x p q => by omega), by rw [fr_rf fr, fr_rf fr]; exact a, by rw [fr.2 5 (by omega), fr.2 5 (by omega), fr.2 5 (by omega), fr.2 5 (by omega), fr.2 5 (by omega), fr.2 5 (by omega)]; exact ⟨b3, b4, b5, b6, b7, b8⟩, wl_cg d (fun j _ _ => fr.2 6 (by omega) j), fun j x y => by rw [fr.2 (t + 17) (by omega)]; exact e j x y⟩
theorem FCs_sh {h : am_H} {S : fS_} (f : FCs h t T c s S) : rd_ h 5 7 = S.2.2.2.2.2.1 ∧ rd_ h 5 4 = S.2.1 ∧ rf_ h 5 1 = 3 ∧ rf_ h 5 2 = t ∧ rd_ h 5 6 = S.2.2.2.2.1 := by
  obtain ⟨r, a, ⟨b3, b4, b5, b6, b7, b8⟩, d, e⟩ := f
  exact ⟨b7, b4, a.1, a.2, b6⟩
def fmE_ (t : Int) (T : Tx) (c s : Int) (B : Int → Int) (n : Int) (h h' : am_H) (R : Int × Int × Int × (Int → Int) × Int) : Prop := (R.1 ≠ 0 → rd_ h' 3 5 = R.2.1) ∧ (R.1 = 0 → TKh h' B n R.2.2.1 ∧ ∃ h3, h' = wr_ h3 t 3 R.2.2.2.2 ∧ RT h3 t T c s ∧ ∀ j, T 0 4 ≤ j → j < R.2.2.2.2 → rd_ h3 (t + 17) j = R.2.2.2.1 j) ∧ fr_ h h' (F6 t)
theorem Fo_read_lp (z : 0 ≤ T 0 4) : ∀ (f : Nat) (p i : Int) (h : am_H) (S : fS_), FCs h t T c s S → FVs (T 0 4) S → TKh h B n p → n - p < f → i + f = 701 → 0 ≤ i → ∃ h', Fo_read_1 h 5 i = some (h', (fml_ B n f p S).1) ∧ fmE_ t T c s B n h h' (fml_ B n f p S) := by
  intro f
  induction f with
  | zero =>
    intro p i h S _ _ k pf
    have := k.2.2.1
    omega
  | succ f ih =>
    intro p i h S F V k pf fi i0
    have tb : 7 ≤ t ∧ t ≤ 27 := by have := F.1.1; omega
    have kp := k.2.2.1
    have nv := tk_nv (B := B) (n := n) (p := p) (by omega)
    have tpv := tp_v (B := B) (n := n) (p := p) (by omega)
    obtain ⟨h1, a1, a2, a3, a4⟩ := Re_step F.1 k
    have F1 := FC_3 F a4
    have S0 := FCs_sh F
    have S1 := FCs_sh F1
    have f5 : ∀ {g g' : am_H}, fr_ g g' (F5 t) → fr_ g g' (F6 t) := fun y => fr_mo y (fun a q => by unfold F5 at q; unfold F6; omega)
    have f3 : fr_ h h1 (F6 t) := fr_mo a4 (fun a q => Or.inl q)
    have k5 : ∀ {g' : am_H} {p' : Int}, TKh h1 B n p' → fr_ h1 g' (F5 t) → TKh g' B n p' := fun y x => TK_fr y x (by unfold F5; omega) (by unfold F5; omega) (by unfold F5; omega)
    have e3 := a3.2.2.1
    rw [fml_s, Fo_read_1_e, if_neg (by omega)]
    simp only [S0.2.2.1]
    rw [ck_t (by omega), ck_t (by omega), a1, bd_v]
    simp only [S1.1, S1.2.1, S1.2.2.1, a3.2.1]
    have six : ¬ (S.2.2.2.2.2.1 = 0 ∧ S.2.1 = 0 ∧ tk_k B n p = 42) → ∃ h', Fo_read_6 h1 5 i = some (h', (if S.2.2.2.2.2.1 = 0 ∧ S.2.1 = 0 ∧ tk_k B n p = 42 then ((0, 0, tk_n B n p, (pd_ 1 S.1 S.2.2.2.1 S.2.2.2.2.1).2.1, (pd_ 1 S.1 S.2.2.2.1 S.2.2.2.2.1).2.2) : Int × Int × Int × (Int → Int) × Int) else if (fmt_ (tk_k B n p) (tk_v B n p) S).1 ≠ 0 then ((fmt_ (tk_k B n p) (tk_v B n p) S).1, tp_ B n p, 0, S.2.2.2.1, S.2.2.2.2.1) else fml_ B n f (tk_n B n p) (fmt_ (tk_k B n p) (tk_v B n p) S).2).1) ∧ fmE_ t T c s B n h h' (if S.2.2.2.2.2.1 = 0 ∧ S.2.1 = 0 ∧ tk_k B n p = 42 then ((0, 0, tk_n B n p, (pd_ 1 S.1 S.2.2.2.1 S.2.2.2.2.1).2.1, (pd_ 1 S.1 S.2.2.2.1 S.2.2.2.2.1).2.2) : Int × Int × Int × (Int → Int) × Int) else if (fmt_ (tk_k B n p) (tk_v B n p) S).1 ≠ 0 then ((fmt_ (tk_k B n p) (tk_v B n p) S).1, tp_ B n p, 0, S.2.2.2.1, S.2.2.2.2.1) else fml_ B n f (tk_n B n p) (fmt_ (tk_k B n p) (tk_v B n p) S).2) := by
      intro nq
      rw [if_neg nq]
      have go : ∀ h2, fr_ h1 h2 (F5 t) → (fmt_ (tk_k B n p) (tk_v B n p) S).1 = 0 → tk_k B n p ≠ 0 → FCs h2 t T c s (fmt_ (tk_k B n p) (tk_v B n p) S).2 → ∃ h', Fo_read_1 h2 5 (i + 1) = some (h', (if (fmt_ (tk_k B n p) (tk_v B n p) S).1 ≠ 0 then (((fmt_ (tk_k B n p) (tk_v B n p) S).1, tp_ B n p, 0, S.2.2.2.1, S.2.2.2.2.1) : Int × Int × Int × (Int → Int) × Int) else fml_ B n f (tk_n B n p) (fmt_ (tk_k B n p) (tk_v B n p) S).2).1) ∧ fmE_ t T c s B n h h' (if (fmt_ (tk_k B n p) (tk_v B n p) S).1 ≠ 0 then (((fmt_ (tk_k B n p) (tk_v B n p) S).1, tp_ B n p, 0, S.2.2.2.1, S.2.2.2.2.1) : Int × Int × Int × (Int → Int) × Int) else fml_ B n f (tk_n B n p) (fmt_ (tk_k B n p) (tk_v B n p) S).2) := by
        intro h2 fr2 e0 kn F2
        rw [if_neg (fun y => y e0)]
        have nk := nv.2.2 kn
        obtain ⟨h', b1, b2, b4, b5⟩ := ih (tk_n B n p) (i + 1) h2 _ F2 (FVs_ft V (fun y => (tk_v2 y).1) e0) (k5 a3.1 fr2) (by omega) (by omega) (by omega)
        exact ⟨h', b1, b2, b4, fr_tr f3 (fr_tr (f5 fr2) b5)⟩
      have bad : ∀ h2, fr_ h1 h2 (F5 t) → (fmt_ (tk_k B n p) (tk_v B n p) S).1 ≠ 0 → ∃ h', (some (h2, (fmt_ (tk_k B n p) (tk_v B n p) S).1) : am_O) = some (h', (if (fmt_ (tk_k B n p) (tk_v B n p) S).1 ≠ 0 then (((fmt_ (tk_k B n p) (tk_v B n p) S).1, tp_ B n p, 0, S.2.2.2.1, S.2.2.2.2.1) : Int × Int × Int × (Int → Int) × Int) else fml_ B n f (tk_n B n p) (fmt_ (tk_k B n p) (tk_v B n p) S).2).1) ∧ fmE_ t T c s B n h h' (if (fmt_ (tk_k B n p) (tk_v B n p) S).1 ≠ 0 then (((fmt_ (tk_k B n p) (tk_v B n p) S).1, tp_ B n p, 0, S.2.2.2.1, S.2.2.2.2.1) : Int × Int × Int × (Int → Int) × Int) else fml_ B n f (tk_n B n p) (fmt_ (tk_k B n p) (tk_v B n p) S).2) := by
        intro h2 fr2 e0
        rw [if_pos e0]
        exact ⟨h2, rfl, fun _ => by rw [fr2.2 3 (by unfold F5; omega)]; exact e3, fun y => absurd y e0, fr_tr f3 (f5 fr2)⟩
      have kn : (fmt_ (tk_k B n p) (tk_v B n p) S).1 = 0 → tk_k B n p ≠ 0 := fun e0 y => by rw [y, fmt_0] at e0; omega
      have V5 := V.2.2.2.2.2.1
      rw [Fo_read_6_e, S1.1, w32_i (x := i + 1) (by omega) (by omega), ck_t (by omega)]
      by_cases q : S.2.2.2.2.2.1 = 0
      · have fJ : FC h1 t T c s S.1 S.2.1 S.2.2.1 S.2.2.2.1 S.2.2.2.2.1 0 S.2.2.2.2.2.2 := by
          have y := F1
          unfold FCs at y
          rw [q] at y
          exact y
        have gJ : FV (T 0 4) S.1 S.2.1 S.2.2.1 S.2.2.2.1 S.2.2.2.2.1 0 S.2.2.2.2.2.2 := by
          have y := V
          unfold FVs at y
          rw [q] at y
          exact y
        have efm : fmt_ (tk_k B n p) (tk_v B n p) S = tjt_ (tk_k B n p) S.1 S.2.1 S.2.2.1 S.2.2.2.1 S.2.2.2.2.1 S.2.2.2.2.2.2 := by unfold fmt_; rw [if_pos q]
        obtain ⟨h2, b1, b2, b3⟩ := Fo_takeJoint_s fJ gJ a3.2.1
        rw [← efm] at b1 b2
        rw [if_pos q, ck_t (by omega), b1, bd_v]
        by_cases e0 : (fmt_ (tk_k B n p) (tk_v B n p) S).1 = 0
        · rw [if_pos (c := (fmt_ (tk_k B n p) (tk_v B n p) S).1 = 0) e0]
          exact go h2 b3 e0 (kn e0) (b2 e0)
        · rw [if_neg (c := (fmt_ (tk_k B n p) (tk_v B n p) S).1 = 0) e0]
          exact bad h2 b3 e0
      · have q1 : S.2.2.2.2.2.1 = 1 := by omega
        have fJ : FC h1 t T c s S.1 S.2.1 S.2.2.1 S.2.2.2.1 S.2.2.2.2.1 1 S.2.2.2.2.2.2 := by
          have y := F1
          unfold FCs at y
          rw [q1] at y
          exact y
        have gJ : FV (T 0 4) S.1 S.2.1 S.2.2.1 S.2.2.2.1 S.2.2.2.2.1 1 S.2.2.2.2.2.2 := by
          have y := V
          unfold FVs at y
          rw [q1] at y
          exact y
        have efm : fmt_ (tk_k B n p) (tk_v B n p) S = tpt_ (tk_k B n p) (tk_v B n p) S.1 S.2.1 S.2.2.1 S.2.2.2.1 S.2.2.2.2.1 S.2.2.2.2.2.2 := by unfold fmt_; rw [if_neg q]
        obtain ⟨h2, b1, b2, b3⟩ := Fo_takePart_s fJ gJ a3.2.1 a3.2.2.2 (fun y => (tk_v2 y).1)
        rw [← efm] at b1 b2
        rw [if_neg q, ck_t (by omega), b1, bd_v]
        by_cases e0 : (fmt_ (tk_k B n p) (tk_v B n p) S).1 = 0
        · rw [if_pos (c := (fmt_ (tk_k B n p) (tk_v B n p) S).1 = 0) e0]
          exact go h2 b3 e0 (kn e0) (b2 e0)
        · rw [if_neg (c := (fmt_ (tk_k B n p) (tk_v B n p) S).1 = 0) e0]
          exact bad h2 b3 e0
    rw [ck_t (by omega)]
    by_cases q1 : S.2.2.2.2.2.1 = 0
    · rw [if_neg (c := S.2.2.2.2.2.1 ≠ 0) (fun y => y q1), ck_t (by omega)]
      by_cases q2 : S.2.1 = 0
      · rw [if_neg (c := S.2.1 ≠ 0) (fun y => y q2), ck_t (by omega), ck_t (by omega)]
        by_cases q3 : tk_k B n p = 42
        · rw [if_neg (c := tk_k B n p ≠ 42) (fun y => y q3), ck_t (by omega), if_pos (c := S.2.2.2.2.2.1 = 0 ∧ S.2.1 = 0 ∧ tk_k B n p = 42) ⟨q1, q2, q3⟩]
          have V1 := V.1
          have V2 := V.2.1
          have V3 := V.2.2.1
          have V4 := V.2.2.2.1
          have V5 := V.2.2.2.2.1
          have cv := ct_v S.1
          obtain ⟨h2, b1, b2, b3⟩ := Fo_putDown_s (m := 1) (by omega) z S.1 h1 S.2.2.2.1 S.2.2.2.2.1 F1 V1.2 (by omega) (by omega)
          have S2 := fun (_ : Unit) => FC_sh b2
          rw [b1, bd_v, (S2 ()).2.2.1.2, (S2 ()).2.2.2.2.2.2.2.1]
          repeat rw [ck_t (by omega)]
          refine ⟨_, rfl, fun y => absurd rfl y, fun _ => ⟨?_, h2, rfl, b2.1, b2.2.2.2.2⟩, fr_tr f3 (fr_tr (f5 b3) (fr_wr (Or.inr (Or.inr (Or.inr ⟨by omega, by omega⟩)))))⟩
          exact TK_fr (k5 a3.1 b3) (fr_wr (A := fun a => a = t) rfl) (by omega) (by omega) (by omega)
        · rw [if_pos (c := tk_k B n p ≠ 42) q3]
          exact six (fun y => q3 y.2.2)
      · rw [if_pos (c := S.2.1 ≠ 0) q2]
        exact six (fun y => q2 y.2.1)
    · rw [if_pos (c := S.2.2.2.2.2.1 ≠ 0) q1]
      exact six (fun y => q1 y.1)
end
