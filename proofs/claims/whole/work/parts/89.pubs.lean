/-! deep, ask, chance, on both sides -/
section
variable {h : am_H} {T W I : Tx} {U : Int → Tx} {Q : Tx}
theorem Pp_deep_t (g : CI h T W I U Q) (sv : SV T W I U Q) {i : Int} (h1 : 0 ≤ i) (h2 : i < T 0 3) : ∃ h', Pp_deep h 0 i = some (h', db_ T Q i) ∧ CI h' T W I U Q ∧ Fs_ h h' := by
  obtain ⟨t, cb, ct⟩ := CI_B g
  have ht := ct.1
  obtain ⟨h', a1, a2, a3⟩ := Pp_depthsLeft_s cb sv.1 sv.2.2.1 sv.2.2.2.1 h1
  refine ⟨h', ?_, CI_F g a3, a3⟩
  rw [Pp_deep_e, if_neg (by omega), ct.2.1, ct.2.2.2.1.2.1.2.1]
  repeat rw [ck_t (by omega)]
  rw [if_pos h2]
  repeat rw [ck_t (by omega)]
  rw [a1, bd_v]
theorem Pp_deep_f (g : CI h T W I U Q) {i : Int} (k : ¬ (0 ≤ i ∧ i < T 0 3)) : Pp_deep h 0 i = some (h, -1) := by
  obtain ⟨t, cb, ct⟩ := CI_B g
  have ht := ct.1
  rw [Pp_deep_e]
  by_cases c : i < 0
  · rw [if_pos c]
  · rw [if_neg c, ct.2.1, ct.2.2.2.1.2.1.2.1]
    repeat rw [ck_t (by omega)]
    rw [if_neg (by omega)]
theorem MN_D (g : MN h T W I U Q) : MD h T Q := ⟨g.1, g.2.1, g.2.2.1, g.2.2.2.2.2.2.2.2.1⟩
theorem Mo_deep_t (g0 : MN h T W I U Q) (sv : SV T W I U Q) {i : Int} (h1 : 0 ≤ i) (h2 : i < T 0 3) : ∃ h', Mo_deep h 94 i = some (h', db_ T Q i) ∧ MN h' T W I U Q ∧ Mq h h' := by
  have v := sv.2.1
  have X0 := Mq_2 h 0
  have g := MN_q g0 v X0
  obtain ⟨h', a1, a2, a3⟩ := Mo_deepBits_s (MN_D g) sv.1 sv.2.2.1 sv.2.2.2.1 h1
  have X := Mq_tr X0 (Mq_X a2)
  refine ⟨h', ?_, MN_q g0 v X, X⟩
  rw [Mo_deep_e]
  repeat rw [ck_t (by omega)]
  rw [Mo_isTurn_t g.2.1 h1 h2, bd_v, if_neg (by omega), ck_t (by omega), a1, bd_v]
theorem Mo_deep_f (g0 : MN h T W I U Q) (v : WV T W) {i : Int} (k : ¬ (0 ≤ i ∧ i < T 0 3)) : Mo_deep h 94 i = some (wr_ h 94 2 0, -1) := by
  have g := MN_q g0 v (Mq_2 h 0)
  rw [Mo_deep_e]
  repeat rw [ck_t (by omega)]
  rw [Mo_isTurn_f g.2.1 k, bd_v, if_pos rfl]
def ok_ask (T : Tx) (i n x : Int) : Prop := 0 ≤ i ∧ i < T 0 3 ∧ 1 ≤ n ∧ n ≤ 60 ∧ 0 ≤ x ∧ x ≤ 1
theorem Pp_ask_t (g : CI h T W I U Q) (sv : SV T W I U Q) {i n x : Int} (k : ok_ask T i n x) : ∃ h', Pp_ask h 0 i n x = some (h', if x = 0 then bp_ T Q i n else wa_ T Q i n (bp_ T Q i n)) ∧ CI h' T W I U Q ∧ Fs_ h h' := by
  obtain ⟨k1, k2, k3, k4, k5, k6⟩ := k
  obtain ⟨t, cb, ct⟩ := CI_B g
  have ht := ct.1
  obtain ⟨ha, a1, a2, a3⟩ := Pp_depthsLeft_s cb sv.1 sv.2.2.1 sv.2.2.2.1 k1
  obtain ⟨hb, b1, b2, b3⟩ := Pp_ask_lp sv.1 sv.2.2.1 k1 k2 k3 k4 (x := x) (by omega) 5 0 ha a2 (fun pl _ _ => trivial) (by omega)
  have F := Fs_tr a3 b3
  refine ⟨hb, ?_, CI_F g F, F⟩
  rw [Pp_ask_e, if_neg (by omega), ct.2.1, ct.2.2.2.1.2.1.2.1]
  repeat rw [ck_t (by omega)]
  rw [if_neg (by omega), if_neg (by omega), if_neg (by omega), if_neg (by omega), if_pos (by omega)]
  repeat rw [ck_t (by omega)]
  rw [a1, bd_v, ← b1]
  rfl
theorem Pp_ask_f (g : CI h T W I U Q) {i n x : Int} (k : ¬ ok_ask T i n x) : Pp_ask h 0 i n x = some (h, -1) := by
  obtain ⟨t, cb, ct⟩ := CI_B g
  have ht := ct.1
  rw [Pp_ask_e, ct.2.1, ct.2.2.2.1.2.1.2.1]
  by_cases c1 : i < 0
  · rw [if_pos c1]
  · rw [if_neg c1]
    repeat rw [ck_t (by omega)]
    by_cases c2 : T 0 3 ≤ i
    · rw [if_pos c2]
    · rw [if_neg c2]
      by_cases c3 : n < 1
      · rw [if_pos c3]
      · rw [if_neg c3]
        by_cases c4 : 60 < n
        · rw [if_pos c4]
        · rw [if_neg c4]
          by_cases c5 : x < 0
          · rw [if_pos c5]
          · rw [if_neg c5, if_neg (fun q => k ⟨by omega, by omega, by omega, by omega, by omega, q⟩)]
theorem Mo_ask_t (g0 : MN h T W I U Q) (sv : SV T W I U Q) {i n x : Int} (k : ok_ask T i n x) : ∃ h', Mo_ask h 94 i n x = some (h', if x = 0 then bp_ T Q i n else wa_ T Q i n (bp_ T Q i n)) ∧ MN h' T W I U Q ∧ Mq h h' := by
  obtain ⟨k1, k2, k3, k4, k5, k6⟩ := k
  have v := sv.2.1
  have X0 := Mq_2 h 0
  have g := MN_q g0 v X0
  obtain ⟨ha, a1, a2, a3⟩ := Mo_deepBits_s (MN_D g) sv.1 sv.2.2.1 sv.2.2.2.1 k1
  obtain ⟨hb, b1, b2, b3⟩ := Mo_ask_lp sv.1 sv.2.2.1 k1 k2 k3 k4 (x := x) (by omega) 5 0 ha (MD_X (MN_D g) a2) (by intro k pl p q; omega) (by omega) (by omega)
  have X := Mq_tr X0 (Mq_tr (Mq_X a2) (Mq_X b2))
  refine ⟨hb, ?_, MN_q g0 v X, X⟩
  rw [Mo_ask_e]
  repeat rw [ck_t (by omega)]
  rw [Mo_isTurn_t g.2.1 k1 k2, bd_v, if_neg (by omega), Mo_isIn_t k3 k4, bd_v, if_neg (by omega), Mo_isIn_t k5 k6, bd_v, if_pos (by omega), ck_t (by omega), a1, bd_v, b1]
theorem Mo_ask_f (g0 : MN h T W I U Q) (v : WV T W) {i n x : Int} (k : ¬ ok_ask T i n x) : Mo_ask h 94 i n x = some (wr_ h 94 2 0, -1) := by
  have g := MN_q g0 v (Mq_2 h 0)
  rw [Mo_ask_e]
  repeat rw [ck_t (by omega)]
  by_cases c1 : 0 ≤ i ∧ i < T 0 3
  · rw [Mo_isTurn_t g.2.1 c1.1 c1.2, bd_v, if_neg (by omega)]
    by_cases c2 : 1 ≤ n ∧ n ≤ 60
    · rw [Mo_isIn_t c2.1 c2.2, bd_v, if_neg (by omega)]
      have : ¬ (0 ≤ x ∧ x ≤ 1) := fun q => k ⟨c1.1, c1.2, c2.1, c2.2, q.1, q.2⟩
      rw [Mo_isIn_f this, bd_v, if_neg (by omega)]
    · rw [Mo_isIn_f c2, bd_v, if_pos rfl]
  · rw [Mo_isTurn_f g.2.1 c1, bd_v, if_pos rfl]
/-- chance: ten times, one number behind another -/
def dM_ : Int → Int := mk_M 1 (-1) (-1) (-1) 0
def cV_ (T W : Tx) (n s : Int) : Tx := zn_ T dM_ n.toNat (up_ W 6 2 s)
def cn_ (T W : Tx) (n c : Int) : Nat → Int → Int → Int
  | 0, t, _ => t
  | m + 1, t, s => cn_ T W n c m (if Cm T (cV_ T W n s) < c then t else t + 1) (cV_ T W n s 6 2)
theorem nu_v2 {T W : Tx} (v : WV T W) {s : Int} (h1 : 0 ≤ s) (h2 : s ≤ 2147483647) : WV T (up_ W 6 2 s) := by
  obtain ⟨v0, v1, v2, v3, v4, v5, v6, v7, v8, v9, v10, v11⟩ := id v
  refine ⟨v0, v1, v2, v3, v4, v5, v6, v7, v8, ?_, ?_, ?_⟩
  · rw [up_s]; exact v9
  · rw [up_s]; exact v10
  · rw [up_s]; exact ⟨h1, h2⟩
def ok_ch (s n c : Int) : Prop := 0 ≤ s ∧ 1 ≤ n ∧ n ≤ 99 ∧ 0 ≤ c ∧ c ≤ 20
theorem dM_V : MV dM_ := mk_V (by omega) (by omega) (by omega) (Or.inl rfl)
theorem Pp_chance_lp (sv : SV T W I U Q) {n c : Int} (hn : 1 ≤ n) (hn2 : n ≤ 99) : ∀ (m : Nat) (k t s : Int) (h : am_H), CI h T W I U Q → 0 ≤ s → s ≤ 2147483647 → 0 ≤ t → t ≤ k → k + m = 10 → ∃ h', Pp_chance_7 h 0 n c t s k = some (h', cn_ T W n c m t s) ∧ CI h' T W I U Q ∧ Fs_ h h' := by
  have u := sv.1
  have v := sv.2.1
  intro m
  induction m with
  | zero =>
    intro k t s h g s0 s1 t0 tk hm
    refine ⟨h, ?_, g, Fs_refl h⟩
    rw [Pp_chance_7_e, if_pos (by omega)]
    rfl
  | succ m ih =>
    intro k t s h g s0 s1 t0 tk hm
    obtain ⟨sc, ⟨tt, ct⟩, w, s5, -⟩ := id g
    have ht := ct.1
    obtain ⟨ha, a1, a2, a3⟩ := Wo_copy_s s5 w v (by omega)
    have Fa : Fs_ h ha := Fs_fr a3 (fun a q => by unfold Sc; omega)
    have ga := CI_F g Fa
    have ra : rf_ ha 0 5 = tt := (CT_F ct Fa).2.1
    have Fb : Fs_ ha (wr_ ha 56 5 s) := Fs_fr (fr_wr (A := fun a => a = 56) rfl) (fun a q => by unfold Sc; omega)
    have wb := WO_nu a2 s
    have gb := CI_F ga Fb
    obtain ⟨hc, c1, c2, c3⟩ := Mi_begin_s (t := tt) (w := 56) gb.1
    have Fc : Fs_ (wr_ ha 56 5 s) hc := Fs_begin c3 c2
    have wc := WO_fq wb c3 (by intro a p q; omega) (by omega)
    have gc := CI_F gb Fc
    obtain ⟨hd, d1, d2, d3⟩ := Mi_byNumbers_s c2
    have Fd : Fs_ hc hd := Fs_fr d3 (fun a q => by unfold Sc; omega)
    have gd := CI_F gc Fd
    have ctd := CT_F (CT_F (CT_F (CT_F ct Fa) Fb) Fc) Fd
    have vs := nu_v2 v s0 s1
    obtain ⟨he, e1, ge, cte, we, me, Fe⟩ := C_pass gd ctd (WO_fr wc d3 (by intro a p q; omega)) dM_V d2 u vs (n := n) (by omega) (by omega)
    have ve : WV T (cV_ T W n s) := zn_v u _ _ vs
    have we' : WO he 56 T (cV_ T W n s) := we
    have n5 : rd_ he 56 5 = cV_ T W n s 6 2 := we'.2.1.2.2.2.2.2
    have nb : 0 ≤ cV_ T W n s 6 2 ∧ cV_ T W n s 6 2 ≤ 2147483647 := ve.2.2.2.2.2.2.2.2.2.2.2
    obtain ⟨h', i1, i2, i3⟩ := ih (k + 1) (if Cm T (cV_ T W n s) < c then t else t + 1) (cV_ T W n s 6 2) he ge nb.1 nb.2 (by split <;> omega) (by split <;> omega) (by omega)
    refine ⟨h', ?_, i2, Fs_tr Fa (Fs_tr Fb (Fs_tr Fc (Fs_tr Fd (Fs_tr Fe i3))))⟩
    rw [Pp_chance_7_e, if_neg (by omega)]
    simp only [cr0_8 sc, cr0_7 sc]
    repeat rw [ck_t (by omega)]
    rw [a1, bd_v]
    simp only [cr0_8 ga.1, cr0_12 ga.1, ra]
    repeat rw [ck_t (by omega)]
    rw [c1, bd_v]
    simp only [cr0_12 gc.1]
    repeat rw [ck_t (by omega)]
    rw [d1, bd_v]
    simp only [cr0_12 gd.1]
    repeat rw [ck_t (by omega)]
    rw [e1, bd_v]
    simp only [cr0_8 ge.1]
    repeat rw [ck_t (by omega)]
    rw [Wo_chippedPlates_s we' ve, bd_v, n5, w32_i (x := k + 1) (by omega) (by omega), w32_i (x := t + 1) (by omega) (by omega)]
    have e : cn_ T W n c (m + 1) t s = cn_ T W n c m (if Cm T (cV_ T W n s) < c then t else t + 1) (cV_ T W n s 6 2) := rfl
    rw [e, ← i1]
    split <;> rfl
theorem Pp_chance_t (g : CI h T W I U Q) (sv : SV T W I U Q) {s n c : Int} (k : ok_ch s n c) (s1 : s ≤ 2147483647) : ∃ h', Pp_chance h 0 s n c = some (h', cn_ T W n c 10 0 s) ∧ CI h' T W I U Q ∧ Fs_ h h' := by
  obtain ⟨k1, k2, k3, k4, k5⟩ := k
  obtain ⟨h', a1, a2, a3⟩ := Pp_chance_lp sv (c := c) k2 k3 10 0 0 s h g k1 s1 (by omega) (by omega) (by omega)
  refine ⟨h', ?_, a2, a3⟩
  rw [Pp_chance_e, if_neg (by omega), if_neg (by omega), if_neg (by omega), if_neg (by omega), if_pos k5, a1]
theorem Pp_chance_f {s n c : Int} (k : ¬ ok_ch s n c) : Pp_chance h 0 s n c = some (h, -1) := by
  rw [Pp_chance_e]
  by_cases c1 : s < 0
  · rw [if_pos c1]
  · rw [if_neg c1]
    by_cases c2 : n < 1
    · rw [if_pos c2]
    · rw [if_neg c2]
      by_cases c3 : 99 < n
      · rw [if_pos c3]
      · rw [if_neg c3]
        by_cases c4 : c < 0
        · rw [if_pos c4]
        · rw [if_neg c4, if_neg (fun q => k ⟨by omega, by omega, by omega, by omega, q⟩)]
end
