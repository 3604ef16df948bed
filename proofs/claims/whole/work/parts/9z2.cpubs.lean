/-! what the class asks of its charts -/
def CJ (h : am_H) (T W I : Tx) (U : Int → Tx) (Q : Tx) (K S : Int) : Prop := CI h T W I U Q ∧ CH h ∧ RM h K S ∧ 144 ≤ nn_ h
theorem hi_Fs {h h' : am_H} (f : Fs_ h h') : hi_ h h' := hi_fq f.1 (fun a q => by unfold Sc at q; omega) (fun a q => by unfold ScR at q; omega)
theorem tl_0 {f : Int → Int} {k : Int} : ∀ n : Nat, (∀ i, 0 ≤ i → i < (n : Int) → f i ≠ k) → tl_ f k n = 0 := by
  intro n
  induction n with
  | zero => intro _; rfl
  | succ n ih =>
    intro e
    unfold tl_
    rw [ih (fun i p q => e i p (by omega)), if_neg (e n (by omega) (by omega))]
    rfl
theorem tl_1 {f : Int → Int} {k i : Int} (i0 : 0 ≤ i) (e : f i = k) : ∀ n : Nat, i < (n : Int) → 0 < tl_ f k n := by
  intro n
  induction n with
  | zero => intro q; omega
  | succ n ih =>
    intro q
    have b := (tl_b f k n).1
    unfold tl_
    by_cases z : i = n
    · rw [← z, if_pos e]; omega
    · have := ih (by omega)
      split <;> omega
theorem fst_s1 (w H s : Int) (n : Nat) (d : Int) : fst_ w H s (n + 1) d = if (Bu_ w H).1 (nC_ w H s d) = w32 ((Bu_ w H).1 s - 1) then d else fst_ w H s n (d + 1) := rfl
section
variable {h : am_H} {T W I : Tx} {U : Int → Tx} {Q : Tx} {K S : Int}
theorem CJ_F {h' : am_H} (g : CJ h T W I U Q K S) (f : Fs_ h h') : CJ h' T W I U Q K S := ⟨CI_F g.1 f, CH_Fc g.2.1 (Fc_S f), RM_Fc g.2.2.1 g.2.1 (Fc_S f), by rw [fq_nn f.1]; exact g.2.2.2⟩
theorem CJ_ch (g : CJ h T W I U Q K S) {w H : Int} (h0 : 0 ≤ H) (h5 : H ≤ 5) (w0 : w = 0 ∨ w = 1) : ∃ h' c, Pp_chartOf h 0 H w = some (h', c) ∧ CJ h' T W I U Q K S ∧ CHu h' (rf_ h' 0 16) ∧ CHc h' (rf_ h' 0 16) c w H ∧ rf_ h' 90 (6 * w + H) = c ∧ lb_ h h' := by
  obtain ⟨h', c, a1, a2, a3, a4, a5, a6, a7, a8⟩ := Pp_chartOf_s g.1.1 g.2.1 g.2.2.1 g.2.2.2 h0 h5 w0
  exact ⟨h', c, a1, ⟨CI_la (la_lw a8) g.1, a2, a3, a4⟩, a6, a7, a5, lb_lw a8⟩
theorem Ch_has_t {c s u w H : Int} (k : CHs h u c w H) (s0 : 0 ≤ s) (s1 : s < nN_ w H) : Ch_has h c s = some (h, 1) := by
  have k1 := k.1
  rw [Ch_has_e, if_neg (by omega), ck_t (by omega), k.2.2.1.2.2, if_neg (by omega)]
theorem Ch_leastOf_s {c s u w H : Int} (k : CHs h u c w H) (v : CHv h c w H) (s0 : 0 ≤ s) (s1 : s < nN_ w H) : Ch_leastOf h c s = some (h, (Bu_ w H).1 s) := by
  have k1 := k.1
  rw [Ch_leastOf_e, ck_t (by omega), Ch_has_t k s0 s1, bd_v, if_neg (by omega)]
  simp only [k.2.2.2.1.1, k.2.2.2.2.2.1]
  rw [ck_t (by omega), ck_t (by omega), ck_t (by omega), v.1 s s0 s1]
theorem Ch_rowsOf_s {c s u w H : Int} (k : CHs h u c w H) (v : CHv h c w H) (s0 : 0 ≤ s) (s1 : s < nN_ w H) : Ch_rowsOf h c s = some (h, (Bu_ w H).2.1 s) := by
  have k1 := k.1
  rw [Ch_rowsOf_e, ck_t (by omega), Ch_has_t k s0 s1, bd_v, if_neg (by omega)]
  simp only [k.2.2.2.1.2.1, k.2.2.2.2.2.2]
  rw [ck_t (by omega), ck_t (by omega), ck_t (by omega), v.2.1 s s0 s1]
theorem Ch_nearing_lp {c s u w H : Int} (h0 : 0 ≤ H) (h5 : H ≤ 5) (w0 : w = 0 ∨ w = 1) (uu : CHu h u) (k : CHs h u c w H) (v : CHv h c w H) (s0 : 0 ≤ s) (s1 : s < nN_ w H) : ∀ (n : Nat) (d : Int), 1 ≤ d → d + n = H + 1 → Ch_nearing_3 h c s d = some (h, fst_ w H s n d) := by
  intro n
  have k1 := k.1
  induction n with
  | zero =>
    intro d d0 hd
    rw [Ch_nearing_3_e, ck_t (by omega), k.2.2.1.1, if_pos (by omega)]
    rfl
  | succ n ih =>
    intro d d0 hd
    have nb := nC_b (w := w) h0 h5 s d s0 s1 d0 (by omega)
    rw [Ch_nearing_3_e, ck_t (by omega), k.2.2.1.1, if_neg (by omega), ck_t (by omega), ck_t (by omega), Ch_turned_s h0 h5 w0 uu k s0 s1 d0 (by omega), bd_v]
    simp only [k.2.2.2.1.1, k.2.2.2.2.2.1]
    rw [ck_t (by omega), ck_t (by omega), ck_t (by omega), ck_t (by omega), ck_t (by omega), v.1 _ nb.1 nb.2, v.1 s s0 s1, w32_i (x := d + 1) (by omega) (by omega), ih (d + 1) (by omega) (by omega)]
    rw [fst_s1]
    by_cases q : (Bu_ w H).1 (nC_ w H s d) = w32 ((Bu_ w H).1 s - 1)
    · rw [if_neg (fun z => z q), if_pos q]
    · rw [if_pos q, if_neg q]
theorem Ch_nearing_s {c s u w H : Int} (h0 : 0 ≤ H) (h5 : H ≤ 5) (w0 : w = 0 ∨ w = 1) (uu : CHu h u) (k : CHs h u c w H) (v : CHv h c w H) (s0 : 0 ≤ s) (s1 : s < nN_ w H) : Ch_nearing h c s = some (h, fst_ w H s H.toNat 1) := by
  have k1 := k.1
  rw [Ch_nearing_e, ck_t (by omega), Ch_has_t k s0 s1, bd_v, if_pos (by omega), Ch_nearing_lp h0 h5 w0 uu k v s0 s1 H.toNat 1 (by omega) (by omega)]
/-- the furthest -/
theorem fur_v {w H : Int} (h0 : 0 ≤ H) (h5 : H ≤ 5) (w0 : w = 0 ∨ w = 1) : (0 ≤ fur_ w H ∧ fur_ w H ≤ 20) ∧ 0 < hwm_ w H (fur_ w H) ∧ ∀ x, fur_ w H < x → hwm_ w H x = 0 := by
  obtain ⟨k, I, e⟩ := Bu_I h0 h5 w0
  have bm := Bu_m h0 h5 w0
  have q : ∀ i, 0 ≤ i → i < (Bu_ w H).2.2.2 → mt1_ w H i = D1_ w H ((Bu_ w H).2.2.1 i) ∧ 0 ≤ mt1_ w H i ∧ mt1_ w H i < 15 := by
    intro i i0 i1
    have z := I.2.1 i i0 i1
    have y := (G1_ h0 h5 w0).2.1 _ z.1 z.2.1
    unfold mt1_
    rw [z.2.2.1]
    exact ⟨rfl, y, z.2.2.2⟩
  have ql := q ((Bu_ w H).2.2.2 - 1) (by omega) (by omega)
  have le : ∀ i, 0 ≤ i → i < (Bu_ w H).2.2.2 → mt1_ w H i ≤ fur_ w H := by
    intro i i0 i1
    unfold fur_
    by_cases z : i = (Bu_ w H).2.2.2 - 1
    · rw [z]; exact Int.le_refl _
    · rw [(q i i0 i1).1, ql.1]
      exact (I.2.2.1 i ((Bu_ w H).2.2.2 - 1) i0 (by omega) (by omega)).2
  refine ⟨⟨ql.2.1, by unfold fur_; omega⟩, ?_, ?_⟩
  · exact tl_1 (i := (Bu_ w H).2.2.2 - 1) (by omega) rfl _ (by omega)
  · intro x hx
    exact tl_0 _ (fun i i0 i1 z => by have := le i i0 (by omega); omega)
theorem Ch_furthest_lp {c u w H : Int} (h0 : 0 ≤ H) (h5 : H ≤ 5) (w0 : w = 0 ∨ w = 1) (k : CHs h u c w H) (v : CHv h c w H) : ∀ (n : Nat) (x acc : Int), 0 ≤ x → x + n = 21 → (fur_ w H < x → acc = fur_ w H) → Ch_furthestLeast_1 h c acc x = some (h, fur_ w H) := by
  intro n
  have k1 := k.1
  obtain ⟨f1, f2, f3⟩ := fur_v h0 h5 w0
  induction n with
  | zero =>
    intro x acc x0 hx q
    rw [Ch_furthestLeast_1_e, if_pos (by omega), q (by omega)]
  | succ n ih =>
    intro x acc x0 hx q
    rw [Ch_furthestLeast_1_e, if_neg (by omega)]
    simp only [k.2.2.2.1.2.2, k.2.2.2.2.1]
    rw [ck_t (by omega), ck_t (by omega), ck_t (by omega), v.2.2 x x0 (by omega), w32_i (x := x + 1) (by omega) (by omega)]
    by_cases z : hwm_ w H x ≤ 0
    · rw [if_pos z]
      exact ih (x + 1) acc (by omega) (by omega) (fun y => q (by
        by_cases e : x = fur_ w H
        · rw [e] at z; omega
        · omega))
    · rw [if_neg z]
      exact ih (x + 1) x (by omega) (by omega) (fun y => by
        by_cases e : fur_ w H < x
        · have := f3 x e; omega
        · omega)
/-- ranks, places -/
def pl_ (R : Int → Int) (r : Int) : Nat → Int → Int
  | 0, _ => 0
  | n + 1, i => if R i = r then i else pl_ R r n (i + 1)
theorem pl_s1 (R : Int → Int) (r : Int) (n : Nat) (i : Int) : pl_ R r (n + 1) i = if R i = r then i else pl_ R r n (i + 1) := rfl
theorem pl_s {R : Int → Int} {r N : Int} : ∀ (n : Nat) (i : Int), 0 ≤ i → i + n = N → (∃ j, i ≤ j ∧ j < N ∧ R j = r) → 0 ≤ pl_ R r n i ∧ pl_ R r n i < N ∧ R (pl_ R r n i) = r := by
  intro n
  induction n with
  | zero => intro i i0 hi ⟨j, a, b, _⟩; omega
  | succ n ih =>
    intro i i0 hi ⟨j, a, b, c⟩
    unfold pl_
    by_cases q : R i = r
    · rw [if_pos q]; exact ⟨i0, by omega, q⟩
    · rw [if_neg q]
      exact ih (i + 1) (by omega) (by omega) ⟨j, by
        have : j ≠ i := fun e => q (by rw [← e]; exact c)
        omega, b, c⟩
theorem VP_on {H : Int} {R : Int → Int} (v : VP H R) {r : Int} (r0 : 0 ≤ r) (r1 : r < H) : ∃ j, 0 ≤ j ∧ j < H ∧ R j = r := by
  apply Classical.byContradiction
  intro ne
  have n : ∀ j, 0 ≤ j → j < H → R j ≠ r := fun j p q e => ne ⟨j, p, q, e⟩
  have := pg_l1 (H - 1).toNat (fun i => if r < R i then R i - 1 else R i) H.toNat (fun i p q => by
    have a := v.1 i p (by omega)
    have b := n i p (by omega)
    show 0 ≤ (if r < R i then R i - 1 else R i) ∧ (if r < R i then R i - 1 else R i) < _
    split <;> omega) (fun i j p q s => by
    have a := v.1 i p (by omega)
    have b := n i p (by omega)
    have a' := v.1 j (by omega) (by omega)
    have b' := n j (by omega) (by omega)
    have ij : R i ≠ R j := fun e => by have := v.2 i j p (by omega) (by omega) (by omega) e; omega
    show (if r < R i then R i - 1 else R i) ≠ (if r < R j then R j - 1 else R j)
    split <;> split <;> omega)
  omega
theorem Wo_rankAt_lp {b p k : Int} (o : WO h b T W) (v : WV T W) (p0 : 0 ≤ p) (p1 : p < T 0 1) : ∀ (n : Nat) (i l : Int), 0 ≤ i → i + n = W 0 p → 0 ≤ l → l + n ≤ 100 → Wo_rankAt_1 h b p k l i = some (h, l + mc_ (Zs T W p) k n i) := by
  intro n
  obtain ⟨⟨w0, s6, s7, s8, s9, s10, s11, s12, s13, l1, l2, l3, l4, l5, l6, l7, l8⟩, ⟨e0, e1, e2, e3, e4, e5⟩, f1, f2, f3, f4, f5, f6, f7⟩ := id o
  have v0 := v.1
  have hh := v.2.1 p p0 p1
  induction n with
  | zero =>
    intro i l i0 hi l0 l1
    rw [Wo_rankAt_1_e]
    simp only [s6, f1 p p0 p1]
    rw [ck_t (by omega), ck_t (by omega), ck_t (by omega), if_pos (by omega)]
    unfold mc_
    exact so_v (by omega)
  | succ n ih =>
    intro i l i0 hi l0 l1
    rw [Wo_rankAt_1_e]
    simp only [s6, f1 p p0 p1]
    rw [ck_t (by omega), ck_t (by omega), ck_t (by omega), if_neg (by omega), ck_t (by omega), Wo_sizeAt_s o v, bd_v, ck_t (by omega), Wo_sizeAt_s o v, bd_v, w32_i (x := i + 1) (by omega) (by omega)]
    unfold mc_
    by_cases q : Zs T W p k ≤ Zs T W p i
    · rw [if_pos q, if_pos q, ih (i + 1) l (by omega) (by omega) l0 (by omega)]
      exact so_v (by omega)
    · rw [if_neg q, if_neg q, w32_i (x := l + 1) (by omega) (by omega), ih (i + 1) (l + 1) (by omega) (by omega) (by omega) (by omega)]
      exact so_v (by omega)
theorem Wo_rankAt_s {b p k : Int} (o : WO h b T W) (v : WV T W) (p0 : 0 ≤ p) (p1 : p < T 0 1) : Wo_rankAt h b p k = some (h, Rk T W p k) := by
  have hh := v.2.1 p p0 p1
  rw [Wo_rankAt_e, Wo_rankAt_lp o v p0 p1 (W 0 p).toNat 0 0 (by omega) (by omega) (by omega) (by omega)]
  unfold Rk
  exact so_v (by omega)
theorem Wo_placeOfRank_lp {b p r : Int} (o : WO h b T W) (v : WV T W) (p0 : 0 ≤ p) (p1 : p < T 0 1) : ∀ (n : Nat) (i : Int), 0 ≤ i → i + n = W 0 p → Wo_placeOfRank_1 h b p r i = some (h, pl_ (Rk T W p) r n i) := by
  intro n
  obtain ⟨⟨w0, s6, s7, s8, s9, s10, s11, s12, s13, l1, l2, l3, l4, l5, l6, l7, l8⟩, ⟨e0, e1, e2, e3, e4, e5⟩, f1, f2, f3, f4, f5, f6, f7⟩ := id o
  have v0 := v.1
  have hh := v.2.1 p p0 p1
  induction n with
  | zero =>
    intro i i0 hi
    rw [Wo_placeOfRank_1_e]
    simp only [s6, f1 p p0 p1]
    rw [ck_t (by omega), ck_t (by omega), ck_t (by omega), if_pos (by omega)]
    rfl
  | succ n ih =>
    intro i i0 hi
    rw [Wo_placeOfRank_1_e]
    simp only [s6, f1 p p0 p1]
    rw [ck_t (by omega), ck_t (by omega), ck_t (by omega), if_neg (by omega), ck_t (by omega), Wo_rankAt_s o v p0 p1, bd_v, w32_i (x := i + 1) (by omega) (by omega), ih (i + 1) (by omega) (by omega), pl_s1]
    by_cases q : Rk T W p i = r
    · rw [if_neg (fun z => z q), if_pos q]
    · rw [if_pos q, if_neg q]
/-- one pile called by the places of another -/
def av1_ (T W : Tx) (p q : Int) : Int → Int := fun k => pl_ (Rk T W q) (Rk T W p k) (W 0 q).toNat 0
def af_ (T W : Tx) (p q w : Int) : Int → Int := fun k => if w = 1 then (if Fs T W p k = Fs T W q (av1_ T W p q k) then 0 else 1) else 0
def aps_ (T W : Tx) (p q w : Int) : Int := sC_ w (W 0 p) (av1_ T W p q) (af_ T W p q w)
def apt_ (T W : Tx) (p q w : Int) : Int := (Bu_ w (W 0 p)).1 (aps_ T W p q w)
theorem av1_s (v : WV T W) {p q : Int} (p0 : 0 ≤ p) (p1 : p < T 0 1) (q0 : 0 ≤ q) (q1 : q < T 0 1) (e : W 0 p = W 0 q) : (∀ k, 0 ≤ k → k < W 0 p → 0 ≤ av1_ T W p q k ∧ av1_ T W p q k < W 0 p ∧ Rk T W q (av1_ T W p q k) = Rk T W p k) ∧ VP (W 0 p) (av1_ T W p q) := by
  have hh := v.2.1 p p0 p1
  have rp := (Rk_v v p0 p1).1
  have rq := (Rk_v v q0 q1).1
  have a : ∀ k, 0 ≤ k → k < W 0 p → 0 ≤ av1_ T W p q k ∧ av1_ T W p q k < W 0 p ∧ Rk T W q (av1_ T W p q k) = Rk T W p k := by
    intro k k0 k1
    have b := rp.1 k k0 k1
    have c := VP_on rq b.1 (by omega)
    have d := pl_s (N := W 0 q) (W 0 q).toNat 0 (by omega) (by omega) c
    unfold av1_
    exact ⟨d.1, by omega, d.2.2⟩
  refine ⟨a, fun k k0 k1 => ⟨(a k k0 k1).1, (a k k0 k1).2.1⟩, fun i j i0 i1 j0 j1 z => ?_⟩
  have x := (a i i0 i1).2.2
  have y := (a j j0 j1).2.2
  rw [z] at x
  exact rp.2 i j i0 i1 j0 j1 (by rw [← x, ← y])
theorem af_b (T W : Tx) (p q w H : Int) : VB H (af_ T W p q w) := by
  intro k _ _
  unfold af_
  split
  · split
    · exact Or.inl rfl
    · exact Or.inr rfl
  · exact Or.inl rfl
theorem ap_ph (v : WV T W) {p q w : Int} (p0 : 0 ≤ p) (p1 : p < T 0 1) (q0 : 0 ≤ q) (q1 : q < T 0 1) (e : W 0 p = W 0 q) : ph_ w (W 0 p) (Rk T W q) (Fw T W q w) (aps_ T W p q w) = stM T W p w ∧ 0 ≤ aps_ T W p q w ∧ aps_ T W p q w < nN_ w (W 0 p) := by
  have hh := v.2.1 p p0 p1
  obtain ⟨a1, a2⟩ := av1_s v p0 p1 q0 q1 e
  have fb := af_b T W p q w (W 0 p)
  have sb := sC_b (w := w) (by omega) hh.2 a2 fb
  refine ⟨?_, sb.1, sb.2⟩
  unfold aps_
  rw [ph_sC (by omega) hh.2 a2 fb (fun z k _ _ => by unfold af_; rw [if_neg z])]
  unfold stM
  refine sM_e (by omega) (fun k k0 k1 => (a1 k k0 k1).2.2) (fun k k0 k1 => ?_)
  unfold gF_ Fw af_
  by_cases z : w = 1
  · have x := Fs_b v p0 p1 k k0 k1
    have y := Fs_b v q0 q1 (av1_ T W p q k) (a1 k k0 k1).1 (by have := (a1 k k0 k1).2.1; omega)
    simp only [if_pos z]
    by_cases u : Fs T W p k = Fs T W q (av1_ T W p q k)
    · rw [if_pos u]
      split <;> omega
    · rw [if_neg u]
      split <;> omega
  · rw [if_neg z, if_neg z]
end
