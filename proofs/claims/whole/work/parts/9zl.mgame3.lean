/-! the game in the reference: what is answered; both agree -/
section
variable {w H : Int} {f : Int → Int}
theorem Mo_lw_1 : ∀ (n : Nat) (k : Int) (h : am_H), ShM h → 0 ≤ k → k + n = 23040 → RW h 133 k (fun _ => 0) → ∃ h', Mo_layWorth_1 h 94 H w k = Mo_layWorth_4 h' 94 H w 0 ∧ RW h' 133 23040 (fun _ => 0) ∧ fr_ h h' (fun a => a = 133) := by
  intro n
  induction n with
  | zero =>
    intro k h S k0 hk b
    have e : k = 23040 := by omega
    subst e
    exact ⟨h, by rw [Mo_layWorth_1_e, if_pos (by omega)], b, fr_refl _ _⟩
  | succ n ih =>
    intro k h S k0 hk b
    obtain ⟨h1, y1, y2, y3⟩ := ih (k + 1) (wr_ h 133 k 0) (ShM_of rfl S) (by omega) (by omega) (RW_gr b rfl)
    refine ⟨h1, ?_, y2, fr_tr (fr_wr rfl) y3⟩
    rw [Mo_layWorth_1_e, if_neg (by omega)]
    simp only [mr76 S, ml133 S]
    rw [ck_t (by omega), ck_t (by omega), ck_t (by omega), w32_i (x := k + 1) (by omega) (by omega), y1]
def fzT (h h' : am_H) : Prop := fz_ h h' (fun a => a = 128 ∨ a = 132) (fun k => k = 70)
def thI (h : am_H) (w H : Int) (f : Int → Int) (i D : Int) : Prop := ∀ j d, 0 ≤ j → (j < i ∨ (j = i ∧ d < D)) → j < mB_ w H → 1 ≤ d → d ≤ H → rd_ h 132 (5 * f (qB w H j) + d - 1) = f (nC_ w H (qB w H j) d)
def mtI (h : am_H) (w H : Int) (f : Int → Int) : Prop := ShM h ∧ rd_ h 94 74 = mB_ w H ∧ ∀ i, 0 ≤ i → i < mB_ w H → rd_ h 131 i = f (qB w H i)
theorem mtI_T {h h' : am_H} (l : mtI h w H f) (z : fzT h h') : mtI h' w H f := ⟨ShM_of z.1 l.1, by rw [z.2.2 74 (by omega)]; exact l.2.1, fun i a b => by rw [z.2.1 131 (by omega) (by omega)]; exact l.2.2 i a b⟩
theorem Mo_lw_6 (h0 : 0 ≤ H) (h5 : H ≤ 5) (w0 : w = 0 ∨ w = 1) (fi : fI_ f (nN_ w H)) (fb : ∀ s, 0 ≤ s → s < nN_ w H → 0 ≤ f s ∧ f s < 3840) (nf : nF_ (nC_ w H) (nM_ w H) f (nN_ w H) H) {i : Int} (i0 : 0 ≤ i) (i1 : i < mB_ w H) : ∀ (n : Nat) (d : Int) (h : am_H), 1 ≤ d → d + n = H + 1 → mtI h w H f → thI h w H f i d → ∃ h', Mo_layWorth_6 h 94 H w i d = Mo_layWorth_4 h' 94 H w (i + 1) ∧ mtI h' w H f ∧ thI h' w H f (i + 1) 1 ∧ fzT h h' := by
  intro n
  obtain ⟨q1, q2, q3, q4, -⟩ := qB_v h0 h5 w0
  have nv := nN_v (w := w) h0 h5
  have qi := q3 i i0 i1
  induction n with
  | zero =>
    intro d h d0 hd l th
    refine ⟨h, ?_, l, fun j e a b c e0 e1 => th j e a (by omega) c e0 e1, fz_refl _ _ _⟩
    rw [Mo_layWorth_6_e, if_pos (by omega), w32_i (x := i + 1) (by omega) (by omega)]
  | succ n ih =>
    intro d h d0 hd l th
    have fq := fb _ qi.1 qi.2
    have S := l.1
    obtain ⟨h1, x1, x2⟩ := Mo_turnedCode_s (h := h) (H := H) (c := f (qB w H i)) (d := d) (w := w) S h0 h5 (by omega) (by omega)
    rw [nf _ d qi.1 qi.2 d0 (by omega)] at x1
    have S1 := ShM_of x2.1 S
    have Z1 : fzT h h1 := fz_mo x2 (fun a q => Or.inl q) (fun k q => q)
    have Z2 : fzT h (wr_ h1 132 (5 * f (qB w H i) + d - 1) (f (nC_ w H (qB w H i) d))) := fz_tr Z1 (fz_wr (Or.inr rfl) (by omega))
    obtain ⟨h2, y1, y2, y3, y4⟩ := ih (d + 1) (wr_ h1 132 (5 * f (qB w H i) + d - 1) (f (nC_ w H (qB w H i) d))) (by omega) (by omega) (mtI_T l Z2) (by
      intro j e a b c e0 e1
      rw [rd_wa]
      by_cases q : j = i ∧ e = d
      · rw [q.1, q.2, if_pos rfl]
      · have qj := q3 j a c
        have fj := fb _ qj.1 qj.2
        have ne : 5 * f (qB w H j) + e - 1 ≠ 5 * f (qB w H i) + d - 1 := fun z => q (by
          have ef : f (qB w H j) = f (qB w H i) := by omega
          have eq := fi _ _ qj.1 qj.2 qi.1 qi.2 ef
          have ji : j = i := by
            rcases Int.lt_trichotomy j i with r | r | r
            · exact absurd eq (q4 j i a r i1)
            · exact r
            · exact absurd eq.symm (q4 i j i0 r c)
          exact ⟨ji, by omega⟩)
        rw [if_neg ne, x2.2.1 132 (by omega) (by omega)]
        exact th j e a (by omega) c e0 e1)
    refine ⟨h2, ?_, y2, y3, fz_tr Z2 y4⟩
    rw [Mo_layWorth_6_e, if_neg (by omega)]
    simp only [mr73 S, ml131 S, mr75 S, l.2.2 i i0 i1]
    rw [ck_t (by omega), ck_t (by omega), ck_t (by omega), ck_t (by omega), ck_t (by omega), ck_t (by omega), ck_t (by omega), ck_t (by omega), x1, bd_v]
    simp only [ml132 S1]
    rw [w32_i (x := 5 * f (qB w H i)) (by omega) (by omega), w32_i (x := 5 * f (qB w H i) + d) (by omega) (by omega), w32_i (x := 5 * f (qB w H i) + d - 1) (by omega) (by omega), w32_i (x := d + 1) (by omega) (by omega), ck_t (by omega), ck_t (by omega), y1]
theorem Mo_lw_4 (h0 : 0 ≤ H) (h5 : H ≤ 5) (w0 : w = 0 ∨ w = 1) (fi : fI_ f (nN_ w H)) (fb : ∀ s, 0 ≤ s → s < nN_ w H → 0 ≤ f s ∧ f s < 3840) (nf : nF_ (nC_ w H) (nM_ w H) f (nN_ w H) H) : ∀ (n : Nat) (i : Int) (h : am_H), 0 ≤ i → i + n = mB_ w H → mtI h w H f → thI h w H f i 1 → ∃ h', Mo_layWorth_4 h 94 H w i = Mo_layWorth_10 h' 94 H w 1 ∧ LW h' w H f ∧ fzT h h' := by
  intro n
  obtain ⟨q1, q2, q3, q4, q5⟩ := qB_v h0 h5 w0
  induction n with
  | zero =>
    intro i h i0 hi l th
    refine ⟨h, ?_, ⟨l.1, fun s d a b c e => ?_, l.2.1, l.2.2⟩, fz_refl _ _ _⟩
    · rw [Mo_layWorth_4_e, ck_t (by omega), l.2.1, if_pos (by omega)]
    · obtain ⟨j, j0, j1, j2⟩ := q5 s a b
      have := th j d j0 (Or.inl (by omega)) j1 c e
      rw [j2] at this
      exact this
  | succ n ih =>
    intro i h i0 hi l th
    obtain ⟨h1, y1, y2, y3, y4⟩ := Mo_lw_6 h0 h5 w0 fi fb nf i0 (by omega) H.toNat 1 h (by omega) (by omega) l th
    obtain ⟨h2, z1, z2, z3⟩ := ih (i + 1) h1 (by omega) (by omega) y2 y3
    refine ⟨h2, ?_, z2, fz_tr y4 z3⟩
    rw [Mo_layWorth_4_e, ck_t (by omega), l.2.1, if_neg (by omega), y1, z1]
end
section
variable {h : am_H} {T W I : Tx} {U : Int → Tx} {Q : Tx}
theorem Mo_layWorth_s {w H : Int} (g : MN h T W I U Q) (v : WV T W) (h0 : 0 ≤ H) (h5 : H ≤ 5) (w0 : w = 0 ∨ w = 1) : ∃ h' V, Mo_layWorth h 94 H w = some (h', 0) ∧ MN h' T W I U Q ∧ Mq h h' ∧ LW h' w H (ph_ w H (fun k => k) (fun _ => 0)) ∧ WT h' w H (ph_ w H (fun k => k) (fun _ => 0)) V ∧ SD w H V ∧ CL w H V := by
  have nv := nN_v (w := w) h0 h5
  have fi := ph_i (w := w) h0 h5 (VP_id H) (VB_0 H)
  have nf := ph_f (w := w) h0 h5 (VP_id H) (VB_0 H)
  have fb : ∀ s, 0 ≤ s → s < nN_ w H → 0 ≤ ph_ w H (fun k => k) (fun _ => 0) s ∧ ph_ w H (fun k => k) (fun _ => 0) s < 3840 := fun s a b => ph_b h0 h5 (VP_id H) a b
  have f0 : ph_ w H (fun k => k) (fun _ => 0) 0 = 0 := by rw [ph_0 h0 h5 (VB_0 H) (fun _ _ _ _ => rfl)]; exact sM_00 h0 h5
  have bm := Bu_m h0 h5 w0
  obtain ⟨h1, b', a1, a2, a3, a4, a5⟩ := Mo_far_p (H := H) (w := w) g v h0 h5 w0
  obtain ⟨h2, c1, c2, c3⟩ := Mo_lw_1 (w := w) (H := H) 23040 0 h1 a4.1 (by omega) (by omega) (fun k p q => by omega)
  have l2 : mtI h2 w H (ph_ w H (fun k => k) (fun _ => 0)) := ⟨ShM_of c3.1 a4.1, by rw [c3.2 94 (by omega), a2.2.2.2]; exact a3.2.2.1, fun i i0 i1 => by
    have i1' : i < (Bu_ w H).2.2.2 := i1
    rw [c3.2 131 (by omega), a2.2.2.1 i i0 (by omega)]
    exact (a3.2.2.2.1 i i0 i1').1⟩
  obtain ⟨h3, d1, d2, d3⟩ := Mo_lw_4 h0 h5 w0 fi fb nf (mB_ w H).toNat 0 h2 (by omega) (by have : 1 ≤ mB_ w H := bm.1; omega) l2 (fun j d a b c => by omega)
  have wt3 : WT h3 w H (ph_ w H (fun k => k) (fun _ => 0)) (fun _ _ => 0) := fun s t a b c d => by
    have := fb s a b
    rw [d3.2.1 133 (by omega) (by omega), c2 _ (by omega) (by omega)]
  have sd0 : SD w H (fun _ _ => 0) := fun s t a b c d => ⟨Or.inl rfl, fun z => by have z' : (0 : Int) = 1 := z; omega, fun z => by have z' : (0 : Int) = -1 := z; omega⟩
  obtain ⟨h4, V, e1, e2, e3, e4, e5, e6⟩ := Mo_lw_10 h0 h5 w0 fi fb f0 ((cz_ w H (fun _ _ => 0)).toNat + 1) h3 (fun _ _ => 0) (by omega) d2 wt3 sd0
  have Q2 : Mq h1 h2 := Mq_fz (A := fun a => a = 133) (F := fun _ => False) (fz_fr c3 (fun a q => q) (by omega)) (fun x q => by unfold mQA; omega) (fun k q => absurd q id)
  have Q3 : Mq h2 h3 := Mq_fz d3 (fun x q => by unfold mQA; omega) (fun k q => by unfold mQF; omega)
  have Q4 : Mq h3 h4 := Mq_fz e6 (fun x q => by unfold mQA; omega) (fun k q => absurd q id)
  have QQ := Mq_tr (mF_q a5) (Mq_tr Q2 (Mq_tr Q3 Q4))
  refine ⟨h4, V, ?_, MN_q g v QQ, QQ, e2, e3, e4, e5⟩
  rw [Mo_layWorth_e, ck_t (by omega), a1, bd_v, c1, d1, e1]
/-- by the marks of a state -/
def vl_ (g : Nat) (d : Int) : Int := if uN_ g d.toNat = 1 then 1 else if uN_ g d.toNat = 2 then -1 else 0
def bst_ (w H : Int) (g : Nat) : Int := (kn_ (vl_ g) 0 (H - 1 + w).toNat (2 - w) (-1) 0).1
def m17_ (B : Int → Int) (is : Int) : Nat → Int → Int
  | 0, d => d
  | n + 1, d => if B d = is then d else m17_ B is n (d + 1)
def mwin_ (is : Int) : Int := if is ≠ 1 then (if is ≠ 0 then 1 else 2) else 0
def mopn_ (w H : Int) (g : Nat) : Int := m17_ (vl_ g) (bst_ w H g) (H - (2 - w)).toNat (2 - w)
def LGm_00 : List Nat := [0]
def LGm_01 : List Nat := [0]
def LGm_02 : List Nat := [0, 2]
def LGm_03 : List Nat := [0, 6, 192]
def LGm_04 : List Nat := [0, 2, 4, 8, 64, 128, 256]
def LGm_05 : List Nat := [0, 2, 4, 8, 16, 64, 128, 256, 512]
def LGm_10 : List Nat := [0]
def LGm_11 : List Nat := [0, 1]
def LGm_12 : List Nat := [0, 3, 96]
def LGm_13 : List Nat := [0, 1, 2, 4, 32, 64, 128]
def LGm_14 : List Nat := [0, 1, 2, 4, 8, 32, 64, 128, 256]
def LGm_15 : List Nat := [0, 1, 2, 4, 8, 16, 32, 64, 128, 256, 512]
def kQ_ (a b : Nat) (w H : Int) (gm : Nat) (L : List Nat) : Bool := ((List.range a).all fun i : Nat => (List.range b).all fun j : Nat => L.contains (te8 gm 10 (i * b + j))) && (decide (H + w < 2) || L.all fun g : Nat => decide (cwin_ w H g = mwin_ (bst_ w H g)) && decide (copn_ w H g = mopn_ w H g))
set_option maxRecDepth 100000 in
set_option maxHeartbeats 4000000 in
theorem kQ_00 : kQ_ 1 1 0 0 GM_00 LGm_00 = true := by decide +kernel
set_option maxRecDepth 100000 in
set_option maxHeartbeats 4000000 in
theorem kQ_01 : kQ_ 1 1 0 1 GM_01 LGm_01 = true := by decide +kernel
set_option maxRecDepth 100000 in
set_option maxHeartbeats 4000000 in
theorem kQ_02 : kQ_ 2 1 0 2 GM_02 LGm_02 = true := by decide +kernel
set_option maxRecDepth 100000 in
set_option maxHeartbeats 4000000 in
theorem kQ_03 : kQ_ 6 1 0 3 GM_03 LGm_03 = true := by decide +kernel
set_option maxRecDepth 100000 in
set_option maxHeartbeats 4000000 in
theorem kQ_04 : kQ_ 24 1 0 4 GM_04 LGm_04 = true := by decide +kernel
set_option maxRecDepth 100000 in
set_option maxHeartbeats 4000000 in
theorem kQ_05 : kQ_ 120 1 0 5 GM_05 LGm_05 = true := by decide +kernel
set_option maxRecDepth 100000 in
set_option maxHeartbeats 4000000 in
theorem kQ_10 : kQ_ 1 1 1 0 GM_10 LGm_10 = true := by decide +kernel
set_option maxRecDepth 100000 in
set_option maxHeartbeats 4000000 in
theorem kQ_11 : kQ_ 1 2 1 1 GM_11 LGm_11 = true := by decide +kernel
set_option maxRecDepth 100000 in
set_option maxHeartbeats 4000000 in
theorem kQ_12 : kQ_ 2 4 1 2 GM_12 LGm_12 = true := by decide +kernel
set_option maxRecDepth 100000 in
set_option maxHeartbeats 4000000 in
theorem kQ_13 : kQ_ 6 8 1 3 GM_13 LGm_13 = true := by decide +kernel
set_option maxRecDepth 100000 in
set_option maxHeartbeats 4000000 in
theorem kQ_14 : kQ_ 24 16 1 4 GM_14 LGm_14 = true := by decide +kernel
set_option maxRecDepth 100000 in
set_option maxHeartbeats 4000000 in
theorem kQ_15 : kQ_ 120 32 1 5 GM_15 LGm_15 = true := by decide +kernel
theorem kQ_s {a b : Nat} {w H : Int} {L : List Nat} (eN : nN_ w H = (a * b : Nat)) (hb : 0 < b) (hl : 2 ≤ H + w) (k : kQ_ a b w H (GM_ w H) L = true) {s : Int} (s0 : 0 ≤ s) (s1 : s < nN_ w H) : cwin_ w H (gm_ w H s) = mwin_ (bst_ w H (te8 (GM_ w H) 10 s.toNat)) ∧ copn_ w H (gm_ w H s) = mopn_ w H (te8 (GM_ w H) 10 s.toNat) := by
  unfold kQ_ at k
  simp only [Bool.and_eq_true, Bool.or_eq_true, decide_eq_true_eq, List.all_eq_true, List.mem_range] at k
  have lt : s.toNat < a * b := by omega
  have c := k.1 (s.toNat / b) (Nat.div_lt_of_lt_mul (by rw [Nat.mul_comm]; exact lt)) (s.toNat % b) (Nat.mod_lt _ hb)
  rw [show s.toNat / b * b + s.toNat % b = s.toNat from Nat.div_add_mod' _ _, List.contains_iff_mem] at c
  rcases k.2 with q | q
  · omega
  · exact q _ c
theorem kQ_a {w H : Int} (h0 : 0 ≤ H) (h5 : H ≤ 5) (w0 : w = 0 ∨ w = 1) (hl : 2 ≤ H + w) {s : Int} (s0 : 0 ≤ s) (s1 : s < nN_ w H) : cwin_ w H (gm_ w H s) = mwin_ (bst_ w H (te8 (GM_ w H) 10 s.toNat)) ∧ copn_ w H (gm_ w H s) = mopn_ w H (te8 (GM_ w H) 10 s.toNat) := by
  have hh : H = 0 ∨ H = 1 ∨ H = 2 ∨ H = 3 ∨ H = 4 ∨ H = 5 := by omega
  rcases w0 with e | e <;> rcases hh with q | q | q | q | q | q <;> subst e <;> subst q
  · exact kQ_s (a := 1) (b := 1) rfl (by decide) hl kQ_00 s0 s1
  · exact kQ_s (a := 1) (b := 1) rfl (by decide) hl kQ_01 s0 s1
  · exact kQ_s (a := 2) (b := 1) rfl (by decide) hl kQ_02 s0 s1
  · exact kQ_s (a := 6) (b := 1) rfl (by decide) hl kQ_03 s0 s1
  · exact kQ_s (a := 24) (b := 1) rfl (by decide) hl kQ_04 s0 s1
  · exact kQ_s (a := 120) (b := 1) rfl (by decide) hl kQ_05 s0 s1
  · exact kQ_s (a := 1) (b := 1) rfl (by decide) hl kQ_10 s0 s1
  · exact kQ_s (a := 1) (b := 2) rfl (by decide) hl kQ_11 s0 s1
  · exact kQ_s (a := 2) (b := 4) rfl (by decide) hl kQ_12 s0 s1
  · exact kQ_s (a := 6) (b := 8) rfl (by decide) hl kQ_13 s0 s1
  · exact kQ_s (a := 24) (b := 16) rfl (by decide) hl kQ_14 s0 s1
  · exact kQ_s (a := 120) (b := 32) rfl (by decide) hl kQ_15 s0 s1
theorem kn_c {B B' : Int → Int} {had H : Int} : ∀ (n : Nat) (d b m : Int), d + n = H + 1 → (∀ e, d ≤ e → e ≤ H → B e = B' e) → kn_ B had n d b m = kn_ B' had n d b m := by
  intro n
  induction n with
  | zero => intro d b m _ _; rfl
  | succ n ih =>
    intro d b m hd e
    show (if d ≠ had then kn_ B had n (d + 1) (if B d ≤ b then b else B d) (w32 (m + 1)) else kn_ B had n (d + 1) b m) = (if d ≠ had then kn_ B' had n (d + 1) (if B' d ≤ b then b else B' d) (w32 (m + 1)) else kn_ B' had n (d + 1) b m)
    rw [e d (Int.le_refl _) (by omega), ih (d + 1) _ _ (by omega) (fun x a c => e x (by omega) c), ih (d + 1) _ _ (by omega) (fun x a c => e x (by omega) c)]
theorem m17_c {B B' : Int → Int} {is H : Int} : ∀ (n : Nat) (d : Int), d + n ≤ H → (∀ e, d ≤ e → e ≤ H → B e = B' e) → m17_ B is n d = m17_ B' is n d := by
  intro n
  induction n with
  | zero => intro d _ _; rfl
  | succ n ih =>
    intro d hd e
    show (if B d = is then d else m17_ B is n (d + 1)) = if B' d = is then d else m17_ B' is n (d + 1)
    rw [e d (Int.le_refl _) (by omega), ih (d + 1) (by omega) (fun x a c => e x (by omega) c)]
theorem V_all {w H : Int} {V : Int → Int → Int} (h0 : 0 ≤ H) (h5 : H ≤ 5) (w0 : w = 0 ∨ w = 1) (sd : SD w H V) (cl : CL w H V) {s : Int} (s0 : 0 < s) (s1 : s < nN_ w H) : (∀ d, 2 - w ≤ d → d ≤ H → wb_ w H V s d = vl_ (te8 (GM_ w H) 10 s.toNat) d) ∧ V s 0 = bst_ w H (te8 (GM_ w H) 10 s.toNat) := by
  have hl := hl_of h0 w0 (by omega)
  have wv : ∀ d, 2 - w ≤ d → d ≤ H → wb_ w H V s d = vl_ (te8 (GM_ w H) 10 s.toNat) d := by
    intro d d0 d1
    have a := CL_all h0 h5 w0 hl sd cl (Ur w H s d + 1) s d s0 s1 d0 d1 (by omega)
    have b := wb_v h0 h5 w0 sd s0 s1 d0 d1
    have e : uN_ (te8 (GM_ w H) 10 s.toNat) d.toNat = Um w H s d := rfl
    unfold vl_
    rw [e]
    by_cases q : Um w H s d = 1
    · rw [if_pos q]; exact a.1 q
    · rw [if_neg q]
      by_cases r : Um w H s d = 2
      · rw [if_pos r]; exact a.2 r
      · rw [if_neg r]
        rcases b.1 with z | z | z
        · exact z
        · exact absurd (b.2.1 z) q
        · exact absurd (b.2.2 z) r
  refine ⟨wv, ?_⟩
  have ek : bst_ w H (te8 (GM_ w H) 10 s.toNat) = (kv_ w H V s 0).1 := by
    unfold bst_ kv_
    rw [kn_c (H := H) (H - 1 + w).toNat (2 - w) (-1) 0 (by omega) (fun e a b => (wv e a b).symm)]
  rw [ek]
  obtain ⟨a1, a2, a3, a4, a5, a6⟩ := kv_v (V := V) h0 h5 w0 hl s 0
  have up : (kv_ w H V s 0).1 ≤ 1 := by
    rcases a2 with z | ⟨e, x, y, _, z⟩
    · omega
    · have := (wb_v h0 h5 w0 sd s0 s1 x y).1
      omega
  obtain ⟨b1, b2, b3⟩ := sd s 0 s0 s1 (by omega) h0
  have al := fun d d0 d1 => CL_all h0 h5 w0 hl sd cl (Ur w H s d + 1) s d s0 s1 d0 d1 (by omega)
  rcases b1 with z | z | z
  · rcases cl s 0 s0 s1 (by omega) h0 with y | y
    · exact absurd z y
    · rw [z, y.2]
  · obtain ⟨e, e0, e1, e2, e3⟩ := b2 z
    have x1 := (al e e0 e1).1 e3
    have x2 := a3 e e0 e1 e2
    omega
  · rcases a2 with y | ⟨e, e0, e1, e2, e3⟩
    · rw [z, y]
    · have x1 := (al e e0 e1).2 (b3 z e e0 e1 e2)
      omega
theorem Mo_game_17s {w H : Int} {f : Int → Int} {V : Int → Int → Int} (h0 : 0 ≤ H) (h5 : H ≤ 5) (w0 : w = 0 ∨ w = 1) (fi : fI_ f (nN_ w H)) (fb : ∀ s, 0 ≤ s → s < nN_ w H → 0 ≤ f s ∧ f s < 3840) (f0 : f 0 = 0) (l : LW h w H f) (wt : WT h w H f V) (sd : SD w H V) {s is : Int} (s0 : 0 ≤ s) (s1 : s < nN_ w H) : ∀ (n : Nat) (d : Int), 1 ≤ d → (d + n = H ∨ (n = 0 ∧ H ≤ d)) → Mo_game_17 h 94 H (f s) is d = some (h, m17_ (wb_ w H V s) is n d) := by
  intro n
  induction n with
  | zero =>
    intro d d0 hd
    rw [Mo_game_17_e, if_pos (by omega)]
    rfl
  | succ n ih =>
    intro d d0 hd
    rw [Mo_game_17_e, if_neg (by omega), ck_t (by omega), Mo_worthBy_s h0 h5 w0 fi fb f0 l wt sd s0 s1 d0 (by omega), bd_v, w32_i (x := d + 1) (by omega) (by omega)]
    show _ = some (h, if wb_ w H V s d = is then d else m17_ (wb_ w H V s) is n (d + 1))
    by_cases q : wb_ w H V s d = is
    · rw [if_pos q, if_pos q]
    · rw [if_neg q, if_neg q]
      exact ih (d + 1) (by omega) (by omega)
theorem Mo_game_t (g0 : MN h T W I U Q) (sv : SV T W I U Q) {p w x : Int} (p0 : 0 ≤ p) (p1 : p < T 0 1) (w0 : w = 0 ∨ w = 1) (x0 : 0 ≤ x) (x1 : x ≤ 1) : ∃ h', Mo_game h 94 p w x = some (h', gam_ w (W 0 p) (stC T W p w) x) ∧ MN h' T W I U Q ∧ Mq h h' := by
  have v := sv.2.1
  have v0 := v.1
  have hh := v.2.1 p p0 p1
  have hh0 : 0 ≤ W 0 p := by omega
  have nv := nN_v (w := w) hh0 hh.2
  have q2 := Mq_2 h 0
  have g := MN_q g0 v q2
  have y0 : rd_ (wr_ h 94 2 0) 120 p = W 0 p := by have := g.2.2.2.1.2.1 p p0 p1; simpa using this
  have fi := ph_i (w := w) hh0 hh.2 (VP_id (W 0 p)) (VB_0 (W 0 p))
  have fb : ∀ s, 0 ≤ s → s < nN_ w (W 0 p) → 0 ≤ ph_ w (W 0 p) (fun k => k) (fun _ => 0) s ∧ ph_ w (W 0 p) (fun k => k) (fun _ => 0) s < 3840 := fun s a b => ph_b hh0 hh.2 (VP_id (W 0 p)) a b
  have f0 : ph_ w (W 0 p) (fun k => k) (fun _ => 0) 0 = 0 := by rw [ph_0 hh0 hh.2 (VB_0 (W 0 p)) (fun _ _ _ _ => rfl)]; exact sM_00 hh0 hh.2
  obtain ⟨h1, V, a1, a2, a3, a4, a5, a6, a7⟩ := Mo_layWorth_s (w := w) (H := W 0 p) g v hh0 hh.2 w0
  obtain ⟨h2, b1, b2, b3, b4⟩ := Mo_codeOfPile_s (p := p) (w := w) a2 v p0 p1 w0
  have st := st_b (w := w) v p0 p1
  have l2 : LW h2 w (W 0 p) (ph_ w (W 0 p) (fun k => k) (fun _ => 0)) := ⟨b3.1, fun s d a b c e => by rw [b4.2.1 132 (by omega) (by omega)]; exact a4.2.1 s d a b c e, by rw [b4.2.2 74 (by omega)]; exact a4.2.2.1, fun i a b => by rw [b4.2.1 131 (by omega) (by omega)]; exact a4.2.2.2 i a b⟩
  have wt2 : WT h2 w (W 0 p) (ph_ w (W 0 p) (fun k => k) (fun _ => 0)) V := fun s t a b c d => by rw [b4.2.1 133 (by omega) (by omega)]; exact a5 s t a b c d
  have ends : ∃ r, Mo_game h 94 p w x = some (h2, r) ∧ r = gam_ w (W 0 p) (stC T W p w) x := by
    rw [Mo_game_e, ck_t (by omega), ck_t (by omega), Mo_isPile_t g.2.1 p0 p1, bd_v, if_neg (by omega), Mo_isIn_t (by omega) (by omega), bd_v, if_neg (by omega), Mo_isIn_t x0 x1, bd_v, if_pos (by omega)]
    simp only [mr52 g.1, ml120 g.1, y0]
    rw [ck_t (by omega), ck_t (by omega), ck_t (by omega), ck_t (by omega), a1, bd_v, ck_t (by omega), b1, bd_v]
    by_cases sz : stC T W p w = 0
    · have cz : stM T W p w = 0 := by rw [← st.2.2.1, sz]; exact f0
      rw [if_neg (fun z => z cz)]
      unfold gam_
      rw [if_pos (c := stC T W p w ≤ 0) (by omega)]
      by_cases xz : x = 0
      · rw [if_neg (fun z => z xz)]
        exact ⟨2, rfl, by rw [if_neg (fun z => z xz)]⟩
      · rw [if_pos xz]
        exact ⟨-2, rfl, by rw [if_pos xz]⟩
    · have cz : stM T W p w ≠ 0 := fun e => sz (by
        refine fi _ 0 st.1 st.2.1 (by omega) (by omega) ?_
        rw [st.2.2.1, e, f0])
      have s0 : 0 < stC T W p w := by omega
      obtain ⟨va, vb⟩ := V_all hh0 hh.2 w0 a6 a7 s0 st.2.1
      have hl1 := hl_of hh0 w0 (by omega : 2 ≤ nN_ w (W 0 p))
      have hl : 2 ≤ W 0 p + w := by
        apply Classical.byContradiction
        intro q
        rcases w0 with e | e
        · have e1 : W 0 p = 1 := by omega
          have s1 := st.2.1
          rw [e, e1] at s1
          have : nN_ 0 1 = 1 := by decide +kernel
          rw [e] at s0
          omega
        · have e1 : W 0 p = 0 := by omega
          have s1 := st.2.1
          rw [e, e1] at s1
          have : nN_ 1 0 = 1 := by decide +kernel
          rw [e] at s0
          omega
      obtain ⟨k1, k2⟩ := kQ_a hh0 hh.2 w0 hl st.1 st.2.1
      have wv := wt2 (stC T W p w) 0 st.1 st.2.1 (by omega) hh0
      rw [st.2.2.1, Int.add_zero] at wv
      rw [if_pos cz]
      simp only [mr76 b3.1, ml133 b3.1]
      rw [w32_i (x := 6 * stM T W p w) (by omega) (by omega), ck_t (by omega), ck_t (by omega), ck_t (by omega), wv]
      unfold gam_
      rw [if_neg (c := stC T W p w ≤ 0) (by omega)]
      by_cases xz : x = 0
      · rw [if_neg (fun z => z xz), if_neg (c := x ≠ 0) (fun z => z xz), k1, ← vb]
        unfold mwin_
        by_cases q : V (stC T W p w) 0 = 1
        · rw [if_neg (fun z => z q), if_neg (fun z => z q)]
          exact ⟨0, rfl, rfl⟩
        · rw [if_pos q, if_pos q]
          by_cases r : V (stC T W p w) 0 = 0
          · rw [if_neg (fun z => z r), if_neg (fun z => z r)]
            exact ⟨2, rfl, rfl⟩
          · rw [if_pos r, if_pos r]
            exact ⟨1, rfl, rfl⟩
      · rw [if_pos xz, if_pos (c := x ≠ 0) xz, k2, w32_i (x := 2 - w) (by omega) (by omega)]
        have fin := Mo_game_17s (is := V (stC T W p w) 0) hh0 hh.2 w0 fi fb f0 l2 wt2 a6 st.1 st.2.1 (W 0 p - (2 - w)).toNat (2 - w) (by omega) (by omega)
        rw [st.2.2.1] at fin
        refine ⟨_, fin, ?_⟩
        unfold mopn_
        rw [← vb]
        by_cases q : W 0 p ≤ 2 - w
        · rw [show (W 0 p - (2 - w)).toNat = 0 by omega]
          rfl
        · exact m17_c (H := W 0 p) _ _ (by omega) (fun e a b => va e a b)
  obtain ⟨r, e1, e2⟩ := ends
  exact ⟨h2, by rw [e1, e2], b3, Mq_tr q2 (Mq_tr a3 (mR_q b4))⟩
theorem Mo_game_f (g0 : MN h T W I U Q) (v : WV T W) {p w t : Int} (c : ¬ ((0 ≤ p ∧ p < T 0 1) ∧ (0 ≤ w ∧ w ≤ 1) ∧ 0 ≤ t ∧ t ≤ 1)) : Mo_game h 94 p w t = some (wr_ h 94 2 0, -1) := by
  have g := MN_q g0 v (Mq_2 h 0)
  rw [Mo_game_e, ck_t (by omega), ck_t (by omega)]
  by_cases q : 0 ≤ p ∧ p < T 0 1
  · rw [Mo_isPile_t g.2.1 q.1 q.2, bd_v, if_neg (by omega)]
    by_cases r : 0 ≤ w ∧ w ≤ 1
    · rw [Mo_isIn_t r.1 r.2, bd_v, if_neg (by omega), Mo_isIn_f (fun z => c ⟨q, r, z⟩), bd_v, if_neg (by omega)]
    · rw [Mo_isIn_f r, bd_v, if_pos (by omega)]
  · rw [Mo_isPile_f g.2.1 q, bd_v, if_pos (by omega)]
end
