/-! the game in the class: what is answered -/
section
variable {u c a w H : Int}
theorem Ch_allDepths_s {h : am_H} (S : CHs h u c w H) : Ch_allDepths h c = some (h, alw_ w H) := by
  have S1 := S.1
  rw [Ch_allDepths_e, ck_t (by omega), ck_t (by omega), S.2.2.1.1, S.2.2.1.2.1]
  unfold alw_
  by_cases q : w = 0
  · rw [if_pos q, if_pos q]
  · rw [if_neg q, if_neg q]
theorem Ch_play_3 (h0 : 0 ≤ H) (h5 : H ≤ 5) (w0 : w = 0 ∨ w = 1) (ca : c + 4 ≤ a) (ua : u + 3 ≤ a) : ∀ (n : Nat) (d : Int) (h : am_H) (m st : Int → Int) (k : Int), 1 ≤ d → d + n = H + 1 → CHs h u c w H → CHu h u → GH h c a (nN_ w H) m st k → GJ w H m st k 0 0 → (∀ e, 2 - w ≤ e → e < d → nC_ w H 0 e ≠ 0 → tbi_ (m (nC_ w H 0 e)) (e - 1) = 1) → ∃ h' m' st' k', Ch_playAll_3 h c (alw_ w H) d = Ch_playAll_8 h' c (alw_ w H) 0 ∧ CHs h' u c w H ∧ CHu h' u ∧ GH h' c a (nN_ w H) m' st' k' ∧ GJ w H m' st' k' 0 0 ∧ (∀ e, 2 - w ≤ e → e ≤ H → nC_ w H 0 e ≠ 0 → tbi_ (m' (nC_ w H 0 e)) (e - 1) = 1) ∧ gfr_ h h' c a := by
  intro n
  have g := GF_ h0 h5 w0
  have nv := nN_v (w := w) h0 h5
  induction n with
  | zero =>
    intro d h m st k d0 hd S U G J ini
    have S1 := S.1
    refine ⟨h, m, st, k, ?_, S, U, G, J, fun e e0 e1 nz => ini e e0 (by omega) nz, gfr_refl _ _ _⟩
    rw [Ch_playAll_3_e, ck_t (by omega), S.2.2.1.1, if_pos (by omega)]
  | succ n ih =>
    intro d h m st k d0 hd S U G J ini
    have S1 := S.1
    obtain ⟨b1, -, -⟩ := x3_ d0 (by omega : d ≤ 5)
    obtain ⟨c1, -, -⟩ := x4_ (w := w) h0 h5 w0 d0 (by omega : d ≤ 5)
    have eb : w32 (1 * 2 ^ ((w32 (d - 1)) % 32 : Int).toNat) = bw_ d := rfl
    rw [Ch_playAll_3_e, ck_t (by omega), S.2.2.1.1, if_neg (by omega), eb, w32_i (x := d + 1) (by omega) (by omega)]
    by_cases al : 2 - w ≤ d
    · have nb := nC_b (w := w) h0 h5 0 d (by omega) (by omega) d0 (by omega)
      have inv := nC_nC (w := w) h0 h5 (by omega : (0 : Int) ≤ 0) (by omega) d0 (by omega : d ≤ H)
      rw [if_neg (fun q => (c1.mp q) ⟨al, by omega⟩), ck_t (by omega), Ch_turned_s h0 h5 w0 U S (by omega) (by omega) d0 (by omega), bd_v, ck_t (by omega), b1]
      have dd : 1 ≤ d ∧ d ≤ 5 ∧ d ≤ H := by omega
      obtain ⟨h1, m1, st1, k1, y1, y2, y3, y4, y5, y6, y7⟩ := Ch_mark_s (t := nC_ w H 0 d) (j := d - 1) h0 h5 w0 (by omega) ca G J nb.1 nb.2 (by omega) (by omega) (fun nz => by
        have t0 : 0 < nC_ w H 0 d := by omega
        exact (Um_b g nb.1 nb.2 dd.1 dd.2.1).1.mp ((g.2.2.2 (nC_ w H 0 d) d t0 nb.2 al dd.2.2).1 inv))
      rw [y1, bd_v]
      obtain ⟨h2, m2, st2, k2, z1, z2, z3, z4, z5, z6, z7⟩ := ih (d + 1) h1 m1 st1 k1 (by omega) (by omega) (CHs_g S y7 ca) (CHu_g U y7 ua S1.2.2) y2 y3 (fun e e0 e1 nz => by
        by_cases q : e = d
        · rw [q] at nz ⊢; exact y5 nz
        · have nbe := nC_b (w := w) h0 h5 0 e (by omega) (by omega) (by omega) (by omega)
          exact y4 _ _ nbe.1 nbe.2 (by omega) (by omega) (ini e e0 (by omega) nz))
      exact ⟨h2, m2, st2, k2, z1, z2, z3, z4, z5, z6, gfr_tr y7 z7⟩
    · rw [if_pos (c1.mpr (fun q => al q.1))]
      exact ih (d + 1) h m st k (by omega) (by omega) S U G J (fun e e0 e1 nz => ini e e0 (by omega) nz)
theorem sgl_0 {s d : Int} (h0 : 0 ≤ H) (h5 : H ≤ 5) (w0 : w = 0 ∨ w = 1) (s0 : 0 < s) (s1 : s < nN_ w H) (d0 : 2 - w ≤ d) (d1 : d ≤ H) (no : ∀ e, 2 - w ≤ e → e ≤ H → e = d) : nC_ w H s d = 0 := by
  have e1 := no (2 - w) (by omega) (by omega)
  have e2 := no H (by omega) (by omega)
  rcases w0 with q | q
  · have eH : H = 2 := by omega
    subst q
    subst eH
    have n2 : nN_ 0 2 = 2 := by decide +kernel
    have es : s = 1 := by omega
    have ed : d = 2 := by omega
    rw [es, ed]
    decide +kernel
  · have eH : H = 1 := by omega
    subst q
    subst eH
    have n2 : nN_ 1 1 = 2 := by decide +kernel
    have es : s = 1 := by omega
    have ed : d = 1 := by omega
    rw [es, ed]
    decide +kernel
theorem GJ_0 (h0 : 0 ≤ H) (h5 : H ≤ 5) (w0 : w = 0 ∨ w = 1) (st : Int → Int) : GJ w H (fun _ => 0) st 0 0 0 := by
  have nv := nN_v (w := w) h0 h5
  have tz : ∀ j, tbi_ 0 j = 0 := fun j => by unfold tbi_; rw [Int.zero_ediv]; rfl
  refine ⟨⟨fun s _ _ => by show 0 ≤ (0 : Int) ∧ (0 : Int) < 2048; omega, rfl⟩, fun s j _ _ _ _ e => ?_, fun s _ _ => ⟨fun q => ?_, fun ⟨i, a1, a2, _⟩ => by omega⟩, ⟨by omega, fun i a1 a2 => by omega, fun i j a1 a2 a3 => by omega⟩, ?_, fun s s0 s1 _ _ d d0 d1 d2 nz => ⟨fun ⟨e, a1, a2, a3, a4⟩ => ?_, fun q => ?_⟩⟩
  · have e' : tbi_ 0 j = 1 := e
    rw [tz] at e'
    omega
  · have q' : (1024 : Int) ≤ 0 := q
    omega
  · have := sm_p (f := fun s => pp_ ((fun _ => (0 : Int)) s)) (fun i => (pp_b 0).1) (nN_ w H).toNat
    show (0 : Int) + 0 ≤ _
    omega
  · have e' : tbi_ 0 (e - 1) = 1 := a4
    rw [tz] at e'
    omega
  · exfalso
    apply nz
    refine sgl_0 h0 h5 w0 s0 s1 d0 d1 (fun e a1 a2 => ?_)
    apply Classical.byContradiction
    intro ne
    have q' : tbi_ 0 (e + 4) = 1 := q e a1 a2 ne
    rw [tz] at q'
    omega
end
section
variable {h : am_H} {T W I : Tx} {U : Int → Tx} {Q : Tx} {K S : Int}
theorem Ch_playAll_s {c w H : Int} (g : CJ h T W I U Q K S) (h0 : 0 ≤ H) (h5 : H ≤ 5) (w0 : w = 0 ∨ w = 1) (uu : CHu h (rf_ h 0 16)) (k : CHc h (rf_ h 0 16) c w H) (ec : rf_ h 90 (6 * w + H) = c) : ∃ h', Ch_playAll h c = some (h', 0) ∧ CJ h' T W I U Q K S ∧ CHu h' (rf_ h' 0 16) ∧ CHc h' (rf_ h' 0 16) c w H ∧ CHm h' c w H ∧ rf_ h' 90 (6 * w + H) = c ∧ lb_ h h' := by
  have nv := nN_v (w := w) h0 h5
  have k1 := k.1.1
  have u1 := uu.1
  have S3 := k.1.2.2.1
  rw [Ch_playAll_e, ck_t (by omega)]
  rcases id k.2.2.2 with q | q
  · -- two new rows
    generalize hr : nn_ h = a at *
    have n1 : nn_ (nw_ h 20 (nN_ w H)) = a + 1 := by rw [nn_nw, hr]
    have l1 : ln_ (nw_ h 20 (nN_ w H)) a = nN_ w H := by rw [← hr]; exact ln_nwn _ _ _
    have z1 : ∀ k, rd_ (nw_ h 20 (nN_ w H)) a k = 0 := fun k => by rw [← hr]; exact rd_nwn _ _ _ _
    have g1 : agB_ a h (nw_ h 20 (nN_ w H)) := agB_nw 20 (by omega) (by omega)
    have s1 : ss_ (nw_ h 20 (nN_ w H)) = ss_ h + nN_ w H := rfl
    have d3 : rd_ (nw_ h 20 (nN_ w H)) c 3 = nN_ w H := by rw [(g1.2.2 c (by omega)).1]; exact S3.2.2
    rw [if_pos (by omega), S3.2.2, d3]
    generalize nw_ h 20 (nN_ w H) = h1 at n1 l1 z1 g1 s1 d3 ⊢
    have n1' : nn_ (wf_ h1 c 8 a) = a + 1 := n1
    have n2 : nn_ (nw_ (wf_ h1 c 8 a) 20 (nN_ w H)) = a + 2 := by rw [nn_nw, n1']; omega
    have l2 : ln_ (nw_ (wf_ h1 c 8 a) 20 (nN_ w H)) (a + 1) = nN_ w H := by rw [← n1']; exact ln_nwn _ _ _
    have g2 : agB_ (a + 1) (wf_ h1 c 8 a) (nw_ (wf_ h1 c 8 a) 20 (nN_ w H)) := agB_nw 20 (by omega) (by omega)
    have s2 : ss_ (nw_ (wf_ h1 c 8 a) 20 (nN_ w H)) = ss_ h1 + nN_ w H := rfl
    generalize nw_ (wf_ h1 c 8 a) 20 (nN_ w H) = h2 at n2 l2 g2 s2 ⊢
    have A1 := g1.2.2
    have A2 := g2.2.2
    obtain ⟨h3, e3⟩ : ∃ x, x = wr_ (wf_ h2 c 9 (a + 1)) c 10 0 := ⟨_, rfl⟩
    have C3 : ∀ x, x < a → (∀ k, ¬ (x = c ∧ k = 10) → rd_ h3 x k = rd_ h x k) ∧ (∀ k, ¬ (x = c ∧ (k = 8 ∨ k = 9)) → rf_ h3 x k = rf_ h x k) ∧ ln_ h3 x = ln_ h x := fun x hx => by
      rw [e3]
      refine ⟨fun k z => ?_, fun k z => ?_, ?_⟩
      · rw [rd_wr, if_neg z]
        show rd_ h2 x k = _
        rw [(A2 x (by omega)).1]
        exact (A1 x hx).1 k
      · show rf_ (wf_ h2 c 9 (a + 1)) x k = _
        rw [rf_wf, if_neg (fun y => z ⟨y.1, Or.inr y.2⟩), (A2 x (by omega)).2.1, rf_wf, if_neg (fun y => z ⟨y.1, Or.inl y.2⟩)]
        exact (A1 x hx).2.1 k
      · show ln_ h2 x = _
        rw [(A2 x (by omega)).2.2]
        exact (A1 x hx).2.2
    have r8 : rf_ h3 c 8 = a := by
      rw [e3]
      show rf_ (wf_ h2 c 9 (a + 1)) c 8 = a
      rw [rf_wk (by omega), (A2 c (by omega)).2.1, rf_ws]
    have r9 : rf_ h3 c 9 = a + 1 := by rw [e3]; exact rf_ws _ _ _ _
    have l3a : ln_ h3 a = nN_ w H := by rw [e3]; show ln_ h2 a = _; rw [(A2 a (by omega)).2.2]; exact l1
    have l3b : ln_ h3 (a + 1) = nN_ w H := by rw [e3]; exact l2
    have z3 : ∀ k, rd_ h3 a k = 0 := fun k => by
      rw [e3, rd_wo (by omega)]
      show rd_ h2 a k = 0
      rw [(A2 a (by omega)).1]
      exact z1 k
    have n3 : nn_ h3 = a + 2 := by rw [e3]; exact n2
    have X3 : hx_ h h3 c := ⟨by omega, fun x p y => ⟨fun k z => (C3 x (by omega)).1 k (fun v => z v.1 v.2), fun k z => (C3 x (by omega)).2.1 k (fun v => by have := z v.1; omega), (C3 x (by omega)).2.2⟩⟩
    have T3 := CHs_hx k.1 X3
    have U3 := CHu_hx uu k1.2.2 X3
    have G3 : GH h3 c a (nN_ w H) (fun _ => 0) (fun _ => 0) 0 := ⟨⟨r8, r9⟩, ⟨l3a, l3b⟩, fun k _ _ => z3 k, fun i a1 a2 => by omega, by rw [e3]; exact rd_ws _ _ _ _⟩
    obtain ⟨h4, m4, st4, k4, y1, y2, y3, y4, y5, y6, y7⟩ := Ch_play_3 (u := rf_ h 0 16) (c := c) (a := a) h0 h5 w0 (by omega) (by omega) H.toNat 1 h3 _ _ 0 (by omega) (by omega) T3 U3 G3 (GJ_0 h0 h5 w0 _) (fun e e0 e1 => by omega)
    obtain ⟨h5', m5, st5, v1, v2, v3, v4, v5⟩ := Ch_play_8 (u := rf_ h 0 16) (c := c) (a := a) h0 h5 w0 (by omega) (by omega) (10 * nN_ w H).toNat 0 h4 m4 st4 k4 (by omega) (by omega) y2 y3 y4 y5
    have gf : gfr_ h3 h5' c a := gfr_tr y7 v5
    have F := gfr_fr gf
    have C5 : ∀ x, x < a → (∀ k, ¬ (x = c ∧ k = 10) → rd_ h5' x k = rd_ h x k) ∧ (∀ k, ¬ (x = c ∧ (k = 8 ∨ k = 9)) → rf_ h5' x k = rf_ h x k) ∧ ln_ h5' x = ln_ h x := fun x hx => ⟨fun k z => by rw [gf.2 x k (by omega)]; exact (C3 x hx).1 k z, fun k z => by rw [fr_rf F]; exact (C3 x hx).2.1 k z, by rw [fr_ln F]; exact (C3 x hx).2.2⟩
    have ini : ∀ d, 2 - w ≤ d → d ≤ H → nC_ w H 0 d ≠ 0 → tbi_ (m5 (nC_ w H 0 d)) (d - 1) = 1 := fun d d0 d1 nz => by
      have nb := nC_b (w := w) h0 h5 0 d (by omega) (by omega) (by omega) d1
      exact v4 _ _ nb.1 nb.2 (by omega) (by omega) (y6 d d0 d1 nz)
    have n5 : nn_ h5' = a + 2 := by rw [fr_nn F]; exact n3
    have X : hx_ h h5' c := ⟨by omega, fun x p y => ⟨fun k z => (C5 x (by omega)).1 k (fun v => z v.1 v.2), fun k z => (C5 x (by omega)).2.1 k (fun v => by have := z v.1; omega), (C5 x (by omega)).2.2⟩⟩
    have L : lwr_ h h5' := lwr_hx (B := 144) (fun x z => ⟨fun k => (C5 x (by omega)).1 k (by omega), fun k => (C5 x (by omega)).2.1 k (by omega), (C5 x (by omega)).2.2⟩) (Int.le_refl _)
    have e16 : rf_ h5' 0 16 = rf_ h 0 16 := (C5 0 (by omega)).2.1 16 (by omega)
    have e90 : ∀ i, rf_ h5' 90 i = rf_ h 90 i := fun i => (C5 90 (by omega)).2.1 i (by omega)
    have r85 : rf_ h5' c 8 = a := by rw [fr_rf F]; exact r8
    have M8 : CHm h5' c w H := by
      unfold CHm
      rw [r85]
      exact ⟨by omega, by omega, by rw [fr_ln F]; exact l3a, fun s s0 s1 => by rw [v2.2.2.1 s s0 s1]; exact GJ_gm h0 h5 w0 v3 ini s0 s1⟩
    have e7 : rf_ h5' c 7 = rf_ h c 7 := (C5 c (by omega)).2.1 7 (by omega)
    have R7 : rf_ h5' c 7 = -1 ∨ CHr h5' c w H := by
      rcases k.2.2.1 with z | z
      · exact Or.inl (by rw [e7]; exact z)
      · exact Or.inr (CHr_hx z k1.2.2 X e7)
    obtain ⟨w1, w2, w3, w4⟩ := CH_hx g.2.1 h0 h5 w0 uu k ec X e16 e90 R7 (Or.inr M8)
    have RR : RM h5' K S := by
      have f9 : ∀ i, 0 ≤ i → i < 12 → i ≠ 6 * w + H → rf_ h 90 i < 0 ∨ (rf_ h 90 i ≠ c ∧ 144 ≤ rf_ h 90 i ∧ rf_ h 90 i < nn_ h) := by
        intro i i0 i1 ni
        rcases CH_c g.2.1 i0 i1 with z | z
        · exact Or.inl z
        · refine Or.inr ⟨fun e => ni ?_, z⟩
          rcases g.2.1 with ⟨x, _⟩ | ⟨_, b⟩
          · omega
          · rcases b (i / 6) (i % 6) (by omega) (by omega) (by omega) with v | v
            · rw [show 6 * (i / 6) + i % 6 = i by omega] at v; omega
            · rw [show 6 * (i / 6) + i % 6 = i by omega, e] at v
              have v1 := v.1.2.2.1
              have v2 := k.1.2.2.1
              omega
      have pe : ∀ a' b d i, 0 ≤ i → i < 12 → i ≠ 6 * w + H → pcr_ a' b d h5' i = pcr_ a' b d h i := by
        intro a' b d i i0 i1 ni
        unfold pcr_
        rw [e90]
        rcases f9 i i0 i1 ni with z | ⟨z1, z2, z3⟩
        · rw [if_pos (Or.inl z), if_pos (Or.inl z), if_pos (Or.inl z), if_pos (Or.inl z)]
        · rw [(C5 _ (by omega)).2.1 7 (fun x => z1 x.1), (C5 _ (by omega)).2.1 8 (fun x => z1 x.1)]
      have p3 : ∀ a' b d, pcr_ a' b d h5' (6 * w + H) = pcr_ a' b d h (6 * w + H) - d := by
        intro a' b d
        unfold pcr_
        rw [e90, ec, r85, q, e7, if_neg (c := c < 0 ∨ a < 0) (by omega), if_pos (c := c < 0 ∨ (-1 : Int) < 0) (Or.inr (by omega))]
        omega
      have sm : ∀ a' b d, sm_ (pcr_ a' b d h5') 12 = sm_ (pcr_ a' b d h) 12 - d := by
        intro a' b d
        have := sm_2 (f := pcr_ a' b d h) (g := pcr_ a' b d h5') (j := 6 * w + H) 12 (fun i i0 i1 hi => pe a' b d i i0 i1 hi)
        rw [this, if_pos (by omega), p3]
        omega
      unfold RM
      rw [sm, sm, e16]
      have r1 := g.2.2.1.1
      have r2 := g.2.2.1.2
      have x1 : ss_ h5' = ss_ h2 := by rw [fr_ss F, e3]; rfl
      omega
    refine ⟨h5', ?_, ⟨CI_la (la_lw L) g.1, w1, RR, by omega⟩, w2, w3, M8, w4, lb_lw L⟩
    rw [ck_t (by omega), ck_t (by omega), ck_t (by omega), ck_t (by omega), ck_t (by omega), ck_t (by omega), ck_t (by omega), ck_t (by omega), ← e3, Ch_allDepths_s T3, bd_v, y1, v1]
  · refine ⟨h, ?_, g, uu, k, q, ec, lb_refl h⟩
    have := q.1
    rw [if_neg (by omega)]
/-- who wins, how it opens, by the marks of a state -/
def cwin_ (w H g : Int) : Int := if g % 32 = 0 then (if g / 32 % 32 ≠ alw_ w H then 2 else 1) else 0
def og5_ (H x : Int) : Nat → Int → Int
  | 0, _ => H
  | n + 1, d => if an_ (x / 2 ^ ((w32 (d - 1)) % 32 : Int).toNat) 1 = 0 then og5_ H x n (d + 1) else d
def ocm_ (w H g : Int) : Int := if g % 32 ≠ 0 then g % 32 else if g / 32 % 32 ≠ alw_ w H then an_ (alw_ w H) (xo_ (g / 32 % 32) (-1)) else g / 32 % 32
def copn_ (w H g : Int) : Int := og5_ H (ocm_ w H g) (H - 1).toNat 1
def gam_ (w H s x : Int) : Int := if s ≤ 0 then (if x ≠ 0 then -2 else 2) else if x ≠ 0 then copn_ w H (gm_ w H s) else cwin_ w H (gm_ w H s)
theorem Ch_wins {c w H s : Int} (g : CJ h T W I U Q K S) (h0 : 0 ≤ H) (h5 : H ≤ 5) (w0 : w = 0 ∨ w = 1) (uu : CHu h (rf_ h 0 16)) (k : CHc h (rf_ h 0 16) c w H) (ec : rf_ h 90 (6 * w + H) = c) (s0 : 0 ≤ s) (s1 : s < nN_ w H) : ∃ h', (Ch_winsOf h c s = some (h', gm_ w H s % 32) ∧ Ch_lossesOf h c s = some (h', gm_ w H s / 32 % 32)) ∧ CJ h' T W I U Q K S ∧ CHu h' (rf_ h' 0 16) ∧ CHc h' (rf_ h' 0 16) c w H ∧ rf_ h' 90 (6 * w + H) = c ∧ lb_ h h' := by
  obtain ⟨h', a1, a2, a3, a4, a5, a6, a7⟩ := Ch_playAll_s g h0 h5 w0 uu k ec
  have c0 := k.1.1
  have gf := GF_ h0 h5 w0
  have gl := gf.1 s s0 s1
  have g0 : 0 ≤ gm_ w H s := by unfold gm_; omega
  obtain ⟨-, -, -, w4, w5⟩ := x2_ (x := gm_ w H s) g0 (by omega)
  obtain ⟨m1, m2, m3, m4⟩ := a5
  refine ⟨h', ⟨?_, ?_⟩, a2, a3, a4, a6, a7⟩
  · rw [Ch_winsOf_e, ck_t (by omega), a1, bd_v, ck_t (by omega), ck_t (by omega), ck_t (by omega), m4 s s0 s1, w4]
  · rw [Ch_lossesOf_e, ck_t (by omega), a1, bd_v, ck_t (by omega), ck_t (by omega), ck_t (by omega), m4 s s0 s1, w5]
theorem Ch_open_9 {c u w H x : Int} (S : CHs h u c w H) (h5 : H ≤ 5) : ∀ (n : Nat) (d : Int), 1 ≤ d → (d + n = H ∨ (n = 0 ∧ H ≤ d)) → Ch_opening_9 h c x d = some (h, og5_ H x n d) := by
  intro n
  have S1 := S.1
  induction n with
  | zero =>
    intro d d0 hd
    rw [Ch_opening_9_e, ck_t (by omega), S.2.2.1.1, if_pos (by omega), ck_t (by omega)]
    rfl
  | succ n ih =>
    intro d d0 hd
    rw [Ch_opening_9_e, ck_t (by omega), S.2.2.1.1, if_neg (by omega), w32_i (x := d + 1) (by omega) (by omega)]
    show _ = some (h, if an_ (x / 2 ^ ((w32 (d - 1)) % 32 : Int).toNat) 1 = 0 then og5_ H x n (d + 1) else d)
    by_cases q : an_ (x / 2 ^ ((w32 (d - 1)) % 32 : Int).toNat) 1 = 0
    · rw [if_pos q, if_pos q]
      exact ih (d + 1) (by omega) (by omega)
    · rw [if_neg q, if_neg q]
theorem Ch_game_s {c w H s x : Int} (g : CJ h T W I U Q K S) (h0 : 0 ≤ H) (h5 : H ≤ 5) (w0 : w = 0 ∨ w = 1) (uu : CHu h (rf_ h 0 16)) (k : CHc h (rf_ h 0 16) c w H) (ec : rf_ h 90 (6 * w + H) = c) (s0 : 0 ≤ s) (s1 : s < nN_ w H) : (∃ h', Ch_winner h c s = some (h', gam_ w H s 0) ∧ CJ h' T W I U Q K S ∧ lb_ h h') ∧ (x ≠ 0 → ∃ h', Ch_opening h c s = some (h', gam_ w H s x) ∧ CJ h' T W I U Q K S ∧ lb_ h h') := by
  have c0 := k.1.1
  by_cases sz : s ≤ 0
  · refine ⟨⟨h, ?_, g, lb_refl h⟩, fun xz => ⟨h, ?_, g, lb_refl h⟩⟩
    · rw [Ch_winner_e, if_pos sz]
      unfold gam_
      rw [if_pos sz, if_neg (by omega)]
    · rw [Ch_opening_e, if_pos sz]
      unfold gam_
      rw [if_pos sz, if_pos xz]
  · obtain ⟨h1, ⟨a1, a2⟩, a3, a4, a5, a6, a7⟩ := Ch_wins (s := s) g h0 h5 w0 uu k ec s0 s1
    obtain ⟨h2, ⟨-, b2⟩, b3, b4, b5, b6, b7⟩ := Ch_wins (s := s) a3 h0 h5 w0 a4 a5 a6 s0 s1
    constructor
    · rw [Ch_winner_e, if_neg sz, ck_t (by omega), Ch_has_t k.1 s0 s1, bd_v, if_pos (by omega), ck_t (by omega), a1, bd_v]
      unfold gam_ cwin_
      rw [if_neg (c := s ≤ 0) sz, if_neg (c := (0 : Int) ≠ 0) (by omega)]
      by_cases q : gm_ w H s % 32 = 0
      · rw [if_pos q, if_pos q, ck_t (by omega), b2, bd_v, ck_t (by omega), Ch_allDepths_s b5.1, bd_v]
        by_cases r : gm_ w H s / 32 % 32 = alw_ w H
        · rw [if_neg (fun z => z r), if_neg (fun z => z r)]
          exact ⟨h2, rfl, b3, lb_tr a7 b7⟩
        · rw [if_pos r, if_pos r]
          exact ⟨h2, rfl, b3, lb_tr a7 b7⟩
      · rw [if_neg q, if_neg q]
        exact ⟨h1, rfl, a3, a7⟩
    · intro xz
      rw [Ch_opening_e, if_neg sz, ck_t (by omega), Ch_has_t k.1 s0 s1, bd_v, if_pos (by omega), ck_t (by omega), a1, bd_v]
      unfold gam_ copn_ ocm_
      rw [if_neg sz, if_pos xz]
      by_cases q : gm_ w H s % 32 = 0
      · rw [if_neg (fun z => z q), if_neg (fun z => z q), ck_t (by omega), b2, bd_v, ck_t (by omega), Ch_allDepths_s b5.1, bd_v]
        by_cases r : gm_ w H s / 32 % 32 = alw_ w H
        · rw [if_neg (fun z => z r), if_neg (fun z => z r)]
          exact ⟨h2, Ch_open_9 b5.1 h5 _ 1 (by omega) (by omega), b3, lb_tr a7 b7⟩
        · rw [if_pos r, if_pos r, ck_t (by omega), Ch_allDepths_s b5.1, bd_v]
          exact ⟨h2, Ch_open_9 b5.1 h5 _ 1 (by omega) (by omega), b3, lb_tr a7 b7⟩
      · rw [if_pos q, if_pos q]
        exact ⟨h1, Ch_open_9 a5.1 h5 _ 1 (by omega) (by omega), a3, a7⟩
theorem Pp_game_t (g : CJ h T W I U Q K S) (sv : SV T W I U Q) {p w x : Int} (p0 : 0 ≤ p) (p1 : p < T 0 1) (wq : w = 0 ∨ w = 1) (x0 : 0 ≤ x) (x1 : x ≤ 1) : ∃ h', Pp_game h 0 p w x = some (h', gam_ w (W 0 p) (stC T W p w) x) ∧ CJ h' T W I U Q K S ∧ lb_ h h' := by
  have v := sv.2.1
  have v0 := v.1
  have hh := v.2.1 p p0 p1
  have hh0 : 0 ≤ W 0 p := by omega
  have st := st_b (w := w) v p0 p1
  obtain ⟨h1, h2, c, a1, a2, g1, g2, b3, b4, b5, L⟩ := CJ_st g sv p0 p1 wq
  obtain ⟨r1, r2⟩ := Ch_game_s (x := x) g2 hh0 hh.2 wq b3 b4 b5 st.1 st.2.1
  have o := g.1.2.2.1
  obtain ⟨⟨w0, s6, s7, s8, s9, s10, s11, s12, s13, l1, l2, l3, l4, l5, l6, l7, l8⟩, ⟨e0, e1, e2, e3, e4, e5⟩, f1, f2, f3, f4, f5, f6, f7⟩ := id o
  have c0 := b4.1.1
  rw [Pp_game_e]
  simp only [cr0_7 g.1.1]
  rw [ck_t (by omega), ck_t (by omega), Wo_hasPile_t o p0 p1, bd_v, if_neg (by omega), if_neg (by omega), if_neg (by omega), if_neg (by omega), if_pos (by omega)]
  simp only [cr0_7 g.1.1, s6, l1, f1 p p0 p1]
  rw [ck_t (by omega), ck_t (by omega), ck_t (by omega), ck_t (by omega), ck_t (by omega), a1, bd_v]
  simp only [cr0_7 g1.1.1]
  rw [ck_t (by omega), ck_t (by omega), a2, bd_v]
  by_cases xz : x = 0
  · obtain ⟨h3, y1, y2, y3⟩ := r1
    rw [if_neg (fun z => z xz), ck_t (by omega), y1, bd_v, xz]
    exact ⟨h3, rfl, y2, lb_tr L y3⟩
  · obtain ⟨h3, y1, y2, y3⟩ := r2 xz
    rw [if_pos xz, ck_t (by omega), y1, bd_v]
    exact ⟨h3, rfl, y2, lb_tr L y3⟩
theorem Pp_game_f (g : CI h T W I U Q) {p w t : Int} (c : ¬ ((0 ≤ p ∧ p < T 0 1) ∧ (0 ≤ w ∧ w ≤ 1) ∧ 0 ≤ t ∧ t ≤ 1)) : Pp_game h 0 p w t = some (h, -1) := by
  have o := g.2.2.1
  rw [Pp_game_e]
  simp only [cr0_7 g.1]
  rw [ck_t (by omega), ck_t (by omega)]
  by_cases q : 0 ≤ p ∧ p < T 0 1
  · rw [Wo_hasPile_t o q.1 q.2, bd_v, if_neg (by omega)]
    by_cases r : w < 0
    · rw [if_pos r]
    · rw [if_neg r]
      by_cases r2 : 1 < w
      · rw [if_pos r2]
      · rw [if_neg r2]
        by_cases r3 : t < 0
        · rw [if_pos r3]
        · rw [if_neg r3, if_neg (fun z => c ⟨q, by omega, by omega, z⟩)]
  · rw [Wo_hasPile_f o q, bd_v, if_pos rfl]
end
