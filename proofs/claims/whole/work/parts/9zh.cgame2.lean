/-! the game in the class: told on, to the end -/
theorem tb_w {x e : Int} (x0 : 0 ≤ x) (e0 : 1 ≤ e) (e1 : e ≤ 5) : tbi_ (x % 32) (e - 1) = tbi_ x (e - 1) ∧ tbi_ (x / 32 % 32) (e - 1) = tbi_ x (e + 4) := by
  have : e = 1 ∨ e = 2 ∨ e = 3 ∨ e = 4 ∨ e = 5 := by omega
  unfold tbi_
  rcases this with q | q | q | q | q <;> subst q <;> simp only [Int.reduceToNat, Int.reducePow, Int.reduceSub, Int.reduceAdd] <;> omega
section
variable {u c a w H : Int}
theorem gm_al (g : GF w H) {s e : Int} (s0 : 0 ≤ s) (s1 : s < nN_ w H) (e0 : 1 ≤ e) (e1 : e ≤ 5) : (tbi_ (gm_ w H s) (e - 1) = 1 → 2 - w ≤ e ∧ e ≤ H) ∧ (tbi_ (gm_ w H s) (e + 4) = 1 → 2 - w ≤ e ∧ e ≤ H) ∧ ¬ (tbi_ (gm_ w H s) (e - 1) = 1 ∧ tbi_ (gm_ w H s) (e + 4) = 1) := by
  obtain ⟨a1, a2⟩ := Um_b g s0 s1 e0 e1
  have b := (g.2.2.1 s e s0 s1 e0 e1).2
  refine ⟨fun q => ?_, fun q => ?_, fun q => ?_⟩
  · have x := a1.mpr q
    by_cases z : 2 - w ≤ e ∧ e ≤ H
    · exact z
    · have := b z; omega
  · have x := a2.mpr q
    by_cases z : 2 - w ≤ e ∧ e ≤ H
    · exact z
    · have := b z; omega
  · have x := a1.mpr q.1
    have y := a2.mpr q.2
    omega
/-- what a state that is known tells those before it -/
theorem gm_tell (h0 : 0 ≤ H) (h5 : H ≤ 5) (w0 : w = 0 ∨ w = 1) {s d : Int} (s0 : 0 < s) (s1 : s < nN_ w H) (d0 : 2 - w ≤ d) (d1 : d ≤ H) (nz : nC_ w H s d ≠ 0) : (tbi_ (gm_ w H (nC_ w H s d)) (d + 4) = 1 ↔ ∃ e, 2 - w ≤ e ∧ e ≤ H ∧ e ≠ d ∧ tbi_ (gm_ w H s) (e - 1) = 1) ∧ (tbi_ (gm_ w H (nC_ w H s d)) (d - 1) = 1 ↔ ∀ e, 2 - w ≤ e → e ≤ H → e ≠ d → tbi_ (gm_ w H s) (e + 4) = 1) := by
  have g := GF_ h0 h5 w0
  have nb := nC_b (w := w) h0 h5 s d (by omega) s1 (by omega) d1
  have inv := nC_nC (w := w) h0 h5 (by omega : 0 ≤ s) s1 (by omega : 1 ≤ d) d1
  have d1' : 1 ≤ d := by omega
  have d5 : d ≤ 5 := by omega
  have s0' : 0 ≤ s := by omega
  have sn : s ≠ 0 := by omega
  have ee : ∀ e, 2 - w ≤ e → e ≤ H → 1 ≤ e ∧ e ≤ 5 := fun e a1 a2 => by omega
  have F := g.2.2.2 (nC_ w H s d) d (by omega) nb.2 d0 d1
  rw [inv] at F
  obtain ⟨f1, f2, -, -⟩ := F.2 sn
  obtain ⟨u1, u2⟩ := Um_b g nb.1 nb.2 d1' d5
  rw [← u1, ← u2, f1, f2]
  constructor
  · constructor
    · intro ⟨e, a1, a2, a3, a4⟩
      exact ⟨e, a1, a2, a3, (Um_b g s0' s1 (ee e a1 a2).1 (ee e a1 a2).2).1.mp a4⟩
    · intro ⟨e, a1, a2, a3, a4⟩
      exact ⟨e, a1, a2, a3, (Um_b g s0' s1 (ee e a1 a2).1 (ee e a1 a2).2).1.mpr a4⟩
  · constructor
    · intro z e a1 a2 a3
      exact (Um_b g s0' s1 (ee e a1 a2).1 (ee e a1 a2).2).2.mp (z e a1 a2 a3)
    · intro z e a1 a2 a3
      exact (Um_b g s0' s1 (ee e a1 a2).1 (ee e a1 a2).2).2.mpr (z e a1 a2 a3)
theorem Ch_tell_1 (h0 : 0 ≤ H) (h5 : H ≤ 5) (w0 : w = 0 ∨ w = 1) (ca : c + 4 ≤ a) (ua : u + 3 ≤ a) {cnt s x : Int} (s0 : 0 < s) (s1 : s < nN_ w H) (x0 : 0 ≤ x) (x1 : x < 1024) (xs : ∀ j, 0 ≤ j → j < 10 → tbi_ x j = 1 → tbi_ (gm_ w H s) j = 1) : ∀ (n : Nat) (d : Int) (h : am_H) (m st : Int → Int) (k : Int), 1 ≤ d → d + n = H + 1 → CHs h u c w H → CHu h u → GH h c a (nN_ w H) m st k → GJ w H m st k cnt s → (m s = x ∨ 1024 ≤ m s) → TDx w H m s x d → ∃ h' m' st' k', Ch_tellThoseBefore_1 h c s (alw_ w H) (x % 32) (x / 32 % 32) d = some (h', 0) ∧ GH h' c a (nN_ w H) m' st' k' ∧ GJ w H m' st' k' cnt s ∧ mo_le (nN_ w H) m m' ∧ (m' s = x ∨ 1024 ≤ m' s) ∧ TDx w H m' s x 6 ∧ gfr_ h h' c a := by
  intro n
  have g := GF_ h0 h5 w0
  induction n with
  | zero =>
    intro d h m st k d0 hd S U G J ms td
    have S1 := S.1
    refine ⟨h, m, st, k, ?_, G, J, fun _ _ _ _ _ _ e => e, ms, fun e e0 e1 e2 nz => td e e0 e1 (by omega) nz, gfr_refl _ _ _⟩
    rw [Ch_tellThoseBefore_1_e, ck_t (by omega), S.2.2.1.1, if_pos (by omega)]
  | succ n ih =>
    intro d h m st k d0 hd S U G J ms td
    have S1 := S.1
    have d5 : d ≤ 5 := by omega
    obtain ⟨b1, b2, b3⟩ := x3_ d0 d5
    obtain ⟨-, c2, c3⟩ := x4_ (w := w) h0 h5 w0 d0 d5
    have eb : w32 (1 * 2 ^ ((w32 (d - 1)) % 32 : Int).toNat) = bw_ d := rfl
    have eb2 : w32 (bw_ d * 2 ^ (5 % 32 : Int).toNat) = bs2_ d := rfl
    rw [Ch_tellThoseBefore_1_e, ck_t (by omega), S.2.2.1.1, if_neg (by omega), eb, w32_i (x := d + 1) (by omega) (by omega)]
    have go : ∀ h1 m1 st1 k1, CHs h1 u c w H → CHu h1 u → GH h1 c a (nN_ w H) m1 st1 k1 → GJ w H m1 st1 k1 cnt s → (m1 s = x ∨ 1024 ≤ m1 s) → mo_le (nN_ w H) m m1 → gfr_ h h1 c a → (2 - w ≤ d → nC_ w H s d ≠ 0 → ((∃ e, 2 - w ≤ e ∧ e ≤ H ∧ e ≠ d ∧ tbi_ x (e - 1) = 1) → tbi_ (m1 (nC_ w H s d)) (d + 4) = 1) ∧ ((∀ e, 2 - w ≤ e → e ≤ H → e ≠ d → tbi_ x (e + 4) = 1) → tbi_ (m1 (nC_ w H s d)) (d - 1) = 1)) → ∃ h' m' st' k', Ch_tellThoseBefore_1 h1 c s (alw_ w H) (x % 32) (x / 32 % 32) (d + 1) = some (h', 0) ∧ GH h' c a (nN_ w H) m' st' k' ∧ GJ w H m' st' k' cnt s ∧ mo_le (nN_ w H) m m' ∧ (m' s = x ∨ 1024 ≤ m' s) ∧ TDx w H m' s x 6 ∧ gfr_ h h' c a := by
      intro h1 m1 st1 k1 S1 U1 G1 J1 ms1 mo gf new
      obtain ⟨h', m', st', k', y1, y2, y3, y4, y5, y6, y7⟩ := ih (d + 1) h1 m1 st1 k1 (by omega) (by omega) S1 U1 G1 J1 ms1 (by
        intro e e0 e1 e2 nz
        by_cases q : e = d
        · rw [q] at e0 nz ⊢
          exact new e0 nz
        · exact TD_mo h0 h5 w0 (by omega) s1 td mo e e0 e1 (by omega) nz)
      exact ⟨h', m', st', k', y1, y2, y3, mo_tr mo y4, y5, y6, gfr_tr gf y7⟩
    have sw : ∀ e, 1 ≤ e → e ≤ 5 → (tbi_ (x % 32) (e - 1) = tbi_ x (e - 1) ∧ tbi_ (x / 32 % 32) (e - 1) = tbi_ x (e + 4)) := fun e e0 e1 => tb_w x0 e0 e1
    by_cases al : 2 - w ≤ d
    · have nb := nC_b (w := w) h0 h5 s d (by omega) s1 d0 (by omega)
      rw [if_pos (c2.mpr ⟨al, by omega⟩)]
      have b3x := b3 (x % 32) (by omega) (by omega)
      have c3x := c3 ⟨al, by omega⟩ (x / 32 % 32) (by omega) (by omega) (fun e e0 e1 t => by
        rw [(sw e e0 e1).2] at t
        exact (gm_al g (by omega) s1 e0 e1).2.1 (xs _ (by omega) (by omega) t))
      by_cases wz : an_ (x % 32) (xo_ (bw_ d) (-1)) = 0
      · have nw := b3x.mp wz
        rw [if_pos wz]
        have no1 : ¬ ∃ e, 2 - w ≤ e ∧ e ≤ H ∧ e ≠ d ∧ tbi_ x (e - 1) = 1 := fun ⟨e, a1, a2, a3, a4⟩ => by
          have := nw e (by omega) (by omega) a3
          rw [(sw e (by omega) (by omega)).1] at this
          omega
        by_cases lz : or_ (x / 32 % 32) (bw_ d) = alw_ w H
        · have al2 := c3x.mp lz
          have al3 : ∀ e, 2 - w ≤ e → e ≤ H → e ≠ d → tbi_ x (e + 4) = 1 := fun e a1 a2 a3 => by
            have := al2 e a1 a2 a3
            rw [(sw e (by omega) (by omega)).2] at this
            exact this
          rw [if_neg (fun z => z lz), ck_t (by omega), Ch_turned_s h0 h5 w0 U S (by omega) s1 d0 (by omega), bd_v, ck_t (by omega), b1]
          obtain ⟨h1, m1, st1, k1, y1, y2, y3, y4, y5, y6, y7⟩ := Ch_mark_s (t := nC_ w H s d) (j := d - 1) h0 h5 w0 (by omega) ca G J nb.1 nb.2 (by omega) (by omega) (fun nz => (gm_tell h0 h5 w0 s0 s1 al (by omega) nz).2.mpr (fun e a1 a2 a3 => xs _ (by omega) (by omega) (al3 e a1 a2 a3)))
          rw [y1, bd_v]
          exact go h1 m1 st1 k1 (CHs_g S y7 ca) (CHu_g U y7 ua S1.2.2) y2 y3 (by rcases y6 with q | q <;> rcases ms with r | r <;> omega) y4 y7 (fun _ nz => ⟨fun q => absurd q no1, fun _ => y5 nz⟩)
        · rw [if_pos lz]
          exact go h m st k S U G J ms (fun _ _ _ _ _ _ e => e) (gfr_refl _ _ _) (fun _ nz => ⟨fun q => absurd q no1, fun q => absurd (c3x.mpr (fun e a1 a2 a3 => by rw [(sw e (by omega) (by omega)).2]; exact q e a1 a2 a3)) lz⟩)
      · rw [if_neg wz]
        have ex : ∃ e, 2 - w ≤ e ∧ e ≤ H ∧ e ≠ d ∧ tbi_ x (e - 1) = 1 := by
          apply Classical.byContradiction
          intro ne
          apply wz
          rw [b3x]
          intro e e0 e1 e2
          rw [(sw e e0 e1).1]
          rcases tb_01 x (e - 1) with q | q
          · exact q
          · have := (gm_al g (by omega) s1 e0 e1).1 (xs _ (by omega) (by omega) q)
            exact absurd ⟨e, this.1, this.2, e2, q⟩ ne
        rw [ck_t (by omega), Ch_turned_s h0 h5 w0 U S (by omega) s1 d0 (by omega), bd_v, ck_t (by omega), eb2, b2]
        obtain ⟨h1, m1, st1, k1, y1, y2, y3, y4, y5, y6, y7⟩ := Ch_mark_s (t := nC_ w H s d) (j := d + 4) h0 h5 w0 (by omega) ca G J nb.1 nb.2 (by omega) (by omega) (fun nz => (gm_tell h0 h5 w0 s0 s1 al (by omega) nz).1.mpr (by
          obtain ⟨e, a1, a2, a3, a4⟩ := ex
          exact ⟨e, a1, a2, a3, xs _ (by omega) (by omega) a4⟩))
        rw [y1, bd_v]
        exact go h1 m1 st1 k1 (CHs_g S y7 ca) (CHu_g U y7 ua S1.2.2) y2 y3 (by rcases y6 with q | q <;> rcases ms with r | r <;> omega) y4 y7 (fun _ nz => ⟨fun _ => y5 nz, fun q => by
          obtain ⟨e, a1, a2, a3, a4⟩ := ex
          have q2 := xs _ (by omega) (by omega) (q e a1 a2 a3)
          have q1 := xs _ (by omega) (by omega) a4
          exact absurd ⟨q1, q2⟩ (gm_al g (by omega) s1 (by omega) (by omega)).2.2⟩)
    · rw [if_neg (fun q => al (c2.mp q).1)]
      exact go h m st k S U G J ms (fun _ _ _ _ _ _ e => e) (gfr_refl _ _ _) (fun q => absurd q al)
theorem GJ_pp {m st : Int → Int} {k cnt s0 : Int} (h0 : 0 ≤ H) (h5 : H ≤ 5) (J : GJ w H m st k cnt s0) : cnt + k ≤ 10 * nN_ w H := by
  have nv := nN_v (w := w) h0 h5
  have q : ∀ n : Nat, sm_ (fun s => pp_ (m s)) n ≤ 10 * n := by
    intro n
    induction n with
    | zero => exact Int.le_refl _
    | succ n ih =>
      have e : sm_ (fun s => pp_ (m s)) (n + 1) = sm_ (fun s => pp_ (m s)) n + pp_ (m n) := rfl
      have := pp_b (m n)
      rw [e]
      omega
  have := q (nN_ w H).toNat
  have := J.2.2.2.2.1
  omega
theorem Ch_play_8 (h0 : 0 ≤ H) (h5 : H ≤ 5) (w0 : w = 0 ∨ w = 1) (ca : c + 4 ≤ a) (ua : u + 3 ≤ a) : ∀ (n : Nat) (i : Int) (h : am_H) (m st : Int → Int) (k : Int), 0 ≤ i → i + n = 10 * nN_ w H → CHs h u c w H → CHu h u → GH h c a (nN_ w H) m st k → GJ w H m st k i 0 → ∃ h' m' st', Ch_playAll_8 h c (alw_ w H) i = some (h', 0) ∧ GH h' c a (nN_ w H) m' st' 0 ∧ GJ w H m' st' 0 0 0 ∧ mo_le (nN_ w H) m m' ∧ gfr_ h h' c a := by
  intro n
  have nv := nN_v (w := w) h0 h5
  induction n with
  | zero =>
    intro i h m st k i0 hi S U G J
    have S1 := S.1
    have kk := GJ_pp h0 h5 J
    have k0 := J.2.2.2.1.1
    have ek : k = 0 := by omega
    rw [ek] at G J
    refine ⟨h, m, st, ?_, G, ⟨J.1, J.2.1, J.2.2.1, J.2.2.2.1, by have := J.2.2.2.2.1; omega, J.2.2.2.2.2⟩, fun _ _ _ _ _ _ e => e, gfr_refl _ _ _⟩
    rw [Ch_playAll_8_e, ck_t (by omega), S.2.2.1.2.2, w32_i (by omega) (by omega), if_pos (by omega)]
  | succ n ih =>
    intro i h m st k i0 hi S U G J
    have S1 := S.1
    obtain ⟨⟨g1, g2⟩, ⟨g3, g4⟩, g5, g6, g7⟩ := id G
    obtain ⟨⟨ja, ja0⟩, jb, jc, ⟨jd, jd1, jd2⟩, jf, je⟩ := id J
    rw [Ch_playAll_8_e, ck_t (by omega), S.2.2.1.2.2, w32_i (x := 10 * nN_ w H) (by omega) (by omega), if_neg (by omega), ck_t (by omega), g7]
    by_cases kz : k ≤ 0
    · have ek : k = 0 := by omega
      rw [if_pos kz]
      rw [ek] at G J
      exact ⟨h, m, st, rfl, G, ⟨J.1, J.2.1, J.2.2.1, J.2.2.2.1, by have := J.2.2.2.2.1; omega, J.2.2.2.2.2⟩, fun _ _ _ _ _ _ e => e, gfr_refl _ _ _⟩
    · have sk := jd1 (k - 1) (by omega) (by omega)
      have mq := (jc (st (k - 1)) (by omega) sk.2).mpr ⟨k - 1, by omega, by omega, rfl⟩
      have mr := ja (st (k - 1)) (by omega) sk.2
      have kb := GJ_pp h0 h5 J
      have k1 : k ≤ nN_ w H := by
        have := pg_l1 (nN_ w H).toNat st k.toNat (fun i i0 i1 => by have := jd1 i i0 (by omega); omega) (fun i j a1 a2 a3 => jd2 i j a1 a2 (by omega))
        omega
      have e10 : rd_ (wr_ h c 10 (w32 (k - 1))) c 10 = k - 1 := by rw [rd_ws, w32_i (by omega) (by omega)]
      have e11 : rd_ (wr_ h c 10 (w32 (k - 1))) (a + 1) (k - 1) = st (k - 1) := by rw [rd_wo (by omega)]; exact g6 (k - 1) (by omega) (by omega)
      have e12 : rd_ (wr_ h c 10 (w32 (k - 1))) a (st (k - 1)) = m (st (k - 1)) := by rw [rd_wo (by omega)]; exact g5 _ (by omega) sk.2
      obtain ⟨-, -, y3, -⟩ := x2_ mr.1 mr.2
      rw [if_neg kz]
      simp only [g1, g2, g3, g4, e10, e11, e12, y3 mq]
      rw [ck_t (by omega), ck_t (by omega), ck_t (by omega), ck_t (by omega), ck_t (by omega), ck_t (by omega), ck_t (by omega), ck_t (by omega), ck_t (by omega), ck_t (by omega), ck_t (by omega), ck_t (by omega)]
      generalize hs : st (k - 1) = s at *
      have x0 : 0 ≤ m s - 1024 := by omega
      have x1 : m s - 1024 < 1024 := by omega
      have xb : ∀ j, 0 ≤ j → j < 10 → tbi_ (m s - 1024) j = tbi_ (m s) j := fun j j0 j1 => by
        have := tb_1024 x0 x1 j0 j1
        rw [show m s - 1024 + 1024 = m s by omega] at this
        exact this.symm
      have gf : gfr_ h (wr_ (wr_ h c 10 (w32 (k - 1))) a s (m s - 1024)) c a := gfr_tr gfr_c gfr_a
      have G1 : GH (wr_ (wr_ h c 10 (w32 (k - 1))) a s (m s - 1024)) c a (nN_ w H) (ud_ m s (m s - 1024)) st (k - 1) := ⟨⟨g1, g2⟩, ⟨g3, g4⟩, RW_wr (RW_o g5 (by omega)) _ _, fun i i0 i1 => by rw [rd_wo (by omega), rd_wo (by omega)]; exact g6 i i0 (by omega), by rw [rd_wo (by omega)]; exact e10⟩
      have moe : mo_le (nN_ w H) m (ud_ m s (m s - 1024)) := by
        intro s' j a1 a2 a3 a4 e
        by_cases q : s' = s
        · rw [q, ud_s, xb j a3 a4]; rw [q] at e; exact e
        · rw [ud_o q]; exact e
      have J1 : GJ w H (ud_ m s (m s - 1024)) st (k - 1) (i + 1) s := by
        refine ⟨⟨fun s' a1 a2 => ?_, ?_⟩, ?_, fun s' a1 a2 => ?_, ⟨by omega, fun i i0 i1 => jd1 i i0 (by omega), fun i j a1 a2 a3 => jd2 i j a1 a2 (by omega)⟩, ?_, ?_⟩
        · by_cases q : s' = s
          · rw [q, ud_s]; omega
          · rw [ud_o q]; exact ja s' a1 a2
        · rw [ud_o (by omega)]; exact ja0
        · intro s' j a1 a2 a3 a4 e
          by_cases q : s' = s
          · rw [q, ud_s, xb j a3 a4] at e
            rw [q]
            exact jb s j (by omega) sk.2 a3 a4 e
          · rw [ud_o q] at e
            exact jb s' j a1 a2 a3 a4 e
        · by_cases q : s' = s
          · rw [q, ud_s]
            constructor
            · intro z; omega
            · intro ⟨i', b1, b2, b3⟩
              have := jd2 i' (k - 1) b1 (by omega) (by omega)
              rw [b3, hs] at this
              exact absurd rfl this
          · rw [ud_o q, jc s' a1 a2]
            constructor
            · intro ⟨i', b1, b2, b3⟩
              refine ⟨i', b1, ?_, b3⟩
              have : i' ≠ k - 1 := fun z => q (by rw [← b3, z, hs])
              omega
            · intro ⟨i', b1, b2, b3⟩
              exact ⟨i', b1, by omega, b3⟩
        · have := sm_c (f := fun s' => pp_ (ud_ m s (m s - 1024) s')) (g := fun s' => pp_ (m s')) (nN_ w H).toNat (fun s' a1 a2 => by
            show pp_ _ = pp_ _
            by_cases q : s' = s
            · have e := pp_1024 x0 x1
              rw [show m s - 1024 + 1024 = m s by omega] at e
              rw [q, ud_s, e]
            · rw [ud_o q])
          rw [this]
          omega
        · intro s' a1 a2 a3 a4
          rw [ud_o a3] at a4 ⊢
          exact TD_mo h0 h5 w0 (by omega) a2 (je s' a1 a2 (by omega) a4) moe
      have S2 := CHs_g S gf ca
      have U2 := CHu_g U gf ua S1.2.2
      obtain ⟨h2, m2, st2, k2, z1, z2, z3, z4, z5, z6, z7⟩ := Ch_tell_1 (cnt := i + 1) (x := m s - 1024) h0 h5 w0 ca ua sk.1 sk.2 x0 x1 (fun j j0 j1 e => by rw [xb j j0 j1] at e; exact jb s j (by omega) sk.2 j0 j1 e) H.toNat 1 _ _ st (k - 1) (by omega) (by omega) S2 U2 G1 J1 (Or.inl (ud_s _ _ _)) (fun d e0 e1 e2 => by omega)
      have S3 := CHs_g S2 z7 ca
      have U3 := CHu_g U2 z7 ua S2.1.2.2
      have J3 : GJ w H m2 st2 k2 (i + 1) 0 := ⟨z3.1, z3.2.1, z3.2.2.1, z3.2.2.2.1, z3.2.2.2.2.1, fun s' a1 a2 a3 a4 => by
        by_cases q : s' = s
        · rw [q] at a4 ⊢
          rcases z5 with y | y
          · rw [y]; exact z6
          · omega
        · exact z3.2.2.2.2.2 s' a1 a2 q a4⟩
      obtain ⟨h3, m3, st3, v1, v2, v3, v4, v5⟩ := ih (i + 1) h2 m2 st2 k2 (by omega) (by omega) S3 U3 z2 J3
      refine ⟨h3, m3, st3, ?_, v2, v3, mo_tr moe (mo_tr z4 v4), gfr_tr gf (gfr_tr z7 v5)⟩
      have ev : rd_ (wr_ (wr_ h c 10 (w32 (k - 1))) a s (m s - 1024)) a s = m s - 1024 := rd_ws _ _ _ _
      have tl : Ch_tellThoseBefore (wr_ (wr_ h c 10 (w32 (k - 1))) a s (m s - 1024)) c s (alw_ w H) = some (h2, 0) := by
        obtain ⟨-, -, -, w4, w5⟩ := x2_ (x := m s - 1024) x0 (by omega)
        rw [Ch_tellThoseBefore_e]
        simp only [G1.1.1, G1.2.1.1, ev, w4, w5]
        rw [ck_t (by omega), ck_t (by omega), ck_t (by omega), ck_t (by omega), ck_t (by omega), ck_t (by omega)]
        exact z1
      rw [tl, bd_v, w32_i (x := i + 1) (by omega) (by omega), v1]
/-- at the end all is marked -/
theorem GJ_end (h0 : 0 ≤ H) (h5 : H ≤ 5) (w0 : w = 0 ∨ w = 1) {m st : Int → Int} (J : GJ w H m st 0 0 0) (ini : ∀ d, 2 - w ≤ d → d ≤ H → nC_ w H 0 d ≠ 0 → tbi_ (m (nC_ w H 0 d)) (d - 1) = 1) : ∀ (n : Nat) (s d : Int), 0 < s → s < nN_ w H → 2 - w ≤ d → d ≤ H → Ur w H s d < n → (Um w H s d = 1 → tbi_ (m s) (d - 1) = 1) ∧ (Um w H s d = 2 → tbi_ (m s) (d + 4) = 1) := by
  intro n
  have g := GF_ h0 h5 w0
  obtain ⟨⟨ja, ja0⟩, jb, jc, jd, jf, je⟩ := id J
  have lo : ∀ s, 0 ≤ s → s < nN_ w H → m s < 1024 := fun s s0 s1 => by
    apply Classical.byContradiction
    intro q
    obtain ⟨i, a1, a2, _⟩ := (jc s s0 s1).mp (by omega)
    omega
  induction n with
  | zero => intro s d _ _ _ _ q; omega
  | succ n ih =>
    intro s d s0 s1 d0 d1 q
    have nb := nC_b (w := w) h0 h5 s d (by omega) s1 (by omega) d1
    have inv := nC_nC (w := w) h0 h5 (by omega : 0 ≤ s) s1 (by omega : 1 ≤ d) d1
    have F := fun (_ : Unit) => g.2.2.2 s d s0 s1 d0 d1
    by_cases tz : nC_ w H s d = 0
    · have e1 := (F ()).1 tz
      rw [tz] at inv
      refine ⟨fun _ => ?_, fun e => by omega⟩
      have := ini d d0 d1 (by omega)
      rw [inv] at this
      exact this
    · have t0 : 0 < nC_ w H s d := by omega
      have sne : nC_ w H (nC_ w H s d) d ≠ 0 := by rw [inv]; omega
      have d6 : d < 6 := by omega
      have rk : ∀ e', Ur w H (nC_ w H s d) e' < Ur w H s d → Ur w H (nC_ w H s d) e' < n := fun e' r => by omega
      have td := je (nC_ w H s d) t0 nb.2 tz (lo _ nb.1 nb.2) d d0 d1 d6 sne
      rw [inv] at td
      refine ⟨fun e => td.2 (fun e' b1 b2 b3 => (ih (nC_ w H s d) e' t0 nb.2 b1 b2 (rk e' (((F ()).2 tz).2.2.1 e e' b1 b2 b3))).2 (((F ()).2 tz).2.1.mp e e' b1 b2 b3)), fun e => td.1 ?_⟩
      obtain ⟨e', b1, b2, b3, b4, b5⟩ := ((F ()).2 tz).2.2.2 e
      exact ⟨e', b1, b2, b3, (ih (nC_ w H s d) e' t0 nb.2 b1 b2 (rk e' b5)).1 b4⟩
theorem GJ_gm (h0 : 0 ≤ H) (h5 : H ≤ 5) (w0 : w = 0 ∨ w = 1) {m st : Int → Int} (J : GJ w H m st 0 0 0) (ini : ∀ d, 2 - w ≤ d → d ≤ H → nC_ w H 0 d ≠ 0 → tbi_ (m (nC_ w H 0 d)) (d - 1) = 1) {s : Int} (s0 : 0 ≤ s) (s1 : s < nN_ w H) : m s = gm_ w H s := by
  have g := GF_ h0 h5 w0
  obtain ⟨⟨ja, ja0⟩, jb, jc, jd, jf, je⟩ := id J
  have lo : m s < 1024 := by
    apply Classical.byContradiction
    intro q
    obtain ⟨i, a1, a2, _⟩ := (jc s s0 s1).mp (by omega)
    omega
  have gl := g.1 s s0 s1
  have g0 : 0 ≤ gm_ w H s := by unfold gm_; omega
  refine tb_eq (ja s s0 s1).1 lo g0 gl (fun j j0 j1 => ?_)
  rcases tb_01 (m s) j with q | q
  · rcases tb_01 (gm_ w H s) j with r | r
    · rw [q, r]
    · exfalso
      by_cases sz : s = 0
      · rw [sz, g.2.1] at r
        unfold tbi_ at r
        rw [Int.zero_ediv] at r
        omega
      · by_cases j5 : j < 5
        · have al := (gm_al g s0 s1 (e := j + 1) (by omega) (by omega)).1 (by rw [show j + 1 - 1 = j by omega]; exact r)
          have um := (Um_b g s0 s1 (d := j + 1) (by omega) (by omega)).1.mpr (by rw [show j + 1 - 1 = j by omega]; exact r)
          have := (GJ_end h0 h5 w0 J ini (Ur w H s (j + 1) + 1) s (j + 1) (by omega) s1 al.1 al.2 (by omega)).1 um
          rw [show j + 1 - 1 = j by omega] at this
          omega
        · have al := (gm_al g s0 s1 (e := j - 4) (by omega) (by omega)).2.1 (by rw [show j - 4 + 4 = j by omega]; exact r)
          have um := (Um_b g s0 s1 (d := j - 4) (by omega) (by omega)).2.mpr (by rw [show j - 4 + 4 = j by omega]; exact r)
          have := (GJ_end h0 h5 w0 J ini (Ur w H s (j - 4) + 1) s (j - 4) (by omega) s1 al.1 al.2 (by omega)).2 um
          rw [show j - 4 + 4 = j by omega] at this
          omega
  · rw [q, jb s j s0 s1 j0 j1 q]
end
