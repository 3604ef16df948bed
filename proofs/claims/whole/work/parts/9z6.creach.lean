/-! could in the class -/
/-- one chart is written on -/
def hx_ (h h' : am_H) (c : Int) : Prop := nn_ h ≤ nn_ h' ∧ ∀ a, 144 ≤ a → a < nn_ h → (∀ k, (a = c → k ≠ 10) → rd_ h' a k = rd_ h a k) ∧ (∀ k, (a = c → k ≠ 7 ∧ k ≠ 8 ∧ k ≠ 9) → rf_ h' a k = rf_ h a k) ∧ ln_ h' a = ln_ h a
theorem nN_11 {w H : Int} (h0 : 0 ≤ H) (h5 : H ≤ 5) (w0 : w = 0 ∨ w = 1) : nN_ w H ≠ 11 := by
  obtain ⟨n, e, hn⟩ := h5_ h0 h5
  subst e
  rcases w0 with q | q <;> subst q <;> rcases hn with q | q | q | q | q | q <;> subst q <;> decide +kernel
theorem CHu_hx {h h' : am_H} {u c : Int} (s : CHu h u) (lc : ln_ h c = 11) (f : hx_ h h' c) : CHu h' u := by
  obtain ⟨s1, s2, s3, s4, s5⟩ := s
  have A := f.2
  have n := f.1
  have n1 : u + 1 ≠ c := fun e => by rw [← e] at lc; omega
  have n2 : u + 2 ≠ c := fun e => by rw [← e] at lc; omega
  exact ⟨⟨s1.1, by omega⟩, by rw [(A u (by omega) (by omega)).2.1 0 (by omega), (A u (by omega) (by omega)).2.1 1 (by omega)]; exact s2, by rw [(A (u + 1) (by omega) (by omega)).2.2, (A (u + 2) (by omega) (by omega)).2.2]; exact s3, fun k p q => by rw [(A (u + 1) (by omega) (by omega)).1 k (fun e => absurd e n1)]; exact s4 k p q, fun k p q => by rw [(A (u + 2) (by omega) (by omega)).1 k (fun e => absurd e n2)]; exact s5 k p q⟩
section
variable {h h' : am_H} {u c c' w H : Int}
theorem CHs_hx (s : CHs h u c' w H) (f : hx_ h h' c) : CHs h' u c' w H := by
  obtain ⟨S1, S2, S3, S4, S5, S6, S7⟩ := s
  have A := f.2
  have n := f.1
  have C := A c' (by omega) (by omega)
  exact ⟨⟨by omega, by omega, by rw [C.2.2]; exact S1.2.2⟩, by rw [C.2.1 0 (by omega)]; exact S2, by rw [C.1 1 (by omega), C.1 2 (by omega), C.1 3 (by omega)]; exact S3, by rw [C.2.1 4 (by omega), C.2.1 5 (by omega), C.2.1 6 (by omega)]; exact S4, by rw [(A (c' + 1) (by omega) (by omega)).2.2]; exact S5, by rw [(A (c' + 2) (by omega) (by omega)).2.2]; exact S6, by rw [(A (c' + 3) (by omega) (by omega)).2.2]; exact S7⟩
theorem CHv_hx (h0 : 0 ≤ H) (h5 : H ≤ 5) (w0 : w = 0 ∨ w = 1) (s : CHs h u c' w H) (v : CHv h c' w H) (lc : ln_ h c = 11) (f : hx_ h h' c) : CHv h' c' w H := by
  obtain ⟨S1, S2, S3, S4, S5, S6, S7⟩ := s
  have A := f.2
  have nn := nN_11 h0 h5 w0
  have n1 : c' + 1 ≠ c := fun e => by rw [← e] at lc; omega
  have n2 : c' + 2 ≠ c := fun e => by rw [← e] at lc; omega
  have n3 : c' + 3 ≠ c := fun e => by rw [← e] at lc; omega
  exact ⟨fun k p q => by rw [(A (c' + 2) (by omega) (by omega)).1 k (fun e => absurd e n2)]; exact v.1 k p q, fun k p q => by rw [(A (c' + 3) (by omega) (by omega)).1 k (fun e => absurd e n3)]; exact v.2.1 k p q, fun k p q => by rw [(A (c' + 1) (by omega) (by omega)).1 k (fun e => absurd e n1)]; exact v.2.2 k p q⟩
theorem CHr_hx (v : CHr h c' w H) (lc : ln_ h c = 11) (f : hx_ h h' c) (e : rf_ h' c' 7 = rf_ h c' 7) : CHr h' c' w H := by
  obtain ⟨s1, s2, s3, s4⟩ := v
  have A := f.2
  have n := f.1
  have n1 : rf_ h c' 7 ≠ c := fun e => by rw [← e] at lc; omega
  unfold CHr
  rw [e]
  exact ⟨s1, by omega, by rw [(A _ s1 s2).2.2]; exact s3, fun k p q => by rw [(A _ s1 s2).1 k (fun e => absurd e n1)]; exact s4 k p q⟩
theorem CHm_hx (h0 : 0 ≤ H) (h5 : H ≤ 5) (w0 : w = 0 ∨ w = 1) (v : CHm h c' w H) (lc : ln_ h c = 11) (f : hx_ h h' c) (e : rf_ h' c' 8 = rf_ h c' 8) : CHm h' c' w H := by
  obtain ⟨s1, s2, s3, s4⟩ := v
  have A := f.2
  have n := f.1
  have nn := nN_11 h0 h5 w0
  have n1 : rf_ h c' 8 ≠ c := fun e => by rw [← e] at lc; omega
  unfold CHm
  rw [e]
  exact ⟨s1, by omega, by rw [(A _ s1 s2).2.2]; exact s3, fun k p q => by rw [(A _ s1 s2).1 k (fun e => absurd e n1)]; exact s4 k p q⟩
theorem CHc_hx (h0 : 0 ≤ H) (h5 : H ≤ 5) (w0 : w = 0 ∨ w = 1) (s : CHc h u c' w H) (lc : ln_ h c = 11) (n : c' ≠ c) (f : hx_ h h' c) : CHc h' u c' w H := by
  obtain ⟨s1, s2, s3, s4⟩ := s
  have A := f.2 c' s1.1.1 (by have := s1.1; omega)
  refine ⟨CHs_hx s1 f, CHv_hx h0 h5 w0 s1 s2 lc f, ?_, ?_⟩
  · have e := A.2.1 7 (fun e => absurd e n)
    rcases s3 with q | q
    · exact Or.inl (by rw [e]; exact q)
    · exact Or.inr (CHr_hx q lc f e)
  · have e := A.2.1 8 (fun e => absurd e n)
    rcases s4 with q | q
    · exact Or.inl (by rw [e]; exact q)
    · exact Or.inr (CHm_hx h0 h5 w0 q lc f e)
end
/-- all charts, one of them written on -/
theorem CH_hx {h h' : am_H} {c w H : Int} (g : CH h) (h0 : 0 ≤ H) (h5 : H ≤ 5) (w0 : w = 0 ∨ w = 1) (uu : CHu h (rf_ h 0 16)) (k : CHc h (rf_ h 0 16) c w H) (ec : rf_ h 90 (6 * w + H) = c) (f : hx_ h h' c) (e16 : rf_ h' 0 16 = rf_ h 0 16) (e90 : ∀ i, rf_ h' 90 i = rf_ h 90 i) (k7 : rf_ h' c 7 = -1 ∨ CHr h' c w H) (k8 : rf_ h' c 8 = -1 ∨ CHm h' c w H) : CH h' ∧ CHu h' (rf_ h' 0 16) ∧ CHc h' (rf_ h' 0 16) c w H ∧ rf_ h' 90 (6 * w + H) = c := by
  have lc := k.1.1.2.2
  have u0 := uu.1
  have U := CHu_hx uu lc f
  have C : CHc h' (rf_ h 0 16) c w H := ⟨CHs_hx k.1 f, CHv_hx h0 h5 w0 k.1 k.2.1 lc f, k7, k8⟩
  rw [e16, e90]
  refine ⟨Or.inr ⟨by rw [e16]; exact U, fun w' H' w0' h0' h5' => ?_⟩, U, C, ec⟩
  rw [e16, e90]
  by_cases z : w' = w ∧ H' = H
  · rw [z.1, z.2, ec]
    exact Or.inr C
  · rcases g with ⟨a, _⟩ | ⟨_, b⟩
    · omega
    · rcases b w' H' w0' h0' h5' with q | q
      · exact Or.inl q
      · refine Or.inr (CHc_hx h0' h5' w0' q lc (fun e => z ?_) f)
        have x := q.1.2.2.1
        have y := k.1.2.2.1
        rw [e] at x
        omega
/-- the search by even and odd -/
def CR (h : am_H) (a N : Int) (b : Br) : Prop := RW h a N b.1 ∧ ∀ i, 0 ≤ i → i < b.2.2.2 → rd_ h (a + 1) i = b.2.2.1 i
section
variable {u c w H r a : Int}
theorem Ch_rc_15 (h0 : 0 ≤ H) (h5 : H ≤ 5) (w0 : w = 0 ∨ w = 1) (ua : u + 3 ≤ a) (ca : c + 4 ≤ a) {k : Int} (k0 : 0 ≤ k) : ∀ (n : Nat) (d : Int) (h : am_H) (b : Br), 1 ≤ d → d + n = H + 1 → k < b.2.2.2 → bI_ (n2_ w H) (D2_ w H) (2 * nN_ w H) H 0 k d b → CHs h u c w H → CHu h u → ln_ h a = 2 * nN_ w H → ln_ h (a + 1) = 2 * nN_ w H → CR h a (2 * nN_ w H) b → ∃ h', Ch_reach_15 h c a (a + 1) b.2.2.2 k (b.2.2.1 k) (D2_ w H (b.2.2.1 k)) (if nN_ w H ≤ b.2.2.1 k then 0 else nN_ w H) d = Ch_reach_4 h' c a (a + 1) (bq_ (n2_ w H) (b.2.2.1 k) n d b).2.2.2 (k + 1) ∧ CR h' a (2 * nN_ w H) (bq_ (n2_ w H) (b.2.2.1 k) n d b) ∧ fr_ h h' (fun x => x = a ∨ x = a + 1) := by
  intro n
  have nv := nN_v (w := w) h0 h5
  have G := G2_ h0 h5 w0
  have ni := n2_b (w := w) h0 h5
  induction n with
  | zero =>
    intro d h b d0 hd hk I S U l l' m
    have hm := bI_m I (by omega)
    have S1 := S.1
    refine ⟨h, ?_, m, fr_refl _ _⟩
    rw [Ch_reach_15_e, ck_t (by omega), S.2.2.1.1, if_pos (by omega), w32_i (x := k + 1) (by omega) (by omega)]
    rfl
  | succ n ih =>
    intro d h b d0 hd hk I S U l l' m
    have hm := bI_m I (by omega)
    have S1 := S.1
    obtain ⟨c0, c1, fc, cR⟩ := I.2.1 k k0 hk
    have hD := G.2.1 _ c0 c1
    obtain ⟨t0, t1⟩ := ni _ d c0 c1 d0 (by omega)
    obtain ⟨I', e1, e2⟩ := bs_I G ni d0 (by omega) hk I
    have i4 := I.2.2.2.1 (n2_ w H (b.2.2.1 k) d) t0 t1
    generalize hc : b.2.2.1 k = s at *
    have st : Ch_reach_15 h c a (a + 1) b.2.2.2 k s (D2_ w H s) (if nN_ w H ≤ s then 0 else nN_ w H) d = ck_ (0 ≤ a) (ck_ (0 ≤ n2_ w H s d ∧ n2_ w H s d < ln_ h a) (if (rd_ h a (n2_ w H s d)) ≠ (-1) then Ch_reach_15 h c a (a + 1) b.2.2.2 k s (D2_ w H s) (if nN_ w H ≤ s then 0 else nN_ w H) (w32 (d + 1)) else ck_ (0 ≤ a) (ck_ (0 ≤ n2_ w H s d ∧ n2_ w H s d < ln_ h a) (ck_ (0 ≤ a + 1) (ck_ (0 ≤ b.2.2.2 ∧ b.2.2.2 < ln_ h (a + 1)) (Ch_reach_15 (wr_ (wr_ h a (n2_ w H s d) (w32 (D2_ w H s + 1))) (a + 1) b.2.2.2 (n2_ w H s d)) c a (a + 1) (w32 (b.2.2.2 + 1)) k s (D2_ w H s) (if nN_ w H ≤ s then 0 else nN_ w H) (w32 (d + 1)))))))) := by
      rw [Ch_reach_15_e, ck_t (by omega), S.2.2.1.1, if_neg (by omega), ck_t (by omega), S.2.2.1.2.2]
      by_cases q : nN_ w H ≤ s
      · have e : n2_ w H s d = nC_ w H (s - nN_ w H) d := by unfold n2_; rw [if_neg (by omega)]
        have nb := nC_b (w := w) h0 h5 (s - nN_ w H) d (by omega) (by omega) d0 (by omega)
        rw [if_pos q, if_pos q, ck_t (by omega), w32_i (x := s - nN_ w H) (by omega) (by omega), Ch_reach_19_e, ck_t (by omega), Ch_turned_s h0 h5 w0 U S (by omega) (by omega) d0 (by omega), bd_v, w32_i (x := 0 + nC_ w H (s - nN_ w H) d) (by omega) (by omega), Int.zero_add, e]
      · have e : n2_ w H s d = nN_ w H + nC_ w H s d := by unfold n2_; rw [if_pos (by omega)]
        have nb := nC_b (w := w) h0 h5 s d (by omega) (by omega) d0 (by omega)
        rw [if_neg q, if_neg q, Ch_reach_19_e, ck_t (by omega), Ch_turned_s h0 h5 w0 U S (by omega) (by omega) d0 (by omega), bd_v, w32_i (x := nN_ w H + nC_ w H s d) (by omega) (by omega), e]
    generalize ht : n2_ w H s d = t at *
    rw [w32_i (x := d + 1) (by omega) (by omega), ck_t (by omega), ck_t (by omega), m.1 t t0 t1] at st
    have fst : ∃ h2, CR h2 a (2 * nN_ w H) (bs_ s t b) ∧ fr_ h h2 (fun x => x = a ∨ x = a + 1) ∧ Ch_reach_15 h c a (a + 1) b.2.2.2 k s (D2_ w H s) (if nN_ w H ≤ s then 0 else nN_ w H) d = Ch_reach_15 h2 c a (a + 1) (bs_ s t b).2.2.2 k s (D2_ w H s) (if nN_ w H ≤ s then 0 else nN_ w H) (d + 1) := by
      have z2 := b2_1 s t (b1_ s t b)
      have eb : (bs_ s t b).1 = (b1_ s t b).1 ∧ (bs_ s t b).2.2 = (b1_ s t b).2.2 := z2
      unfold CR
      rw [eb.1, eb.2, st]
      unfold b1_
      by_cases q : b.1 t < 0
      · have e : b.1 t = -1 := by
          rcases i4 with z | ⟨i, z0, z1, z2⟩
          · exact z
          · have := I.2.1 i z0 z1
            rw [z2] at this
            have := G.2.1 t t0 t1
            omega
        have mlt := bI_lt I (by omega) t0 t1 q G.2.1
        have m0 := I.1.1
        rw [if_pos q, if_neg (c := b.1 t ≠ -1) (fun z => z e), ck_t (by omega), ck_t (by omega), ck_t (by omega), ck_t (by omega), w32_i (x := b.2.2.2 + 1) (by omega) (by omega), ← fc]
        refine ⟨_, ⟨RW_o (RW_wr m.1 _ _) (by omega), ?_⟩, fr_tr (fr_wr (Or.inl rfl)) (fr_wr (Or.inr rfl)), rfl⟩
        intro i z0 z1
        have z1' : i < b.2.2.2 + 1 := z1
        show _ = ud_ b.2.2.1 b.2.2.2 t i
        rw [rd_wa]
        by_cases z : i = b.2.2.2
        · rw [if_pos z, z, ud_s]
        · rw [if_neg z, ud_o z, rd_wo (by omega)]; exact m.2 i z0 (by omega)
      · rw [if_neg q, if_pos (c := b.1 t ≠ -1) (by omega)]
        exact ⟨h, m, fr_refl _ _, rfl⟩
    obtain ⟨h2, y1, y2, y4⟩ := fst
    have S2 := CHs_fr S y2 (by omega)
    have U2 := CHu_fr U y2 (by omega) (by omega)
    obtain ⟨h4, v1, v2, v3⟩ := ih (d + 1) h2 (bs_ s t b) (by omega) (by omega) e2 I' S2 U2 (by rw [fr_ln y2]; exact l) (by rw [fr_ln y2]; exact l') y1
    rw [e1] at v1 v2
    refine ⟨h4, ?_, ?_, fr_tr y2 v3⟩
    · rw [y4, v1, bq_s1, ht]
    · rw [bq_s1, ht]
      exact v2
/-- a state counts for all the numbers of turns that bring it -/
theorem Ch_rc_7 {D e k s : Int} {B : Int → Int} (h0 : 0 ≤ H) (D0 : 0 ≤ D) (D1 : D < 15) (Bb : ∀ t, 0 ≤ t → t ≤ 9 → 0 ≤ B t ∧ B t ≤ 8000) : ∀ (n : Nat) (x : Int) (h : am_H), CHs h u c w H → rf_ h c 7 = r → 0 ≤ r → r ≠ c → ln_ h r = 10 → D ≤ x → (x - D) % 2 = 0 → 25 - x ≤ 2 * n → x ≤ 25 → (H ≤ 0 → x ≤ D + 2) → (∀ t, 0 ≤ t → t ≤ 9 → rd_ h r t = B t + if t < x then rq_ H t D else 0) → ∃ h', Ch_reach_7 h c a (a + 1) e k s D x = Ch_reach_15 h' c a (a + 1) e k s D (if nN_ w H ≤ s then 0 else nN_ w H) 1 ∧ (∀ t, 0 ≤ t → t ≤ 9 → rd_ h' r t = B t + rq_ H t D) ∧ fr_ h h' (fun z => z = r) := by
  intro n
  induction n with
  | zero => intro x h S er r0 rc lr x0 xp xf xm xh q
            have S1 := S.1
            refine ⟨h, ?_, fun t t0 t1 => by rw [q t t0 t1, if_pos (by omega)], fr_refl _ _⟩
            rw [Ch_reach_7_e, if_pos (by omega), ck_t (by omega), S.2.2.1.2.2]
            by_cases z : nN_ w H ≤ s
            · rw [if_pos z, if_pos z]
            · rw [if_neg z, if_neg z, ck_t (by omega)]
  | succ n ih =>
    intro x h S er r0 rc lr x0 xp xf xm xh q
    have S1 := S.1
    have fin : (∀ t, 0 ≤ t → t ≤ 9 → rd_ h r t = B t + rq_ H t D) → ck_ (0 ≤ c) (if nN_ w H ≤ s then Ch_reach_15 h c a (a + 1) e k s D 0 1 else ck_ (0 ≤ c) (Ch_reach_15 h c a (a + 1) e k s D (nN_ w H) 1)) = Ch_reach_15 h c a (a + 1) e k s D (if nN_ w H ≤ s then 0 else nN_ w H) 1 := by
      intro _
      rw [ck_t (by omega)]
      by_cases z : nN_ w H ≤ s
      · rw [if_pos z, if_pos z]
      · rw [if_neg z, if_neg z, ck_t (by omega)]
    rw [Ch_reach_7_e]
    simp only [S.2.2.1.1, S.2.2.1.2.2, er, lr]
    by_cases x9 : 9 < x
    · rw [if_pos x9]
      have qq : ∀ t, 0 ≤ t → t ≤ 9 → rd_ h r t = B t + rq_ H t D := fun t t0 t1 => by rw [q t t0 t1, if_pos (by omega)]
      exact ⟨h, fin qq, qq, fr_refl _ _⟩
    · rw [if_neg x9, ck_t (by omega)]
      have go : (0 < H ∨ x = D) → ∃ h', ck_ (0 ≤ c) (ck_ (0 ≤ r) (ck_ (0 ≤ x ∧ x < 10) (ck_ (0 ≤ r) (ck_ (0 ≤ x ∧ x < 10) (Ch_reach_7 (wr_ h r x (w32 (rd_ h r x + 1))) c a (a + 1) e k s D (w32 (x + 2))))))) = Ch_reach_15 h' c a (a + 1) e k s D (if nN_ w H ≤ s then 0 else nN_ w H) 1 ∧ (∀ t, 0 ≤ t → t ≤ 9 → rd_ h' r t = B t + rq_ H t D) ∧ fr_ h h' (fun z => z = r) := by
        intro hx
        have f1 : fr_ h (wr_ h r x (w32 (rd_ h r x + 1))) (fun z => z = r) := fr_wr rfl
        have bx := Bb x (by omega) (by omega)
        obtain ⟨h', a1, a2, a3⟩ := ih (x + 2) (wr_ h r x (w32 (rd_ h r x + 1))) (CHs_fr S f1 (fun z => rc z.symm)) er r0 rc lr (by omega) (by omega) (by omega) (by omega) (by omega) (by
          intro t t0 t1
          rw [rd_wa]
          by_cases z : t = x
          · have rx : rq_ H x D = 1 := by unfold rq_; rw [if_pos ⟨x0, xp, hx⟩]
            rw [if_pos z, q x (by omega) (by omega), if_neg (by omega), z, if_pos (by omega), rx, w32_i (by omega) (by omega)]
            omega
          · rw [if_neg z, q t t0 t1]
            by_cases y : t < x
            · rw [if_pos y, if_pos (by omega)]
            · rw [if_neg y]
              by_cases y2 : t < x + 2
              · have rz : rq_ H t D = 0 := by unfold rq_; rw [if_neg (by omega)]
                rw [if_pos y2, rz]
              · rw [if_neg y2])
        refine ⟨h', ?_, a2, fr_tr f1 a3⟩
        rw [ck_t (by omega), ck_t (by omega), ck_t (by omega), ck_t (by omega), ck_t (by omega), w32_i (x := x + 2) (by omega) (by omega), a1]
      by_cases hH : 0 < H
      · rw [if_pos hH]
        exact go (Or.inl hH)
      · rw [if_neg hH]
        by_cases xD : x = D
        · rw [if_neg (fun z => z xD)]
          exact go (Or.inr xD)
        · rw [if_pos xD]
          have qq : ∀ t, 0 ≤ t → t ≤ 9 → rd_ h r t = B t + rq_ H t D := fun t t0 t1 => by
            rw [q t t0 t1]
            by_cases y : t < x
            · rw [if_pos y]
            · rw [if_neg y]
              unfold rq_
              rw [if_neg (by omega)]
          exact ⟨h, fin qq, qq, fr_refl _ _⟩
theorem Ch_rc_4 (h0 : 0 ≤ H) (h5 : H ≤ 5) (w0 : w = 0 ∨ w = 1) (ua : u + 3 ≤ r) (ca : c + 4 ≤ r) (ra : a = r + 1) : ∀ (n : Nat) (k : Int) (h : am_H) (b : Br), 0 ≤ k → k + n = 2 * nN_ w H → k ≤ b.2.2.2 → bI_ (n2_ w H) (D2_ w H) (2 * nN_ w H) H 0 k 1 b → CHs h u c w H → CHu h u → rf_ h c 7 = r → ln_ h r = 10 → ln_ h a = 2 * nN_ w H → ln_ h (a + 1) = 2 * nN_ w H → CR h a (2 * nN_ w H) b → (∀ t, 0 ≤ t → t ≤ 9 → rd_ h r t = tl_ (fun i => rq_ H t (D2_ w H (b.2.2.1 i))) 1 k.toNat) → ∃ h', Ch_reach_4 h c a (a + 1) b.2.2.2 k = some (h', 0) ∧ (∀ t, 0 ≤ t → t ≤ 9 → rd_ h' r t = tl_ (fun i => rq_ H t (D2_ w H ((bu_ (n2_ w H) H n k b).2.2.1 i))) 1 (bu_ (n2_ w H) H n k b).2.2.2.toNat) ∧ fr_ h h' (fun x => r ≤ x) := by
  intro n
  have nv := nN_v (w := w) h0 h5
  have G := G2_ h0 h5 w0
  have ni := n2_b (w := w) h0 h5
  induction n with
  | zero =>
    intro k h b k0 hn hk I S U e7 lr l l' m tt
    have hm := bI_m I (by omega)
    have e : k = b.2.2.2 := by omega
    refine ⟨h, by rw [Ch_reach_4_e, if_pos (by omega)], ?_, fr_refl _ _⟩
    intro t t0 t1
    show _ = tl_ (fun i => rq_ H t (D2_ w H (b.2.2.1 i))) 1 b.2.2.2.toNat
    rw [← e]
    exact tt t t0 t1
  | succ n ih =>
    intro k h b k0 hn hk I S U e7 lr l l' m tt
    have hm := bI_m I (by omega)
    have S1 := S.1
    unfold bu_
    by_cases q : b.2.2.2 ≤ k
    · have e : k = b.2.2.2 := by omega
      rw [if_pos q]
      refine ⟨h, by rw [Ch_reach_4_e, if_pos q], ?_, fr_refl _ _⟩
      intro t t0 t1
      rw [← e]
      exact tt t t0 t1
    · rw [if_neg q]
      have hk' : k < b.2.2.2 := by omega
      obtain ⟨c0, c1, fc, cR⟩ := I.2.1 k k0 hk'
      have hD := G.2.1 _ c0 c1
      have Bb : ∀ t, 0 ≤ t → t ≤ 9 → 0 ≤ tl_ (fun i => rq_ H t (D2_ w H (b.2.2.1 i))) 1 k.toNat ∧ tl_ (fun i => rq_ H t (D2_ w H (b.2.2.1 i))) 1 k.toNat ≤ 8000 := by
        intro t t0 t1
        have := tl_b (fun i => rq_ H t (D2_ w H (b.2.2.1 i))) 1 k.toNat
        omega
      obtain ⟨h1, a1, a2, a3⟩ := Ch_rc_7 (u := u) (c := c) (w := w) (H := H) (r := r) (a := a) (e := b.2.2.2) (k := k) (s := b.2.2.1 k) h0 hD cR Bb 13 (D2_ w H (b.2.2.1 k)) h S e7 (by omega) (by omega) lr (by omega) (by omega) (by omega) (by omega) (by omega) (by
        intro t t0 t1
        rw [tt t t0 t1]
        by_cases z : t < D2_ w H (b.2.2.1 k)
        · rw [if_pos z]
          unfold rq_
          rw [if_neg (by omega)]
          omega
        · rw [if_neg z]
          omega)
      have S2 := CHs_fr S a3 (by omega)
      have U2 := CHu_fr U a3 (by omega) (by omega)
      have m2 : CR h1 a (2 * nN_ w H) b := ⟨RW_fr m.1 a3 (by omega), fun i i0 i1 => by rw [a3.2 (a + 1) (by omega)]; exact m.2 i i0 i1⟩
      obtain ⟨h2, b1, b2, b3⟩ := Ch_rc_15 h0 h5 w0 (by omega) (by omega) k0 H.toNat 1 h1 b (by omega) (by omega) hk' I S2 U2 (by rw [fr_ln a3]; exact l) (by rw [fr_ln a3]; exact l') m2
      have J := bq_I G ni H.toNat 1 b (by omega) (by omega) hk' I
      have I2 := bI_nx J.2 J.1
      have bq := bq_q (n2_ w H) (b.2.2.1 k) H.toNat 1 b
      obtain ⟨h3, d1, d2, d3⟩ := ih (k + 1) h2 _ (by omega) (by omega) (by have := J.2; omega) I2 (CHs_fr S2 b3 (by omega)) (CHu_fr U2 b3 (by omega) (by omega)) (by rw [fr_rf b3, fr_rf a3]; exact e7) (by rw [fr_ln b3, fr_ln a3]; exact lr) (by rw [fr_ln b3, fr_ln a3]; exact l) (by rw [fr_ln b3, fr_ln a3]; exact l') b2 (by
        intro t t0 t1
        rw [b3.2 r (by omega), a2 t t0 t1, show (k + 1).toNat = k.toNat + 1 by omega, tl_s1]
        rw [tl_e (f := fun i => rq_ H t (D2_ w H ((bq_ (n2_ w H) (b.2.2.1 k) H.toNat 1 b).2.2.1 i))) (g := fun i => rq_ H t (D2_ w H (b.2.2.1 i))) k.toNat (fun i i0 i1 => by show rq_ H t _ = rq_ H t _; rw [bq.2 i (by omega)]), show ((k.toNat : Nat) : Int) = k by omega, bq.2 k hk']
        congr 1
        unfold rq_
        split
        · rw [if_pos rfl]
        · rw [if_neg (by omega)])
      refine ⟨h3, ?_, d2, fr_tr (fr_mo a3 (fun x z => by omega)) (fr_tr (fr_mo b3 (fun x z => by omega)) d3)⟩
      rw [Ch_reach_4_e, if_neg q]
      simp only [S.2.2.1.2.2, l, l', m.2 k k0 hk', m.1 _ c0 c1, fc]
      rw [ck_t (by omega), w32_i (x := 2 * nN_ w H) (by omega) (by omega), if_neg (by omega), ck_t (by omega), ck_t (by omega), ck_t (by omega), ck_t (by omega), a1, b1, d1]
theorem Ch_rc_1 {N : Int} (N1 : N ≤ 8000) (a0 : 0 ≤ a) : ∀ (n : Nat) (k : Int) (h : am_H), 1 ≤ k → k + n = N → ln_ h a = N → RW h a k (fun i => if i = 0 then 0 else -1) → ∃ h', Ch_reach_1 h c a (a + 1) k = Ch_reach_1 h' c a (a + 1) N ∧ RW h' a N (fun i => if i = 0 then 0 else -1) ∧ fr_ h h' (fun x => x = a) := by
  intro n
  induction n with
  | zero =>
    intro k h k0 hk l q
    have e : k = N := by omega
    rw [e] at q ⊢
    exact ⟨h, rfl, q, fr_refl _ _⟩
  | succ n ih =>
    intro k h k0 hk l q
    have f1 : fr_ h (wr_ h a k (-1)) (fun x => x = a) := fr_wr rfl
    obtain ⟨h', x, y, z⟩ := ih (k + 1) (wr_ h a k (-1)) (by omega) (by omega) l (RW_gr q (by rw [if_neg (by omega)]))
    refine ⟨h', ?_, y, fr_tr f1 z⟩
    rw [Ch_reach_1_e, ck_t (by omega), l, if_neg (by omega), ck_t (by omega), ck_t (by omega), w32_i (x := k + 1) (by omega) (by omega), x]
end
