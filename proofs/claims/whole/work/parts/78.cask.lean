/-! ask, in the class -/
def sQ_ (h : am_H) (b : Int) : List Int → Int → Prop
  | [], _ => True
  | x :: r, j => rd_ h 92 (b + j) = x ∧ sQ_ h b r (j + 1)
theorem sQ_snoc {h : am_H} {b x : Int} : ∀ (L : List Int) (j : Int), sQ_ h b L j → rd_ h 92 (b + (j + L.length)) = x → sQ_ h b (L ++ [x]) j := by
  intro L
  induction L with
  | nil => intro j _ e; exact ⟨by rw [← e]; congr 1; simp, trivial⟩
  | cons y r ih =>
    intro j hs e
    refine ⟨hs.1, ih (j + 1) hs.2 ?_⟩
    rw [← e, List.length_cons]
    congr 1
    push_cast
    omega
theorem sQ_R {h h' : am_H} {b : Int} : ∀ (L : List Int) (j : Int), sQ_ h b L j → (∀ i, j ≤ i → i < j + L.length → rd_ h' 92 (b + i) = rd_ h 92 (b + i)) → sQ_ h' b L j := by
  intro L
  induction L with
  | nil => intro j _ _; trivial
  | cons y r ih =>
    intro j hs e
    rw [List.length_cons] at e
    exact ⟨by rw [e j (by omega) (by push_cast; omega)]; exact hs.1, ih (j + 1) hs.2 (fun i p q => e i (by omega) (by push_cast; omega))⟩
section
variable {h : am_H}
theorem Pp_alike_in (s : ShC h) {pl : Int} (p0 : 0 ≤ pl) (p5 : pl < 5) {L : List Int} (hL : L.length ≤ 5) {i x : Int} (i0 : 0 ≤ i) (i1 : i < L.length) (ex : rd_ h 92 (5 * pl + i) = x) (m : Int) : ∀ (r : List Int) (j a : Int), sQ_ h (5 * pl) r j → 0 ≤ j → j + r.length = L.length → 0 ≤ a → a ≤ j →
    Pp_mostAlike_3 h 0 pl L.length m i a j = Pp_mostAlike_1 h 0 pl L.length (if m < a + ca_ x r then a + ca_ x r else m) (i + 1) := by
  intro r
  induction r with
  | nil =>
    intro j a hs h0 hj a0 a1
    rw [List.length_nil] at hj
    rw [Pp_mostAlike_3_e, if_pos (by omega), w32_i (by omega) (by omega)]
    unfold ca_
    rw [Int.add_zero]
  | cons y r ih =>
    intro j a hs h0 hj a0 a1
    rw [List.length_cons] at hj
    push_cast at hj
    rw [Pp_mostAlike_3_e]
    simp only [cr0_18 s, cl92 s]
    simp (disch := omega) only [w32_i]
    rw [if_neg (by omega), show pl * 5 + j = 5 * pl + j by omega, show pl * 5 + i = 5 * pl + i by omega, hs.1, ex]
    repeat rw [ck_t (by omega)]
    unfold ca_
    by_cases c : y = x
    · rw [if_neg (by omega), if_pos c, ih (j + 1) (a + 1) hs.2 (by omega) (by omega) (by omega) (by omega), show a + 1 + ca_ x r = a + (1 + ca_ x r) by omega]
    · rw [if_pos c, if_neg c, ih (j + 1) a hs.2 (by omega) (by omega) (by omega) (by omega), show a + ca_ x r = a + (0 + ca_ x r) by omega]
theorem Pp_alike_out (s : ShC h) {pl : Int} (p0 : 0 ≤ pl) (p5 : pl < 5) {L : List Int} (hL : L.length ≤ 5) (hs0 : sQ_ h (5 * pl) L 0) : ∀ (r : List Int) (i m : Int), sQ_ h (5 * pl) r i → 0 ≤ i → i + r.length = L.length → Pp_mostAlike_1 h 0 pl L.length m i = some (h, mx_ L r m) := by
  intro r
  induction r with
  | nil =>
    intro i m hs h0 hi
    rw [List.length_nil] at hi
    rw [Pp_mostAlike_1_e, if_pos (by omega)]
    rfl
  | cons x r ih =>
    intro i m hs h0 hi
    rw [List.length_cons] at hi
    push_cast at hi
    rw [Pp_mostAlike_1_e, if_neg (by omega), Pp_alike_in s p0 p5 hL h0 (by omega) hs.1 m L 0 0 hs0 (by omega) (by omega) (by omega) (by omega), ih (i + 1) _ hs.2 (by omega) (by omega)]
    rw [Int.zero_add]
    rfl
theorem Pp_mostAlike_s (s : ShC h) {pl : Int} (p0 : 0 ≤ pl) (p5 : pl < 5) {L : List Int} (hL : L.length ≤ 5) (hs0 : sQ_ h (5 * pl) L 0) : Pp_mostAlike h 0 pl L.length = some (h, mx_ L L 0) := by
  rw [Pp_mostAlike_e]
  exact Pp_alike_out s p0 p5 hL hs0 L 0 0 hs0 (by omega) (by omega)
variable {t : Int} {T Q : Tx}
/-- the answers of those up to depth d -/
def An (h : am_H) (T Q : Tx) (i n : Int) (d : Nat) : Prop := ∀ pl, 0 ≤ pl → pl < 5 → sQ_ h (5 * pl) (sy_ (ft_ T Q i) (fun d => Zs T (dW T i d n) (T 9 i) pl) d 1) 0
def ctl (T Q : Tx) (i : Int) (d : Nat) : Nat := (sy_ (ft_ T Q i) (fun _ => 0) d 1).length
theorem Pp_note_lp {W : Tx} (wv : WV T W) {p at' : Int} (a0 : 0 ≤ at') (a5 : at' < 5) : ∀ (m : Nat) (pl : Int) (h : am_H), ShC h → WO h 56 T W → 0 ≤ pl → pl + m = 5 → ∃ h', Pp_noteAnswers_1 h 0 p at' pl = some (h', 0) ∧ fr_ h h' (fun a => a = 92) ∧ (∀ q, pl ≤ q → q < 5 → rd_ h' 92 (5 * q + at') = Zs T W p q) ∧ ∀ x, (∀ q, pl ≤ q → q < 5 → x ≠ 5 * q + at') → rd_ h' 92 x = rd_ h 92 x := by
  intro m
  induction m with
  | zero =>
    intro pl h s o h0 hm
    refine ⟨h, ?_, fr_refl _ _, fun q a b => by omega, fun _ _ => rfl⟩
    rw [Pp_noteAnswers_1_e, if_pos (by omega)]
  | succ m ih =>
    intro pl h s o h0 hm
    rw [Pp_noteAnswers_1_e, if_neg (by omega)]
    simp only [cr0_8 s, cr0_18 s]
    repeat rw [ck_t (by omega)]
    rw [Wo_sizeAt_s o wv, bd_v]
    simp only [cl92 s]
    simp (disch := omega) only [w32_i]
    repeat rw [ck_t (by omega)]
    have F : fr_ h (wr_ h 92 (pl * 5 + at') (Zs T W p pl)) (fun a => a = 92) := fr_wr rfl
    obtain ⟨h', i1, i2, i3, i4⟩ := ih (pl + 1) (wr_ h 92 (pl * 5 + at') (Zs T W p pl)) (ShC_of rfl s) (WO_fr o F (by intro a p q; omega)) (by omega) (by omega)
    refine ⟨h', i1, fr_tr F i2, ?_, ?_⟩
    · intro q a b
      by_cases c : q = pl
      · subst c
        rw [i4 _ (fun r x y => by omega), show 5 * q + at' = q * 5 + at' by omega, rd_ws]
      · exact i3 q (by omega) b
    · intro x hx
      rw [i4 x (fun r a b => hx r (by omega) b), rd_wk (by have := hx pl (by omega) (by omega); omega)]
theorem ctl_s (T Q : Tx) (i : Int) (d : Nat) : ctl T Q i (d + 1) = ctl T Q i d + (if ft_ T Q i ((d : Int) + 1) then 1 else 0) := by
  unfold ctl
  rw [sy_s, List.length_append, show (1 : Int) + (d : Int) = (d : Int) + 1 by omega]
  cases ft_ T Q i ((d : Int) + 1) <;> rfl
theorem Pp_best_lp (g : ShC h) {i n : Int} (an : An h T Q i n 5) : Pp_bestPlace h 0 (ctl T Q i 5) = some (h, bp_ T Q i n) ∧ ∀ pl, 0 ≤ pl → pl < 5 → Pp_mostAlike h 0 pl (ctl T Q i 5) = some (h, wa_ T Q i n pl) := by
  have ma : ∀ pl, 0 ≤ pl → pl < 5 → Pp_mostAlike h 0 pl (ctl T Q i 5) = some (h, wa_ T Q i n pl) := by
    intro pl p q
    have := Pp_mostAlike_s g p q (sy_le (ft_ T Q i) (fun d => Zs T (dW T i d n) (T 9 i) pl) 5 1) (an pl p q)
    unfold ctl
    rw [sy_len (ft_ T Q i) (fun _ => 0) (fun d => Zs T (dW T i d n) (T 9 i) pl)]
    exact this
  refine ⟨?_, ma⟩
  rw [Pp_bestPlace_e]
  have z := fo_lp (L := Pp_bestPlace_1 h 0 (ctl T Q i 5)) (f := fun pl b => if wa_ T Q i n b ≤ wa_ T Q i n pl then b else pl) (I := fun k b => 1 ≤ k ∧ 0 ≤ b ∧ b < k) (N := 5) (by
    intro k b hk hi
    refine ⟨?_, ?_⟩
    · rw [Pp_bestPlace_1_e, if_neg (by omega), ck_t (by omega), ma k (by omega) hk, bd_v, ck_t (by omega), ma b (by omega) (by omega), bd_v, w32_i (by omega) (by omega)]
      split <;> rfl
    · split <;> omega) 4 1 0 (by omega) (by omega)
  rw [z.1, Pp_bestPlace_1_e, if_pos (by omega)]
  rfl
theorem Pp_begin92 (g : CB h t T Q) (v : WV T (W0_ T (T 0 6))) (i d : Int) {h' : am_H} (e : Pp_beginByDepth h 0 i d = some (h', 0)) : ∀ k, rd_ h' 92 k = rd_ h 92 k := by
  obtain ⟨s, ht, r, o, w, s5, -⟩ := id g
  have r6 := o.1.2.1
  obtain ⟨ha, a1, a2, a3⟩ := Wo_copy_s s5 w v (by omega)
  have Fa : Fs_ h ha := Fs_fr a3 (fun a q => by unfold Sc; omega)
  have ga := CB_F g Fa
  have sa := ga.1
  obtain ⟨hb, b1, b2, b3⟩ := Mi_begin_s (t := t) (w := 56) sa
  obtain ⟨hc, c1, c2, c3⟩ := Mi_turnBy_s b2 i d
  have rfb : rf_ hb 0 12 = 76 := by rw [b3.2.2 0 (by omega)]; exact cr0_12 sa
  have ra : rf_ ha 0 5 = t := ga.2.2.1
  rw [Pp_beginByDepth_e] at e
  simp only [cr0_8 s, r, r6] at e
  repeat rw [ck_t (by omega)] at e
  rw [a1, bd_v] at e
  simp only [cr0_12 sa, cr0_8 sa, ra] at e
  repeat rw [ck_t (by omega)] at e
  rw [b1, bd_v] at e
  simp only [rfb] at e
  repeat rw [ck_t (by omega)] at e
  rw [c1, bd_v] at e
  cases e
  intro k
  rw [c3.2 92 (by omega), b3.2.1 92 (by omega), a3.2 92 (by omega)]
theorem Pp_ask_lp (u : TV T) (wv : WV T (W0_ T (T 0 6))) {i n x : Int} (hi : 0 ≤ i) (hi2 : i < T 0 3) (hn : 1 ≤ n) (hn2 : n ≤ 60) (hx : x = 0 ∨ x = 1) : ∀ (m d : Nat) (h : am_H), CB h t T Q → An h T Q i n d → d + m = 5 →
    ∃ h', Pp_ask_8 h 0 i n x (db_ T Q i) (ctl T Q i d) ((d : Int) + 1) = some (h', if x = 0 then bp_ T Q i n else wa_ T Q i n (bp_ T Q i n)) ∧ CB h' t T Q ∧ Fs_ h h' := by
  intro m
  induction m with
  | zero =>
    intro d h g an hm
    have e : d = 5 := by omega
    subst e
    obtain ⟨b1, b2⟩ := Pp_best_lp g.1 an
    have bb : 0 ≤ bp_ T Q i n ∧ bp_ T Q i n < 5 := by
      have z := fo_in (f := fun pl b => if wa_ T Q i n b ≤ wa_ T Q i n pl then b else pl) (I := fun k b => 1 ≤ k ∧ 0 ≤ b ∧ b < k) (N := 5) (fun k a hk hi => by split <;> omega) 4 1 0 (by omega) (by omega)
      exact z.2
    refine ⟨h, ?_, g, Fs_refl h⟩
    rw [Pp_ask_8_e, if_pos (by omega), ck_t (by omega), b1, bd_v]
    by_cases c : x = 0
    · rw [if_neg (by omega), if_pos c]
    · rw [if_pos c, if_neg c, ck_t (by omega), b2 _ bb.1 bb.2, bd_v]
  | succ m ih =>
    intro d h g an hm
    have v0 := wv.1
    have cs := ctl_s T Q i d
    have cl5 : ctl T Q i d ≤ 5 := Nat.le_trans (sy_le _ _ _ _) (by omega)
    have cld : ctl T Q i d ≤ d := sy_le _ _ _ _
    rw [Pp_ask_8_e, if_neg (by omega), db_t T Q i (by omega) (by omega), w32_i (x := (d : Int) + 1 + 1) (by omega) (by omega), show (d : Int) + 1 + 1 = ((d + 1 : Nat) : Int) + 1 by omega]
    cases hf : ft_ T Q i ((d : Int) + 1) with
    | false =>
      rw [if_pos (show bz false = 0 from rfl)]
      rw [hf, if_neg (by decide)] at cs
      have cs' : ctl T Q i d = ctl T Q i (d + 1) := by omega
      rw [cs']
      refine ih (d + 1) h g ?_ (by omega)
      intro pl p q
      rw [sy_s, show (1 : Int) + (d : Int) = (d : Int) + 1 by omega, hf, if_neg (by decide), List.append_nil]
      exact an pl p q
    | true =>
      rw [if_neg (show ¬ bz true = 0 by decide)]
      rw [hf, if_pos rfl] at cs
      have ht := g.2.1
      have s := g.1
      obtain ⟨ha, a1, a2, a3, a4, a5, -⟩ := Pp_beginByDepth_s g wv i ((d : Int) + 1)
      obtain ⟨hb, b1, b2, b3, b4⟩ := Mi_passAll_s u (t := t) (w := 56) (by omega) (by omega) (by omega) (by omega) (mk_V (by omega) (by omega) (by omega) (Or.inr ⟨hi, by omega, by omega, rfl⟩)) (N := n) (by omega) (by omega) a4 a3 a2.2.2.2.1 wv
      have Fb := Fs_min b4 b3 a2.1
      have gb := CB_F a2 Fb
      have sb := gb.1
      have rb : rf_ hb 0 5 = t := gb.2.2.1
      have r11 := gb.2.2.2.1.1.2.2.2.2.2.2.1
      have m14 : ln_ hb (t + 14) = 14 := gb.2.2.2.1.1.2.2.2.2.2.2.2.2.2.2.2.2.2.2.2.2.1
      have e9 := (gb.2.2.2.1.2.2.2.2.1 i hi hi2).2.1
      have u0 := u.1
      obtain ⟨hc, c1, c2, c3, c4⟩ := Pp_note_lp (p := T 9 i) (at' := ctl T Q i d) (dW_v u wv i ((d : Int) + 1) n) (by omega) (by omega) 5 0 hb sb b2 (by omega) (by omega)
      have Fc : Fs_ hb hc := Fs_fr c2 (fun a q => by unfold Sc; omega)
      have gc := CB_F gb Fc
      have R92 : ∀ k, rd_ hb 92 k = rd_ h 92 k := by
        intro k
        have x1 : fq_ h ha Sc ScR := a5.1
        rw [b4.2.1 92 (by unfold mA; omega)]
        exact (Pp_begin92 g wv i ((d : Int) + 1) a1) k
      have anc : An hc T Q i n (d + 1) := by
        intro pl p q
        have old := an pl p q
        have le : ((sy_ (ft_ T Q i) (fun d => Zs T (dW T i d n) (T 9 i) pl) d 1).length : Int) = ctl T Q i d := by
          unfold ctl
          rw [sy_len (ft_ T Q i) (fun _ => 0) (fun d => Zs T (dW T i d n) (T 9 i) pl)]
        rw [sy_s, show (1 : Int) + (d : Int) = (d : Int) + 1 by omega, hf, if_pos rfl]
        apply sQ_snoc
        · apply sQ_R _ _ old
          intro z z1 z2
          rw [le] at z2
          rw [c4 _ (fun q' x y => by omega), R92]
        · rw [le, Int.zero_add]
          exact c3 pl p q
      obtain ⟨h', i1, i2, i3⟩ := ih (d + 1) hc gc anc (by omega)
      refine ⟨h', ?_, i2, Fs_tr a5 (Fs_tr Fb (Fs_tr Fc i3))⟩
      repeat rw [ck_t (by omega)]
      rw [a1, bd_v]
      simp only [cr0_12 a2.1]
      repeat rw [ck_t (by omega)]
      rw [b1, bd_v]
      simp only [rb, r11, m14, e9]
      repeat rw [ck_t (by omega)]
      have c1' : Pp_noteAnswers hb 0 (T 9 i) (ctl T Q i d) = some (hc, 0) := by rw [Pp_noteAnswers_e]; exact c1
      rw [c1', bd_v, w32_i (x := (ctl T Q i d : Int) + 1) (by omega) (by omega), ← i1, cs]
      rfl
end
