/-! a formula's state in the reference -/
def kwM_ (w : Int) : Int := if w = 40 then 0 else kc_ w
/-- cells that a formula leaves; cells that its inner steps leave -/
def gk_ (F a k : Int) : Prop := (a ≠ 94 ∧ a ≠ 116 ∧ a ≠ 117 ∧ (a < 113 ∨ 115 < a)) ∨ (113 ≤ a ∧ a ≤ 115 ∧ k < 64 + F) ∨ (a = 94 ∧ ¬ (4 ≤ k ∧ k ≤ 11) ∧ k ≠ 21 ∧ ¬ (43 ≤ k ∧ k ≤ 48))
def fH_ (F : Int) (h h' : am_H) : Prop := h'.2 = h.2 ∧ ∀ a k, gk_ F a k → rd_ h' a k = rd_ h a k
def fg_ (F : Int) (h h' : am_H) : Prop := h'.2 = h.2 ∧ ∀ a k, gk_ F a k ∨ (a = 94 ∧ 4 ≤ k ∧ k ≤ 11) → rd_ h' a k = rd_ h a k
def FMx (h : am_H) (F : Int) (ws : List Int) (op tk : Int) (K : Int → Int) (o wp mn : Int) (hs : List Int) : Prop := ShM h ∧ (rd_ h 94 43 = ws.length ∧ rd_ h 94 44 = hs.length ∧ rd_ h 94 45 = op ∧ rd_ h 94 46 = tk ∧ rd_ h 94 47 = wp ∧ rd_ h 94 48 = mn ∧ rd_ h 94 21 = o) ∧ wl_ (rd_ h 116) kwM_ ws ∧ wl_ (rd_ h 117) (fun x => x) hs ∧ ∀ i, F ≤ i → i < o → KR h (K i) i (hpn K (i - F).toNat F [])
def FMo (h : am_H) (F : Int) (ws : List Int) (op tk : Int) (K : Int → Int) (o wp mn : Int) : Prop := FMx h F ws op tk K o wp mn (hpn K (o - F).toNat F [])
section
variable {B : Int → Int} {n p F op tk o wp mn : Int} {h h' h1 h2 : am_H} {ws hs : List Int} {K : Int → Int}
theorem fH_refl : fH_ F h h := ⟨rfl, fun _ _ _ => rfl⟩
theorem fH_t (x : fH_ F h h1) (y : fH_ F h1 h2) : fH_ F h h2 := ⟨y.1.trans x.1, fun a k q => (y.2 a k q).trans (x.2 a k q)⟩
theorem fg_refl : fg_ F h h := ⟨rfl, fun _ _ _ => rfl⟩
theorem fg_t (x : fg_ F h h1) (y : fg_ F h1 h2) : fg_ F h h2 := ⟨y.1.trans x.1, fun a k q => (y.2 a k q).trans (x.2 a k q)⟩
theorem fg_f (x : fg_ F h h') : fH_ F h h' := ⟨x.1, fun a k q => x.2 a k (Or.inl q)⟩
theorem fg_w {a k v : Int} (q : ¬ (gk_ F a k ∨ (a = 94 ∧ 4 ≤ k ∧ k ≤ 11))) : fg_ F h (wr_ h a k v) := ⟨rfl, fun b j z => by
  rw [rd_wr, if_neg]
  intro e
  rw [e.1, e.2] at z
  exact q z⟩
theorem fg_9 {k v : Int} (q : k = 21 ∨ (43 ≤ k ∧ k ≤ 48)) : fg_ F h (wr_ h 94 k v) := fg_w (by unfold gk_; omega)
theorem fzY_fH (x : fzY h h') : fH_ F h h' := ⟨x.1, fun a k q => by
  by_cases e : a = 94
  · rw [e]; exact x.2.2 k (by unfold gk_ at q; omega)
  · exact x.2.1 a (fun z => z) e k⟩
theorem fH_k (F0 : 0 ≤ F) (x : fH_ F h h') : fk_ h h' := ⟨x.1, fun a k q => x.2 a k (by unfold pk_ at q; unfold gk_; omega)⟩
theorem MR_fg (x : fg_ F h h') (r : MR h B n p) : MR h' B n p := by
  obtain ⟨⟨a, b, c, d, e⟩, f, g⟩ := r
  have R : ∀ a k, (a < 94 ∨ (94 < a ∧ a < 113)) → rd_ h' a k = rd_ h a k := fun a k q => x.2 a k (Or.inl (by unfold gk_; omega))
  have R9 : ∀ k, 4 ≤ k → k ≤ 11 → rd_ h' 94 k = rd_ h 94 k := fun k y z => x.2 94 k (Or.inr ⟨rfl, y, z⟩)
  exact ⟨⟨ShM_of x.1 a, fun i y z => by rw [R 96 _ (by omega)]; exact b i y z, ⟨by rw [R9 6 (by omega) (by omega)]; exact c.1, by rw [R9 7 (by omega) (by omega)]; exact c.2⟩, ⟨d.1, d.2.1, d.2.2.1, by rw [R9 4 (by omega) (by omega)]; exact d.2.2.2.1, by rw [R9 5 (by omega) (by omega)]; exact d.2.2.2.2⟩, fun k y z => by rw [R 95 _ (by omega)]; exact e k y z⟩, by rw [R9 10 (by omega) (by omega)]; exact f, by rw [R9 8 (by omega) (by omega), R9 9 (by omega) (by omega)]; exact g⟩
theorem FM_L (f : FMx h F ws op tk K o wp mn hs) (x : fzY h h') : FMx h' F ws op tk K o wp mn hs := by
  obtain ⟨a, b, c, d, e⟩ := f
  have R : ∀ a, a ≠ 94 → ∀ k, rd_ h' a k = rd_ h a k := fun a q k => x.2.1 a (fun z => z) q k
  have S : ∀ k, 12 ≤ k → rd_ h' 94 k = rd_ h 94 k := fun k q => x.2.2 k (by omega)
  exact ⟨ShM_of x.1 a, by rw [S 43 (by omega), S 44 (by omega), S 45 (by omega), S 46 (by omega), S 47 (by omega), S 48 (by omega), S 21 (by omega)]; exact b, wl_cg c (fun j _ _ => R 116 (by omega) j), wl_cg d (fun j _ _ => R 117 (by omega) j), fun i y z => KR_c (fun b y z => R b (by omega) _) (e i y z)⟩
theorem FM_w {k v : Int} {ws' hs' : List Int} {op' tk' wp' mn' : Int} (f : FMx h F ws op tk K o wp mn hs) (q : k ≠ 21) (c' : wl_ (rd_ h 116) kwM_ ws') (d' : wl_ (rd_ h 117) (fun x => x) hs') (e1 : (if (43 : Int) = k then v else (ws.length : Int)) = ws'.length) (e2 : (if (44 : Int) = k then v else (hs.length : Int)) = hs'.length) (e3 : (if (45 : Int) = k then v else op) = op') (e4 : (if (46 : Int) = k then v else tk) = tk') (e5 : (if (47 : Int) = k then v else wp) = wp') (e6 : (if (48 : Int) = k then v else mn) = mn') : FMx (wr_ h 94 k v) F ws' op' tk' K o wp' mn' hs' := by
  obtain ⟨a, ⟨b1, b2, b3, b4, b5, b6, b7⟩, c, d, e⟩ := f
  have R : ∀ b j, b ≠ 94 → rd_ (wr_ h 94 k v) b j = rd_ h b j := fun b j z => rd_wo z
  refine ⟨ShM_of rfl a, ⟨by rw [rd_wa, b1]; exact e1, by rw [rd_wa, b2]; exact e2, by rw [rd_wa, b3]; exact e3, by rw [rd_wa, b4]; exact e4, by rw [rd_wa, b5]; exact e5, by rw [rd_wa, b6]; exact e6, by rw [rd_wk (by omega)]; exact b7⟩, wl_cg c' (fun j _ _ => R 116 j (by omega)), wl_cg d' (fun j _ _ => R 117 j (by omega)), fun i y z => KR_c (fun b y z => R b _ (by omega)) (e i y z)⟩
theorem hpn_ku {w : Int} (Fo : F ≤ o) : hpn (ku_ K o w) (o + 1 - F).toNat F [] = hp1 w o (hpn K (o - F).toNat F []) := by
  have e1 : (o + 1 - F).toNat = (o - F).toNat + 1 := by omega
  have e2 : F + ((o - F).toNat : Int) = o := by omega
  have e3 : ku_ K o w o = w := by unfold ku_; rw [if_pos rfl]
  rw [e1, hpn_s, e2, e3, hpn_cg (K := K) _ _ _ (fun j a b => by unfold ku_; rw [if_neg (by omega)])]
theorem Mo_grown_s {c x y w : Int} (f : FMx h F ws op tk K o wp mn hs) (F0 : 0 ≤ F) (Fo : F ≤ o) (o1 : o < 64) (l : (hs.length : Int) < 96) (ec : c = kc_ w) (k1 : w < 0 → x = -1 - w) (k2 : 23 ≤ w ∧ w ≤ 29 → x = w - 23) (k3 : w = 22 → x = (hpn K (o - F).toNat F []).headD 0) (k4 : 20 ≤ w → ¬ (22 ≤ w ∧ w ≤ 29) → x = (hpn K (o - F).toNat F []).tail.headD 0 ∧ y = (hpn K (o - F).toNat F []).headD 0) : ∃ h', Mo_grown h 94 c x y = some (h', 0) ∧ FMx h' F ws op tk (ku_ K o w) (o + 1) wp mn (o :: hs) ∧ fg_ F h h' := by
  obtain ⟨a, ⟨b1, b2, b3, b4, b5, b6, b7⟩, cc, d, e⟩ := f
  have n0 : (0 : Int) ≤ (hs.length : Int) := by omega
  refine ⟨wr_ (wr_ (wr_ (wr_ (wr_ (wr_ h 113 (64 + o) c) 114 (64 + o) x) 115 (64 + o) y) 117 hs.length o) 94 44 (hs.length + 1)) 94 21 (o + 1), ?_, ?_, ?_⟩
  · rw [Mo_grown_e]
    simp only [mr38 a, mr39 a, mr40 a, mr42 a, ml113 a, ml114 a, ml115 a, ml117 a, rd_wo (show (94 : Int) ≠ 113 by omega), rd_wo (show (94 : Int) ≠ 114 by omega), rd_wo (show (94 : Int) ≠ 115 by omega), rd_wo (show (94 : Int) ≠ 117 by omega), rd_wk (show (21 : Int) ≠ 44 by omega), b2, b7]
    rw [w32_i (x := 64 + o) (by omega) (by omega), w32_i (x := (hs.length : Int) + 1) (by omega) (by omega), w32_i (x := o + 1) (by omega) (by omega)]
    repeat rw [ck_t (by omega)]
  · have R : ∀ b j, b ≠ 94 → b ≠ 113 → b ≠ 114 → b ≠ 115 → b ≠ 117 → rd_ (wr_ (wr_ (wr_ (wr_ (wr_ (wr_ h 113 (64 + o) c) 114 (64 + o) x) 115 (64 + o) y) 117 hs.length o) 94 44 (hs.length + 1)) 94 21 (o + 1)) b j = rd_ h b j := fun b j q1 q2 q3 q4 q5 => by rw [rd_wo q1, rd_wo q1, rd_wo q5, rd_wo q4, rd_wo q3, rd_wo q2]
    have R9 : ∀ j, j ≠ 21 → j ≠ 44 → rd_ (wr_ (wr_ (wr_ (wr_ (wr_ (wr_ h 113 (64 + o) c) 114 (64 + o) x) 115 (64 + o) y) 117 hs.length o) 94 44 (hs.length + 1)) 94 21 (o + 1)) 94 j = rd_ h 94 j := fun j q1 q2 => by rw [rd_wk q1, rd_wk q2, rd_wo (by omega), rd_wo (by omega), rd_wo (by omega), rd_wo (by omega)]
    have R94 : rd_ (wr_ (wr_ (wr_ (wr_ (wr_ (wr_ h 113 (64 + o) c) 114 (64 + o) x) 115 (64 + o) y) 117 hs.length o) 94 44 (hs.length + 1)) 94 21 (o + 1)) 94 44 = hs.length + 1 := by rw [rd_wk (by omega), rd_ws]
    have R7 : ∀ j, rd_ (wr_ (wr_ (wr_ (wr_ (wr_ (wr_ h 113 (64 + o) c) 114 (64 + o) x) 115 (64 + o) y) 117 hs.length o) 94 44 (hs.length + 1)) 94 21 (o + 1)) 117 j = if j = hs.length then o else rd_ h 117 j := fun j => by rw [rd_wo (by omega), rd_wo (by omega), rd_wa, rd_wo (by omega), rd_wo (by omega), rd_wo (by omega)]
    have R3 : ∀ j, rd_ (wr_ (wr_ (wr_ (wr_ (wr_ (wr_ h 113 (64 + o) c) 114 (64 + o) x) 115 (64 + o) y) 117 hs.length o) 94 44 (hs.length + 1)) 94 21 (o + 1)) 113 j = if j = 64 + o then c else rd_ h 113 j := fun j => by rw [rd_wo (by omega), rd_wo (by omega), rd_wo (by omega), rd_wo (by omega), rd_wo (by omega), rd_wa]
    have R4 : ∀ j, rd_ (wr_ (wr_ (wr_ (wr_ (wr_ (wr_ h 113 (64 + o) c) 114 (64 + o) x) 115 (64 + o) y) 117 hs.length o) 94 44 (hs.length + 1)) 94 21 (o + 1)) 114 j = if j = 64 + o then x else rd_ h 114 j := fun j => by rw [rd_wo (by omega), rd_wo (by omega), rd_wo (by omega), rd_wo (by omega), rd_wa, rd_wo (by omega)]
    have R5 : ∀ j, rd_ (wr_ (wr_ (wr_ (wr_ (wr_ (wr_ h 113 (64 + o) c) 114 (64 + o) x) 115 (64 + o) y) 117 hs.length o) 94 44 (hs.length + 1)) 94 21 (o + 1)) 115 j = if j = 64 + o then y else rd_ h 115 j := fun j => by rw [rd_wo (by omega), rd_wo (by omega), rd_wo (by omega), rd_wa, rd_wo (by omega), rd_wo (by omega)]
    have R21 : rd_ (wr_ (wr_ (wr_ (wr_ (wr_ (wr_ h 113 (64 + o) c) 114 (64 + o) x) 115 (64 + o) y) 117 hs.length o) 94 44 (hs.length + 1)) 94 21 (o + 1)) 94 21 = o + 1 := rd_ws _ _ _ _
    have S0 : ShM (wr_ (wr_ (wr_ (wr_ (wr_ (wr_ h 113 (64 + o) c) 114 (64 + o) x) 115 (64 + o) y) 117 hs.length o) 94 44 (hs.length + 1)) 94 21 (o + 1)) := ShM_of rfl a
    generalize wr_ (wr_ (wr_ (wr_ (wr_ (wr_ h 113 (64 + o) c) 114 (64 + o) x) 115 (64 + o) y) 117 hs.length o) 94 44 (hs.length + 1)) 94 21 (o + 1) = g at R R9 R94 R7 R3 R4 R5 R21 S0 ⊢
    refine ⟨S0, ⟨by rw [R9 43 (by omega) (by omega)]; exact b1, by rw [R94]; simp, by rw [R9 45 (by omega) (by omega)]; exact b3, by rw [R9 46 (by omega) (by omega)]; exact b4, by rw [R9 47 (by omega) (by omega)]; exact b5, by rw [R9 48 (by omega) (by omega)]; exact b6, R21⟩, wl_cg cc (fun j _ _ => R 116 j (by omega) (by omega) (by omega) (by omega) (by omega)), ⟨by rw [R7, if_pos rfl], wl_cg d (fun j _ q => by rw [R7, if_neg (by omega)])⟩, fun i y0 z => ?_⟩
    by_cases q : i = o
    · rw [q]
      have e3 : ku_ K o w o = w := by unfold ku_; rw [if_pos rfl]
      have e4 : hpn (ku_ K o w) (o - F).toNat F [] = hpn K (o - F).toNat F [] := hpn_cg _ _ _ (fun j a b => by unfold ku_; rw [if_neg (by omega)])
      rw [e3, e4]
      unfold KR
      rw [R3, if_pos rfl, R4, if_pos rfl, R5, if_pos rfl]
      exact ⟨ec, k1, k2, k3, k4⟩
    · have e3 : ku_ K o w i = K i := by unfold ku_; rw [if_neg q]
      have e4 : hpn (ku_ K o w) (i - F).toNat F [] = hpn K (i - F).toNat F [] := hpn_cg _ _ _ (fun j a b => by unfold ku_; rw [if_neg (by omega)])
      rw [e3, e4]
      refine KR_c (fun b q1 q2 => ?_) (e i y0 (by omega))
      have : b = 113 ∨ b = 114 ∨ b = 115 := by omega
      rcases this with t | t | t
      · rw [t, R3, if_neg (by omega)]
      · rw [t, R4, if_neg (by omega)]
      · rw [t, R5, if_neg (by omega)]
  · refine fg_t (fg_w ?_) (fg_t (fg_w ?_) (fg_t (fg_w ?_) (fg_t (fg_w ?_) (fg_t (fg_9 (by omega)) (fg_9 (by omega)))))) <;> (unfold gk_; omega)
theorem Mo_dropHeld_s {x : Int} (f : FMx h F ws op tk K o wp mn (x :: hs)) (l : (hs.length : Int) < 96) : ∃ h', Mo_dropHeld h 94 = some (h', x) ∧ FMx h' F ws op tk K o wp mn hs ∧ fg_ F h h' ∧ ∀ j, rd_ h' 116 j = rd_ h 116 j := by
  have a := f.1
  have b2 := f.2.1.2.1
  have d := f.2.2.2.1
  have el : ((x :: hs).length : Int) = (hs.length : Int) + 1 := by simp
  rw [el] at b2
  refine ⟨wr_ h 94 44 hs.length, ?_, ?_, fg_9 (by omega), fun j => rd_wo (by omega)⟩
  · rw [Mo_dropHeld_e]
    simp only [mr42 a, ml117 a, b2]
    rw [show (hs.length : Int) + 1 - 1 = hs.length by omega, w32_i (x := (hs.length : Int)) (by omega) (by omega), rd_ws, rd_wo (by omega), d.1]
    repeat rw [ck_t (by omega)]
  · exact FM_w f (by omega) f.2.2.1 d.2 rfl rfl rfl rfl rfl rfl
end
