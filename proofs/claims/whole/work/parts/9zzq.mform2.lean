/-! a formula in the reference: what waits is put down -/
section
variable {B : Int → Int} {n p F op tk o wp mn : Int} {h h' h1 h2 : am_H} {ws hs : List Int} {K : Int → Int}
theorem Mo_standing_s {w : Int} (q : w = 40 ∨ w = 20 ∨ w = 21 ∨ w = 22 ∨ (30 ≤ w ∧ w ≤ 39)) : Mo_standing h (kwM_ w) = some (h, fsr_ w) := by
  have a : w = 40 ∨ w = 20 ∨ w = 21 ∨ w = 22 ∨ w = 30 ∨ w = 31 ∨ w = 32 ∨ w = 33 ∨ w = 34 ∨ w = 35 ∨ w = 36 ∨ w = 37 ∨ w = 38 ∨ w = 39 := by omega
  rw [Mo_standing_e]
  rcases a with a | a | a | a | a | a | a | a | a | a | a | a | a | a <;> subst a <;> rfl
theorem kwM_2 {w : Int} (q : w = 40 ∨ w = 20 ∨ w = 21 ∨ w = 22 ∨ (30 ≤ w ∧ w ≤ 39)) : kwM_ w = 2 ↔ w = 22 := by
  unfold kwM_ kc_
  repeat' split
  all_goals omega
theorem kwM_k {w : Int} (q : w ≠ 40) : kwM_ w = kc_ w := if_neg q
theorem lkq_pd {w : Int} {r : List Int} (F0 : 0 ≤ F) (Fo : F ≤ o) (n40 : w ≠ 40) (wa : w = 40 ∨ w = 20 ∨ w = 21 ∨ w = 22 ∨ (30 ≤ w ∧ w ≤ 39)) (l : lkq K (o - F).toNat F 0 (1 + bj_ (w :: r)).toNat) : lkq (ku_ K o w) (o + 1 - F).toNat F 0 (1 + bj_ r).toNat := by
  have cv := ct_v r
  rw [bj_c] at l
  have l3 : lkq (ku_ K o w) (o - F).toNat F 0 (1 + ((if w = 40 ∨ w = 22 then 0 else 1) + bj_ r)).toNat := lkq_cg _ _ _ l (fun j a b => by unfold ku_; rw [if_neg (by omega)])
  have e1 : (o + 1 - F).toNat = (o - F).toNat + 1 := by omega
  rw [e1]
  refine lkq_sn _ _ _ l3 ?_
  have e2 : F + ((o - F).toNat : Int) = o := by omega
  have e3 : ku_ K o w o = w := by unfold ku_; rw [if_pos rfl]
  rw [e2, e3]
  by_cases z : w = 22
  · rw [if_pos (Or.inr z)]
    exact Or.inr (Or.inl ⟨z, by omega, by omega⟩)
  · rw [if_neg (by omega)]
    exact Or.inr (Or.inr (Or.inr ⟨by omega, by omega, by omega⟩))
theorem Mo_bind_s {m : Int} (m1 : 1 ≤ m) (F0 : 0 ≤ F) : ∀ (ws : List Int) (h : am_H) (K : Int → Int) (o : Int), FMo h F ws op tk K o wp mn → F ≤ o → o + nb_ ws ≤ 64 → (ws.length : Int) ≤ 72 → wok_ ws → lkq K (o - F).toNat F 0 (1 + bj_ ws).toNat → ∃ h', Mo_bind h 94 m = some (h', 0) ∧ FMo h' F (pd_ m ws K o).1 op tk (pd_ m ws K o).2.1 (pd_ m ws K o).2.2 wp mn ∧ fg_ F h h' := by
  intro ws
  induction ws with
  | nil =>
    intro h K o f Fo _ _ _ _
    have b1 := f.2.1.1
    refine ⟨h, ?_, f, fg_refl⟩
    rw [Mo_bind_e, b1, ck_t (by omega), if_pos (by simp)]
  | cons w r ih =>
    intro h K o f Fo o64 l72 wk l
    obtain ⟨wa, wb⟩ := wk
    have cv := ct_v r
    have el : ((w :: r).length : Int) = (r.length : Int) + 1 := by simp
    have b1 := f.2.1.1
    rw [el] at b1 l72
    have a0 := f.1
    have c0 := f.2.2.1
    rw [Mo_bind_e]
    simp only [mr41 a0, ml116 a0, b1]
    rw [show (r.length : Int) + 1 - 1 = r.length by omega, w32_i (x := (r.length : Int)) (by omega) (by omega), c0.1, if_neg (by omega)]
    repeat rw [ck_t (by omega)]
    rw [Mo_standing_s wa, bd_v, pd_c]
    by_cases q : fsr_ w < m
    · rw [if_pos (c := fsr_ w < m) q, if_pos (c := fsr_ w < m) q]
      exact ⟨h, rfl, f, fg_refl⟩
    · rw [if_neg (c := fsr_ w < m) q, if_neg (c := fsr_ w < m) q]
      have n40 : w ≠ 40 := fun e => by rw [e, fsr_40] at q; omega
      have f1 : FMx (wr_ h 94 43 r.length) F r op tk K o wp mn (hpn K (o - F).toNat F []) := FM_w f (by omega) c0.2 f.2.2.2.1 rfl rfl rfl rfl rfl rfl
      have l2 := lkq_pd F0 Fo n40 wa l
      have hl := hpn_len _ _ _ [] l rfl
      have g1 : fg_ F h (wr_ h 94 43 r.length) := fg_9 (by omega)
      have c1 : rd_ (wr_ h 94 43 r.length) 116 r.length = kwM_ w := by rw [rd_wo (by omega)]; exact c0.1
      have d1 : rd_ (wr_ h 94 43 r.length) 94 43 = r.length := rd_ws _ _ _ _
      rw [bj_c] at hl
      rw [nb_c, if_neg n40] at o64
      simp only [mr41 a0, ml116 a0, b1]
      rw [show (r.length : Int) + 1 - 1 = r.length by omega, w32_i (x := (r.length : Int)) (by omega) (by omega), d1, c1]
      repeat rw [ck_t (by omega)]
      generalize wr_ h 94 43 r.length = g at f1 g1 ⊢
      have eh := hpn_ku (K := K) (w := w) Fo
      by_cases z : w = 22
      · rw [if_neg (c := kwM_ w ≠ 2) (fun y => y ((kwM_2 wa).mpr z))]
        rw [if_pos (Or.inr z)] at hl
        cases e : hpn K (o - F).toNat F [] with
        | nil => rw [e] at hl; simp at hl; omega
        | cons x hs =>
          rw [e] at f1 hl eh
          have hl2 : (hs.length : Int) < 96 := by simp at hl; omega
          obtain ⟨h3, i1, i2, i3, _⟩ := Mo_dropHeld_s f1 hl2
          rw [i1, bd_v]
          obtain ⟨h5, j1, j2, j3⟩ := Mo_grown_s (c := kwM_ w) (x := x) (y := -1) (w := w) i2 F0 Fo (by omega) hl2 (kwM_k n40) (fun y => by omega) (fun y => by omega) (fun _ => by rw [e]; rfl) (fun y y2 => by omega)
          rw [j1, bd_v]
          have f5 : FMo h5 F r op tk (ku_ K o w) (o + 1) wp mn := by
            unfold FMo
            rw [eh, show hp1 w o (x :: hs) = o :: hs by unfold hp1; rw [if_neg (by omega), if_pos z]; rfl]
            exact j2
          obtain ⟨h7, k1, k2, k3⟩ := ih h5 (ku_ K o w) (o + 1) f5 (by omega) (by omega) (by omega) wb l2
          exact ⟨h7, k1, k2, fg_t g1 (fg_t i3 (fg_t j3 k3))⟩
      · rw [if_pos (c := kwM_ w ≠ 2) (fun y => z ((kwM_2 wa).mp y))]
        rw [if_neg (by omega)] at hl
        cases e : hpn K (o - F).toNat F [] with
        | nil => rw [e] at hl; simp at hl; omega
        | cons x hs0 =>
          cases hs0 with
          | nil => rw [e] at hl; simp at hl; omega
          | cons x2 hs =>
            rw [e] at f1 hl eh
            have hl2 : (hs.length : Int) < 95 := by simp at hl; omega
            have hl3 : ((x2 :: hs).length : Int) < 96 := by simp; omega
            obtain ⟨h3, i1, i2, i3, _⟩ := Mo_dropHeld_s f1 hl3
            rw [i1, bd_v]
            obtain ⟨h4, u1, u2, u3, _⟩ := Mo_dropHeld_s i2 (by omega)
            rw [u1, bd_v]
            obtain ⟨h5, j1, j2, j3⟩ := Mo_grown_s (c := kwM_ w) (x := x2) (y := x) (w := w) u2 F0 Fo (by omega) (by omega) (kwM_k n40) (fun y => by omega) (fun y => by omega) (fun y => absurd y z) (fun y y2 => by rw [e]; exact ⟨rfl, rfl⟩)
            rw [j1, bd_v]
            have f5 : FMo h5 F r op tk (ku_ K o w) (o + 1) wp mn := by
              unfold FMo
              rw [eh, show hp1 w o (x :: x2 :: hs) = o :: hs by unfold hp1; rw [if_neg (by omega), if_neg z, if_neg (by omega)]; rfl]
              exact j2
            obtain ⟨h7, k1, k2, k3⟩ := ih h5 (ku_ K o w) (o + 1) f5 (by omega) (by omega) (by omega) wb l2
            exact ⟨h7, k1, k2, fg_t g1 (fg_t i3 (fg_t u3 (fg_t j3 k3)))⟩
/-- a knot counted; a sign that waits -/
theorem Mo_isCounted_t (f : FMx h F ws op tk K o wp mn hs) (t0 : 0 ≤ tk) (t1 : tk < 64) : Mo_isCounted h 94 = some (wr_ h 94 46 (tk + 1), 1) ∧ FMx (wr_ h 94 46 (tk + 1)) F ws op (tk + 1) K o wp mn hs ∧ fg_ F h (wr_ h 94 46 (tk + 1)) := by
  have b4 := f.2.1.2.2.2.1
  refine ⟨?_, FM_w f (by omega) f.2.2.1 f.2.2.2.1 rfl rfl rfl rfl rfl rfl, fg_9 (by omega)⟩
  rw [Mo_isCounted_e, b4, if_pos (by omega), w32_i (by omega) (by omega)]
  repeat rw [ck_t (by omega)]
theorem Mo_isCounted_f (f : FMx h F ws op tk K o wp mn hs) (r : MR h B n p) (t1 : tk = 64) : ∃ h', Mo_isCounted h 94 = some (h', 0) ∧ mwE_ h' 2 (tp_ B n p) ∧ fzY h h' := by
  have b4 := f.2.1.2.2.2.1
  obtain ⟨h', b1, b2, b3⟩ := Mo_wrongB 2 r.2.1
  refine ⟨h', ?_, b2, b3⟩
  rw [Mo_isCounted_e, b4, if_neg (by omega)]
  repeat rw [ck_t (by omega)]
  exact b1
theorem Mo_waitsFor_s {w : Int} (f : FMx h F ws op tk K o wp mn hs) (l : (ws.length : Int) < 96) : ∃ h', Mo_waitsFor h 94 (kwM_ w) = some (h', 0) ∧ FMx h' F (w :: ws) op tk K o wp mn hs ∧ fg_ F h h' := by
  have a0 := f.1
  have b1 := f.2.1.1
  refine ⟨wr_ (wr_ h 116 ws.length (kwM_ w)) 94 43 (ws.length + 1), ?_, ?_, fg_t (fg_w (by unfold gk_; omega)) (fg_9 (by omega))⟩
  · rw [Mo_waitsFor_e]
    simp only [mr41 a0, ml116 a0, rd_wo (show (94 : Int) ≠ 116 by omega), b1]
    rw [w32_i (x := (ws.length : Int) + 1) (by omega) (by omega)]
    repeat rw [ck_t (by omega)]
  · obtain ⟨a, b, c, d, e⟩ := f
    have f1 : FMx (wr_ h 116 ws.length (kwM_ w)) F ws op tk K o wp mn hs := ⟨ShM_of rfl a, b, wl_cg c (fun j _ q => by rw [rd_wk (by omega)]), wl_cg d (fun j _ _ => rd_wo (by omega)), fun i y z => KR_c (fun b y z => rd_wo (by omega)) (e i y z)⟩
    exact FM_w f1 (by omega) ⟨rd_ws _ _ _ _, wl_cg c (fun j _ q => by rw [rd_wk (by omega)])⟩ f1.2.2.2.1 (by simp) rfl rfl rfl rfl rfl
end
