/-! a formula in the reference: a part, a joint -/
def FMs (h : am_H) (F : Int) (S : fS_) : Prop := FMo h F S.1 S.2.1 S.2.2.1 S.2.2.2.1 S.2.2.2.2.1 S.2.2.2.2.2.1 S.2.2.2.2.2.2
def fpM_ (h : am_H) (B : Int → Int) (n p F v : Int) (R : Int × fS_) : Prop := (R.1 ≠ 0 ∧ v = 0 ∧ mwE_ h R.1 (tp_ B n p)) ∨ (R.1 = 0 ∧ v = 1 ∧ FMs h F R.2 ∧ MR h B n (tk_n B n p))
theorem MRk_f {k v K X : Int} (m : MRk k v K X) : (K = 4 ∧ X = 40 ↔ k = 40) ∧ (K = 4 ∧ X = 41 ↔ k = 41) ∧ (K = 1 ∧ X = 12 ↔ k = 22) ∧ (K = 1 ∧ 13 ≤ X ↔ 23 ≤ k ∧ k ≤ 29) ∧ (23 ≤ k → k ≤ 29 → X = k - 10) ∧ (K = 3 ↔ k = 2) := by
  unfold MRk msg_ ciw_ at m
  repeat' split at m
  all_goals omega
theorem MRk_j {k v K X : Int} (m : MRk k v K X) : (K = 1 ∧ X = 10 ↔ k = 21) ∧ (K = 1 ∧ X = 11 ↔ k = 20) ∧ (K = 5 ↔ 30 ≤ k ∧ k ≤ 35) ∧ (K = 5 → X = k - 30) ∧ (K = 4 ∧ X = 43 ↔ k = 36) ∧ (K = 4 ∧ X = 45 ↔ k = 37) ∧ (K = 4 ∧ X = 42 ↔ k = 38) ∧ (K = 4 ∧ X = 47 ↔ k = 39) := by
  unfold MRk msg_ ciw_ at m
  repeat' split at m
  all_goals omega
section
variable {B : Int → Int} {n p F op tk o wp mn : Int} {h h' h1 h2 : am_H} {ws hs : List Int} {K : Int → Int}
theorem Mo_isKey_s (x : Int) : Mo_isKey h 94 x = some (h, if rd_ h 94 8 = 1 ∧ rd_ h 94 9 = x then 1 else 0) := by
  rw [Mo_isKey_e, ck_t (by omega)]
  by_cases q : rd_ h 94 8 = 1
  · rw [if_neg (fun z => z q), ck_t (by omega)]
    by_cases y : rd_ h 94 9 = x
    · rw [if_neg (fun z => z y), if_pos ⟨q, y⟩]
    · rw [if_pos y, if_neg (fun z => y z.2)]
  · rw [if_pos q, if_neg (fun z => q z.1)]
theorem Mo_token_f {S : fS_} (f : FMs h F S) (r : MR h B n p) : ∃ h', Mo_token h 94 = some (h', 0) ∧ FMs h' F S ∧ MR h' B n (tk_n B n p) ∧ fH_ F h h' := by
  obtain ⟨h', a1, a2, a3⟩ := Mo_token_s r.1
  exact ⟨h', a1, FM_L f (fzY_K a3), a2, fzY_fH (fzY_K a3)⟩
/-- a leaf: a number or a name that is counted -/
theorem Mo_leaf12_s {x k v : Int} (f : FMo h F ws op tk K o 1 mn) (g : FV F ws op tk K o 1 mn) (r : MR h B n p) (ek : tk_k B n p = k) (ev : tk_v B n p = v) (kk : (k = 2 ∧ x = -1) ∨ (23 ≤ k ∧ k ≤ 29 ∧ x = k - 23)) : ∃ h' y, Mo_leafRead_12 h 94 x = some (h', y) ∧ fpM_ h' B n p F y (tpt_ k v ws op tk K o mn) ∧ fH_ F h h' := by
  have m := r.2.2
  rw [ek, ev] at m
  have m2 := fun (_ : Unit) => MRk_2 m
  obtain ⟨a1, a2, a3, a4, a5, a6, a7, a8, a9⟩ := id g
  have cv := ct_v ws
  have hl := hpn_len _ _ _ [] a9 rfl
  have hl2 : ((hpn K (o - F).toNat F []).length : Int) < 96 := by rw [hl]; omega
  have et : tpt_ k v ws op tk K o mn = if 64 ≤ tk ∨ (k = 2 ∧ 9999 < v) then (2, (ws, op, tk, K, o, 1, mn)) else (0, (ws, op, tk + 1, ku_ K o (if k = 2 then -1 - v else k), o + 1, 0, mn)) := by
    unfold tpt_
    rw [if_neg (by omega), if_pos (by omega)]
  rw [et]
  have bad : ∀ h1, fzY h h1 → mwE_ h1 2 (tp_ B n p) → (64 ≤ tk ∨ (k = 2 ∧ 9999 < v)) → ∃ h' y, (some (h1, 0) : am_O) = some (h', y) ∧ fpM_ h' B n p F y (if 64 ≤ tk ∨ (k = 2 ∧ 9999 < v) then (2, (ws, op, tk, K, o, 1, mn)) else (0, (ws, op, tk + 1, ku_ K o (if k = 2 then -1 - v else k), o + 1, 0, mn))) ∧ fH_ F h h' := by
    intro h1 y1 y2 y3
    rw [if_pos y3]
    exact ⟨h1, 0, rfl, Or.inl ⟨by show (2 : Int) ≠ 0; omega, rfl, y2⟩, fzY_fH y1⟩
  have go : ∀ c y, tk < 64 → ¬ (k = 2 ∧ 9999 < v) → c = (if k = 2 then (0 : Int) else 1) → y = (if k = 2 then v else x) → ∃ h' y', (bd_ (Mo_grown (wr_ h 94 46 (tk + 1)) 94 c y 0) fun h1 _ => ck_ (0 ≤ (94 : Int)) (ck_ (0 ≤ (94 : Int)) (bd_ (Mo_token (wr_ h1 94 47 0) 94) fun h3 _ => some (h3, 1)))) = some (h', y') ∧ fpM_ h' B n p F y' (if 64 ≤ tk ∨ (k = 2 ∧ 9999 < v) then (2, (ws, op, tk, K, o, 1, mn)) else (0, (ws, op, tk + 1, ku_ K o (if k = 2 then -1 - v else k), o + 1, 0, mn))) ∧ fH_ F h h' := by
    intro c y t1 nv ec ey
    rw [if_neg (c := 64 ≤ tk ∨ (k = 2 ∧ 9999 < v)) (by omega)]
    obtain ⟨w, ew⟩ : ∃ w, w = (if k = 2 then -1 - v else k) := ⟨_, rfl⟩
    rw [← ew]
    have v0 : k = 2 → 0 ≤ v := fun z => by
      have := (m2 ()).1 z
      omega
    have hw : (k = 2 ∧ w = -1 - v ∧ c = 0 ∧ y = v ∧ 0 ≤ v) ∨ (k ≠ 2 ∧ w = k ∧ c = 1 ∧ y = x ∧ 23 ≤ k ∧ k ≤ 29 ∧ x = k - 23) := by
      by_cases z : k = 2
      · rw [if_pos z] at ew ec ey
        exact Or.inl ⟨z, ew, ec, ey, v0 z⟩
      · rw [if_neg z] at ew ec ey
        exact Or.inr ⟨z, ew, ec, ey, by omega, by omega, by omega⟩
    clear ew ec ey v0 bad m
    have kc : c = kc_ w := by
      unfold kc_
      rcases hw with q | q
      · rw [if_pos (by omega)]; omega
      · rw [if_neg (by omega), if_neg (by omega), if_pos (by omega)]; omega
    have ep : hp1 w o (hpn K (o - F).toNat F []) = o :: hpn K (o - F).toNat F [] := by
      unfold hp1
      rcases hw with q | q
      · rw [if_pos (by omega)]
      · rw [if_neg (by omega), if_neg (by omega), if_pos (by omega)]
    have o64 : o < 64 := by omega
    have t0 : 0 ≤ tk := by omega
    obtain ⟨_, f1, g1⟩ := Mo_isCounted_t f t0 t1
    obtain ⟨h2, i1, i2, i3⟩ := Mo_grown_s (c := c) (x := y) (y := 0) (w := w) f1 a1.1 a1.2 o64 hl2 kc (fun w0 => by omega) (fun w0 => by omega) (fun w0 => False.elim (by omega)) (fun w0 w1 => False.elim (by omega))
    have f2 : FMo h2 F ws op (tk + 1) (ku_ K o w) (o + 1) 1 mn := by
      unfold FMo
      rw [hpn_ku a1.2, ep]
      exact i2
    have f3 : FMs (wr_ h2 94 47 0) F (ws, op, tk + 1, ku_ K o w, o + 1, 0, mn) := FM_w f2 (by omega) f2.2.2.1 f2.2.2.2.1 rfl rfl rfl rfl rfl rfl
    have g3 : fg_ F h (wr_ h2 94 47 0) := fg_t g1 (fg_t i3 (fg_9 (by omega)))
    obtain ⟨h4, j1, j2, j3, j4⟩ := Mo_token_f f3 (MR_fg g3 r)
    rw [i1, bd_v, ck_t (by omega), ck_t (by omega), j1, bd_v]
    exact ⟨h4, 1, rfl, Or.inr ⟨rfl, rfl, j2, j3⟩, fH_t (fg_f g3) j4⟩
  have e9 : rd_ (wr_ h 94 46 (tk + 1)) 94 9 = rd_ h 94 9 := rd_wk (by omega)
  rw [Mo_leafRead_12_e]
  rcases kk with ⟨q, x1⟩ | ⟨q, q2, x1⟩
  · have mm := (m2 ()).1 q
    rw [if_neg (by omega), ck_t (by omega)]
    by_cases z : rd_ h 94 9 ≤ 9999
    · have ex : rd_ h 94 9 = v := by omega
      rw [if_pos z, ck_t (by omega)]
      by_cases t1 : tk < 64
      · rw [(Mo_isCounted_t f (by omega) t1).1, bd_v, if_pos (by omega), if_pos (by omega), Mo_leafRead_20_e, if_pos (by omega), ck_t (by omega), ck_t (by omega), e9]
        exact go 0 (rd_ h 94 9) t1 (by omega) (by rw [if_pos q]) (by rw [if_pos q]; exact ex)
      · obtain ⟨h1, i1, i2, i3⟩ := Mo_isCounted_f f r (by omega)
        rw [i1, bd_v, if_neg (c := (0 : Int) ≠ 0) (by omega)]
        exact bad h1 i3 i2 (Or.inl (by omega))
    · obtain ⟨h1, i1, i2, i3⟩ := Mo_wrongB 2 r.2.1
      rw [if_neg z, ck_t (by omega), i1]
      exact bad h1 i3 i2 (Or.inr ⟨q, by omega⟩)
  · rw [if_pos (by omega), ck_t (by omega)]
    by_cases t1 : tk < 64
    · rw [(Mo_isCounted_t f (by omega) t1).1, bd_v, if_pos (by omega), if_neg (by omega), Mo_leafRead_20_e, if_neg (by omega), ck_t (by omega)]
      exact go 1 x t1 (by omega) (by rw [if_neg (by omega)]) (by rw [if_neg (by omega)])
    · obtain ⟨h1, i1, i2, i3⟩ := Mo_isCounted_f f r (by omega)
      rw [i1, bd_v, if_neg (c := (0 : Int) ≠ 0) (by omega)]
      exact bad h1 i3 i2 (Or.inl (by omega))
theorem Mo_nameMet_s {k v : Int} (m : MRk k v (rd_ h 94 8) (rd_ h 94 9)) : Mo_nameMet h 94 = some (h, if 23 ≤ k ∧ k ≤ 29 then k - 23 else -1) := by
  have mf := fun (_ : Unit) => MRk_f m
  rw [Mo_nameMet_e]
  by_cases q : 23 ≤ k ∧ k ≤ 29
  · rw [if_pos q]
    have a := (mf ()).2.2.2.1.mpr q
    have b := (mf ()).2.2.2.2.1 q.1 q.2
    rw [if_neg (by omega), if_neg (by omega), b, w32_i (by omega) (by omega), show k - 10 - 13 = k - 23 by omega]
    repeat rw [ck_t (by omega)]
  · rw [if_neg q]
    have a : ¬ (rd_ h 94 8 = 1 ∧ 13 ≤ rd_ h 94 9) := fun y => q ((mf ()).2.2.2.1.mp y)
    by_cases z : rd_ h 94 8 = 1
    · rw [if_neg (fun y => y z), if_pos (by omega)]
      repeat rw [ck_t (by omega)]
    · rw [if_pos z]
      repeat rw [ck_t (by omega)]
theorem Mo_leaf_s (f : FMo h F ws op tk K o 1 mn) (g : FV F ws op tk K o 1 mn) (r : MR h B n p) : ∃ h' y, Mo_leafRead h 94 = some (h', y) ∧ fpM_ h' B n p F y (tpt_ (tk_k B n p) (tk_v B n p) ws op tk K o mn) ∧ fH_ F h h' := by
  have L := @Mo_leaf12_s B n p F op tk o mn h ws K
  have m := r.2.2
  generalize ek : tk_k B n p = k at *
  generalize ev : tk_v B n p = v at *
  have mf := fun (_ : Unit) => MRk_f m
  obtain ⟨a1, a2, a3, a4, a5, a6, a7, a8, a9⟩ := id g
  have cv := ct_v ws
  have b45 := f.2.1.2.2.1
  have b48 := f.2.1.2.2.2.2.2.1
  -- neither a bracket nor a 'not' that may stand
  have rest : k ≠ 40 → ¬ (k = 22 ∧ mn ≠ 0) → ∃ h' y, (bd_ (Mo_nameMet h 94) fun h5 v6 => if 0 ≤ v6 then Mo_leafRead_12 h5 94 v6 else ck_ (0 ≤ (94 : Int)) (if (rd_ h5 94 8) = 3 then Mo_leafRead_12 h5 94 v6 else ck_ (0 ≤ (94 : Int)) (bd_ (Mo_wrong h5 94 1) fun h7 v8 => ck_ (v8 = 0 ∨ v8 = 1) (some (h7, v8))))) = some (h', y) ∧ fpM_ h' B n p F y (tpt_ k v ws op tk K o mn) ∧ fH_ F h h' := by
    intro n1 n2
    rw [Mo_nameMet_s m, bd_v]
    by_cases q : 23 ≤ k ∧ k ≤ 29
    · rw [if_pos q, if_pos (by omega)]
      exact L f g r rfl rfl (Or.inr ⟨q.1, q.2, rfl⟩)
    · rw [if_neg q, if_neg (by omega), ck_t (by omega)]
      by_cases z : k = 2
      · rw [if_pos ((mf ()).2.2.2.2.2.mpr z)]
        exact L f g r rfl rfl (Or.inl ⟨z, rfl⟩)
      · obtain ⟨h1, i1, i2, i3⟩ := Mo_wrongB 1 r.2.1
        rw [if_neg (fun y => z ((mf ()).2.2.2.2.2.mp y)), ck_t (by omega), i1]
        have et : tpt_ k v ws op tk K o mn = (1, (ws, op, tk, K, o, 1, mn)) := by
          unfold tpt_
          rw [if_neg n1, if_neg (by omega), if_neg n2]
        rw [et]
        exact ⟨h1, 0, rfl, Or.inl ⟨by show (1 : Int) ≠ 0; omega, rfl, i2⟩, fzY_fH i3⟩
  rw [Mo_leafRead_e, ck_t (by omega), Mo_isSign_s, bd_v]
  by_cases q : k = 40
  · rw [if_pos (c := rd_ h 94 8 = 4 ∧ rd_ h 94 9 = 40) ((mf ()).1.mpr q), if_neg (c := (1 : Int) = 0) (by omega), b45, ck_t (by omega)]
    have et : tpt_ k v ws op tk K o mn = if op < 8 then (0, (40 :: ws, op + 1, tk, K, o, 1, 1)) else (2, (ws, op, tk, K, o, 1, mn)) := by
      unfold tpt_
      rw [if_pos q]
    rw [et]
    by_cases z : op < 8
    · rw [if_pos (c := op ≠ 8) (by omega), if_pos (c := op < 8) z, w32_i (by omega) (by omega)]
      repeat rw [ck_t (by omega)]
      have f1 : FMo (wr_ h 94 45 (op + 1)) F ws (op + 1) tk K o 1 mn := FM_w f (by omega) f.2.2.1 f.2.2.2.1 rfl rfl rfl rfl rfl rfl
      obtain ⟨h2, i1, i2, i3⟩ := Mo_waitsFor_s (w := 40) f1 (by omega)
      have ew : kwM_ 40 = 0 := rfl
      rw [ew] at i1
      have f3 : FMs (wr_ h2 94 48 1) F (40 :: ws, op + 1, tk, K, o, 1, 1) := FM_w i2 (by omega) i2.2.2.1 i2.2.2.2.1 rfl rfl rfl rfl rfl rfl
      have g3 : fg_ F h (wr_ h2 94 48 1) := fg_t (fg_9 (by omega)) (fg_t i3 (fg_9 (by omega)))
      obtain ⟨h4, j1, j2, j3, j4⟩ := Mo_token_f f3 (MR_fg g3 r)
      rw [i1, bd_v]
      repeat rw [ck_t (by omega)]
      rw [j1, bd_v]
      exact ⟨h4, 1, rfl, Or.inr ⟨rfl, rfl, j2, j3⟩, fH_t (fg_f g3) j4⟩
    · obtain ⟨h1, i1, i2, i3⟩ := Mo_wrongB 2 r.2.1
      rw [if_neg (c := op ≠ 8) (by omega), if_neg (c := op < 8) z, ck_t (by omega), i1]
      exact ⟨h1, 0, rfl, Or.inl ⟨by show (2 : Int) ≠ 0; omega, rfl, i2⟩, fzY_fH i3⟩
  · rw [if_neg (c := rd_ h 94 8 = 4 ∧ rd_ h 94 9 = 40) (fun y => q ((mf ()).1.mp y)), if_pos (c := (0 : Int) = 0) rfl, ck_t (by omega), Mo_isKey_s, bd_v]
    by_cases z : k = 22
    · rw [if_pos (c := rd_ h 94 8 = 1 ∧ rd_ h 94 9 = 12) ((mf ()).2.2.1.mpr z), if_neg (c := (1 : Int) = 0) (by omega), b48, ck_t (by omega)]
      by_cases y : mn = 0
      · rw [if_pos (c := mn = 0) y, ck_t (by omega)]
        exact rest q (fun x => x.2 y)
      · rw [if_neg (c := mn = 0) y, ck_t (by omega)]
        have et : tpt_ k v ws op tk K o mn = if 64 ≤ tk then (2, (ws, op, tk, K, o, 1, mn)) else (0, (22 :: ws, op, tk + 1, K, o, 1, mn)) := by
          unfold tpt_
          rw [if_neg q, if_neg (by omega), if_pos ⟨z, y⟩]
        rw [et]
        by_cases t1 : tk < 64
        · obtain ⟨i0, f1, g1⟩ := Mo_isCounted_t f (by omega) t1
          obtain ⟨h2, i1, i2, i3⟩ := Mo_waitsFor_s (w := 22) f1 (by omega)
          have ew : kwM_ 22 = 2 := rfl
          rw [ew] at i1
          have f3 : FMs h2 F (22 :: ws, op, tk + 1, K, o, 1, mn) := i2
          have g3 : fg_ F h h2 := fg_t g1 i3
          obtain ⟨h4, j1, j2, j3, j4⟩ := Mo_token_f f3 (MR_fg g3 r)
          rw [i0, bd_v, if_pos (c := (1 : Int) ≠ 0) (by omega), ck_t (by omega), i1, bd_v, ck_t (by omega), j1, bd_v, if_neg (c := 64 ≤ tk) (by omega)]
          exact ⟨h4, 1, rfl, Or.inr ⟨rfl, rfl, j2, j3⟩, fH_t (fg_f g3) j4⟩
        · obtain ⟨h1, i1, i2, i3⟩ := Mo_isCounted_f f r (by omega)
          rw [i1, bd_v, if_neg (c := (0 : Int) ≠ 0) (by omega), if_pos (c := 64 ≤ tk) (by omega)]
          exact ⟨h1, 0, rfl, Or.inl ⟨by show (2 : Int) ≠ 0; omega, rfl, i2⟩, fzY_fH i3⟩
    · rw [if_neg (c := rd_ h 94 8 = 1 ∧ rd_ h 94 9 = 12) (fun y => z ((mf ()).2.2.1.mp y)), if_pos (c := (0 : Int) = 0) rfl, ck_t (by omega)]
      exact rest q (fun x => z x.1)
end
