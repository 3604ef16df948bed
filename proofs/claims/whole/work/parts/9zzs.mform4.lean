/-! a formula in the reference: a joint -/
section
variable {B : Int → Int} {n p F op tk o wp mn k : Int} {h h' h1 h2 : am_H} {ws hs : List Int} {K : Int → Int}
theorem fsr_mn {k : Int} (kk : k = 20 ∨ k = 21 ∨ (30 ≤ k ∧ k ≤ 39)) : (3 ≤ fsr_ k ↔ ¬ (k = 20 ∨ k = 21)) ∧ fsr_ k ≠ 0 ∧ k ≠ 22 := by
  unfold fsr_
  repeat' split
  all_goals omega
theorem Mo_sg27_s {X : fS_} (f : FMo h F ws op tk K o 0 mn) (r : MR h B n p) (kk : k = 20 ∨ k = 21 ∨ (30 ≤ k ∧ k ≤ 39)) (l : (ws.length : Int) < 96) (t0 : 0 ≤ tk) (t1 : tk ≤ 64) : ∃ h' y, Mo_signs_27 h 94 (kwM_ k) = some (h', y) ∧ fpM_ h' B n p F y (if 64 ≤ tk then (2, X) else (0, (k :: ws, op, tk + 1, K, o, 1, if k = 20 ∨ k = 21 then 1 else 0))) ∧ fH_ F h h' := by
  have km := fun (_ : Unit) => fsr_mn kk
  rw [Mo_signs_27_e, ck_t (by omega)]
  by_cases q : 64 ≤ tk
  · obtain ⟨h1, i1, i2, i3⟩ := Mo_isCounted_f f r (by omega)
    rw [i1, bd_v, if_neg (c := (0 : Int) ≠ 0) (by omega), if_pos (c := 64 ≤ tk) q]
    exact ⟨h1, 0, rfl, Or.inl ⟨by show (2 : Int) ≠ 0; omega, rfl, i2⟩, fzY_fH i3⟩
  · obtain ⟨i0, f1, g1⟩ := Mo_isCounted_t f t0 (by omega)
    obtain ⟨h2, i1, i2, i3⟩ := Mo_waitsFor_s (w := k) f1 l
    have f3 : FMo (wr_ h2 94 47 1) F (k :: ws) op (tk + 1) K o 1 mn := FM_w i2 (by omega) i2.2.2.1 i2.2.2.2.1 rfl rfl rfl rfl rfl rfl
    have g3 : fg_ F h (wr_ h2 94 47 1) := fg_t g1 (fg_t i3 (fg_9 (by omega)))
    rw [i0, bd_v, if_pos (c := (1 : Int) ≠ 0) (by omega), ck_t (by omega), i1, bd_v, ck_t (by omega), Mo_standing_s (w := k) (by omega), bd_v, if_neg (c := 64 ≤ tk) q]
    generalize wr_ h2 94 47 1 = g at f3 g3 ⊢
    have fin : ∀ m : Int, m = (if k = 20 ∨ k = 21 then 1 else 0) → ∃ h' y, (ck_ (0 ≤ (94 : Int)) (ck_ (0 ≤ (94 : Int)) (bd_ (Mo_token (wr_ g 94 48 m) 94) fun h7 _ => some (h7, 1)))) = some (h', y) ∧ fpM_ h' B n p F y ((0 : Int), ((k :: ws, op, tk + 1, K, o, 1, if k = 20 ∨ k = 21 then 1 else 0) : fS_)) ∧ fH_ F h h' := by
      intro m em
      have f5 : FMs (wr_ g 94 48 m) F (k :: ws, op, tk + 1, K, o, 1, if k = 20 ∨ k = 21 then 1 else 0) := by
        rw [← em]
        exact FM_w f3 (by omega) f3.2.2.1 f3.2.2.2.1 rfl rfl rfl rfl rfl rfl
      have g5 : fg_ F h (wr_ g 94 48 m) := fg_t g3 (fg_9 (by omega))
      obtain ⟨h4, j1, j2, j3, j4⟩ := Mo_token_f f5 (MR_fg g5 r)
      rw [ck_t (by omega), ck_t (by omega), j1, bd_v]
      exact ⟨h4, 1, rfl, Or.inr ⟨rfl, rfl, j2, j3⟩, fH_t (fg_f g5) j4⟩
    by_cases z : k = 20 ∨ k = 21
    · rw [if_neg (c := 3 ≤ fsr_ k) (fun y => (km ()).1.mp y z)]
      exact fin 1 (if_pos z).symm
    · rw [if_pos (c := 3 ≤ fsr_ k) ((km ()).1.mpr z)]
      exact fin 0 (if_neg z).symm
theorem Mo_sg23_s {X : fS_} (f : FMo h F ws op tk K o 0 mn) (g : FV F ws op tk K o 0 mn) (r : MR h B n p) (kk : k = 20 ∨ k = 21 ∨ (30 ≤ k ∧ k ≤ 39)) : ∃ h' y, Mo_signs_23 h 94 (kwM_ k) (lst_ k) 94 = some (h', y) ∧ fpM_ h' B n p F y (if fsr_ k = 4 ∧ fsr_ ((pd_ (lst_ k) ws K o).1.headD 0) = 4 then (1, X) else if 64 ≤ tk then (2, X) else (0, (k :: (pd_ (lst_ k) ws K o).1, op, tk + 1, (pd_ (lst_ k) ws K o).2.1, (pd_ (lst_ k) ws K o).2.2, 1, if k = 20 ∨ k = 21 then 1 else 0))) ∧ fH_ F h h' := by
  have km := fun (_ : Unit) => fsr_mn kk
  obtain ⟨a1, a2, a3, a4, a5, a6, a7, a8, a9⟩ := id g
  rw [show 1 + bj_ ws - 0 = 1 + bj_ ws by omega] at a9
  have cv := ct_v ws
  have l1 := lst_1 (km ()).2.1
  obtain ⟨h1, b1, b2, b3⟩ := Mo_bind_s (m := lst_ k) l1 a1.1 ws h K o f a1.2 (by omega) (by omega) a8 a9
  have pv := (pd_v (m := lst_ k) l1 ws K o a1.1 a1.2 a8 a9).2.2.2.1
  have pl := pd_len (m := lst_ k) ws K o
  have r1 := MR_fg b3 r
  rw [Mo_signs_23_e, ck_t (by omega), b1, bd_v, Mo_standing_s (w := k) (by omega), bd_v]
  generalize (pd_ (lst_ k) ws K o).2.1 = K1 at *
  generalize (pd_ (lst_ k) ws K o).2.2 = o1 at *
  generalize (pd_ (lst_ k) ws K o).1 = ws1 at *
  have g27 : ¬ (fsr_ k = 4 ∧ fsr_ (ws1.headD 0) = 4) → ∃ h' y, Mo_signs_27 h1 94 (kwM_ k) = some (h', y) ∧ fpM_ h' B n p F y (if fsr_ k = 4 ∧ fsr_ (ws1.headD 0) = 4 then (1, X) else if 64 ≤ tk then (2, X) else (0, (k :: ws1, op, tk + 1, K1, o1, 1, if k = 20 ∨ k = 21 then 1 else 0))) ∧ fH_ F h h' := by
    intro nz
    rw [if_neg nz]
    obtain ⟨h', y, c1, c2, c3⟩ := Mo_sg27_s (X := X) b2 r1 kk (by omega) (by omega) a2
    exact ⟨h', y, c1, c2, fH_t (fg_f b3) c3⟩
  by_cases q4 : fsr_ k = 4
  · rw [if_neg (c := fsr_ k ≠ 4) (fun y => y q4), ck_t (by omega)]
    have b43 := b2.2.1.1
    have c0 := b2.2.2.1
    cases e : ws1 with
    | nil =>
      rw [e] at b43 g27
      rw [b43, if_pos (by simp)]
      refine g27 (fun y => ?_)
      have y2 : fsr_ 0 = 4 := y.2
      exact absurd y2 (by decide)
    | cons w rr =>
      rw [e] at b43 c0 pv g27
      have el : ((w :: rr).length : Int) = (rr.length : Int) + 1 := by simp
      have pl2 : ws1.length = rr.length + 1 := by rw [e]; simp
      rw [el] at b43
      rw [b43, if_neg (by omega), mr41 b2.1, ml116 b2.1, show (rr.length : Int) + 1 - 1 = rr.length by omega, w32_i (x := (rr.length : Int)) (by omega) (by omega), c0.1]
      repeat rw [ck_t (by omega)]
      rw [Mo_standing_s pv.1, bd_v]
      by_cases q5 : fsr_ w = 4
      · rw [if_neg (c := fsr_ w ≠ 4) (fun y => y q5), ck_t (by omega)]
        obtain ⟨h2, i1, i2, i3⟩ := Mo_wrongB 1 r1.2.1
        rw [i1, if_pos (c := fsr_ k = 4 ∧ fsr_ ((w :: rr).headD 0) = 4) ⟨q4, q5⟩]
        exact ⟨h2, 0, rfl, Or.inl ⟨by show (1 : Int) ≠ 0; omega, rfl, i2⟩, fH_t (fg_f b3) (fzY_fH i3)⟩
      · rw [if_pos (c := fsr_ w ≠ 4) q5]
        exact g27 (fun y => q5 y.2)
  · rw [if_pos (c := fsr_ k ≠ 4) q4]
    exact g27 (fun y => q4 y.1)
theorem Mo_signs_3_s {v : Int} (m : MRk k v (rd_ h 94 8) (rd_ h 94 9)) : Mo_signs_3 h 94 = Mo_signs_18 h 94 (if k = 20 ∨ k = 21 ∨ (30 ≤ k ∧ k ≤ 39) then kwM_ k else 0) := by
  have mj := fun (_ : Unit) => MRk_j m
  clear m
  have yes : ∀ x : Int, (k = 20 ∨ k = 21 ∨ (30 ≤ k ∧ k ≤ 39)) → kwM_ k = x → Mo_signs_18 h 94 x = Mo_signs_18 h 94 (if k = 20 ∨ k = 21 ∨ (30 ≤ k ∧ k ≤ 39) then kwM_ k else 0) := fun x a b => by rw [if_pos a, b]
  rw [Mo_signs_3_e, ck_t (by omega), Mo_isKey_s, bd_v]
  by_cases q21 : k = 21
  · rw [if_pos (c := rd_ h 94 8 = 1 ∧ rd_ h 94 9 = 10) ((mj ()).1.mpr q21), if_neg (c := (1 : Int) = 0) (by omega)]
    exact yes _ (by omega) (by rw [q21]; rfl)
  rw [if_neg (c := rd_ h 94 8 = 1 ∧ rd_ h 94 9 = 10) (fun y => q21 ((mj ()).1.mp y)), if_pos (c := (0 : Int) = 0) rfl, ck_t (by omega), Mo_isKey_s, bd_v]
  by_cases q20 : k = 20
  · rw [if_pos (c := rd_ h 94 8 = 1 ∧ rd_ h 94 9 = 11) ((mj ()).2.1.mpr q20), if_neg (c := (1 : Int) = 0) (by omega)]
    exact yes _ (by omega) (by rw [q20]; rfl)
  rw [if_neg (c := rd_ h 94 8 = 1 ∧ rd_ h 94 9 = 11) (fun y => q20 ((mj ()).2.1.mp y)), if_pos (c := (0 : Int) = 0) rfl, ck_t (by omega)]
  by_cases q5 : 30 ≤ k ∧ k ≤ 35
  · have x8 := (mj ()).2.2.1.mpr q5
    have x9 := (mj ()).2.2.2.1 x8
    rw [if_neg (c := rd_ h 94 8 ≠ 5) (fun y => y x8), ck_t (by omega), x9, w32_i (x := 5 + (k - 30)) (by omega) (by omega)]
    refine yes _ (by omega) ?_
    have a : k = 30 ∨ k = 31 ∨ k = 32 ∨ k = 33 ∨ k = 34 ∨ k = 35 := by omega
    rcases a with a | a | a | a | a | a <;> subst a <;> rfl
  rw [if_pos (c := rd_ h 94 8 ≠ 5) (fun y => q5 ((mj ()).2.2.1.mp y)), ck_t (by omega), Mo_isSign_s, bd_v]
  by_cases q36 : k = 36
  · rw [if_pos (c := rd_ h 94 8 = 4 ∧ rd_ h 94 9 = 43) ((mj ()).2.2.2.2.1.mpr q36), if_neg (c := (1 : Int) = 0) (by omega)]
    exact yes _ (by omega) (by rw [q36]; rfl)
  rw [if_neg (c := rd_ h 94 8 = 4 ∧ rd_ h 94 9 = 43) (fun y => q36 ((mj ()).2.2.2.2.1.mp y)), if_pos (c := (0 : Int) = 0) rfl, ck_t (by omega), Mo_isSign_s, bd_v]
  by_cases q37 : k = 37
  · rw [if_pos (c := rd_ h 94 8 = 4 ∧ rd_ h 94 9 = 45) ((mj ()).2.2.2.2.2.1.mpr q37), if_neg (c := (1 : Int) = 0) (by omega)]
    exact yes _ (by omega) (by rw [q37]; rfl)
  rw [if_neg (c := rd_ h 94 8 = 4 ∧ rd_ h 94 9 = 45) (fun y => q37 ((mj ()).2.2.2.2.2.1.mp y)), if_pos (c := (0 : Int) = 0) rfl, ck_t (by omega), Mo_isSign_s, bd_v]
  by_cases q38 : k = 38
  · rw [if_pos (c := rd_ h 94 8 = 4 ∧ rd_ h 94 9 = 42) ((mj ()).2.2.2.2.2.2.1.mpr q38), if_neg (c := (1 : Int) = 0) (by omega)]
    exact yes _ (by omega) (by rw [q38]; rfl)
  rw [if_neg (c := rd_ h 94 8 = 4 ∧ rd_ h 94 9 = 42) (fun y => q38 ((mj ()).2.2.2.2.2.2.1.mp y)), if_pos (c := (0 : Int) = 0) rfl, ck_t (by omega), Mo_isSign_s, bd_v]
  by_cases q39 : k = 39
  · rw [if_pos (c := rd_ h 94 8 = 4 ∧ rd_ h 94 9 = 47) ((mj ()).2.2.2.2.2.2.2.mpr q39), if_neg (c := (1 : Int) = 0) (by omega)]
    exact yes _ (by omega) (by rw [q39]; rfl)
  rw [if_neg (c := rd_ h 94 8 = 4 ∧ rd_ h 94 9 = 47) (fun y => q39 ((mj ()).2.2.2.2.2.2.2.mp y)), if_pos (c := (0 : Int) = 0) rfl, if_neg (c := k = 20 ∨ k = 21 ∨ (30 ≤ k ∧ k ≤ 39)) (by omega)]
theorem kwM_0 (kk : k = 20 ∨ k = 21 ∨ (30 ≤ k ∧ k ≤ 39)) : kwM_ k ≠ 0 := by
  unfold kwM_ kc_
  repeat' split
  all_goals omega
theorem fsr_nj (n : ¬ (k = 20 ∨ k = 21 ∨ (30 ≤ k ∧ k ≤ 39))) : fsr_ k = 0 ∨ k = 22 := by
  unfold fsr_
  repeat' split
  all_goals omega
theorem Mo_joint_s (f : FMo h F ws op tk K o 0 mn) (g : FV F ws op tk K o 0 mn) (r : MR h B n p) : ∃ h' y, Mo_signs h 94 = some (h', y) ∧ fpM_ h' B n p F y (tjt_ (tk_k B n p) ws op tk K o mn) ∧ fH_ F h h' := by
  have m := r.2.2
  generalize ek : tk_k B n p = k at *
  generalize ev : tk_v B n p = v at *
  have mf := fun (_ : Unit) => MRk_f m
  have b45 := f.2.1.2.2.1
  obtain ⟨a1, a2, a3, a4, a5, a6, a7, a8, a9⟩ := id g
  rw [show 1 + bj_ ws - 0 = 1 + bj_ ws by omega] at a9
  have cv := ct_v ws
  have rest : ¬ (k = 41 ∧ 0 < op) → ∃ h' y, Mo_signs_3 h 94 = some (h', y) ∧ fpM_ h' B n p F y (tjt_ k ws op tk K o mn) ∧ fH_ F h h' := by
    intro n1
    rw [Mo_signs_3_s m, Mo_signs_18_e]
    by_cases j : k = 20 ∨ k = 21 ∨ (30 ≤ k ∧ k ≤ 39)
    · have km := fun (_ : Unit) => fsr_mn j
      have et : tjt_ k ws op tk K o mn = (if fsr_ k = 4 ∧ fsr_ ((pd_ (lst_ k) ws K o).1.headD 0) = 4 then (1, (ws, op, tk, K, o, 0, mn)) else if 64 ≤ tk then (2, (ws, op, tk, K, o, 0, mn)) else (0, (k :: (pd_ (lst_ k) ws K o).1, op, tk + 1, (pd_ (lst_ k) ws K o).2.1, (pd_ (lst_ k) ws K o).2.2, 1, if k = 20 ∨ k = 21 then 1 else 0))) := by
        unfold tjt_
        rw [if_neg n1, if_neg (c := fsr_ k = 0 ∨ k = 22) (fun y => by rcases y with y | y; exact (km ()).2.1 y; exact (km ()).2.2 y)]
      have k0 := kwM_0 j
      obtain ⟨h', y, c1, c2, c3⟩ := Mo_sg23_s (X := (ws, op, tk, K, o, 0, mn)) f g r j
      rw [if_pos j, if_pos (c := kwM_ k ≠ 0) k0, Mo_standing_s (w := k) (by omega), bd_v, et]
      have el : ∀ x : Int, x = lst_ k → ∃ h' y, Mo_signs_23 h 94 (kwM_ k) x 94 = some (h', y) ∧ fpM_ h' B n p F y (if fsr_ k = 4 ∧ fsr_ ((pd_ (lst_ k) ws K o).1.headD 0) = 4 then (1, (ws, op, tk, K, o, 0, mn)) else if 64 ≤ tk then (2, (ws, op, tk, K, o, 0, mn)) else (0, (k :: (pd_ (lst_ k) ws K o).1, op, tk + 1, (pd_ (lst_ k) ws K o).2.1, (pd_ (lst_ k) ws K o).2.2, 1, if k = 20 ∨ k = 21 then 1 else 0))) ∧ fH_ F h h' := fun x ex => by
        rw [ex]
        exact ⟨h', y, c1, c2, c3⟩
      by_cases q4 : fsr_ k = 4
      · rw [if_neg (c := fsr_ k ≠ 4) (fun y => y q4)]
        exact el 5 (by unfold lst_; rw [if_pos q4])
      · rw [if_pos (c := fsr_ k ≠ 4) q4, Mo_standing_s (w := k) (by omega), bd_v]
        exact el (fsr_ k) (by unfold lst_; rw [if_neg q4])
    · have et : tjt_ k ws op tk K o mn = (1, (ws, op, tk, K, o, 0, mn)) := by
        unfold tjt_
        rw [if_neg n1, if_pos (fsr_nj j)]
      obtain ⟨h1, i1, i2, i3⟩ := Mo_wrongB 1 r.2.1
      rw [if_neg j, if_neg (c := (0 : Int) ≠ 0) (by omega), ck_t (by omega), i1, et]
      exact ⟨h1, 0, rfl, Or.inl ⟨by show (1 : Int) ≠ 0; omega, rfl, i2⟩, fzY_fH i3⟩
  rw [Mo_signs_e, ck_t (by omega), Mo_isSign_s, bd_v]
  by_cases q : k = 41
  · rw [if_pos (c := rd_ h 94 8 = 4 ∧ rd_ h 94 9 = 41) ((mf ()).2.1.mpr q), if_neg (c := (1 : Int) = 0) (by omega), b45, ck_t (by omega)]
    by_cases z : op ≤ 0
    · rw [if_pos (c := op ≤ 0) z]
      exact rest (fun y => by omega)
    · rw [if_neg (c := op ≤ 0) z]
      have et : tjt_ k ws op tk K o mn = (0, ((pd_ 1 ws K o).1.tail, op - 1, tk, (pd_ 1 ws K o).2.1, (pd_ 1 ws K o).2.2, 0, mn)) := by
        unfold tjt_
        rw [if_pos ⟨q, by omega⟩]
      rw [et]
      obtain ⟨h1, b1, b2, b3⟩ := Mo_bind_s (m := 1) (by omega) a1.1 ws h K o f a1.2 (by omega) (by omega) a8 a9
      have pl := pd_len (m := 1) ws K o
      obtain ⟨rr, ep⟩ : ∃ rr, (pd_ 1 ws K o).1 = 40 :: rr := by
        rcases pd_1 a1.1 a1.2 a8 a9 with ⟨_, y⟩ | y
        · omega
        · exact y
      rw [ep] at b2 pl ⊢
      have el : ((40 :: rr : List Int).length : Int) = (rr.length : Int) + 1 := by simp
      have b43 := b2.2.1.1
      have b451 := b2.2.1.2.2.1
      have c0 := b2.2.2.1
      have pl' : ((40 :: rr : List Int).length : Int) ≤ (ws.length : Int) := by omega
      rw [el] at b43 pl'
      have f3 : FMx (wr_ h1 94 43 rr.length) F rr op tk (pd_ 1 ws K o).2.1 (pd_ 1 ws K o).2.2 0 mn (hpn (pd_ 1 ws K o).2.1 ((pd_ 1 ws K o).2.2 - F).toNat F []) := FM_w b2 (by omega) c0.2 b2.2.2.2.1 rfl rfl rfl rfl rfl rfl
      have f4 : FMs (wr_ (wr_ h1 94 43 rr.length) 94 45 (op - 1)) F (rr, op - 1, tk, (pd_ 1 ws K o).2.1, (pd_ 1 ws K o).2.2, 0, mn) := FM_w f3 (by omega) f3.2.2.1 f3.2.2.2.1 rfl rfl rfl rfl rfl rfl
      have g4 : fg_ F h (wr_ (wr_ h1 94 43 rr.length) 94 45 (op - 1)) := fg_t b3 (fg_t (fg_9 (by omega)) (fg_9 (by omega)))
      obtain ⟨h4, j1, j2, j3, j4⟩ := Mo_token_f f4 (MR_fg g4 r)
      rw [ck_t (by omega), b1, bd_v, b43, show (rr.length : Int) + 1 - 1 = rr.length by omega, w32_i (x := (rr.length : Int)) (by omega) (by omega), rd_wk (show (45 : Int) ≠ 43 by omega), b451, w32_i (x := op - 1) (by omega) (by omega)]
      repeat rw [ck_t (by omega)]
      rw [j1, bd_v]
      exact ⟨h4, 1, rfl, Or.inr ⟨rfl, rfl, j2, j3⟩, fH_t (fg_f g4) j4⟩
  · rw [if_neg (c := rd_ h 94 8 = 4 ∧ rd_ h 94 9 = 41) (fun y => q ((mf ()).2.1.mp y)), if_pos (c := (0 : Int) = 0) rfl]
    exact rest (fun y => q y.1)
end
