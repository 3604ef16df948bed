/-! a formula's state, pure: what holds of it; in the class: how it lies -/
def FV (F : Int) (ws : List Int) (op tk : Int) (K : Int → Int) (o wp mn : Int) : Prop := (0 ≤ F ∧ F ≤ o) ∧ tk ≤ 64 ∧ o + nb_ ws = tk ∧ op = bkt_ ws ∧ op ≤ 8 ∧ (wp = 0 ∨ wp = 1) ∧ (mn = 0 ∨ mn = 1) ∧ wok_ ws ∧ lkq K (o - F).toNat F 0 (1 + bj_ ws - wp).toNat
theorem pd_v {m F : Int} (m1 : 1 ≤ m) : ∀ (ws : List Int) (K : Int → Int) (o : Int), 0 ≤ F → F ≤ o → wok_ ws → lkq K (o - F).toNat F 0 (1 + bj_ ws).toNat → o ≤ (pd_ m ws K o).2.2 ∧ (pd_ m ws K o).2.2 + nb_ (pd_ m ws K o).1 = o + nb_ ws ∧ bkt_ (pd_ m ws K o).1 = bkt_ ws ∧ wok_ (pd_ m ws K o).1 ∧ lkq (pd_ m ws K o).2.1 ((pd_ m ws K o).2.2 - F).toNat F 0 (1 + bj_ (pd_ m ws K o).1).toNat ∧ (∀ j, j < o → (pd_ m ws K o).2.1 j = K j) ∧ ((pd_ m ws K o).1 = [] ∨ fsr_ ((pd_ m ws K o).1.headD 0) < m) := by
  intro ws
  induction ws with
  | nil =>
    intro K o F0 Fo _ l
    exact ⟨Int.le_refl _, rfl, rfl, trivial, l, fun _ _ => rfl, Or.inl rfl⟩
  | cons w r ih =>
    intro K o F0 Fo wk l
    rw [pd_c]
    by_cases q : fsr_ w < m
    · rw [if_pos q]
      exact ⟨Int.le_refl _, rfl, rfl, wk, l, fun _ _ => rfl, Or.inr q⟩
    · rw [if_neg q]
      obtain ⟨wa, wb⟩ := wk
      have n40 : w ≠ 40 := fun e => by rw [e, fsr_40] at q; omega
      have cv := ct_v r
      rw [bj_c] at l
      have l2 : lkq (ku_ K o w) (o + 1 - F).toNat F 0 (1 + bj_ r).toNat := by
        have l3 : lkq (ku_ K o w) (o - F).toNat F 0 (1 + ((if w = 40 ∨ w = 22 then 0 else 1) + bj_ r)).toNat := lkq_cg _ _ _ l (fun j a b => by unfold ku_; rw [if_neg (by omega)])
        have e1 : (o + 1 - F).toNat = (o - F).toNat + 1 := by omega
        rw [e1]
        refine lkq_sn _ _ _ l3 ?_
        have e2 : F + ((o - F).toNat : Int) = o := by omega
        have e3 : ku_ K o w o = w := by unfold ku_; rw [if_pos rfl]
        rw [e2, e3]
        by_cases z : w = 22
        · rw [if_pos (Or.inr z)]
          exact Or.inr (Or.inl ⟨z, by omega, by omega⟩)
        · rw [if_neg (by omega)]
          exact Or.inr (Or.inr (Or.inr ⟨by omega, by omega, by omega⟩))
      obtain ⟨a1, a2, a3, a4, a5, a6, a7⟩ := ih (ku_ K o w) (o + 1) F0 (by omega) wb l2
      rw [nb_c, bkt_c, if_neg n40, if_neg n40]
      refine ⟨by omega, by omega, by omega, a4, a5, fun j g => ?_, a7⟩
      rw [a6 j (by omega)]
      unfold ku_
      rw [if_neg (by omega)]
theorem pd_len {m : Int} : ∀ (ws : List Int) (K : Int → Int) (o : Int), (pd_ m ws K o).1.length ≤ ws.length := by
  intro ws
  induction ws with
  | nil => intro K o; exact Nat.le_refl _
  | cons w r ih =>
    intro K o
    rw [pd_c]
    by_cases q : fsr_ w < m
    · rw [if_pos q]; exact Nat.le_refl _
    · rw [if_neg q]
      have := ih (ku_ K o w) (o + 1)
      simp only [List.length_cons]
      omega
/-- behind the least sign there stands nothing, or a bracket -/
theorem pd_1 {F : Int} {ws : List Int} {K : Int → Int} {o : Int} (F0 : 0 ≤ F) (Fo : F ≤ o) (wk : wok_ ws) (l : lkq K (o - F).toNat F 0 (1 + bj_ ws).toNat) : (pd_ 1 ws K o).1 = [] ∧ bkt_ ws = 0 ∨ ∃ r, (pd_ 1 ws K o).1 = 40 :: r := by
  obtain ⟨a1, a2, a3, a4, a5, a6, a7⟩ := pd_v (m := 1) (by omega) ws K o F0 Fo wk l
  cases e : (pd_ 1 ws K o).1 with
  | nil => rw [e] at a3; exact Or.inl ⟨rfl, a3.symm⟩
  | cons w r =>
    rw [e] at a4 a7
    rcases a7 with z | z
    · cases z
    · have z' : fsr_ w < 1 := z
      have w1 := a4.1
      refine Or.inr ⟨r, ?_⟩
      have : w = 40 := by
        apply Classical.byContradiction
        intro n
        have := fsr_1 (k := w) (by omega)
        omega
      rw [this]
section
variable {F op tk o mn k v : Int} {ws : List Int} {K : Int → Int}
theorem FV_part (g : FV F ws op tk K o 1 mn) (kv : k = 2 → 0 ≤ v) (z : (tpt_ k v ws op tk K o mn).1 = 0) : FV F (tpt_ k v ws op tk K o mn).2.1 (tpt_ k v ws op tk K o mn).2.2.1 (tpt_ k v ws op tk K o mn).2.2.2.1 (tpt_ k v ws op tk K o mn).2.2.2.2.1 (tpt_ k v ws op tk K o mn).2.2.2.2.2.1 (tpt_ k v ws op tk K o mn).2.2.2.2.2.2.1 (tpt_ k v ws op tk K o mn).2.2.2.2.2.2.2 := by
  obtain ⟨a1, a2, a3, a4, a5, a6, a7, a8, a9⟩ := g
  have cv := ct_v ws
  unfold tpt_ at *
  by_cases q1 : k = 40
  · rw [if_pos q1] at z ⊢
    by_cases q2 : op < 8
    · rw [if_pos q2] at z ⊢
      refine ⟨a1, a2, ?_, ?_, ?_, Or.inr rfl, Or.inr rfl, ⟨Or.inl rfl, a8⟩, ?_⟩
      · show o + nb_ (40 :: ws) = tk
        rw [nb_c, if_pos rfl]; omega
      · show op + 1 = bkt_ (40 :: ws)
        rw [bkt_c, if_pos rfl]; omega
      · show op + 1 ≤ 8
        omega
      · show lkq K (o - F).toNat F 0 (1 + bj_ (40 :: ws) - 1).toNat
        rw [bj_c, if_pos (Or.inl rfl), show 1 + (0 + bj_ ws) - 1 = 1 + bj_ ws - 1 by omega]
        exact a9
    · rw [if_neg q2] at z
      have z' : (2 : Int) = 0 := z
      omega
  · rw [if_neg q1] at z ⊢
    by_cases q2 : k = 2 ∨ (23 ≤ k ∧ k ≤ 29)
    · rw [if_pos q2] at z ⊢
      by_cases q3 : 64 ≤ tk ∨ (k = 2 ∧ 9999 < v)
      · rw [if_pos q3] at z
        have z' : (2 : Int) = 0 := z
        omega
      · rw [if_neg q3] at z ⊢
        refine ⟨?_, ?_, ?_, a4, a5, Or.inl rfl, a7, a8, ?_⟩
        · show 0 ≤ F ∧ F ≤ o + 1
          omega
        · show tk + 1 ≤ 64
          omega
        · show o + 1 + nb_ ws = tk + 1
          omega
        · show lkq (ku_ K o (if k = 2 then -1 - v else k)) (o + 1 - F).toNat F 0 (1 + bj_ ws - 0).toNat
          have l3 : lkq (ku_ K o (if k = 2 then -1 - v else k)) (o - F).toNat F 0 (1 + bj_ ws - 1).toNat := lkq_cg _ _ _ a9 (fun j a b => by unfold ku_; rw [if_neg (by omega)])
          have e1 : (o + 1 - F).toNat = (o - F).toNat + 1 := by omega
          rw [e1]
          refine lkq_sn _ _ _ l3 ?_
          have e2 : F + ((o - F).toNat : Int) = o := by omega
          have e3 : ku_ K o (if k = 2 then -1 - v else k) o = (if k = 2 then -1 - v else k) := by unfold ku_; rw [if_pos rfl]
          rw [e2, e3]
          by_cases y : k = 2
          · have := kv y
            rw [if_pos y]
            exact Or.inl ⟨by omega, by omega, by omega⟩
          · rw [if_neg y]
            exact Or.inr (Or.inr (Or.inl ⟨by omega, by omega, by omega⟩))
    · rw [if_neg q2] at z ⊢
      by_cases q3 : k = 22 ∧ mn ≠ 0
      · rw [if_pos q3] at z ⊢
        by_cases q4 : 64 ≤ tk
        · rw [if_pos q4] at z
          have z' : (2 : Int) = 0 := z
          omega
        · rw [if_neg q4] at z ⊢
          refine ⟨a1, ?_, ?_, ?_, a5, Or.inr rfl, a7, ⟨by omega, a8⟩, ?_⟩
          · show tk + 1 ≤ 64
            omega
          · show o + nb_ (22 :: ws) = tk + 1
            rw [nb_c, if_neg (by omega)]; omega
          · show op = bkt_ (22 :: ws)
            rw [bkt_c, if_neg (by omega)]; omega
          · show lkq K (o - F).toNat F 0 (1 + bj_ (22 :: ws) - 1).toNat
            rw [bj_c, if_pos (Or.inr rfl), show 1 + (0 + bj_ ws) - 1 = 1 + bj_ ws - 1 by omega]
            exact a9
      · rw [if_neg q3] at z
        have z' : (1 : Int) = 0 := z
        omega
theorem FV_joint (g : FV F ws op tk K o 0 mn) (z : (tjt_ k ws op tk K o mn).1 = 0) : FV F (tjt_ k ws op tk K o mn).2.1 (tjt_ k ws op tk K o mn).2.2.1 (tjt_ k ws op tk K o mn).2.2.2.1 (tjt_ k ws op tk K o mn).2.2.2.2.1 (tjt_ k ws op tk K o mn).2.2.2.2.2.1 (tjt_ k ws op tk K o mn).2.2.2.2.2.2.1 (tjt_ k ws op tk K o mn).2.2.2.2.2.2.2 := by
  obtain ⟨a1, a2, a3, a4, a5, a6, a7, a8, a9⟩ := g
  rw [show 1 + bj_ ws - 0 = 1 + bj_ ws by omega] at a9
  unfold tjt_ at *
  by_cases q1 : k = 41 ∧ 0 < op
  · rw [if_pos q1] at z ⊢
    obtain ⟨b1, b2, b3, b4, b5, b6, b7⟩ := pd_v (m := 1) (by omega) ws K o a1.1 a1.2 a8 a9
    rcases pd_1 a1.1 a1.2 a8 a9 with ⟨_, y⟩ | ⟨r, y⟩
    · omega
    · rw [y] at b2 b3 b4 b5 ⊢
      rw [nb_c, if_pos rfl] at b2
      rw [bkt_c, if_pos rfl] at b3
      rw [bj_c, if_pos (Or.inl rfl)] at b5
      refine ⟨⟨a1.1, ?_⟩, a2, ?_, ?_, ?_, Or.inl rfl, a7, b4.2, ?_⟩
      · show F ≤ (pd_ 1 ws K o).2.2
        omega
      · show (pd_ 1 ws K o).2.2 + nb_ r = tk
        omega
      · show op - 1 = bkt_ r
        omega
      · show op - 1 ≤ 8
        omega
      · show lkq (pd_ 1 ws K o).2.1 ((pd_ 1 ws K o).2.2 - F).toNat F 0 (1 + bj_ r - 0).toNat
        rw [show 1 + bj_ r - 0 = 1 + (0 + bj_ r) by omega]
        exact b5
  · rw [if_neg q1] at z ⊢
    by_cases q2 : fsr_ k = 0 ∨ k = 22
    · rw [if_pos q2] at z
      have z' : (1 : Int) = 0 := z
      omega
    · rw [if_neg q2] at z ⊢
      by_cases q3 : fsr_ k = 4 ∧ fsr_ ((pd_ (lst_ k) ws K o).1.headD 0) = 4
      · rw [if_pos q3] at z
        have z' : (1 : Int) = 0 := z
        omega
      · rw [if_neg q3] at z ⊢
        by_cases q4 : 64 ≤ tk
        · rw [if_pos q4] at z
          have z' : (2 : Int) = 0 := z
          omega
        · rw [if_neg q4] at z ⊢
          have kk := fsr_0 (k := k) (by omega)
          obtain ⟨b1, b2, b3, b4, b5, b6, b7⟩ := pd_v (m := lst_ k) (lst_1 (by omega)) ws K o a1.1 a1.2 a8 a9
          refine ⟨⟨a1.1, ?_⟩, ?_, ?_, ?_, a5, Or.inr rfl, ?_, ⟨by omega, b4⟩, ?_⟩
          · show F ≤ (pd_ (lst_ k) ws K o).2.2
            omega
          · show tk + 1 ≤ 64
            omega
          · show (pd_ (lst_ k) ws K o).2.2 + nb_ (k :: (pd_ (lst_ k) ws K o).1) = tk + 1
            rw [nb_c, if_neg (by omega)]; omega
          · show op = bkt_ (k :: (pd_ (lst_ k) ws K o).1)
            rw [bkt_c, if_neg (by omega)]; omega
          · show (if k = 20 ∨ k = 21 then (1 : Int) else 0) = 0 ∨ (if k = 20 ∨ k = 21 then (1 : Int) else 0) = 1
            by_cases y : k = 20 ∨ k = 21
            · rw [if_pos y]; exact Or.inr rfl
            · rw [if_neg y]; exact Or.inl rfl
          · show lkq (pd_ (lst_ k) ws K o).2.1 ((pd_ (lst_ k) ws K o).2.2 - F).toNat F 0 (1 + bj_ (k :: (pd_ (lst_ k) ws K o).1) - 1).toNat
            rw [bj_c, if_neg (by omega), show 1 + (1 + bj_ (pd_ (lst_ k) ws K o).1) - 1 = 1 + bj_ (pd_ (lst_ k) ws K o).1 by omega]
            exact b5
end
/-- a row that holds a list, its last first -/
def wl_ (r g : Int → Int) : List Int → Prop
  | [] => True
  | w :: ws => r ws.length = g w ∧ wl_ r g ws
theorem wl_cg {r r' g : Int → Int} : ∀ {ws : List Int}, wl_ r g ws → (∀ j : Int, 0 ≤ j → j < ws.length → r' j = r j) → wl_ r' g ws := by
  intro ws
  induction ws with
  | nil => intro _ _; trivial
  | cons w ws ih =>
    intro a e
    have l : ((w :: ws).length : Int) = (ws.length : Int) + 1 := by simp
    exact ⟨by rw [e ws.length (by omega) (by omega)]; exact a.1, ih a.2 (fun j x y => e j x (by omega))⟩
