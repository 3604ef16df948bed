/-! a law's value, in the reference -/
/-- of the model's own fields those of F alone have changed, of its rows those of A alone -/
def fz_ (h h' : am_H) (A F : Int → Prop) : Prop := h'.2 = h.2 ∧ (∀ a, ¬ A a → a ≠ 94 → ∀ k, rd_ h' a k = rd_ h a k) ∧ ∀ k, ¬ F k → rd_ h' 94 k = rd_ h 94 k
theorem fz_refl (h : am_H) (A F : Int → Prop) : fz_ h h A F := ⟨rfl, fun _ _ _ _ => rfl, fun _ _ => rfl⟩
theorem fz_tr {h h1 h2 : am_H} {A F : Int → Prop} (x : fz_ h h1 A F) (y : fz_ h1 h2 A F) : fz_ h h2 A F := ⟨y.1.trans x.1, fun a p q k => (y.2.1 a p q k).trans (x.2.1 a p q k), fun k p => (y.2.2 k p).trans (x.2.2 k p)⟩
theorem fz_mo {h h1 : am_H} {A F A' F' : Int → Prop} (x : fz_ h h1 A F) (y : ∀ a, A a → A' a) (z : ∀ k, F k → F' k) : fz_ h h1 A' F' := ⟨x.1, fun a p q k => x.2.1 a (fun r => p (y a r)) q k, fun k p => x.2.2 k fun r => p (z k r)⟩
theorem fz_wr {h : am_H} {a k v : Int} {A F : Int → Prop} (ha : A a) (n : a ≠ 94) : fz_ h (wr_ h a k v) A F := ⟨rfl, fun b hb _ _ => rd_wo fun e => hb (e ▸ ha), fun _ _ => rd_wo (by omega)⟩
theorem fz_wf {h : am_H} {k v : Int} {A F : Int → Prop} (hk : F k) : fz_ h (wr_ h 94 k v) A F := ⟨rfl, fun b _ hb _ => rd_wo hb, fun j hj => rd_wk fun e => hj (e ▸ hk)⟩
theorem fz_fr {h h' : am_H} {A B F : Int → Prop} (x : fr_ h h' B) (y : ∀ a, B a → A a) (n : ¬ B 94) : fz_ h h' A F := ⟨x.1, fun a p _ k => x.2 a (fun q => p (y a q)) k, fun k _ => x.2 94 n k⟩
theorem fz_ShM {h h' : am_H} {A F : Int → Prop} (x : fz_ h h' A F) (s : ShM h) : ShM h' := ShM_of x.1 s
/-- the reference's laws -/
def ML (h : am_H) (T : Tx) : Prop := (∀ k, 0 ≤ k → k < 3 → rd_ h 110 k = if T 13 k < T 14 k then 1 else 0) ∧ (∀ k, 0 ≤ k → k < 3 → T 13 k < T 14 k → rd_ h 111 k = T 13 k ∧ rd_ h 112 k = T 14 k) ∧
  ∀ k i, 0 ≤ k → k < 3 → T 13 k ≤ i → i < T 14 k → KN h (T 12 i) i (hpn (T 12) (i - T 13 k).toNat (T 13 k) [])
theorem KN_fr {h h' : am_H} {c i : Int} {hs : List Int} (e3 : ∀ k, rd_ h' 113 k = rd_ h 113 k) (e4 : ∀ k, rd_ h' 114 k = rd_ h 114 k) (e5 : ∀ k, rd_ h' 115 k = rd_ h 115 k) (k : KN h c i hs) : KN h' c i hs := by
  unfold KN at *
  rw [e3, e4, e5]
  exact k
theorem ML_fm {h h' : am_H} {T : Tx} {A F : Int → Prop} (m : ML h T) (x : fz_ h h' A F) (n : ∀ a, 110 ≤ a → a ≤ 115 → ¬ A a) : ML h' T := by
  obtain ⟨a, b, c⟩ := m
  refine ⟨?_, ?_, ?_⟩
  · intro k p q
    rw [x.2.1 110 (n _ (by omega) (by omega)) (by omega)]; exact a k p q
  · intro k p q r
    rw [x.2.1 111 (n _ (by omega) (by omega)) (by omega), x.2.1 112 (n _ (by omega) (by omega)) (by omega)]; exact b k p q r
  · intro k i p q r s
    exact KN_fr (x.2.1 113 (n _ (by omega) (by omega)) (by omega)) (x.2.1 114 (n _ (by omega) (by omega)) (by omega)) (x.2.1 115 (n _ (by omega) (by omega)) (by omega)) (c k i p q r s)
theorem hpn_s (K : Int → Int) : ∀ (n : Nat) (i : Int) (s : List Int), hpn K (n + 1) i s = hp1 (K (i + n)) (i + n) (hpn K n i s) := by
  intro n
  induction n with
  | zero => intro i s; unfold hpn; rw [show i + ((0 : Nat) : Int) = i by omega]; rfl
  | succ n ih =>
    intro i s
    have := ih (i + 1) (hp1 (K i) i s)
    rw [show i + 1 + (n : Int) = i + ((n + 1 : Nat) : Int) by omega] at this
    exact this
theorem Mo_lawOf_lp {T : Tx} {E : Int → Int} {k f : Int} (hk : 0 ≤ k) (hk3 : k < 3) (f0 : 0 ≤ f) (hf : T 13 k = f) (ht : T 14 k ≤ 64) (Eb : ∀ x, bnd (E x)) :
    ∀ (n : Nat) (i : Int) (hs : List Int) (h : am_H) (os : Option (List Int)), ShM h → ML h T → NM h E → lok (T 12) n i hs.length → hs = hpn (T 12) (i - f).toNat f [] → (hs = [] ∨ hs.headD 0 = i - 1) → (∀ p ∈ hs, f ≤ p ∧ p < i) → (∀ j, f ≤ j → j < i → bnd (rd_ h 119 j)) → (match os with
        | some s => rd_ h 94 51 = 0 ∧ vk h hs s
        | none => rd_ h 94 51 = 1) → i + n = T 14 k → f ≤ i → f < T 14 k →
      ∃ h', Mo_lawOf_1 h 94 k i = some (h', match os.bind (rn_ E (T 12) n i) with
        | some s => s.headD 0
        | none => 0) ∧ rd_ h' 94 51 = (match os.bind (rn_ E (T 12) n i) with
        | some _ => 0
        | none => 1) ∧ fz_ h h' (fun a => a = 119) (fun x => x = 51) := by
  intro n
  induction n with
  | zero =>
    intro i hs h os s m e lk eh h1 hp hb ho hn hfi hft
    have y := m.2.1 k hk hk3 (by omega)
    rw [Mo_lawOf_1_e]
    simp only [mr37 s, ml112 s, mr50 s, ml119 s, y.2]
    repeat rw [ck_t (by omega)]
    rw [if_pos (by omega)]
    repeat rw [ck_t (by omega)]
    cases os with
    | none =>
      have ho : rd_ h 94 51 = 1 := ho
      rw [ho, if_neg (by omega)]
      exact ⟨h, rfl, ho, fz_refl _ _ _⟩
    | some vs =>
      obtain ⟨ho1, ho2⟩ : rd_ h 94 51 = 0 ∧ vk h hs vs := ho
      rw [ho1, if_pos rfl, w32_i (by omega) (by omega)]
      repeat rw [ck_t (by omega)]
      refine ⟨h, ?_, ho1, fz_refl _ _ _⟩
      unfold lok at lk
      match hs, vs, lk, h1, ho2 with
      | [p], [x], _, h1, ho2 =>
        have : p = i - 1 := by
          rcases h1 with h1 | h1
          · cases h1
          · exact h1
        have e2 := ho2.1
        rw [this, show i - 1 = T 14 k - 1 by omega] at e2
        exact so_v e2
  | succ n ih =>
    intro i hs h os s m e lk eh h1 hp hb ho hn hfi hft
    have y := m.2.1 k hk hk3 (by omega)
    have kn := m.2.2 k i hk hk3 (by omega) (by omega)
    rw [hf, ← eh] at kn
    rw [Mo_lawOf_1_e]
    simp only [mr37 s, ml112 s, mr50 s, y.2]
    repeat rw [ck_t (by omega)]
    rw [if_neg (by omega)]
    repeat rw [ck_t (by omega)]
    have eh' : hp1 (T 12 i) i hs = hpn (T 12) (i + 1 - f).toNat f [] := by
      rw [show (i + 1 - f).toNat = (i - f).toNat + 1 by omega, hpn_s, ← eh, show f + ((i - f).toNat : Int) = i by omega]
    -- the step behind a value z
    have go : ∀ (h2 : am_H) (z : Int) (os' : Option (List Int)) (hs' : List Int), fz_ h h2 (fun _ => False) (fun x => x = 51) → bnd z → hs' = hp1 (T 12 i) i hs → lok (T 12) n (i + 1) hs'.length → (∃ r, hs' = i :: r ∧ ∀ p ∈ r, p ∈ hs) → (match os' with
        | some vs => rd_ h2 94 51 = 0 ∧ vk (wr_ h2 119 i z) hs' vs
        | none => rd_ h2 94 51 = 1) → ∃ h', (ck_ (0 ≤ (119 : Int)) (ck_ (0 ≤ i ∧ i < ln_ h2 119) (Mo_lawOf_1 (wr_ h2 119 i z) 94 k (w32 (i + 1))))) = some (h', match os'.bind (rn_ E (T 12) n (i + 1)) with
        | some s => s.headD 0
        | none => 0) ∧ rd_ h' 94 51 = (match os'.bind (rn_ E (T 12) n (i + 1)) with
        | some _ => 0
        | none => 1) ∧ fz_ h h' (fun a => a = 119) (fun x => x = 51) := by
      intro h2 z os' hs' f2 bz e' lk' hr ho'
      obtain ⟨r, hr1, hr2⟩ := hr
      have s2 := fz_ShM f2 s
      have f3 : fz_ h (wr_ h2 119 i z) (fun a => a = 119) (fun x => x = 51) := fz_tr (fz_mo f2 (fun _ q => q.elim) (fun _ q => q)) (fz_wr rfl (by omega))
      rw [ml119 s2, ck_t (by omega), ck_t (by omega), w32_i (by omega) (by omega)]
      obtain ⟨h', i1, i2, i3⟩ := ih (i + 1) hs' (wr_ h2 119 i z) os' (fz_ShM f3 s) (ML_fm m f3 (by intro a p q; omega)) (by
          intro x p q
          rw [f3.2.1 118 (by omega) (by omega)]; exact e x p q) lk' (by rw [e', eh']) (by rw [hr1, List.headD_cons]; right; omega) (by
          intro p hq
          rw [hr1] at hq
          rcases List.mem_cons.mp hq with q | q
          · omega
          · have := hp p (hr2 p q); omega) (by
          intro j p q
          rw [rd_wa]
          split
          · exact bz
          · rw [f2.2.1 119 (fun q => q) (by omega)]; exact hb j p (by omega)) (by
          cases os' with
          | none => exact (rd_wo (by omega)).trans ho'
          | some vs => exact ⟨(rd_wo (by omega)).trans ho'.1, ho'.2⟩) (by omega) (by omega) hft
      exact ⟨h', i1, i2, fz_tr f3 i3⟩
    have self := fz_refl h (fun _ => False) (fun x => x = 51)
    have i64 : i < 64 := by omega
    unfold lok at lk
    by_cases c1 : T 12 i < 0
    · rw [if_pos c1] at lk
      have e1 : hp1 (T 12 i) i hs = i :: hs := by unfold hp1; rw [if_pos c1]
      rw [Mo_valueOf_p s kn e (by omega) i64 (Or.inl ⟨lk.1, c1⟩), bd_v, if_pos c1]
      have hz : bnd (-1 - T 12 i) := by unfold bnd; omega
      cases os with
      | none => exact go h _ none _ self hz e1.symm (by rw [List.length_cons]; exact lk.2) ⟨hs, rfl, fun _ q => q⟩ ho
      | some vs =>
        obtain ⟨ho1, ho2⟩ : rd_ h 94 51 = 0 ∧ vk h hs vs := ho
        have er : rn_ E (T 12) (n + 1) i vs = rn_ E (T 12) n (i + 1) ((-1 - T 12 i) :: vs) := by
          unfold rn_ rp_
          rw [if_pos c1]
          cases n <;> rfl
        rw [Option.bind_some, er]
        exact go h _ (some ((-1 - T 12 i) :: vs)) _ self hz e1.symm (by rw [List.length_cons]; exact lk.2) ⟨hs, rfl, fun _ q => q⟩ ⟨ho1, rd_ws _ _ _ _, vk_wr ho2 fun p q => (hp p q).2⟩
    · rw [if_neg c1] at lk
      by_cases c2 : T 12 i = 22
      · rw [if_pos c2] at lk
        match hs, lk, hp, ho, kn, go, eh' with
        | p :: ps, lk, hp, ho, kn, go, eh' =>
          have e1 : hp1 (T 12 i) i (p :: ps) = i :: ps := by unfold hp1; rw [if_neg c1, if_pos c2]; rfl
          have pp := hp p List.mem_cons_self
          rw [Mo_valueOf_n s kn (by omega) i64 c2 rfl (by omega) (by omega), bd_v]
          have hz : bnd (if rd_ h 119 p = 0 then 1 else 0) := by unfold bnd; split <;> omega
          cases os with
          | none => exact go h _ none _ self hz e1.symm lk.2 ⟨ps, rfl, fun _ q => List.mem_cons_of_mem _ q⟩ ho
          | some vs =>
            obtain ⟨ho1, ho2⟩ : rd_ h 94 51 = 0 ∧ vk h (p :: ps) vs := ho
            match vs, ho2 with
            | v :: vs, ho2 =>
              have er : rn_ E (T 12) (n + 1) i (v :: vs) = rn_ E (T 12) n (i + 1) ((if rd_ h 119 p = 0 then 1 else 0) :: vs) := by
                rw [ho2.1]
                show (match rp_ E (T 12 i) (v :: vs) with
                  | some s' => rn_ E (T 12) n (i + 1) s'
                  | none => none) = _
                unfold rp_
                rw [if_neg c1, if_pos c2]
                rfl
              rw [Option.bind_some, er]
              exact go h _ (some ((if rd_ h 119 p = 0 then 1 else 0) :: vs)) _ self hz e1.symm lk.2 ⟨ps, rfl, fun _ q => List.mem_cons_of_mem _ q⟩ ⟨ho1, rd_ws _ _ _ _, vk_wr ho2.2 fun x q => (hp x (List.mem_cons_of_mem _ q)).2⟩
      · rw [if_neg c2] at lk
        by_cases c3 : 23 ≤ T 12 i ∧ T 12 i ≤ 29
        · rw [if_pos c3] at lk
          have e1 : hp1 (T 12 i) i hs = i :: hs := by unfold hp1; rw [if_neg c1, if_neg c2, if_pos c3]
          rw [Mo_valueOf_p s kn e (by omega) i64 (Or.inr c3), bd_v, if_neg c1]
          cases os with
          | none => exact go h _ none _ self (Eb _) e1.symm (by rw [List.length_cons]; exact lk) ⟨hs, rfl, fun _ q => q⟩ ho
          | some vs =>
            obtain ⟨ho1, ho2⟩ : rd_ h 94 51 = 0 ∧ vk h hs vs := ho
            have er : rn_ E (T 12) (n + 1) i vs = rn_ E (T 12) n (i + 1) (E (T 12 i - 23) :: vs) := by
              show (match rp_ E (T 12 i) vs with
                | some s' => rn_ E (T 12) n (i + 1) s'
                | none => none) = _
              unfold rp_
              rw [if_neg c1, if_neg c2, if_pos c3]
            rw [Option.bind_some, er]
            exact go h _ (some (E (T 12 i - 23) :: vs)) _ self (Eb _) e1.symm (by rw [List.length_cons]; exact lk) ⟨hs, rfl, fun _ q => q⟩ ⟨ho1, rd_ws _ _ _ _, vk_wr ho2 fun p q => (hp p q).2⟩
        · rw [if_neg c3] at lk
          obtain ⟨lk1, lk2, lk3⟩ := lk
          match hs, lk2, lk3, hp, ho, kn, go, eh' with
          | q :: p :: ps, lk2, lk3, hp, ho, kn, go, eh' =>
            have e1 : hp1 (T 12 i) i (q :: p :: ps) = i :: ps := by unfold hp1; rw [if_neg c1, if_neg c2, if_neg c3]; rfl
            have pp := hp p (List.mem_cons_of_mem _ List.mem_cons_self)
            have pq := hp q List.mem_cons_self
            obtain ⟨vA, vB⟩ := Mo_valueOf_j s kn (by omega) i64 lk1 (by omega) rfl (by omega) (by omega) (by omega) (by omega) (hb p pp.1 pp.2) (hb q pq.1 pq.2)
            have sub : ∀ x ∈ ps, x ∈ q :: p :: ps := fun _ z => List.mem_cons_of_mem _ (List.mem_cons_of_mem _ z)
            cases os with
            | none =>
              obtain ⟨z, z1, z2⟩ := vB ho
              rw [z1, bd_v]
              exact go h z none _ self z2 e1.symm lk3 ⟨ps, rfl, sub⟩ ho
            | some vs =>
              obtain ⟨ho1, ho2⟩ : rd_ h 94 51 = 0 ∧ vk h (q :: p :: ps) vs := ho
              match vs, ho2 with
              | b :: a :: vs, ho2 =>
                rw [vA ho1, ho2.1, ho2.2.1]
                have er : rn_ E (T 12) (n + 1) i (b :: a :: vs) = (match jo_ (T 12 i) a b with
                    | some v => some (v :: vs)
                    | none => none : Option (List Int)).bind (rn_ E (T 12) n (i + 1)) := by
                  show (match rp_ E (T 12 i) (b :: a :: vs) with
                    | some s' => rn_ E (T 12) n (i + 1) s'
                    | none => none) = _
                  unfold rp_
                  rw [if_neg c1, if_neg c2, if_neg c3]
                  simp only [List.headD_cons, List.tail_cons]
                  cases jo_ (T 12 i) a b <;> rfl
                rw [Option.bind_some, er]
                cases hj : jo_ (T 12 i) a b with
                | none =>
                  simp only [bd_v]
                  exact go (wr_ h 94 51 1) 0 none _ (fz_wf rfl) (by unfold bnd; omega) e1.symm lk3 ⟨ps, rfl, sub⟩ (rd_ws _ _ _ _)
                | some z =>
                  simp only [bd_v]
                  have bzz : bnd z := by
                    have b1 := hb p pp.1 pp.2
                    have b2 := hb q pq.1 pq.2
                    rw [ho2.2.1] at b1
                    rw [ho2.1] at b2
                    exact jo_b b1 b2 hj
                  exact go h z (some (z :: vs)) _ self bzz e1.symm lk3 ⟨ps, rfl, sub⟩ ⟨ho1, rd_ws _ _ _ _, vk_wr ho2.2.2 fun x y => (hp x (sub x y)).2⟩
