/-! class and reference, call by call -/
def ST (h : am_H) (T W I : Tx) (U : Int → Tx) (Q : Tx) (K S : Int) : Prop := CJ h T W I U Q K S ∧ MN h T W I U Q ∧ SV T W I U Q ∧ ln_ h 143 = 1
def Bo (x : am_O) (y : am_H → am_O) (K S : Int) : Prop := ∃ (h1 h2 : am_H) (v : Int) (T W I : Tx) (U : Int → Tx) (Q : Tx), x = some (h1, v) ∧ y h1 = some (h2, v) ∧ ST h2 T W I U Q K S
section
variable {h h1 h2 : am_H} {T W I Q T' W' I' Q' : Tx} {U U' : Int → Tx} {K S v : Int} {x : am_O} {y : am_H → am_O}
theorem ST_M (g : CJ h1 T' W' I' U' Q' K S) (m : MN h2 T' W' I' U' Q') (f : Fm_ h1 h2) (sv : SV T' W' I' U' Q') (l : ln_ h1 143 = 1) : ST h2 T' W' I' U' Q' K S :=
  ⟨⟨CI_la (la_Fm f) g.1, CH_Fm g.2.1 f, RM_Fm g.2.2.1 g.2.1 f, by rw [fr_nn f]; exact g.2.2.2⟩, m, sv, by rw [fr_ln f]; exact l⟩
theorem ST_2 (st : ST h T W I U Q K S) : ST (wr_ h 94 2 0) T W I U Q K S := ST_M st.1 (MN_q st.2.1 st.2.2.1.2.1 (Mq_2 h 0)) (Fm_q (Mq_2 h 0)) st.2.2.1 st.2.2.2
theorem Bo_0 (st : ST h T W I U Q K S) (px : x = some (h, v)) (my : y h = some (wr_ h 94 2 0, v)) : Bo x y K S := ⟨h, _, v, T, W, I, U, Q, px, my, ST_2 st⟩
theorem Bo_F (st : ST h T W I U Q K S) (px : ∃ h', x = some (h', v) ∧ CI h' T' W' I' U' Q' ∧ Fc_ h h') (sv : SV T' W' I' U' Q') (my : ∀ h', MN h' T W I U Q → ∃ h2, y h' = some (h2, v) ∧ MN h2 T' W' I' U' Q' ∧ Fm_ h' h2) : Bo x y K S := by
  obtain ⟨g, m, _, l⟩ := st
  obtain ⟨h', a1, a2, a3⟩ := px
  have L := lb_Fc a3
  obtain ⟨h2, b1, b2, b3⟩ := my h' (MN_lb L m)
  exact ⟨h', h2, v, _, _, _, _, _, a1, b1, ST_M ⟨a2, CH_Fc g.2.1 a3, RM_Fc g.2.2.1 g.2.1 a3, by rw [fq_nn a3.1]; exact g.2.2.2⟩ b2 b3 sv (by rw [L.2.1 143 (by omega) (by omega)]; exact l)⟩
theorem Bo_S (st : ST h T W I U Q K S) (px : ∃ h', x = some (h', v) ∧ CI h' T W I U Q ∧ Fs_ h h') (my : ∀ h', MN h' T W I U Q → ∃ h2, y h' = some (h2, v) ∧ MN h2 T W I U Q ∧ Mq h' h2) : Bo x y K S := by
  obtain ⟨h', a1, a2, a3⟩ := px
  refine Bo_F st ⟨h', a1, a2, Fc_S a3⟩ st.2.2.1 (fun h' m => ?_)
  obtain ⟨h2, b1, b2, b3⟩ := my h' m
  exact ⟨h2, b1, b2, Fm_q b3⟩
theorem Bo_J (st : ST h T W I U Q K S) (px : ∃ h', x = some (h', v) ∧ CJ h' T W I U Q K S ∧ lb_ h h') (my : ∀ h', MN h' T W I U Q → ∃ h2, y h' = some (h2, v) ∧ MN h2 T W I U Q ∧ Mq h' h2) : Bo x y K S := by
  obtain ⟨g, m, sv, l⟩ := st
  obtain ⟨h', a1, a2, a3⟩ := px
  obtain ⟨h2, b1, b2, b3⟩ := my h' (MN_lb a3 m)
  exact ⟨h', h2, v, _, _, _, _, _, a1, b1, ST_M a2 b2 (Fm_q b3) sv (by rw [a3.2.1 143 (by omega) (by omega)]; exact l)⟩
theorem Bo_JS (st : ST h T W I U Q K S) (px : ∃ h', x = some (h', v) ∧ CJ h' T W I U Q K S ∧ Fs_ h h') (my : ∀ h', MN h' T W I U Q → ∃ h2, y h' = some (h2, v) ∧ MN h2 T W I U Q ∧ Mq h' h2) : Bo x y K S := by
  obtain ⟨h', a1, a2, a3⟩ := px
  exact Bo_J st ⟨h', a1, a2, lb_Fc (Fc_S a3)⟩ my
theorem SV_tQf (sv : SV T W I U Q) (f p : Int) : SV T W I U (tQf_ Q f p) := by
  obtain ⟨a1, a2, a3, a4, a5, a6, a7, a8⟩ := sv
  have n4 : ∀ j, j ≠ 4 → j ≠ 5 → j ≠ 6 → tQf_ Q f p 4 j = Q 4 j := fun j x y w => by rw [tQf_4, if_neg w, if_neg y, if_neg x]
  have k4 : tQf_ Q f p 4 4 = 0 := by rw [tQf_4]; rfl
  refine ⟨a1, a2, a3, ?_, by rw [n4 3 (by omega) (by omega) (by omega)]; exact a5, by rw [n4 3 (by omega) (by omega) (by omega)]; exact a6, by rw [k4]; omega, fun k x y => by rw [k4] at y; omega⟩
  unfold QV at *
  rw [n4 0 (by omega) (by omega) (by omega), n4 1 (by omega) (by omega) (by omega), tQf_o Q f p (g := 0) (by decide), tQf_o Q f p (g := 1) (by decide), tQf_o Q f p (g := 2) (by decide), tQf_o Q f p (g := 3) (by decide)]
  exact a4
theorem SV_tQs (w : WVt T') (t : TV T') : SV T' (W0_ T' (T' 0 6)) I U (tQs_ Q) := by
  have k0 : tQs_ Q 4 0 = 0 := by rw [tQs_4]; rfl
  have k1 : tQs_ Q 4 1 = -1 := by rw [tQs_4]; rfl
  have k3 : tQs_ Q 4 3 = 0 := by rw [tQs_4]; rfl
  have k4 : tQs_ Q 4 4 = 0 := by rw [tQs_4]; rfl
  refine ⟨t, WVt_W w, WVt_W w, ?_, by rw [k3]; exact Or.inl rfl, fun q => by rw [k3] at q; omega, by rw [k4]; omega, fun k x y => by rw [k4] at y; omega⟩
  unfold QV
  rw [k0, k1]
  exact ⟨by omega, fun i x y => by omega⟩
end
section
variable {h : am_H} {T W I Q : Tx} {U : Int → Tx} {K S : Int}
theorem B_feed (st : ST h T W I U Q K S) (a b c d e : Int) : Bo (Pp_feed h 0 a b c d e) (fun h => Mo_feed h 94 a b c d e) K S := by
  obtain ⟨g, m, sv, -⟩ := id st
  by_cases k : Q 4 4 + 20 ≤ 700
  · exact Bo_F st (Pp_feed_t g.1 sv k) (SV_fd sv k) (fun h' m' => Mo_feed_t m' sv k)
  · exact Bo_0 st (Pp_feed_f g.1 sv k) (Mo_feed_f m sv k)
theorem B_text (st : ST h T W I U Q K S) (n : Int) : Bo (Pp_text h 0 n) (fun h => Mo_text h 94 n) K S := by
  obtain ⟨g, m, sv, -⟩ := id st
  by_cases k : 0 ≤ n ∧ n ≤ Q 4 4
  · by_cases z : (rdA_ (Q 5) n).1 = 0
    · have vv := rdA_v sv k.1 k.2 z
      exact Bo_F st (Pp_text_s g.1 sv k.1 k.2 z) (SV_tQs vv.1 vv.2) (fun h' m' => Mo_text_s m' sv k.1 k.2 z)
    · exact Bo_F st (Pp_text_f g.1 sv k.1 k.2 z) (SV_tQf sv _ _) (fun h' m' => Mo_text_f m' sv k.1 k.2 z)
  · exact Bo_0 st (Pp_text_b g.1 k) (Mo_text_b m sv k).1
theorem B_fault (st : ST h T W I U Q K S) (a : Int) : Bo (Pp_fault h 0 a) (fun h => Mo_fault h 94 a) K S := Bo_0 st (Pp_fault_s st.1.1 a) (Mo_fault_s st.2.1 st.2.2.1.2.1 a)
theorem B_named (st : ST h T W I U Q K S) (a b : Int) : Bo (Pp_named h 0 a b) (fun h => Mo_named h 94 a b) K S := Bo_0 st (Pp_named_s st.1.1 st.2.2.1.2.1 a b) (Mo_named_s st.2.1 st.2.2.1.2.1 a b)
theorem B_plate (st : ST h T W I U Q K S) (a b c : Int) : Bo (Pp_plate h 0 a b c) (fun h => Mo_plate h 94 a b c) K S := Bo_0 st (Pp_plate_s st.1.1 st.2.2.1.2.1 a b c) (Mo_plate_s st.2.1 st.2.2.1.2.1 a b c)
theorem B_maid (st : ST h T W I U Q K S) (a b : Int) : Bo (Pp_maid h 0 a b) (fun h => Mo_maid h 94 a b) K S := Bo_0 st (Pp_maid_s st.1.1 st.2.2.1.2.1 a b) (Mo_maid_s st.2.1 st.2.2.1.2.1 a b)
theorem B_count (st : ST h T W I U Q K S) (a : Int) : Bo (Pp_count h 0 a) (fun h => Mo_count h 94 a) K S := Bo_0 st (Pp_count_s st.1.1 st.2.2.1.2.1 a) (Mo_count_s st.2.1 st.2.2.1 a)
theorem B_law (st : ST h T W I U Q K S) (a b c d : Int) : Bo (Pp_law h 0 a b c d) (fun h => Mo_law h 94 a b c d) K S := by
  obtain ⟨g, m, sv, -⟩ := id st
  by_cases k : ok_lw T a b c d
  · exact Bo_S st (Pp_law_t g.1 sv k) (fun h' m' => Mo_law_t m' sv k)
  · exact Bo_0 st (Pp_law_f g.1 k) (Mo_law_f m sv.2.1 k)
theorem B_turn (st : ST h T W I U Q K S) (p d : Int) : Bo (Pp_turn h 0 p d) (fun h => Mo_turn h 94 p d) K S := by
  obtain ⟨g, m, sv, -⟩ := id st
  by_cases k : 0 ≤ p ∧ p < T 0 1 ∧ 1 ≤ d ∧ d ≤ W 0 p
  · exact Bo_F st (Pp_turn_t g.1 sv k.1 k.2.1 k.2.2.1 k.2.2.2) (SV_turn sv k.1 k.2.1 k.2.2.1 k.2.2.2) (fun h' m' => Mo_turn_t m' sv k.1 k.2.1 k.2.2.1 k.2.2.2)
  · exact Bo_0 st (Pp_turn_f g.1 sv.2.1 k) (Mo_turn_f m sv.2.1 k)
theorem B_move (st : ST h T W I U Q K S) (p q : Int) : Bo (Pp_move h 0 p q) (fun h => Mo_move h 94 p q) K S := by
  obtain ⟨g, m, sv, -⟩ := id st
  by_cases k : ok_mv T p q
  · by_cases d : do_mv T W p q
    · exact Bo_F st (Pp_move_t g.1 sv k d) (SV_move sv k d) (fun h' m' => Mo_move_t m' sv k d)
    · exact Bo_0 st (Pp_move_n g.1 sv.2.1 k d) (Mo_move_n m sv.2.1 k d)
  · exact Bo_0 st (Pp_move_f g.1 k) (Mo_move_f m sv.2.1 k)
theorem B_crack (st : ST h T W I U Q K S) (p j : Int) : Bo (Pp_crack h 0 p j) (fun h => Mo_crack h 94 p j) K S := by
  obtain ⟨g, m, sv, -⟩ := id st
  by_cases k : ok_ck T W p j
  · exact Bo_F st (Pp_crack_t g.1 sv k) (SV_crack sv) (fun h' m' => Mo_crack_t m' sv k)
  · exact Bo_0 st (Pp_crack_f g.1 sv.2.1 k) (Mo_crack_f m sv.2.1 k)
theorem B_go (st : ST h T W I U Q K S) (n : Int) : Bo (Pp_go h 0 n) (fun h => Mo_go h 94 n) K S := by
  obtain ⟨g, m, sv, -⟩ := id st
  by_cases k : ok_go W n
  · exact Bo_F st (Pp_go_t g.1 sv k) (SV_go sv) (fun h' m' => Mo_go_t m' sv k)
  · exact Bo_0 st (Pp_go_f g.1 k) (Mo_go_f m sv.2.1 k)
theorem B_ahead (st : ST h T W I U Q K S) (n x i : Int) : Bo (Pp_ahead h 0 n x i) (fun h => Mo_ahead h 94 n x i) K S := by
  obtain ⟨g, m, sv, -⟩ := id st
  by_cases k : ok_ahd T n x i
  · exact Bo_S st (Pp_ahead_t g.1 sv k) (fun h' m' => Mo_ahead_t m' sv k)
  · exact Bo_0 st (Pp_ahead_f g.1 k) (Mo_ahead_f m sv.2.1 k)
theorem B_rightWhen (st : ST h T W I U Q K S) (p : Int) : Bo (Pp_rightWhen h 0 p) (fun h => Mo_rightWhen h 94 p) K S := by
  obtain ⟨g, m, sv, -⟩ := id st
  by_cases k : 0 ≤ p ∧ p < T 0 1
  · exact Bo_S st (Pp_rightWhen_t g.1 sv k.1 k.2) (fun h' m' => Mo_rightWhen_t m' sv k.1 k.2)
  · exact Bo_0 st (Pp_rightWhen_f g.1 k) (Mo_rightWhen_f m sv.2.1 k)
theorem B_fewest (st : ST h T W I U Q K S) (p w : Int) : Bo (Pp_fewest h 0 p w) (fun h => Mo_fewest h 94 p w) K S := by
  obtain ⟨g, m, sv, -⟩ := id st
  by_cases k : (0 ≤ p ∧ p < T 0 1) ∧ 0 ≤ w ∧ w ≤ 1
  · have wq : w = 0 ∨ w = 1 := by omega
    exact Bo_J st (Pp_fewest_t g sv k.1.1 k.1.2 wq) (fun h' m' => Mo_fewest_t m' sv k.1.1 k.1.2 wq)
  · exact Bo_0 st (Pp_fewest_f g.1 k) (Mo_fewest_f m sv.2.1 k)
theorem B_first (st : ST h T W I U Q K S) (p w : Int) : Bo (Pp_first h 0 p w) (fun h => Mo_first h 94 p w) K S := by
  obtain ⟨g, m, sv, -⟩ := id st
  by_cases k : (0 ≤ p ∧ p < T 0 1) ∧ 0 ≤ w ∧ w ≤ 1
  · have wq : w = 0 ∨ w = 1 := by omega
    exact Bo_J st (Pp_first_t g sv k.1.1 k.1.2 wq) (fun h' m' => Mo_first_t m' sv k.1.1 k.1.2 wq)
  · exact Bo_0 st (Pp_first_f g.1 k) (Mo_first_f m sv.2.1 k)
theorem B_ways (st : ST h T W I U Q K S) (p w : Int) : Bo (Pp_ways h 0 p w) (fun h => Mo_ways h 94 p w) K S := by
  obtain ⟨g, m, sv, -⟩ := id st
  by_cases k : (0 ≤ p ∧ p < T 0 1) ∧ 0 ≤ w ∧ w ≤ 1
  · have wq : w = 0 ∨ w = 1 := by omega
    exact Bo_J st (Pp_ways_t g sv k.1.1 k.1.2 wq) (fun h' m' => Mo_ways_t m' sv k.1.1 k.1.2 wq)
  · exact Bo_0 st (Pp_ways_f g.1 k) (Mo_ways_f m sv.2.1 k)
theorem B_apart (st : ST h T W I U Q K S) (p q w : Int) : Bo (Pp_apart h 0 p q w) (fun h => Mo_apart h 94 p q w) K S := by
  obtain ⟨g, m, sv, -⟩ := id st
  by_cases k : (0 ≤ p ∧ p < T 0 1) ∧ (0 ≤ q ∧ q < T 0 1) ∧ 0 ≤ w ∧ w ≤ 1
  · have wq : w = 0 ∨ w = 1 := by omega
    exact Bo_J st (Pp_apart_t g sv k.1.1 k.1.2 k.2.1.1 k.2.1.2 wq) (fun h' m' => Mo_apart_t m' sv k.1.1 k.1.2 k.2.1.1 k.2.1.2 wq)
  · exact Bo_0 st (Pp_apart_f g.1 k) (Mo_apart_f m sv.2.1 k)
theorem B_furthest (st : ST h T W I U Q K S) (H w : Int) : Bo (Pp_furthest h 0 H w) (fun h => Mo_furthest h 94 H w) K S := by
  obtain ⟨g, m, sv, -⟩ := id st
  by_cases k : (0 ≤ H ∧ H ≤ 5) ∧ 0 ≤ w ∧ w ≤ 1
  · have wq : w = 0 ∨ w = 1 := by omega
    exact Bo_J st (Pp_furthest_t g k.1.1 k.1.2 wq) (fun h' m' => Mo_furthest_t m' sv k.1.1 k.1.2 wq)
  · exact Bo_0 st (Pp_furthest_f h k) (Mo_furthest_f h k)
theorem B_howMany (st : ST h T W I U Q K S) (H w x : Int) : Bo (Pp_howMany h 0 H w x) (fun h => Mo_howMany h 94 H w x) K S := by
  obtain ⟨g, m, sv, -⟩ := id st
  by_cases k : (0 ≤ H ∧ H ≤ 5) ∧ (0 ≤ w ∧ w ≤ 1) ∧ 0 ≤ x ∧ x ≤ 20
  · have wq : w = 0 ∨ w = 1 := by omega
    exact Bo_J st (Pp_howMany_t g k.1.1 k.1.2 wq k.2.2.1 k.2.2.2) (fun h' m' => Mo_howMany_t m' sv k.1.1 k.1.2 wq k.2.2.1 k.2.2.2)
  · exact Bo_0 st (Pp_howMany_f h k) (Mo_howMany_f h k)
theorem B_could (st : ST h T W I U Q K S) (p w t : Int) : Bo (Pp_could h 0 p w t) (fun h => Mo_could h 94 p w t) K S := by
  obtain ⟨g, m, sv, -⟩ := id st
  by_cases k : (0 ≤ p ∧ p < T 0 1) ∧ (0 ≤ w ∧ w ≤ 1) ∧ 0 ≤ t ∧ t ≤ 9
  · have wq : w = 0 ∨ w = 1 := by omega
    exact Bo_J st (Pp_could_t g sv k.1.1 k.1.2 wq k.2.2.1 k.2.2.2) (fun h' m' => Mo_could_t m' sv k.1.1 k.1.2 wq k.2.2.1 k.2.2.2)
  · exact Bo_0 st (Pp_could_f g.1 k) (Mo_could_f m sv.2.1 k)
theorem B_greedy (st : ST h T W I U Q K S) (p : Int) : Bo (Pp_greedy h 0 p) (fun h => Mo_greedy h 94 p) K S := by
  obtain ⟨g, m, sv, -⟩ := id st
  by_cases k : 0 ≤ p ∧ p < T 0 1
  · exact Bo_JS st (Pp_greedy_t g sv k.1 k.2) (fun h' m' => Mo_greedy_t m' sv k.1 k.2)
  · exact Bo_0 st (Pp_greedy_f g.1 k) (Mo_greedy_f m sv.2.1 k)
theorem B_game (st : ST h T W I U Q K S) (p w x : Int) : Bo (Pp_game h 0 p w x) (fun h => Mo_game h 94 p w x) K S := by
  obtain ⟨g, m, sv, -⟩ := id st
  by_cases k : (0 ≤ p ∧ p < T 0 1) ∧ (0 ≤ w ∧ w ≤ 1) ∧ 0 ≤ x ∧ x ≤ 1
  · have wq : w = 0 ∨ w = 1 := by omega
    exact Bo_J st (Pp_game_t g sv k.1.1 k.1.2 wq k.2.2.1 k.2.2.2) (fun h' m' => Mo_game_t m' sv k.1.1 k.1.2 wq k.2.2.1 k.2.2.2)
  · exact Bo_0 st (Pp_game_f g.1 k) (Mo_game_f m sv.2.1 k)
theorem B_match (st : ST h T W I U Q K S) (x : Int) : Bo (Pp_match h 0 x) (fun h => Mo_match h 94 x) K S := by
  obtain ⟨g, m, sv, -⟩ := id st
  by_cases k : 0 ≤ x ∧ x ≤ 5
  · exact Bo_J st (Pp_match_t g sv k.1 k.2) (fun h' m' => Mo_match_t m' sv k.1 k.2)
  · exact Bo_0 st (Pp_match_f h k) (Mo_match_f h k)
theorem B_holds (st : ST h T W I U Q K S) (n x : Int) : Bo (Pp_holds h 0 n x) (fun h => Mo_holds h 94 n x) K S := by
  obtain ⟨g, m, sv, -⟩ := id st
  by_cases k : (0 ≤ n ∧ n ≤ 6) ∧ 0 ≤ x ∧ x ≤ 1
  · exact Bo_0 st (Pp_holds_t g.1 sv.1 k.1.1 k.1.2 k.2.1 k.2.2) (Mo_holds_t m sv.2.1 sv.1 k.1.1 k.1.2 k.2.1 k.2.2)
  · exact Bo_0 st (Pp_holds_f h k) (Mo_holds_f h k)
theorem B_see (st : ST h T W I U Q K S) (n p z b : Int) (hb : b = 0 ∨ b = 1) : Bo (Pp_see h 0 n p z b) (fun h => Mo_see h 94 n p z b) K S := by
  obtain ⟨g, m, sv, -⟩ := id st
  by_cases k : ok_se T Q n p z
  · have kk := k
    unfold ok_se at kk
    exact Bo_F st (Pp_see_t g.1 sv k hb) (SV_ak sv (by omega) (Or.inr ⟨by omega, by omega, by omega, by omega, by omega, by omega, hb⟩)) (fun h' m' => Mo_see_t m' sv k hb)
  · exact Bo_0 st (Pp_see_f g.1 k) (Mo_see_f m sv k)
theorem B_strike (st : ST h T W I U Q K S) (i : Int) : Bo (Pp_strike h 0 i) (fun h => Mo_strike h 94 i) K S := by
  obtain ⟨g, m, sv, -⟩ := id st
  by_cases k : ok_sk Q i
  · have kk := k
    unfold ok_sk at kk
    exact Bo_F st (Pp_strike_t g.1 sv k) (SV_ak sv (by omega) (Or.inl ⟨rfl, by omega, by omega⟩)) (fun h' m' => Mo_strike_t m' sv k)
  · exact Bo_0 st (Pp_strike_f g.1 k) (Mo_strike_f m sv k)
theorem B_known (st : ST h T W I U Q K S) (n : Int) : Bo (Pp_known h 0 n) (fun h => Mo_known h 94 n) K S := by
  obtain ⟨g, m, sv, -⟩ := id st
  by_cases k : ok_kn Q n
  · exact Bo_F st (Pp_known_t g.1 k) (SV_kn sv k) (fun h' m' => Mo_known_t m' sv.2.1 k)
  · exact Bo_0 st (Pp_known_f g.1 k) (Mo_known_f m sv.2.1 k)
theorem B_deep (st : ST h T W I U Q K S) (i : Int) : Bo (Pp_deep h 0 i) (fun h => Mo_deep h 94 i) K S := by
  obtain ⟨g, m, sv, -⟩ := id st
  by_cases k : 0 ≤ i ∧ i < T 0 3
  · exact Bo_S st (Pp_deep_t g.1 sv k.1 k.2) (fun h' m' => Mo_deep_t m' sv k.1 k.2)
  · exact Bo_0 st (Pp_deep_f g.1 k) (Mo_deep_f m sv.2.1 k)
theorem B_ask (st : ST h T W I U Q K S) (i n x : Int) : Bo (Pp_ask h 0 i n x) (fun h => Mo_ask h 94 i n x) K S := by
  obtain ⟨g, m, sv, -⟩ := id st
  by_cases k : ok_ask T i n x
  · exact Bo_S st (Pp_ask_t g.1 sv k) (fun h' m' => Mo_ask_t m' sv k)
  · exact Bo_0 st (Pp_ask_f g.1 k) (Mo_ask_f m sv.2.1 k)
theorem B_chance (st : ST h T W I U Q K S) (s n c : Int) (s1 : s ≤ 2147483647) : Bo (Pp_chance h 0 s n c) (fun h => Mo_chance h 94 s n c) K S := by
  obtain ⟨g, m, sv, -⟩ := id st
  by_cases k : ok_ch s n c
  · exact Bo_S st (Pp_chance_t g.1 sv k s1) (fun h' m' => Mo_chance_t m' sv k s1)
  · exact Bo_0 st (Pp_chance_f k) (Mo_chance_f k)
theorem B_tried (st : ST h T W I U Q K S) (x i n : Int) : Bo (Pp_tried h 0 x i n) (fun h => Mo_tried h 94 x i n) K S := by
  obtain ⟨g, m, sv, -⟩ := id st
  by_cases k : ok_try T x i n
  · exact Bo_S st (Pp_tried_t g.1 sv k) (fun h' m' => Mo_tried_t m' sv k)
  · exact Bo_0 st (Pp_tried_f g.1 k) (Mo_tried_f m sv.2.1 k)
theorem B_undo (st : ST h T W I U Q K S) : Bo (Pp_undo h 0) (fun h => Mo_undo h 94) K S := by
  obtain ⟨g, m, sv, -⟩ := id st
  by_cases k : Q 4 2 = 0
  · exact Bo_0 st (Pp_undo_f g.1 sv k) (Mo_undo_f m sv k)
  · exact Bo_F st (Pp_undo_t g.1 sv k) (SV_undo g.1 sv k) (fun h' m' => Mo_undo_t m' sv k)
theorem B_keep (st : ST h T W I U Q K S) : Bo (Pp_keep h 0) (fun h => Mo_keep h 94) K S := Bo_F st (Pp_keep_t st.1.1 st.2.2.1) (SV_keep st.2.2.1) (fun h' m' => Mo_keep_t m' st.2.2.1)
theorem B_back (st : ST h T W I U Q K S) : Bo (Pp_back h 0) (fun h => Mo_back h 94) K S := by
  obtain ⟨g, m, sv, -⟩ := id st
  rcases sv.2.2.2.2.1 with k | k
  · exact Bo_0 st (Pp_back_f g.1 k) (Mo_back_f m sv k)
  · exact Bo_F st (Pp_back_t g.1 sv k) (SV_back sv k) (fun h' m' => Mo_back_t m' sv k)
end
