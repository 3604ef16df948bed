theorem nr_ref {ty : FieldType} {v : Value} (h : (∃ n, ty = .object n) ∨ ∃ n, ty = .array n) (hv : v = .null ∨ ∃ a, v = .ref a) : narrow ty v = v := by
  rcases h with ⟨n, rfl⟩ | ⟨n, rfl⟩ <;> rcases hv with rfl | ⟨a, rfl⟩ <;> rfl
theorem ft_ref {ty : FieldType} {v : Value} (h : (∃ n, ty = .object n) ∨ ∃ n, ty = .array n) (hv : v = .null ∨ ∃ a, v = .ref a) : fits ty v = true := by
  rcases h with ⟨n, rfl⟩ | ⟨n, rfl⟩ <;> rcases hv with rfl | ⟨a, rfl⟩ <;> rfl
theorem nr_byte {v : Int} : narrow .byte (.int (Int32.ofInt v)) = .int (Int32.ofInt (w8_ v)) := by
  show Value.int _ = _
  rw [n32_i2b]
theorem nr_bool {v : Int} (h : v = 0 ∨ v = 1) : narrow .boolean (.int (Int32.ofInt v)) = .int (Int32.ofInt v) := by rcases h with rfl | rfl <;> rfl
section HeapOps
variable {mt : Nat → am_S} {own : String} {FR LO nL : Nat} {ini : Bool} {ret : Option FieldType} {rt : Nat} {lpc : Nat → Nat} {pc : Nat}
theorem ok_getf {ci k idx : Nat} {C : String} {T : u_T} {N : Nat} (hc : vwCl[ci]? = some (C, T, N)) (hk : k < N) (hin : ∀ w ∈ u_ws C T N, w ∈ am_big) (hl : Cond.fieldLink own idx (T k).1 (T k).2.1 (T k).2.2.1 ∈ am_big) {t0 : Nat} {f : Int} (ht0 : t0 = ci + 10) (hf : f = (k : Int)) (hs : sl_ ci k = 0 ∨ sl_ ci k = 2) : ok_ mt own FR LO nL ini ret rt lpc pc (.getfield idx) 3 (i_getf t0 f 0) := by
  intro p l e R s m args below meth c G cc h0 r C J K X hd hC hJ hK L st h hr
  subst ht0; subst hf
  obtain ⟨t1, a, u, rfl, hr1⟩ := s1_s hr
  obtain ⟨rfl, hr2⟩ := tg_s hr1
  obtain ⟨ha, hr3⟩ := ck_s hr2
  obtain ⟨n, rfl⟩ := Int.eq_ofNat_of_zero_le ha
  obtain ⟨hm, hw⟩ := hK _ _ _ hr3
  refine ⟨hm, fun ls H locs hl2 hH hS hvL hvS h1 h2 => ?_⟩
  have h10 : 10 ≤ ci + 10 := by omega
  obtain ⟨hn, hkd⟩ := ov_nat h10 (ov_hd hvS)
  have hkd : kd_ h n = ci := Nat.add_right_cancel hkd
  rw [List.map_cons, cv_nat h10]
  have hos := hH.2.1.1 n (by omega) hn k
  rw [hkd] at hos
  refine w_getf X hc hk hin hl hH hn hkd hd ?_
  have k2 := hw ls H locs hl2 hH hS hvL (ov_cs (show ov_ h.2.2 (0, rd_ h n k) from os_num hos hs) (ov_tl hvS)) h1 h2
  rw [List.map_cons] at k2
  unfold vs_
  rw [hkd, sv_num _ _ hs]
  exact k2
theorem ok_getl {ci k idx : Nat} {C : String} {T : u_T} {N : Nat} (hc : vwCl[ci]? = some (C, T, N)) (hk : k < N) (hin : ∀ w ∈ u_ws C T N, w ∈ am_big) (hl : Cond.fieldLink own idx (T k).1 (T k).2.1 (T k).2.2.1 ∈ am_big) {t0 : Nat} {f : Int} (ht0 : t0 = ci + 10) (hf : f = (k : Int)) (hs : sl_ ci k = 1) : ok_ mt own FR LO nL ini ret rt lpc pc (.getfield idx) 3 (i_getf t0 f 1) := by
  intro p l e R s m args below meth c G cc h0 r C J K X hd hC hJ hK L st h hr
  subst ht0; subst hf
  obtain ⟨t1, a, u, rfl, hr1⟩ := s1_s hr
  obtain ⟨rfl, hr2⟩ := tg_s hr1
  obtain ⟨ha, hr3⟩ := ck_s hr2
  obtain ⟨n, rfl⟩ := Int.eq_ofNat_of_zero_le ha
  obtain ⟨hm, hw⟩ := hK _ _ _ hr3
  refine ⟨hm, fun ls H locs hl2 hH hS hvL hvS h1 h2 => ?_⟩
  have h10 : 10 ≤ ci + 10 := by omega
  obtain ⟨hn, hkd⟩ := ov_nat h10 (ov_hd hvS)
  have hkd : kd_ h n = ci := Nat.add_right_cancel hkd
  rw [List.map_cons, cv_nat h10]
  have hos := hH.2.1.1 n (by omega) hn k
  rw [hkd] at hos
  refine w_getf X hc hk hin hl hH hn hkd hd ?_
  rw [hs] at hos
  have k2 := hw ls H locs hl2 hH hS hvL (ov_cs (show ov_ h.2.2 (1, rd_ h n k) from hos) (ov_tl hvS)) h1 h2
  rw [List.map_cons] at k2
  unfold vs_
  rw [hkd, hs]
  exact k2
theorem ok_getr {ci k idx : Nat} {C : String} {T : u_T} {N : Nat} (hc : vwCl[ci]? = some (C, T, N)) (hk : k < N) (hin : ∀ w ∈ u_ws C T N, w ∈ am_big) (hl : Cond.fieldLink own idx (T k).1 (T k).2.1 (T k).2.2.1 ∈ am_big) {t0 t : Nat} {f : Int} (ht0 : t0 = ci + 10) (hf : f = (k : Int)) (hs : sl_ ci k = t) (ht : 10 ≤ t) : ok_ mt own FR LO nL ini ret rt lpc pc (.getfield idx) 3 (i_getr t0 f t) := by
  intro p l e R s m args below meth c G cc h0 r C J K X hd hC hJ hK L st h hr
  subst ht0; subst hf
  obtain ⟨t1, a, u, rfl, hr1⟩ := s1_s hr
  obtain ⟨rfl, hr2⟩ := tg_s hr1
  obtain ⟨ha, hr3⟩ := ck_s hr2
  obtain ⟨n, rfl⟩ := Int.eq_ofNat_of_zero_le ha
  obtain ⟨hm, hw⟩ := hK _ _ _ hr3
  refine ⟨hm, fun ls H locs hl2 hH hS hvL hvS h1 h2 => ?_⟩
  have h10 : 10 ≤ ci + 10 := by omega
  obtain ⟨hn, hkd⟩ := ov_nat h10 (ov_hd hvS)
  have hkd : kd_ h n = ci := Nat.add_right_cancel hkd
  rw [List.map_cons, cv_nat h10]
  have hos := hH.2.1.1 n (by omega) hn k
  rw [hkd, hs] at hos
  refine w_getf X hc hk hin hl hH hn hkd hd ?_
  have k2 := hw ls H locs hl2 hH hS hvL (ov_cs (os_ref hos ht) (ov_tl hvS)) h1 h2
  rw [List.map_cons] at k2
  unfold vs_
  rw [hkd, hs, sv_ref _ _ ht]
  exact k2
theorem ok_putf {ci k idx : Nat} {C : String} {T : u_T} {N : Nat} (hc : vwCl[ci]? = some (C, T, N)) (hk : k < N) (hin : ∀ w ∈ u_ws C T N, w ∈ am_big) {ty0 : Nat → FieldType} (hty : ∀ k, k < N → parseFieldDescriptor (T k).2.2.1 = some (ty0 k)) (hnm : ∀ a, a < N → ∀ b, b < N → a ≠ b → (T a).2.1 ≠ (T b).2.1) (hl : Cond.fieldLink own idx (T k).1 (T k).2.1 (T k).2.2.1 ∈ am_big) (hfin : (T k).2.2.2 = false ∨ ((T k).2.2.2 = true ∧ ini = true ∧ (T k).1 = own)) {t0 : Nat} {f : Int} (ht0 : t0 = ci + 10) (hf : f = (k : Int)) (hs : sl_ ci k = 0) (htk : ty0 k = .int) : ok_ mt own FR LO nL ini ret rt lpc pc (.putfield idx) 3 (i_putf t0 f 0) := by
  intro p l e R s m args below meth c G cc h0 r C J K X hd hC hJ hK L st h hr
  subst ht0; subst hf
  obtain ⟨t2, v, u, rfl, hr1⟩ := s1_s hr
  obtain ⟨t1, a, u, rfl, hr2⟩ := s1_s hr1
  obtain ⟨rfl, hr3⟩ := tg_s hr2
  obtain ⟨rfl, hr4⟩ := tg_s hr3
  obtain ⟨ha, hr5⟩ := ck_s hr4
  obtain ⟨n, rfl⟩ := Int.eq_ofNat_of_zero_le ha
  obtain ⟨hm, hw⟩ := hK _ _ _ hr5
  refine ⟨hm, fun ls H locs hl2 hH hS hvL hvS h1 h2 => ?_⟩
  have h10 : 10 ≤ ci + 10 := by omega
  obtain ⟨hn, hkd⟩ := ov_nat h10 (ov_hd (ov_tl hvS))
  have hkd : kd_ h n = ci := Nat.add_right_cancel hkd
  rw [List.map_cons, List.map_cons, cv_nat h10]
  refine w_put X hc hk hin hty hnm hl hfin (h' := wr_ h n k v) hH hS hn hkd (v := cv_ G (0, v)) (by rw [htk]; rfl) (by rw [htk]; rfl) rfl wr_o ?_ ?_ hd fun H1 locs1 hH1 hS1 => hw ls H1 locs1 hl2 hH1 hS1 hvL (ov_tl (ov_tl hvS)) h1 h2
  · rw [vs_wr, hkd, hs]
    rfl -- ]
  · exact os_wr hH.2.1 (by rw [hkd, hs]; exact ov_hd hvS)
theorem ok_putl {ci k idx : Nat} {C : String} {T : u_T} {N : Nat} (hc : vwCl[ci]? = some (C, T, N)) (hk : k < N) (hin : ∀ w ∈ u_ws C T N, w ∈ am_big) {ty0 : Nat → FieldType} (hty : ∀ k, k < N → parseFieldDescriptor (T k).2.2.1 = some (ty0 k)) (hnm : ∀ a, a < N → ∀ b, b < N → a ≠ b → (T a).2.1 ≠ (T b).2.1) (hl : Cond.fieldLink own idx (T k).1 (T k).2.1 (T k).2.2.1 ∈ am_big) (hfin : (T k).2.2.2 = false ∨ ((T k).2.2.2 = true ∧ ini = true ∧ (T k).1 = own)) {t0 : Nat} {f : Int} (ht0 : t0 = ci + 10) (hf : f = (k : Int)) (hs : sl_ ci k = 1) (htk : ty0 k = .long) : ok_ mt own FR LO nL ini ret rt lpc pc (.putfield idx) 3 (i_putf t0 f 1) := by
  intro p l e R s m args below meth c G cc h0 r C J K X hd hC hJ hK L st h hr
  subst ht0; subst hf
  obtain ⟨t2, v, u, rfl, hr1⟩ := s1_s hr
  obtain ⟨t1, a, u, rfl, hr2⟩ := s1_s hr1
  obtain ⟨rfl, hr3⟩ := tg_s hr2
  obtain ⟨rfl, hr4⟩ := tg_s hr3
  obtain ⟨ha, hr5⟩ := ck_s hr4
  obtain ⟨n, rfl⟩ := Int.eq_ofNat_of_zero_le ha
  obtain ⟨hm, hw⟩ := hK _ _ _ hr5
  refine ⟨hm, fun ls H locs hl2 hH hS hvL hvS h1 h2 => ?_⟩
  have h10 : 10 ≤ ci + 10 := by omega
  obtain ⟨hn, hkd⟩ := ov_nat h10 (ov_hd (ov_tl hvS))
  have hkd : kd_ h n = ci := Nat.add_right_cancel hkd
  rw [List.map_cons, List.map_cons, cv_nat h10]
  refine w_put X hc hk hin hty hnm hl hfin (h' := wr_ h n k v) hH hS hn hkd (v := cv_ G (1, v)) (by rw [htk]; rfl) (by rw [htk]; rfl) rfl wr_o ?_ ?_ hd fun H1 locs1 hH1 hS1 => hw ls H1 locs1 hl2 hH1 hS1 hvL (ov_tl (ov_tl hvS)) h1 h2
  · rw [vs_wr, hkd, hs]
    rfl -- ]
  · exact os_wr hH.2.1 (by rw [hkd, hs]; exact ov_hd hvS)
theorem ok_putz {ci k idx : Nat} {C : String} {T : u_T} {N : Nat} (hc : vwCl[ci]? = some (C, T, N)) (hk : k < N) (hin : ∀ w ∈ u_ws C T N, w ∈ am_big) {ty0 : Nat → FieldType} (hty : ∀ k, k < N → parseFieldDescriptor (T k).2.2.1 = some (ty0 k)) (hnm : ∀ a, a < N → ∀ b, b < N → a ≠ b → (T a).2.1 ≠ (T b).2.1) (hl : Cond.fieldLink own idx (T k).1 (T k).2.1 (T k).2.2.1 ∈ am_big) (hfin : (T k).2.2.2 = false ∨ ((T k).2.2.2 = true ∧ ini = true ∧ (T k).1 = own)) {t0 : Nat} {f : Int} (ht0 : t0 = ci + 10) (hf : f = (k : Int)) (hs : sl_ ci k = 2) (htk : ty0 k = .boolean) : ok_ mt own FR LO nL ini ret rt lpc pc (.putfield idx) 3 (i_putz t0 f) := by
  intro p l e R s m args below meth c G cc h0 r C J K X hd hC hJ hK L st h hr
  subst ht0; subst hf
  obtain ⟨t2, v, u, rfl, hr1⟩ := s1_s hr
  obtain ⟨t1, a, u, rfl, hr2⟩ := s1_s hr1
  obtain ⟨rfl, hr3⟩ := tg_s hr2
  obtain ⟨rfl, hr4⟩ := tg_s hr3
  obtain ⟨ha, hr5⟩ := ck_s hr4
  obtain ⟨h01, hr6⟩ := ck_s hr5
  obtain ⟨n, rfl⟩ := Int.eq_ofNat_of_zero_le ha
  obtain ⟨hm, hw⟩ := hK _ _ _ hr6
  refine ⟨hm, fun ls H locs hl2 hH hS hvL hvS h1 h2 => ?_⟩
  have h10 : 10 ≤ ci + 10 := by omega
  obtain ⟨hn, hkd⟩ := ov_nat h10 (ov_hd (ov_tl hvS))
  have hkd : kd_ h n = ci := Nat.add_right_cancel hkd
  rw [List.map_cons, List.map_cons, cv_nat h10]
  refine w_put X hc hk hin hty hnm hl hfin (h' := wr_ h n k v) hH hS hn hkd (v := cv_ G (0, v)) (by rw [htk]; rcases h01 with rfl | rfl <;> rfl) (by rw [htk]; rcases h01 with rfl | rfl <;> rfl) rfl wr_o ?_ ?_ hd fun H1 locs1 hH1 hS1 => hw ls H1 locs1 hl2 hH1 hS1 hvL (ov_tl (ov_tl hvS)) h1 h2
  · rw [vs_wr, hkd, hs]
    rfl -- ]
  · exact os_wr hH.2.1 (by rw [hkd, hs]; exact ov_hd hvS)
theorem ok_putr {ci k idx : Nat} {C : String} {T : u_T} {N : Nat} (hc : vwCl[ci]? = some (C, T, N)) (hk : k < N) (hin : ∀ w ∈ u_ws C T N, w ∈ am_big) {ty0 : Nat → FieldType} (hty : ∀ k, k < N → parseFieldDescriptor (T k).2.2.1 = some (ty0 k)) (hnm : ∀ a, a < N → ∀ b, b < N → a ≠ b → (T a).2.1 ≠ (T b).2.1) (hl : Cond.fieldLink own idx (T k).1 (T k).2.1 (T k).2.2.1 ∈ am_big) (hfin : (T k).2.2.2 = false ∨ ((T k).2.2.2 = true ∧ ini = true ∧ (T k).1 = own)) {t0 : Nat} {f : Int} (ht0 : t0 = ci + 10) (hf : f = (k : Int)) {t2 : Nat} (hs : sl_ ci k = t2) (ht2 : 10 ≤ t2) (htk : (∃ n, ty0 k = .object n) ∨ ∃ n, ty0 k = .array n) : ok_ mt own FR LO nL ini ret rt lpc pc (.putfield idx) 3 (i_putr t0 f t2) := by
  intro p l e R s m args below meth c G cc h0 r C J K X hd hC hJ hK L st h hr
  subst ht0; subst hf
  obtain ⟨t2', v, u, rfl, hr1⟩ := s1_s hr
  obtain ⟨t1, a, u, rfl, hr2⟩ := s1_s hr1
  obtain ⟨e2, hr3⟩ := tg_s hr2
  have e2 : t2 = t2' := e2.symm
  subst e2
  obtain ⟨rfl, hr4⟩ := tg_s hr3
  obtain ⟨ha, hr5⟩ := ck_s hr4
  obtain ⟨n, rfl⟩ := Int.eq_ofNat_of_zero_le ha
  obtain ⟨hm, hw⟩ := hK _ _ _ hr5
  refine ⟨hm, fun ls H locs hl2 hH hS hvL hvS h1 h2 => ?_⟩
  have h10 : 10 ≤ ci + 10 := by omega
  obtain ⟨hn, hkd⟩ := ov_nat h10 (ov_hd (ov_tl hvS))
  have hkd : kd_ h n = ci := Nat.add_right_cancel hkd
  rw [List.map_cons, List.map_cons, cv_nat h10]
  refine w_put X hc hk hin hty hnm hl hfin (h' := wf_ h n k v) hH hS hn hkd (v := cv_ G (t2, v)) (nr_ref htk (cv_r (Or.inr ht2) v)) (ft_ref htk (cv_r (Or.inr ht2) v)) rfl wf_o ?_ ?_ hd fun H1 locs1 hH1 hS1 => hw ls H1 locs1 hl2 hH1 hS1 hvL (ov_tl (ov_tl hvS)) h1 h2
  · rw [vs_wf, hkd, hs, sv_ref _ _ ht2]
  · refine os_wf hH.2.1 ?_
    rw [hkd, hs]
    obtain ⟨q, rfl⟩ := Nat.exists_eq_add_of_le' ht2
    exact ov_hd hvS
theorem ok_putn {ci k idx : Nat} {C : String} {T : u_T} {N : Nat} (hc : vwCl[ci]? = some (C, T, N)) (hk : k < N) (hin : ∀ w ∈ u_ws C T N, w ∈ am_big) {ty0 : Nat → FieldType} (hty : ∀ k, k < N → parseFieldDescriptor (T k).2.2.1 = some (ty0 k)) (hnm : ∀ a, a < N → ∀ b, b < N → a ≠ b → (T a).2.1 ≠ (T b).2.1) (hl : Cond.fieldLink own idx (T k).1 (T k).2.1 (T k).2.2.1 ∈ am_big) (hfin : (T k).2.2.2 = false ∨ ((T k).2.2.2 = true ∧ ini = true ∧ (T k).1 = own)) {t0 t2 : Nat} {f : Int} (ht0 : t0 = ci + 10) (hf : f = (k : Int)) (hs : sl_ ci k = t2) (ht2 : 10 ≤ t2) (htk : (∃ n, ty0 k = .object n) ∨ ∃ n, ty0 k = .array n) : ok_ mt own FR LO nL ini ret rt lpc pc (.putfield idx) 3 (i_putn t0 f) := by
  intro p l e R s m args below meth c G cc h0 r C J K X hd hC hJ hK L st h hr
  subst ht0; subst hf
  obtain ⟨t2', v, u, rfl, hr1⟩ := s1_s hr
  obtain ⟨t1, a, u, rfl, hr2⟩ := s1_s hr1
  obtain ⟨rfl, hr3⟩ := tg_s hr2
  obtain ⟨rfl, hr4⟩ := tg_s hr3
  obtain ⟨ha, hr5⟩ := ck_s hr4
  obtain ⟨n, rfl⟩ := Int.eq_ofNat_of_zero_le ha
  obtain ⟨hm, hw⟩ := hK _ _ _ hr5
  refine ⟨hm, fun ls H locs hl2 hH hS hvL hvS h1 h2 => ?_⟩
  have h10 : 10 ≤ ci + 10 := by omega
  obtain ⟨hn, hkd⟩ := ov_nat h10 (ov_hd (ov_tl hvS))
  have hkd : kd_ h n = ci := Nat.add_right_cancel hkd
  rw [List.map_cons, List.map_cons, cv_nat h10]
  refine w_put X hc hk hin hty hnm hl hfin (h' := wf_ h n k (-1)) hH hS hn hkd (v := .null) (nr_ref htk (Or.inl rfl)) (ft_ref htk (Or.inl rfl)) rfl wf_o ?_ ?_ hd fun H1 locs1 hH1 hS1 => hw ls H1 locs1 hl2 hH1 hS1 hvL (ov_tl (ov_tl hvS)) h1 h2
  · rw [vs_wf, hkd, hs, sv_ref _ _ ht2, cv_10 ht2]
    rfl
  · refine os_wf hH.2.1 ?_
    rw [hkd, hs]
    obtain ⟨q, rfl⟩ := Nat.exists_eq_add_of_le' ht2
    exact Or.inl rfl
theorem ok_iald : ok_ mt own FR LO nL ini ret rt lpc pc .iaload 1 (i_ald 30 0) := by
  intro p l e R s m args below meth c G cc h0 r C J K X hd hC hJ hK L st h hr
  obtain ⟨t2, i, u, rfl, hr1⟩ := s1_s hr
  obtain ⟨t1, a, u, rfl, hr2⟩ := s1_s hr1
  obtain ⟨rfl, hr3⟩ := tg_s hr2
  obtain ⟨rfl, hr4⟩ := tg_s hr3
  obtain ⟨ha, hr5⟩ := ck_s hr4
  obtain ⟨hi, hr6⟩ := ck_s hr5
  obtain ⟨n, rfl⟩ := Int.eq_ofNat_of_zero_le ha
  obtain ⟨j, rfl⟩ := Int.eq_ofNat_of_zero_le hi.1
  obtain ⟨hm, hw⟩ := hK _ _ _ hr6
  refine ⟨hm, fun ls H locs hl hH hS hvL hvS h1 h2 => ?_⟩
  have hi32 : i32_ (j : Int) := ov_hd hvS
  obtain ⟨hn, hkd⟩ := ov_nat (by decide) (ov_hd (ov_tl hvS))
  have hkd : kd_ h n = 20 := Nat.add_right_cancel (m := 10) hkd
  have hln := ln_ok hH.2.1 hn hkd (by decide)
  have hos := hH.2.1.1 n (by omega) hn j
  rw [hkd] at hos
  have k2 := hw ls H locs hl hH hS hvL (ov_cs (show ov_ h.2.2 (0, rd_ h n j) from hos) (ov_tl (ov_tl hvS))) h1 h2
  rw [List.map_cons] at k2
  rw [List.map_cons, List.map_cons, cv_nat (t := 30) (by decide) n]
  refine W.iald (a := G.2.1 + n) (v := cv_ G (0, rd_ h n j)) X.1 X.2.1 (w_arr hH hn hkd (by decide) (by decide)) ((X.2.2.2.2.2.1.1.2 0 _ rfl).1 _ _) (fun q => by cases q) ?_ ?_ rfl rfl hd k2
  · rw [arrV_size]; exact n32_in hi32 (by omega) (by omega)
  · rw [n32_clamp hi32, Int.toNat_natCast, arrV_read _ _ (by omega)]
    unfold vs_
    rw [hkd]
    rfl
theorem ok_bald : ok_ mt own FR LO nL ini ret rt lpc pc .baload 1 (i_ald 31 0) := by
  intro p l e R s m args below meth c G cc h0 r C J K X hd hC hJ hK L st h hr
  obtain ⟨t2, i, u, rfl, hr1⟩ := s1_s hr
  obtain ⟨t1, a, u, rfl, hr2⟩ := s1_s hr1
  obtain ⟨rfl, hr3⟩ := tg_s hr2
  obtain ⟨rfl, hr4⟩ := tg_s hr3
  obtain ⟨ha, hr5⟩ := ck_s hr4
  obtain ⟨hi, hr6⟩ := ck_s hr5
  obtain ⟨n, rfl⟩ := Int.eq_ofNat_of_zero_le ha
  obtain ⟨j, rfl⟩ := Int.eq_ofNat_of_zero_le hi.1
  obtain ⟨hm, hw⟩ := hK _ _ _ hr6
  refine ⟨hm, fun ls H locs hl hH hS hvL hvS h1 h2 => ?_⟩
  have hi32 : i32_ (j : Int) := ov_hd hvS
  obtain ⟨hn, hkd⟩ := ov_nat (by decide) (ov_hd (ov_tl hvS))
  have hkd : kd_ h n = 21 := Nat.add_right_cancel (m := 10) hkd
  have hln := ln_ok hH.2.1 hn hkd (by decide)
  have hos := hH.2.1.1 n (by omega) hn j
  rw [hkd] at hos
  have k2 := hw ls H locs hl hH hS hvL (ov_cs (show ov_ h.2.2 (0, rd_ h n j) from hos) (ov_tl (ov_tl hvS))) h1 h2
  rw [List.map_cons] at k2
  rw [List.map_cons, List.map_cons, cv_nat (t := 31) (by decide) n]
  refine W.bald (a := G.2.1 + n) (v := cv_ G (0, rd_ h n j)) X.1 X.2.1 (w_arr hH hn hkd (by decide) (by decide)) ((X.2.2.2.2.2.1.1.2 1 _ rfl).1 _ _) (fun q => by cases q) ?_ ?_ rfl rfl hd k2
  · rw [arrV_size]; exact n32_in hi32 (by omega) (by omega)
  · rw [n32_clamp hi32, Int.toNat_natCast, arrV_read _ _ (by omega)]
    unfold vs_
    rw [hkd]
    rfl
theorem ok_zald : ok_ mt own FR LO nL ini ret rt lpc pc .baload 1 (i_ald 32 0) := by
  intro p l e R s m args below meth c G cc h0 r C J K X hd hC hJ hK L st h hr
  obtain ⟨t2, i, u, rfl, hr1⟩ := s1_s hr
  obtain ⟨t1, a, u, rfl, hr2⟩ := s1_s hr1
  obtain ⟨rfl, hr3⟩ := tg_s hr2
  obtain ⟨rfl, hr4⟩ := tg_s hr3
  obtain ⟨ha, hr5⟩ := ck_s hr4
  obtain ⟨hi, hr6⟩ := ck_s hr5
  obtain ⟨n, rfl⟩ := Int.eq_ofNat_of_zero_le ha
  obtain ⟨j, rfl⟩ := Int.eq_ofNat_of_zero_le hi.1
  obtain ⟨hm, hw⟩ := hK _ _ _ hr6
  refine ⟨hm, fun ls H locs hl hH hS hvL hvS h1 h2 => ?_⟩
  have hi32 : i32_ (j : Int) := ov_hd hvS
  obtain ⟨hn, hkd⟩ := ov_nat (by decide) (ov_hd (ov_tl hvS))
  have hkd : kd_ h n = 22 := Nat.add_right_cancel (m := 10) hkd
  have hln := ln_ok hH.2.1 hn hkd (by decide)
  have hos := hH.2.1.1 n (by omega) hn j
  rw [hkd] at hos
  have k2 := hw ls H locs hl hH hS hvL (ov_cs (show ov_ h.2.2 (0, rd_ h n j) from hos) (ov_tl (ov_tl hvS))) h1 h2
  rw [List.map_cons] at k2
  rw [List.map_cons, List.map_cons, cv_nat (t := 32) (by decide) n]
  refine W.zald (a := G.2.1 + n) (v := cv_ G (0, rd_ h n j)) X.1 X.2.1 (w_arr hH hn hkd (by decide) (by decide)) ((X.2.2.2.2.2.1.1.2 2 _ rfl).1 _ _) (fun q => by cases q) ?_ ?_ rfl rfl hd k2
  · rw [arrV_size]; exact n32_in hi32 (by omega) (by omega)
  · rw [n32_clamp hi32, Int.toNat_natCast, arrV_read _ _ (by omega)]
    unfold vs_
    rw [hkd]
    rfl
theorem ok_lald : ok_ mt own FR LO nL ini ret rt lpc pc .laload 1 (i_ald 33 1) := by
  intro p l e R s m args below meth c G cc h0 r C J K X hd hC hJ hK L st h hr
  obtain ⟨t2, i, u, rfl, hr1⟩ := s1_s hr
  obtain ⟨t1, a, u, rfl, hr2⟩ := s1_s hr1
  obtain ⟨rfl, hr3⟩ := tg_s hr2
  obtain ⟨rfl, hr4⟩ := tg_s hr3
  obtain ⟨ha, hr5⟩ := ck_s hr4
  obtain ⟨hi, hr6⟩ := ck_s hr5
  obtain ⟨n, rfl⟩ := Int.eq_ofNat_of_zero_le ha
  obtain ⟨j, rfl⟩ := Int.eq_ofNat_of_zero_le hi.1
  obtain ⟨hm, hw⟩ := hK _ _ _ hr6
  refine ⟨hm, fun ls H locs hl hH hS hvL hvS h1 h2 => ?_⟩
  have hi32 : i32_ (j : Int) := ov_hd hvS
  obtain ⟨hn, hkd⟩ := ov_nat (by decide) (ov_hd (ov_tl hvS))
  have hkd : kd_ h n = 23 := Nat.add_right_cancel (m := 10) hkd
  have hln := ln_ok hH.2.1 hn hkd (by decide)
  have hos := hH.2.1.1 n (by omega) hn j
  rw [hkd] at hos
  have k2 := hw ls H locs hl hH hS hvL (ov_cs (show ov_ h.2.2 (1, rd_ h n j) from hos) (ov_tl (ov_tl hvS))) h1 h2
  rw [List.map_cons] at k2
  rw [List.map_cons, List.map_cons, cv_nat (t := 33) (by decide) n]
  refine W.lald (a := G.2.1 + n) (v := cv_ G (1, rd_ h n j)) X.1 X.2.1 (w_arr hH hn hkd (by decide) (by decide)) ((X.2.2.2.2.2.1.1.2 3 _ rfl).1 _ _) (fun q => by cases q) ?_ ?_ rfl rfl hd k2
  · rw [arrV_size]; exact n32_in hi32 (by omega) (by omega)
  · rw [n32_clamp hi32, Int.toNat_natCast, arrV_read _ _ (by omega)]
    unfold vs_
    rw [hkd]
    rfl
theorem ok_aaload : ok_ mt own FR LO nL ini ret rt lpc pc .aaload 1 (i_aldr 34 10) := by
  intro p l e R s m args below meth c G cc h0 r C J K X hd hC hJ hK L st h hr
  obtain ⟨t2, i, u, rfl, hr1⟩ := s1_s hr
  obtain ⟨t1, a, u, rfl, hr2⟩ := s1_s hr1
  obtain ⟨rfl, hr3⟩ := tg_s hr2
  obtain ⟨rfl, hr4⟩ := tg_s hr3
  obtain ⟨ha, hr5⟩ := ck_s hr4
  obtain ⟨hi, hr6⟩ := ck_s hr5
  obtain ⟨n, rfl⟩ := Int.eq_ofNat_of_zero_le ha
  obtain ⟨j, rfl⟩ := Int.eq_ofNat_of_zero_le hi.1
  obtain ⟨hm, hw⟩ := hK _ _ _ hr6
  refine ⟨hm, fun ls H locs hl hH hS hvL hvS h1 h2 => ?_⟩
  have hi32 : i32_ (j : Int) := ov_hd hvS
  obtain ⟨hn, hkd⟩ := ov_nat (by decide) (ov_hd (ov_tl hvS))
  have hkd : kd_ h n = 24 := Nat.add_right_cancel (m := 10) hkd
  have hln := ln_ok hH.2.1 hn hkd (by decide)
  have hos := hH.2.1.1 n (by omega) hn j
  rw [hkd] at hos
  have k2 := hw ls H locs hl hH hS hvL (ov_cs (show ov_ h.2.2 (10, rf_ h n j) from hos) (ov_tl (ov_tl hvS))) h1 h2
  rw [List.map_cons] at k2
  rw [List.map_cons, List.map_cons, cv_nat (t := 34) (by decide) n]
  refine W.aald (a := G.2.1 + n) (v := cv_ G (10, rf_ h n j)) X.1 X.2.1 (w_arr hH hn hkd (by decide) (by decide)) ((X.2.2.2.2.2.1.1.2 4 _ rfl).1 _ _) rfl (fun q => by cases q) ?_ ?_ rfl rfl hd k2
  · rw [arrV_size]; exact n32_in hi32 (by omega) (by omega)
  · rw [n32_clamp hi32, Int.toNat_natCast, arrV_read _ _ (by omega)]
    unfold vs_
    rw [hkd]
    rfl
theorem ok_iast : ok_ mt own FR LO nL ini ret rt lpc pc .iastore 1 (i_ast 30 0) := by
  intro p l e R s m args below meth c G cc h0 r C J K X hd hC hJ hK L st h hr
  obtain ⟨t3, v, u, rfl, hr1⟩ := s1_s hr
  obtain ⟨t2, i, u, rfl, hr2⟩ := s1_s hr1
  obtain ⟨t1, a, u, rfl, hr3⟩ := s1_s hr2
  obtain ⟨rfl, hr4⟩ := tg_s hr3
  obtain ⟨rfl, hr5⟩ := tg_s hr4
  obtain ⟨rfl, hr6⟩ := tg_s hr5
  obtain ⟨ha, hr7⟩ := ck_s hr6
  obtain ⟨hi, hr8⟩ := ck_s hr7
  obtain ⟨n, rfl⟩ := Int.eq_ofNat_of_zero_le ha
  obtain ⟨j, rfl⟩ := Int.eq_ofNat_of_zero_le hi.1
  obtain ⟨hm, hw⟩ := hK _ _ _ hr8
  refine ⟨hm, fun ls H locs hl hH hS hvL hvS h1 h2 => ?_⟩
  have hv : ov_ h.2.2 (0, v) := ov_hd hvS
  have hi32 : i32_ (j : Int) := ov_hd (ov_tl hvS)
  obtain ⟨hn, hkd⟩ := ov_nat (by decide) (ov_hd (ov_tl (ov_tl hvS)))
  have hkd : kd_ h n = 20 := Nat.add_right_cancel (m := 10) hkd
  have hln := ln_ok hH.2.1 hn hkd (by decide)
  rw [List.map_cons, List.map_cons, List.map_cons, cv_nat (t := 30) (by decide) n]
  refine W.iast (a := G.2.1 + n) X.1 X.2.1 (w_arr hH hn hkd (by decide) (by decide)) ((X.2.2.2.2.2.1.1.2 0 _ rfl).1 _ _) (fun q => by cases q) (by rw [arrV_size]; exact n32_in hi32 (by omega) (by omega)) rfl rfl hd fun H1 e1 z oq => ?_
  rw [n32_clamp hi32, Int.toNat_natCast] at e1
  refine hw ls H1 _ hl (hr_ast hH hn hkd (by decide) (by decide) rfl wr_o z oq e1 ?_ ?_) (hS.put z oq (by show G.2.1 ≤ _; omega)) hvL (ov_tl (ov_tl (ov_tl hvS))) h1 h2
  · rw [vs_wr, hkd]
    rfl
  · exact os_wr hH.2.1 (by rw [hkd]; exact hv)
theorem ok_last : ok_ mt own FR LO nL ini ret rt lpc pc .lastore 1 (i_ast 33 1) := by
  intro p l e R s m args below meth c G cc h0 r C J K X hd hC hJ hK L st h hr
  obtain ⟨t3, v, u, rfl, hr1⟩ := s1_s hr
  obtain ⟨t2, i, u, rfl, hr2⟩ := s1_s hr1
  obtain ⟨t1, a, u, rfl, hr3⟩ := s1_s hr2
  obtain ⟨rfl, hr4⟩ := tg_s hr3
  obtain ⟨rfl, hr5⟩ := tg_s hr4
  obtain ⟨rfl, hr6⟩ := tg_s hr5
  obtain ⟨ha, hr7⟩ := ck_s hr6
  obtain ⟨hi, hr8⟩ := ck_s hr7
  obtain ⟨n, rfl⟩ := Int.eq_ofNat_of_zero_le ha
  obtain ⟨j, rfl⟩ := Int.eq_ofNat_of_zero_le hi.1
  obtain ⟨hm, hw⟩ := hK _ _ _ hr8
  refine ⟨hm, fun ls H locs hl hH hS hvL hvS h1 h2 => ?_⟩
  have hv : ov_ h.2.2 (1, v) := ov_hd hvS
  have hi32 : i32_ (j : Int) := ov_hd (ov_tl hvS)
  obtain ⟨hn, hkd⟩ := ov_nat (by decide) (ov_hd (ov_tl (ov_tl hvS)))
  have hkd : kd_ h n = 23 := Nat.add_right_cancel (m := 10) hkd
  have hln := ln_ok hH.2.1 hn hkd (by decide)
  rw [List.map_cons, List.map_cons, List.map_cons, cv_nat (t := 33) (by decide) n]
  refine W.last (a := G.2.1 + n) X.1 X.2.1 (w_arr hH hn hkd (by decide) (by decide)) ((X.2.2.2.2.2.1.1.2 3 _ rfl).1 _ _) (fun q => by cases q) (by rw [arrV_size]; exact n32_in hi32 (by omega) (by omega)) rfl rfl hd fun H1 e1 z oq => ?_
  rw [n32_clamp hi32, Int.toNat_natCast] at e1
  refine hw ls H1 _ hl (hr_ast hH hn hkd (by decide) (by decide) rfl wr_o z oq e1 ?_ ?_) (hS.put z oq (by show G.2.1 ≤ _; omega)) hvL (ov_tl (ov_tl (ov_tl hvS))) h1 h2
  · rw [vs_wr, hkd]
    rfl
  · exact os_wr hH.2.1 (by rw [hkd]; exact hv)
theorem ok_bast : ok_ mt own FR LO nL ini ret rt lpc pc .bastore 1 (i_bast) := by
  intro p l e R s m args below meth c G cc h0 r C J K X hd hC hJ hK L st h hr
  obtain ⟨t3, v, u, rfl, hr1⟩ := s1_s hr
  obtain ⟨t2, i, u, rfl, hr2⟩ := s1_s hr1
  obtain ⟨t1, a, u, rfl, hr3⟩ := s1_s hr2
  obtain ⟨rfl, hr4⟩ := tg_s hr3
  obtain ⟨rfl, hr5⟩ := tg_s hr4
  obtain ⟨rfl, hr6⟩ := tg_s hr5
  obtain ⟨ha, hr7⟩ := ck_s hr6
  obtain ⟨hi, hr8⟩ := ck_s hr7
  obtain ⟨n, rfl⟩ := Int.eq_ofNat_of_zero_le ha
  obtain ⟨j, rfl⟩ := Int.eq_ofNat_of_zero_le hi.1
  obtain ⟨hm, hw⟩ := hK _ _ _ hr8
  refine ⟨hm, fun ls H locs hl hH hS hvL hvS h1 h2 => ?_⟩
  have hv : ov_ h.2.2 (0, v) := ov_hd hvS
  have hi32 : i32_ (j : Int) := ov_hd (ov_tl hvS)
  obtain ⟨hn, hkd⟩ := ov_nat (by decide) (ov_hd (ov_tl (ov_tl hvS)))
  have hkd : kd_ h n = 21 := Nat.add_right_cancel (m := 10) hkd
  have hln := ln_ok hH.2.1 hn hkd (by decide)
  rw [List.map_cons, List.map_cons, List.map_cons, cv_nat (t := 31) (by decide) n]
  refine W.bast (a := G.2.1 + n) X.1 X.2.1 (w_arr hH hn hkd (by decide) (by decide)) ((X.2.2.2.2.2.1.1.2 1 _ rfl).1 _ _) (fun q => by cases q) (by rw [arrV_size]; exact n32_in hi32 (by omega) (by omega)) rfl rfl hd fun H1 e1 z oq => ?_
  rw [n32_clamp hi32, Int.toNat_natCast, nr_byte] at e1
  refine hw ls H1 _ hl (hr_ast hH hn hkd (by decide) (by decide) rfl wr_o z oq e1 ?_ ?_) (hS.put z oq (by show G.2.1 ≤ _; omega)) hvL (ov_tl (ov_tl (ov_tl hvS))) h1 h2
  · rw [vs_wr, hkd]
    rfl
  · exact os_wr hH.2.1 (by rw [hkd]; exact w8_in v)
theorem ok_zast : ok_ mt own FR LO nL ini ret rt lpc pc .bastore 1 (i_zast) := by
  intro p l e R s m args below meth c G cc h0 r C J K X hd hC hJ hK L st h hr
  obtain ⟨t3, v, u, rfl, hr1⟩ := s1_s hr
  obtain ⟨t2, i, u, rfl, hr2⟩ := s1_s hr1
  obtain ⟨t1, a, u, rfl, hr3⟩ := s1_s hr2
  obtain ⟨rfl, hr4⟩ := tg_s hr3
  obtain ⟨rfl, hr5⟩ := tg_s hr4
  obtain ⟨rfl, hr6⟩ := tg_s hr5
  obtain ⟨ha, hr7⟩ := ck_s hr6
  obtain ⟨hi, hr8⟩ := ck_s hr7
  obtain ⟨h01, hr9⟩ := ck_s hr8
  obtain ⟨n, rfl⟩ := Int.eq_ofNat_of_zero_le ha
  obtain ⟨j, rfl⟩ := Int.eq_ofNat_of_zero_le hi.1
  obtain ⟨hm, hw⟩ := hK _ _ _ hr9
  refine ⟨hm, fun ls H locs hl hH hS hvL hvS h1 h2 => ?_⟩
  have hv : ov_ h.2.2 (0, v) := ov_hd hvS
  have hi32 : i32_ (j : Int) := ov_hd (ov_tl hvS)
  obtain ⟨hn, hkd⟩ := ov_nat (by decide) (ov_hd (ov_tl (ov_tl hvS)))
  have hkd : kd_ h n = 22 := Nat.add_right_cancel (m := 10) hkd
  have hln := ln_ok hH.2.1 hn hkd (by decide)
  rw [List.map_cons, List.map_cons, List.map_cons, cv_nat (t := 32) (by decide) n]
  refine W.zast (a := G.2.1 + n) X.1 X.2.1 (w_arr hH hn hkd (by decide) (by decide)) ((X.2.2.2.2.2.1.1.2 2 _ rfl).1 _ _) (fun q => by cases q) (by rw [arrV_size]; exact n32_in hi32 (by omega) (by omega)) rfl rfl hd fun H1 e1 z oq => ?_
  rw [n32_clamp hi32, Int.toNat_natCast, nr_bool h01] at e1
  refine hw ls H1 _ hl (hr_ast hH hn hkd (by decide) (by decide) rfl wr_o z oq e1 ?_ ?_) (hS.put z oq (by show G.2.1 ≤ _; omega)) hvL (ov_tl (ov_tl (ov_tl hvS))) h1 h2
  · rw [vs_wr, hkd]
    rfl
  · exact os_wr hH.2.1 (by rw [hkd]; exact hv)
theorem ok_aast : ok_ mt own FR LO nL ini ret rt lpc pc .aastore 1 (i_astr 34 10) := by
  intro p l e R s m args below meth c G cc h0 r C J K X hd hC hJ hK L st h hr
  obtain ⟨t3, v, u, rfl, hr1⟩ := s1_s hr
  obtain ⟨t2, i, u, rfl, hr2⟩ := s1_s hr1
  obtain ⟨t1, a, u, rfl, hr3⟩ := s1_s hr2
  obtain ⟨rfl, hr4⟩ := tg_s hr3
  obtain ⟨rfl, hr5⟩ := tg_s hr4
  obtain ⟨rfl, hr6⟩ := tg_s hr5
  obtain ⟨ha, hr7⟩ := ck_s hr6
  obtain ⟨hv0, hr8⟩ := ck_s hr7
  obtain ⟨hi, hr9⟩ := ck_s hr8
  obtain ⟨n, rfl⟩ := Int.eq_ofNat_of_zero_le ha
  obtain ⟨w, rfl⟩ := Int.eq_ofNat_of_zero_le hv0
  obtain ⟨j, rfl⟩ := Int.eq_ofNat_of_zero_le hi.1
  obtain ⟨hm, hw⟩ := hK _ _ _ hr9
  refine ⟨hm, fun ls H locs hl hH hS hvL hvS h1 h2 => ?_⟩
  have hv : ov_ h.2.2 (10, (w : Int)) := ov_hd hvS
  have hi32 : i32_ (j : Int) := ov_hd (ov_tl hvS)
  obtain ⟨hwn, hwk⟩ := ov_nat (by decide) hv
  have hwk : kd_ h w = 0 := Nat.add_right_cancel (m := 10) hwk
  obtain ⟨hn, hkd⟩ := ov_nat (by decide) (ov_hd (ov_tl (ov_tl hvS)))
  have hkd : kd_ h n = 24 := Nat.add_right_cancel (m := 10) hkd
  have hln := ln_ok hH.2.1 hn hkd (by decide)
  rw [List.map_cons, List.map_cons, List.map_cons, cv_nat (t := 10) (by decide) w, cv_nat (t := 34) (by decide) n]
  obtain ⟨rr, hr1, cellV, g1, g2, g3, -⟩ := (hH.2.2 w hwn).1 (by rw [hwk]; decide)
  rw [hwk] at hr1 g2
  have hcls := (X.2.2.2.2.2.1.1.1 0 _ rfl).2
  obtain ⟨kA, comp, k1, k2, k3, -⟩ := (X.2.2.2.2.2.1.1.2 4 _ rfl).2
  have hcomp : comp = G.1.1 0 := Option.some.inj (k3.symm.trans hcls.1)
  subst hcomp
  obtain ⟨kC, hkC, -⟩ := hcls.2
  refine W.aast X.1 X.2.1 (w_arr hH hn hkd (by decide) (by decide)) (fun q h => by cases h) (fun h => by cases h) k1 k2 rfl hkC ⟨fun q => n32_in (n := (ln_ h n).toNat) hi32 (by omega) (by omega) (Or.inl q), by rw [arrV_size, n32_clamp hi32, Int.toNat_natCast]; omega⟩ g1 (fun q h => by rw [g3] at h; cases h) (by rw [g2]; exact hkC) (by rw [g2]; exact va_assign hcls) rfl rfl hd fun H1 e1 z oq => ?_
  rw [n32_clamp hi32, Int.toNat_natCast] at e1
  refine hw ls H1 _ hl (hr_ast hH hn hkd (by decide) (by decide) rfl wf_o z oq e1 ?_ ?_) (hS.put z oq (by show G.2.1 ≤ _; omega)) hvL (ov_tl (ov_tl (ov_tl hvS))) h1 h2
  · rw [vs_wf, hkd]
    show updV _ _ (cv_ G (10, (w : Int))) = _
    rw [cv_nat (t := 10) (by decide) w]
  · exact os_wf hH.2.1 (by rw [hkd]; exact hv)
theorem ok_alen {t0 ix : Nat} {ty : FieldType} (ht0 : 30 ≤ t0 ∧ t0 < 35) (hix : ∀ G : am_G, (ty_ G)[ix]? = some (G.2.2.1 (t0 - 10), ty)) : ok_ mt own FR LO nL ini ret rt lpc pc .arraylength 1 (i_alen t0) := by
  intro p l e R s m args below meth c G cc h0 r C J K X hd hC hJ hK L st h hr
  obtain ⟨t1, a, u, rfl, hr1⟩ := s1_s hr
  obtain ⟨rfl, hr2⟩ := tg_s hr1
  obtain ⟨ha, hr3⟩ := ck_s hr2
  obtain ⟨n, rfl⟩ := Int.eq_ofNat_of_zero_le ha
  obtain ⟨hm, hw⟩ := hK _ _ _ hr3
  refine ⟨hm, fun ls H locs hl hH hS hvL hvS h1 h2 => ?_⟩
  obtain ⟨hn, hkd⟩ := ov_nat (by omega) (ov_hd hvS)
  have hkd : kd_ h n = t1 - 10 := by show h.2.2.1 n = _; omega
  have hln := ln_ok hH.2.1 hn hkd (by omega)
  have k2 := hw ls H locs hl hH hS hvL (ov_cs (show i32_ (ln_ h n) by unfold i32_; omega) (ov_tl hvS)) h1 h2
  rw [List.map_cons] at k2
  rw [List.map_cons, cv_nat (by omega)]
  refine W.alen (a := G.2.1 + n) (n := Int32.ofInt (ln_ h n)) X.1 X.2.1 (w_arr hH hn hkd (by omega) (by omega)) ((X.2.2.2.2.2.1.1.2 ix _ (hix G)).1 _ _) ?_ rfl rfl hd k2
  rw [arrV_size]
  show Int32.ofNat _ = _
  apply Int32.toInt_inj.mp
  rw [Int32.toInt_ofNat_of_lt (by omega), i32_ti (by unfold i32_; omega)]
  omega
end HeapOps
