section Arith
variable {mt : Nat → am_S} {own : String} {FR LO nL : Nat} {ini : Bool} {ret : Option FieldType} {rt : Nat} {lpc : Nat → Nat} {pc : Nat}
theorem ok_iadd : ok_ mt own FR LO nL ini ret rt lpc pc .iadd 1 (i_op2 0 (fun a b => w32 (a + b))) := by
  intro p l e R s m args below meth c G cc h0 r C J K X hd hC hJ hK L st h hr
  obtain ⟨t2, b, u, rfl, hq⟩ := s1_s hr
  obtain ⟨t1, a, u, rfl, hr⟩ := s1_s hq
  obtain ⟨rfl, hr⟩ := tg_s hr
  obtain ⟨rfl, hr⟩ := tg_s hr
  obtain ⟨hm, hw⟩ := hK _ _ _ hr
  refine ⟨hm, fun ls H locs hl hH hS hvL hvS h1 h2 => ?_⟩
  have hb : i32_ b := ov_hd hvS
  have ha : i32_ a := ov_hd (ov_tl hvS)
  refine lv_iadd X.1 X.2.1 hd ?_
  have k2 := hw ls H locs hl hH hS hvL (ov_cs (w32_in _) (ov_tl (ov_tl hvS))) h1 h2
  rw [List.map_cons] at k2
  rw [n32_add]
  exact k2
theorem ok_isub : ok_ mt own FR LO nL ini ret rt lpc pc .isub 1 (i_op2 0 (fun a b => w32 (a - b))) := by
  intro p l e R s m args below meth c G cc h0 r C J K X hd hC hJ hK L st h hr
  obtain ⟨t2, b, u, rfl, hq⟩ := s1_s hr
  obtain ⟨t1, a, u, rfl, hr⟩ := s1_s hq
  obtain ⟨rfl, hr⟩ := tg_s hr
  obtain ⟨rfl, hr⟩ := tg_s hr
  obtain ⟨hm, hw⟩ := hK _ _ _ hr
  refine ⟨hm, fun ls H locs hl hH hS hvL hvS h1 h2 => ?_⟩
  have hb : i32_ b := ov_hd hvS
  have ha : i32_ a := ov_hd (ov_tl hvS)
  refine lv_isub X.1 X.2.1 hd ?_
  have k2 := hw ls H locs hl hH hS hvL (ov_cs (w32_in _) (ov_tl (ov_tl hvS))) h1 h2
  rw [List.map_cons] at k2
  rw [n32_sub]
  exact k2
theorem ok_imul : ok_ mt own FR LO nL ini ret rt lpc pc .imul 1 (i_op2 0 (fun a b => w32 (a * b))) := by
  intro p l e R s m args below meth c G cc h0 r C J K X hd hC hJ hK L st h hr
  obtain ⟨t2, b, u, rfl, hq⟩ := s1_s hr
  obtain ⟨t1, a, u, rfl, hr⟩ := s1_s hq
  obtain ⟨rfl, hr⟩ := tg_s hr
  obtain ⟨rfl, hr⟩ := tg_s hr
  obtain ⟨hm, hw⟩ := hK _ _ _ hr
  refine ⟨hm, fun ls H locs hl hH hS hvL hvS h1 h2 => ?_⟩
  have hb : i32_ b := ov_hd hvS
  have ha : i32_ a := ov_hd (ov_tl hvS)
  refine lv_imul X.1 X.2.1 hd ?_
  have k2 := hw ls H locs hl hH hS hvL (ov_cs (w32_in _) (ov_tl (ov_tl hvS))) h1 h2
  rw [List.map_cons] at k2
  rw [n32_mul ha hb]
  exact k2
theorem ok_iand : ok_ mt own FR LO nL ini ret rt lpc pc .iand 1 (i_op2 0 (fun a b => an_ a b)) := by
  intro p l e R s m args below meth c G cc h0 r C J K X hd hC hJ hK L st h hr
  obtain ⟨t2, b, u, rfl, hq⟩ := s1_s hr
  obtain ⟨t1, a, u, rfl, hr⟩ := s1_s hq
  obtain ⟨rfl, hr⟩ := tg_s hr
  obtain ⟨rfl, hr⟩ := tg_s hr
  obtain ⟨hm, hw⟩ := hK _ _ _ hr
  refine ⟨hm, fun ls H locs hl hH hS hvL hvS h1 h2 => ?_⟩
  have hb : i32_ b := ov_hd hvS
  have ha : i32_ a := ov_hd (ov_tl hvS)
  refine lv_iand X.1 X.2.1 hd ?_
  have k2 := hw ls H locs hl hH hS hvL (ov_cs (i32_of _) (ov_tl (ov_tl hvS))) h1 h2
  rw [List.map_cons] at k2
  rw [n32_and]
  exact k2
theorem ok_ior : ok_ mt own FR LO nL ini ret rt lpc pc .ior 1 (i_op2 0 (fun a b => or_ a b)) := by
  intro p l e R s m args below meth c G cc h0 r C J K X hd hC hJ hK L st h hr
  obtain ⟨t2, b, u, rfl, hq⟩ := s1_s hr
  obtain ⟨t1, a, u, rfl, hr⟩ := s1_s hq
  obtain ⟨rfl, hr⟩ := tg_s hr
  obtain ⟨rfl, hr⟩ := tg_s hr
  obtain ⟨hm, hw⟩ := hK _ _ _ hr
  refine ⟨hm, fun ls H locs hl hH hS hvL hvS h1 h2 => ?_⟩
  have hb : i32_ b := ov_hd hvS
  have ha : i32_ a := ov_hd (ov_tl hvS)
  refine lv_ior X.1 X.2.1 hd ?_
  have k2 := hw ls H locs hl hH hS hvL (ov_cs (i32_of _) (ov_tl (ov_tl hvS))) h1 h2
  rw [List.map_cons] at k2
  rw [n32_or]
  exact k2
theorem ok_ixor : ok_ mt own FR LO nL ini ret rt lpc pc .ixor 1 (i_op2 0 (fun a b => xo_ a b)) := by
  intro p l e R s m args below meth c G cc h0 r C J K X hd hC hJ hK L st h hr
  obtain ⟨t2, b, u, rfl, hq⟩ := s1_s hr
  obtain ⟨t1, a, u, rfl, hr⟩ := s1_s hq
  obtain ⟨rfl, hr⟩ := tg_s hr
  obtain ⟨rfl, hr⟩ := tg_s hr
  obtain ⟨hm, hw⟩ := hK _ _ _ hr
  refine ⟨hm, fun ls H locs hl hH hS hvL hvS h1 h2 => ?_⟩
  have hb : i32_ b := ov_hd hvS
  have ha : i32_ a := ov_hd (ov_tl hvS)
  refine lv_ixor X.1 X.2.1 hd ?_
  have k2 := hw ls H locs hl hH hS hvL (ov_cs (i32_of _) (ov_tl (ov_tl hvS))) h1 h2
  rw [List.map_cons] at k2
  rw [n32_xor]
  exact k2
theorem ok_ishl : ok_ mt own FR LO nL ini ret rt lpc pc .ishl 1 (i_op2 0 (fun a b => w32 (a * 2 ^ (b % 32).toNat))) := by
  intro p l e R s m args below meth c G cc h0 r C J K X hd hC hJ hK L st h hr
  obtain ⟨t2, b, u, rfl, hq⟩ := s1_s hr
  obtain ⟨t1, a, u, rfl, hr⟩ := s1_s hq
  obtain ⟨rfl, hr⟩ := tg_s hr
  obtain ⟨rfl, hr⟩ := tg_s hr
  obtain ⟨hm, hw⟩ := hK _ _ _ hr
  refine ⟨hm, fun ls H locs hl hH hS hvL hvS h1 h2 => ?_⟩
  have hb : i32_ b := ov_hd hvS
  have ha : i32_ a := ov_hd (ov_tl hvS)
  refine lv_ishl X.1 X.2.1 hd ?_
  have k2 := hw ls H locs hl hH hS hvL (ov_cs (w32_in _) (ov_tl (ov_tl hvS))) h1 h2
  rw [List.map_cons] at k2
  rw [n32_shl]
  exact k2
theorem ok_ishr : ok_ mt own FR LO nL ini ret rt lpc pc .ishr 1 (i_op2 0 (fun a b => a / 2 ^ (b % 32).toNat)) := by
  intro p l e R s m args below meth c G cc h0 r C J K X hd hC hJ hK L st h hr
  obtain ⟨t2, b, u, rfl, hq⟩ := s1_s hr
  obtain ⟨t1, a, u, rfl, hr⟩ := s1_s hq
  obtain ⟨rfl, hr⟩ := tg_s hr
  obtain ⟨rfl, hr⟩ := tg_s hr
  obtain ⟨hm, hw⟩ := hK _ _ _ hr
  refine ⟨hm, fun ls H locs hl hH hS hvL hvS h1 h2 => ?_⟩
  have hb : i32_ b := ov_hd hvS
  have ha : i32_ a := ov_hd (ov_tl hvS)
  refine lv_ishr X.1 X.2.1 hd ?_
  have k2 := hw ls H locs hl hH hS hvL (ov_cs ((n32_shr b ha).2) (ov_tl (ov_tl hvS))) h1 h2
  rw [List.map_cons] at k2
  rw [(n32_shr b ha).1]
  exact k2
theorem ok_idiv : ok_ mt own FR LO nL ini ret rt lpc pc .idiv 1 (i_dv2 0 (fun a b => w32 (Int.tdiv a b))) := by
  intro p l e R s m args below meth c G cc h0 r C J K X hd hC hJ hK L st h hr
  obtain ⟨t2, b, u, rfl, hq⟩ := s1_s hr
  obtain ⟨t1, a, u, rfl, hr⟩ := s1_s hq
  obtain ⟨rfl, hr⟩ := tg_s hr
  obtain ⟨rfl, hr⟩ := tg_s hr
  obtain ⟨hz, hr⟩ := ck_s hr
  obtain ⟨hm, hw⟩ := hK _ _ _ hr
  refine ⟨hm, fun ls H locs hl hH hS hvL hvS h1 h2 => ?_⟩
  have hb : i32_ b := ov_hd hvS
  have ha : i32_ a := ov_hd (ov_tl hvS)
  refine lv_idiv X.1 X.2.1 hd (fun q => hz ((n32_eq hb (by unfold i32_; omega)).mp q)) ?_
  have k2 := hw ls H locs hl hH hS hvL (ov_cs (w32_in _) (ov_tl (ov_tl hvS))) h1 h2
  rw [List.map_cons] at k2
  rw [n32_div ha hb]
  exact k2
theorem ok_irem : ok_ mt own FR LO nL ini ret rt lpc pc .irem 1 (i_dv2 0 (fun a b => Int.tmod a b)) := by
  intro p l e R s m args below meth c G cc h0 r C J K X hd hC hJ hK L st h hr
  obtain ⟨t2, b, u, rfl, hq⟩ := s1_s hr
  obtain ⟨t1, a, u, rfl, hr⟩ := s1_s hq
  obtain ⟨rfl, hr⟩ := tg_s hr
  obtain ⟨rfl, hr⟩ := tg_s hr
  obtain ⟨hz, hr⟩ := ck_s hr
  obtain ⟨hm, hw⟩ := hK _ _ _ hr
  refine ⟨hm, fun ls H locs hl hH hS hvL hvS h1 h2 => ?_⟩
  have hb : i32_ b := ov_hd hvS
  have ha : i32_ a := ov_hd (ov_tl hvS)
  refine lv_irem X.1 X.2.1 hd (fun q => hz ((n32_eq hb (by unfold i32_; omega)).mp q)) ?_
  have k2 := hw ls H locs hl hH hS hvL (ov_cs (tm_32 ha hz hb) (ov_tl (ov_tl hvS))) h1 h2
  rw [List.map_cons] at k2
  rw [n32_rem ha hb hz]
  exact k2
theorem ok_ladd : ok_ mt own FR LO nL ini ret rt lpc pc .ladd 1 (i_op2 1 (fun a b => w64 (a + b))) := by
  intro p l e R s m args below meth c G cc h0 r C J K X hd hC hJ hK L st h hr
  obtain ⟨t2, b, u, rfl, hq⟩ := s1_s hr
  obtain ⟨t1, a, u, rfl, hr⟩ := s1_s hq
  obtain ⟨rfl, hr⟩ := tg_s hr
  obtain ⟨rfl, hr⟩ := tg_s hr
  obtain ⟨hm, hw⟩ := hK _ _ _ hr
  refine ⟨hm, fun ls H locs hl hH hS hvL hvS h1 h2 => ?_⟩
  have hb : i64_ b := ov_hd hvS
  have ha : i64_ a := ov_hd (ov_tl hvS)
  refine lv_ladd X.1 X.2.1 hd ?_
  have k2 := hw ls H locs hl hH hS hvL (ov_cs (w64_in _) (ov_tl (ov_tl hvS))) h1 h2
  rw [List.map_cons] at k2
  rw [n64_add]
  exact k2
theorem ok_lsub : ok_ mt own FR LO nL ini ret rt lpc pc .lsub 1 (i_op2 1 (fun a b => w64 (a - b))) := by
  intro p l e R s m args below meth c G cc h0 r C J K X hd hC hJ hK L st h hr
  obtain ⟨t2, b, u, rfl, hq⟩ := s1_s hr
  obtain ⟨t1, a, u, rfl, hr⟩ := s1_s hq
  obtain ⟨rfl, hr⟩ := tg_s hr
  obtain ⟨rfl, hr⟩ := tg_s hr
  obtain ⟨hm, hw⟩ := hK _ _ _ hr
  refine ⟨hm, fun ls H locs hl hH hS hvL hvS h1 h2 => ?_⟩
  have hb : i64_ b := ov_hd hvS
  have ha : i64_ a := ov_hd (ov_tl hvS)
  refine lv_lsub X.1 X.2.1 hd ?_
  have k2 := hw ls H locs hl hH hS hvL (ov_cs (w64_in _) (ov_tl (ov_tl hvS))) h1 h2
  rw [List.map_cons] at k2
  rw [n64_sub]
  exact k2
theorem ok_lmul : ok_ mt own FR LO nL ini ret rt lpc pc .lmul 1 (i_op2 1 (fun a b => w64 (a * b))) := by
  intro p l e R s m args below meth c G cc h0 r C J K X hd hC hJ hK L st h hr
  obtain ⟨t2, b, u, rfl, hq⟩ := s1_s hr
  obtain ⟨t1, a, u, rfl, hr⟩ := s1_s hq
  obtain ⟨rfl, hr⟩ := tg_s hr
  obtain ⟨rfl, hr⟩ := tg_s hr
  obtain ⟨hm, hw⟩ := hK _ _ _ hr
  refine ⟨hm, fun ls H locs hl hH hS hvL hvS h1 h2 => ?_⟩
  have hb : i64_ b := ov_hd hvS
  have ha : i64_ a := ov_hd (ov_tl hvS)
  refine lv_lmul X.1 X.2.1 hd ?_
  have k2 := hw ls H locs hl hH hS hvL (ov_cs (w64_in _) (ov_tl (ov_tl hvS))) h1 h2
  rw [List.map_cons] at k2
  rw [n64_mul ha hb]
  exact k2
theorem ok_land : ok_ mt own FR LO nL ini ret rt lpc pc .land 1 (i_op2 1 (fun a b => al_ a b)) := by
  intro p l e R s m args below meth c G cc h0 r C J K X hd hC hJ hK L st h hr
  obtain ⟨t2, b, u, rfl, hq⟩ := s1_s hr
  obtain ⟨t1, a, u, rfl, hr⟩ := s1_s hq
  obtain ⟨rfl, hr⟩ := tg_s hr
  obtain ⟨rfl, hr⟩ := tg_s hr
  obtain ⟨hm, hw⟩ := hK _ _ _ hr
  refine ⟨hm, fun ls H locs hl hH hS hvL hvS h1 h2 => ?_⟩
  have hb : i64_ b := ov_hd hvS
  have ha : i64_ a := ov_hd (ov_tl hvS)
  refine lv_land X.1 X.2.1 hd ?_
  have k2 := hw ls H locs hl hH hS hvL (ov_cs (i64_of _) (ov_tl (ov_tl hvS))) h1 h2
  rw [List.map_cons] at k2
  rw [n64_and]
  exact k2
theorem ok_ldiv : ok_ mt own FR LO nL ini ret rt lpc pc .ldiv 1 (i_dv2 1 (fun a b => w64 (Int.tdiv a b))) := by
  intro p l e R s m args below meth c G cc h0 r C J K X hd hC hJ hK L st h hr
  obtain ⟨t2, b, u, rfl, hq⟩ := s1_s hr
  obtain ⟨t1, a, u, rfl, hr⟩ := s1_s hq
  obtain ⟨rfl, hr⟩ := tg_s hr
  obtain ⟨rfl, hr⟩ := tg_s hr
  obtain ⟨hz, hr⟩ := ck_s hr
  obtain ⟨hm, hw⟩ := hK _ _ _ hr
  refine ⟨hm, fun ls H locs hl hH hS hvL hvS h1 h2 => ?_⟩
  have hb : i64_ b := ov_hd hvS
  have ha : i64_ a := ov_hd (ov_tl hvS)
  refine lv_ldiv X.1 X.2.1 hd (fun q => hz ((n64_eq hb (by unfold i64_; omega)).mp q)) ?_
  have k2 := hw ls H locs hl hH hS hvL (ov_cs (w64_in _) (ov_tl (ov_tl hvS))) h1 h2
  rw [List.map_cons] at k2
  rw [n64_div ha hb]
  exact k2
theorem ok_lrem : ok_ mt own FR LO nL ini ret rt lpc pc .lrem 1 (i_dv2 1 (fun a b => Int.tmod a b)) := by
  intro p l e R s m args below meth c G cc h0 r C J K X hd hC hJ hK L st h hr
  obtain ⟨t2, b, u, rfl, hq⟩ := s1_s hr
  obtain ⟨t1, a, u, rfl, hr⟩ := s1_s hq
  obtain ⟨rfl, hr⟩ := tg_s hr
  obtain ⟨rfl, hr⟩ := tg_s hr
  obtain ⟨hz, hr⟩ := ck_s hr
  obtain ⟨hm, hw⟩ := hK _ _ _ hr
  refine ⟨hm, fun ls H locs hl hH hS hvL hvS h1 h2 => ?_⟩
  have hb : i64_ b := ov_hd hvS
  have ha : i64_ a := ov_hd (ov_tl hvS)
  refine lv_lrem X.1 X.2.1 hd (fun q => hz ((n64_eq hb (by unfold i64_; omega)).mp q)) ?_
  have k2 := hw ls H locs hl hH hS hvL (ov_cs (tm_64 ha hz hb) (ov_tl (ov_tl hvS))) h1 h2
  rw [List.map_cons] at k2
  rw [n64_rem ha hb hz]
  exact k2
theorem ok_lcmp : ok_ mt own FR LO nL ini ret rt lpc pc .lcmp 1 i_lcmp := by
  intro p l e R s m args below meth c G cc h0 r C J K X hd hC hJ hK L st h hr
  obtain ⟨t2, b, u, rfl, hq⟩ := s1_s hr
  obtain ⟨t1, a, u, rfl, hr⟩ := s1_s hq
  obtain ⟨rfl, hr⟩ := tg_s hr
  obtain ⟨rfl, hr⟩ := tg_s hr
  obtain ⟨hm, hw⟩ := hK _ _ _ hr
  refine ⟨hm, fun ls H locs hl hH hS hvL hvS h1 h2 => ?_⟩
  have hb : i64_ b := ov_hd hvS
  have ha : i64_ a := ov_hd (ov_tl hvS)
  refine W.lcmp X.1 X.2.1 hd ?_
  have k2 := hw ls H locs hl hH hS hvL (ov_cs (lcm_in a b) (ov_tl (ov_tl hvS))) h1 h2
  rw [List.map_cons] at k2
  rw [n64_cmp ha hb]
  exact k2
theorem ok_ineg : ok_ mt own FR LO nL ini ret rt lpc pc .ineg 1 (i_op1 0 0 (fun a => w32 (-a))) := by
  intro p l e R s m args below meth c G cc h0 r C J K X hd hC hJ hK L st h hr
  obtain ⟨t1, a, u, rfl, hr⟩ := s1_s hr
  obtain ⟨rfl, hr⟩ := tg_s hr
  obtain ⟨hm, hw⟩ := hK _ _ _ hr
  refine ⟨hm, fun ls H locs hl hH hS hvL hvS h1 h2 => ?_⟩
  have ha : i32_ a := ov_hd hvS
  have k2 := hw ls H locs hl hH hS hvL (ov_cs (w32_in _) (ov_tl hvS)) h1 h2
  rw [List.map_cons] at k2
  refine lv_ineg X.1 X.2.1 hd ?_
  rw [n32_neg]
  exact k2
theorem ok_lneg : ok_ mt own FR LO nL ini ret rt lpc pc .lneg 1 (i_op1 1 1 (fun a => w64 (-a))) := by
  intro p l e R s m args below meth c G cc h0 r C J K X hd hC hJ hK L st h hr
  obtain ⟨t1, a, u, rfl, hr⟩ := s1_s hr
  obtain ⟨rfl, hr⟩ := tg_s hr
  obtain ⟨hm, hw⟩ := hK _ _ _ hr
  refine ⟨hm, fun ls H locs hl hH hS hvL hvS h1 h2 => ?_⟩
  have ha : i64_ a := ov_hd hvS
  have k2 := hw ls H locs hl hH hS hvL (ov_cs (w64_in _) (ov_tl hvS)) h1 h2
  rw [List.map_cons] at k2
  refine lv_lneg X.1 X.2.1 hd ?_
  rw [n64_neg]
  exact k2
theorem ok_i2l : ok_ mt own FR LO nL ini ret rt lpc pc .i2l 1 (i_op1 0 1 (fun a => a)) := by
  intro p l e R s m args below meth c G cc h0 r C J K X hd hC hJ hK L st h hr
  obtain ⟨t1, a, u, rfl, hr⟩ := s1_s hr
  obtain ⟨rfl, hr⟩ := tg_s hr
  obtain ⟨hm, hw⟩ := hK _ _ _ hr
  refine ⟨hm, fun ls H locs hl hH hS hvL hvS h1 h2 => ?_⟩
  have ha : i32_ a := ov_hd hvS
  have k2 := hw ls H locs hl hH hS hvL (ov_cs ((by have q := ha; unfold i32_ at q; show i64_ a; unfold i64_; omega)) (ov_tl hvS)) h1 h2
  rw [List.map_cons] at k2
  exact lv_i2l X.1 X.2.1 hd (n32_i2l ha) k2
theorem ok_l2i : ok_ mt own FR LO nL ini ret rt lpc pc .l2i 1 (i_op1 1 0 (fun a => w32 a)) := by
  intro p l e R s m args below meth c G cc h0 r C J K X hd hC hJ hK L st h hr
  obtain ⟨t1, a, u, rfl, hr⟩ := s1_s hr
  obtain ⟨rfl, hr⟩ := tg_s hr
  obtain ⟨hm, hw⟩ := hK _ _ _ hr
  refine ⟨hm, fun ls H locs hl hH hS hvL hvS h1 h2 => ?_⟩
  have ha : i64_ a := ov_hd hvS
  have k2 := hw ls H locs hl hH hS hvL (ov_cs (w32_in _) (ov_tl hvS)) h1 h2
  rw [List.map_cons] at k2
  exact lv_l2i X.1 X.2.1 hd (n64_l2i ha) k2
theorem ok_i2b : ok_ mt own FR LO nL ini ret rt lpc pc .i2b 1 (i_op1 0 0 (fun a => w8_ a)) := by
  intro p l e R s m args below meth c G cc h0 r C J K X hd hC hJ hK L st h hr
  obtain ⟨t1, a, u, rfl, hr⟩ := s1_s hr
  obtain ⟨rfl, hr⟩ := tg_s hr
  obtain ⟨hm, hw⟩ := hK _ _ _ hr
  refine ⟨hm, fun ls H locs hl hH hS hvL hvS h1 h2 => ?_⟩
  have ha : i32_ a := ov_hd hvS
  have k2 := hw ls H locs hl hH hS hvL (ov_cs (w8_in _) (ov_tl hvS)) h1 h2
  rw [List.map_cons] at k2
  exact lv_i2b X.1 X.2.1 hd (n32_i2b a) k2
theorem nb_1 {t : Nat} (h : (!Nat.beq t 1) = true) : t ≠ 1 := fun q => by rw [q] at h; cases h
theorem ok_dup : ok_ mt own FR LO nL ini ret rt lpc pc .dup 1 i_dup := by
  intro p l e R s m args below meth c G cc h0 r C J K X hd hC hJ hK L st h hr
  obtain ⟨t, x, u, rfl, hr⟩ := s1_s hr
  obtain ⟨hb, hr⟩ := bl_s hr
  obtain ⟨hm, hw⟩ := hK _ _ _ hr
  exact ⟨hm, fun ls H locs hl hH hS hvL hvS h1 h2 => lv_dup X.1 X.2.1 hd (cat_1 (nb_1 hb) (fun _ => X.2.2.2.2.2.1.2.1)) (hw ls H locs hl hH hS hvL (ov_cs (ov_hd hvS) hvS) h1 h2)⟩
theorem ok_pop : ok_ mt own FR LO nL ini ret rt lpc pc .pop 1 i_pop := by
  intro p l e R s m args below meth c G cc h0 r C J K X hd hC hJ hK L st h hr
  obtain ⟨t, x, u, rfl, hr⟩ := s1_s hr
  obtain ⟨hb, hr⟩ := bl_s hr
  obtain ⟨hm, hw⟩ := hK _ _ _ hr
  exact ⟨hm, fun ls H locs hl hH hS hvL hvS h1 h2 => lv_pop X.1 X.2.1 hd (cat_1 (nb_1 hb) (fun _ => X.2.2.2.2.2.1.2.1)) (hw ls H locs hl hH hS hvL (ov_tl hvS) h1 h2)⟩
theorem ok_dup2 : ok_ mt own FR LO nL ini ret rt lpc pc .dup2 1 i_dup2 := by
  intro p l e R s m args below meth c G cc h0 r C J K X hd hC hJ hK L st h hr
  obtain ⟨t, x, u, rfl, hq⟩ := s1_s hr
  obtain ⟨t', x', u, rfl, hr⟩ := s1_s hq
  obtain ⟨hb, hr⟩ := bl_s hr
  obtain ⟨hb', hr⟩ := bl_s hr
  obtain ⟨hm, hw⟩ := hK _ _ _ hr
  exact ⟨hm, fun ls H locs hl hH hS hvL hvS h1 h2 => lv_dup2_11 X.1 X.2.1 hd (cat_1 (nb_1 hb) (fun _ => X.2.2.2.2.2.1.2.1)) (cat_1 (nb_1 hb') (fun _ => X.2.2.2.2.2.1.2.1)) (hw ls H locs hl hH hS hvL (ov_cs (ov_hd hvS) (ov_cs (ov_hd (ov_tl hvS)) hvS)) h1 h2)⟩
theorem ok_if_eq {b1 b2 : Nat} {off : Int} (ht : (pc : Int) + off = (lpc b1 : Int)) (hf : lpc b2 = pc + 3) : ok_ mt own FR LO nL ini ret rt lpc pc (.ifCond .eq off) 3 (i_if1 (fun a => a = 0) b1 b2) := by
  intro p l e R s m args below meth c G cc h0 r C J K X hd hC hJ hK L st h hr
  obtain ⟨t, a, u, rfl, hr⟩ := s1_s hr
  obtain ⟨rfl, hr⟩ := tg_s hr
  by_cases hc : a = 0
  · rw [if_pos hc] at hr
    obtain ⟨hm, hw⟩ := hJ _ _ _ _ hr
    refine ⟨hm, fun ls H locs hl hH hS hvL hvS h1 h2 => ?_⟩
    have ha : i32_ a := ov_hd hvS
    exact lv_if_eq X.1 X.2.1 hd ht (fun _ => hw ls H locs hl hH hS hvL (ov_tl hvS) h1 h2) (fun z => absurd ((n32_eq ha i32_0).mpr hc) (z))
  · rw [if_neg hc] at hr
    obtain ⟨hm, hw⟩ := hJ _ _ _ _ hr
    refine ⟨hm, fun ls H locs hl hH hS hvL hvS h1 h2 => ?_⟩
    have ha : i32_ a := ov_hd hvS
    have k2 := hw ls H locs hl hH hS hvL (ov_tl hvS) h1 h2
    rw [hf] at k2
    exact lv_if_eq X.1 X.2.1 hd ht (fun z => absurd ((n32_eq ha i32_0).mp z) hc) (fun _ => k2)
theorem ok_if_ne {b1 b2 : Nat} {off : Int} (ht : (pc : Int) + off = (lpc b1 : Int)) (hf : lpc b2 = pc + 3) : ok_ mt own FR LO nL ini ret rt lpc pc (.ifCond .ne off) 3 (i_if1 (fun a => a ≠ 0) b1 b2) := by
  intro p l e R s m args below meth c G cc h0 r C J K X hd hC hJ hK L st h hr
  obtain ⟨t, a, u, rfl, hr⟩ := s1_s hr
  obtain ⟨rfl, hr⟩ := tg_s hr
  by_cases hc : a ≠ 0
  · rw [if_pos hc] at hr
    obtain ⟨hm, hw⟩ := hJ _ _ _ _ hr
    refine ⟨hm, fun ls H locs hl hH hS hvL hvS h1 h2 => ?_⟩
    have ha : i32_ a := ov_hd hvS
    exact lv_if_ne X.1 X.2.1 hd ht (fun _ => hw ls H locs hl hH hS hvL (ov_tl hvS) h1 h2) (fun z => absurd ((not_congr (n32_eq ha i32_0)).mpr hc) (not_not_intro z))
  · rw [if_neg hc] at hr
    obtain ⟨hm, hw⟩ := hJ _ _ _ _ hr
    refine ⟨hm, fun ls H locs hl hH hS hvL hvS h1 h2 => ?_⟩
    have ha : i32_ a := ov_hd hvS
    have k2 := hw ls H locs hl hH hS hvL (ov_tl hvS) h1 h2
    rw [hf] at k2
    exact lv_if_ne X.1 X.2.1 hd ht (fun z => absurd ((not_congr (n32_eq ha i32_0)).mp z) hc) (fun _ => k2)
theorem ok_if_lt {b1 b2 : Nat} {off : Int} (ht : (pc : Int) + off = (lpc b1 : Int)) (hf : lpc b2 = pc + 3) : ok_ mt own FR LO nL ini ret rt lpc pc (.ifCond .lt off) 3 (i_if1 (fun a => a < 0) b1 b2) := by
  intro p l e R s m args below meth c G cc h0 r C J K X hd hC hJ hK L st h hr
  obtain ⟨t, a, u, rfl, hr⟩ := s1_s hr
  obtain ⟨rfl, hr⟩ := tg_s hr
  by_cases hc : a < 0
  · rw [if_pos hc] at hr
    obtain ⟨hm, hw⟩ := hJ _ _ _ _ hr
    refine ⟨hm, fun ls H locs hl hH hS hvL hvS h1 h2 => ?_⟩
    have ha : i32_ a := ov_hd hvS
    exact lv_if_lt X.1 X.2.1 hd ht (fun _ => hw ls H locs hl hH hS hvL (ov_tl hvS) h1 h2) (fun z => absurd ((n32_lt ha i32_0).mpr hc) (z))
  · rw [if_neg hc] at hr
    obtain ⟨hm, hw⟩ := hJ _ _ _ _ hr
    refine ⟨hm, fun ls H locs hl hH hS hvL hvS h1 h2 => ?_⟩
    have ha : i32_ a := ov_hd hvS
    have k2 := hw ls H locs hl hH hS hvL (ov_tl hvS) h1 h2
    rw [hf] at k2
    exact lv_if_lt X.1 X.2.1 hd ht (fun z => absurd ((n32_lt ha i32_0).mp z) hc) (fun _ => k2)
theorem ok_if_ge {b1 b2 : Nat} {off : Int} (ht : (pc : Int) + off = (lpc b1 : Int)) (hf : lpc b2 = pc + 3) : ok_ mt own FR LO nL ini ret rt lpc pc (.ifCond .ge off) 3 (i_if1 (fun a => 0 ≤ a) b1 b2) := by
  intro p l e R s m args below meth c G cc h0 r C J K X hd hC hJ hK L st h hr
  obtain ⟨t, a, u, rfl, hr⟩ := s1_s hr
  obtain ⟨rfl, hr⟩ := tg_s hr
  by_cases hc : 0 ≤ a
  · rw [if_pos hc] at hr
    obtain ⟨hm, hw⟩ := hJ _ _ _ _ hr
    refine ⟨hm, fun ls H locs hl hH hS hvL hvS h1 h2 => ?_⟩
    have ha : i32_ a := ov_hd hvS
    exact lv_if_ge X.1 X.2.1 hd ht (fun _ => hw ls H locs hl hH hS hvL (ov_tl hvS) h1 h2) (fun z => absurd ((n32_le i32_0 ha).mpr hc) (z))
  · rw [if_neg hc] at hr
    obtain ⟨hm, hw⟩ := hJ _ _ _ _ hr
    refine ⟨hm, fun ls H locs hl hH hS hvL hvS h1 h2 => ?_⟩
    have ha : i32_ a := ov_hd hvS
    have k2 := hw ls H locs hl hH hS hvL (ov_tl hvS) h1 h2
    rw [hf] at k2
    exact lv_if_ge X.1 X.2.1 hd ht (fun z => absurd ((n32_le i32_0 ha).mp z) hc) (fun _ => k2)
theorem ok_if_gt {b1 b2 : Nat} {off : Int} (ht : (pc : Int) + off = (lpc b1 : Int)) (hf : lpc b2 = pc + 3) : ok_ mt own FR LO nL ini ret rt lpc pc (.ifCond .gt off) 3 (i_if1 (fun a => 0 < a) b1 b2) := by
  intro p l e R s m args below meth c G cc h0 r C J K X hd hC hJ hK L st h hr
  obtain ⟨t, a, u, rfl, hr⟩ := s1_s hr
  obtain ⟨rfl, hr⟩ := tg_s hr
  by_cases hc : 0 < a
  · rw [if_pos hc] at hr
    obtain ⟨hm, hw⟩ := hJ _ _ _ _ hr
    refine ⟨hm, fun ls H locs hl hH hS hvL hvS h1 h2 => ?_⟩
    have ha : i32_ a := ov_hd hvS
    exact lv_if_gt X.1 X.2.1 hd ht (fun _ => hw ls H locs hl hH hS hvL (ov_tl hvS) h1 h2) (fun z => absurd ((n32_lt i32_0 ha).mpr hc) (z))
  · rw [if_neg hc] at hr
    obtain ⟨hm, hw⟩ := hJ _ _ _ _ hr
    refine ⟨hm, fun ls H locs hl hH hS hvL hvS h1 h2 => ?_⟩
    have ha : i32_ a := ov_hd hvS
    have k2 := hw ls H locs hl hH hS hvL (ov_tl hvS) h1 h2
    rw [hf] at k2
    exact lv_if_gt X.1 X.2.1 hd ht (fun z => absurd ((n32_lt i32_0 ha).mp z) hc) (fun _ => k2)
theorem ok_if_le {b1 b2 : Nat} {off : Int} (ht : (pc : Int) + off = (lpc b1 : Int)) (hf : lpc b2 = pc + 3) : ok_ mt own FR LO nL ini ret rt lpc pc (.ifCond .le off) 3 (i_if1 (fun a => a ≤ 0) b1 b2) := by
  intro p l e R s m args below meth c G cc h0 r C J K X hd hC hJ hK L st h hr
  obtain ⟨t, a, u, rfl, hr⟩ := s1_s hr
  obtain ⟨rfl, hr⟩ := tg_s hr
  by_cases hc : a ≤ 0
  · rw [if_pos hc] at hr
    obtain ⟨hm, hw⟩ := hJ _ _ _ _ hr
    refine ⟨hm, fun ls H locs hl hH hS hvL hvS h1 h2 => ?_⟩
    have ha : i32_ a := ov_hd hvS
    exact lv_if_le X.1 X.2.1 hd ht (fun _ => hw ls H locs hl hH hS hvL (ov_tl hvS) h1 h2) (fun z => absurd ((n32_le ha i32_0).mpr hc) (z))
  · rw [if_neg hc] at hr
    obtain ⟨hm, hw⟩ := hJ _ _ _ _ hr
    refine ⟨hm, fun ls H locs hl hH hS hvL hvS h1 h2 => ?_⟩
    have ha : i32_ a := ov_hd hvS
    have k2 := hw ls H locs hl hH hS hvL (ov_tl hvS) h1 h2
    rw [hf] at k2
    exact lv_if_le X.1 X.2.1 hd ht (fun z => absurd ((n32_le ha i32_0).mp z) hc) (fun _ => k2)
theorem ok_icmp_eq {b1 b2 : Nat} {off : Int} (ht : (pc : Int) + off = (lpc b1 : Int)) (hf : lpc b2 = pc + 3) : ok_ mt own FR LO nL ini ret rt lpc pc (.if_icmp .eq off) 3 (i_if2 (fun a b => a = b) b1 b2) := by
  intro p l e R s m args below meth c G cc h0 r C J K X hd hC hJ hK L st h hr
  obtain ⟨t2, b, u, rfl, hq⟩ := s1_s hr
  obtain ⟨t1, a, u, rfl, hr⟩ := s1_s hq
  obtain ⟨rfl, hr⟩ := tg_s hr
  obtain ⟨rfl, hr⟩ := tg_s hr
  by_cases hc : a = b
  · rw [if_pos hc] at hr
    obtain ⟨hm, hw⟩ := hJ _ _ _ _ hr
    refine ⟨hm, fun ls H locs hl hH hS hvL hvS h1 h2 => ?_⟩
    have hb : i32_ b := ov_hd hvS
    have ha : i32_ a := ov_hd (ov_tl hvS)
    exact lv_icmp_eq X.1 X.2.1 hd ht (fun _ => hw ls H locs hl hH hS hvL (ov_tl (ov_tl hvS)) h1 h2) (fun z => absurd ((n32_eq ha hb).mpr hc) (z))
  · rw [if_neg hc] at hr
    obtain ⟨hm, hw⟩ := hJ _ _ _ _ hr
    refine ⟨hm, fun ls H locs hl hH hS hvL hvS h1 h2 => ?_⟩
    have hb : i32_ b := ov_hd hvS
    have ha : i32_ a := ov_hd (ov_tl hvS)
    have k2 := hw ls H locs hl hH hS hvL (ov_tl (ov_tl hvS)) h1 h2
    rw [hf] at k2
    exact lv_icmp_eq X.1 X.2.1 hd ht (fun z => absurd ((n32_eq ha hb).mp z) hc) (fun _ => k2)
theorem ok_icmp_ne {b1 b2 : Nat} {off : Int} (ht : (pc : Int) + off = (lpc b1 : Int)) (hf : lpc b2 = pc + 3) : ok_ mt own FR LO nL ini ret rt lpc pc (.if_icmp .ne off) 3 (i_if2 (fun a b => a ≠ b) b1 b2) := by
  intro p l e R s m args below meth c G cc h0 r C J K X hd hC hJ hK L st h hr
  obtain ⟨t2, b, u, rfl, hq⟩ := s1_s hr
  obtain ⟨t1, a, u, rfl, hr⟩ := s1_s hq
  obtain ⟨rfl, hr⟩ := tg_s hr
  obtain ⟨rfl, hr⟩ := tg_s hr
  by_cases hc : a ≠ b
  · rw [if_pos hc] at hr
    obtain ⟨hm, hw⟩ := hJ _ _ _ _ hr
    refine ⟨hm, fun ls H locs hl hH hS hvL hvS h1 h2 => ?_⟩
    have hb : i32_ b := ov_hd hvS
    have ha : i32_ a := ov_hd (ov_tl hvS)
    exact lv_icmp_ne X.1 X.2.1 hd ht (fun _ => hw ls H locs hl hH hS hvL (ov_tl (ov_tl hvS)) h1 h2) (fun z => absurd ((not_congr (n32_eq ha hb)).mpr hc) (not_not_intro z))
  · rw [if_neg hc] at hr
    obtain ⟨hm, hw⟩ := hJ _ _ _ _ hr
    refine ⟨hm, fun ls H locs hl hH hS hvL hvS h1 h2 => ?_⟩
    have hb : i32_ b := ov_hd hvS
    have ha : i32_ a := ov_hd (ov_tl hvS)
    have k2 := hw ls H locs hl hH hS hvL (ov_tl (ov_tl hvS)) h1 h2
    rw [hf] at k2
    exact lv_icmp_ne X.1 X.2.1 hd ht (fun z => absurd ((not_congr (n32_eq ha hb)).mp z) hc) (fun _ => k2)
theorem ok_icmp_lt {b1 b2 : Nat} {off : Int} (ht : (pc : Int) + off = (lpc b1 : Int)) (hf : lpc b2 = pc + 3) : ok_ mt own FR LO nL ini ret rt lpc pc (.if_icmp .lt off) 3 (i_if2 (fun a b => a < b) b1 b2) := by
  intro p l e R s m args below meth c G cc h0 r C J K X hd hC hJ hK L st h hr
  obtain ⟨t2, b, u, rfl, hq⟩ := s1_s hr
  obtain ⟨t1, a, u, rfl, hr⟩ := s1_s hq
  obtain ⟨rfl, hr⟩ := tg_s hr
  obtain ⟨rfl, hr⟩ := tg_s hr
  by_cases hc : a < b
  · rw [if_pos hc] at hr
    obtain ⟨hm, hw⟩ := hJ _ _ _ _ hr
    refine ⟨hm, fun ls H locs hl hH hS hvL hvS h1 h2 => ?_⟩
    have hb : i32_ b := ov_hd hvS
    have ha : i32_ a := ov_hd (ov_tl hvS)
    exact lv_icmp_lt X.1 X.2.1 hd ht (fun _ => hw ls H locs hl hH hS hvL (ov_tl (ov_tl hvS)) h1 h2) (fun z => absurd ((n32_lt ha hb).mpr hc) (z))
  · rw [if_neg hc] at hr
    obtain ⟨hm, hw⟩ := hJ _ _ _ _ hr
    refine ⟨hm, fun ls H locs hl hH hS hvL hvS h1 h2 => ?_⟩
    have hb : i32_ b := ov_hd hvS
    have ha : i32_ a := ov_hd (ov_tl hvS)
    have k2 := hw ls H locs hl hH hS hvL (ov_tl (ov_tl hvS)) h1 h2
    rw [hf] at k2
    exact lv_icmp_lt X.1 X.2.1 hd ht (fun z => absurd ((n32_lt ha hb).mp z) hc) (fun _ => k2)
theorem ok_icmp_ge {b1 b2 : Nat} {off : Int} (ht : (pc : Int) + off = (lpc b1 : Int)) (hf : lpc b2 = pc + 3) : ok_ mt own FR LO nL ini ret rt lpc pc (.if_icmp .ge off) 3 (i_if2 (fun a b => b ≤ a) b1 b2) := by
  intro p l e R s m args below meth c G cc h0 r C J K X hd hC hJ hK L st h hr
  obtain ⟨t2, b, u, rfl, hq⟩ := s1_s hr
  obtain ⟨t1, a, u, rfl, hr⟩ := s1_s hq
  obtain ⟨rfl, hr⟩ := tg_s hr
  obtain ⟨rfl, hr⟩ := tg_s hr
  by_cases hc : b ≤ a
  · rw [if_pos hc] at hr
    obtain ⟨hm, hw⟩ := hJ _ _ _ _ hr
    refine ⟨hm, fun ls H locs hl hH hS hvL hvS h1 h2 => ?_⟩
    have hb : i32_ b := ov_hd hvS
    have ha : i32_ a := ov_hd (ov_tl hvS)
    exact lv_icmp_ge X.1 X.2.1 hd ht (fun _ => hw ls H locs hl hH hS hvL (ov_tl (ov_tl hvS)) h1 h2) (fun z => absurd ((n32_le hb ha).mpr hc) (z))
  · rw [if_neg hc] at hr
    obtain ⟨hm, hw⟩ := hJ _ _ _ _ hr
    refine ⟨hm, fun ls H locs hl hH hS hvL hvS h1 h2 => ?_⟩
    have hb : i32_ b := ov_hd hvS
    have ha : i32_ a := ov_hd (ov_tl hvS)
    have k2 := hw ls H locs hl hH hS hvL (ov_tl (ov_tl hvS)) h1 h2
    rw [hf] at k2
    exact lv_icmp_ge X.1 X.2.1 hd ht (fun z => absurd ((n32_le hb ha).mp z) hc) (fun _ => k2)
theorem ok_icmp_gt {b1 b2 : Nat} {off : Int} (ht : (pc : Int) + off = (lpc b1 : Int)) (hf : lpc b2 = pc + 3) : ok_ mt own FR LO nL ini ret rt lpc pc (.if_icmp .gt off) 3 (i_if2 (fun a b => b < a) b1 b2) := by
  intro p l e R s m args below meth c G cc h0 r C J K X hd hC hJ hK L st h hr
  obtain ⟨t2, b, u, rfl, hq⟩ := s1_s hr
  obtain ⟨t1, a, u, rfl, hr⟩ := s1_s hq
  obtain ⟨rfl, hr⟩ := tg_s hr
  obtain ⟨rfl, hr⟩ := tg_s hr
  by_cases hc : b < a
  · rw [if_pos hc] at hr
    obtain ⟨hm, hw⟩ := hJ _ _ _ _ hr
    refine ⟨hm, fun ls H locs hl hH hS hvL hvS h1 h2 => ?_⟩
    have hb : i32_ b := ov_hd hvS
    have ha : i32_ a := ov_hd (ov_tl hvS)
    exact lv_icmp_gt X.1 X.2.1 hd ht (fun _ => hw ls H locs hl hH hS hvL (ov_tl (ov_tl hvS)) h1 h2) (fun z => absurd ((n32_lt hb ha).mpr hc) (z))
  · rw [if_neg hc] at hr
    obtain ⟨hm, hw⟩ := hJ _ _ _ _ hr
    refine ⟨hm, fun ls H locs hl hH hS hvL hvS h1 h2 => ?_⟩
    have hb : i32_ b := ov_hd hvS
    have ha : i32_ a := ov_hd (ov_tl hvS)
    have k2 := hw ls H locs hl hH hS hvL (ov_tl (ov_tl hvS)) h1 h2
    rw [hf] at k2
    exact lv_icmp_gt X.1 X.2.1 hd ht (fun z => absurd ((n32_lt hb ha).mp z) hc) (fun _ => k2)
theorem ok_icmp_le {b1 b2 : Nat} {off : Int} (ht : (pc : Int) + off = (lpc b1 : Int)) (hf : lpc b2 = pc + 3) : ok_ mt own FR LO nL ini ret rt lpc pc (.if_icmp .le off) 3 (i_if2 (fun a b => a ≤ b) b1 b2) := by
  intro p l e R s m args below meth c G cc h0 r C J K X hd hC hJ hK L st h hr
  obtain ⟨t2, b, u, rfl, hq⟩ := s1_s hr
  obtain ⟨t1, a, u, rfl, hr⟩ := s1_s hq
  obtain ⟨rfl, hr⟩ := tg_s hr
  obtain ⟨rfl, hr⟩ := tg_s hr
  by_cases hc : a ≤ b
  · rw [if_pos hc] at hr
    obtain ⟨hm, hw⟩ := hJ _ _ _ _ hr
    refine ⟨hm, fun ls H locs hl hH hS hvL hvS h1 h2 => ?_⟩
    have hb : i32_ b := ov_hd hvS
    have ha : i32_ a := ov_hd (ov_tl hvS)
    exact lv_icmp_le X.1 X.2.1 hd ht (fun _ => hw ls H locs hl hH hS hvL (ov_tl (ov_tl hvS)) h1 h2) (fun z => absurd ((n32_le ha hb).mpr hc) (z))
  · rw [if_neg hc] at hr
    obtain ⟨hm, hw⟩ := hJ _ _ _ _ hr
    refine ⟨hm, fun ls H locs hl hH hS hvL hvS h1 h2 => ?_⟩
    have hb : i32_ b := ov_hd hvS
    have ha : i32_ a := ov_hd (ov_tl hvS)
    have k2 := hw ls H locs hl hH hS hvL (ov_tl (ov_tl hvS)) h1 h2
    rw [hf] at k2
    exact lv_icmp_le X.1 X.2.1 hd ht (fun z => absurd ((n32_le ha hb).mp z) hc) (fun _ => k2)
theorem cv_10 {G : am_G} {t : Nat} (h : 10 ≤ t) (x : Int) : cv_ G (t, x) = if x < 0 then .null else .ref (G.2.1 + x.toNat) := by
  obtain ⟨n, rfl⟩ := Nat.exists_eq_add_of_le' h
  rfl
theorem ok_ifnull {b1 b2 : Nat} {off : Int} (ht : (pc : Int) + off = (lpc b1 : Int)) (hf : lpc b2 = pc + 3) : ok_ mt own FR LO nL ini ret rt lpc pc (.ifnull off) 3 (i_ifn b1 b2) := by
  intro p l e R s m args below meth c G cc h0 r C J K X hd hC hJ hK L st h hr
  obtain ⟨t, a, u, rfl, hr⟩ := s1_s hr
  obtain ⟨hb, hr⟩ := bl_s hr
  have hb : 10 ≤ t := Nat.le_of_ble_eq_true hb
  by_cases hc : a < 0
  · rw [if_pos hc] at hr
    obtain ⟨hm, hw⟩ := hJ _ _ _ _ hr
    refine ⟨hm, fun ls H locs hl hH hS hvL hvS h1 h2 => ?_⟩
    have k2 := hw ls H locs hl hH hS hvL (ov_tl hvS) h1 h2
    rw [List.map_cons, cv_10 hb, if_pos hc]
    exact lv_ifnullN X.1 X.2.1 hd ht k2
  · rw [if_neg hc] at hr
    obtain ⟨hm, hw⟩ := hJ _ _ _ _ hr
    refine ⟨hm, fun ls H locs hl hH hS hvL hvS h1 h2 => ?_⟩
    have k2 := hw ls H locs hl hH hS hvL (ov_tl hvS) h1 h2
    rw [List.map_cons, cv_10 hb, if_neg hc]
    rw [hf] at k2
    exact lv_ifnull X.1 X.2.1 hd k2
theorem ok_ifnonnull {b1 b2 : Nat} {off : Int} (ht : (pc : Int) + off = (lpc b2 : Int)) (hf : lpc b1 = pc + 3) : ok_ mt own FR LO nL ini ret rt lpc pc (.ifnonnull off) 3 (i_ifn b1 b2) := by
  intro p l e R s m args below meth c G cc h0 r C J K X hd hC hJ hK L st h hr
  obtain ⟨t, a, u, rfl, hr⟩ := s1_s hr
  obtain ⟨hb, hr⟩ := bl_s hr
  have hb : 10 ≤ t := Nat.le_of_ble_eq_true hb
  by_cases hc : a < 0
  · rw [if_pos hc] at hr
    obtain ⟨hm, hw⟩ := hJ _ _ _ _ hr
    refine ⟨hm, fun ls H locs hl hH hS hvL hvS h1 h2 => ?_⟩
    have k2 := hw ls H locs hl hH hS hvL (ov_tl hvS) h1 h2
    rw [List.map_cons, cv_10 hb, if_pos hc]
    rw [hf] at k2
    exact lv_ifnonnullN X.1 X.2.1 hd k2
  · rw [if_neg hc] at hr
    obtain ⟨hm, hw⟩ := hJ _ _ _ _ hr
    refine ⟨hm, fun ls H locs hl hH hS hvL hvS h1 h2 => ?_⟩
    have k2 := hw ls H locs hl hH hS hvL (ov_tl hvS) h1 h2
    rw [List.map_cons, cv_10 hb, if_neg hc]
    exact lv_ifnonnull X.1 X.2.1 hd ht k2
theorem sw_s {j : Nat → am_O} {d : Nat} {x : Int} {r : am_H × Int} : ∀ {qs : List (Int × Nat)}, sw_ j d x qs = some r → (∃ (i : Nat) (q : Int × Nat), qs[i]? = some q ∧ x = q.1 ∧ j q.2 = some r) ∨ ((∀ q : Int × Nat, q ∈ qs → x ≠ q.1) ∧ j d = some r) := by
  intro qs
  induction qs with
  | nil => intro h; exact Or.inr ⟨fun q hq => absurd hq List.not_mem_nil, h⟩
  | cons q qs ih =>
    intro h
    unfold sw_ at h
    by_cases hx : x = q.1
    · rw [if_pos hx] at h
      exact Or.inl ⟨0, q, rfl, hx, h⟩
    · rw [if_neg hx] at h
      rcases ih h with ⟨i, q', h1, h2, h3⟩ | ⟨h1, h2⟩
      · exact Or.inl ⟨i + 1, q', h1, h2, h3⟩
      · exact Or.inr ⟨fun z hz => (List.mem_cons.mp hz).elim (fun e => e ▸ hx) (h1 z), h2⟩
theorem ok_tsw {d : Nat} {qs : List (Int × Nat)} {dflt lo hi : Int} {offs : Array Int} {len : Nat} (hd0 : (pc : Int) + dflt = (lpc d : Int)) (hlen : qs.length = (hi - lo + 1).toNat) (hle2 : offs.toList.length = qs.length)
    (hz : ((qs.zip offs.toList).zipIdx).all (fun z => decide (z.1.1.1 = lo + (z.2 : Int)) && decide ((pc : Int) + z.1.2 = (lpc z.1.1.2 : Int))) = true) : ok_ mt own FR LO nL ini ret rt lpc pc (.tableswitch dflt lo hi offs) len (i_sw d qs) := by
  intro p l e R s m args below meth c G cc h0 r C J K X hd hC hJ hK L st h hr
  obtain ⟨t, x, u, rfl, hr⟩ := s1_s hr
  obtain ⟨rfl, hr⟩ := tg_s hr
  have hz2 : ∀ (i : Nat) (q : Int × Nat), qs[i]? = some q → ∃ o, offs[i]? = some o ∧ q.1 = lo + (i : Int) ∧ (pc : Int) + o = (lpc q.2 : Int) := by
    intro i q hq
    have hi1 : i < qs.length := (List.getElem?_eq_some_iff.mp hq).1
    have hi2 : i < offs.toList.length := by omega
    have ho : offs.toList[i]? = some offs.toList[i] := List.getElem?_eq_getElem hi2
    have hm : ((q, offs.toList[i]), i) ∈ (qs.zip offs.toList).zipIdx := by
      rw [List.mem_zipIdx_iff_getElem?]
      show (qs.zip offs.toList)[i]? = some (q, offs.toList[i])
      rw [List.getElem?_zip_eq_some]
      exact ⟨hq, ho⟩
    have h1 := List.all_eq_true.mp hz _ hm
    rw [Bool.and_eq_true] at h1
    exact ⟨_, by rw [← Array.getElem?_toList]; exact ho, of_decide_eq_true h1.1, of_decide_eq_true h1.2⟩
  rcases sw_s hr with ⟨i, q, h1, h2, h3⟩ | ⟨h1, h2⟩
  · obtain ⟨hm, hw⟩ := hJ _ _ _ _ h3
    refine ⟨hm, fun ls H locs hl hH hS hvL hvS h4 h5 => ?_⟩
    have hx : i32_ x := ov_hd hvS
    obtain ⟨o, ho1, hq1, h6⟩ := hz2 i q h1
    have hlt : i < qs.length := (List.getElem?_eq_some_iff.mp h1).1
    refine lv_tableIn X.1 X.2.1 hd (x := Int32.ofInt x) (off := o) ?_ ?_ ?_ h6 (hw ls H locs hl hH hS hvL (ov_tl hvS) h4 h5)
    · rw [i32_ti hx]; omega
    · rw [i32_ti hx]; omega
    · rw [i32_ti hx, show (x - lo).toNat = i by omega]; exact ho1
  · obtain ⟨hm, hw⟩ := hJ _ _ _ _ h2
    refine ⟨hm, fun ls H locs hl hH hS hvL hvS h4 h5 => ?_⟩
    have hx : i32_ x := ov_hd hvS
    refine lv_tableOut X.1 X.2.1 hd (x := Int32.ofInt x) ?_ hd0 (hw ls H locs hl hH hS hvL (ov_tl hvS) h4 h5)
    rw [i32_ti hx]
    rcases Int.lt_or_le x lo with z | z
    · exact Or.inl z
    · rcases Int.lt_or_le hi x with y | y
      · exact Or.inr y
      · exfalso
        have hi2 : (x - lo).toNat < qs.length := by omega
        have h7 : qs[(x - lo).toNat]? = some qs[(x - lo).toNat] := List.getElem?_eq_getElem hi2
        obtain ⟨o, -, hq1, -⟩ := hz2 _ _ h7
        exact h1 _ (List.getElem_mem hi2) (by rw [hq1]; omega)
theorem ok_lsw {d : Nat} {qs : List (Int × Nat)} {dflt : Int} {ps : Array (Int × Int)} {len : Nat} (hp : (ps.toList.zip (ps.toList.drop 1)).all (fun (a, next) => a.1 < next.1) = true)
    (hall : ∀ x : Int, ∃ off tgt, Op.lookupswitch.offset ps.toList dflt x = off ∧ (pc : Int) + off = (lpc tgt : Int) ∧ ∀ j : Nat → am_O, sw_ j d x qs = j tgt) : ok_ mt own FR LO nL ini ret rt lpc pc (.lookupswitch dflt ps) len (i_sw d qs) := by
  intro p l e R s m args below meth c G cc h0 r C J K X hd hC hJ hK L st h hr
  obtain ⟨t, x, u, rfl, hr⟩ := s1_s hr
  obtain ⟨rfl, hr⟩ := tg_s hr
  obtain ⟨off, tgt, h1, h2, h3⟩ := hall x
  rw [h3] at hr
  obtain ⟨hm, hw⟩ := hJ _ _ _ _ hr
  refine ⟨hm, fun ls H locs hl hH hS hvL hvS h4 h5 => ?_⟩
  have hx : i32_ x := ov_hd hvS
  exact lv_lookup X.1 X.2.1 hd (x := Int32.ofInt x) hp (by rw [i32_ti hx]; exact h1) h2 (hw ls H locs hl hH hS hvL (ov_tl hvS) h4 h5)
end Arith
