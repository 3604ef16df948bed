/-! NUMBERS: Int with a wrap beside the machine's Int32 and Int64 -/
theorem w32_b (x : Int) : w32 x = Int.bmod x (2 ^ 32) := by unfold w32 Int.bmod; simp only [show ((2 ^ 32 : Nat) : Int) = 4294967296 from rfl]; split <;> omega
theorem w64_b (x : Int) : w64 x = Int.bmod x (2 ^ 64) := by unfold w64 Int.bmod; simp only [show ((2 ^ 64 : Nat) : Int) = 18446744073709551616 from rfl]; split <;> omega
theorem w8_b (x : Int) : w8_ x = Int.bmod x (2 ^ 8) := by unfold w8_ Int.bmod; simp only [show ((2 ^ 8 : Nat) : Int) = 256 from rfl]; split <;> omega
theorem w32_id {x : Int} (h : i32_ x) : w32 x = x := by obtain ⟨h1, h2⟩ := h; unfold w32; omega
theorem w64_id {x : Int} (h : i64_ x) : w64 x = x := by obtain ⟨h1, h2⟩ := h; unfold w64; omega
theorem w32_in (x : Int) : i32_ (w32 x) := by unfold i32_ w32; omega
theorem w64_in (x : Int) : i64_ (w64 x) := by unfold i64_ w64; omega
theorem w8_in (x : Int) : i32_ (w8_ x) := by unfold i32_ w8_; omega
theorem i32_t (a : Int) : (Int32.ofInt a).toInt = w32 a := by rw [Int32.toInt_ofInt, w32_b]
theorem i64_t (a : Int) : (Int64.ofInt a).toInt = w64 a := by rw [Int64.toInt_ofInt, w64_b]
theorem i32_ti {a : Int} (h : i32_ a) : (Int32.ofInt a).toInt = a := by rw [i32_t, w32_id h]
theorem i64_ti {a : Int} (h : i64_ a) : (Int64.ofInt a).toInt = a := by rw [i64_t, w64_id h]
theorem n32_add (a b : Int) : Int32.ofInt a + Int32.ofInt b = Int32.ofInt (w32 (a + b)) := by
  apply Int32.toInt_inj.mp; rw [Int32.toInt_add, ← w32_b, i32_t, i32_t, i32_t]; unfold w32; omega
theorem n32_sub (a b : Int) : Int32.ofInt a - Int32.ofInt b = Int32.ofInt (w32 (a - b)) := by
  apply Int32.toInt_inj.mp; rw [Int32.toInt_sub, ← w32_b, i32_t, i32_t, i32_t]; unfold w32; omega
theorem n32_neg (a : Int) : -Int32.ofInt a = Int32.ofInt (w32 (-a)) := by
  apply Int32.toInt_inj.mp; rw [Int32.toInt_neg, ← w32_b, i32_t, i32_t]; unfold w32; omega
theorem n32_mul {a b : Int} (ha : i32_ a) (hb : i32_ b) : Int32.ofInt a * Int32.ofInt b = Int32.ofInt (w32 (a * b)) := by
  apply Int32.toInt_inj.mp; rw [Int32.toInt_mul, ← w32_b, i32_ti ha, i32_ti hb, i32_ti (w32_in _)]
theorem n64_add (a b : Int) : Int64.ofInt a + Int64.ofInt b = Int64.ofInt (w64 (a + b)) := by
  apply Int64.toInt_inj.mp; rw [Int64.toInt_add, ← w64_b, i64_t, i64_t, i64_t]; unfold w64; omega
theorem n64_sub (a b : Int) : Int64.ofInt a - Int64.ofInt b = Int64.ofInt (w64 (a - b)) := by
  apply Int64.toInt_inj.mp; rw [Int64.toInt_sub, ← w64_b, i64_t, i64_t, i64_t]; unfold w64; omega
theorem n64_neg (a : Int) : -Int64.ofInt a = Int64.ofInt (w64 (-a)) := by
  apply Int64.toInt_inj.mp; rw [Int64.toInt_neg, ← w64_b, i64_t, i64_t]; unfold w64; omega
theorem n64_mul {a b : Int} (ha : i64_ a) (hb : i64_ b) : Int64.ofInt a * Int64.ofInt b = Int64.ofInt (w64 (a * b)) := by
  apply Int64.toInt_inj.mp; rw [Int64.toInt_mul, ← w64_b, i64_ti ha, i64_ti hb, i64_ti (w64_in _)]
theorem n32_lt {a b : Int} (ha : i32_ a) (hb : i32_ b) : Int32.ofInt a < Int32.ofInt b ↔ a < b := by rw [Int32.lt_iff_toInt_lt, i32_ti ha, i32_ti hb]
theorem n32_le {a b : Int} (ha : i32_ a) (hb : i32_ b) : Int32.ofInt a ≤ Int32.ofInt b ↔ a ≤ b := by rw [Int32.le_iff_toInt_le, i32_ti ha, i32_ti hb]
theorem n32_eq {a b : Int} (ha : i32_ a) (hb : i32_ b) : Int32.ofInt a = Int32.ofInt b ↔ a = b := by rw [← Int32.toInt_inj, i32_ti ha, i32_ti hb]
theorem n64_lt {a b : Int} (ha : i64_ a) (hb : i64_ b) : Int64.ofInt a < Int64.ofInt b ↔ a < b := by rw [Int64.lt_iff_toInt_lt, i64_ti ha, i64_ti hb]
theorem n64_eq {a b : Int} (ha : i64_ a) (hb : i64_ b) : Int64.ofInt a = Int64.ofInt b ↔ a = b := by rw [← Int64.toInt_inj, i64_ti ha, i64_ti hb]
theorem i32_0 : i32_ 0 := by unfold i32_; omega
theorem n32_div {a b : Int} (ha : i32_ a) (hb : i32_ b) : Int32.ofInt a / Int32.ofInt b = Int32.ofInt (w32 (Int.tdiv a b)) := by
  apply Int32.toInt_inj.mp; rw [Int32.toInt_div, ← w32_b, i32_ti ha, i32_ti hb, i32_ti (w32_in _)]
theorem n64_div {a b : Int} (ha : i64_ a) (hb : i64_ b) : Int64.ofInt a / Int64.ofInt b = Int64.ofInt (w64 (Int.tdiv a b)) := by
  apply Int64.toInt_inj.mp; rw [Int64.toInt_div, ← w64_b, i64_ti ha, i64_ti hb, i64_ti (w64_in _)]
theorem w32_w (x : Int) : w32 (w32 x) = w32 x := w32_id (w32_in x)
theorem w32_m (x y : Int) : w32 (w32 x * y) = w32 (x * y) := by
  rw [w32_b, w32_b, w32_b, Int.bmod_mul_bmod]
theorem w64_m (x y : Int) : w64 (w64 x * y) = w64 (x * y) := by
  rw [w64_b, w64_b, w64_b, Int.bmod_mul_bmod]
theorem w32_s (x y : Int) : w32 (x - w32 y) = w32 (x - y) := by unfold w32; omega
theorem w64_s (x y : Int) : w64 (x - w64 y) = w64 (x - y) := by unfold w64; omega
theorem tm_32 {a b : Int} (ha : i32_ a) (h0 : b ≠ 0) (hb : i32_ b) : i32_ (Int.tmod a b) := by
  have h1 := Int.natAbs_tmod a b
  have h2 : a.natAbs % b.natAbs < b.natAbs := Nat.mod_lt _ (by omega)
  unfold i32_ at *
  omega
theorem tm_64 {a b : Int} (ha : i64_ a) (h0 : b ≠ 0) (hb : i64_ b) : i64_ (Int.tmod a b) := by
  have h1 := Int.natAbs_tmod a b
  have h2 : a.natAbs % b.natAbs < b.natAbs := Nat.mod_lt _ (by omega)
  unfold i64_ at *
  omega
theorem n32_rem {a b : Int} (ha : i32_ a) (hb : i32_ b) (h0 : b ≠ 0) : Int32.ofInt a - Int32.ofInt a / Int32.ofInt b * Int32.ofInt b = Int32.ofInt (Int.tmod a b) := by
  rw [n32_div ha hb, n32_mul (w32_in _) hb, w32_m, n32_sub, w32_s]
  congr 1
  have := Int.tmod_add_mul_tdiv a b
  rw [show a - Int.tdiv a b * b = Int.tmod a b by rw [Int.mul_comm]; omega]
  exact w32_id (tm_32 ha h0 hb)
theorem n64_rem {a b : Int} (ha : i64_ a) (hb : i64_ b) (h0 : b ≠ 0) : Int64.ofInt a - Int64.ofInt a / Int64.ofInt b * Int64.ofInt b = Int64.ofInt (Int.tmod a b) := by
  rw [n64_div ha hb, n64_mul (w64_in _) hb, w64_m, n64_sub, w64_s]
  congr 1
  have := Int.tmod_add_mul_tdiv a b
  rw [show a - Int.tdiv a b * b = Int.tmod a b by rw [Int.mul_comm]; omega]
  exact w64_id (tm_64 ha h0 hb)
def an_ (a b : Int) : Int := (Int32.ofInt a &&& Int32.ofInt b).toInt
def or_ (a b : Int) : Int := (Int32.ofInt a ||| Int32.ofInt b).toInt
def xo_ (a b : Int) : Int := (Int32.ofInt a ^^^ Int32.ofInt b).toInt
def al_ (a b : Int) : Int := (Int64.ofInt a &&& Int64.ofInt b).toInt
theorem i32_of (x : Int32) : i32_ x.toInt := by
  have h1 := Int32.le_toInt x
  have h2 := Int32.toInt_lt x
  unfold i32_; omega
theorem i64_of (x : Int64) : i64_ x.toInt := by
  have h1 := Int64.le_toInt x
  have h2 := Int64.toInt_lt x
  unfold i64_; omega
theorem n32_and (a b : Int) : Int32.ofInt a &&& Int32.ofInt b = Int32.ofInt (an_ a b) := by unfold an_; rw [Int32.ofInt_toInt]
theorem n32_or (a b : Int) : Int32.ofInt a ||| Int32.ofInt b = Int32.ofInt (or_ a b) := by unfold or_; rw [Int32.ofInt_toInt]
theorem n32_xor (a b : Int) : Int32.ofInt a ^^^ Int32.ofInt b = Int32.ofInt (xo_ a b) := by unfold xo_; rw [Int32.ofInt_toInt]
theorem n64_and (a b : Int) : Int64.ofInt a &&& Int64.ofInt b = Int64.ofInt (al_ a b) := by unfold al_; rw [Int64.ofInt_toInt]
theorem n32_i2b (a : Int) : (Int32.ofInt a).toInt8.toInt32 = Int32.ofInt (w8_ a) := by
  apply Int32.toInt_inj.mp
  rw [Int8.toInt_toInt32, Int32.toInt_toInt8, i32_t, i32_ti (w8_in a), ← w8_b]
  unfold w32 w8_; omega
theorem n32_i2l {a : Int} (ha : i32_ a) : (Int32.ofInt a).toInt64 = Int64.ofInt a := by
  apply Int64.toInt_inj.mp
  rw [Int32.toInt_toInt64, i32_ti ha, i64_ti (by unfold i32_ at ha; unfold i64_; omega)]
theorem n64_l2i {a : Int} (ha : i64_ a) : (Int64.ofInt a).toInt32 = Int32.ofInt (w32 a) := by
  apply Int32.toInt_inj.mp
  rw [Int64.toInt_toInt32, i64_ti ha, i32_ti (w32_in _), w32_b]
theorem n8_of {n : Int} (h1 : -128 ≤ n) (h2 : n < 128) : (Int8.ofInt n).toInt32 = Int32.ofInt n := by
  apply Int32.toInt_inj.mp
  rw [Int8.toInt_toInt32, Int8.toInt_ofInt, i32_ti (by unfold i32_; omega), ← w8_b]
  unfold w8_; omega
theorem n16_of {n : Int} (h1 : -32768 ≤ n) (h2 : n < 32768) : (Int16.ofInt n).toInt32 = Int32.ofInt n := by
  apply Int32.toInt_inj.mp
  rw [Int16.toInt_toInt32, Int16.toInt_ofInt, i32_ti (by unfold i32_; omega)]
  unfold Int.bmod; simp only [show ((2 ^ 16 : Nat) : Int) = 65536 from rfl]; split <;> omega
theorem n32_clamp {i : Int} (h : i32_ i) : (Int32.ofInt i).toNatClampNeg = i.toNat := by
  show (Int32.ofInt i).toInt.toNat = _
  rw [i32_ti h]
theorem n32_in {i : Int} {n : Nat} (h : i32_ i) (h0 : 0 ≤ i) (h1 : i < n) : ¬ (Int32.ofInt i < 0 ∨ n ≤ (Int32.ofInt i).toNatClampNeg) := by
  rw [n32_clamp h]
  rintro (q | q)
  · have := (n32_lt h i32_0).mp q
    omega
  · omega
theorem n64_cmp {a b : Int} (ha : i64_ a) (hb : i64_ b) : lg_cmp (Int64.ofInt a) (Int64.ofInt b) = Int32.ofInt (lcm_ a b) := by
  unfold lg_cmp lcm_
  simp only [gt_iff_lt, n64_lt hb ha, n64_eq ha hb]
  by_cases h1 : a < b
  · rw [if_pos h1, if_neg (by omega), if_neg (by omega)]; rfl
  · by_cases h2 : a = b
    · rw [if_neg h1, if_pos h2, if_neg (by omega), if_pos h2]; rfl
    · have h3 : b < a := by omega
      simp only [if_neg h1, if_neg h2, if_pos h3]; rfl
theorem lcm_in (a b : Int) : i32_ (lcm_ a b) := by unfold lcm_ i32_; split <;> (try split) <;> omega
theorem n32_bv (a : Int) : (Int32.ofInt a).toBitVec.toNat = (a % 4294967296).toNat := by
  show (BitVec.ofInt 32 a).toNat = _
  rw [BitVec.toNat_ofInt]
  rfl
theorem n32_sh (b : Int) : ((Int32.ofInt b &&& 31).toBitVec.smod 32).toNat = (b % 32).toNat := by
  have h := pk_and (Int32.ofInt b) (m := 31) 5 (by decide)
  rw [h, n32_bv]
  have hj : (b % 4294967296).toNat % 2 ^ 5 = (b % 32).toNat := by omega
  rw [hj]
  have hlt : (b % 32).toNat < 32 := by omega
  have hall : ∀ j, j < 32 → ((nI j).toBitVec.smod 32).toNat = j := by decide +kernel
  exact hall _ hlt
theorem n32_shl (a b : Int) : Int32.ofInt a <<< (Int32.ofInt b &&& 31) = Int32.ofInt (w32 (a * 2 ^ (b % 32).toNat)) := by
  have h := pk_shl (Int32.ofInt a) (Int32.ofInt b &&& 31) _ (n32_sh b)
  rw [n32_bv] at h
  apply Int32.toBitVec_inj.mp
  apply BitVec.eq_of_toNat_eq
  rw [h, n32_bv]
  generalize (b % 32).toNat = k
  have e2 : (w32 (a * 2 ^ k)) % 4294967296 = (a * 2 ^ k) % 4294967296 := by unfold w32; omega
  rw [e2]
  have e3 : (a * 2 ^ k) % 4294967296 = ((a % 4294967296) * 2 ^ k) % 4294967296 := by
    have e : a * 2 ^ k = (a % 4294967296) * 2 ^ k + 4294967296 * ((a / 4294967296) * 2 ^ k) := by
      have q := Int.emod_add_mul_ediv a 4294967296
      rw [← Int.mul_assoc, ← Int.add_mul, q]
    rw [e, Int.add_mul_emod_self_left]
  rw [e3]
  have h0 : 0 ≤ a % 4294967296 := Int.emod_nonneg _ (by omega)
  obtain ⟨j, hj⟩ := Int.eq_ofNat_of_zero_le h0
  rw [hj]
  have : ((j : Int) * 2 ^ k) % 4294967296 = ((j * 2 ^ k % 2 ^ 32 : Nat) : Int) := by
    rw [Int.natCast_emod, Int.natCast_mul, Int.natCast_pow]
    rfl
  rw [this, Int.toNat_natCast, Int.toNat_natCast]
theorem n32_shr {a : Int} (b : Int) (ha : i32_ a) : Int32.ofInt a >>> (Int32.ofInt b &&& 31) = Int32.ofInt (a / 2 ^ (b % 32).toNat) ∧ i32_ (a / 2 ^ (b % 32).toNat) := by
  have h := pk_shr (Int32.ofInt a) (Int32.ofInt b &&& 31) _ (n32_sh b)
  rw [i32_ti ha, Int.shiftRight_eq_div_pow] at h
  have hr : i32_ (a / 2 ^ (b % 32).toNat) := by
    have := i32_of (Int32.ofInt a >>> (Int32.ofInt b &&& 31))
    rw [h] at this
    exact_mod_cast this
  refine ⟨?_, hr⟩
  apply Int32.toInt_inj.mp
  rw [h, i32_ti hr]
  norm_cast
