/-! the constructors, as they can be worked out -/
theorem tx_an : ∀ n : Nat, n < 104 → an_ (tx_.getD n 0) 255 % 65536 = tx_.getD n 0 ∧ 0 ≤ tx_.getD n 0 ∧ tx_.getD n 0 < 128 := by decide +kernel
theorem Js_length_s (h : am_H) : Js_length h = some (h, 104) := by
  rw [Js_length_e, Js_coder_e, if_neg (by omega), ck_t (by omega), bd_v]
  rfl
theorem Js_charAt_s {h : am_H} {x : Int} (a : 0 ≤ x) (b : x < 104) : Js_charAt h x = some (h, tx_.getD x.toNat 0) := by
  obtain ⟨e, e0, e1⟩ := tx_an x.toNat (by omega)
  rw [Js_charAt_e, Js_isLatin1_e, if_neg (by omega), if_neg (by omega), bd_v, if_neg (by omega), Jl_charAt_e, Js_checkIndex_e, Jp_checkIndex_e, if_neg (by omega), if_pos b, bd_v, bd_v, e, ck_t ⟨a, b⟩, ck_t ⟨e0, e1⟩, bd_v, ck_t ⟨e0, e1⟩]
def tkC : Nat → am_H → Int → Int → Int → Int → am_O
  | 0, _, _, _, _, _ => none
  | f + 1, h, x0, x1, x2, x3 => if 104 ≤ x3 then some (h, 0) else if 20 ≤ x1 then some (h, 0) else if tx_.getD x3.toNat 0 ≠ 32 then ck_ (0 ≤ x0) (ck_ (0 ≤ (rf_ h x0 0)) (ck_ (0 ≤ x1 ∧ x1 < ln_ h (rf_ h x0 0)) (ck_ (0 ≤ (rf_ h x0 0)) (ck_ (0 ≤ x1 ∧ x1 < ln_ h (rf_ h x0 0)) (tkC f (wr_ h (rf_ h x0 0) x1 (or_ (rd_ h (rf_ h x0 0) x1) (w32 ((w32 ((w32 (tx_.getD x3.toNat 0 - 97)) + 1)) * 2 ^ ((w32 (25 - (w32 (5 * x2)))) % 32 : Int).toNat)))) x0 x1 (w32 (x2 + 1)) (x3 + 1)))))) else tkC f h x0 (w32 (x1 + 1)) 0 (x3 + 1)
theorem tk_C : ∀ (f : Nat) (h : am_H) (x0 x1 x2 x3 : Int), 0 ≤ x3 → x3 ≤ 104 → 105 ≤ x3 + f → Tk_new_1 h x0 x1 x2 x3 = tkC f h x0 x1 x2 x3 := by
  intro f
  induction f with
  | zero => intro h x0 x1 x2 x3 a b c; omega
  | succ f ih =>
    intro h x0 x1 x2 x3 a b c
    rw [Tk_new_1_e, Js_length_s, bd_v]
    unfold tkC
    by_cases q : 104 ≤ x3
    · rw [if_pos q, if_pos q]
    rw [if_neg q, if_neg q]
    by_cases q2 : 20 ≤ x1
    · rw [if_pos q2, if_pos q2]
    rw [if_neg q2, if_neg q2, Js_charAt_s a (by omega), bd_v, w32_i (x := x3 + 1) (by omega) (by omega), ih _ _ _ (w32 (x2 + 1)) (x3 + 1) (by omega) (by omega) (by omega), ih _ _ (w32 (x1 + 1)) 0 (x3 + 1) (by omega) (by omega) (by omega)]
def Wo_newC (h : am_H) (x0 : Int) : am_O := ck_ (0 ≤ x0) (ck_ (0 ≤ (4 : Int) ∧ (4 : Int) ≤ 1000000) (ck_ (0 ≤ x0) (ck_ (0 ≤ (4 : Int) ∧ (4 : Int) ≤ 1000000) (ck_ (0 ≤ x0) (ck_ (0 ≤ (4 : Int) ∧ (4 : Int) ≤ 1000000) (ck_ (0 ≤ x0) (ck_ (0 ≤ (20 : Int) ∧ (20 : Int) ≤ 1000000) (ck_ (0 ≤ x0) (ck_ (0 ≤ (20 : Int) ∧ (20 : Int) ≤ 1000000) (ck_ (0 ≤ x0) (ck_ (0 ≤ (20 : Int) ∧ (20 : Int) ≤ 1000000) (ck_ (0 ≤ x0) (ck_ (0 ≤ (20 : Int) ∧ (20 : Int) ≤ 1000000) (ck_ (0 ≤ x0) (ck_ (0 ≤ (5 : Int) ∧ (5 : Int) ≤ 1000000) (ck_ (0 ≤ x0) (some (wf_ (nw_ (wf_ (nw_ (wf_ (nw_ (wf_ (nw_ (wf_ (nw_ (wf_ (nw_ (wf_ (nw_ (wf_ (nw_ h 20 4) x0 6 (nn_ h)) 20 4) x0 7 (nn_ h + 1)) 20 4) x0 8 (nn_ h + 1 + 1)) 20 20) x0 9 (nn_ h + 1 + 1 + 1)) 20 20) x0 10 (nn_ h + 1 + 1 + 1 + 1)) 20 20) x0 11 (nn_ h + 1 + 1 + 1 + 1 + 1)) 20 20) x0 12 (nn_ h + 1 + 1 + 1 + 1 + 1 + 1)) 20 5) x0 13 (nn_ h + 1 + 1 + 1 + 1 + 1 + 1 + 1), 0))))))))))))))))))
theorem Wo_new_C (h : am_H) (x0 : Int) : Wo_new h x0 = Wo_newC h x0 := by
  rw [Wo_new_e]
  rfl
def Fo_newC (h : am_H) (x0 : Int) : am_O := ck_ (0 ≤ x0) (ck_ (0 ≤ (72 : Int) ∧ (72 : Int) ≤ 1000000) (ck_ (0 ≤ x0) (ck_ (0 ≤ x0) (ck_ (0 ≤ x0) (some (wf_ (wf_ (wf_ (nw_ h 20 72) x0 0 (nn_ h)) x0 1 (-1)) x0 2 (-1), 0))))))
theorem Fo_new_C (h : am_H) (x0 : Int) : Fo_new h x0 = Fo_newC h x0 := by
  rw [Fo_new_e]
  rfl
def La_newC (h : am_H) (x0 : Int) : am_O := ck_ (0 ≤ x0) (ck_ (0 ≤ (64 : Int) ∧ (64 : Int) ≤ 1000000) (ck_ (0 ≤ x0) (ck_ (0 ≤ x0) (ck_ (0 ≤ x0) (some (wf_ (wf_ (wf_ (nw_ h 23 64) x0 0 (nn_ h)) x0 1 (-1)) x0 2 (-1), 0))))))
theorem La_new_C (h : am_H) (x0 : Int) : La_new h x0 = La_newC h x0 := by
  rw [La_new_e]
  rfl
def Do_newC (h : am_H) (x0 : Int) : am_O := ck_ (0 ≤ x0) (ck_ (0 ≤ (20 : Int) ∧ (20 : Int) ≤ 1000000) (ck_ (0 ≤ x0) (ck_ (0 ≤ (20 : Int) ∧ (20 : Int) ≤ 1000000) (ck_ (0 ≤ x0) (ck_ (0 ≤ (20 : Int) ∧ (20 : Int) ≤ 1000000) (ck_ (0 ≤ x0) (ck_ (0 ≤ x0) (ck_ (0 ≤ x0) (some (wr_ (wr_ (wf_ (nw_ (wf_ (nw_ (wf_ (nw_ h 20 20) x0 0 (nn_ h)) 20 20) x0 1 (nn_ h + 1)) 20 20) x0 2 (nn_ h + 1 + 1)) x0 3 0) x0 4 0, 0))))))))))
theorem Do_new_C (h : am_H) (x0 : Int) : Do_new h x0 = Do_newC h x0 := by
  rw [Do_new_e]
  rfl
def Se_newC (h : am_H) (x0 : Int) : am_O := ck_ (0 ≤ x0) (ck_ (0 ≤ (24 : Int) ∧ (24 : Int) ≤ 1000000) (ck_ (0 ≤ x0) (ck_ (0 ≤ (24 : Int) ∧ (24 : Int) ≤ 1000000) (ck_ (0 ≤ x0) (ck_ (0 ≤ (24 : Int) ∧ (24 : Int) ≤ 1000000) (ck_ (0 ≤ x0) (ck_ (0 ≤ (24 : Int) ∧ (24 : Int) ≤ 1000000) (ck_ (0 ≤ x0) (ck_ (0 ≤ (24 : Int) ∧ (24 : Int) ≤ 1000000) (ck_ (0 ≤ x0) (ck_ (0 ≤ (24 : Int) ∧ (24 : Int) ≤ 1000000) (ck_ (0 ≤ x0) (ck_ (0 ≤ x0) (ck_ (0 ≤ x0) (some (wr_ (wr_ (wf_ (nw_ (wf_ (nw_ (wf_ (nw_ (wf_ (nw_ (wf_ (nw_ (wf_ (nw_ h 20 24) x0 0 (nn_ h)) 20 24) x0 1 (nn_ h + 1)) 20 24) x0 2 (nn_ h + 1 + 1)) 22 24) x0 3 (nn_ h + 1 + 1 + 1)) 20 24) x0 4 (nn_ h + 1 + 1 + 1 + 1)) 22 24) x0 5 (nn_ h + 1 + 1 + 1 + 1 + 1)) x0 6 0) x0 7 (-1), 0))))))))))))))))
theorem Se_new_C (h : am_H) (x0 : Int) : Se_new h x0 = Se_newC h x0 := by
  rw [Se_new_e]
  rfl
def Tk_newC (h : am_H) (x0 : Int) : am_O := ck_ (0 ≤ x0) (ck_ (0 ≤ (20 : Int) ∧ (20 : Int) ≤ 1000000) (ck_ (0 ≤ x0) (ck_ (0 ≤ x0) (tkC 105 (wf_ (wf_ (nw_ h 20 20) x0 0 (nn_ h)) x0 1 (-1)) x0 0 0 0))))
theorem Tk_new_C (h : am_H) (x0 : Int) : Tk_new h x0 = Tk_newC h x0 := by
  rw [Tk_new_e, tk_C 105 _ _ _ _ 0 (by omega) (by omega) (by omega)]
  rfl
def Re_newC (h : am_H) (x0 : Int) : am_O := ck_ (0 ≤ x0) (ck_ (0 ≤ (nn_ h)) (bd_ (Tk_newC (nw_ h 7 7) (nn_ h)) fun h1 _ => ck_ (0 ≤ x0) (ck_ (0 ≤ (nn_ h1)) (bd_ (Fo_newC (nw_ (wf_ h1 x0 0 (nn_ h)) 2 9) (nn_ h1)) fun h3 _ => ck_ (0 ≤ x0) (ck_ (0 ≤ x0) (some (wf_ (wf_ h3 x0 1 (nn_ h1)) x0 2 (-1), 0)))))))
theorem Re_new_C (h : am_H) (x0 : Int) : Re_new h x0 = Re_newC h x0 := by
  rw [Re_new_e]
  simp only [Tk_new_C, Fo_new_C]
  first | done | rfl
def To_newC (h : am_H) (x0 : Int) : am_O := ck_ (0 ≤ x0) (ck_ (0 ≤ (nn_ h)) (bd_ (Wo_newC (nw_ h 10 14) (nn_ h)) fun h1 _ => ck_ (0 ≤ x0) (ck_ (0 ≤ (4 : Int) ∧ (4 : Int) ≤ 1000000) (ck_ (0 ≤ x0) (ck_ (0 ≤ (4 : Int) ∧ (4 : Int) ≤ 1000000) (ck_ (0 ≤ x0) (ck_ (0 ≤ (4 : Int) ∧ (4 : Int) ≤ 1000000) (ck_ (0 ≤ x0) (ck_ (0 ≤ (14 : Int) ∧ (14 : Int) ≤ 1000000) (ck_ (0 ≤ x0) (ck_ (0 ≤ (14 : Int) ∧ (14 : Int) ≤ 1000000) (ck_ (0 ≤ x0) (ck_ (0 ≤ (14 : Int) ∧ (14 : Int) ≤ 1000000) (ck_ (0 ≤ x0) (ck_ (0 ≤ (14 : Int) ∧ (14 : Int) ≤ 1000000) (ck_ (0 ≤ x0) (ck_ (0 ≤ (64 : Int) ∧ (64 : Int) ≤ 1000000) (ck_ (0 ≤ x0) (ck_ (0 ≤ (3 : Int) ∧ (3 : Int) ≤ 1000000) (ck_ (0 ≤ x0) (ck_ (0 ≤ (3 : Int) ∧ (3 : Int) ≤ 1000000) (ck_ (0 ≤ x0) (some (wf_ (nw_ (wf_ (nw_ (wf_ (nw_ (wf_ (nw_ (wf_ (nw_ (wf_ (nw_ (wf_ (nw_ (wf_ (nw_ (wf_ (nw_ (wf_ (nw_ (wf_ h1 x0 6 (nn_ h)) 20 4) x0 7 (nn_ h1)) 20 4) x0 8 (nn_ h1 + 1)) 20 4) x0 9 (nn_ h1 + 1 + 1)) 20 14) x0 10 (nn_ h1 + 1 + 1 + 1)) 20 14) x0 11 (nn_ h1 + 1 + 1 + 1 + 1)) 20 14) x0 12 (nn_ h1 + 1 + 1 + 1 + 1 + 1)) 20 14) x0 13 (nn_ h1 + 1 + 1 + 1 + 1 + 1 + 1)) 20 64) x0 14 (nn_ h1 + 1 + 1 + 1 + 1 + 1 + 1 + 1)) 20 3) x0 15 (nn_ h1 + 1 + 1 + 1 + 1 + 1 + 1 + 1 + 1)) 20 3) x0 16 (nn_ h1 + 1 + 1 + 1 + 1 + 1 + 1 + 1 + 1 + 1), 0))))))))))))))))))))))))
theorem To_new_C (h : am_H) (x0 : Int) : To_new h x0 = To_newC h x0 := by
  rw [To_new_e]
  simp only [Wo_new_C]
  first | done | rfl
def Mi_newC (h : am_H) (x0 : Int) : am_O := ck_ (0 ≤ x0) (ck_ (0 ≤ (nn_ h)) (bd_ (La_newC (nw_ h 3 7) (nn_ h)) fun h1 _ => ck_ (0 ≤ x0) (ck_ (0 ≤ x0) (ck_ (0 ≤ x0) (some (wf_ (wf_ (wf_ h1 x0 0 (nn_ h)) x0 1 (-1)) x0 2 (-1), 0))))))
theorem Mi_new_C (h : am_H) (x0 : Int) : Mi_new h x0 = Mi_newC h x0 := by
  rw [Mi_new_e]
  simp only [La_new_C]
  first | done | rfl
def Pp_newC (h : am_H) (x0 : Int) : am_O := ck_ (0 ≤ x0) (ck_ (0 ≤ (700 : Int) ∧ (700 : Int) ≤ 1000000) (ck_ (0 ≤ x0) (ck_ (0 ≤ x0) (ck_ (0 ≤ x0) (ck_ (0 ≤ x0) (ck_ (0 ≤ (nn_ h + 1)) (bd_ (Re_newC (nw_ (wr_ (wr_ (wr_ (wf_ (nw_ h 21 700) x0 0 (nn_ h)) x0 1 0) x0 2 0) x0 3 (-1)) 5 3) (nn_ h + 1)) fun h1 _ => ck_ (0 ≤ x0) (ck_ (0 ≤ (nn_ h1)) (bd_ (To_newC (nw_ (wf_ h1 x0 4 (nn_ h + 1)) 8 17) (nn_ h1)) fun h3 _ => ck_ (0 ≤ x0) (ck_ (0 ≤ (nn_ h3)) (bd_ (To_newC (nw_ (wf_ h3 x0 5 (nn_ h1)) 8 17) (nn_ h3)) fun h5 _ => ck_ (0 ≤ x0) (ck_ (0 ≤ (nn_ h5)) (bd_ (Wo_newC (nw_ (wf_ h5 x0 6 (nn_ h3)) 10 14) (nn_ h5)) fun h7 _ => ck_ (0 ≤ x0) (ck_ (0 ≤ (nn_ h7)) (bd_ (Wo_newC (nw_ (wf_ h7 x0 7 (nn_ h5)) 10 14) (nn_ h7)) fun h9 _ => ck_ (0 ≤ x0) (ck_ (0 ≤ (nn_ h9)) (bd_ (Wo_newC (nw_ (wf_ h9 x0 8 (nn_ h7)) 10 14) (nn_ h9)) fun h11 _ => ck_ (0 ≤ x0) (ck_ (0 ≤ x0) (ck_ (0 ≤ (nn_ h11)) (bd_ (La_newC (nw_ (wr_ (wf_ h11 x0 9 (nn_ h9)) x0 10 0) 3 7) (nn_ h11)) fun h13 _ => ck_ (0 ≤ x0) (ck_ (0 ≤ (nn_ h13)) (bd_ (Mi_newC (nw_ (wf_ h13 x0 11 (nn_ h11)) 4 8) (nn_ h13)) fun h15 _ => ck_ (0 ≤ x0) (ck_ (0 ≤ (nn_ h15)) (bd_ (Do_newC (nw_ (wf_ h15 x0 12 (nn_ h13)) 1 5) (nn_ h15)) fun h17 _ => ck_ (0 ≤ x0) (ck_ (0 ≤ (nn_ h17)) (bd_ (Se_newC (nw_ (wf_ h17 x0 13 (nn_ h15)) 6 8) (nn_ h17)) fun h19 _ => ck_ (0 ≤ x0) (ck_ (0 ≤ (12 : Int) ∧ (12 : Int) ≤ 1000000) (ck_ (0 ≤ x0) (ck_ (0 ≤ x0) (ck_ (0 ≤ (5 : Int) ∧ (5 : Int) ≤ 1000000) (ck_ (0 ≤ x0) (ck_ (0 ≤ (25 : Int) ∧ (25 : Int) ≤ 1000000) (ck_ (0 ≤ x0) (ck_ (0 ≤ (4 : Int) ∧ (4 : Int) ≤ 1000000) (ck_ (0 ≤ x0) (some (wf_ (nw_ (wf_ (nw_ (wf_ (nw_ (wf_ (wf_ (nw_ (wf_ h19 x0 14 (nn_ h17)) 24 12) x0 15 (nn_ h19)) x0 16 (-1)) 20 5) x0 17 (nn_ h19 + 1)) 20 25) x0 18 (nn_ h19 + 1 + 1)) 20 4) x0 19 (nn_ h19 + 1 + 1 + 1), 0)))))))))))))))))))))))))))))))))))))
theorem Pp_new_C (h : am_H) (x0 : Int) : Pp_new h x0 = Pp_newC h x0 := by
  rw [Pp_new_e]
  simp only [Re_new_C, To_new_C, Wo_new_C, La_new_C, Mi_new_C, Do_new_C, Se_new_C]
  first | done | rfl
/-- nothing yet -/
def h00 : am_H := (fun _ _ => 0, fun _ _ => -1, fun _ => 0, fun _ => 0, 0, 0)
/-- the class's object made -/
def hXA : am_H := nw_ h00 11 20
def hX1 : am_H := ((Pp_newC hXA 0).getD (h00, 0)).1
def hM0 : am_H := nw_ hX1 12 93
