/-! a text read in the class -/
theorem emT_W : WVt emT := by
  refine ⟨?_, fun p a b => ?_, fun p k a b => ?_, fun p k q j a b => ?_, fun j a b => ?_, fun p k j a b => ?_, fun j a b => ?_, ?_, rfl⟩
  · show (0 : Int) ≤ 0 ∧ (0 : Int) ≤ 4 ∧ (0 : Int) ≤ 0 ∧ (0 : Int) ≤ 4 ∧ (0 : Int) ≤ 0 ∧ (0 : Int) ≤ 20
    omega
  · have b' : p < 0 := b
    omega
  · have b' : p < 0 := b
    omega
  · have b' : p < 0 := b
    omega
  · have b' : j < 0 := b
    omega
  · have b' : p < 0 := b
    omega
  · have b' : j < 0 := b
    omega
  · show (0 : Int) ≤ 0 ∧ (0 : Int) ≤ 99999
    omega
theorem emT_V : TV emT := by
  refine ⟨?_, fun j a b => ?_, fun j a b => ?_, fun k a b => ?_⟩
  · show (0 : Int) ≤ 0 ∧ (0 : Int) ≤ 14 ∧ (0 : Int) ≤ 0 ∧ (0 : Int) ≤ 64 ∧ (0 : Int) ≤ 0 ∧ (0 : Int) ≤ 100 ∧ (0 : Int) ≤ 0 ∧ (0 : Int) ≤ 99999 ∧ i32_ 0
    unfold i32_
    omega
  · have b' : j < 0 := b
    omega
  · have b' : j < 0 := b
    omega
  · refine ⟨Int.le_refl _, Int.le_refl _, Int.le_refl _, fun y => ?_⟩
    have y' : (0 : Int) < 0 := y
    omega
def frt_ (t : Int) (h h' : am_H) : Prop := fq_ h h' (F6 t) (fun a => a = 2 ∨ a = 3 ∨ a = 5) ∧ (ShC h → ShC h')
theorem frt_t {t : Int} {h h1 h2 : am_H} (x : frt_ t h h1) (y : frt_ t h1 h2) : frt_ t h h2 := ⟨fq_tr x.1 y.1, fun q => y.2 (x.2 q)⟩
theorem frt_l {t : Int} {h h1 : am_H} (x : flq_ t h h1) : frt_ t h h1 := ⟨fq_mo x.1 (fun a q => q) (fun a q => Or.inr (Or.inr q)), x.2⟩
theorem ShC_wf {h : am_H} {a k v : Int} (s : ShC h) (q : a = 2 ∧ k = 2 ∨ a = 3 ∧ k = 1) : ShC (wf_ h a k v) := by
  have f : fq_ h (wf_ h a k v) (fun _ => False) ScR := ⟨rfl, fun _ _ _ => rfl, fun b n j => rf_wo (fun e => n (by unfold ScR; omega))⟩
  refine ShC_q f s ⟨?_, ?_, ?_, ?_, ?_, ?_, ?_⟩
  · rw [rf_wf, if_neg (by omega)]; exact cr2_0 s
  · rw [rf_wf, if_neg (by omega)]; exact cr2_1 s
  · rw [rf_wf, if_neg (by omega)]; exact cr3_0 s
  · rw [rf_wf, if_neg (by omega)]; exact cr5_0 s
  · rw [rf_wf, if_neg (by omega)]; exact cr74_0 s
  · rw [rf_wf, if_neg (by omega)]; exact cr76_0 s
  · rw [rf_wf, if_neg (by omega)]; exact cr77_0 s
section
variable {B : Int → Int} {n t : Int}
def rdA_ (B : Int → Int) (n : Int) : Int × Int × Tx := rdl_ B n (n + 1).toNat 0 emT 0 0
theorem Re_read_s {h : am_H} (t0 : t = 7 ∨ t = 27) (sc : ShC h) (sh : ShT h t) (sw : ShW h (t + 1)) (lg : LG h) (n0 : 0 ≤ n) (n7 : n ≤ 700) (tb : ∀ k, 0 ≤ k → k < n → rd_ h 1 k = B k ∧ -128 ≤ B k ∧ B k < 128) : ∃ h', Re_read h 2 1 n t = some (h', (rdA_ B n).1) ∧ ((rdA_ B n).1 ≠ 0 → rd_ h' 3 5 = (rdA_ B n).2.1) ∧ ((rdA_ B n).1 = 0 → ∃ c s, RT h' t (rdA_ B n).2.2 c s) ∧ frt_ t h h' := by
  have tv : 7 ≤ t ∧ t ≤ 27 := by omega
  have s1 : ShC (wf_ h 2 2 t) := ShC_wf sc (Or.inl ⟨rfl, rfl⟩)
  have e22 : rf_ (wf_ h 2 2 t) 2 2 = t := by rw [rf_wf, if_pos ⟨rfl, rfl⟩]
  have Q1 : frt_ t h (wf_ h 2 2 t) := ⟨⟨rfl, fun _ _ _ => rfl, fun a q k => rf_wo (fun e => q (Or.inl e))⟩, fun _ => s1⟩
  have sh' : ShT (wf_ h 2 2 t) t := ShT_q (h := h) (fun _ => rfl) (fun k => rf_wo (by omega)) sh
  have sw' : ShW (wf_ h 2 2 t) (t + 1) := ShW_q (h := h) (fun _ => rfl) (fun k => rf_wo (by omega)) sw
  obtain ⟨h1, a1, a2, a3⟩ := To_clear_s (h := wf_ h 2 2 t) t0 s1 e22 sh' sw'
  have Q2 : frt_ t (wf_ h 2 2 t) h1 := frt_l (flq_f a3 (fun a q => Or.inr (Or.inr (Or.inr q))))
  have l1 : ln_ h1 1 = 700 := cl1 a2.2.1
  have s3 : ShC (wf_ h1 3 1 1) := ShC_wf a2.2.1 (Or.inr ⟨rfl, rfl⟩)
  have e31 : rf_ (wf_ h1 3 1 1) 3 1 = 1 := by rw [rf_wf, if_pos ⟨rfl, rfl⟩]
  have q3 : fq_ h1 (wf_ h1 3 1 1) (fun _ => False) (fun a => a = 3) := ⟨rfl, fun _ _ _ => rfl, fun a q k => rf_wo q⟩
  have Q3 : frt_ t h1 (wf_ h1 3 1 1) := ⟨fq_mo q3 (fun a q => False.elim q) (fun a q => Or.inr (Or.inl q)), fun _ => s3⟩
  have r3 : RT (wf_ h1 3 1 1) t emT 0 0 := by
    obtain ⟨x0, x1, x2, x3, x4, x5, x6⟩ := a2
    exact ⟨x0, s3, by rw [rf_wo (by omega)]; exact x2, TO_fq x3 q3 (fun _ _ _ q => q) (by omega), WO_fq x4 q3 (fun _ _ _ q => q) (by omega), x5, x6⟩
  have F4 : fr_ (wf_ h1 3 1 1) (wr_ (wr_ (wr_ (wr_ (wr_ (wf_ h1 3 1 1) 3 2 n) 3 3 0) 3 4 0) 3 5 0) 3 6 0) (fun a => a = 3) := fr_tr (fr_tr (fr_tr (fr_tr (fr_wr rfl) (fr_wr rfl)) (fr_wr rfl)) (fr_wr rfl)) (fr_wr rfl)
  have r4 := RT_fr r3 F4 (fun a p q => by omega)
  have Q4 : frt_ t (wf_ h1 3 1 1) (wr_ (wr_ (wr_ (wr_ (wr_ (wf_ h1 3 1 1) 3 2 n) 3 3 0) 3 4 0) 3 5 0) 3 6 0) := frt_l (flq_f F4 (fun a q => Or.inl q))
  have QA := frt_t (frt_t Q1 Q2) (frt_t Q3 Q4)
  have k4 : TKh (wr_ (wr_ (wr_ (wr_ (wr_ (wf_ h1 3 1 1) 3 2 n) 3 3 0) 3 4 0) 3 5 0) 3 6 0) B n 0 := by
    refine ⟨⟨cr3_0 r4.2.1, e31, cl1 r4.2.1, cl4 r4.2.1⟩, ⟨?_, ?_⟩, ⟨by omega, n0, n7⟩, fun k p q => ?_, fun i p q => ?_⟩
    · rw [rd_wk (by omega), rd_wk (by omega), rd_wk (by omega), rd_wk (by omega), rd_ws]
    · rw [rd_wk (by omega), rd_wk (by omega), rd_wk (by omega), rd_ws]
    · rw [QA.1.2.1 1 (by unfold F6; omega)]; exact tb k p q
    · rw [QA.1.2.1 4 (by unfold F6; omega)]; exact lg i p q
  obtain ⟨h', b1, b2, b3, b4⟩ := Re_read_lp (n + 1).toNat 0 0 _ emT 0 0 r4 k4 emT_W emT_V rfl (by omega) (by omega) (by omega)
  refine ⟨h', ?_, b2, b3, frt_t QA (frt_l b4)⟩
  rw [Re_read_e]
  simp only [e22]
  repeat rw [ck_t (by omega)]
  rw [a1, bd_v, cr2_0 a2.2.1]
  repeat rw [ck_t (by omega)]
  rw [Tk_begin_e, e31, l1]
  repeat rw [ck_t (by omega)]
  rw [if_neg (c := (700 : Int) < n) (by omega), bd_v]
  exact b1
end
