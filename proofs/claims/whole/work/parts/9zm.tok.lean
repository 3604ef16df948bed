/-! tokens, pure; in the class -/
def fe_ (P : Int → Bool) : Nat → Int → Int
  | 0, k => k
  | f + 1, k => if P k then fe_ P f (k + 1) else k
theorem fe_s1 (P : Int → Bool) (f : Nat) (k : Int) : fe_ P (f + 1) k = if P k then fe_ P f (k + 1) else k := rfl
theorem fe_v {P : Int → Bool} {n : Int} : ∀ (f : Nat) (k : Int), k + f = n → k ≤ fe_ P f k ∧ fe_ P f k ≤ n ∧ (∀ j, k ≤ j → j < fe_ P f k → P j = true) ∧ (fe_ P f k < n → P (fe_ P f k) = false) := by
  intro f
  induction f with
  | zero => intro k hk; exact ⟨Int.le_refl _, by show k ≤ n; omega, fun j a b => by have b' : j < k := b; omega, fun q => by have q' : k < n := q; omega⟩
  | succ f ih =>
    intro k hk
    rw [fe_s1]
    cases q : P k with
    | true =>
      obtain ⟨a1, a2, a3, a4⟩ := ih (k + 1) (by omega)
      rw [if_pos rfl]
      refine ⟨by omega, a2, fun j b1 b2 => ?_, a4⟩
      by_cases e : j = k
      · rw [e]; exact q
      · exact a3 j (by omega) b2
    | false =>
      rw [if_neg (by simp)]
      exact ⟨Int.le_refl _, by omega, fun j b1 b2 => by omega, fun _ => q⟩
def isW (B : Int → Int) (k : Int) : Bool := decide (B k = 10) || decide (B k = 32)
def isL (B : Int → Int) (k : Int) : Bool := decide (97 ≤ B k) && decide (B k ≤ 122)
def isD (B : Int → Int) (k : Int) : Bool := decide (48 ≤ B k) && decide (B k ≤ 57)
theorem isL_t {B : Int → Int} {k : Int} : isL B k = true ↔ 97 ≤ B k ∧ B k ≤ 122 := by unfold isL; simp
theorem isD_t {B : Int → Int} {k : Int} : isD B k = true ↔ 48 ≤ B k ∧ B k ≤ 57 := by unfold isD; simp
theorem isW_t {B : Int → Int} {k : Int} : isW B k = true ↔ B k = 10 ∨ B k = 32 := by unfold isW; simp
/-- a word's letters as a number; a number's value -/
def wv_ (B : Int → Int) : Nat → Int → Int → Int → Int
  | 0, _, _, v => v
  | f + 1, k, x, v => if isL B k then wv_ B f (k + 1) (x + 1) (if 6 ≤ x then v else or_ v (w32 (w32 (w32 (B k - 97) + 1) * 2 ^ ((w32 (25 - w32 (5 * x))) % 32 : Int).toNat))) else v
def nuv_ (B : Int → Int) : Nat → Int → Int → Int
  | 0, _, v => v
  | f + 1, k, v => if isD B k then nuv_ B f (k + 1) (if (1000000 : Int) < w32 (w32 (w32 (v * 10) + B k) - 48) then 1000000 else w32 (w32 (w32 (v * 10) + B k) - 48)) else v
def sg_k (x : Int) : Int := if x = 40 then 40 else if x = 41 then 41 else if x = 42 then 38 else if x = 43 then 36 else if x = 45 then 37 else if x = 47 then 39 else if x = 59 then 42 else if x = 60 then 30 else if x = 61 then 32 else if x = 62 then 35 else 1
/-- where a token begins, its kind, its value, where the next may begin -/
def tp_ (B : Int → Int) (n p : Int) : Int := fe_ (isW B) (n - p).toNat p
def we_ (B : Int → Int) (n s : Int) : Int := fe_ (isL B) (n - s).toNat s
def de_ (B : Int → Int) (n s : Int) : Int := fe_ (isD B) (n - s).toNat s
def wd_v (B : Int → Int) (n s : Int) : Int := wv_ B (n - s).toNat s 0 0
def wd_k (B : Int → Int) (n s : Int) : Int := if we_ B n s - s ≤ 6 then (if 0 ≤ fx_ (fun i => lang_.getD i.toNat 0) (wd_v B n s) 20 0 then 10 + fx_ (fun i => lang_.getD i.toNat 0) (wd_v B n s) 20 0 else 3) else 1
def sn_k (B : Int → Int) (n s : Int) : Int × Int := if sg_k (B s) = 30 ∨ sg_k (B s) = 35 then (if s + 1 < n then (if B (s + 1) = 61 then (if sg_k (B s) = 30 then 31 else 34, s + 2) else if B (s + 1) = 62 ∧ sg_k (B s) = 30 then (33, s + 2) else (sg_k (B s), s + 1)) else (sg_k (B s), s + 1)) else (sg_k (B s), s + 1)
def tk_k (B : Int → Int) (n p : Int) : Int := if n ≤ tp_ B n p then 0 else if isL B (tp_ B n p) then wd_k B n (tp_ B n p) else if isD B (tp_ B n p) then 2 else (sn_k B n (tp_ B n p)).1
def tk_v (B : Int → Int) (n p : Int) : Int := if n ≤ tp_ B n p then 0 else if isL B (tp_ B n p) then wd_v B n (tp_ B n p) else if isD B (tp_ B n p) then nuv_ B (n - tp_ B n p).toNat (tp_ B n p) 0 else 0
def tk_n (B : Int → Int) (n p : Int) : Int := if n ≤ tp_ B n p then tp_ B n p else if isL B (tp_ B n p) then we_ B n (tp_ B n p) else if isD B (tp_ B n p) then de_ B n (tp_ B n p) else (sn_k B n (tp_ B n p)).2
theorem tp_v {B : Int → Int} {n p : Int} (p1 : p ≤ n) : p ≤ tp_ B n p ∧ tp_ B n p ≤ n := by
  have := fe_v (P := isW B) (n := n) (n - p).toNat p (by omega)
  exact ⟨this.1, this.2.1⟩
theorem we_v {B : Int → Int} {n s : Int} (s1 : s < n) (l : isL B s = true) : s < we_ B n s ∧ we_ B n s ≤ n := by
  have := fe_v (P := isL B) (n := n) (n - s).toNat s (by omega)
  refine ⟨?_, this.2.1⟩
  apply Classical.byContradiction
  intro q
  have e : we_ B n s = s := by have := this.1; unfold we_ at *; omega
  have := this.2.2.2 (by unfold we_ at e; omega)
  unfold we_ at e
  rw [e, l] at this
  cases this
theorem de_v {B : Int → Int} {n s : Int} (s1 : s < n) (l : isD B s = true) : s < de_ B n s ∧ de_ B n s ≤ n := by
  have := fe_v (P := isD B) (n := n) (n - s).toNat s (by omega)
  refine ⟨?_, this.2.1⟩
  apply Classical.byContradiction
  intro q
  have e : de_ B n s = s := by have := this.1; unfold de_ at *; omega
  have := this.2.2.2 (by unfold de_ at e; omega)
  unfold de_ at e
  rw [e, l] at this
  cases this
theorem sn_v (B : Int → Int) {n s : Int} (s1 : s < n) : s < (sn_k B n s).2 ∧ (sn_k B n s).2 ≤ n := by
  unfold sn_k
  by_cases a : sg_k (B s) = 30 ∨ sg_k (B s) = 35
  · rw [if_pos a]
    by_cases b : s + 1 < n
    · rw [if_pos b]
      by_cases c : B (s + 1) = 61
      · rw [if_pos c]; exact ⟨by show s < s + 2; omega, by show s + 2 ≤ n; omega⟩
      · rw [if_neg c]
        by_cases d : B (s + 1) = 62 ∧ sg_k (B s) = 30
        · rw [if_pos d]; exact ⟨by show s < s + 2; omega, by show s + 2 ≤ n; omega⟩
        · rw [if_neg d]; exact ⟨by show s < s + 1; omega, by show s + 1 ≤ n; omega⟩
    · rw [if_neg b]; exact ⟨by show s < s + 1; omega, by show s + 1 ≤ n; omega⟩
  · rw [if_neg a]; exact ⟨by show s < s + 1; omega, by show s + 1 ≤ n; omega⟩
/-- a token goes on, within the text, but at its end -/
theorem tk_nv {B : Int → Int} {n p : Int} (p1 : p ≤ n) : p ≤ tk_n B n p ∧ tk_n B n p ≤ n ∧ (tk_k B n p ≠ 0 → tp_ B n p < tk_n B n p) := by
  have a := tp_v (B := B) p1
  unfold tk_n tk_k
  by_cases q : n ≤ tp_ B n p
  · rw [if_pos q, if_pos q]; exact ⟨a.1, a.2, fun z => absurd rfl z⟩
  · rw [if_neg q, if_neg q]
    cases l : isL B (tp_ B n p) with
    | true =>
      rw [if_pos rfl]
      have := we_v (n := n) (s := tp_ B n p) (by omega) l
      exact ⟨by omega, this.2, fun _ => this.1⟩
    | false =>
      rw [if_neg (by simp)]
      cases d : isD B (tp_ B n p) with
      | true =>
        rw [if_pos rfl]
        have := de_v (n := n) (s := tp_ B n p) (by omega) d
        exact ⟨by omega, this.2, fun _ => this.1⟩
      | false =>
        rw [if_neg (by simp)]
        have := sn_v B (n := n) (s := tp_ B n p) (by omega)
        exact ⟨by omega, this.2, fun _ => this.1⟩
/-- the class's tokens, about to read at p -/
def TKh (h : am_H) (B : Int → Int) (n p : Int) : Prop := (rf_ h 3 0 = 4 ∧ rf_ h 3 1 = 1 ∧ ln_ h 1 = 700 ∧ ln_ h 4 = 20) ∧ (rd_ h 3 2 = n ∧ rd_ h 3 3 = p) ∧ (0 ≤ p ∧ p ≤ n ∧ n ≤ 700) ∧ (∀ k, 0 ≤ k → k < n → rd_ h 1 k = B k ∧ -128 ≤ B k ∧ B k < 128) ∧ LG h
theorem TK_w {h : am_H} {B : Int → Int} {n p k v : Int} (t : TKh h B n p) (q : k ≠ 2 ∧ k ≠ 3) : TKh (wr_ h 3 k v) B n p := by
  obtain ⟨a, b, c, d, e⟩ := t
  exact ⟨a, ⟨by rw [rd_wk (by omega)]; exact b.1, by rw [rd_wk (by omega)]; exact b.2⟩, c, fun k x y => by rw [rd_wo (by omega)]; exact d k x y, fun i x y => by rw [rd_wo (by omega)]; exact e i x y⟩
theorem TK_n {h : am_H} {B : Int → Int} {n p v : Int} (t : TKh h B n p) (v0 : 0 ≤ v) (v1 : v ≤ n) : TKh (wr_ h 3 3 v) B n v := by
  obtain ⟨a, b, c, d, e⟩ := t
  exact ⟨a, ⟨by rw [rd_wk (by omega)]; exact b.1, rd_ws _ _ _ _⟩, ⟨v0, v1, c.2.2⟩, fun k x y => by rw [rd_wo (by omega)]; exact d k x y, fun i x y => by rw [rd_wo (by omega)]; exact e i x y⟩
section
variable {B : Int → Int} {n : Int}
theorem Tk_isLetter_s {h : am_H} {p k : Int} (t : TKh h B n p) (k0 : 0 ≤ k) (k1 : k < n) : Tk_isLetter h 3 k = some (h, bz (isL B k)) := by
  obtain ⟨a, b, c, d, e⟩ := t
  rw [Tk_isLetter_e]
  simp only [a.2.1, a.2.2.1, (d k k0 k1).1]
  rw [ck_t (by omega), ck_t (by omega), ck_t (by omega)]
  unfold isL bz
  by_cases q : B k < 97
  · rw [if_pos q, if_neg (by simp; omega)]
  · rw [if_neg q, ck_t (by omega), ck_t (by omega), ck_t (by omega)]
    by_cases r : 122 < B k
    · rw [if_pos r, if_neg (by simp; omega)]
    · rw [if_neg r, if_pos (by simp; omega)]
theorem Tk_isDigit_s {h : am_H} {p k : Int} (t : TKh h B n p) (k0 : 0 ≤ k) (k1 : k < n) : Tk_isDigit h 3 k = some (h, bz (isD B k)) := by
  obtain ⟨a, b, c, d, e⟩ := t
  rw [Tk_isDigit_e]
  simp only [a.2.1, a.2.2.1, (d k k0 k1).1]
  rw [ck_t (by omega), ck_t (by omega), ck_t (by omega)]
  unfold isD bz
  by_cases q : B k < 48
  · rw [if_pos q, if_neg (by simp; omega)]
  · rw [if_neg q, ck_t (by omega), ck_t (by omega), ck_t (by omega)]
    by_cases r : 57 < B k
    · rw [if_pos r, if_neg (by simp; omega)]
    · rw [if_neg r, if_pos (by simp; omega)]
theorem Tk_ws : ∀ (f : Nat) (p : Int) (h : am_H), TKh h B n p → p + f = n → ∃ h', Tk_step h 3 = Tk_step_4 h' 3 ∧ TKh h' B n (fe_ (isW B) f p) ∧ fr_ h h' (fun a => a = 3) := by
  intro f
  induction f with
  | zero =>
    intro p h t hp
    obtain ⟨a, b, c, d, e⟩ := id t
    refine ⟨h, ?_, t, fr_refl _ _⟩
    rw [Tk_step_e, ck_t (by omega), ck_t (by omega), b.1, b.2, if_pos (by omega)]
  | succ f ih =>
    intro p h t hp
    obtain ⟨a, b, c, d, e⟩ := id t
    have dp := d p (by omega) (by omega)
    obtain ⟨h', y1, y2, y3⟩ := ih (p + 1) (wr_ h 3 3 (p + 1)) (TK_n t (by omega) (by omega)) (by omega)
    rw [fe_s1, Tk_step_e]
    simp only [b.1, b.2, a.2.1, a.2.2.1, dp.1]
    rw [ck_t (by omega), ck_t (by omega), if_neg (by omega), ck_t (by omega), ck_t (by omega), ck_t (by omega), ck_t (by omega), w32_i (x := p + 1) (by omega) (by omega)]
    by_cases q : B p = 10
    · rw [if_pos q, if_pos (isW_t.mpr (Or.inl q)), ck_t (by omega), ck_t (by omega)]
      exact ⟨h', y1, y2, fr_tr (fr_wr rfl) y3⟩
    · rw [if_neg q, ck_t (by omega), ck_t (by omega), ck_t (by omega), ck_t (by omega)]
      by_cases r : B p = 32
      · rw [if_neg (fun z => z r), if_pos (isW_t.mpr (Or.inr r)), ck_t (by omega), ck_t (by omega)]
        exact ⟨h', y1, y2, fr_tr (fr_wr rfl) y3⟩
      · rw [if_pos r, if_neg (fun z => by have := isW_t.mp z; omega)]
        exact ⟨h, rfl, t, fr_refl _ _⟩
theorem Tk_word_lp : ∀ (f : Nat) (k x v : Int) (h : am_H), TKh h B n k → k + f = n → 0 ≤ x → x ≤ 1000 - f → rd_ h 3 6 = v → ∃ h', Tk_stepWord_1 h 3 x = Tk_stepWord_6 h' 3 (x + (fe_ (isL B) f k - k)) ∧ TKh h' B n (fe_ (isL B) f k) ∧ rd_ h' 3 6 = wv_ B f k x v ∧ rd_ h' 3 5 = rd_ h 3 5 ∧ fr_ h h' (fun a => a = 3) := by
  intro f
  induction f with
  | zero =>
    intro k x v h t hk x0 x1 ev
    obtain ⟨a, b, c, d, e⟩ := id t
    refine ⟨h, ?_, t, ev, rfl, fr_refl _ _⟩
    rw [Tk_stepWord_1_e, ck_t (by omega), ck_t (by omega), b.1, b.2, if_pos (by omega)]
    show Tk_stepWord_6 h 3 x = Tk_stepWord_6 h 3 (x + (k - k))
    rw [show x + (k - k) = x by omega]
  | succ f ih =>
    intro k x v h t hk x0 x1 ev
    obtain ⟨a, b, c, d, e⟩ := id t
    have dp := d k (by omega) (by omega)
    rw [fe_s1, Tk_stepWord_1_e]
    simp only [b.1, b.2]
    rw [ck_t (by omega), ck_t (by omega), if_neg (by omega), ck_t (by omega), ck_t (by omega), Tk_isLetter_s t (by omega) (by omega), bd_v]
    have ew : wv_ B (f + 1) k x v = if isL B k then wv_ B f (k + 1) (x + 1) (if 6 ≤ x then v else or_ v (w32 (w32 (w32 (B k - 97) + 1) * 2 ^ ((w32 (25 - w32 (5 * x))) % 32 : Int).toNat))) else v := rfl
    rw [ew]
    cases q : isL B k with
    | false =>
      rw [bz_f, if_pos rfl, if_neg (by simp), if_neg (by simp)]
      refine ⟨h, ?_, t, ev, rfl, fr_refl _ _⟩
      rw [show x + (k - k) = x by omega]
    | true =>
      rw [bz_t, if_neg (by omega), if_pos rfl, if_pos rfl, w32_i (x := x + 1) (by omega) (by omega)]
      by_cases r : 6 ≤ x
      · obtain ⟨h', y1, y2, y3, y4, y5⟩ := ih (k + 1) (x + 1) v (wr_ h 3 3 (k + 1)) (TK_n t (by omega) (by omega)) (by omega) (by omega) (by omega) (by rw [rd_wk (by omega)]; exact ev)
        refine ⟨h', ?_, y2, by rw [if_pos r]; exact y3, by rw [y4, rd_wk (by omega)], fr_tr (fr_wr rfl) y5⟩
        simp only [b.2]
        rw [if_pos r, ck_t (by omega), ck_t (by omega), w32_i (x := k + 1) (by omega) (by omega), y1, show x + 1 + (fe_ (isL B) f (k + 1) - (k + 1)) = x + (fe_ (isL B) f (k + 1) - k) by omega]
      · have t1 := TK_w (k := 6) (v := or_ v (w32 (w32 (w32 (B k - 97) + 1) * 2 ^ ((w32 (25 - w32 (5 * x))) % 32 : Int).toNat))) t (by omega)
        obtain ⟨h', y1, y2, y3, y4, y5⟩ := ih (k + 1) (x + 1) (or_ v (w32 (w32 (w32 (B k - 97) + 1) * 2 ^ ((w32 (25 - w32 (5 * x))) % 32 : Int).toNat))) (wr_ (wr_ h 3 6 (or_ v (w32 (w32 (w32 (B k - 97) + 1) * 2 ^ ((w32 (25 - w32 (5 * x))) % 32 : Int).toNat)))) 3 3 (k + 1)) (TK_n t1 (by omega) (by omega)) (by omega) (by omega) (by omega) (by rw [rd_wk (by omega), rd_ws])
        refine ⟨h', ?_, y2, by rw [if_neg r]; exact y3, by rw [y4, rd_wk (by omega), rd_wk (by omega)], fr_tr (fr_wr rfl) (fr_tr (fr_wr rfl) y5)⟩
        simp only [b.2, a.2.1, a.2.2.1, dp.1, ev, t1.2.1.2]
        rw [if_neg r]
        repeat rw [ck_t (by omega)]
        rw [w32_i (x := k + 1) (by omega) (by omega), y1, show x + 1 + (fe_ (isL B) f (k + 1) - (k + 1)) = x + (fe_ (isL B) f (k + 1) - k) by omega]
theorem Tk_num_lp : ∀ (f : Nat) (k v : Int) (h : am_H), TKh h B n k → k + f = n → rd_ h 3 6 = v → ∃ h', Tk_stepNumber h 3 = some (h', 0) ∧ TKh h' B n (fe_ (isD B) f k) ∧ rd_ h' 3 6 = nuv_ B f k v ∧ rd_ h' 3 5 = rd_ h 3 5 ∧ rd_ h' 3 4 = 2 ∧ fr_ h h' (fun a => a = 3) := by
  intro f
  induction f with
  | zero =>
    intro k v h t hk ev
    obtain ⟨a, b, c, d, e⟩ := id t
    refine ⟨wr_ h 3 4 2, ?_, TK_w t (by omega), by rw [rd_wk (by omega)]; exact ev, by rw [rd_wk (by omega)], rd_ws _ _ _ _, fr_wr rfl⟩
    rw [Tk_stepNumber_e, ck_t (by omega), ck_t (by omega), b.1, b.2, if_pos (by omega), ck_t (by omega)]
  | succ f ih =>
    intro k v h t hk ev
    obtain ⟨a, b, c, d, e⟩ := id t
    have dp := d k (by omega) (by omega)
    rw [fe_s1, Tk_stepNumber_e]
    simp only [b.1, b.2]
    rw [ck_t (by omega), ck_t (by omega), if_neg (by omega), ck_t (by omega), ck_t (by omega), Tk_isDigit_s t (by omega) (by omega), bd_v]
    have ew : nuv_ B (f + 1) k v = if isD B k then nuv_ B f (k + 1) (if (1000000 : Int) < w32 (w32 (w32 (v * 10) + B k) - 48) then 1000000 else w32 (w32 (w32 (v * 10) + B k) - 48)) else v := rfl
    rw [ew]
    cases q : isD B k with
    | false =>
      rw [bz_f, if_pos rfl, if_neg (by simp), if_neg (by simp), ck_t (by omega)]
      exact ⟨wr_ h 3 4 2, rfl, TK_w t (by omega), by rw [rd_wk (by omega)]; exact ev, by rw [rd_wk (by omega)], rd_ws _ _ _ _, fr_wr rfl⟩
    | true =>
      rw [bz_t, if_neg (by omega), if_pos rfl, if_pos rfl]
      generalize hz : (if (1000000 : Int) < w32 (w32 (w32 (v * 10) + B k) - 48) then (1000000 : Int) else w32 (w32 (w32 (v * 10) + B k) - 48)) = z
      have t1 := TK_w (k := 6) (v := z) t (by omega)
      obtain ⟨h', y1, y2, y3, y4, y5, y6⟩ := ih (k + 1) z (wr_ (wr_ h 3 6 z) 3 3 (k + 1)) (TK_n t1 (by omega) (by omega)) (by omega) (by rw [rd_wk (by omega), rd_ws])
      refine ⟨h', ?_, y2, y3, by rw [y4, rd_wk (by omega), rd_wk (by omega)], y5, fr_tr (fr_wr rfl) (fr_tr (fr_wr rfl) y6)⟩
      simp only [b.2, a.2.1, a.2.2.1, dp.1, ev, hz, t1.2.1.2]
      repeat rw [ck_t (by omega)]
      rw [w32_i (x := k + 1) (by omega) (by omega), y1]
theorem Tk_signKind_s (h : am_H) (x : Int) : Tk_signKind h x = some (h, sg_k x) := by
  rw [Tk_signKind_e]
  unfold sg_k
  by_cases q40 : x = 40
  · subst q40; rfl
  by_cases q41 : x = 41
  · subst q41; rfl
  by_cases q42 : x = 42
  · subst q42; rfl
  by_cases q43 : x = 43
  · subst q43; rfl
  by_cases q45 : x = 45
  · subst q45; rfl
  by_cases q47 : x = 47
  · subst q47; rfl
  by_cases q59 : x = 59
  · subst q59; rfl
  by_cases q60 : x = 60
  · subst q60; rfl
  by_cases q61 : x = 61
  · subst q61; rfl
  by_cases q62 : x = 62
  · subst q62; rfl
  rw [if_neg q40, if_neg q41, if_neg q42, if_neg q43, if_neg q45, if_neg q47, if_neg q59, if_neg q60, if_neg q61, if_neg q62, if_neg q40, if_neg q41, if_neg q42, if_neg q43, if_neg q45, if_neg q47, if_neg q59, if_neg q60, if_neg q61, if_neg q62]
  simp only [ite_self]
end
