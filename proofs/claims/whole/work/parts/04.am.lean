/-! THE SMALL MACHINE: values are a tag and an Int; the heap is numbers, references, kinds and lengths by address; a block is a list of instruction meanings -/
abbrev am_V : Type := Nat × Int
abbrev am_M : Type := (Int → Nat) × (Int → Int) × Int × Int
abbrev am_H : Type := (Int → Int → Int) × (Int → Int → Int) × am_M
def rd_ (h : am_H) (a k : Int) : Int := h.1 a k
def rf_ (h : am_H) (a k : Int) : Int := h.2.1 a k
def kd_ (h : am_H) (a : Int) : Nat := h.2.2.1 a
def ln_ (h : am_H) (a : Int) : Int := h.2.2.2.1 a
def nn_ (h : am_H) : Int := h.2.2.2.2.1
def ss_ (h : am_H) : Int := h.2.2.2.2.2
def wr_ (h : am_H) (a k v : Int) : am_H := (fun x y => if x = a ∧ y = k then v else h.1 x y, h.2)
def wf_ (h : am_H) (a k v : Int) : am_H := (h.1, fun x y => if x = a ∧ y = k then v else h.2.1 x y, h.2.2)
def nw_ (h : am_H) (kind : Nat) (n : Int) : am_H :=
  (fun x y => if x = nn_ h then 0 else h.1 x y, fun x y => if x = nn_ h then -1 else h.2.1 x y, fun x => if x = nn_ h then kind else h.2.2.1 x, fun x => if x = nn_ h then n else h.2.2.2.1 x, nn_ h + 1, ss_ h + n)
def cp_ (h : am_H) (src sp dst dp n : Int) : am_H := (fun x y => if x = dst ∧ dp ≤ y ∧ y < dp + n then h.1 src (sp + (y - dp)) else h.1 x y, h.2)
def w32 (x : Int) : Int := (x + 2147483648) % 4294967296 - 2147483648
def w64 (x : Int) : Int := (x + 9223372036854775808) % 18446744073709551616 - 9223372036854775808
def w8_ (x : Int) : Int := (x + 128) % 256 - 128
def i32_ (x : Int) : Prop := -2147483648 ≤ x ∧ x < 2147483648
def i64_ (x : Int) : Prop := -9223372036854775808 ≤ x ∧ x < 9223372036854775808
abbrev am_O : Type := Option (am_H × Int)
abbrev am_K : Type := List am_V → List am_V → am_H → am_O
abbrev am_C : Type := Nat → List am_V → am_H → am_O
abbrev am_J : Type := Nat → am_K
abbrev am_I : Type := am_C → am_J → am_K → am_K
def ck_ (p : Prop) [Decidable p] (x : am_O) : am_O := if p then x else none
def tg_ (t c : Nat) (x : am_O) : am_O := match Nat.beq t c with
  | true => x
  | false => none
def bd_ (x : am_O) (f : am_H → Int → am_O) : am_O := match x with
  | some r => f r.1 r.2
  | none => none
def bl_ (b : Bool) (x : am_O) : am_O := match b with
  | true => x
  | false => none
/-- stack tops: one, two, three values -/
def s1_ (st : List am_V) (f : Nat → Int → List am_V → am_O) : am_O := match st with
  | v :: r => f v.1 v.2 r
  | [] => none
/-- a value of a local -/
def l1_ (ls : List am_V) (i : Nat) (f : Nat → Int → am_O) : am_O := match ls[i]? with
  | some v => f v.1 v.2
  | none => none
def st_ (i : Nat) (v : am_V) (ls : List am_V) : List am_V :=
  ls.mapIdx (fun j w => bif Nat.beq j i then v else bif Nat.beq (j + 1) i && Nat.beq w.1 1 then (9, 0) else bif Nat.beq j (i + 1) && Nat.beq v.1 1 then (9, 0) else w)
-- the instructions
def i_push (t : Nat) (n : Int) : am_I := fun _ _ k ls st h => k ls ((t, n) :: st) h
def i_load (i t : Nat) : am_I := fun _ _ k ls st h => l1_ ls i fun t' x => tg_ t' t (k ls ((t, x) :: st) h)
def i_store (i t : Nat) : am_I := fun _ _ k ls st h => s1_ st fun t' x r => tg_ t' t (k (st_ i (t, x) ls) r h)
def i_inc (i : Nat) (n : Int) : am_I := fun _ _ k ls st h => l1_ ls i fun t' x => tg_ t' 0 (k (st_ i (0, w32 (x + n)) ls) st h)
def i_dup : am_I := fun _ _ k ls st h => s1_ st fun t x r => bl_ (!Nat.beq t 1) (k ls ((t, x) :: (t, x) :: r) h)
def i_dup2 : am_I := fun _ _ k ls st h => s1_ st fun t x r => s1_ r fun u y r => bl_ (!Nat.beq t 1) (bl_ (!Nat.beq u 1) (k ls ((t, x) :: (u, y) :: (t, x) :: (u, y) :: r) h))
def i_pop : am_I := fun _ _ k ls st h => s1_ st fun t _ r => bl_ (!Nat.beq t 1) (k ls r h)
def i_op2 (t : Nat) (f : Int → Int → Int) : am_I := fun _ _ k ls st h => s1_ st fun t2 b r => s1_ r fun t1 a r => tg_ t2 t (tg_ t1 t (k ls ((t, f a b) :: r) h))
def i_dv2 (t : Nat) (f : Int → Int → Int) : am_I := fun _ _ k ls st h => s1_ st fun t2 b r => s1_ r fun t1 a r => tg_ t2 t (tg_ t1 t (ck_ (b ≠ 0) (k ls ((t, f a b) :: r) h)))
def i_op1 (t u : Nat) (f : Int → Int) : am_I := fun _ _ k ls st h => s1_ st fun t1 a r => tg_ t1 t (k ls ((u, f a) :: r) h)
def lcm_ (a b : Int) : Int := if a < b then -1 else if a = b then 0 else 1
def i_lcmp : am_I := fun _ _ k ls st h => s1_ st fun t2 b r => s1_ r fun t1 a r => tg_ t2 1 (tg_ t1 1 (k ls ((0, lcm_ a b) :: r) h))
def i_if1 (c : Int → Prop) [∀ a, Decidable (c a)] (b1 b2 : Nat) : am_I := fun _ j _ ls st h => s1_ st fun t a r => tg_ t 0 (if c a then j b1 ls r h else j b2 ls r h)
def i_if2 (c : Int → Int → Prop) [∀ a b, Decidable (c a b)] (b1 b2 : Nat) : am_I := fun _ j _ ls st h => s1_ st fun t2 b r => s1_ r fun t1 a r => tg_ t2 0 (tg_ t1 0 (if c a b then j b1 ls r h else j b2 ls r h))
def i_ifn (b1 b2 : Nat) : am_I := fun _ j _ ls st h => s1_ st fun t a r => bl_ (Nat.ble 10 t) (if a < 0 then j b1 ls r h else j b2 ls r h)
def i_goto (b : Nat) : am_I := fun _ j _ ls st h => j b ls st h
def sw_ (j : Nat → am_O) (d : Nat) (x : Int) : List (Int × Nat) → am_O
  | [] => j d
  | q :: qs => if x = q.1 then j q.2 else sw_ j d x qs
def i_sw (d : Nat) (qs : List (Int × Nat)) : am_I := fun _ j _ ls st h => s1_ st fun t x r => tg_ t 0 (sw_ (fun b => j b ls r h) d x qs)
def i_getf (t0 : Nat) (f : Int) (t : Nat) : am_I := fun _ _ k ls st h => s1_ st fun t1 a r => tg_ t1 t0 (ck_ (0 ≤ a) (k ls ((t, rd_ h a f) :: r) h))
def i_getr (t0 : Nat) (f : Int) (t : Nat) : am_I := fun _ _ k ls st h => s1_ st fun t1 a r => tg_ t1 t0 (ck_ (0 ≤ a) (k ls ((t, rf_ h a f) :: r) h))
def i_putf (t0 : Nat) (f : Int) (t : Nat) : am_I := fun _ _ k ls st h => s1_ st fun t2 v r => s1_ r fun t1 a r => tg_ t2 t (tg_ t1 t0 (ck_ (0 ≤ a) (k ls r (wr_ h a f v))))
def i_putz (t0 : Nat) (f : Int) : am_I := fun _ _ k ls st h => s1_ st fun t2 v r => s1_ r fun t1 a r => tg_ t2 0 (tg_ t1 t0 (ck_ (0 ≤ a) (ck_ (v = 0 ∨ v = 1) (k ls r (wr_ h a f v)))))
def i_putr (t0 : Nat) (f : Int) (t : Nat) : am_I := fun _ _ k ls st h => s1_ st fun t2 v r => s1_ r fun t1 a r => tg_ t2 t (tg_ t1 t0 (ck_ (0 ≤ a) (k ls r (wf_ h a f v))))
def i_putn (t0 : Nat) (f : Int) : am_I := fun _ _ k ls st h => s1_ st fun t2 _ r => s1_ r fun t1 a r => tg_ t2 3 (tg_ t1 t0 (ck_ (0 ≤ a) (k ls r (wf_ h a f (-1)))))
def i_ald (t0 t : Nat) : am_I := fun _ _ k ls st h => s1_ st fun t2 i r => s1_ r fun t1 a r => tg_ t2 0 (tg_ t1 t0 (ck_ (0 ≤ a) (ck_ (0 ≤ i ∧ i < ln_ h a) (k ls ((t, rd_ h a i) :: r) h))))
def i_aldr (t0 t : Nat) : am_I := fun _ _ k ls st h => s1_ st fun t2 i r => s1_ r fun t1 a r => tg_ t2 0 (tg_ t1 t0 (ck_ (0 ≤ a) (ck_ (0 ≤ i ∧ i < ln_ h a) (k ls ((t, rf_ h a i) :: r) h))))
def i_ast (t0 t : Nat) : am_I := fun _ _ k ls st h => s1_ st fun t3 v r => s1_ r fun t2 i r => s1_ r fun t1 a r => tg_ t3 t (tg_ t2 0 (tg_ t1 t0 (ck_ (0 ≤ a) (ck_ (0 ≤ i ∧ i < ln_ h a) (k ls r (wr_ h a i v))))))
def i_bast : am_I := fun _ _ k ls st h => s1_ st fun t3 v r => s1_ r fun t2 i r => s1_ r fun t1 a r => tg_ t3 0 (tg_ t2 0 (tg_ t1 31 (ck_ (0 ≤ a) (ck_ (0 ≤ i ∧ i < ln_ h a) (k ls r (wr_ h a i (w8_ v)))))))
def i_zast : am_I := fun _ _ k ls st h => s1_ st fun t3 v r => s1_ r fun t2 i r => s1_ r fun t1 a r => tg_ t3 0 (tg_ t2 0 (tg_ t1 32 (ck_ (0 ≤ a) (ck_ (0 ≤ i ∧ i < ln_ h a) (ck_ (v = 0 ∨ v = 1) (k ls r (wr_ h a i v)))))))
def i_astr (t0 t : Nat) : am_I := fun _ _ k ls st h => s1_ st fun t3 v r => s1_ r fun t2 i r => s1_ r fun t1 a r => tg_ t3 t (tg_ t2 0 (tg_ t1 t0 (ck_ (0 ≤ a) (ck_ (0 ≤ v) (ck_ (0 ≤ i ∧ i < ln_ h a) (k ls r (wf_ h a i v)))))))
def i_alen (t0 : Nat) : am_I := fun _ _ k ls st h => s1_ st fun t1 a r => tg_ t1 t0 (ck_ (0 ≤ a) (k ls ((0, ln_ h a) :: r) h))
def i_newa (kind : Nat) : am_I := fun _ _ k ls st h => s1_ st fun t n r => tg_ t 0 (ck_ (0 ≤ n ∧ n ≤ 1000000) (k ls ((10 + kind, nn_ h) :: r) (nw_ h kind n)))
def i_new (kind : Nat) (n : Int) : am_I := fun _ _ k ls st h => k ls ((10 + kind, nn_ h) :: st) (nw_ h kind n)
/-- an element of a written row (a static array), a sign of a written text -/
def i_tab (t0 : Nat) (q : Int) (n : Int) (row : List Int) : am_I := fun _ _ k ls st h => s1_ st fun t2 i r => s1_ r fun t1 a r => tg_ t2 0 (tg_ t1 t0 (bl_ (decide (a = q)) (ck_ (0 ≤ i ∧ i < n) (k ls ((0, row.getD i.toNat 0) :: r) h))))
def i_con (t0 : Nat) (q n : Int) : am_I := fun _ _ k ls st h => s1_ st fun t1 a r => tg_ t1 t0 (bl_ (decide (a = q)) (k ls ((0, n) :: r) h))
def i_copy : am_I := fun _ _ k ls st h => s1_ st fun t5 n r => s1_ r fun t4 dp r => s1_ r fun t3 d r => s1_ r fun t2 sp r => s1_ r fun t1 s r => tg_ t5 0 (tg_ t4 0 (tg_ t3 30 (tg_ t2 0 (tg_ t1 30
  (bl_ (Nat.ble (r.length) 2) (ck_ (0 ≤ s ∧ 0 ≤ d) (ck_ (0 ≤ sp ∧ 0 ≤ dp ∧ 0 ≤ n ∧ sp + n ≤ ln_ h s ∧ dp + n ≤ ln_ h d) (k ls r (cp_ h s sp d dp n)))))))))
def tk_ : Nat → List am_V → List am_V → (List am_V → List am_V → am_O) → am_O
  | 0, acc, st, f => f acc st
  | _ + 1, _, [], _ => none
  | n + 1, acc, v :: st, f => tk_ n (v :: acc) st f
def te_ : List am_V → List Nat → Bool
  | [], [] => true
  | v :: vs, t :: ts => Nat.beq v.1 t && te_ vs ts
  | _, _ => false
def ct_ : List am_V → Nat
  | [] => 0
  | v :: vs => (bif Nat.beq v.1 1 then 2 else 1) + ct_ vs
/-- a call: method, number of arguments (the receiver too), their tags, the answer's tag (9: none), whether a receiver comes first -/
def i_call (j n : Nat) (sg : List Nat) (rt : Nat) : am_I := fun C _ k ls st h => tk_ n [] st fun as r => bl_ (te_ as sg) (bl_ (Nat.ble (ct_ r) 8) (bd_ (C j as h) fun h v => k ls (bif Nat.beq rt 9 then r else (rt, v) :: r) h))
def i_vcall (j n : Nat) (sg : List Nat) (rt : Nat) : am_I := fun C _ k ls st h => tk_ n [] st fun as r => bl_ (te_ as sg) (bl_ (Nat.ble (ct_ r) 8) (s1_ as fun _ a _ => ck_ (0 ≤ a) (bd_ (C j as h) fun h v => k ls (bif Nat.beq rt 9 then r else (rt, v) :: r) h)))
def i_oini (t0 : Nat) : am_I := fun _ _ k ls st h => s1_ st fun t1 a r => tg_ t1 t0 (bl_ (Nat.ble (ct_ r) 8) (ck_ (0 ≤ a) (k ls r h)))
def i_ret (t : Nat) : am_I := fun _ _ _ _ st h => s1_ st fun t1 v r => tg_ t1 t (bl_ r.isEmpty (some (h, v)))
def i_zret : am_I := fun _ _ _ _ st h => s1_ st fun t1 v r => tg_ t1 0 (bl_ r.isEmpty (ck_ (v = 0 ∨ v = 1) (some (h, v))))
def i_vret : am_I := fun _ _ _ _ st h => bl_ st.isEmpty (some (h, 0))
/-- a block: instructions (place, instruction, length, meaning) and the block that follows -/
abbrev am_B : Type := List (Nat × Instr × Nat × am_I) × Nat
def ex_ (C : am_C) (J : am_J) (fall : Nat) : List (Nat × Instr × Nat × am_I) → am_K
  | [] => J fall
  | q :: qs => q.2.2.2 C J (ex_ C J fall qs)
def mk_ : List Bool → List am_V → List am_V
  | b :: bs, v :: vs => (bif b then v else (9, 0)) :: mk_ bs vs
  | _, _ => []
def en_ : Nat → List am_V → List am_V
  | 0, _ => []
  | n + 1, [] => (9, 0) :: en_ n []
  | n + 1, v :: vs => bif Nat.beq v.1 1 then v :: (match n with
    | 0 => []
    | m + 1 => (9, 0) :: en_ m vs) else v :: en_ n vs
/-- a method: number of locals, blocks with the masks of their live locals -/
abbrev am_P : Type := Nat → Option (Nat × List (List Bool × am_B))
def bk_ (P : am_P) (k b : Nat) : Option (List Bool × am_B) := (P k).bind fun q => q.2[b]?
def jm_ (P : am_P) (r : Nat → Nat → am_K) (k : Nat) : am_J := fun b ls st h => match bk_ P k b with
  | some q => r k b (mk_ q.1 ls) st h
  | none => none
def cl_ (P : am_P) (r : Nat → Nat → am_K) : am_C := fun j as h => match P j with
  | some q => r j 0 (en_ q.1 as) [] h
  | none => none
def am_body (P : am_P) (r : Nat → Nat → am_K) (k b : Nat) : am_K := fun ls st h => match bk_ P k b with
  | some q => ex_ (cl_ P r) (jm_ P r k) q.2.2 q.2.1 ls st h
  | none => none
def am_run (P : am_P) : Nat → Nat → Nat → am_K
  | 0 => fun _ _ _ _ _ => none
  | n + 1 => am_body P (am_run P n)
/-- the answer, by however many steps -/
noncomputable def am_R (P : am_P) (k b : Nat) : am_K := fun ls st h => by
  classical
  exact if q : ∃ r, ∃ n, am_run P n k b ls st h = some r then some (Classical.choose q) else none
