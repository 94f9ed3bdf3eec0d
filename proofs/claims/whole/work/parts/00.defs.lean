/-! THE FUNCTIONS ALONE: for quick rounds over the pure side (never handed in) -/
abbrev rKd : Type := (Nat × FieldType) ⊕ Nat
abbrev rV : Type := (Nat → Nat → Int32) × (Nat → Nat → Int64) × (Nat → Nat → Option Nat)
abbrev rS : Type := List rKd × (Nat → Nat → Option Nat) × Bool × Nat × (Nat → Int32)
def rlen : List Nat := [7, 6, 12]
def rbyt : List (List Int32) := [[105, 119, 103, 116, 109, 97, 107], [101, 114, 118, 110, 104, 116], [120, 107, 119, 103, 108, 109, 97, 112, 99, 101, 106, 115]]
def rtb : List (List Int32) := [[0, 2, 1, 0, 0, 0, 0, 0, 1, 0, 1, 0], [23, 24, 999, 999, 999, 99, 99, 100, 99, 99, 9, 9], [0, 8, 300, 0, 0, 0, 0, 0, 5, 0, 1, 0]]
def rI (v : rV) (k j : Nat) (x : Int32) : rV := (fun a b => if a = k ∧ b = j then x else v.1 a b, v.2.1, v.2.2)
def rL (v : rV) (k j : Nat) (x : Int64) : rV := (v.1, fun a b => if a = k ∧ b = j then x else v.2.1 a b, v.2.2)
def rR (v : rV) (k j : Nat) (x : Option Nat) : rV := (v.1, v.2.1, fun a b => if a = k ∧ b = j then x else v.2.2 a b)
def rCp (v : rV) (k k0 sp dp n : Nat) : rV := (fun a b => if a = k then va_cpy (v.1 k0) (v.1 k) sp dp n b else v.1 a b, v.2.1, v.2.2)
def rCt (v : rV) (k : Nat) (f : Nat → Int32) (sp dp n : Nat) : rV := (fun a b => if a = k then va_cpy f (v.1 k) sp dp n b else v.1 a b, v.2.1, v.2.2)
def isStrip (k : Nat) : Bool := ([60, 98, 136] : List Nat).contains k
def isBody (k : Nat) : Bool := ([74, 76, 78, 80, 82, 84, 86, 88, 90, 92, 94, 96, 112, 114, 116, 118, 120, 122, 124, 126, 128, 130, 132, 134, 150, 152, 154, 156, 158, 160, 162, 164, 166, 168, 170, 172] : List Nat).contains k
def isForm (k : Nat) : Bool := ([4, 11, 14, 17, 20, 25, 28, 31, 34] : List Nat).contains k
theorem is_mem {l : List Nat} {k : Nat} {p : Nat → Prop} (h : l.contains k = true) (hp : ∀ x ∈ l, p x) : p k := hp k (by simpa using h)
def vlet {α β : Type} (a : α) (f : α → β) : β := f a
theorem vlet_ex {α β : Type} {a : α} {f : α → β} {r : β} (h : vlet a f = r) : ∃ y, y = a ∧ f y = r := ⟨a, rfl, h⟩
theorem grd {α : Type} {c : Prop} {i : Decidable c} {e : Option α} {r : α} (h : (@ite (Option α) c i e none) = some r) : c ∧ e = some r := by
  by_cases hc : c
  · rw [if_pos hc] at h
    exact ⟨hc, h⟩
  · rw [if_neg hc] at h
    cases h
theorem grdn {α : Type} {c : Prop} {i : Decidable c} {e : Option α} {r : α} (h : (@ite (Option α) c i none e) = some r) : ¬ c ∧ e = some r := by
  by_cases hc : c
  · rw [if_pos hc] at h
    cases h
  · rw [if_neg hc] at h
    exact ⟨hc, h⟩
def bI (b : Bool) : Int32 := if b then 1 else 0
theorem bI_p {b : Bool} (h : ¬ bI b = 0) : b = true := by cases b <;> first | rfl | exact absurd rfl h
theorem bI_n {b : Bool} (h : bI b = 0) : ¬ b = true := by
  cases b
  · exact Bool.false_ne_true
  · exact absurd h (by decide)
theorem bI_01 (b : Bool) : bI b = 0 ∨ bI b = 1 := by cases b <;> simp [bI]
def sfrom (c : Int32) : List Int32 → Nat → Int32
  | [], _ => -1
  | b :: l, j => if b = c then nI j else sfrom c l (j + 1)
def sidx (i : Nat) (c : Int32) : Int32 := if c < 0 then -1 else if 255 < c then -1 else sfrom c.toInt8.toInt32 (rbyt.getD i []) 0
def f_X0_become (v : rV) (k0 : Nat) (k1 : Nat) (a2 : Int32) (a3 : Int32) : Option (rV) := vlet (rCp v (k0 + 1) k1 0 0 12) fun v1 =>
  vlet (rI v1 k0 1 a2) fun v2 =>
  vlet (rI v2 k0 2 a3) fun v3 =>
  vlet (rI v3 k0 3 ((a3 + (v3.1 k1 1)) - (1 : Int32))) fun v4 =>
  vlet (rI v4 k0 4 (0 : Int32)) fun v5 =>
  some v5
def f_X0_copy (v : rV) (k0 : Nat) (k1 : Nat) : Option (rV) := vlet (rCp v (k0 + 1) (k1 + 1) 0 0 12) fun v1 =>
  vlet (rI v1 k0 1 (v1.1 k1 1)) fun v2 =>
  vlet (rI v2 k0 2 (v2.1 k1 2)) fun v3 =>
  vlet (rI v3 k0 3 (v3.1 k1 3)) fun v4 =>
  vlet (rI v4 k0 4 (v4.1 k1 4)) fun v5 =>
  some v5
def f_X0_takeIn_60   (v : rV) (k0 : Nat) (k1 : Nat) (a3 : Int32) (a4 : Int32) (a5 : Int32) : Option (rV) := vlet (rI v (k0 + 1) 2 a3) fun v4 =>
  vlet (rI v4 (k0 + 1) 3 a4) fun v5 =>
  vlet (rI v5 (k0 + 1) 4 a5) fun v6 =>
  vlet (rI v6 k0 3 ((v6.1 k0 3) + (v6.1 k1 1))) fun v7 =>
  some v7
def f_X0_takeIn (v : rV) (k0 : Nat) (k1 : Nat) (a2 : Int32) : Option (rV) := vlet ((v.1 (k0 + 1) 2) + (v.1 k1 2) : Int32) fun x1 =>
  vlet ((v.1 (k0 + 1) 3) + (v.1 k1 3) : Int32) fun x2 =>
  vlet ((v.1 (k0 + 1) 4) + (v.1 k1 4) : Int32) fun x3 =>
  if (v.1 k0 1) ≤ a2 then
  (f_X0_takeIn_60  v k0 k1 x1 x2 x3)
else
  (vlet (rCp v (k0 + 1) k1 0 0 12) fun v8 =>
  vlet (rI v8 k0 1 a2) fun v9 =>
  f_X0_takeIn_60  v9 k0 k1 x1 x2 x3)
def f_X0_weightOf (v : rV) (k0 : Nat) (a1 : Int32) : Int32 := vlet (a1 - (v.1 k0 2) : Int32) fun x1 =>
  ((x1 + (1 : Int32)) * (((v.1 k0 3) - a1) + (1 : Int32))) * ((10 : Int32) + ((v.1 (k0 + 1) 11) * x1))
def f_X0_width (v : rV) (k0 : Nat) : Int32 := ((v.1 k0 3) - (v.1 k0 2)) + (1 : Int32)
def f_X6_byteAt (v : rV) (a1 : Int32) : Option (Int32) := if a1 < 0 then
  (some (-1 : Int32))
else
  (if (v.1 1 1) ≤ a1 then
  (some (-1 : Int32))
else
  (if (160 : Int32) ≤ a1 then
  (some (-1 : Int32))
else
  (if ¬ a1 < 0 ∧ a1.toNatClampNeg < 160 then
  (some (v.1 2 a1.toNatClampNeg))
else none)))
def f_X7_has (a0 : Int32) (a1 : Int32) : Bool := if ((a0 >>> (a1 &&& 31)) &&& (1 : Int32)) = (1 : Int32) then
  (true)
else
  (false)
def f_X2_add (v : rV) (k0 : Nat) (a1 : Int32) : Option (rV) := if (162 : Int32) ≤ (v.1 k0 2) then
  (some v)
else
  (if ¬ (v.1 k0 2) < 0 ∧ (v.1 k0 2).toNatClampNeg < 162 then
  (vlet (rI v (k0 + 1) ((v.1 k0 2).toNatClampNeg) a1) fun v2 =>
  vlet (rI v2 k0 2 ((v2.1 k0 2) + (1 : Int32))) fun v3 =>
  some v3)
else none)
def f_X2_copy (v : rV) (k0 : Nat) (k1 : Nat) : Option (rV) := vlet (rCp v (k0 + 1) (k1 + 1) 0 0 162) fun v1 =>
  vlet (rI v1 k0 2 (v1.1 k1 2)) fun v2 =>
  some v2
def f_X2_endSkip (v : rV) (k0 : Nat) (a1 : Int32) : Option (rV) := if a1 < 0 then
  (some v)
else
  (if (v.1 k0 2) ≤ a1 then
  (some v)
else
  (if ¬ a1 < 0 ∧ a1.toNatClampNeg < 162 then
  (vlet (rI v (k0 + 1) a1.toNatClampNeg (((v.1 k0 2) - a1) - (1 : Int32))) fun v2 =>
  some v2)
else none))
def f_X2_joined (a0 : Int32) (a1 : Int64) (a3 : Int64) : Option (Int64) := if a0 = (-9 : Int32) then
  (some (a1 ||| a3))
else
  (if a0 = (-8 : Int32) then
  (some (a1 &&& a3))
else
  (if a0 = (-7 : Int32) then
  (if (lg_cmp a1 a3) ≤ 0 then
  (some (0 : Int64))
else
  (some (1 : Int64)))
else
  (if a0 = (-6 : Int32) then
  (if 0 ≤ (lg_cmp a1 a3) then
  (some (0 : Int64))
else
  (some (1 : Int64)))
else
  (if a0 = (-5 : Int32) then
  (if (lg_cmp a1 a3) = 0 then
  (some (1 : Int64))
else
  (some (0 : Int64)))
else
  (if a0 = (-4 : Int32) then
  (if (lg_cmp a3 (0 : Int64)) = 0 then
  (some (0 : Int64))
else
  (if a3 = 0 then none else
  some (a1 / a3)))
else
  (if a0 = (-3 : Int32) then
  (some (a1 * a3))
else
  (if a0 = (-2 : Int32) then
  (some (a1 - a3))
else
  (if a0 = (-1 : Int32) then
  (some (a1 + a3))
else
  (some (0 : Int64))))))))))
def f_X2_worth_255  (q4 : rV → Nat → Nat → Int32 → Int32 → Option (Int32 × rV)) (v : rV) (k0 : Nat) (k1 : Nat) (a2 : Int32) (a3 : Int32) : Option (Int32 × rV) := vlet (a3 + (1 : Int32)) fun x7 =>
  q4 v k0 k1 a2 x7
def f_X2_worth_89  (q4 : rV → Nat → Nat → Int32 → Int32 → Option (Int32 × rV)) (v : rV) (k0 : Nat) (k1 : Nat) (a2 : Int32) (a3 : Int32) (s0 : Int32) (s1 : Int32) (ks2 : Nat) : Option (Int32 × rV) := if ¬ s1 < 0 ∧ s1.toNatClampNeg < 32 then
  (vlet (rI v ks2 s1.toNatClampNeg s0) fun v5 =>
  vlet (a2 + (1 : Int32)) fun x6 =>
  f_X2_worth_255 q4 v5 k0 k1 x6 a3)
else none
def f_X2_worth_41  (q4 : rV → Nat → Nat → Int32 → Int32 → Option (Int32 × rV)) (v : rV) (k0 : Nat) (k1 : Nat) (a2 : Int32) (a3 : Int32) (a4 : Int32) : Option (Int32 × rV) := if a2 < (32 : Int32) then
  (vlet ((-20 : Int32) - a4 : Int32) fun x3 =>
  if a4 < 0 then
  (if (7 : Int32) ≤ x3 then
  (f_X2_worth_89 q4 v k0 k1 a2 a3 (0 : Int32) a2 (k0 + 2))
else
  (if ¬ x3 < 0 ∧ x3.toNatClampNeg < 7 then
  (f_X2_worth_89 q4 v k0 k1 a2 a3 (v.1 k1 x3.toNatClampNeg) a2 (k0 + 2))
else none))
else
  (f_X2_worth_89 q4 v k0 k1 a2 a3 a4 a2 (k0 + 2)))
else
  (some ((0 : Int32), v))
def f_X2_worth_198  (q4 : rV → Nat → Nat → Int32 → Int32 → Option (Int32 × rV)) (v : rV) (k0 : Nat) (k1 : Nat) (a2 : Int32) (s0 : Int32) (s1 : Int32) : Option (Int32 × rV) := vlet (s1 + s0 : Int32) fun x21 =>
  f_X2_worth_255 q4 v k0 k1 a2 x21
def f_X2_worth_197  (q4 : rV → Nat → Nat → Int32 → Int32 → Option (Int32 × rV)) (v : rV) (k0 : Nat) (k1 : Nat) (a2 : Int32) (s0 : Int32) : Option (Int32 × rV) := f_X2_worth_198 q4 v k0 k1 a2 (0 : Int32) s0
def f_X2_worth_156  (q4 : rV → Nat → Nat → Int32 → Int32 → Option (Int32 × rV)) (v : rV) (k0 : Nat) (k1 : Nat) (a2 : Int32) (a3 : Int32) (s0 : Int32) (s1 : Int32) (ks2 : Nat) : Option (Int32 × rV) := if ¬ s1 < 0 ∧ s1.toNatClampNeg < 32 then
  (vlet (rI v ks2 s1.toNatClampNeg s0) fun v27 =>
  f_X2_worth_255 q4 v27 k0 k1 a2 a3)
else none
def f_X2_worth_4   : Nat → rV → Nat → Nat → Int32 → Int32 → Option (Int32 × rV)
  | 0, _, _, _, _, _ => none
  | n + 1, v, k0, k1, a2, a3 => if (v.1 k0 2) ≤ a3 then
  (some ((0 : Int32), v))
else
  (if (162 : Int32) ≤ a3 then
  (some ((0 : Int32), v))
else
  (if ¬ a3 < 0 ∧ a3.toNatClampNeg < 162 then
  (vlet (v.1 (k0 + 1) a3.toNatClampNeg : Int32) fun x2 =>
  if 0 ≤ x2 then
  (f_X2_worth_41 (fun v k0 k1 a2 a3 => f_X2_worth_4  n v k0 k1 a2 a3) v k0 k1 a2 a3 x2)
else
  (if (-20 : Int32) < x2 then
  (if a2 < (1 : Int32) then
  (some ((0 : Int32), v))
else
  (if a2 ≤ (32 : Int32) then
  (if ¬ (a2 - (1 : Int32)) < 0 ∧ (a2 - (1 : Int32)).toNatClampNeg < 32 then
  (vlet (v.1 (k0 + 2) ((a2 - (1 : Int32)).toNatClampNeg) : Int32) fun x13 =>
  if x2 = (-12 : Int32) then
  (some (x13, v))
else
  (if x2 = (-10 : Int32) then
  (if x13 = 0 then
  (f_X2_worth_156 (fun v k0 k1 a2 a3 => f_X2_worth_4  n v k0 k1 a2 a3) v k0 k1 a2 a3 (1 : Int32) (a2 - (1 : Int32)) (k0 + 2))
else
  (f_X2_worth_156 (fun v k0 k1 a2 a3 => f_X2_worth_4  n v k0 k1 a2 a3) v k0 k1 a2 a3 (0 : Int32) (a2 - (1 : Int32)) (k0 + 2)))
else
  (if x2 = (-11 : Int32) then
  (vlet (a2 + (-1 : Int32)) fun x19 =>
  vlet (a3 + (1 : Int32)) fun x20 =>
  if x13 = 0 then
  (if (162 : Int32) ≤ x20 then
  (f_X2_worth_197 (fun v k0 k1 a2 a3 => f_X2_worth_4  n v k0 k1 a2 a3) v k0 k1 x19 x20)
else
  (if ¬ x20 < 0 ∧ x20.toNatClampNeg < 162 then
  (f_X2_worth_198 (fun v k0 k1 a2 a3 => f_X2_worth_4  n v k0 k1 a2 a3) v k0 k1 x19 (v.1 (k0 + 1) x20.toNatClampNeg) x20)
else none))
else
  (f_X2_worth_197 (fun v k0 k1 a2 a3 => f_X2_worth_4  n v k0 k1 a2 a3) v k0 k1 x19 x20))
else
  (if (2 : Int32) ≤ a2 then
  (vlet (a2 + (-1 : Int32)) fun x14 =>
  if ¬ (x14 - (1 : Int32)) < 0 ∧ (x14 - (1 : Int32)).toNatClampNeg < 32 then
  ((f_X2_joined x2 ((v.1 (k0 + 2) ((x14 - (1 : Int32)).toNatClampNeg)).toInt64) x13.toInt64).bind fun p16 =>
  vlet (rI v (k0 + 2) ((x14 - (1 : Int32)).toNatClampNeg) ((if (if p16 < (1000000 : Int64) then p16 else (1000000 : Int64)) < (-1000000 : Int64) then (-1000000 : Int64) else (if p16 < (1000000 : Int64) then p16 else (1000000 : Int64))).toInt32)) fun v17 =>
  f_X2_worth_255 (fun v k0 k1 a2 a3 => f_X2_worth_4  n v k0 k1 a2 a3) v17 k0 k1 x14 a3)
else none)
else
  (some ((0 : Int32), v))))))
else none)
else
  (some ((0 : Int32), v))))
else
  (f_X2_worth_41 (fun v k0 k1 a2 a3 => f_X2_worth_4  n v k0 k1 a2 a3) v k0 k1 a2 a3 x2)))
else none))
def f_X2_worth (v : rV) (k0 : Nat) (k1 : Nat) : Option (Int32 × rV) := f_X2_worth_4  20000 v k0 k1 (0 : Int32) (0 : Int32)
def f_X4_has (v : rV) (k0 : Nat) (a1 : Int32) : Bool := if a1 < 0 then
  (false)
else
  (if (v.1 k0 1) ≤ a1 then
  (false)
else
  (if (4 : Int32) ≤ a1 then
  (false)
else
  (true)))
def f_X4_at (v : rV) (k0 : Nat) (a1 : Int32) : Option (Nat) := if (f_X4_has v k0 a1) = true then
  (if ¬ a1 < 0 ∧ a1.toNatClampNeg < 4 then
  (some (k0 + 2 + 3 * a1.toNatClampNeg))
else none)
else
  (some (k0 + 2 + 3 * 0))
def f_X4_keep (v : rV) (k0 : Nat) (k1 : Nat) : Option (Int32 × rV) := if (v.1 k0 1) < (4 : Int32) then
  (if ¬ (v.1 k0 1) < 0 ∧ (v.1 k0 1).toNatClampNeg < 4 then
  ((f_X2_copy v (k0 + 2 + 3 * (v.1 k0 1).toNatClampNeg) k1).bind fun p2 =>
  vlet (rI p2 k0 1 ((p2.1 k0 1) + (1 : Int32))) fun v3 =>
  some ((v3.1 k0 1) - (1 : Int32), v3))
else none)
else
  (some ((-1 : Int32), v))
def f_X6_append_51  (q3 : rV → Int32 → Int32 → Option (rV)) (v : rV) (a1 : Int32) (a2 : Int32) : Option (rV) := vlet (a2 + (-8 : Int32)) fun x2 =>
  q3 v a1 x2
def f_X6_append_3   : Nat → rV → Int32 → Int32 → Option (rV)
  | 0, _, _, _ => none
  | n + 1, v, a1, a2 => if a2 < 0 then
  (some v)
else
  (vlet (((a1.toUInt32 >>> (a2.toUInt32 &&& Int32.toUInt32 31)).toInt32) &&& (255 : Int32) : Int32) fun x1 =>
  if x1 = 0 then
  (f_X6_append_51 (fun v a1 a2 => f_X6_append_3  n v a1 a2) v a1 a2)
else
  (if (160 : Int32) ≤ (v.1 1 1) then
  (f_X6_append_51 (fun v a1 a2 => f_X6_append_3  n v a1 a2) v a1 a2)
else
  (if ¬ (v.1 1 1) < 0 ∧ (v.1 1 1).toNatClampNeg < 160 then
  (vlet (rI v 2 ((v.1 1 1).toNatClampNeg) x1) fun v4 =>
  vlet (rI v4 1 1 ((v4.1 1 1) + (1 : Int32))) fun v5 =>
  f_X6_append_51 (fun v a1 a2 => f_X6_append_3  n v a1 a2) v5 a1 a2)
else none)))
def f_X6_append (v : rV) (a1 : Int32) : Option (rV) := f_X6_append_3  20000 v a1 (24 : Int32)
def f_X6_bytesIn_22 (v : rV) (q5 : Int32 → Int32 → Int32 → Option (Int32)) (a0 : Int32) (a1 : Int32) (a2 : Int32) : Option (Int32) := vlet (a2 + (-8 : Int32)) fun x1 =>
  q5 a0 a1 x1
def f_X6_bytesIn_5 (v : rV)  : Nat → Int32 → Int32 → Int32 → Option (Int32)
  | 0, _, _, _ => none
  | n + 1, a0, a1, a2 => if a2 < 0 then
  (some a1)
else
  (if (((a0.toUInt32 >>> (a2.toUInt32 &&& Int32.toUInt32 31)).toInt32) &&& (255 : Int32)) = 0 then
  (f_X6_bytesIn_22 v (fun a0 a1 a2 => f_X6_bytesIn_5 v n a0 a1 a2) a0 a1 a2)
else
  (vlet (a1 + (1 : Int32)) fun x2 =>
  f_X6_bytesIn_22 v (fun a0 a1 a2 => f_X6_bytesIn_5 v n a0 a1 a2) a0 x2 a2))
def f_X6_bytesIn (v : rV) (a0 : Int32) : Option (Int32) := f_X6_bytesIn_5 v 20000 a0 (0 : Int32) (24 : Int32)
def f_X7_isDrop (v : rV) (a1 : Int32) : Bool := if a1 < 0 then
  (false)
else
  (if (v.1 0 13) ≤ a1 then
  (false)
else
  (if (12 : Int32) ≤ a1 then
  (false)
else
  (true)))
def f_X7_areTicks (a0 : Int32) : Bool := if a0 < (1 : Int32) then
  (false)
else
  (if (60 : Int32) < a0 then
  (false)
else
  (true))
def f_X7_isCell (a0 : Int32) : Bool := if a0 < 0 then
  (false)
else
  (if (24 : Int32) ≤ a0 then
  (false)
else
  (true))
def f_X7_areApart_57 (v : rV) (q4 : Int32 → Int32 → Int32 → Option (Bool)) (a1 : Int32) (a2 : Int32) (a3 : Int32) : Option (Bool) := vlet (a3 + (1 : Int32)) fun x2 =>
  q4 a1 a2 x2
def f_X7_areApart_4 (v : rV)  : Nat → Int32 → Int32 → Int32 → Option (Bool)
  | 0, _, _, _ => none
  | n + 1, a1, a2, a3 => if (v.1 0 13) ≤ a3 then
  (some true)
else
  (if (f_X7_has a1 a3) = true then
  (if ¬ a3 < 0 ∧ a3.toNatClampNeg < 12 then
  (vlet ((((1 : Int32) <<< ((v.1 (38 + a3.toNatClampNeg) 1) &&& 31)) - (1 : Int32)) <<< ((v.1 (38 + a3.toNatClampNeg) 0) &&& 31) : Int32) fun x4 =>
  if (a2 &&& x4) = 0 then
  (vlet (a2 ||| x4 : Int32) fun x5 =>
  f_X7_areApart_57 v (fun a1 a2 a3 => f_X7_areApart_4 v n a1 a2 a3) a1 x5 a3)
else
  (some false))
else none)
else
  (f_X7_areApart_57 v (fun a1 a2 a3 => f_X7_areApart_4 v n a1 a2 a3) a1 a2 a3))
def f_X7_areApart (v : rV) (a1 : Int32) : Option (Bool) := f_X7_areApart_4 v 20000 a1 (0 : Int32) (0 : Int32)
def f_X7_areDrops (v : rV) (a1 : Int32) : Bool := if ((a1.toUInt32 >>> ((v.1 0 13).toUInt32 &&& Int32.toUInt32 31)).toInt32) = 0 then
  (true)
else
  (false)
def f_X7_isStain (v : rV) (a1 : Int32) : Bool := if a1 < 0 then
  (false)
else
  (if (v.1 0 14) ≤ a1 then
  (false)
else
  (if (6 : Int32) ≤ a1 then
  (false)
else
  (true)))
def f_X7_blot_96 (v : rV) (q36 : Int32 → Int32 → Int32 → Int32 → Int32 → Int32 → Int32 → Int32 → Option (Int32)) (a1 : Int32) (a2 : Int32) (a3 : Int32) (a4 : Int32) (a5 : Int32) (a6 : Int32) (a8 : Int32) (s0 : Int32) : Option (Int32) := vlet (if a4 < a6 then a6 else a4 : Int32) fun x7 =>
  vlet (if a5 < s0 then s0 else a5 : Int32) fun x8 =>
  vlet (a8 + (1 : Int32)) fun x9 =>
  q36 a1 a2 a3 x7 x8 a6 s0 x9
def f_X7_blot_80 (v : rV) (q36 : Int32 → Int32 → Int32 → Int32 → Int32 → Int32 → Int32 → Int32 → Option (Int32)) (a1 : Int32) (a2 : Int32) (a3 : Int32) (a4 : Int32) (a5 : Int32) (a7 : Int32) (a8 : Int32) (a9 : Int32) (s0 : Int32) : Option (Int32) := if a9 ≤ 0 then
  (f_X7_blot_96 v q36 a1 a2 a3 a4 a5 s0 a8 (0 : Int32))
else
  (f_X7_blot_96 v q36 a1 a2 a3 a4 a5 s0 a8 (a7 + a9))
def f_X7_blot_67 (v : rV) (q36 : Int32 → Int32 → Int32 → Int32 → Int32 → Int32 → Int32 → Int32 → Option (Int32)) (a1 : Int32) (a2 : Int32) (a3 : Int32) (a4 : Int32) (a5 : Int32) (a6 : Int32) (a7 : Int32) (a8 : Int32) (a9 : Int32) : Option (Int32) := if a9 ≤ 0 then
  (f_X7_blot_80 v q36 a1 a2 a3 a4 a5 a7 a8 a9 (0 : Int32))
else
  (f_X7_blot_80 v q36 a1 a2 a3 a4 a5 a7 a8 a9 (a6 + (1 : Int32)))
def f_X7_blot_36 (v : rV)  : Nat → Int32 → Int32 → Int32 → Int32 → Int32 → Int32 → Int32 → Int32 → Option (Int32)
  | 0, _, _, _, _, _, _, _, _ => none
  | n + 1, a1, a2, a3, a4, a5, a6, a7, a8 => if (24 : Int32) ≤ a8 then
  (if a2 = 0 then
  (some a3)
else
  (if a2 = (1 : Int32) then
  (some a4)
else
  (some a5)))
else
  (if ¬ a1 < 0 ∧ a1.toNatClampNeg < 6 then
  (if ¬ a8 < 0 ∧ a8.toNatClampNeg < 24 then
  (vlet (v.1 (53 + a1.toNatClampNeg) a8.toNatClampNeg : Int32) fun x6 =>
  if x6 ≤ 0 then
  (f_X7_blot_67 v (fun a1 a2 a3 a4 a5 a6 a7 a8 => f_X7_blot_36 v n a1 a2 a3 a4 a5 a6 a7 a8) a1 a2 a3 a4 a5 a6 a7 a8 x6)
else
  (if a6 = 0 then
  (vlet (a3 + (1 : Int32)) fun x12 =>
  f_X7_blot_67 v (fun a1 a2 a3 a4 a5 a6 a7 a8 => f_X7_blot_36 v n a1 a2 a3 a4 a5 a6 a7 a8) a1 a2 x12 a4 a5 a6 a7 a8 x6)
else
  (f_X7_blot_67 v (fun a1 a2 a3 a4 a5 a6 a7 a8 => f_X7_blot_36 v n a1 a2 a3 a4 a5 a6 a7 a8) a1 a2 a3 a4 a5 a6 a7 a8 x6)))
else none)
else none)
def f_X7_blot (v : rV) (a1 : Int32) (a2 : Int32) : Option (Int32) := if (f_X7_isStain v a1) = true then
  (if a2 < 0 then
  (some (-1 : Int32))
else
  (if a2 ≤ (2 : Int32) then
  (f_X7_blot_36 v 20000 a1 a2 (0 : Int32) (0 : Int32) (0 : Int32) (0 : Int32) (0 : Int32) (0 : Int32))
else
  (some (-1 : Int32))))
else
  (some (-1 : Int32))
def f_X7_came (v : rV) (a1 : Int32) : Option (Int32) := if a1 < (1 : Int32) then
  (some (-1 : Int32))
else
  (if (v.1 60 15) < a1 then
  (some (-1 : Int32))
else
  (if a1 ≤ (120 : Int32) then
  (if ¬ (a1 - (1 : Int32)) < 0 ∧ (a1 - (1 : Int32)).toNatClampNeg < 120 then
  (some (v.1 72 ((a1 - (1 : Int32)).toNatClampNeg)))
else none)
else
  (some (-1 : Int32))))
def f_X7_count (v : rV) (a1 : Int32) : Int32 := if a1 = (0 : Int32) then
  (v.1 9 1)
else
  (if a1 = (1 : Int32) then
  (v.1 23 1)
else
  (if a1 = (2 : Int32) then
  (v.1 0 13)
else
  (if a1 = (3 : Int32) then
  (v.1 0 14)
else
  (if a1 = (4 : Int32) then
  (v.1 1 1)
else
  (if a1 = (5 : Int32) then
  (v.1 0 15)
else
  ((-1 : Int32)))))))
def f_X7_flow (v : rV) (a1 : Int32) : Option (Int32) := if (f_X7_isCell a1) = true then
  (if ¬ a1 < 0 ∧ a1.toNatClampNeg < 24 then
  (some (v.1 71 a1.toNatClampNeg))
else none)
else
  (some (-100000 : Int32))
def f_X7_isSort (a0 : Int32) : Bool := if a0 < 0 then
  (false)
else
  (if (2 : Int32) ≤ a0 then
  (false)
else
  (true))
def f_X7_free (v : rV) (a1 : Int32) (a2 : Int32) : Option (Int32) := if (f_X7_isCell a1) = true then
  (if (f_X7_isSort a2) = true then
  (if ¬ a2 < 0 ∧ a2.toNatClampNeg < 2 then
  (if ¬ a1 < 0 ∧ a1.toNatClampNeg < 24 then
  (some (v.1 (65 + a2.toNatClampNeg) a1.toNatClampNeg))
else none)
else none)
else
  (some (-1 : Int32)))
else
  (some (-1 : Int32))
def f_X7_isTriedLetter (a0 : Int32) : Bool := if a0 = (3 : Int32) then
  (true)
else
  (if a0 = (4 : Int32) then
  (true)
else
  (if a0 = (5 : Int32) then
  (true)
else
  (if a0 = (6 : Int32) then
  (true)
else
  (if a0 = (7 : Int32) then
  (true)
else
  (if a0 = (9 : Int32) then
  (true)
else
  (false))))))
def f_X7_lies (v : rV) (a1 : Int32) (a2 : Int32) : Option (Int32) := if (f_X7_isCell a1) = true then
  (if (f_X7_isSort a2) = true then
  (if ¬ a2 < 0 ∧ a2.toNatClampNeg < 2 then
  (if ¬ a1 < 0 ∧ a1.toNatClampNeg < 24 then
  (some (v.1 (68 + a2.toNatClampNeg) a1.toNatClampNeg))
else none)
else none)
else
  (some (-1 : Int32)))
else
  (some (-1 : Int32))
def f_X7_rush (v : rV) (a1 : Int32) : Int32 := if (v.1 60 19) = 0 then
  ((-1 : Int32))
else
  (if a1 = 0 then
  (v.1 60 18)
else
  (if a1 = (1 : Int32) then
  (v.1 60 19)
else
  ((-1 : Int32))))
def f_X7_speed (v : rV)  : Int32 := v.1 60 17
def f_X7_turned_57 (v : rV) (q23 : Int32 → Int32 → Int32 → Int32 → Option (Int32)) (a1 : Int32) (a2 : Int32) (a3 : Int32) (a4 : Int32) : Option (Int32) := vlet (a4 + (1 : Int32)) fun x7 =>
  q23 a1 a2 a3 x7
def f_X7_turned_23 (v : rV)  : Nat → Int32 → Int32 → Int32 → Int32 → Option (Int32)
  | 0, _, _, _, _ => none
  | n + 1, a1, a2, a3, a4 => if (24 : Int32) ≤ a4 then
  (some a3)
else
  (if ¬ a1 < 0 ∧ a1.toNatClampNeg < 6 then
  (if ¬ a4 < 0 ∧ a4.toNatClampNeg < 24 then
  (if ¬ a2 < 0 ∧ a2.toNatClampNeg < 6 then
  (if ¬ ((23 : Int32) - a4) < 0 ∧ ((23 : Int32) - a4).toNatClampNeg < 24 then
  (if (v.1 (53 + a1.toNatClampNeg) a4.toNatClampNeg) = (v.1 (53 + a2.toNatClampNeg) (((23 : Int32) - a4).toNatClampNeg)) then
  (f_X7_turned_57 v (fun a1 a2 a3 a4 => f_X7_turned_23 v n a1 a2 a3 a4) a1 a2 a3 a4)
else
  (vlet (a3 + (1 : Int32)) fun x8 =>
  f_X7_turned_57 v (fun a1 a2 a3 a4 => f_X7_turned_23 v n a1 a2 a3 a4) a1 a2 x8 a4))
else none)
else none)
else none)
else none)
def f_X7_turned (v : rV) (a1 : Int32) (a2 : Int32) : Option (Int32) := if (f_X7_isStain v a1) = true then
  (if (f_X7_isStain v a2) = true then
  (f_X7_turned_23 v 20000 a1 a2 (0 : Int32) (0 : Int32))
else
  (some (-1 : Int32)))
else
  (some (-1 : Int32))
def f_X7_water (v : rV) (a1 : Int32) : Option (Int32) := if (f_X7_isCell a1) = true then
  (if ¬ a1 < 0 ∧ a1.toNatClampNeg < 24 then
  (some (v.1 61 a1.toNatClampNeg))
else none)
else
  (some (-1 : Int32))
def f_X5_shape_97   : Nat → rV → Nat → Nat → Int32 → Int32 → Option (rV)
  | 0, _, _, _, _, _ => none
  | n + 1, v, k0, k1, a4, a5 => if (v.1 k1 3) < a5 then
  (some v)
else
  (if a4 ≤ 0 then
  (some v)
else
  (if ¬ a5 < 0 ∧ a5.toNatClampNeg < 24 then
  (vlet (rI v (k0 + 1) a5.toNatClampNeg ((v.1 (k0 + 1) a5.toNatClampNeg) + (1 : Int32))) fun v5 =>
  vlet (a4 + (-1 : Int32)) fun x6 =>
  vlet (a5 + (1 : Int32)) fun x7 =>
  f_X5_shape_97  n v5 k0 k1 x6 x7)
else none))
def f_X5_shape_47   : Nat → rV → Nat → Nat → Int32 → Int32 → Int32 → Int32 → Option (rV)
  | 0, _, _, _, _, _, _, _ => none
  | n + 1, v, k0, k1, a2, a3, a4, a5 => if (v.1 k1 3) < a5 then
  (vlet (v.1 k1 2 : Int32) fun x3 =>
  f_X5_shape_97  20000 v k0 k1 a4 x3)
else
  (if a3 = 0 then none else
  if ¬ a5 < 0 ∧ a5.toNatClampNeg < 24 then
  (vlet (rI v (k0 + 1) a5.toNatClampNeg ((a2 * (f_X0_weightOf v k1 a5)) / a3)) fun v12 =>
  vlet (a4 - (v12.1 (k0 + 1) a5.toNatClampNeg) : Int32) fun x13 =>
  vlet (a5 + (1 : Int32)) fun x14 =>
  f_X5_shape_47  n v12 k0 k1 a2 a3 x13 x14)
else none)
def f_X5_shape_8   : Nat → rV → Nat → Nat → Int32 → Int32 → Int32 → Option (rV)
  | 0, _, _, _, _, _, _ => none
  | n + 1, v, k0, k1, a2, a3, a4 => if (v.1 k1 3) < a4 then
  (if (1 : Int32) ≤ a3 then
  (vlet (v.1 k1 2 : Int32) fun x2 =>
  f_X5_shape_47  20000 v k0 k1 a2 a3 a2 x2)
else
  (some v))
else
  (vlet (a3 + (f_X0_weightOf v k1 a4) : Int32) fun x19 =>
  vlet (a4 + (1 : Int32)) fun x20 =>
  f_X5_shape_8  n v k0 k1 a2 x19 x20)
def f_X5_shape (v : rV) (k0 : Nat) (k1 : Nat) (a2 : Int32) : Option (rV) := vlet (v.1 k1 2 : Int32) fun x1 =>
  f_X5_shape_8  20000 v k0 k1 a2 (0 : Int32) x1
def f_X5_layOut_63  (q19 : rV → Nat → Nat → Int32 → Int32 → Int32 → Int32 → Option (rV)) (v : rV) (k0 : Nat) (k1 : Nat) (a2 : Int32) (a3 : Int32) (a4 : Int32) (a5 : Int32) (s0 : Int32) (s1 : Int32) (s2 : Int32) (ks3 : Nat) : Option (rV) := if ¬ s2 < 0 ∧ s2.toNatClampNeg < 24 then
  (vlet (rI v ks3 s2.toNatClampNeg (s1 + s0)) fun v7 =>
  vlet (a5 + (1 : Int32)) fun x8 =>
  q19 v7 k0 k1 a2 a3 a4 x8)
else none
def f_X5_layOut_19   : Nat → rV → Nat → Nat → Int32 → Int32 → Int32 → Int32 → Option (rV)
  | 0, _, _, _, _, _, _, _ => none
  | n + 1, v, k0, k1, a2, a3, a4, a5 => if (v.1 k1 3) < a5 then
  (some v)
else
  (vlet (a5 - (v.1 k1 2) : Int32) fun x4 =>
  if ¬ a2 < 0 ∧ a2.toNatClampNeg < 2 then
  (if a4 = 0 then none else
  if a4 = 0 then none else
  if (a3 - a3 / a4 * a4) ≤ x4 then
  (f_X5_layOut_63 (fun v k0 k1 a2 a3 a4 a5 => f_X5_layOut_19  n v k0 k1 a2 a3 a4 a5) v k0 k1 a2 a3 a4 a5 (0 : Int32) (a3 / a4) a5 (k0 + 5 + a2.toNatClampNeg))
else
  (f_X5_layOut_63 (fun v k0 k1 a2 a3 a4 a5 => f_X5_layOut_19  n v k0 k1 a2 a3 a4 a5) v k0 k1 a2 a3 a4 a5 (1 : Int32) (a3 / a4) a5 (k0 + 5 + a2.toNatClampNeg)))
else none)
def f_X5_layOut (v : rV) (k0 : Nat) (k1 : Nat) (a2 : Int32) (a3 : Int32) : Option (rV) := vlet (f_X0_width v k1 : Int32) fun x2 =>
  if (1 : Int32) ≤ x2 then
  (vlet (v.1 k1 2 : Int32) fun x3 =>
  f_X5_layOut_19  20000 v k0 k1 a2 a3 x2 x3)
else
  (some v)
def f_X5_begin_22  (q2 : rV → Nat → Int32 → Option (rV)) : Nat → rV → Nat → Int32 → Nat → Int32 → Option (rV)
  | 0, _, _, _, _, _ => none
  | n + 1, v, k0, a1, k2, a3 => if (v.1 k2 3) < a3 then
  (vlet (rI v k0 12 ((v.1 k0 12) ||| (((1 : Int32) <<< ((v.1 k2 2) &&& 31)) ||| ((1 : Int32) <<< ((v.1 k2 3) &&& 31))))) fun v4 =>
  (f_X5_shape v4 k0 k2 (v4.1 (k2 + 1) 2)).bind fun p5 =>
  (f_X5_layOut p5 k0 k2 (0 : Int32) (p5.1 (k2 + 1) 3)).bind fun p6 =>
  (f_X5_layOut p6 k0 k2 (1 : Int32) (p6.1 (k2 + 1) 4)).bind fun p7 =>
  vlet (a1 + (1 : Int32)) fun x8 =>
  q2 p7 k0 x8)
else
  (vlet (rI v k0 11 ((v.1 k0 11) ||| ((1 : Int32) <<< (a3 &&& 31)))) fun v9 =>
  vlet (a3 + (1 : Int32)) fun x10 =>
  f_X5_begin_22 q2 n v9 k0 a1 k2 x10)
def f_X5_begin_2   : Nat → rV → Nat → Int32 → Option (rV)
  | 0, _, _, _ => none
  | n + 1, v, k0, a1 => if (v.1 k0 10) ≤ a1 then
  (some v)
else
  (if ¬ a1 < 0 ∧ a1.toNatClampNeg < 12 then
  ((v.2.2 (k0 + 13) a1.toNatClampNeg).bind fun kd2 => if isBody kd2 = true then
  (vlet (v.1 kd2 2 : Int32) fun x3 =>
  f_X5_begin_22 (fun v k0 a1 => f_X5_begin_2  n v k0 a1) 20000 v k0 a1 kd2 x3) else none)
else none)
def f_X5_begin (v : rV) (k0 : Nat) : Option (rV) := f_X5_begin_2  20000 v k0 (0 : Int32)
def f_X5_carry_60   : Nat → rV → Nat → Int32 → Int32 → Int32 → Int32 → Int32 → Option (rV)
  | 0, _, _, _, _, _, _, _ => none
  | n + 1, v, k0, a1, a2, a3, a4, a7 => if (2 : Int32) ≤ a7 then
  (some v)
else
  (if ¬ a7 < 0 ∧ a7.toNatClampNeg < 2 then
  (if ¬ a1 < 0 ∧ a1.toNatClampNeg < 24 then
  (vlet (v.1 (k0 + 5 + a7.toNatClampNeg) a1.toNatClampNeg : Int32) fun x6 =>
  if (v.1 (k0 + 2) a1.toNatClampNeg) = 0 then none else
  vlet (((if ((x6 * a3) / (v.1 (k0 + 2) a1.toNatClampNeg)) < x6 then ((x6 * a3) / (v.1 (k0 + 2) a1.toNatClampNeg)) else x6) * a4) / (100 : Int32) : Int32) fun x7 =>
  vlet (rI v (k0 + 5 + a7.toNatClampNeg) a1.toNatClampNeg ((v.1 (k0 + 5 + a7.toNatClampNeg) a1.toNatClampNeg) - x7)) fun v8 =>
  if ¬ a2 < 0 ∧ a2.toNatClampNeg < 24 then
  (vlet (rI v8 (k0 + 5 + a7.toNatClampNeg) a2.toNatClampNeg ((v8.1 (k0 + 5 + a7.toNatClampNeg) a2.toNatClampNeg) + x7)) fun v10 =>
  vlet (a7 + (1 : Int32)) fun x11 =>
  f_X5_carry_60  n v10 k0 a1 a2 a3 a4 x11)
else none)
else none)
else none)
def f_X5_carry_39   (v : rV) (k0 : Nat) (a1 : Int32) (a2 : Int32) (a3 : Int32) (a4 : Int32) (s0 : Int32) : Option (rV) := if ¬ a1 < 0 ∧ a1.toNatClampNeg < 24 then
  (if (v.1 (k0 + 2) a1.toNatClampNeg) < (1 : Int32) then
  (some v)
else
  (if s0 = 0 then
  (f_X5_carry_60  20000 v k0 a1 a2 a3 a4 (0 : Int32))
else
  (some v)))
else none
def f_X5_carry_38   (v : rV) (k0 : Nat) (a1 : Int32) (a2 : Int32) (a3 : Int32) (a4 : Int32) : Option (rV) := f_X5_carry_39  v k0 a1 a2 a3 a4 (0 : Int32)
def f_X5_carry (v : rV) (k0 : Nat) (a1 : Int32) (a2 : Int32) (a3 : Int32) (a4 : Int32) : Option (rV) := if ¬ a1 < 0 ∧ a1.toNatClampNeg < 24 then
  (vlet (v.1 (k0 + 5 + 1) a1.toNatClampNeg : Int32) fun x2 =>
  if x2 ≤ 0 then
  (f_X5_carry_38  v k0 a1 a2 a3 a4)
else
  (if ((10 : Int32) * x2) < ((v.1 (k0 + 5 + 0) a1.toNatClampNeg) + x2) then
  (f_X5_carry_38  v k0 a1 a2 a3 a4)
else
  (f_X5_carry_39  v k0 a1 a2 a3 a4 (1 : Int32))))
else none
def f_X5_carryAll_76  (q16 : rV → Nat → Nat → Int32 → Int32 → Option (rV)) (v : rV) (k0 : Nat) (k1 : Nat) (a2 : Int32) (a3 : Int32) : Option (rV) := vlet (a3 + (1 : Int32)) fun x4 =>
  q16 v k0 k1 a2 x4
def f_X5_carryAll_16   : Nat → rV → Nat → Nat → Int32 → Int32 → Option (rV)
  | 0, _, _, _, _, _ => none
  | n + 1, v, k0, k1, a2, a3 => if (v.1 k1 3) ≤ a3 then
  (some v)
else
  (if ¬ a3 < 0 ∧ a3.toNatClampNeg < 24 then
  (if (v.1 (k0 + 11) a3.toNatClampNeg) ≤ 0 then
  (if 0 ≤ (v.1 (k0 + 11) a3.toNatClampNeg) then
  (f_X5_carryAll_76 (fun v k0 k1 a2 a3 => f_X5_carryAll_16  n v k0 k1 a2 a3) v k0 k1 a2 a3)
else
  ((f_X5_carry v k0 (a3 + (1 : Int32)) a3 (-(v.1 (k0 + 11) a3.toNatClampNeg)) a2).bind fun p5 =>
  f_X5_carryAll_76 (fun v k0 k1 a2 a3 => f_X5_carryAll_16  n v k0 k1 a2 a3) p5 k0 k1 a2 a3))
else
  ((f_X5_carry v k0 a3 (a3 + (1 : Int32)) (v.1 (k0 + 11) a3.toNatClampNeg) a2).bind fun p7 =>
  f_X5_carryAll_76 (fun v k0 k1 a2 a3 => f_X5_carryAll_16  n v k0 k1 a2 a3) p7 k0 k1 a2 a3))
else none)
def f_X5_carryAll (v : rV) (k0 : Nat) (k1 : Nat) : Option (rV) := vlet ((100 : Int32) - (v.1 (k1 + 1) 7) : Int32) fun x1 =>
  vlet (v.1 k1 2 : Int32) fun x2 =>
  f_X5_carryAll_16  20000 v k0 k1 x1 x2
def f_X5_lyingAt (v : rV) (k0 : Nat) (a1 : Int32) : Option (Int32) := if a1 < 0 then
  (some (0 : Int32))
else
  (if (24 : Int32) ≤ a1 then
  (some (0 : Int32))
else
  (if ¬ a1 < 0 ∧ a1.toNatClampNeg < 24 then
  (some ((v.1 (k0 + 8 + 0) a1.toNatClampNeg) + (v.1 (k0 + 8 + 1) a1.toNatClampNeg)))
else none))
def f_X5_lyingAll_4 (v : rV)  : Nat → Nat → Int32 → Int32 → Option (Int32)
  | 0, _, _, _ => none
  | n + 1, k0, a1, a2 => if (24 : Int32) ≤ a2 then
  (some a1)
else
  ((f_X5_lyingAt v k0 a2).bind fun p1 =>
  vlet (a1 + p1 : Int32) fun x2 =>
  vlet (a2 + (1 : Int32)) fun x3 =>
  f_X5_lyingAll_4 v n k0 x2 x3)
def f_X5_lyingAll (v : rV) (k0 : Nat) : Option (Int32) := f_X5_lyingAll_4 v 20000 k0 (0 : Int32) (0 : Int32)
def f_X5_center_9 (v : rV)  : Nat → Nat → Int32 → Int32 → Int32 → Option (Int32)
  | 0, _, _, _, _ => none
  | n + 1, k0, a1, a2, a3 => if (24 : Int32) ≤ a3 then
  (if a1 = 0 then
  (some (-1 : Int32))
else
  (if a1 = 0 then none else
  some (a2 / a1)))
else
  ((f_X5_lyingAt v k0 a3).bind fun p4 =>
  vlet (a2 + (((10 : Int32) * a3) * p4) : Int32) fun x5 =>
  vlet (a3 + (1 : Int32)) fun x6 =>
  f_X5_center_9 v n k0 a1 x5 x6)
def f_X5_center (v : rV) (k0 : Nat) : Option (Int32) := (f_X5_lyingAll v k0).bind fun p1 =>
  f_X5_center_9 v 20000 k0 p1 (0 : Int32) (0 : Int32)
def f_X5_clear_37  (q3 : rV → Nat → Nat → Int64 → Int32 → Option (rV)) : Nat → rV → Nat → Nat → Int64 → Int32 → Int32 → Option (rV)
  | 0, _, _, _, _, _, _ => none
  | n + 1, v, k0, k1, a2, a4, a5 => if (2 : Int32) ≤ a5 then
  (vlet (a4 + (1 : Int32)) fun x15 =>
  q3 v k0 k1 a2 x15)
else
  (if ¬ a5 < 0 ∧ a5.toNatClampNeg < 2 then
  (if ¬ a4 < 0 ∧ a4.toNatClampNeg < 24 then
  (vlet (rI v (k0 + 5 + a5.toNatClampNeg) a4.toNatClampNeg (0 : Int32)) fun v18 =>
  vlet (rI v18 (k0 + 8 + a5.toNatClampNeg) a4.toNatClampNeg (0 : Int32)) fun v19 =>
  vlet (a5 + (1 : Int32)) fun x20 =>
  f_X5_clear_37 q3 n v19 k0 k1 a2 a4 x20)
else none)
else none)
def f_X5_clear_3   : Nat → rV → Nat → Nat → Int64 → Int32 → Option (rV)
  | 0, _, _, _, _, _ => none
  | n + 1, v, k0, k1, a2, a4 => if (24 : Int32) ≤ a4 then
  (vlet (rI v k0 10 (0 : Int32)) fun v1 =>
  vlet (rI v1 k0 11 (0 : Int32)) fun v2 =>
  vlet (rI v2 k0 12 (0 : Int32)) fun v3 =>
  vlet (rR v3 k0 13 (some k1)) fun v4 =>
  vlet (rL v4 k0 14 a2) fun v5 =>
  vlet (rI v5 k0 15 (0 : Int32)) fun v6 =>
  vlet (rI v6 k0 16 (0 : Int32)) fun v7 =>
  vlet (rI v7 k0 17 (0 : Int32)) fun v8 =>
  vlet (rI v8 k0 18 (0 : Int32)) fun v9 =>
  vlet (rI v9 k0 19 (0 : Int32)) fun v10 =>
  some v10)
else
  (if ¬ a4 < 0 ∧ a4.toNatClampNeg < 24 then
  (vlet (rI v (k0 + 1) a4.toNatClampNeg (0 : Int32)) fun v12 =>
  vlet (rI v12 (k0 + 10) a4.toNatClampNeg (0 : Int32)) fun v13 =>
  vlet (rI v13 (k0 + 11) a4.toNatClampNeg (0 : Int32)) fun v14 =>
  f_X5_clear_37 (fun v k0 k1 a2 a4 => f_X5_clear_3  n v k0 k1 a2 a4) 20000 v14 k0 k1 a2 a4 (0 : Int32))
else none)
def f_X5_clear (v : rV) (k0 : Nat) (k1 : Nat) (a2 : Int64) : Option (rV) := f_X5_clear_3  20000 v k0 k1 a2 (0 : Int32)
def f_X5_copy_151   (v : rV) (k0 : Nat) (k1 : Nat) : Option (rV) := vlet (rI v k0 10 (v.1 k1 10)) fun v5 =>
  vlet (rI v5 k0 11 (v5.1 k1 11)) fun v6 =>
  vlet (rI v6 k0 12 (v6.1 k1 12)) fun v7 =>
  match v7.2.2 k1 13 with
  | none => (vlet (rR v7 k0 13 none) fun v9 =>
  vlet (rL v9 k0 14 (v9.2.1 k1 14)) fun v10 =>
  vlet (rI v10 k0 15 (v10.1 k1 15)) fun v11 =>
  vlet (rI v11 k0 16 (v11.1 k1 16)) fun v12 =>
  vlet (rI v12 k0 17 (v12.1 k1 17)) fun v13 =>
  vlet (rI v13 k0 18 (v13.1 k1 18)) fun v14 =>
  vlet (rI v14 k0 19 (v14.1 k1 19)) fun v15 =>
  some v15)
  | some kd8 => if isForm kd8 = true then (vlet (rR v7 k0 13 (some kd8)) fun v16 =>
  vlet (rL v16 k0 14 (v16.2.1 k1 14)) fun v17 =>
  vlet (rI v17 k0 15 (v17.1 k1 15)) fun v18 =>
  vlet (rI v18 k0 16 (v18.1 k1 16)) fun v19 =>
  vlet (rI v19 k0 17 (v19.1 k1 17)) fun v20 =>
  vlet (rI v20 k0 18 (v20.1 k1 18)) fun v21 =>
  vlet (rI v21 k0 19 (v21.1 k1 19)) fun v22 =>
  some v22) else none
def f_X5_copy_113   : Nat → rV → Nat → Nat → Int32 → Option (rV)
  | 0, _, _, _, _ => none
  | n + 1, v, k0, k1, a2 => if (v.1 k1 10) ≤ a2 then
  (f_X5_copy_151  v k0 k1)
else
  (if (12 : Int32) ≤ a2 then
  (f_X5_copy_151  v k0 k1)
else
  (if ¬ a2 < 0 ∧ a2.toNatClampNeg < 12 then
  ((v.2.2 (k0 + 13) a2.toNatClampNeg).bind fun kd24 => if isBody kd24 = true then
  ((v.2.2 (k1 + 13) a2.toNatClampNeg).bind fun kd25 => if isBody kd25 = true then
  ((f_X0_copy v kd24 kd25).bind fun p26 =>
  vlet (a2 + (1 : Int32)) fun x27 =>
  f_X5_copy_113  n p26 k0 k1 x27) else none) else none)
else none))
def f_X5_copy_62   : Nat → rV → Nat → Nat → Int32 → Option (rV)
  | 0, _, _, _, _ => none
  | n + 1, v, k0, k1, a2 => if (2 : Int32) ≤ a2 then
  (f_X5_copy_113  20000 v k0 k1 (0 : Int32))
else
  (if ¬ a2 < 0 ∧ a2.toNatClampNeg < 2 then
  (vlet (rCp v (k0 + 5 + a2.toNatClampNeg) (k1 + 5 + a2.toNatClampNeg) 0 0 24) fun v31 =>
  vlet (rCp v31 (k0 + 8 + a2.toNatClampNeg) (k1 + 8 + a2.toNatClampNeg) 0 0 24) fun v32 =>
  vlet (a2 + (1 : Int32)) fun x33 =>
  f_X5_copy_62  n v32 k0 k1 x33)
else none)
def f_X5_copy (v : rV) (k0 : Nat) (k1 : Nat) : Option (rV) := vlet (rCp v (k0 + 1) (k1 + 1) 0 0 24) fun v1 =>
  vlet (rCp v1 (k0 + 10) (k1 + 10) 0 0 24) fun v2 =>
  vlet (rCp v2 (k0 + 11) (k1 + 11) 0 0 24) fun v3 =>
  vlet (rCp v3 (k0 + 12) (k1 + 12) 0 0 120) fun v4 =>
  f_X5_copy_62  20000 v4 k0 k1 (0 : Int32)
def f_X5_waterOf_7 (v : rV)  : Nat → Nat → Nat → Int32 → Int32 → Option (Int32)
  | 0, _, _, _, _ => none
  | n + 1, k0, k1, a2, a3 => if (v.1 k1 3) < a3 then
  (some a2)
else
  (if ¬ a3 < 0 ∧ a3.toNatClampNeg < 24 then
  (vlet (a2 + (v.1 (k0 + 1) a3.toNatClampNeg) : Int32) fun x3 =>
  vlet (a3 + (1 : Int32)) fun x4 =>
  f_X5_waterOf_7 v n k0 k1 x3 x4)
else none)
def f_X5_waterOf (v : rV) (k0 : Nat) (k1 : Nat) : Option (Int32) := vlet (v.1 k1 2 : Int32) fun x1 =>
  f_X5_waterOf_7 v 20000 k0 k1 (0 : Int32) x1
def f_X5_dropTheDry_49  (q4 : rV → Nat → Int32 → Int32 → Option (rV)) (v : rV) (k0 : Nat) (a1 : Int32) (a2 : Int32) : Option (rV) := vlet (a2 + (1 : Int32)) fun x5 =>
  q4 v k0 a1 x5
def f_X5_dropTheDry_4   : Nat → rV → Nat → Int32 → Int32 → Option (rV)
  | 0, _, _, _, _ => none
  | n + 1, v, k0, a1, a2 => if (v.1 k0 10) ≤ a2 then
  (vlet (rI v k0 10 a1) fun v1 =>
  some v1)
else
  (if ¬ a2 < 0 ∧ a2.toNatClampNeg < 12 then
  ((v.2.2 (k0 + 13) a2.toNatClampNeg).bind fun kd3 => if isBody kd3 = true then
  ((f_X5_waterOf v k0 kd3).bind fun p4 =>
  if p4 ≤ 0 then
  (f_X5_dropTheDry_49 (fun v k0 a1 a2 => f_X5_dropTheDry_4  n v k0 a1 a2) v k0 a1 a2)
else
  (if ¬ a1 < 0 ∧ a1.toNatClampNeg < 12 then
  ((v.2.2 (k0 + 13) a1.toNatClampNeg).bind fun kd7 => if isBody kd7 = true then
  (vlet (rR v (k0 + 13) a2.toNatClampNeg (some kd7)) fun v8 =>
  vlet (rR v8 (k0 + 13) a1.toNatClampNeg (some kd3)) fun v9 =>
  vlet (a1 + (1 : Int32)) fun x10 =>
  f_X5_dropTheDry_49 (fun v k0 a1 a2 => f_X5_dropTheDry_4  n v k0 a1 a2) v9 k0 x10 a2) else none)
else none)) else none)
else none)
def f_X5_dropTheDry (v : rV) (k0 : Nat) : Option (rV) := f_X5_dropTheDry_4  20000 v k0 (0 : Int32) (0 : Int32)
def f_X5_evaporate_59   : Nat → rV → Nat → Nat → Int32 → Option (rV)
  | 0, _, _, _, _ => none
  | n + 1, v, k0, k1, a2 => if (v.1 k1 3) < a2 then
  (some v)
else
  (vlet (rI v (k0 + 3) 0 (if ((v.1 k1 3) - a2) < (a2 - (v.1 k1 2)) then ((v.1 k1 3) - a2) else (a2 - (v.1 k1 2)))) fun v8 =>
  if ¬ a2 < 0 ∧ a2.toNatClampNeg < 24 then
  (vlet (rI v8 (k0 + 3) 1 (v8.1 (k0 + 1) a2.toNatClampNeg)) fun v10 =>
  vlet (rI v10 (k0 + 3) 2 ((v10.1 (k0 + 5 + 0) a2.toNatClampNeg) + (v10.1 (k0 + 5 + 1) a2.toNatClampNeg))) fun v11 =>
  match v11.2.2 k0 13 with
  | none => (none)
  | some kd12 => if isForm kd12 = true then ((f_X2_worth v11 kd12 (k0 + 3)).bind fun p13 =>
  vlet (if (0 : Int32) < (if p13.1 < (v11.1 (k0 + 1) a2.toNatClampNeg) then p13.1 else (v11.1 (k0 + 1) a2.toNatClampNeg)) then (if p13.1 < (v11.1 (k0 + 1) a2.toNatClampNeg) then p13.1 else (v11.1 (k0 + 1) a2.toNatClampNeg)) else (0 : Int32) : Int32) fun x14 =>
  vlet (x14 - ((x14 * (p13.2.1 (k1 + 1) 6)) / (100 : Int32)) : Int32) fun x15 =>
  vlet (rI p13.2 (k0 + 1) a2.toNatClampNeg ((p13.2.1 (k0 + 1) a2.toNatClampNeg) - x15)) fun v16 =>
  vlet (rI v16 k0 16 ((v16.1 k0 16) + x15)) fun v17 =>
  vlet (a2 + (1 : Int32)) fun x18 =>
  f_X5_evaporate_59  n v17 k0 k1 x18) else none)
else none)
def f_X5_evaporate (v : rV) (k0 : Nat) (k1 : Nat) : Option (rV) := match v.2.2 k0 13 with
  | none => (some v)
  | some kd1 => if isForm kd1 = true then (vlet (rI v (k0 + 3) 3 (v.1 k0 15)) fun v2 =>
  vlet (rI v2 (k0 + 3) 4 (v2.1 (k1 + 1) 5)) fun v3 =>
  vlet (rI v3 (k0 + 3) 5 (v3.1 (k1 + 1) 6)) fun v4 =>
  vlet (rI v4 (k0 + 3) 6 (f_X0_width v4 k1)) fun v6 =>
  vlet (v6.1 k1 2 : Int32) fun x7 =>
  f_X5_evaporate_59  20000 v6 k0 k1 x7) else none
def f_X5_even_54 (v : rV) (q6 : Nat → Int32 → Int32 → Int32 → Option (Int32)) (k0 : Nat) (a1 : Int32) (a2 : Int32) (a3 : Int32) : Option (Int32) := vlet (a3 + (1 : Int32)) fun x3 =>
  q6 k0 a1 a2 x3
def f_X5_even_46 (v : rV) (q6 : Nat → Int32 → Int32 → Int32 → Option (Int32)) (k0 : Nat) (a1 : Int32) (a3 : Int32) (a4 : Int32) (s0 : Int32) : Option (Int32) := vlet (if a1 < a4 then a4 else a1 : Int32) fun x5 =>
  f_X5_even_54 v q6 k0 x5 s0 a3
def f_X5_even_6 (v : rV)  : Nat → Nat → Int32 → Int32 → Int32 → Option (Int32)
  | 0, _, _, _, _ => none
  | n + 1, k0, a1, a2, a3 => if (24 : Int32) ≤ a3 then
  (if a1 = (-1 : Int32) then
  (some (0 : Int32))
else
  (some (a1 - a2)))
else
  (if (f_X7_has (v.1 k0 11) a3) = true then
  ((f_X5_lyingAt v k0 a3).bind fun p4 =>
  if a1 = (-1 : Int32) then
  (f_X5_even_46 v (fun k0 a1 a2 a3 => f_X5_even_6 v n k0 a1 a2 a3) k0 a1 a3 p4 p4)
else
  (f_X5_even_46 v (fun k0 a1 a2 a3 => f_X5_even_6 v n k0 a1 a2 a3) k0 a1 a3 p4 (if p4 < a2 then p4 else a2)))
else
  (f_X5_even_54 v (fun k0 a1 a2 a3 => f_X5_even_6 v n k0 a1 a2 a3) k0 a1 a2 a3))
def f_X5_even (v : rV) (k0 : Nat) : Option (Int32) := f_X5_even_6 v 20000 k0 (-1 : Int32) (0 : Int32) (0 : Int32)
def f_X5_farthestFrom_4 (v : rV)  : Nat → Nat → Nat → Int32 → Int32 → Option (Int32)
  | 0, _, _, _, _ => none
  | n + 1, k0, k1, a2, a3 => if (24 : Int32) ≤ a3 then
  (some a2)
else
  (if (24 : Int32) ≤ a3 then
  (some a2)
else
  ((f_X5_lyingAt v k0 a3).bind fun p1 =>
  if ¬ a3 < 0 ∧ a3.toNatClampNeg < 24 then
  (vlet (if a2 < (if 0 ≤ (p1 - (v.1 k1 a3.toNatClampNeg)) then (p1 - (v.1 k1 a3.toNatClampNeg)) else 0 - (p1 - (v.1 k1 a3.toNatClampNeg))) then (if 0 ≤ (p1 - (v.1 k1 a3.toNatClampNeg)) then (p1 - (v.1 k1 a3.toNatClampNeg)) else 0 - (p1 - (v.1 k1 a3.toNatClampNeg))) else a2 : Int32) fun x3 =>
  vlet (a3 + (1 : Int32)) fun x4 =>
  f_X5_farthestFrom_4 v n k0 k1 x3 x4)
else none))
def f_X5_farthestFrom (v : rV) (k0 : Nat) (k1 : Nat) : Option (Int32) := f_X5_farthestFrom_4 v 20000 k0 k1 (0 : Int32) (0 : Int32)
def f_X5_freeAll_4 (v : rV)  : Nat → Nat → Int32 → Int32 → Option (Int32)
  | 0, _, _, _ => none
  | n + 1, k0, a1, a2 => if (24 : Int32) ≤ a2 then
  (some a1)
else
  (if ¬ a2 < 0 ∧ a2.toNatClampNeg < 24 then
  (vlet (a1 + ((v.1 (k0 + 5 + 0) a2.toNatClampNeg) + (v.1 (k0 + 5 + 1) a2.toNatClampNeg)) : Int32) fun x2 =>
  vlet (a2 + (1 : Int32)) fun x3 =>
  f_X5_freeAll_4 v n k0 x2 x3)
else none)
def f_X5_freeAll (v : rV) (k0 : Nat) : Option (Int32) := f_X5_freeAll_4 v 20000 k0 (0 : Int32) (0 : Int32)
def f_X5_lieDown_71   (v : rV) (k0 : Nat) (a5 : Int32) : Option (rV) := vlet (rI v k0 3 ((v.1 k0 3) + a5)) fun v7 =>
  some v7
def f_X5_lieDown (v : rV) (k0 : Nat) (a1 : Int32) (a2 : Int32) (a3 : Int32) (a4 : Int32) : Option (rV) := if ¬ a1 < 0 ∧ a1.toNatClampNeg < 24 then
  (vlet (rI v (k0 + 5 + 0) a1.toNatClampNeg ((v.1 (k0 + 5 + 0) a1.toNatClampNeg) - a2)) fun v2 =>
  vlet (rI v2 (k0 + 5 + 1) a1.toNatClampNeg ((v2.1 (k0 + 5 + 1) a1.toNatClampNeg) - a3)) fun v3 =>
  vlet (rI v3 (k0 + 8 + 0) a1.toNatClampNeg ((v3.1 (k0 + 8 + 0) a1.toNatClampNeg) + a2)) fun v4 =>
  vlet (rI v4 (k0 + 8 + 1) a1.toNatClampNeg ((v4.1 (k0 + 8 + 1) a1.toNatClampNeg) + a3)) fun v5 =>
  vlet (a2 + a3 : Int32) fun x6 =>
  if x6 ≤ a4 then
  (f_X5_lieDown_71  v5 k0 x6)
else
  (vlet (rI v5 (k0 + 10) a1.toNatClampNeg ((v5.1 (k0 + 10) a1.toNatClampNeg) + x6)) fun v8 =>
  f_X5_lieDown_71  v8 k0 x6))
else none
def f_X5_letGo_44   : Nat → rV → Nat → Nat → Int32 → Int32 → Int32 → Option (rV)
  | 0, _, _, _, _, _, _ => none
  | n + 1, v, k0, k1, a2, a3, a4 => if a3 ≤ a4 then
  (vlet (rI v k1 4 ((v.1 k1 4) + (1 : Int32))) fun v5 =>
  some v5)
else
  (if ¬ (v.1 k1 2) < 0 ∧ (v.1 k1 2).toNatClampNeg < 24 then
  ((f_X5_lieDown v k0 (v.1 k1 2) (v.1 (k0 + 5 + 0) ((v.1 k1 2).toNatClampNeg)) (v.1 (k0 + 5 + 1) ((v.1 k1 2).toNatClampNeg)) a2).bind fun p7 =>
  if ¬ (p7.1 k1 3) < 0 ∧ (p7.1 k1 3).toNatClampNeg < 24 then
  ((f_X5_lieDown p7 k0 (p7.1 k1 3) (p7.1 (k0 + 5 + 0) ((p7.1 k1 3).toNatClampNeg)) (p7.1 (k0 + 5 + 1) ((p7.1 k1 3).toNatClampNeg)) a2).bind fun p9 =>
  vlet ((p9.1 k1 2) + (1 : Int32) : Int32) fun x10 =>
  if ¬ x10 < 0 ∧ x10.toNatClampNeg < 24 then
  (if ¬ (p9.1 k1 2) < 0 ∧ (p9.1 k1 2).toNatClampNeg < 24 then
  (vlet (rI p9 (k0 + 1) x10.toNatClampNeg ((p9.1 (k0 + 1) x10.toNatClampNeg) + (p9.1 (k0 + 1) ((p9.1 k1 2).toNatClampNeg)))) fun v13 =>
  vlet ((v13.1 k1 3) - (1 : Int32) : Int32) fun x14 =>
  if ¬ x14 < 0 ∧ x14.toNatClampNeg < 24 then
  (if ¬ (v13.1 k1 3) < 0 ∧ (v13.1 k1 3).toNatClampNeg < 24 then
  (vlet (rI v13 (k0 + 1) x14.toNatClampNeg ((v13.1 (k0 + 1) x14.toNatClampNeg) + (v13.1 (k0 + 1) ((v13.1 k1 3).toNatClampNeg)))) fun v17 =>
  if ¬ (v17.1 k1 2) < 0 ∧ (v17.1 k1 2).toNatClampNeg < 24 then
  (vlet (rI v17 (k0 + 1) ((v17.1 k1 2).toNatClampNeg) (0 : Int32)) fun v19 =>
  if ¬ (v19.1 k1 3) < 0 ∧ (v19.1 k1 3).toNatClampNeg < 24 then
  (vlet (rI v19 (k0 + 1) ((v19.1 k1 3).toNatClampNeg) (0 : Int32)) fun v21 =>
  vlet (rI v21 k1 2 ((v21.1 k1 2) + (1 : Int32))) fun v22 =>
  vlet (rI v22 k1 3 ((v22.1 k1 3) - (1 : Int32))) fun v23 =>
  vlet (a4 + (1 : Int32)) fun x24 =>
  f_X5_letGo_44  n v23 k0 k1 a2 a3 x24)
else none)
else none)
else none)
else none)
else none)
else none)
else none)
else none)
def f_X5_letGo (v : rV) (k0 : Nat) (k1 : Nat) (a2 : Int32) : Option (rV) := vlet (v.1 (k1 + 1) 10 : Int32) fun x1 =>
  (f_X5_waterOf v k0 k1).bind fun p2 =>
  if ((v.1 (k1 + 1) 9) * (f_X0_width v k1)) ≤ p2 then
  (some v)
else
  (if (((2 : Int32) * x1) + (1 : Int32)) < (f_X0_width v k1) then
  (f_X5_letGo_44  20000 v k0 k1 a2 x1 (0 : Int32))
else
  (some v))
def f_X5_reshape_142  (q48 : rV → Nat → Nat → Int32 → Int32 → Option (rV)) (v : rV) (k0 : Nat) (k1 : Nat) (a2 : Int32) (a3 : Int32) : Option (rV) := vlet (a3 + (1 : Int32)) fun x8 =>
  q48 v k0 k1 a2 x8
def f_X5_reshape_111  (q48 : rV → Nat → Nat → Int32 → Int32 → Option (rV)) (v : rV) (k0 : Nat) (k1 : Nat) (a2 : Int32) (a3 : Int32) : Option (rV) := if 0 ≤ a2 then
  (f_X5_reshape_142 q48 v k0 k1 a2 a3)
else
  (if ((v.1 k1 2) + (v.1 k1 3)) < ((2 : Int32) * (a3 + (1 : Int32))) then
  (f_X5_reshape_142 q48 v k0 k1 a2 a3)
else
  (vlet (rI v k0 17 ((v.1 k0 17) - a2)) fun v9 =>
  f_X5_reshape_142 q48 v9 k0 k1 a2 a3))
def f_X5_reshape_48   : Nat → rV → Nat → Nat → Int32 → Int32 → Option (rV)
  | 0, _, _, _, _, _ => none
  | n + 1, v, k0, k1, a2, a3 => if (v.1 k1 3) ≤ a3 then
  (some v)
else
  (if ¬ a3 < 0 ∧ a3.toNatClampNeg < 24 then
  (vlet (a2 + ((v.1 (k0 + 2) a3.toNatClampNeg) - (v.1 (k0 + 1) a3.toNatClampNeg)) : Int32) fun x6 =>
  vlet (rI v (k0 + 11) a3.toNatClampNeg x6) fun v7 =>
  if x6 ≤ 0 then
  (f_X5_reshape_111 (fun v k0 k1 a2 a3 => f_X5_reshape_48  n v k0 k1 a2 a3) v7 k0 k1 x6 a3)
else
  (if ((2 : Int32) * a3) < ((v7.1 k1 2) + (v7.1 k1 3)) then
  (f_X5_reshape_111 (fun v k0 k1 a2 a3 => f_X5_reshape_48  n v k0 k1 a2 a3) v7 k0 k1 x6 a3)
else
  (vlet (rI v7 k0 17 ((v7.1 k0 17) + x6)) fun v12 =>
  f_X5_reshape_142 (fun v k0 k1 a2 a3 => f_X5_reshape_48  n v k0 k1 a2 a3) v12 k0 k1 x6 a3)))
else none)
def f_X5_reshape_5   : Nat → rV → Nat → Nat → Int32 → Option (rV)
  | 0, _, _, _, _ => none
  | n + 1, v, k0, k1, a2 => if (v.1 k1 3) < a2 then
  ((f_X5_waterOf v k0 k1).bind fun p2 =>
  (f_X5_shape v k0 k1 p2).bind fun p3 =>
  vlet (p3.1 k1 2 : Int32) fun x4 =>
  f_X5_reshape_48  20000 p3 k0 k1 (0 : Int32) x4)
else
  (if ¬ a2 < 0 ∧ a2.toNatClampNeg < 24 then
  (vlet (rI v (k0 + 2) a2.toNatClampNeg (v.1 (k0 + 1) a2.toNatClampNeg)) fun v17 =>
  vlet (a2 + (1 : Int32)) fun x18 =>
  f_X5_reshape_5  n v17 k0 k1 x18)
else none)
def f_X5_reshape (v : rV) (k0 : Nat) (k1 : Nat) : Option (rV) := vlet (v.1 k1 2 : Int32) fun x1 =>
  f_X5_reshape_5  20000 v k0 k1 x1
def f_X5_stir_27  (q17 : rV → Nat → Nat → Int32 → Option (rV)) : Nat → rV → Nat → Nat → Int32 → Int32 → Option (rV)
  | 0, _, _, _, _, _ => none
  | n + 1, v, k0, k1, a2, a3 => if (2 : Int32) ≤ a3 then
  (vlet (a2 + (1 : Int32)) fun x2 =>
  q17 v k0 k1 x2)
else
  (if ¬ a3 < 0 ∧ a3.toNatClampNeg < 2 then
  (if ¬ a2 < 0 ∧ a2.toNatClampNeg < 24 then
  (if ¬ (a2 + (1 : Int32)) < 0 ∧ (a2 + (1 : Int32)).toNatClampNeg < 24 then
  (vlet (((v.1 (k0 + 5 + a3.toNatClampNeg) a2.toNatClampNeg) - (v.1 (k0 + 5 + a3.toNatClampNeg) ((a2 + (1 : Int32)).toNatClampNeg))) / (2 : Int32) : Int32) fun x6 =>
  vlet (rI v (k0 + 5 + a3.toNatClampNeg) a2.toNatClampNeg ((v.1 (k0 + 5 + a3.toNatClampNeg) a2.toNatClampNeg) - x6)) fun v7 =>
  vlet (a2 + (1 : Int32) : Int32) fun x8 =>
  if ¬ x8 < 0 ∧ x8.toNatClampNeg < 24 then
  (vlet (rI v7 (k0 + 5 + a3.toNatClampNeg) x8.toNatClampNeg ((v7.1 (k0 + 5 + a3.toNatClampNeg) x8.toNatClampNeg) + x6)) fun v10 =>
  vlet (a3 + (1 : Int32)) fun x11 =>
  f_X5_stir_27 q17 n v10 k0 k1 a2 x11)
else none)
else none)
else none)
else none)
def f_X5_stir_17   : Nat → rV → Nat → Nat → Int32 → Option (rV)
  | 0, _, _, _, _ => none
  | n + 1, v, k0, k1, a2 => if (v.1 k1 3) ≤ a2 then
  (some v)
else
  (f_X5_stir_27 (fun v k0 k1 a2 => f_X5_stir_17  n v k0 k1 a2) 20000 v k0 k1 a2 (0 : Int32))
def f_X5_stir (v : rV) (k0 : Nat) (k1 : Nat) : Option (rV) := if (50 : Int32) ≤ (v.1 (k1 + 1) 5) then
  (vlet (v.1 k1 2 : Int32) fun x1 =>
  f_X5_stir_17  20000 v k0 k1 x1)
else
  (some v)
def f_X5_wander_121  (q5 : rV → Nat → Nat → Int32 → Option (rV)) (v : rV) (k0 : Nat) (k1 : Nat) (a2 : Int32) : Option (rV) := vlet (a2 + (1 : Int32)) fun x5 =>
  q5 v k0 k1 x5
def f_X5_wander_65  (q5 : rV → Nat → Nat → Int32 → Option (rV)) (v : rV) (k0 : Nat) (k1 : Nat) (a2 : Int32) (s0 : Int32) : Option (rV) := if ¬ a2 < 0 ∧ a2.toNatClampNeg < 24 then
  (if (v.1 (k0 + 5 + 0) a2.toNatClampNeg) ≤ 0 then
  (f_X5_wander_121 q5 v k0 k1 a2)
else
  (if s0 < (v.1 k1 2) then
  (f_X5_wander_121 q5 v k0 k1 a2)
else
  (if (v.1 k1 3) < s0 then
  (f_X5_wander_121 q5 v k0 k1 a2)
else
  (vlet (rI v (k0 + 5 + 0) a2.toNatClampNeg ((v.1 (k0 + 5 + 0) a2.toNatClampNeg) - (1 : Int32))) fun v6 =>
  if ¬ s0 < 0 ∧ s0.toNatClampNeg < 24 then
  (vlet (rI v6 (k0 + 5 + 0) s0.toNatClampNeg ((v6.1 (k0 + 5 + 0) s0.toNatClampNeg) + (1 : Int32))) fun v8 =>
  f_X5_wander_121 q5 v8 k0 k1 a2)
else none))))
else none
def f_X5_wander_5   : Nat → rV → Nat → Nat → Int32 → Option (rV)
  | 0, _, _, _, _ => none
  | n + 1, v, k0, k1, a2 => if (v.1 k1 3) < a2 then
  (some v)
else
  (vlet (rL v k0 14 (((v.2.1 k0 14) * (6364136223846793005 : Int64)) + (1442695040888963407 : Int64))) fun v2 =>
  vlet (((((v2.2.1 k0 14).toUInt64 >>> ((33 : Int32).toInt64.toUInt64 &&& Int64.toUInt64 63)).toInt64) - (((v2.2.1 k0 14).toUInt64 >>> ((33 : Int32).toInt64.toUInt64 &&& Int64.toUInt64 63)).toInt64) / (4 : Int64) * (4 : Int64)).toInt32 : Int32) fun x3 =>
  if x3 = (1 : Int32) then
  (f_X5_wander_65 (fun v k0 k1 a2 => f_X5_wander_5  n v k0 k1 a2) v2 k0 k1 a2 (a2 - (1 : Int32)))
else
  (if x3 = (2 : Int32) then
  (f_X5_wander_65 (fun v k0 k1 a2 => f_X5_wander_5  n v k0 k1 a2) v2 k0 k1 a2 (a2 + (1 : Int32)))
else
  (f_X5_wander_65 (fun v k0 k1 a2 => f_X5_wander_5  n v k0 k1 a2) v2 k0 k1 a2 a2)))
def f_X5_wander (v : rV) (k0 : Nat) (k1 : Nat) : Option (rV) := vlet (v.1 k1 2 : Int32) fun x1 =>
  f_X5_wander_5  20000 v k0 k1 x1
def f_X5_layDown_83  (q5 : rV → Nat → Nat → Int32 → Int32 → Option (rV)) (v : rV) (k0 : Nat) (k1 : Nat) (a2 : Int32) (a3 : Int32) : Option (rV) := vlet (a3 + (1 : Int32)) fun x4 =>
  q5 v k0 k1 a2 x4
def f_X5_layDown_5   : Nat → rV → Nat → Nat → Int32 → Int32 → Option (rV)
  | 0, _, _, _, _, _ => none
  | n + 1, v, k0, k1, a2, a3 => if (v.1 k1 3) < a3 then
  (some v)
else
  (if ¬ a3 < 0 ∧ a3.toNatClampNeg < 24 then
  (vlet (((v.1 (k0 + 5 + 0) a3.toNatClampNeg) + (v.1 (k0 + 5 + 1) a3.toNatClampNeg)) - (((v.1 (k0 + 1) a3.toNatClampNeg) * (v.1 (k1 + 1) 8)) / (10 : Int32)) : Int32) fun x3 =>
  if x3 ≤ 0 then
  (f_X5_layDown_83 (fun v k0 k1 a2 a3 => f_X5_layDown_5  n v k0 k1 a2 a3) v k0 k1 a2 a3)
else
  (vlet (if (v.1 (k0 + 5 + 0) a3.toNatClampNeg) < x3 then (v.1 (k0 + 5 + 0) a3.toNatClampNeg) else x3 : Int32) fun x5 =>
  (f_X5_lieDown v k0 a3 x5 (x3 - x5) a2).bind fun p6 =>
  f_X5_layDown_83 (fun v k0 k1 a2 a3 => f_X5_layDown_5  n v k0 k1 a2 a3) p6 k0 k1 a2 a3))
else none)
def f_X5_layDown (v : rV) (k0 : Nat) (k1 : Nat) (a2 : Int32) : Option (rV) := vlet (v.1 k1 2 : Int32) fun x1 =>
  f_X5_layDown_5  20000 v k0 k1 a2 x1
def f_X5_oneTick_153   (v : rV) (k0 : Nat) : Option (rV) := (f_X5_dropTheDry v k0).bind fun p4 =>
  some p4
def f_X5_oneTick_116   (v : rV) (k0 : Nat) : Option (rV) := vlet (rI v k0 15 ((v.1 k0 15) + (1 : Int32))) fun v3 =>
  if (v3.1 k0 3) ≤ (v3.1 k0 19) then
  (f_X5_oneTick_153  v3 k0)
else
  (vlet (rI v3 k0 19 (v3.1 k0 3)) fun v5 =>
  vlet (rI v5 k0 18 (v5.1 k0 15)) fun v6 =>
  f_X5_oneTick_153  v6 k0)
def f_X5_oneTick_33   : Nat → rV → Nat → Int32 → Int32 → Option (rV)
  | 0, _, _, _, _ => none
  | n + 1, v, k0, a1, a2 => if (v.1 k0 10) ≤ a2 then
  (if (120 : Int32) ≤ (v.1 k0 15) then
  (f_X5_oneTick_116  v k0)
else
  (if ¬ (v.1 k0 15) < 0 ∧ (v.1 k0 15).toNatClampNeg < 120 then
  (vlet (rI v (k0 + 12) ((v.1 k0 15).toNatClampNeg) (v.1 k0 3)) fun v9 =>
  f_X5_oneTick_116  v9 k0)
else none))
else
  (if ¬ a2 < 0 ∧ a2.toNatClampNeg < 12 then
  ((v.2.2 (k0 + 13) a2.toNatClampNeg).bind fun kd12 => if isBody kd12 = true then
  ((f_X5_evaporate v k0 kd12).bind fun p13 =>
  (f_X5_letGo p13 k0 kd12 a1).bind fun p14 =>
  (f_X5_reshape p14 k0 kd12).bind fun p15 =>
  (f_X5_carryAll p15 k0 kd12).bind fun p16 =>
  (f_X5_stir p16 k0 kd12).bind fun p17 =>
  (f_X5_wander p17 k0 kd12).bind fun p18 =>
  (f_X5_layDown p18 k0 kd12 a1).bind fun p19 =>
  vlet (a2 + (1 : Int32)) fun x20 =>
  f_X5_oneTick_33  n p19 k0 a1 x20) else none)
else none)
def f_X5_oneTick_12   : Nat → rV → Nat → Int32 → Int32 → Option (rV)
  | 0, _, _, _, _ => none
  | n + 1, v, k0, a1, a2 => if (24 : Int32) ≤ a2 then
  (f_X5_oneTick_33  20000 v k0 a1 (0 : Int32))
else
  (if ¬ a2 < 0 ∧ a2.toNatClampNeg < 24 then
  (vlet (rI v (k0 + 11) a2.toNatClampNeg (0 : Int32)) fun v23 =>
  vlet (a2 + (1 : Int32)) fun x24 =>
  f_X5_oneTick_12  n v23 k0 a1 x24)
else none)
def f_X5_oneTick (v : rV) (k0 : Nat) (a1 : Int32) : Option (rV) := vlet (rI v k0 3 (0 : Int32)) fun v1 =>
  vlet (rI v1 k0 17 (0 : Int32)) fun v2 =>
  f_X5_oneTick_12  20000 v2 k0 a1 (0 : Int32)
def f_X5_goOn_2   : Nat → rV → Nat → Int32 → Int32 → Int32 → Option (Int32 × rV)
  | 0, _, _, _, _, _ => none
  | n + 1, v, k0, a1, a2, a3 => if a1 ≤ a3 then
  (some (a3, v))
else
  (if (v.1 k0 10) ≤ 0 then
  (some (a3, v))
else
  ((f_X5_oneTick v k0 a2).bind fun p1 =>
  vlet (a3 + (1 : Int32)) fun x2 =>
  f_X5_goOn_2  n p1 k0 a1 a2 x2))
def f_X5_goOn (v : rV) (k0 : Nat) (a1 : Int32) (a2 : Int32) : Option (Int32 × rV) := f_X5_goOn_2  20000 v k0 a1 a2 (0 : Int32)
def f_X5_heapedAll_4 (v : rV)  : Nat → Nat → Int32 → Int32 → Option (Int32)
  | 0, _, _, _ => none
  | n + 1, k0, a1, a2 => if (24 : Int32) ≤ a2 then
  (some a1)
else
  (if ¬ a2 < 0 ∧ a2.toNatClampNeg < 24 then
  (vlet (a1 + (v.1 (k0 + 10) a2.toNatClampNeg) : Int32) fun x2 =>
  vlet (a2 + (1 : Int32)) fun x3 =>
  f_X5_heapedAll_4 v n k0 x2 x3)
else none)
def f_X5_heapedAll (v : rV) (k0 : Nat) : Option (Int32) := f_X5_heapedAll_4 v 20000 k0 (0 : Int32) (0 : Int32)
def f_X5_ofBody (v : rV) (k0 : Nat) (a1 : Int32) (a2 : Int32) : Option (Int32) := if a1 < 0 then
  (some (-1 : Int32))
else
  (if (v.1 k0 10) ≤ a1 then
  (some (-1 : Int32))
else
  (if a1 < (12 : Int32) then
  (if ¬ a1 < 0 ∧ a1.toNatClampNeg < 12 then
  ((v.2.2 (k0 + 13) a1.toNatClampNeg).bind fun kd2 => if isBody kd2 = true then
  (if a2 = (0 : Int32) then
  (some (v.1 kd2 2))
else
  (if a2 = (1 : Int32) then
  (some (v.1 kd2 3))
else
  (if a2 = (2 : Int32) then
  ((f_X5_waterOf v k0 kd2).bind fun p6 =>
  some p6)
else
  (if a2 = (3 : Int32) then
  (some (v.1 kd2 4))
else
  (some (-1 : Int32)))))) else none)
else none)
else
  (some (-1 : Int32))))
def f_X5_offFrom_4 (v : rV)  : Nat → Nat → Nat → Int32 → Int32 → Option (Int32)
  | 0, _, _, _, _ => none
  | n + 1, k0, k1, a2, a3 => if (24 : Int32) ≤ a3 then
  (some a2)
else
  (if (24 : Int32) ≤ a3 then
  (some a2)
else
  ((f_X5_lyingAt v k0 a3).bind fun p1 =>
  if ¬ a3 < 0 ∧ a3.toNatClampNeg < 24 then
  (vlet (a2 + (if 0 ≤ (p1 - (v.1 k1 a3.toNatClampNeg)) then (p1 - (v.1 k1 a3.toNatClampNeg)) else 0 - (p1 - (v.1 k1 a3.toNatClampNeg))) : Int32) fun x3 =>
  vlet (a3 + (1 : Int32)) fun x4 =>
  f_X5_offFrom_4 v n k0 k1 x3 x4)
else none))
def f_X5_offFrom (v : rV) (k0 : Nat) (k1 : Nat) : Option (Int32) := f_X5_offFrom_4 v 20000 k0 k1 (0 : Int32) (0 : Int32)
def f_X5_put_46   (v : rV) (k0 : Nat) (k1 : Nat) (a2 : Int32) (a3 : Int32) : Option (rV) := if (12 : Int32) ≤ (v.1 k0 10) then
  (some v)
else
  (if ¬ (v.1 k0 10) < 0 ∧ (v.1 k0 10).toNatClampNeg < 12 then
  ((v.2.2 (k0 + 13) ((v.1 k0 10).toNatClampNeg)).bind fun kd2 => if isBody kd2 = true then
  ((f_X0_become v kd2 k1 a2 a3).bind fun p3 =>
  vlet (rI p3 k0 10 ((p3.1 k0 10) + (1 : Int32))) fun v4 =>
  some v4) else none)
else none)
def f_X5_put (v : rV) (k0 : Nat) (k1 : Nat) (a2 : Int32) (a3 : Int32) : Option (rV) := if (v.1 k0 10) ≤ 0 then
  (f_X5_put_46  v k0 k1 a2 a3)
else
  (if ¬ ((v.1 k0 10) - (1 : Int32)) < 0 ∧ ((v.1 k0 10) - (1 : Int32)).toNatClampNeg < 12 then
  ((v.2.2 (k0 + 13) (((v.1 k0 10) - (1 : Int32)).toNatClampNeg)).bind fun kd7 => if isBody kd7 = true then
  (if ((v.1 kd7 3) + (1 : Int32)) = a3 then
  ((v.2.2 (k0 + 13) (((v.1 k0 10) - (1 : Int32)).toNatClampNeg)).bind fun kd8 => if isBody kd8 = true then
  ((f_X0_takeIn v kd8 k1 a2).bind fun p9 =>
  some p9) else none)
else
  (f_X5_put_46  v k0 k1 a2 a3)) else none)
else none)
def f_X5_ring_41 (v : rV) (q6 : Nat → Int32 → Int32 → Int32 → Option (Int32)) (k0 : Nat) (a1 : Int32) (a3 : Int32) (s0 : Int32) (s1 : Int32) : Option (Int32) := vlet (s1 + s0 : Int32) fun x6 =>
  vlet (a3 + (1 : Int32)) fun x7 =>
  q6 k0 a1 x6 x7
def f_X5_ring_6 (v : rV)  : Nat → Nat → Int32 → Int32 → Int32 → Option (Int32)
  | 0, _, _, _, _ => none
  | n + 1, k0, a1, a2, a3 => if (24 : Int32) ≤ a3 then
  (if a1 = 0 then
  (some (0 : Int32))
else
  (if a1 = 0 then none else
  some ((a2 * (100 : Int32)) / a1)))
else
  ((f_X5_lyingAt v k0 a3).bind fun p3 =>
  vlet (a1 + p3 : Int32) fun x4 =>
  if (f_X7_has (v.1 k0 12) a3) = true then
  ((f_X5_lyingAt v k0 a3).bind fun p8 =>
  f_X5_ring_41 v (fun k0 a1 a2 a3 => f_X5_ring_6 v n k0 a1 a2 a3) k0 x4 a3 p8 a2)
else
  (f_X5_ring_41 v (fun k0 a1 a2 a3 => f_X5_ring_6 v n k0 a1 a2 a3) k0 x4 a3 (0 : Int32) a2))
def f_X5_ring (v : rV) (k0 : Nat) : Option (Int32) := f_X5_ring_6 v 20000 k0 (0 : Int32) (0 : Int32) (0 : Int32)
def f_X5_rings_41 (v : rV) (q4 : Nat → Int32 → Int32 → Option (Int32)) (k0 : Nat) (a1 : Int32) (a2 : Int32) : Option (Int32) := vlet (a2 + (1 : Int32)) fun x3 =>
  q4 k0 a1 x3
def f_X5_rings_4 (v : rV)  : Nat → Nat → Int32 → Int32 → Option (Int32)
  | 0, _, _, _ => none
  | n + 1, k0, a1, a2 => if (24 : Int32) ≤ a2 then
  (some a1)
else
  ((f_X5_lyingAt v k0 a2).bind fun p1 =>
  (f_X5_lyingAt v k0 (a2 - (1 : Int32))).bind fun p2 =>
  if p1 ≤ p2 then
  (f_X5_rings_41 v (fun k0 a1 a2 => f_X5_rings_4 v n k0 a1 a2) k0 a1 a2)
else
  ((f_X5_lyingAt v k0 (a2 + (1 : Int32))).bind fun p4 =>
  if p1 ≤ p4 then
  (f_X5_rings_41 v (fun k0 a1 a2 => f_X5_rings_4 v n k0 a1 a2) k0 a1 a2)
else
  (vlet (a1 + (1 : Int32)) fun x5 =>
  f_X5_rings_41 v (fun k0 a1 a2 => f_X5_rings_4 v n k0 a1 a2) k0 x5 a2)))
def f_X5_rings (v : rV) (k0 : Nat) : Option (Int32) := f_X5_rings_4 v 20000 k0 (0 : Int32) (0 : Int32)
def f_X5_spread_12 (v : rV)  : Nat → Nat → Int32 → Int32 → Int32 → Option (Int32)
  | 0, _, _, _, _ => none
  | n + 1, k0, a1, a2, a3 => if (24 : Int32) ≤ a3 then
  (some a2)
else
  ((f_X5_lyingAt v k0 a3).bind fun p3 =>
  vlet (a2 + ((if 0 ≤ (a3 - a1) then (a3 - a1) else 0 - (a3 - a1)) * p3) : Int32) fun x4 =>
  vlet (a3 + (1 : Int32)) fun x5 =>
  f_X5_spread_12 v n k0 a1 x4 x5)
def f_X5_spread (v : rV) (k0 : Nat) : Option (Int32) := (f_X5_center v k0).bind fun p1 =>
  vlet (p1 / (10 : Int32) : Int32) fun x2 =>
  f_X5_spread_12 v 20000 k0 x2 (0 : Int32) (0 : Int32)
def f_X5_tell (v : rV) (k0 : Nat) (a1 : Int32) : Option (Int32) := if a1 = (0 : Int32) then
  ((f_X5_ring v k0).bind fun p2 =>
  some p2)
else
  (if a1 = (1 : Int32) then
  ((f_X5_rings v k0).bind fun p4 =>
  some p4)
else
  (if a1 = (2 : Int32) then
  ((f_X5_even v k0).bind fun p6 =>
  some p6)
else
  (if a1 = (3 : Int32) then
  ((f_X5_lyingAll v k0).bind fun p8 =>
  some p8)
else
  (if a1 = (4 : Int32) then
  ((f_X5_heapedAll v k0).bind fun p10 =>
  some p10)
else
  (if a1 = (5 : Int32) then
  (some (v.1 k0 15))
else
  (if a1 = (6 : Int32) then
  (some (v.1 k0 16))
else
  (if a1 = (7 : Int32) then
  (some (v.1 k0 10))
else
  (if a1 = (8 : Int32) then
  ((f_X5_freeAll v k0).bind fun p15 =>
  some p15)
else
  (some (-1 : Int32))))))))))
def f_X5_tellWants_2   : Nat → rV → Nat → Int32 → Option (rV)
  | 0, _, _, _ => none
  | n + 1, v, k0, a1 => if (6 : Int32) ≤ a1 then
  (some v)
else
  (if (7 : Int32) ≤ a1 then
  (some v)
else
  ((f_X5_tell v k0 a1).bind fun p1 =>
  if ¬ a1 < 0 ∧ a1.toNatClampNeg < 7 then
  (vlet (rI v (k0 + 3) a1.toNatClampNeg p1) fun v3 =>
  vlet (a1 + (1 : Int32)) fun x4 =>
  f_X5_tellWants_2  n v3 k0 x4)
else none))
def f_X5_tellWants (v : rV) (k0 : Nat) : Option (rV) := f_X5_tellWants_2  20000 v k0 (0 : Int32)
def f_X5_writeLying_2   : Nat → rV → Nat → Nat → Int32 → Option (rV)
  | 0, _, _, _, _ => none
  | n + 1, v, k0, k1, a2 => if (24 : Int32) ≤ a2 then
  (some v)
else
  (if (24 : Int32) ≤ a2 then
  (some v)
else
  ((f_X5_lyingAt v k0 a2).bind fun p1 =>
  if ¬ a2 < 0 ∧ a2.toNatClampNeg < 24 then
  (vlet (rI v k1 a2.toNatClampNeg p1) fun v3 =>
  vlet (a2 + (1 : Int32)) fun x4 =>
  f_X5_writeLying_2  n v3 k0 k1 x4)
else none))
def f_X5_writeLying (v : rV) (k0 : Nat) (k1 : Nat) : Option (rV) := f_X5_writeLying_2  20000 v k0 k1 (0 : Int32)
def f_X1_nextByte_43   (v : rV)  : Option (Int32 × rV) := (f_X6_byteAt v (v.1 7 3)).bind fun p1 =>
  some (p1, v)
def f_X1_nextByte_0   : Nat → rV → Option (Int32 × rV)
  | 0, _ => none
  | n + 1, v => if (v.1 1 1) ≤ (v.1 7 3) then
  (f_X1_nextByte_43  v)
else
  ((f_X6_byteAt v (v.1 7 3)).bind fun p2 =>
  if p2 = (32 : Int32) then
  (vlet (rI v 7 3 ((v.1 7 3) + (1 : Int32))) fun v3 =>
  f_X1_nextByte_0  n v3)
else
  (f_X1_nextByte_43  v))
def f_X1_nextByte (v : rV)  : Option (Int32 × rV) := f_X1_nextByte_0  20000 v
def f_X1_readNumber_107   (v : rV)  : Option (Bool × rV) := vlet (rI v 7 3 ((v.1 7 3) - (1 : Int32))) fun v3 =>
  some (false, v3)
def f_X1_readNumber_89   (v : rV) (a1 : Int32) (a2 : Int32) : Option (Bool × rV) := if ¬ a1 < 0 ∧ a1.toNatClampNeg < 12 then
  (if a2 < ((rtb.getD 0 []).getD a1.toNatClampNeg 0) then
  (f_X1_readNumber_107  v)
else
  (if a2 ≤ ((rtb.getD 1 []).getD a1.toNatClampNeg 0) then
  (vlet (rI v 8 a1.toNatClampNeg a2) fun v4 =>
  some (true, v4))
else
  (f_X1_readNumber_107  v)))
else none
def f_X1_readNumber_69   (v : rV) (a1 : Int32) (a2 : Int32) (a3 : Int32) (a4 : Int32) : Option (Bool × rV) := if a3 = 0 then
  (some (false, v))
else
  (if a4 < (48 : Int32) then
  (f_X1_readNumber_89  v a1 a2)
else
  (if (57 : Int32) < a4 then
  (f_X1_readNumber_89  v a1 a2)
else
  (some (false, v))))
def f_X1_readNumber_10   : Nat → rV → Int32 → Int32 → Int32 → Int32 → Option (Bool × rV)
  | 0, _, _, _, _, _ => none
  | n + 1, v, a1, a2, a3, a4 => if (4 : Int32) ≤ a3 then
  (f_X1_readNumber_69  v a1 a2 a3 a4)
else
  (if a4 < (48 : Int32) then
  (f_X1_readNumber_69  v a1 a2 a3 a4)
else
  (if (57 : Int32) < a4 then
  (f_X1_readNumber_69  v a1 a2 a3 a4)
else
  (vlet (((a2 * (10 : Int32)) + a4) - (48 : Int32) : Int32) fun x10 =>
  vlet (a3 + (1 : Int32)) fun x11 =>
  vlet (rI v 7 3 ((v.1 7 3) + (1 : Int32))) fun v12 =>
  (f_X6_byteAt v12 (v12.1 7 3)).bind fun p13 =>
  f_X1_readNumber_10  n v12 a1 x10 x11 p13)))
def f_X1_readNumber (v : rV) (a1 : Int32) : Option (Bool × rV) := (f_X1_nextByte v).bind fun p1 =>
  f_X1_readNumber_10  20000 p1.2 a1 (0 : Int32) (0 : Int32) p1.1
def f_X1_readItem_21   (v : rV) (s0 : Int32) : Option (Bool × rV) := if s0 < 0 then
  (some (false, v))
else
  (if (12 : Int32) ≤ s0 then
  (some (false, v))
else
  (if (f_X7_has (v.1 7 2) s0) = true then
  (some (false, v))
else
  (vlet (rI v 7 2 ((v.1 7 2) ||| ((1 : Int32) <<< (s0 &&& 31)))) fun v3 =>
  vlet (rI v3 7 3 ((v3.1 7 3) + (1 : Int32))) fun v4 =>
  (f_X1_readNumber v4 s0).bind fun p5 =>
  some (p5.1, p5.2))))
def f_X1_readItem (v : rV)  : Option (Bool × rV) := (f_X1_nextByte v).bind fun p1 =>
  if p1.1 = (-1 : Int32) then
  (f_X1_readItem_21  p1.2 (-1 : Int32))
else
  (f_X1_readItem_21  p1.2 (sidx 2 ((p1.1.toUInt32 % 65536).toInt32)))
def f_X1_faultOfDrop_71   (v : rV) (a1 : Int32) : Option (Int32 × rV) := if a1 = 0 then
  (some (v.1 7 3, v))
else
  ((f_X1_nextByte v).bind fun p6 =>
  if p6.1 = (-1 : Int32) then
  (if ((p6.2.1 8 0) + (p6.2.1 8 1)) ≤ (24 : Int32) then
  (some ((-1 : Int32), p6.2))
else
  (some (p6.2.1 1 1, p6.2)))
else
  (some (p6.2.1 7 3, p6.2)))
def f_X1_faultOfDrop_31   : Nat → rV → Int32 → Int32 → Option (Int32 × rV)
  | 0, _, _, _ => none
  | n + 1, v, a1, a2 => if (12 : Int32) ≤ a2 then
  (f_X1_faultOfDrop_71  v a1)
else
  (if a1 = 0 then
  (f_X1_faultOfDrop_71  v a1)
else
  ((f_X1_nextByte v).bind fun p10 =>
  if p10.1 = (44 : Int32) then
  (vlet (rI p10.2 7 3 ((p10.2.1 7 3) + (1 : Int32))) fun v11 =>
  (f_X1_readItem v11).bind fun p12 =>
  vlet (bI p12.1 : Int32) fun x13 =>
  vlet (a2 + (1 : Int32)) fun x14 =>
  f_X1_faultOfDrop_31  n p12.2 x13 x14)
else
  (f_X1_faultOfDrop_71  p10.2 a1)))
def f_X1_faultOfDrop (v : rV)  : Option (Int32 × rV) := vlet (rI v 7 3 (0 : Int32)) fun v1 =>
  vlet (rI v1 7 2 (0 : Int32)) fun v2 =>
  vlet (rCt v2 8 (fun j => (rtb.getD 2 []).getD j 0) 0 0 12) fun v3 =>
  (f_X1_readItem v3).bind fun p4 =>
  vlet (bI p4.1 : Int32) fun x5 =>
  f_X1_faultOfDrop_31  20000 p4.2 x5 (0 : Int32)
def f_X3_open (v : rV) (k1 : Nat) : Option (rV) := vlet (rR v 3 2 (some k1)) fun v1 =>
  vlet (rI v1 3 3 (0 : Int32)) fun v2 =>
  vlet (rI v2 4 2 (0 : Int32)) fun v3 =>
  some v3
def f_X3_nextByte_43   (v : rV)  : Option (Int32 × rV) := (f_X6_byteAt v (v.1 3 3)).bind fun p1 =>
  some (p1, v)
def f_X3_nextByte_0   : Nat → rV → Option (Int32 × rV)
  | 0, _ => none
  | n + 1, v => if (v.1 1 1) ≤ (v.1 3 3) then
  (f_X3_nextByte_43  v)
else
  ((f_X6_byteAt v (v.1 3 3)).bind fun p2 =>
  if p2 = (32 : Int32) then
  (vlet (rI v 3 3 ((v.1 3 3) + (1 : Int32))) fun v3 =>
  f_X3_nextByte_0  n v3)
else
  (f_X3_nextByte_43  v))
def f_X3_nextByte (v : rV)  : Option (Int32 × rV) := f_X3_nextByte_0  20000 v
def f_X3_goesOnWith (v : rV) (a1 : Int32) : Option (Bool × rV) := (f_X3_nextByte v).bind fun p1 =>
  if p1.1 = a1 then
  (vlet (rI p1.2 3 3 ((p1.2.1 3 3) + (1 : Int32))) fun v2 =>
  some (true, v2))
else
  (some (false, p1.2))
def f_X3_readNumber_71   (v : rV) (a1 : Int32) (a2 : Int32) : Option (Bool × rV) := (f_X2_add v 4 a1).bind fun p2 =>
  if a2 < (48 : Int32) then
  (some (true, p2))
else
  (if a2 ≤ (57 : Int32) then
  (some (false, p2))
else
  (some (true, p2)))
def f_X3_readNumber_16   : Nat → rV → Int32 → Int32 → Int32 → Option (Bool × rV)
  | 0, _, _, _, _ => none
  | n + 1, v, a1, a2, a3 => if (4 : Int32) ≤ a3 then
  (f_X3_readNumber_71  v a1 a2)
else
  (if a2 < (48 : Int32) then
  (f_X3_readNumber_71  v a1 a2)
else
  (if (57 : Int32) < a2 then
  (f_X3_readNumber_71  v a1 a2)
else
  (vlet (((a1 * (10 : Int32)) + a2) - (48 : Int32) : Int32) fun x5 =>
  vlet (rI v 3 3 ((v.1 3 3) + (1 : Int32))) fun v6 =>
  (f_X6_byteAt v6 (v6.1 3 3)).bind fun p7 =>
  vlet (a3 + (1 : Int32)) fun x8 =>
  f_X3_readNumber_16  n v6 x5 p7 x8)))
def f_X3_readNumber (v : rV)  : Option (Bool × rV) := (f_X6_byteAt v (v.1 3 3)).bind fun p1 =>
  f_X3_readNumber_16  20000 v (0 : Int32) p1 (0 : Int32)
def f_X3_readAtom_87 (R : rV → Int32 → Option (Bool × rV))   (v : rV) (s0 : Int32) : Option (Bool × rV) := if 0 ≤ s0 then
  (vlet (rI v 3 3 ((v.1 3 3) + (1 : Int32))) fun v3 =>
  (f_X2_add v3 4 ((-20 : Int32) - s0)).bind fun p4 =>
  some (true, p4))
else
  (some (false, v))
def f_X3_readAtom_69 (R : rV → Int32 → Option (Bool × rV))   (v : rV) (a2 : Int32) : Option (Bool × rV) := if a2 = (-1 : Int32) then
  (f_X3_readAtom_87 R  v (-1 : Int32))
else
  (if v.2.2 3 2 = some 1000010 then (f_X3_readAtom_87 R  v (sidx 0 ((a2.toUInt32 % 65536).toInt32))) else if v.2.2 3 2 = some 1000011 then (f_X3_readAtom_87 R  v (sidx 1 ((a2.toUInt32 % 65536).toInt32))) else none)
def f_X3_readAtom_22 (R : rV → Int32 → Option (Bool × rV))   (v : rV) (a1 : Int32) (a2 : Int32) : Option (Bool × rV) := if a2 = (91 : Int32) then
  (if (6 : Int32) ≤ a1 then
  (f_X3_readAtom_69 R  v a2)
else
  (vlet (rI v 3 3 ((v.1 3 3) + (1 : Int32))) fun v7 =>
  (R v7 (a1 + (1 : Int32))).bind fun p8 =>
  if p8.1 = true then
  ((f_X3_goesOnWith p8.2 (93 : Int32)).bind fun p9 =>
  if p9.1 = true then
  (some (true, p9.2))
else
  (some (false, p9.2)))
else
  (some (false, p8.2))))
else
  (f_X3_readAtom_69 R  v a2)
def f_X3_readAtom (R : rV → Int32 → Option (Bool × rV)) (v : rV) (a1 : Int32) : Option (Bool × rV) := (f_X3_nextByte v).bind fun p1 =>
  if p1.1 < (48 : Int32) then
  (f_X3_readAtom_22 R  p1.2 a1 p1.1)
else
  (if (57 : Int32) < p1.1 then
  (f_X3_readAtom_22 R  p1.2 a1 p1.1)
else
  ((f_X3_readNumber p1.2).bind fun p14 =>
  some (p14.1, p14.2)))
def f_X3_readSum_145 (R : rV → Int32 → Option (Bool × rV))  (q4 : rV → Int32 → Int32 → Int32 → Option (Bool × rV)) (v : rV) (a1 : Int32) (a3 : Int32) (a4 : Int32) : Option (Bool × rV) := vlet (rI v 3 3 ((v.1 3 3) + (1 : Int32))) fun v3 =>
  vlet (a3 + (1 : Int32)) fun x4 =>
  q4 v3 a1 a4 x4
def f_X3_readSum_129 (R : rV → Int32 → Option (Bool × rV))  (q4 : rV → Int32 → Int32 → Int32 → Option (Bool × rV)) (v : rV) (a1 : Int32) (a3 : Int32) (a4 : Int32) : Option (Bool × rV) := if a4 = (43 : Int32) then
  (f_X3_readSum_145 R q4 v a1 a3 a4)
else
  (if a4 = (45 : Int32) then
  (f_X3_readSum_145 R q4 v a1 a3 a4)
else
  (some (true, v)))
def f_X3_readSum_126 (R : rV → Int32 → Option (Bool × rV))  (q4 : rV → Int32 → Int32 → Int32 → Option (Bool × rV)) (v : rV) (a1 : Int32) (a3 : Int32) (a4 : Int32) (s0 : Int32) : Option (Bool × rV) := (f_X2_add v 4 s0).bind fun p7 =>
  f_X3_readSum_129 R q4 p7 a1 a3 a4
def f_X3_readSum_105 (R : rV → Int32 → Option (Bool × rV))  (q4 : rV → Int32 → Int32 → Int32 → Option (Bool × rV)) (v : rV) (a1 : Int32) (a2 : Int32) (a3 : Int32) (a4 : Int32) : Option (Bool × rV) := if a2 = (-1 : Int32) then
  (f_X3_readSum_129 R q4 v a1 a3 a4)
else
  (if a2 = (43 : Int32) then
  (f_X3_readSum_126 R q4 v a1 a3 a4 (-1 : Int32))
else
  (f_X3_readSum_126 R q4 v a1 a3 a4 (-2 : Int32)))
def f_X3_readSum_90 (R : rV → Int32 → Option (Bool × rV))  (q4 : rV → Int32 → Int32 → Int32 → Option (Bool × rV)) (q30 : rV → Int32 → Int32 → Int32 → Int32 → Int32 → Option (Bool × rV)) (v : rV) (a1 : Int32) (a2 : Int32) (a3 : Int32) (a5 : Int32) (s0 : Int32) : Option (Bool × rV) := (f_X2_add v 4 s0).bind fun p12 =>
  (f_X3_nextByte p12).bind fun p13 =>
  vlet (a5 + (1 : Int32)) fun x14 =>
  q30 p13.2 a1 a2 a3 p13.1 x14
def f_X3_readSum_52 (R : rV → Int32 → Option (Bool × rV))  (q4 : rV → Int32 → Int32 → Int32 → Option (Bool × rV)) (q30 : rV → Int32 → Int32 → Int32 → Int32 → Int32 → Option (Bool × rV)) (v : rV) (a1 : Int32) (a2 : Int32) (a3 : Int32) (a4 : Int32) (a5 : Int32) : Option (Bool × rV) := vlet (rI v 3 3 ((v.1 3 3) + (1 : Int32))) fun v10 =>
  (f_X3_readAtom R v10 a1).bind fun p11 =>
  if p11.1 = true then
  (if a4 = (42 : Int32) then
  (f_X3_readSum_90 R q4 q30 p11.2 a1 a2 a3 a5 (-3 : Int32))
else
  (f_X3_readSum_90 R q4 q30 p11.2 a1 a2 a3 a5 (-4 : Int32)))
else
  (some (false, p11.2))
def f_X3_readSum_30 (R : rV → Int32 → Option (Bool × rV))  (q4 : rV → Int32 → Int32 → Int32 → Option (Bool × rV)) : Nat → rV → Int32 → Int32 → Int32 → Int32 → Int32 → Option (Bool × rV)
  | 0, _, _, _, _, _, _ => none
  | n + 1, v, a1, a2, a3, a4, a5 => if (160 : Int32) ≤ a5 then
  (f_X3_readSum_105 R q4 v a1 a2 a3 a4)
else
  (if a4 = (42 : Int32) then
  (f_X3_readSum_52 R q4 (fun v a1 a2 a3 a4 a5 => f_X3_readSum_30 R q4 n v a1 a2 a3 a4 a5) v a1 a2 a3 a4 a5)
else
  (if a4 = (47 : Int32) then
  (f_X3_readSum_52 R q4 (fun v a1 a2 a3 a4 a5 => f_X3_readSum_30 R q4 n v a1 a2 a3 a4 a5) v a1 a2 a3 a4 a5)
else
  (f_X3_readSum_105 R q4 v a1 a2 a3 a4)))
def f_X3_readSum_4 (R : rV → Int32 → Option (Bool × rV))   : Nat → rV → Int32 → Int32 → Int32 → Option (Bool × rV)
  | 0, _, _, _, _ => none
  | n + 1, v, a1, a2, a3 => if (160 : Int32) ≤ a3 then
  (some (true, v))
else
  ((f_X3_readAtom R v a1).bind fun p1 =>
  if p1.1 = true then
  ((f_X3_nextByte p1.2).bind fun p2 =>
  f_X3_readSum_30 R (fun v a1 a2 a3 => f_X3_readSum_4 R  n v a1 a2 a3) 20000 p2.2 a1 a2 a3 p2.1 (0 : Int32))
else
  (some (false, p1.2)))
def f_X3_readSum_B (R : rV → Int32 → Option (Bool × rV)) (v : rV) (a1 : Int32) : Option (Bool × rV) := f_X3_readSum_4 R  20000 v a1 (-1 : Int32) (0 : Int32)
def f_X3_readSum : Nat → rV → Int32 → Option (Bool × rV)
  | 0, _, _ => none
  | n + 1, v, a1 => f_X3_readSum_B (f_X3_readSum n) v a1
def f_X3_isComparison (a0 : Int32) : Bool := if a0 = (61 : Int32) then
  (true)
else
  (if a0 = (60 : Int32) then
  (true)
else
  (if a0 = (62 : Int32) then
  (true)
else
  (false)))
def f_X3_readComparison_62   (v : rV) (s0 : Int32) : Option (Bool × rV) := (f_X2_add v 4 s0).bind fun p5 =>
  some (true, p5)
def f_X3_readComparison (v : rV) (a1 : Int32) : Option (Bool × rV) := (f_X3_nextByte v).bind fun p1 =>
  if (f_X3_isComparison p1.1) = true then
  (vlet (rI p1.2 3 3 ((p1.2.1 3 3) + (1 : Int32))) fun v3 =>
  (f_X3_readSum 10 v3 a1).bind fun p4 =>
  if p4.1 = true then
  (if p1.1 = (61 : Int32) then
  (f_X3_readComparison_62  p4.2 (-5 : Int32))
else
  (if p1.1 = (60 : Int32) then
  (f_X3_readComparison_62  p4.2 (-6 : Int32))
else
  (f_X3_readComparison_62  p4.2 (-7 : Int32))))
else
  (some (false, p4.2)))
else
  (some (false, p1.2))
def f_X3_readUnit_117 (R : rV → Int32 → Int32 → Option (Bool × rV))   : Nat → rV → Int32 → Int32 → Int32 → Option (Bool × rV)
  | 0, _, _, _, _ => none
  | n + 1, v, a3, a5, a6 => if a3 ≤ a6 then
  (if a5 = 0 ∨ a5 = 1 then some ((decide (¬ a5 = 0)), v) else none)
else
  ((f_X2_add v 4 (-10 : Int32)).bind fun p4 =>
  vlet (a6 + (1 : Int32)) fun x5 =>
  f_X3_readUnit_117 R  n p4 a3 a5 x5)
def f_X3_readUnit_114 (R : rV → Int32 → Int32 → Option (Bool × rV))   (v : rV) (a3 : Int32) (a5 : Int32) : Option (Bool × rV) := f_X3_readUnit_117 R  20000 v a3 a5 (0 : Int32)
def f_X3_readUnit_112 (R : rV → Int32 → Int32 → Option (Bool × rV))   (v : rV) (a3 : Int32) (s0 : Int32) : Option (Bool × rV) := f_X3_readUnit_114 R  v a3 s0
def f_X3_readUnit_111 (R : rV → Int32 → Int32 → Option (Bool × rV))   (v : rV) (a3 : Int32) : Option (Bool × rV) := f_X3_readUnit_112 R  v a3 (0 : Int32)
def f_X3_readUnit_98 (R : rV → Int32 → Int32 → Option (Bool × rV))   (v : rV) (a3 : Int32) (a4 : Int32) : Option (Bool × rV) := (f_X3_readComparison v a4).bind fun p2 =>
  if p2.1 = true then
  (f_X3_readUnit_112 R  p2.2 a3 (1 : Int32))
else
  (f_X3_readUnit_111 R  p2.2 a3)
def f_X3_readUnit_85 (R : rV → Int32 → Int32 → Option (Bool × rV))   (v : rV) (a2 : Int32) (a3 : Int32) (a4 : Int32) : Option (Bool × rV) := if a2 = 0 then
  ((f_X3_readSum 10 v a4).bind fun p8 =>
  if p8.1 = true then
  (f_X3_readUnit_98 R  p8.2 a3 a4)
else
  (f_X3_readUnit_111 R  p8.2 a3))
else
  (f_X3_readUnit_98 R  v a3 a4)
def f_X3_readUnit_80 (R : rV → Int32 → Int32 → Option (Bool × rV))   (v : rV) (a3 : Int32) (s0 : Int32) : Option (Bool × rV) := f_X3_readUnit_114 R  v a3 s0
def f_X3_readUnit_79 (R : rV → Int32 → Int32 → Option (Bool × rV))   (v : rV) (a3 : Int32) : Option (Bool × rV) := f_X3_readUnit_80 R  v a3 (0 : Int32)
def f_X3_readUnit_29 (R : rV → Int32 → Int32 → Option (Bool × rV))   (v : rV) (a1 : Int32) (a2 : Int32) (a3 : Int32) : Option (Bool × rV) := vlet (a1 + a3 : Int32) fun x1 =>
  if a2 = 0 then
  (if (6 : Int32) ≤ x1 then
  (f_X3_readUnit_85 R  v a2 a3 x1)
else
  ((f_X3_goesOnWith v (40 : Int32)).bind fun p11 =>
  if p11.1 = true then
  ((R p11.2 (x1 + (1 : Int32)) (0 : Int32)).bind fun p12 =>
  if p12.1 = true then
  ((f_X3_goesOnWith p12.2 (41 : Int32)).bind fun p13 =>
  if p13.1 = true then
  (f_X3_readUnit_80 R  p13.2 a3 (1 : Int32))
else
  (f_X3_readUnit_79 R  p13.2 a3))
else
  (f_X3_readUnit_79 R  p12.2 a3))
else
  (f_X3_readUnit_85 R  p11.2 a2 a3 x1)))
else
  (f_X3_readUnit_85 R  v a2 a3 x1)
def f_X3_readUnit_2 (R : rV → Int32 → Int32 → Option (Bool × rV))   : Nat → rV → Int32 → Int32 → Int32 → Option (Bool × rV)
  | 0, _, _, _, _ => none
  | n + 1, v, a1, a2, a3 => if a2 = 0 then
  (if (6 : Int32) ≤ (a3 + a1) then
  (f_X3_readUnit_29 R  v a1 a2 a3)
else
  ((f_X3_goesOnWith v (33 : Int32)).bind fun p19 =>
  if p19.1 = true then
  (vlet (a3 + (1 : Int32)) fun x20 =>
  f_X3_readUnit_2 R  n p19.2 a1 a2 x20)
else
  (f_X3_readUnit_29 R  p19.2 a1 a2 a3)))
else
  (f_X3_readUnit_29 R  v a1 a2 a3)
def f_X3_readUnit (R : rV → Int32 → Int32 → Option (Bool × rV)) (v : rV) (a1 : Int32) (a2 : Int32) : Option (Bool × rV) := f_X3_readUnit_2 R  20000 v a1 a2 (0 : Int32)
def f_X3_readCondition_96 (R : rV → Int32 → Int32 → Option (Bool × rV))  (q5 : rV → Int32 → Int32 → Int32 → Int32 → Option (Bool × rV)) (v : rV) (a1 : Int32) (a2 : Int32) (a3 : Int32) (a4 : Int32) : Option (Bool × rV) := vlet (a3 + (1 : Int32)) fun x2 =>
  (f_X3_goesOnWith v (124 : Int32)).bind fun p3 =>
  if p3.1 = true then
  (vlet (a4 + (1 : Int32)) fun x4 =>
  q5 p3.2 a1 a2 x2 x4)
else
  (some (true, p3.2))
def f_X3_readCondition_83 (R : rV → Int32 → Int32 → Option (Bool × rV))  (q5 : rV → Int32 → Int32 → Int32 → Int32 → Option (Bool × rV)) (v : rV) (a1 : Int32) (a2 : Int32) (a3 : Int32) (a4 : Int32) : Option (Bool × rV) := if a3 ≤ 0 then
  (f_X3_readCondition_96 R q5 v a1 a2 a3 a4)
else
  ((f_X2_add v 4 (-9 : Int32)).bind fun p6 =>
  f_X3_readCondition_96 R q5 p6 a1 a2 a3 a4)
def f_X3_readCondition_40 (R : rV → Int32 → Int32 → Option (Bool × rV))  (q5 : rV → Int32 → Int32 → Int32 → Int32 → Option (Bool × rV)) : Nat → rV → Int32 → Int32 → Int32 → Int32 → Int32 → Option (Bool × rV)
  | 0, _, _, _, _, _, _ => none
  | n + 1, v, a1, a2, a3, a4, a5 => if (160 : Int32) ≤ a5 then
  (f_X3_readCondition_83 R q5 v a1 a2 a3 a4)
else
  ((f_X3_goesOnWith v (38 : Int32)).bind fun p8 =>
  if p8.1 = true then
  ((f_X3_readUnit R p8.2 a1 (0 : Int32)).bind fun p9 =>
  if p9.1 = true then
  ((f_X2_add p9.2 4 (-8 : Int32)).bind fun p10 =>
  vlet (a5 + (1 : Int32)) fun x11 =>
  f_X3_readCondition_40 R q5 n p10 a1 a2 a3 a4 x11)
else
  (some (false, p9.2)))
else
  (f_X3_readCondition_83 R q5 p8.2 a1 a2 a3 a4))
def f_X3_readCondition_29 (R : rV → Int32 → Int32 → Option (Bool × rV))  (q5 : rV → Int32 → Int32 → Int32 → Int32 → Option (Bool × rV)) (v : rV) (a1 : Int32) (a2 : Int32) (a3 : Int32) (a4 : Int32) (s0 : Int32) (s1 : Int32) : Option (Bool × rV) := (f_X3_readUnit R v s1 s0).bind fun p1 =>
  if p1.1 = true then
  (f_X3_readCondition_40 R q5 20000 p1.2 a1 a2 a3 a4 (0 : Int32))
else
  (some (false, p1.2))
def f_X3_readCondition_28 (R : rV → Int32 → Int32 → Option (Bool × rV))  (q5 : rV → Int32 → Int32 → Int32 → Int32 → Option (Bool × rV)) (v : rV) (a1 : Int32) (a2 : Int32) (a3 : Int32) (a4 : Int32) (s0 : Int32) : Option (Bool × rV) := f_X3_readCondition_29 R q5 v a1 a2 a3 a4 (0 : Int32) s0
def f_X3_readCondition_5 (R : rV → Int32 → Int32 → Option (Bool × rV))   : Nat → rV → Int32 → Int32 → Int32 → Int32 → Option (Bool × rV)
  | 0, _, _, _, _, _ => none
  | n + 1, v, a1, a2, a3, a4 => if (160 : Int32) ≤ a4 then
  (some (true, v))
else
  (if a2 = 0 then
  (f_X3_readCondition_28 R (fun v a1 a2 a3 a4 => f_X3_readCondition_5 R  n v a1 a2 a3 a4) v a1 a2 a3 a4 a1)
else
  (if a4 = 0 then
  (f_X3_readCondition_29 R (fun v a1 a2 a3 a4 => f_X3_readCondition_5 R  n v a1 a2 a3 a4) v a1 a2 a3 a4 (1 : Int32) a1)
else
  (f_X3_readCondition_28 R (fun v a1 a2 a3 a4 => f_X3_readCondition_5 R  n v a1 a2 a3 a4) v a1 a2 a3 a4 a1)))
def f_X3_readCondition_B (R : rV → Int32 → Int32 → Option (Bool × rV)) (v : rV) (a1 : Int32) (a2 : Int32) : Option (Bool × rV) := f_X3_readCondition_5 R  20000 v a1 a2 (0 : Int32) (0 : Int32)
def f_X3_readCondition : Nat → rV → Int32 → Int32 → Option (Bool × rV)
  | 0, _, _, _ => none
  | n + 1, v, a1, a2 => f_X3_readCondition_B (f_X3_readCondition n) v a1 a2
def f_X3_readClause_82   (v : rV) (a2 : Int32) : Option (Bool × rV) := (f_X3_readCondition 10 v (0 : Int32) a2).bind fun p4 =>
  if p4.1 = true then
  ((f_X3_goesOnWith p4.2 (63 : Int32)).bind fun p5 =>
  if p5.1 = true then
  ((f_X2_add p5.2 4 (-11 : Int32)).bind fun p6 =>
  vlet (p6.1 4 2 : Int32) fun x7 =>
  (f_X2_add p6 4 (0 : Int32)).bind fun p8 =>
  (f_X3_readSum 10 p8 (0 : Int32)).bind fun p9 =>
  if p9.1 = true then
  ((f_X2_add p9.2 4 (-12 : Int32)).bind fun p10 =>
  (f_X2_endSkip p10 4 x7).bind fun p11 =>
  some (true, p11))
else
  (some (false, p9.2)))
else
  (some (false, p5.2)))
else
  (some (false, p4.2))
def f_X3_readClause_57   (v : rV) (a2 : Int32) : Option (Bool × rV) := if a2 = 0 then
  (f_X3_readClause_82  v a2)
else
  ((f_X3_nextByte v).bind fun p15 =>
  if (f_X3_isComparison p15.1) = true then
  (f_X3_readClause_82  p15.2 a2)
else
  ((f_X2_add p15.2 4 (-12 : Int32)).bind fun p17 =>
  some (true, p17)))
def f_X3_readClause_42   (v : rV) (s0 : Int32) : Option (Bool × rV) := if s0 = 0 then
  (f_X3_readClause_57  v s0)
else
  ((f_X3_readSum 10 v (0 : Int32)).bind fun p20 =>
  if p20.1 = true then
  (f_X3_readClause_57  p20.2 s0)
else
  (some (false, p20.2)))
def f_X3_readClause_41   (v : rV)  : Option (Bool × rV) := f_X3_readClause_42  v (0 : Int32)
def f_X3_readClause (v : rV)  : Option (Bool × rV) := (f_X3_goesOnWith v (121 : Int32)).bind fun p1 =>
  if p1.1 = true then
  ((f_X3_goesOnWith p1.2 (58 : Int32)).bind fun p2 =>
  if p2.1 = true then
  ((f_X3_nextByte p2.2).bind fun p3 =>
  if p3.1 = (33 : Int32) then
  (f_X3_readClause_41  p3.2)
else
  (if p3.1 = (40 : Int32) then
  (f_X3_readClause_41  p3.2)
else
  (f_X3_readClause_42  p3.2 (1 : Int32))))
else
  (some (false, p2.2)))
else
  (some (false, p1.2))
def f_X3_faultOfLaw_44   (v : rV) (a1 : Int32) : Option (Int32 × rV) := if a1 = 0 then
  (some (v.1 3 3, v))
else
  ((f_X3_nextByte v).bind fun p4 =>
  if p4.1 = (-1 : Int32) then
  (some ((-1 : Int32), p4.2))
else
  (some (p4.2.1 3 3, p4.2)))
def f_X3_faultOfLaw_13   : Nat → rV → Int32 → Int32 → Option (Int32 × rV)
  | 0, _, _, _ => none
  | n + 1, v, a1, a2 => if (160 : Int32) ≤ a2 then
  (f_X3_faultOfLaw_44  v a1)
else
  (if a1 = 0 then
  (f_X3_faultOfLaw_44  v a1)
else
  ((f_X3_goesOnWith v (59 : Int32)).bind fun p7 =>
  if p7.1 = true then
  ((f_X3_readClause p7.2).bind fun p8 =>
  vlet (bI p8.1 : Int32) fun x9 =>
  vlet (a2 + (1 : Int32)) fun x10 =>
  f_X3_faultOfLaw_13  n p8.2 x9 x10)
else
  (f_X3_faultOfLaw_44  p7.2 a1)))
def f_X3_faultOfLaw (v : rV)  : Option (Int32 × rV) := (f_X3_open v 1000010).bind fun p1 =>
  (f_X3_readClause p1).bind fun p2 =>
  vlet (bI p2.1 : Int32) fun x3 =>
  f_X3_faultOfLaw_13  20000 p2.2 x3 (0 : Int32)
def f_X3_faultOfWant (v : rV)  : Option (Int32 × rV) := (f_X3_open v 1000011).bind fun p1 =>
  (f_X3_readCondition 10 p1 (0 : Int32) (0 : Int32)).bind fun p2 =>
  if p2.1 = true then
  ((f_X2_add p2.2 4 (-12 : Int32)).bind fun p3 =>
  (f_X3_nextByte p3).bind fun p4 =>
  if p4.1 = (-1 : Int32) then
  (some ((-1 : Int32), p4.2))
else
  (some (p4.2.1 3 3, p4.2)))
else
  (some (p2.2.1 3 3, p2.2))
def f_X7_about (v : rV) (a1 : Int32) : Option (Int32) := (f_X5_tell v 60 a1).bind fun p1 =>
  some p1
def f_X7_lay (v : rV) (a1 : Int32) (k2 : Nat) (a3 : Int64) : Option (rV) := (f_X4_at v 9 a1).bind fun p1 =>
  if isForm p1 = true then
  ((f_X5_clear v 98 p1 a3).bind fun p2 =>
  (f_X5_put p2 98 k2 (0 : Int32) (p2.1 k2 0)).bind fun p3 =>
  (f_X5_begin p3 98).bind fun p4 =>
  some p4) else none
def f_X7_tryAlone (v : rV) (a1 : Int32) (k2 : Nat) (a3 : Int64) (a5 : Int32) : Option (rV) := (f_X7_lay v a1 k2 a3).bind fun p1 =>
  (f_X5_goOn p1 98 a5 (p1.1 0 15)).bind fun p2 =>
  some p2.2
def f_X7_alike_184  (q105 : rV → Int32 → Int32 → Int32 → Int32 → Int32 → Option (Int32 × rV)) (v : rV) (a2 : Int32) (a3 : Int32) (a7 : Int32) (a8 : Int32) (a9 : Int32) : Option (Int32 × rV) := vlet (a9 + (1 : Int32)) fun x17 =>
  q105 v a2 a3 a7 a8 x17
def f_X7_alike_178  (q105 : rV → Int32 → Int32 → Int32 → Int32 → Int32 → Option (Int32 × rV)) (v : rV) (a2 : Int32) (a3 : Int32) (a7 : Int32) (a8 : Int32) (a9 : Int32) (s0 : Int32) (s1 : Int32) : Option (Int32 × rV) := if s1 = s0 then
  (vlet (a8 + (1 : Int32)) fun x18 =>
  f_X7_alike_184 q105 v a2 a3 a7 x18 a9)
else
  (f_X7_alike_184 q105 v a2 a3 a7 a8 a9)
def f_X7_alike_157  (q105 : rV → Int32 → Int32 → Int32 → Int32 → Int32 → Option (Int32 × rV)) (v : rV) (a2 : Int32) (a3 : Int32) (a7 : Int32) (a8 : Int32) (a9 : Int32) (a11 : Int32) (s0 : Int32) : Option (Int32 × rV) := if (f_X7_isCell a11) = true then
  ((f_X5_lyingAt v 98 a11).bind fun p20 =>
  f_X7_alike_178 q105 v a2 a3 a7 a8 a9 p20 s0)
else
  (f_X7_alike_178 q105 v a2 a3 a7 a8 a9 (0 : Int32) s0)
def f_X7_alike_105   : Nat → rV → Int32 → Int32 → Int32 → Int32 → Int32 → Option (Int32 × rV)
  | 0, _, _, _, _, _, _ => none
  | n + 1, v, a2, a3, a7, a8, a9 => if a7 ≤ a9 then
  (some (a8, v))
else
  (if ¬ a2 < 0 ∧ a2.toNatClampNeg < 12 then
  (vlet ((v.1 (38 + a2.toNatClampNeg) 0) + a9 : Int32) fun x12 =>
  if ¬ a3 < 0 ∧ a3.toNatClampNeg < 12 then
  (vlet ((v.1 (38 + a3.toNatClampNeg) 0) + a9 : Int32) fun x14 =>
  if (f_X7_isCell x12) = true then
  (if ¬ x12 < 0 ∧ x12.toNatClampNeg < 24 then
  (f_X7_alike_157 (fun v a2 a3 a7 a8 a9 => f_X7_alike_105  n v a2 a3 a7 a8 a9) v a2 a3 a7 a8 a9 x14 (v.1 59 x12.toNatClampNeg))
else none)
else
  (f_X7_alike_157 (fun v a2 a3 a7 a8 a9 => f_X7_alike_105  n v a2 a3 a7 a8 a9) v a2 a3 a7 a8 a9 x14 (0 : Int32)))
else none)
else none)
def f_X7_alike (v : rV) (a1 : Int32) (a2 : Int32) (a3 : Int32) (a4 : Int64) (a6 : Int32) : Option (Int32 × rV) := if (f_X4_has v 9 a1) = true then
  (if (f_X7_isDrop v a2) = true then
  (if (f_X7_isDrop v a3) = true then
  (if (f_X7_areTicks a6) = true then
  (if ¬ a2 < 0 ∧ a2.toNatClampNeg < 12 then
  ((f_X7_tryAlone v a1 (38 + a2.toNatClampNeg) a4 a6).bind fun p6 =>
  (f_X5_writeLying p6 98 59).bind fun p7 =>
  if ¬ a3 < 0 ∧ a3.toNatClampNeg < 12 then
  ((f_X7_tryAlone p7 a1 (38 + a3.toNatClampNeg) a4 a6).bind fun p9 =>
  vlet (if (p9.1 (38 + a2.toNatClampNeg) 1) < (p9.1 (38 + a3.toNatClampNeg) 1) then (p9.1 (38 + a3.toNatClampNeg) 1) else (p9.1 (38 + a2.toNatClampNeg) 1) : Int32) fun x10 =>
  f_X7_alike_105  20000 p9 a2 a3 x10 (0 : Int32) (0 : Int32))
else none)
else none)
else
  (some ((-1 : Int32), v)))
else
  (some ((-1 : Int32), v)))
else
  (some ((-1 : Int32), v)))
else
  (some ((-1 : Int32), v))
def f_X7_back (v : rV)  : Option (Int32 × rV) := if (v.1 0 16) = 0 then
  (some ((-1 : Int32), v))
else
  ((f_X5_copy v 60 136).bind fun p1 =>
  some (p1.1 60 15, p1))
def f_X7_body (v : rV) (a1 : Int32) (a2 : Int32) : Option (Int32) := (f_X5_ofBody v 60 a1 a2).bind fun p1 =>
  some p1
def f_X7_canStart (v : rV) (a1 : Int32) (a2 : Int32) : Option (Bool) := if (f_X4_has v 9 a1) = true then
  (if a2 = 0 then
  (some false)
else
  (if (f_X7_areDrops v a2) = true then
  ((f_X7_areApart v a2).bind fun p3 =>
  if p3 = true then
  (some true)
else
  (some false))
else
  (some false)))
else
  (some false)
def f_X7_change (v : rV) (a1 : Int32) : Option (rV) := if ¬ a1 < 0 ∧ a1.toNatClampNeg < 12 then
  (vlet (rCp v 51 (38 + a1.toNatClampNeg) 0 0 12) fun v2 =>
  some v2)
else none
def f_X7_layPrint_33   : Nat → rV → Int32 → Int32 → Int32 → Int32 → Int32 → Option (Int32 × rV)
  | 0, _, _, _, _, _, _ => none
  | n + 1, v, a2, a3, a6, a7, a8 => if (24 : Int32) < (a8 + a6) then
  ((f_X5_begin v 98).bind fun p5 =>
  some (a7, p5))
else
  (if ¬ a2 < 0 ∧ a2.toNatClampNeg < 12 then
  ((f_X5_put v 98 (38 + a2.toNatClampNeg) a7 a8).bind fun p7 =>
  vlet (a7 + (1 : Int32)) fun x8 =>
  vlet (a8 + (a6 + a3) : Int32) fun x9 =>
  f_X7_layPrint_33  n p7 a2 a3 a6 x8 x9)
else none)
def f_X7_layPrint (v : rV) (a1 : Int32) (a2 : Int32) (a3 : Int32) (a4 : Int64) : Option (Int32 × rV) := if ¬ a2 < 0 ∧ a2.toNatClampNeg < 12 then
  (vlet (v.1 (38 + a2.toNatClampNeg) 1 : Int32) fun x2 =>
  (f_X4_at v 9 a1).bind fun p3 =>
  if isForm p3 = true then
  ((f_X5_clear v 98 p3 a4).bind fun p4 =>
  f_X7_layPrint_33  20000 p4 a2 a3 x2 (0 : Int32) (0 : Int32)) else none)
else none
def f_X7_evenInTheEnd (v : rV) (a1 : Int32) : Option (Int32 × rV) := (f_X5_goOn v 98 a1 (v.1 0 15)).bind fun p1 =>
  (f_X5_even p1.2 98).bind fun p2 =>
  some (p2, p1.2)
def f_X7_dots_84  (q38 : rV → Int32 → Int32 → Int64 → Int32 → Int32 → Int32 → Int32 → Option (Int32 × rV)) (v : rV) (a1 : Int32) (a2 : Int32) (a3 : Int64) (a5 : Int32) (a6 : Int32) (a7 : Int32) (a8 : Int32) : Option (Int32 × rV) := vlet (a8 + (1 : Int32)) fun x6 =>
  q38 v a1 a2 a3 a5 a6 a7 x6
def f_X7_dots_76  (q38 : rV → Int32 → Int32 → Int64 → Int32 → Int32 → Int32 → Int32 → Option (Int32 × rV)) (v : rV) (a1 : Int32) (a2 : Int32) (a3 : Int64) (a5 : Int32) (a8 : Int32) (a9 : Int32) : Option (Int32 × rV) := f_X7_dots_84 q38 v a1 a2 a3 a5 a8 a9 a8
def f_X7_dots_38   : Nat → rV → Int32 → Int32 → Int64 → Int32 → Int32 → Int32 → Int32 → Option (Int32 × rV)
  | 0, _, _, _, _, _, _, _, _ => none
  | n + 1, v, a1, a2, a3, a5, a6, a7, a8 => if (9 : Int32) < a8 then
  (some (a6, v))
else
  ((f_X7_layPrint v a1 a2 a8 a3).bind fun p4 =>
  (f_X7_evenInTheEnd p4.2 a5).bind fun p5 =>
  if a6 = (-1 : Int32) then
  (f_X7_dots_76 (fun v a1 a2 a3 a5 a6 a7 a8 => f_X7_dots_38  n v a1 a2 a3 a5 a6 a7 a8) p5.2 a1 a2 a3 a5 a8 p5.1)
else
  (if a7 ≤ p5.1 then
  (f_X7_dots_84 (fun v a1 a2 a3 a5 a6 a7 a8 => f_X7_dots_38  n v a1 a2 a3 a5 a6 a7 a8) p5.2 a1 a2 a3 a5 a6 a7 a8)
else
  (f_X7_dots_76 (fun v a1 a2 a3 a5 a6 a7 a8 => f_X7_dots_38  n v a1 a2 a3 a5 a6 a7 a8) p5.2 a1 a2 a3 a5 a8 p5.1)))
def f_X7_dots (v : rV) (a1 : Int32) (a2 : Int32) (a3 : Int64) (a5 : Int32) : Option (Int32 × rV) := if (f_X4_has v 9 a1) = true then
  (if (f_X7_isDrop v a2) = true then
  (if (f_X7_areTicks a5) = true then
  (f_X7_dots_38  20000 v a1 a2 a3 a5 (-1 : Int32) (0 : Int32) (0 : Int32))
else
  (some ((-1 : Int32), v)))
else
  (some ((-1 : Int32), v)))
else
  (some ((-1 : Int32), v))
def f_X7_dry (v : rV) (a1 : Int32) (a2 : Int32) (a3 : Int64) : Option (Int32 × rV) := if (f_X4_has v 9 a1) = true then
  (if (f_X7_isDrop v a2) = true then
  (if ¬ a2 < 0 ∧ a2.toNatClampNeg < 12 then
  ((f_X7_tryAlone v a1 (38 + a2.toNatClampNeg) a3 (200 : Int32)).bind fun p4 =>
  if (p4.1 98 10) = 0 then
  (some (p4.1 98 15, p4))
else
  (some ((-1 : Int32), p4)))
else none)
else
  (some ((-1 : Int32), v)))
else
  (some ((-1 : Int32), v))
def f_X7_end (v : rV) (a1 : Int32) : Option (Bool × rV) := if a1 < 0 then
  (some (false, v))
else
  (if a1 ≤ (v.1 1 1) then
  (vlet (rI v 1 1 a1) fun v1 =>
  some (true, v1))
else
  (some (false, v)))
def f_X7_fault (v : rV) (a1 : Int32) : Option (Int32 × rV) := if a1 = 0 then
  ((f_X3_faultOfLaw v).bind fun p5 =>
  some (p5.1, p5.2))
else
  (if a1 = (1 : Int32) then
  ((f_X3_faultOfWant v).bind fun p3 =>
  some (p3.1, p3.2))
else
  (if a1 = (2 : Int32) then
  ((f_X1_faultOfDrop v).bind fun p1 =>
  some (p1.1, p1.2))
else
  (some ((-2 : Int32), v))))
def f_X7_feed (v : rV) (a1 : Int32) (a2 : Int32) (a3 : Int32) (a4 : Int32) (a5 : Int32) : Option (Int32 × rV) := (f_X6_bytesIn v a1).bind fun p1 =>
  (f_X6_bytesIn v a2).bind fun p2 =>
  (f_X6_bytesIn v a3).bind fun p3 =>
  (f_X6_bytesIn v a4).bind fun p4 =>
  (f_X6_bytesIn v a5).bind fun p5 =>
  vlet ((((p1 + p2) + p3) + p4) + p5 : Int32) fun x6 =>
  if ((v.1 1 1) + x6) ≤ (160 : Int32) then
  ((f_X6_append v a1).bind fun p7 =>
  (f_X6_append p7 a2).bind fun p8 =>
  (f_X6_append p8 a3).bind fun p9 =>
  (f_X6_append p9 a4).bind fun p10 =>
  (f_X6_append p10 a5).bind fun p11 =>
  some (p11.1 1 1, p11))
else
  (some ((-1 : Int32), v))
def f_X7_grain (v : rV) (a1 : Int32) (a2 : Int32) (a3 : Int32) : Option (Bool × rV) := if (f_X7_isStain v a1) = true then
  (if (f_X7_isCell a2) = true then
  (if a3 < 0 then
  (some (false, v))
else
  (if a3 ≤ (9999 : Int32) then
  (if ¬ a1 < 0 ∧ a1.toNatClampNeg < 6 then
  (if ¬ a2 < 0 ∧ a2.toNatClampNeg < 24 then
  (vlet (rI v (53 + a1.toNatClampNeg) a2.toNatClampNeg a3) fun v5 =>
  some (true, v5))
else none)
else none)
else
  (some (false, v))))
else
  (some (false, v)))
else
  (some (false, v))
def f_X7_heap (v : rV) (a1 : Int32) (a2 : Int32) : Option (Int32) := if (f_X7_isCell a1) = true then
  (if a2 < 0 then
  (some (-1 : Int32))
else
  (if a2 ≤ (1 : Int32) then
  (if a2 = (1 : Int32) then
  (if ¬ a1 < 0 ∧ a1.toNatClampNeg < 24 then
  (some (v.1 70 a1.toNatClampNeg))
else none)
else
  ((f_X5_lyingAt v 60 a1).bind fun p2 =>
  if ¬ a1 < 0 ∧ a1.toNatClampNeg < 24 then
  (some (p2 - (v.1 70 a1.toNatClampNeg)))
else none))
else
  (some (-1 : Int32))))
else
  (some (-1 : Int32))
def f_X7_image (v : rV)  : Option (Int32 × rV) := (f_X5_copy v 136 60).bind fun p1 =>
  vlet (rI p1 0 16 (1 : Int32)) fun v2 =>
  some (v2.1 60 15, v2)
def f_X7_isMetBy (v : rV) (k1 : Nat) (a2 : Int32) : Option (Bool × rV) := (f_X5_tellWants v k1).bind fun p1 =>
  (f_X4_at p1 23 a2).bind fun p2 =>
  if isForm p2 = true then
  ((f_X2_worth p1 p2 (k1 + 3)).bind fun p3 =>
  if p3.1 = 0 then
  (some (false, p3.2))
else
  (some (true, p3.2))) else none
def f_X7_join_28   : Nat → rV → Int32 → Int32 → Int32 → Int32 → Option (Int32 × rV)
  | 0, _, _, _, _, _ => none
  | n + 1, v, a1, a2, a3, a4 => if (24 : Int32) ≤ a4 then
  (some (a3, v))
else
  (if ¬ a1 < 0 ∧ a1.toNatClampNeg < 6 then
  (if ¬ a4 < 0 ∧ a4.toNatClampNeg < 24 then
  (if ¬ a2 < 0 ∧ a2.toNatClampNeg < 6 then
  (vlet (rI v (53 + a1.toNatClampNeg) a4.toNatClampNeg (if ((v.1 (53 + a1.toNatClampNeg) a4.toNatClampNeg) + (v.1 (53 + a2.toNatClampNeg) a4.toNatClampNeg)) < (9999 : Int32) then ((v.1 (53 + a1.toNatClampNeg) a4.toNatClampNeg) + (v.1 (53 + a2.toNatClampNeg) a4.toNatClampNeg)) else (9999 : Int32))) fun v6 =>
  vlet (a3 + (v6.1 (53 + a1.toNatClampNeg) a4.toNatClampNeg) : Int32) fun x7 =>
  vlet (a4 + (1 : Int32)) fun x8 =>
  f_X7_join_28  n v6 a1 a2 x7 x8)
else none)
else none)
else none)
def f_X7_join (v : rV) (a1 : Int32) (a2 : Int32) : Option (Int32 × rV) := if (f_X7_isStain v a1) = true then
  (if (f_X7_isStain v a2) = true then
  (if a1 = a2 then
  (some ((-1 : Int32), v))
else
  (f_X7_join_28  20000 v a1 a2 (0 : Int32) (0 : Int32)))
else
  (some ((-1 : Int32), v)))
else
  (some ((-1 : Int32), v))
def f_X7_keepDrop (v : rV)  : Option (Int32 × rV) := if (v.1 0 13) < (12 : Int32) then
  (if ¬ (v.1 0 13) < 0 ∧ (v.1 0 13).toNatClampNeg < 12 then
  (vlet (rCp v (38 + (v.1 0 13).toNatClampNeg) 8 0 0 12) fun v2 =>
  vlet (rI v2 0 13 ((v2.1 0 13) + (1 : Int32))) fun v3 =>
  some ((v3.1 0 13) - (1 : Int32), v3))
else none)
else
  (some ((-1 : Int32), v))
def f_X7_leastOfChanged_3   : Nat → rV → Int32 → Int32 → Int32 → Int64 → Int32 → Int32 → Option (Int32 × rV)
  | 0, _, _, _, _, _, _, _ => none
  | n + 1, v, a1, a2, a3, a4, a6, a7 => if (60 : Int32) < a7 then
  (some ((-1 : Int32), v))
else
  (if ¬ a2 < 0 ∧ a2.toNatClampNeg < 12 then
  (vlet (rI v 51 a2.toNatClampNeg a7) fun v2 =>
  (f_X7_tryAlone v2 a1 51 a4 a6).bind fun p3 =>
  (f_X7_isMetBy p3 98 a3).bind fun p4 =>
  if p4.1 = true then
  (some (a7, p4.2))
else
  (vlet (a7 + (1 : Int32)) fun x5 =>
  f_X7_leastOfChanged_3  n p4.2 a1 a2 a3 a4 a6 x5))
else none)
def f_X7_leastOfChanged (v : rV) (a1 : Int32) (a2 : Int32) (a3 : Int32) (a4 : Int64) (a6 : Int32) : Option (Int32 × rV) := f_X7_leastOfChanged_3  20000 v a1 a2 a3 a4 a6 (0 : Int32)
def f_X7_least (v : rV) (a1 : Int32) (a2 : Int32) (a3 : Int32) (a4 : Int32) (a5 : Int64) (a7 : Int32) : Option (Int32 × rV) := if (f_X4_has v 9 a1) = true then
  (if (f_X7_isDrop v a2) = true then
  (if (f_X7_isTriedLetter a3) = true then
  (if (f_X4_has v 23 a4) = true then
  (if (f_X7_areTicks a7) = true then
  ((f_X7_change v a2).bind fun p6 =>
  (f_X7_leastOfChanged p6 a1 a3 a4 a5 a7).bind fun p7 =>
  some (p7.1, p7.2))
else
  (some ((-1 : Int32), v)))
else
  (some ((-1 : Int32), v)))
else
  (some ((-1 : Int32), v)))
else
  (some ((-1 : Int32), v)))
else
  (some ((-1 : Int32), v))
def f_X7_line_160  (q116 : rV → Int32 → Int32 → Int32 → Int32 → Int64 → Int32 → Int32 → Int32 → Option (Int32 × rV)) (v : rV) (a1 : Int32) (a3 : Int32) (a4 : Int32) (a6 : Int32) (a7 : Int64) (a9 : Int32) (a10 : Int32) (a11 : Int32) : Option (Int32 × rV) := vlet (a11 + (1 : Int32)) fun x11 =>
  q116 v a1 a3 a4 a6 a7 a9 a10 x11
def f_X7_line_116   : Nat → rV → Int32 → Int32 → Int32 → Int32 → Int64 → Int32 → Int32 → Int32 → Option (Int32 × rV)
  | 0, _, _, _, _, _, _, _, _, _ => none
  | n + 1, v, a1, a3, a4, a6, a7, a9, a10, a11 => if (7 : Int32) ≤ a11 then
  (some (a10, v))
else
  (if ¬ a3 < 0 ∧ a3.toNatClampNeg < 12 then
  (vlet (rI v 51 a3.toNatClampNeg ((10 : Int32) * a11)) fun v9 =>
  (f_X7_leastOfChanged v9 a1 a4 a6 a7 a9).bind fun p10 =>
  if p10.1 = (-1 : Int32) then
  (f_X7_line_160 (fun v a1 a3 a4 a6 a7 a9 a10 a11 => f_X7_line_116  n v a1 a3 a4 a6 a7 a9 a10 a11) p10.2 a1 a3 a4 a6 a7 a9 a10 a11)
else
  (vlet (a10 ||| ((1 : Int32) <<< (a11 &&& 31)) : Int32) fun x12 =>
  f_X7_line_160 (fun v a1 a3 a4 a6 a7 a9 a10 a11 => f_X7_line_116  n v a1 a3 a4 a6 a7 a9 a10 a11) p10.2 a1 a3 a4 a6 a7 a9 x12 a11))
else none)
def f_X7_line (v : rV) (a1 : Int32) (a2 : Int32) (a3 : Int32) (a4 : Int32) (a5 : Int32) (a6 : Int32) (a7 : Int64) (a9 : Int32) : Option (Int32 × rV) := if (f_X4_has v 9 a1) = true then
  (if (f_X7_isDrop v a2) = true then
  (if (f_X4_has v 23 a6) = true then
  (if (f_X7_areTicks a9) = true then
  (if (f_X7_isTriedLetter a3) = true then
  (if (f_X7_isTriedLetter a4) = true then
  (if a3 = a4 then
  (some ((-1 : Int32), v))
else
  (if a5 < (-1 : Int32) then
  (some ((-1 : Int32), v))
else
  (if a5 ≤ (60 : Int32) then
  ((f_X7_change v a2).bind fun p7 =>
  if a5 = (-1 : Int32) then
  (f_X7_line_116  20000 p7 a1 a3 a4 a6 a7 a9 (0 : Int32) (0 : Int32))
else
  (if ¬ a3 < 0 ∧ a3.toNatClampNeg < 12 then
  (vlet (rI p7 51 a3.toNatClampNeg a5) fun v16 =>
  (f_X7_leastOfChanged v16 a1 a4 a6 a7 a9).bind fun p17 =>
  some (p17.1, p17.2))
else none))
else
  (some ((-1 : Int32), v)))))
else
  (some ((-1 : Int32), v)))
else
  (some ((-1 : Int32), v)))
else
  (some ((-1 : Int32), v)))
else
  (some ((-1 : Int32), v)))
else
  (some ((-1 : Int32), v)))
else
  (some ((-1 : Int32), v))
def f_X7_luck_102  (q61 : rV → Int32 → Int32 → Int32 → Int64 → Int32 → Int32 → Int32 → Int32 → Option (Int32 × rV)) (v : rV) (a1 : Int32) (a2 : Int32) (a3 : Int32) (a4 : Int64) (a6 : Int32) (a7 : Int32) (a8 : Int32) (a9 : Int32) : Option (Int32 × rV) := vlet (a9 + (1 : Int32)) fun x8 =>
  q61 v a1 a2 a3 a4 a6 a7 a8 x8
def f_X7_luck_61   : Nat → rV → Int32 → Int32 → Int32 → Int64 → Int32 → Int32 → Int32 → Int32 → Option (Int32 × rV)
  | 0, _, _, _, _, _, _, _, _, _ => none
  | n + 1, v, a1, a2, a3, a4, a6, a7, a8, a9 => if a6 ≤ a9 then
  (some (a8, v))
else
  (if ¬ a2 < 0 ∧ a2.toNatClampNeg < 12 then
  ((f_X7_tryAlone v a1 (38 + a2.toNatClampNeg) (a4 + a9.toInt64) a7).bind fun p6 =>
  (f_X7_isMetBy p6 98 a3).bind fun p7 =>
  if p7.1 = true then
  (vlet (a8 + (1 : Int32)) fun x9 =>
  f_X7_luck_102 (fun v a1 a2 a3 a4 a6 a7 a8 a9 => f_X7_luck_61  n v a1 a2 a3 a4 a6 a7 a8 a9) p7.2 a1 a2 a3 a4 a6 a7 x9 a9)
else
  (f_X7_luck_102 (fun v a1 a2 a3 a4 a6 a7 a8 a9 => f_X7_luck_61  n v a1 a2 a3 a4 a6 a7 a8 a9) p7.2 a1 a2 a3 a4 a6 a7 a8 a9))
else none)
def f_X7_luck (v : rV) (a1 : Int32) (a2 : Int32) (a3 : Int32) (a4 : Int64) (a6 : Int32) (a7 : Int32) : Option (Int32 × rV) := if (f_X4_has v 9 a1) = true then
  (if (f_X7_isDrop v a2) = true then
  (if (f_X4_has v 23 a3) = true then
  (if (f_X7_areTicks a7) = true then
  (if a6 < (1 : Int32) then
  (some ((-1 : Int32), v))
else
  (if a6 ≤ (20 : Int32) then
  (f_X7_luck_61  20000 v a1 a2 a3 a4 a6 a7 (0 : Int32) (0 : Int32))
else
  (some ((-1 : Int32), v))))
else
  (some ((-1 : Int32), v)))
else
  (some ((-1 : Int32), v)))
else
  (some ((-1 : Int32), v)))
else
  (some ((-1 : Int32), v))
def f_X7_met (v : rV) (a1 : Int32) : Option (Int32 × rV) := if (f_X4_has v 23 a1) = true then
  ((f_X7_isMetBy v 60 a1).bind fun p2 =>
  if p2.1 = true then
  (some ((1 : Int32), p2.2))
else
  (some ((0 : Int32), p2.2)))
else
  (some ((-1 : Int32), v))
def f_X7_middle (v : rV) (a1 : Int32) : Option (Int32) := if a1 < 0 then
  (some (-1 : Int32))
else
  (if (1 : Int32) < a1 then
  (some (-1 : Int32))
else
  ((f_X5_lyingAll v 60).bind fun p1 =>
  if p1 = 0 then
  (some (-1 : Int32))
else
  (if a1 = 0 then
  ((f_X5_center v 60).bind fun p3 =>
  some p3)
else
  ((f_X5_spread v 60).bind fun p2 =>
  some p2))))
def f_X7_nearestTick_87  (q22 : rV → Int32 → Int32 → Int32 → Int32 → Option (Int32 × rV)) (v : rV) (a1 : Int32) (a6 : Int32) (a7 : Int32) (a8 : Int32) : Option (Int32 × rV) := vlet (a8 + (1 : Int32)) fun x6 =>
  q22 v a1 a6 a7 x6
def f_X7_nearestTick_79  (q22 : rV → Int32 → Int32 → Int32 → Int32 → Option (Int32 × rV)) (v : rV) (a1 : Int32) (a8 : Int32) (a9 : Int32) : Option (Int32 × rV) := f_X7_nearestTick_87 q22 v a1 a8 a9 a8
def f_X7_nearestTick_22   : Nat → rV → Int32 → Int32 → Int32 → Int32 → Option (Int32 × rV)
  | 0, _, _, _, _, _ => none
  | n + 1, v, a1, a6, a7, a8 => if (60 : Int32) < a8 then
  (some (a6, v))
else
  (if (v.1 98 10) ≤ 0 then
  (some (a6, v))
else
  ((f_X5_goOn v 98 (1 : Int32) (v.1 0 15)).bind fun p3 =>
  if ¬ a1 < 0 ∧ a1.toNatClampNeg < 6 then
  ((f_X5_offFrom p3.2 98 (53 + a1.toNatClampNeg)).bind fun p5 =>
  if a6 = 0 then
  (f_X7_nearestTick_79 (fun v a1 a6 a7 a8 => f_X7_nearestTick_22  n v a1 a6 a7 a8) p3.2 a1 a8 p5)
else
  (if a7 ≤ p5 then
  (f_X7_nearestTick_87 (fun v a1 a6 a7 a8 => f_X7_nearestTick_22  n v a1 a6 a7 a8) p3.2 a1 a6 a7 a8)
else
  (f_X7_nearestTick_79 (fun v a1 a6 a7 a8 => f_X7_nearestTick_22  n v a1 a6 a7 a8) p3.2 a1 a8 p5)))
else none))
def f_X7_nearestTick (v : rV) (a1 : Int32) (a2 : Int32) (a3 : Int32) (a4 : Int64) : Option (Int32 × rV) := if ¬ a3 < 0 ∧ a3.toNatClampNeg < 12 then
  ((f_X7_lay v a2 (38 + a3.toNatClampNeg) a4).bind fun p2 =>
  f_X7_nearestTick_22  20000 p2 a1 (0 : Int32) (0 : Int32) (1 : Int32))
else none
def f_X7_partsBy (v : rV) (a1 : Int32) (a2 : Int32) (a3 : Int32) (a4 : Int64) (a6 : Int32) : Option (Int32 × rV) := if ¬ a3 < 0 ∧ a3.toNatClampNeg < 12 then
  ((f_X7_tryAlone v a1 (38 + a3.toNatClampNeg) a4 a6).bind fun p2 =>
  (f_X5_writeLying p2 98 59).bind fun p3 =>
  (f_X7_tryAlone p3 a2 (38 + a3.toNatClampNeg) a4 a6).bind fun p4 =>
  (f_X5_offFrom p4 98 59).bind fun p5 =>
  some (p5, p4))
else none
def f_X7_next_100  (q53 : rV → Int32 → Int32 → Int32 → Int64 → Int32 → Int32 → Int32 → Int32 → Option (Int32 × rV)) (v : rV) (a1 : Int32) (a2 : Int32) (a3 : Int32) (a4 : Int64) (a6 : Int32) (a7 : Int32) (a8 : Int32) (a9 : Int32) : Option (Int32 × rV) := vlet (a9 + (1 : Int32)) fun x6 =>
  q53 v a1 a2 a3 a4 a6 a7 a8 x6
def f_X7_next_53   : Nat → rV → Int32 → Int32 → Int32 → Int64 → Int32 → Int32 → Int32 → Int32 → Option (Int32 × rV)
  | 0, _, _, _, _, _, _, _, _, _ => none
  | n + 1, v, a1, a2, a3, a4, a6, a7, a8, a9 => if (v.1 0 13) ≤ a9 then
  (some (a7, v))
else
  (if (f_X7_has a3 a9) = true then
  ((f_X7_partsBy v a1 a2 a9 a4 a6).bind fun p7 =>
  if p7.1 ≤ a8 then
  (f_X7_next_100 (fun v a1 a2 a3 a4 a6 a7 a8 a9 => f_X7_next_53  n v a1 a2 a3 a4 a6 a7 a8 a9) p7.2 a1 a2 a3 a4 a6 a7 a8 a9)
else
  (f_X7_next_100 (fun v a1 a2 a3 a4 a6 a7 a8 a9 => f_X7_next_53  n v a1 a2 a3 a4 a6 a7 a8 a9) p7.2 a1 a2 a3 a4 a6 a9 p7.1 a9))
else
  (f_X7_next_100 (fun v a1 a2 a3 a4 a6 a7 a8 a9 => f_X7_next_53  n v a1 a2 a3 a4 a6 a7 a8 a9) v a1 a2 a3 a4 a6 a7 a8 a9))
def f_X7_next (v : rV) (a1 : Int32) (a2 : Int32) (a3 : Int32) (a4 : Int64) (a6 : Int32) : Option (Int32 × rV) := if (f_X4_has v 9 a1) = true then
  (if (f_X4_has v 9 a2) = true then
  (if a3 = 0 then
  (some ((-1 : Int32), v))
else
  (if (f_X7_areDrops v a3) = true then
  (if (f_X7_areTicks a6) = true then
  (f_X7_next_53  20000 v a1 a2 a3 a4 a6 (-1 : Int32) (-1 : Int32) (0 : Int32))
else
  (some ((-1 : Int32), v)))
else
  (some ((-1 : Int32), v))))
else
  (some ((-1 : Int32), v)))
else
  (some ((-1 : Int32), v))
def f_X7_read_116  (q55 : rV → Int32 → Int32 → Int32 → Int64 → Int32 → Int32 → Int32 → Int32 → Option (Int32 × rV)) (v : rV) (a1 : Int32) (a2 : Int32) (a3 : Int32) (a4 : Int64) (a6 : Int32) (a7 : Int32) (a8 : Int32) (a9 : Int32) : Option (Int32 × rV) := vlet (a9 + (1 : Int32)) fun x6 =>
  q55 v a1 a2 a3 a4 a6 a7 a8 x6
def f_X7_read_55   : Nat → rV → Int32 → Int32 → Int32 → Int64 → Int32 → Int32 → Int32 → Int32 → Option (Int32 × rV)
  | 0, _, _, _, _, _, _, _, _, _ => none
  | n + 1, v, a1, a2, a3, a4, a6, a7, a8, a9 => if (v.1 0 13) ≤ a9 then
  (some (a8, v))
else
  (if (f_X7_has a3 a9) = true then
  (if ¬ a9 < 0 ∧ a9.toNatClampNeg < 12 then
  ((f_X7_tryAlone v a2 (38 + a9.toNatClampNeg) a4 a6).bind fun p8 =>
  if ¬ a1 < 0 ∧ a1.toNatClampNeg < 6 then
  ((f_X5_farthestFrom p8 98 (53 + a1.toNatClampNeg)).bind fun p10 =>
  if a7 < p10 then
  (f_X7_read_116 (fun v a1 a2 a3 a4 a6 a7 a8 a9 => f_X7_read_55  n v a1 a2 a3 a4 a6 a7 a8 a9) p8 a1 a2 a3 a4 a6 a7 a8 a9)
else
  (vlet (a8 ||| ((1 : Int32) <<< (a9 &&& 31)) : Int32) fun x11 =>
  f_X7_read_116 (fun v a1 a2 a3 a4 a6 a7 a8 a9 => f_X7_read_55  n v a1 a2 a3 a4 a6 a7 a8 a9) p8 a1 a2 a3 a4 a6 a7 x11 a9))
else none)
else none)
else
  (f_X7_read_116 (fun v a1 a2 a3 a4 a6 a7 a8 a9 => f_X7_read_55  n v a1 a2 a3 a4 a6 a7 a8 a9) v a1 a2 a3 a4 a6 a7 a8 a9))
def f_X7_read (v : rV) (a1 : Int32) (a2 : Int32) (a3 : Int32) (a4 : Int64) (a6 : Int32) (a7 : Int32) : Option (Int32 × rV) := if (f_X7_isStain v a1) = true then
  (if (f_X4_has v 9 a2) = true then
  (if (f_X7_areDrops v a3) = true then
  (if (f_X7_areTicks a6) = true then
  (if a7 < 0 then
  (some ((-1 : Int32), v))
else
  (if a7 ≤ (99 : Int32) then
  (f_X7_read_55  20000 v a1 a2 a3 a4 a6 a7 (0 : Int32) (0 : Int32))
else
  (some ((-1 : Int32), v))))
else
  (some ((-1 : Int32), v)))
else
  (some ((-1 : Int32), v)))
else
  (some ((-1 : Int32), v)))
else
  (some ((-1 : Int32), v))
def f_X7_odds_60  (q29 : rV → Int32 → Int32 → Int32 → Option (Int32 × rV)) (v : rV) (a8 : Int32) (a9 : Int32) (a10 : Int32) : Option (Int32 × rV) := vlet (a10 + (1 : Int32)) fun x3 =>
  q29 v a8 a9 x3
def f_X7_odds_29   : Nat → rV → Int32 → Int32 → Int32 → Option (Int32 × rV)
  | 0, _, _, _, _ => none
  | n + 1, v, a8, a9, a10 => if (v.1 0 13) ≤ a10 then
  (some (a9, v))
else
  (if (f_X7_has a8 a10) = true then
  (if ¬ a10 < 0 ∧ a10.toNatClampNeg < 12 then
  (vlet (a9 + (v.1 50 a10.toNatClampNeg) : Int32) fun x5 =>
  f_X7_odds_60 (fun v a8 a9 a10 => f_X7_odds_29  n v a8 a9 a10) v a8 x5 a10)
else none)
else
  (f_X7_odds_60 (fun v a8 a9 a10 => f_X7_odds_29  n v a8 a9 a10) v a8 a9 a10))
def f_X7_odds (v : rV) (a1 : Int32) (a2 : Int32) (a3 : Int32) (a4 : Int64) (a6 : Int32) (a7 : Int32) : Option (Int32 × rV) := (f_X7_read v a1 a2 a3 a4 a6 a7).bind fun p1 =>
  if p1.1 = (-1 : Int32) then
  (some ((-1 : Int32), p1.2))
else
  (f_X7_odds_29  20000 p1.2 p1.1 (0 : Int32) (0 : Int32))
def f_X7_offBehind (v : rV) (a1 : Int32) (a2 : Int32) (a3 : Int32) (a4 : Int64) (a6 : Int32) : Option (Int32 × rV) := if ¬ a3 < 0 ∧ a3.toNatClampNeg < 12 then
  ((f_X7_tryAlone v a2 (38 + a3.toNatClampNeg) a4 a6).bind fun p2 =>
  if ¬ a1 < 0 ∧ a1.toNatClampNeg < 6 then
  ((f_X5_offFrom p2 98 (53 + a1.toNatClampNeg)).bind fun p4 =>
  some (p4, p2))
else none)
else none
def f_X7_pace (v : rV) (a1 : Int32) : Option (Bool × rV) := if a1 < 0 then
  (some (false, v))
else
  (if a1 ≤ (99 : Int32) then
  (vlet (rI v 0 15 a1) fun v1 =>
  some (true, v1))
else
  (some (false, v)))
def f_X7_parts (v : rV) (a1 : Int32) (a2 : Int32) (a3 : Int32) (a4 : Int64) (a6 : Int32) : Option (Int32 × rV) := if (f_X4_has v 9 a1) = true then
  (if (f_X4_has v 9 a2) = true then
  (if (f_X7_isDrop v a3) = true then
  (if (f_X7_areTicks a6) = true then
  ((f_X7_partsBy v a1 a2 a3 a4 a6).bind fun p5 =>
  some (p5.1, p5.2))
else
  (some ((-1 : Int32), v)))
else
  (some ((-1 : Int32), v)))
else
  (some ((-1 : Int32), v)))
else
  (some ((-1 : Int32), v))
def f_X7_print (v : rV) (a1 : Int32) : Option (Int32 × rV) := if (f_X7_isStain v a1) = true then
  (if ¬ a1 < 0 ∧ a1.toNatClampNeg < 6 then
  ((f_X5_writeLying v 60 (53 + a1.toNatClampNeg)).bind fun p3 =>
  (f_X5_lyingAll p3 60).bind fun p4 =>
  some (p4, p3))
else none)
else
  (some ((-1 : Int32), v))
def f_X7_printed (v : rV) (a1 : Int32) (a2 : Int32) (a3 : Int32) (a4 : Int64) (a6 : Int32) (a7 : Int32) : Option (Int32 × rV) := if (f_X4_has v 9 a1) = true then
  (if (f_X7_isDrop v a2) = true then
  (if (f_X7_areTicks a6) = true then
  (if a7 < 0 then
  (some ((-1 : Int32), v))
else
  (if a7 ≤ (1 : Int32) then
  (if a3 < 0 then
  (some ((-1 : Int32), v))
else
  (if a3 ≤ (9 : Int32) then
  ((f_X7_layPrint v a1 a2 a3 a4).bind fun p4 =>
  if a7 = (1 : Int32) then
  (some (p4.1, p4.2))
else
  ((f_X7_evenInTheEnd p4.2 a6).bind fun p5 =>
  some (p5.1, p5.2)))
else
  (some ((-1 : Int32), v))))
else
  (some ((-1 : Int32), v))))
else
  (some ((-1 : Int32), v)))
else
  (some ((-1 : Int32), v)))
else
  (some ((-1 : Int32), v))
def f_X7_saved_103  (q42 : rV → Int32 → Int32 → Int32 → Int64 → Int32 → Int32 → Int32 → Option (Int32 × rV)) (v : rV) (a1 : Int32) (a2 : Int32) (a3 : Int32) (a4 : Int64) (a6 : Int32) (a7 : Int32) (a8 : Int32) : Option (Int32 × rV) := vlet (a8 + (1 : Int32)) fun x5 =>
  q42 v a1 a2 a3 a4 a6 a7 x5
def f_X7_saved_95  (q42 : rV → Int32 → Int32 → Int32 → Int64 → Int32 → Int32 → Int32 → Option (Int32 × rV)) (v : rV) (a1 : Int32) (a2 : Int32) (a3 : Int32) (a4 : Int64) (a8 : Int32) (a9 : Int32) : Option (Int32 × rV) := f_X7_saved_103 q42 v a1 a2 a3 a4 a8 a9 a8
def f_X7_saved_42   : Nat → rV → Int32 → Int32 → Int32 → Int64 → Int32 → Int32 → Int32 → Option (Int32 × rV)
  | 0, _, _, _, _, _, _, _, _ => none
  | n + 1, v, a1, a2, a3, a4, a6, a7, a8 => if (v.1 0 13) ≤ a8 then
  (some (a6, v))
else
  (if (f_X7_has a3 a8) = true then
  ((f_X7_nearestTick v a1 a2 a8 a4).bind fun p6 =>
  (f_X7_offBehind p6.2 a1 a2 a8 a4 p6.1).bind fun p7 =>
  if a6 = (-1 : Int32) then
  (f_X7_saved_95 (fun v a1 a2 a3 a4 a6 a7 a8 => f_X7_saved_42  n v a1 a2 a3 a4 a6 a7 a8) p7.2 a1 a2 a3 a4 a8 p7.1)
else
  (if a7 ≤ p7.1 then
  (f_X7_saved_103 (fun v a1 a2 a3 a4 a6 a7 a8 => f_X7_saved_42  n v a1 a2 a3 a4 a6 a7 a8) p7.2 a1 a2 a3 a4 a6 a7 a8)
else
  (f_X7_saved_95 (fun v a1 a2 a3 a4 a6 a7 a8 => f_X7_saved_42  n v a1 a2 a3 a4 a6 a7 a8) p7.2 a1 a2 a3 a4 a8 p7.1)))
else
  (f_X7_saved_103 (fun v a1 a2 a3 a4 a6 a7 a8 => f_X7_saved_42  n v a1 a2 a3 a4 a6 a7 a8) v a1 a2 a3 a4 a6 a7 a8))
def f_X7_saved (v : rV) (a1 : Int32) (a2 : Int32) (a3 : Int32) (a4 : Int64) : Option (Int32 × rV) := if (f_X7_isStain v a1) = true then
  (if (f_X4_has v 9 a2) = true then
  (if a3 = 0 then
  (some ((-1 : Int32), v))
else
  (if (f_X7_areDrops v a3) = true then
  (f_X7_saved_42  20000 v a1 a2 a3 a4 (-1 : Int32) (0 : Int32) (0 : Int32))
else
  (some ((-1 : Int32), v))))
else
  (some ((-1 : Int32), v)))
else
  (some ((-1 : Int32), v))
def f_X7_stain (v : rV)  : Option (Int32 × rV) := if (v.1 0 14) < (6 : Int32) then
  (vlet (rI v 0 14 ((v.1 0 14) + (1 : Int32))) fun v1 =>
  some ((v1.1 0 14) - (1 : Int32), v1))
else
  (some ((-1 : Int32), v))
def f_X7_startOn_74  (q17 : rV → Nat → Int32 → Int32 → Option (rV)) (q27 : rV → Nat → Int32 → Int32 → Int32 → Option (rV)) (v : rV) (k1 : Nat) (a3 : Int32) (a6 : Int32) (a7 : Int32) : Option (rV) := vlet (a7 + (1 : Int32)) fun x6 =>
  q27 v k1 a3 a6 x6
def f_X7_startOn_27  (q17 : rV → Nat → Int32 → Int32 → Option (rV)) : Nat → rV → Nat → Int32 → Int32 → Int32 → Option (rV)
  | 0, _, _, _, _, _ => none
  | n + 1, v, k1, a3, a6, a7 => if (v.1 0 13) ≤ a7 then
  (vlet (a6 + (1 : Int32)) fun x4 =>
  q17 v k1 a3 x4)
else
  (if (f_X7_has a3 a7) = true then
  (if ¬ a7 < 0 ∧ a7.toNatClampNeg < 12 then
  (if (v.1 (38 + a7.toNatClampNeg) 0) = a6 then
  ((f_X5_put v k1 (38 + a7.toNatClampNeg) a7 a6).bind fun p8 =>
  f_X7_startOn_74 q17 (fun v k1 a3 a6 a7 => f_X7_startOn_27 q17 n v k1 a3 a6 a7) p8 k1 a3 a6 a7)
else
  (f_X7_startOn_74 q17 (fun v k1 a3 a6 a7 => f_X7_startOn_27 q17 n v k1 a3 a6 a7) v k1 a3 a6 a7))
else none)
else
  (f_X7_startOn_74 q17 (fun v k1 a3 a6 a7 => f_X7_startOn_27 q17 n v k1 a3 a6 a7) v k1 a3 a6 a7))
def f_X7_startOn_17   : Nat → rV → Nat → Int32 → Int32 → Option (rV)
  | 0, _, _, _, _ => none
  | n + 1, v, k1, a3, a6 => if (24 : Int32) ≤ a6 then
  ((f_X5_begin v k1).bind fun p3 =>
  some p3)
else
  (f_X7_startOn_27 (fun v k1 a3 a6 => f_X7_startOn_17  n v k1 a3 a6) 20000 v k1 a3 a6 (0 : Int32))
def f_X7_startOn (v : rV) (k1 : Nat) (a2 : Int32) (a3 : Int32) (a4 : Int64) : Option (rV) := (f_X4_at v 9 a2).bind fun p1 =>
  if isForm p1 = true then
  ((f_X5_clear v k1 p1 a4).bind fun p2 =>
  f_X7_startOn_17  20000 p2 k1 a3 (0 : Int32)) else none
def f_X7_start (v : rV) (a1 : Int32) (a2 : Int32) (a3 : Int64) : Option (Int32 × rV) := (f_X7_canStart v a1 a2).bind fun p1 =>
  if p1 = true then
  ((f_X7_startOn v 60 a1 a2 a3).bind fun p2 =>
  some (p2.1 60 10, p2))
else
  (some ((-1 : Int32), v))
def f_X7_steps (v : rV) (a1 : Int32) (a2 : Int32) (a3 : Int32) (a4 : Int64) (a6 : Int32) : Option (Int32 × rV) := if (f_X7_isStain v a1) = true then
  (if (f_X4_has v 9 a2) = true then
  (if (f_X7_isDrop v a3) = true then
  (if a6 < 0 then
  (some ((-1 : Int32), v))
else
  (if a6 ≤ (1 : Int32) then
  ((f_X7_nearestTick v a1 a2 a3 a4).bind fun p4 =>
  if a6 = 0 then
  (some (p4.1, p4.2))
else
  ((f_X7_offBehind p4.2 a1 a2 a3 a4 p4.1).bind fun p5 =>
  some (p5.1, p5.2)))
else
  (some ((-1 : Int32), v))))
else
  (some ((-1 : Int32), v)))
else
  (some ((-1 : Int32), v)))
else
  (some ((-1 : Int32), v))
def f_X7_text_48   (v : rV) (s0 : Int32) : Option (Int32 × rV) := if s0 = (-1 : Int32) then
  (some (s0, v))
else
  (vlet (rI v 1 1 (0 : Int32)) fun v3 =>
  some (s0, v3))
def f_X7_text_38   (v : rV) (ks0 : Nat) : Option (Int32 × rV) := (f_X4_keep v ks0 4).bind fun p2 =>
  f_X7_text_48  p2.2 p2.1
def f_X7_text (v : rV) (a1 : Int32) : Option (Int32 × rV) := (f_X7_fault v a1).bind fun p1 =>
  if p1.1 = (-1 : Int32) then
  (if a1 = (2 : Int32) then
  ((f_X7_keepDrop p1.2).bind fun p6 =>
  f_X7_text_48  p6.2 p6.1)
else
  (if a1 = 0 then
  (f_X7_text_38  p1.2 9)
else
  (f_X7_text_38  p1.2 23)))
else
  (some ((-1 : Int32), p1.2))
def f_X7_tick (v : rV) (a1 : Int32) : Option (Int32 × rV) := match v.2.2 60 13 with
  | none => (some ((-1 : Int32), v))
  | some kd1 => if isForm kd1 = true then (if (f_X7_areTicks a1) = true then
  ((f_X5_goOn v 60 a1 (v.1 0 15)).bind fun p3 =>
  some (p3.1, p3.2))
else
  (some ((-1 : Int32), v))) else none
def f_X7_tried (v : rV) (a1 : Int32) (a2 : Int32) (a3 : Int64) (a5 : Int32) (a6 : Int32) : Option (Int32 × rV) := (f_X7_canStart v a1 a2).bind fun p1 =>
  if p1 = true then
  (if (f_X7_areTicks a5) = true then
  (if a6 < 0 then
  (some ((-1 : Int32), v))
else
  (if a6 < (33 : Int32) then
  ((f_X7_startOn v 98 a1 a2 a3).bind fun p3 =>
  (f_X5_goOn p3 98 a5 (p3.1 0 15)).bind fun p4 =>
  if (9 : Int32) ≤ a6 then
  ((f_X5_lyingAt p4.2 98 (a6 - (9 : Int32))).bind fun p5 =>
  some (p5, p4.2))
else
  ((f_X5_tell p4.2 98 a6).bind fun p6 =>
  some (p6, p4.2)))
else
  (some ((-1 : Int32), v))))
else
  (some ((-1 : Int32), v)))
else
  (some ((-1 : Int32), v))
def f_X7_weigh (v : rV) (a1 : Int32) (a2 : Int32) : Option (Bool × rV) := if (f_X7_isDrop v a1) = true then
  (if a2 < (1 : Int32) then
  (some (false, v))
else
  (if a2 ≤ (9 : Int32) then
  (if ¬ a1 < 0 ∧ a1.toNatClampNeg < 12 then
  (vlet (rI v 50 a1.toNatClampNeg a2) fun v3 =>
  some (true, v3))
else none)
else
  (some (false, v))))
else
  (some (false, v))
def f_X8_in (a0 : Int32) (a1 : Int32) (a2 : Int32) : Bool := if a0 < a1 then
  (false)
else
  (if a2 < a0 then
  (false)
else
  (true))
def f_X8_isCell (a0 : Int32) : Bool := (f_X8_in a0 (0 : Int32) (23 : Int32))
def f_X8_laidIn (v : rV) (a1 : Int32) : Option (Int32) := if (f_X8_isCell a1) = true then
  (if ¬ ((72 : Int32) + a1) < 0 ∧ ((72 : Int32) + a1).toNatClampNeg < 416 then
  (if ¬ ((96 : Int32) + a1) < 0 ∧ ((96 : Int32) + a1).toNatClampNeg < 416 then
  (some ((v.1 187 (((72 : Int32) + a1).toNatClampNeg)) + (v.1 187 (((96 : Int32) + a1).toNatClampNeg))))
else none)
else none)
else
  (some (0 : Int32))
def f_X8_ring_6 (v : rV)  : Nat → Int32 → Int32 → Int32 → Option (Int32)
  | 0, _, _, _ => none
  | n + 1, a1, a2, a3 => if (24 : Int32) ≤ a3 then
  (if a1 = 0 then
  (some (0 : Int32))
else
  (if a1 = 0 then none else
  some (((100 : Int32) * a2) / a1)))
else
  ((f_X8_laidIn v a3).bind fun p3 =>
  vlet (a1 + p3 : Int32) fun x4 =>
  if ¬ ((192 : Int32) + a3) < 0 ∧ ((192 : Int32) + a3).toNatClampNeg < 416 then
  ((f_X8_laidIn v a3).bind fun p6 =>
  vlet (a2 + ((v.1 187 (((192 : Int32) + a3).toNatClampNeg)) * p6) : Int32) fun x7 =>
  vlet (a3 + (1 : Int32)) fun x8 =>
  f_X8_ring_6 v n x4 x7 x8)
else none)
def f_X8_ring (v : rV)  : Option (Int32) := f_X8_ring_6 v 20000 (0 : Int32) (0 : Int32) (0 : Int32)
def f_X8_rings_46 (v : rV) (q4 : Int32 → Int32 → Option (Int32)) (a2 : Int32) (s0 : Int32) (s1 : Int32) : Option (Int32) := vlet (s1 + s0 : Int32) fun x3 =>
  vlet (a2 + (1 : Int32)) fun x4 =>
  q4 x3 x4
def f_X8_rings_45 (v : rV) (q4 : Int32 → Int32 → Option (Int32)) (a2 : Int32) (s0 : Int32) : Option (Int32) := f_X8_rings_46 v q4 a2 (0 : Int32) s0
def f_X8_rings_4 (v : rV)  : Nat → Int32 → Int32 → Option (Int32)
  | 0, _, _ => none
  | n + 1, a1, a2 => if (24 : Int32) ≤ a2 then
  (some a1)
else
  ((f_X8_laidIn v a2).bind fun p1 =>
  (f_X8_laidIn v (a2 - (1 : Int32))).bind fun p2 =>
  if p1 ≤ p2 then
  (f_X8_rings_45 v (fun a1 a2 => f_X8_rings_4 v n a1 a2) a2 a1)
else
  ((f_X8_laidIn v a2).bind fun p5 =>
  (f_X8_laidIn v (a2 + (1 : Int32))).bind fun p6 =>
  if p5 ≤ p6 then
  (f_X8_rings_45 v (fun a1 a2 => f_X8_rings_4 v n a1 a2) a2 a1)
else
  (f_X8_rings_46 v (fun a1 a2 => f_X8_rings_4 v n a1 a2) a2 (1 : Int32) a1)))
def f_X8_rings (v : rV)  : Option (Int32) := f_X8_rings_4 v 20000 (0 : Int32) (0 : Int32)
def f_X8_even_59 (v : rV) (q6 : Int32 → Int32 → Int32 → Option (Int32)) (a1 : Int32) (a2 : Int32) (a3 : Int32) : Option (Int32) := vlet (a3 + (1 : Int32)) fun x3 =>
  q6 a1 a2 x3
def f_X8_even_48 (v : rV) (q6 : Int32 → Int32 → Int32 → Option (Int32)) (a2 : Int32) (a3 : Int32) (s0 : Int32) : Option (Int32) := (f_X8_laidIn v a3).bind fun p5 =>
  vlet (if a2 < p5 then p5 else a2 : Int32) fun x6 =>
  f_X8_even_59 v q6 s0 x6 a3
def f_X8_even_6 (v : rV)  : Nat → Int32 → Int32 → Int32 → Option (Int32)
  | 0, _, _, _ => none
  | n + 1, a1, a2, a3 => if (24 : Int32) ≤ a3 then
  (if a1 = (-1 : Int32) then
  (some (0 : Int32))
else
  (some (a2 - a1)))
else
  (if ¬ ((216 : Int32) + a3) < 0 ∧ ((216 : Int32) + a3).toNatClampNeg < 416 then
  (if (v.1 187 (((216 : Int32) + a3).toNatClampNeg)) = (1 : Int32) then
  (if a1 = (-1 : Int32) then
  ((f_X8_laidIn v a3).bind fun p7 =>
  f_X8_even_48 v (fun a1 a2 a3 => f_X8_even_6 v n a1 a2 a3) a2 a3 p7)
else
  ((f_X8_laidIn v a3).bind fun p4 =>
  f_X8_even_48 v (fun a1 a2 a3 => f_X8_even_6 v n a1 a2 a3) a2 a3 (if p4 < a1 then p4 else a1)))
else
  (f_X8_even_59 v (fun a1 a2 a3 => f_X8_even_6 v n a1 a2 a3) a1 a2 a3))
else none)
def f_X8_even (v : rV)  : Option (Int32) := f_X8_even_6 v 20000 (-1 : Int32) (0 : Int32) (0 : Int32)
def f_X8_sumOf_5 (v : rV)  : Nat → Int32 → Int32 → Int32 → Int32 → Option (Int32)
  | 0, _, _, _, _ => none
  | n + 1, a1, a2, a3, a4 => if (a1 + a2) ≤ a4 then
  (some a3)
else
  (if ¬ a4 < 0 ∧ a4.toNatClampNeg < 416 then
  (vlet (a3 + (v.1 187 a4.toNatClampNeg) : Int32) fun x2 =>
  vlet (a4 + (1 : Int32)) fun x3 =>
  f_X8_sumOf_5 v n a1 a2 x2 x3)
else none)
def f_X8_sumOf (v : rV) (a1 : Int32) (a2 : Int32) : Option (Int32) := f_X8_sumOf_5 v 20000 a1 a2 (0 : Int32) a1
def f_X8_about (v : rV) (a1 : Int32) : Option (Int32) := if a1 = (0 : Int32) then
  ((f_X8_ring v).bind fun p2 =>
  some p2)
else
  (if a1 = (1 : Int32) then
  ((f_X8_rings v).bind fun p4 =>
  some p4)
else
  (if a1 = (2 : Int32) then
  ((f_X8_even v).bind fun p6 =>
  some p6)
else
  (if a1 = (3 : Int32) then
  ((f_X8_sumOf v (72 : Int32) (48 : Int32)).bind fun p8 =>
  some p8)
else
  (if a1 = (4 : Int32) then
  ((f_X8_sumOf v (144 : Int32) (24 : Int32)).bind fun p10 =>
  some p10)
else
  (if a1 = (5 : Int32) then
  (some (v.1 187 289))
else
  (if a1 = (6 : Int32) then
  (some (v.1 187 290))
else
  (if a1 = (7 : Int32) then
  (some (v.1 187 288))
else
  (if a1 = (8 : Int32) then
  ((f_X8_sumOf v (24 : Int32) (48 : Int32)).bind fun p15 =>
  some p15)
else
  (some (-1 : Int32))))))))))
def f_X8_addPiece_78   (v : rV) (a1 : Int32) (a2 : Int32) (a3 : Int32) (a4 : Int32) : Option (rV) := if ¬ a4 < 0 ∧ a4.toNatClampNeg < 12 then
  (vlet (rI v 190 a4.toNatClampNeg a1) fun v3 =>
  vlet (rI v3 191 a4.toNatClampNeg a2) fun v4 =>
  vlet (rI v4 192 a4.toNatClampNeg a3) fun v5 =>
  vlet (rI v5 174 34 ((v5.1 174 34) + (1 : Int32))) fun v6 =>
  some v6)
else none
def f_X8_addPiece_6   : Nat → rV → Int32 → Int32 → Int32 → Int32 → Option (rV)
  | 0, _, _, _, _, _ => none
  | n + 1, v, a1, a2, a3, a4 => if a4 ≤ 0 then
  (f_X8_addPiece_78  v a1 a2 a3 a4)
else
  (if ¬ (a4 - (1 : Int32)) < 0 ∧ (a4 - (1 : Int32)).toNatClampNeg < 12 then
  (if (v.1 190 ((a4 - (1 : Int32)).toNatClampNeg)) ≤ a1 then
  (f_X8_addPiece_78  v a1 a2 a3 a4)
else
  (if ¬ a4 < 0 ∧ a4.toNatClampNeg < 12 then
  (vlet (rI v 190 a4.toNatClampNeg (v.1 190 ((a4 - (1 : Int32)).toNatClampNeg))) fun v9 =>
  vlet (rI v9 191 a4.toNatClampNeg (v9.1 191 ((a4 - (1 : Int32)).toNatClampNeg))) fun v10 =>
  vlet (rI v10 192 a4.toNatClampNeg (v10.1 192 ((a4 - (1 : Int32)).toNatClampNeg))) fun v11 =>
  vlet (a4 + (-1 : Int32)) fun x12 =>
  f_X8_addPiece_6  n v11 a1 a2 a3 x12)
else none))
else none)
def f_X8_addPiece (v : rV) (a1 : Int32) (a2 : Int32) (a3 : Int32) : Option (rV) := vlet (v.1 174 34 : Int32) fun x1 =>
  f_X8_addPiece_6  20000 v a1 a2 a3 x1
def f_X8_isLaw (v : rV) (a1 : Int32) : Bool := (f_X8_in a1 (0 : Int32) ((v.1 174 13) - (1 : Int32)))
def f_X8_isDrop (v : rV) (a1 : Int32) : Bool := (f_X8_in a1 (0 : Int32) ((v.1 174 21) - (1 : Int32)))
def f_X8_areTicks (a0 : Int32) : Bool := (f_X8_in a0 (1 : Int32) (60 : Int32))
def f_X8_putAside_2   : Nat → rV → Int32 → Option (rV)
  | 0, _, _ => none
  | n + 1, v, a1 => if (416 : Int32) ≤ a1 then
  (vlet (rL v 174 28 (v.2.1 174 27)) fun v1 =>
  some v1)
else
  (if ¬ a1 < 0 ∧ a1.toNatClampNeg < 416 then
  (vlet (rI v 188 a1.toNatClampNeg (v.1 187 a1.toNatClampNeg)) fun v3 =>
  vlet (a1 + (1 : Int32)) fun x4 =>
  f_X8_putAside_2  n v3 x4)
else none)
def f_X8_putAside (v : rV)  : Option (rV) := f_X8_putAside_2  20000 v (0 : Int32)
def f_X8_has (a0 : Int32) (a1 : Int32) : Bool := if ((a0 >>> (a1 &&& 31)) &&& (1 : Int32)) = (1 : Int32) then
  (true)
else
  (false)
def f_X8_gather_58   : Nat → rV → Int32 → Option (Bool × rV)
  | 0, _, _ => none
  | n + 1, v, a2 => if (v.1 174 34) ≤ a2 then
  (some (true, v))
else
  (if ¬ (a2 - (1 : Int32)) < 0 ∧ (a2 - (1 : Int32)).toNatClampNeg < 12 then
  (if ¬ a2 < 0 ∧ a2.toNatClampNeg < 12 then
  (if ((v.1 190 ((a2 - (1 : Int32)).toNatClampNeg)) + (v.1 191 ((a2 - (1 : Int32)).toNatClampNeg))) ≤ (v.1 190 a2.toNatClampNeg) then
  (vlet (a2 + (1 : Int32)) fun x4 =>
  f_X8_gather_58  n v x4)
else
  (some (false, v)))
else none)
else none)
def f_X8_gather_50  (q7 : rV → Int32 → Int32 → Option (Bool × rV)) (v : rV) (a1 : Int32) (a2 : Int32) : Option (Bool × rV) := vlet (a2 + (1 : Int32)) fun x8 =>
  q7 v a1 x8
def f_X8_gather_7   : Nat → rV → Int32 → Int32 → Option (Bool × rV)
  | 0, _, _, _ => none
  | n + 1, v, a1, a2 => if (v.1 174 21) ≤ a2 then
  (f_X8_gather_58  20000 v (1 : Int32))
else
  (if (f_X8_has a1 a2) = true then
  (if ¬ (((12 : Int32) * a2) + (0 : Int32)) < 0 ∧ (((12 : Int32) * a2) + (0 : Int32)).toNatClampNeg < 156 then
  (if ¬ (((12 : Int32) * a2) + (1 : Int32)) < 0 ∧ (((12 : Int32) * a2) + (1 : Int32)).toNatClampNeg < 156 then
  ((f_X8_addPiece v (v.1 185 ((((12 : Int32) * a2) + (0 : Int32)).toNatClampNeg)) (v.1 185 ((((12 : Int32) * a2) + (1 : Int32)).toNatClampNeg)) a2).bind fun p11 =>
  f_X8_gather_50 (fun v a1 a2 => f_X8_gather_7  n v a1 a2) p11 a1 a2)
else none)
else none)
else
  (f_X8_gather_50 (fun v a1 a2 => f_X8_gather_7  n v a1 a2) v a1 a2))
def f_X8_gather (v : rV) (a1 : Int32) : Option (Bool × rV) := vlet (rI v 174 34 (0 : Int32)) fun v1 =>
  f_X8_gather_7  20000 v1 a1 (0 : Int32)
def f_X8_weightAt (a0 : Int32) (a1 : Int32) (a2 : Int32) (a3 : Int32) : Int32 := (((a2 - a0) + (1 : Int32)) * ((a1 - a2) + (1 : Int32))) * ((10 : Int32) + (a3 * (a2 - a0)))
def f_X8_shape_94   : Nat → rV → Int32 → Int32 → Option (rV)
  | 0, _, _, _ => none
  | n + 1, v, a6, a7 => if a6 ≤ 0 then
  (some v)
else
  (vlet ((0 : Int32) + a7 : Int32) fun x1 =>
  if ¬ x1 < 0 ∧ x1.toNatClampNeg < 416 then
  (vlet (rI v 187 x1.toNatClampNeg ((v.1 187 x1.toNatClampNeg) + (1 : Int32))) fun v3 =>
  vlet (a6 + (-1 : Int32)) fun x4 =>
  vlet (a7 + (1 : Int32)) fun x5 =>
  f_X8_shape_94  n v3 x4 x5)
else none)
def f_X8_shape_38   : Nat → rV → Int32 → Int32 → Int32 → Int32 → Int32 → Int32 → Int32 → Option (rV)
  | 0, _, _, _, _, _, _, _, _ => none
  | n + 1, v, a1, a2, a3, a4, a5, a6, a7 => if a2 < a7 then
  (f_X8_shape_94  20000 v a6 a1)
else
  (if a5.toInt64 = 0 then none else
  if ¬ ((0 : Int32) + a7) < 0 ∧ ((0 : Int32) + a7).toNatClampNeg < 416 then
  (vlet (rI v 187 (((0 : Int32) + a7).toNatClampNeg) (((a3.toInt64 * ((f_X8_weightAt a1 a2 a7 a4).toInt64)) / a5.toInt64).toInt32)) fun v9 =>
  vlet (a6 - (v9.1 187 (((0 : Int32) + a7).toNatClampNeg)) : Int32) fun x10 =>
  vlet (a7 + (1 : Int32)) fun x11 =>
  f_X8_shape_38  n v9 a1 a2 a3 a4 a5 x10 x11)
else none)
def f_X8_shape_6   : Nat → rV → Int32 → Int32 → Int32 → Int32 → Int32 → Int32 → Option (rV)
  | 0, _, _, _, _, _, _, _ => none
  | n + 1, v, a1, a2, a3, a4, a5, a6 => if a2 < a6 then
  (f_X8_shape_38  20000 v a1 a2 a3 a4 a5 a3 a1)
else
  (vlet (a5 + (f_X8_weightAt a1 a2 a6 a4) : Int32) fun x15 =>
  vlet (a6 + (1 : Int32)) fun x16 =>
  f_X8_shape_6  n v a1 a2 a3 a4 x15 x16)
def f_X8_shape (v : rV) (a1 : Int32) (a2 : Int32) (a3 : Int32) (a4 : Int32) : Option (rV) := f_X8_shape_6  20000 v a1 a2 a3 a4 (0 : Int32) a1
def f_X8_land_315   : Nat → rV → Int32 → Int32 → Int32 → Int32 → Option (rV)
  | 0, _, _, _, _, _ => none
  | n + 1, v, a3, a4, a8, a10 => if a8 ≤ a10 then
  (some v)
else
  (if ((a4 - a3) + (1 : Int32)) = 0 then none else
  vlet (((48 : Int32) + a3) + (a10 - a10 / ((a4 - a3) + (1 : Int32)) * ((a4 - a3) + (1 : Int32))) : Int32) fun x20 =>
  if ¬ x20 < 0 ∧ x20.toNatClampNeg < 416 then
  (vlet (rI v 187 x20.toNatClampNeg ((v.1 187 x20.toNatClampNeg) + (1 : Int32))) fun v22 =>
  vlet (a10 + (1 : Int32)) fun x23 =>
  f_X8_land_315  n v22 a3 a4 a8 x23)
else none)
def f_X8_land_276   : Nat → rV → Int32 → Int32 → Int32 → Int32 → Int32 → Option (rV)
  | 0, _, _, _, _, _, _ => none
  | n + 1, v, a3, a4, a7, a8, a10 => if a7 ≤ a10 then
  (f_X8_land_315  20000 v a3 a4 a8 (0 : Int32))
else
  (if ((a4 - a3) + (1 : Int32)) = 0 then none else
  vlet (((24 : Int32) + a3) + (a10 - a10 / ((a4 - a3) + (1 : Int32)) * ((a4 - a3) + (1 : Int32))) : Int32) fun x26 =>
  if ¬ x26 < 0 ∧ x26.toNatClampNeg < 416 then
  (vlet (rI v 187 x26.toNatClampNeg ((v.1 187 x26.toNatClampNeg) + (1 : Int32))) fun v28 =>
  vlet (a10 + (1 : Int32)) fun x29 =>
  f_X8_land_276  n v28 a3 a4 a7 a8 x29)
else none)
def f_X8_land_226   : Nat → rV → Int32 → Int32 → Int32 → Int32 → Int32 → Int32 → Int32 → Option (rV)
  | 0, _, _, _, _, _, _, _, _ => none
  | n + 1, v, a3, a4, a5, a6, a7, a8, a10 => if a4 < a10 then
  (if ¬ (((12 : Int32) * a5) + (11 : Int32)) < 0 ∧ (((12 : Int32) * a5) + (11 : Int32)).toNatClampNeg < 156 then
  ((f_X8_shape v a3 a4 a6 (v.1 185 ((((12 : Int32) * a5) + (11 : Int32)).toNatClampNeg))).bind fun p19 =>
  f_X8_land_276  20000 p19 a3 a4 a7 a8 (0 : Int32))
else none)
else
  (if ¬ ((216 : Int32) + a10) < 0 ∧ ((216 : Int32) + a10).toNatClampNeg < 416 then
  (vlet (rI v 187 (((216 : Int32) + a10).toNatClampNeg) (1 : Int32)) fun v33 =>
  vlet (a10 + (1 : Int32)) fun x34 =>
  f_X8_land_226  n v33 a3 a4 a5 a6 a7 a8 x34)
else none)
def f_X8_land_48   : Nat → rV → Int32 → Int32 → Int32 → Int32 → Int32 → Int32 → Int32 → Int32 → Option (rV)
  | 0, _, _, _, _, _, _, _, _, _ => none
  | n + 1, v, a2, a3, a4, a5, a6, a7, a8, a9 => if a2 ≤ a9 then
  (vlet (v.1 187 288 : Int32) fun x6 =>
  vlet (rI v 187 288 ((v.1 187 288) + (1 : Int32))) fun v7 =>
  if ¬ ((240 : Int32) + x6) < 0 ∧ ((240 : Int32) + x6).toNatClampNeg < 416 then
  (vlet (rI v7 187 (((240 : Int32) + x6).toNatClampNeg) a3) fun v9 =>
  if ¬ ((252 : Int32) + x6) < 0 ∧ ((252 : Int32) + x6).toNatClampNeg < 416 then
  (vlet (rI v9 187 (((252 : Int32) + x6).toNatClampNeg) a4) fun v11 =>
  if ¬ ((264 : Int32) + x6) < 0 ∧ ((264 : Int32) + x6).toNatClampNeg < 416 then
  (vlet (rI v11 187 (((264 : Int32) + x6).toNatClampNeg) a5) fun v13 =>
  if ¬ ((192 : Int32) + a3) < 0 ∧ ((192 : Int32) + a3).toNatClampNeg < 416 then
  (vlet (rI v13 187 (((192 : Int32) + a3).toNatClampNeg) (1 : Int32)) fun v15 =>
  if ¬ ((192 : Int32) + a4) < 0 ∧ ((192 : Int32) + a4).toNatClampNeg < 416 then
  (vlet (rI v15 187 (((192 : Int32) + a4).toNatClampNeg) (1 : Int32)) fun v17 =>
  f_X8_land_226  20000 v17 a3 a4 a5 a6 a7 a8 a3)
else none)
else none)
else none)
else none)
else none)
else
  (if ¬ a9 < 0 ∧ a9.toNatClampNeg < 12 then
  (vlet (if (v.1 192 a9.toNatClampNeg) < a5 then (v.1 192 a9.toNatClampNeg) else a5 : Int32) fun x37 =>
  if ¬ (((12 : Int32) * (v.1 192 a9.toNatClampNeg)) + (2 : Int32)) < 0 ∧ (((12 : Int32) * (v.1 192 a9.toNatClampNeg)) + (2 : Int32)).toNatClampNeg < 156 then
  (vlet (a6 + (v.1 185 ((((12 : Int32) * (v.1 192 a9.toNatClampNeg)) + (2 : Int32)).toNatClampNeg)) : Int32) fun x39 =>
  if ¬ (((12 : Int32) * (v.1 192 a9.toNatClampNeg)) + (3 : Int32)) < 0 ∧ (((12 : Int32) * (v.1 192 a9.toNatClampNeg)) + (3 : Int32)).toNatClampNeg < 156 then
  (vlet (a7 + (v.1 185 ((((12 : Int32) * (v.1 192 a9.toNatClampNeg)) + (3 : Int32)).toNatClampNeg)) : Int32) fun x41 =>
  if ¬ (((12 : Int32) * (v.1 192 a9.toNatClampNeg)) + (4 : Int32)) < 0 ∧ (((12 : Int32) * (v.1 192 a9.toNatClampNeg)) + (4 : Int32)).toNatClampNeg < 156 then
  (vlet (a8 + (v.1 185 ((((12 : Int32) * (v.1 192 a9.toNatClampNeg)) + (4 : Int32)).toNatClampNeg)) : Int32) fun x43 =>
  vlet (a9 + (1 : Int32)) fun x44 =>
  f_X8_land_48  n v a2 a3 a4 x37 x39 x41 x43 x44)
else none)
else none)
else none)
else none)
def f_X8_land (v : rV) (a1 : Int32) (a2 : Int32) : Option (rV) := if ¬ a1 < 0 ∧ a1.toNatClampNeg < 12 then
  (vlet (v.1 190 a1.toNatClampNeg : Int32) fun x2 =>
  if ¬ (a2 - (1 : Int32)) < 0 ∧ (a2 - (1 : Int32)).toNatClampNeg < 12 then
  (vlet (((v.1 190 ((a2 - (1 : Int32)).toNatClampNeg)) + (v.1 191 ((a2 - (1 : Int32)).toNatClampNeg))) - (1 : Int32) : Int32) fun x4 =>
  vlet (v.1 192 a1.toNatClampNeg : Int32) fun x5 =>
  f_X8_land_48  20000 v a2 x2 x4 x5 (0 : Int32) (0 : Int32) (0 : Int32) a1)
else none)
else none
def f_X8_begin_110  (q51 : rV → Int32 → Option (rV)) (v : rV) (a4 : Int32) (a5 : Int32) : Option (rV) := (f_X8_land v a4 a5).bind fun p5 =>
  q51 p5 a5
def f_X8_begin_66  (q51 : rV → Int32 → Option (rV)) : Nat → rV → Int32 → Int32 → Option (rV)
  | 0, _, _, _ => none
  | n + 1, v, a4, a5 => if (v.1 174 34) ≤ a5 then
  (f_X8_begin_110 q51 v a4 a5)
else
  (if ¬ (a5 - (1 : Int32)) < 0 ∧ (a5 - (1 : Int32)).toNatClampNeg < 12 then
  (if ¬ a5 < 0 ∧ a5.toNatClampNeg < 12 then
  (if ((v.1 190 ((a5 - (1 : Int32)).toNatClampNeg)) + (v.1 191 ((a5 - (1 : Int32)).toNatClampNeg))) = (v.1 190 a5.toNatClampNeg) then
  (vlet (a5 + (1 : Int32)) fun x8 =>
  f_X8_begin_66 q51 n v a4 x8)
else
  (f_X8_begin_110 q51 v a4 a5))
else none)
else none)
def f_X8_begin_51   : Nat → rV → Int32 → Option (rV)
  | 0, _, _ => none
  | n + 1, v, a4 => if (v.1 174 34) ≤ a4 then
  (some v)
else
  (vlet (a4 + (1 : Int32) : Int32) fun x4 =>
  f_X8_begin_66 (fun v a4 => f_X8_begin_51  n v a4) 20000 v a4 x4)
def f_X8_begin_3   : Nat → rV → Int32 → Int64 → Int32 → Option (rV)
  | 0, _, _, _, _ => none
  | n + 1, v, a1, a2, a4 => if (416 : Int32) ≤ a4 then
  (vlet (rI v 187 294 a1) fun v1 =>
  vlet (rI v1 187 295 (1 : Int32)) fun v2 =>
  vlet (rL v2 174 27 a2) fun v3 =>
  f_X8_begin_51  20000 v3 (0 : Int32))
else
  (if ¬ a4 < 0 ∧ a4.toNatClampNeg < 416 then
  (vlet (rI v 187 a4.toNatClampNeg (0 : Int32)) fun v13 =>
  vlet (a4 + (1 : Int32)) fun x14 =>
  f_X8_begin_3  n v13 a1 a2 x14)
else none)
def f_X8_begin (v : rV) (a1 : Int32) (a2 : Int64) : Option (rV) := f_X8_begin_3  20000 v a1 a2 (0 : Int32)
def f_X8_of (v : rV) (a1 : Int32) : Option (Int32) := if ¬ (((12 : Int32) * (v.1 174 39)) + a1) < 0 ∧ (((12 : Int32) * (v.1 174 39)) + a1).toNatClampNeg < 156 then
  (some (v.1 185 ((((12 : Int32) * (v.1 174 39)) + a1).toNatClampNeg)))
else none
def f_X8_bounded (a0 : Int64) : Int32 := (if (if a0 < (1000000 : Int64) then a0 else (1000000 : Int64)) < (-1000000 : Int64) then (-1000000 : Int64) else (if a0 < (1000000 : Int64) then a0 else (1000000 : Int64))).toInt32
def f_X8_worked_144 (v : rV)  (a1 : Int64) (a3 : Int64) : Option (Int32) := if (lg_cmp a1 (0 : Int64)) = 0 then
  (if (lg_cmp a3 (0 : Int64)) = 0 then
  (some (0 : Int32))
else
  (some (1 : Int32)))
else
  (some (1 : Int32))
def f_X8_worked (v : rV) (a0 : Int32) (a1 : Int64) (a3 : Int64) : Option (Int32) := if a0 = (2 : Int32) then
  (some (f_X8_bounded (a1 + a3)))
else
  (if a0 = (3 : Int32) then
  (some (f_X8_bounded (a1 - a3)))
else
  (if a0 = (4 : Int32) then
  (some (f_X8_bounded (a1 * a3)))
else
  (if a0 = (5 : Int32) then
  (if (lg_cmp a3 (0 : Int64)) = 0 then
  (some (0 : Int32))
else
  (if a3 = 0 then none else
  some (f_X8_bounded (a1 / a3))))
else
  (if a0 = (6 : Int32) then
  (if (lg_cmp a1 a3) = 0 then
  (some (1 : Int32))
else
  (some (0 : Int32)))
else
  (if a0 = (7 : Int32) then
  (if 0 ≤ (lg_cmp a1 a3) then
  (some (0 : Int32))
else
  (some (1 : Int32)))
else
  (if a0 = (8 : Int32) then
  (if (lg_cmp a1 a3) ≤ 0 then
  (some (0 : Int32))
else
  (some (1 : Int32)))
else
  (if a0 = (9 : Int32) then
  (f_X8_worked_144 v a1 a3)
else
  (if a0 = (10 : Int32) then
  (if (lg_cmp a1 (0 : Int64)) = 0 then
  (some (0 : Int32))
else
  (if (lg_cmp a3 (0 : Int64)) = 0 then
  (some (0 : Int32))
else
  (some (1 : Int32))))
else
  (f_X8_worked_144 v a1 a3)))))))))
def f_X8_workOut_165  (q12 : rV → Int32 → Int32 → Int32 → Int32 → Option (Int32 × rV)) (v : rV) (a1 : Int32) (a3 : Int32) (a4 : Int32) (a5 : Int32) : Option (Int32 × rV) := vlet (a5 + (1 : Int32)) fun x8 =>
  q12 v a1 a3 a4 x8
def f_X8_workOut_83  (q12 : rV → Int32 → Int32 → Int32 → Int32 → Option (Int32 × rV)) (v : rV) (a1 : Int32) (a3 : Int32) (a4 : Int32) (a5 : Int32) (s0 : Int32) (s1 : Int32) : Option (Int32 × rV) := if ¬ s1 < 0 ∧ s1.toNatClampNeg < 80 then
  (vlet (rI v 184 s1.toNatClampNeg s0) fun v6 =>
  vlet (a4 + (1 : Int32)) fun x7 =>
  f_X8_workOut_165 q12 v6 a1 a3 x7 a5)
else none
def f_X8_workOut_45  (q12 : rV → Int32 → Int32 → Int32 → Int32 → Option (Int32 × rV)) (v : rV) (a1 : Int32) (a3 : Int32) (a4 : Int32) (a5 : Int32) : Option (Int32 × rV) := if ¬ a5 < 0 ∧ a5.toNatClampNeg < 3060 then
  (if (v.1 176 a5.toNatClampNeg) = 0 then
  (f_X8_workOut_83 q12 v a1 a3 a4 a5 (v.1 177 a5.toNatClampNeg) a4)
else
  (if ¬ (v.1 177 a5.toNatClampNeg) < 0 ∧ (v.1 177 a5.toNatClampNeg).toNatClampNeg < 7 then
  (f_X8_workOut_83 q12 v a1 a3 a4 a5 (v.1 183 ((v.1 177 a5.toNatClampNeg).toNatClampNeg)) a4)
else none))
else none
def f_X8_workOut_12   : Nat → rV → Int32 → Int32 → Int32 → Int32 → Option (Int32 × rV)
  | 0, _, _, _, _, _ => none
  | n + 1, v, a1, a3, a4, a5 => if (((340 : Int32) * a1) + a3) ≤ a5 then
  (some (v.1 184 0, v))
else
  (if ¬ a5 < 0 ∧ a5.toNatClampNeg < 3060 then
  (if (v.1 176 a5.toNatClampNeg) = 0 then
  (f_X8_workOut_45 (fun v a1 a3 a4 a5 => f_X8_workOut_12  n v a1 a3 a4 a5) v a1 a3 a4 a5)
else
  (if (v.1 176 a5.toNatClampNeg) = (1 : Int32) then
  (f_X8_workOut_45 (fun v a1 a3 a4 a5 => f_X8_workOut_12  n v a1 a3 a4 a5) v a1 a3 a4 a5)
else
  (if (v.1 176 a5.toNatClampNeg) = (9 : Int32) then
  (if ¬ (a4 - (1 : Int32)) < 0 ∧ (a4 - (1 : Int32)).toNatClampNeg < 80 then
  (vlet (rI v 184 ((a4 - (1 : Int32)).toNatClampNeg) ((1 : Int32) - (v.1 184 ((a4 - (1 : Int32)).toNatClampNeg)))) fun v16 =>
  f_X8_workOut_165 (fun v a1 a3 a4 a5 => f_X8_workOut_12  n v a1 a3 a4 a5) v16 a1 a3 a4 a5)
else none)
else
  (vlet (a4 + (-1 : Int32)) fun x10 =>
  if ¬ (x10 - (1 : Int32)) < 0 ∧ (x10 - (1 : Int32)).toNatClampNeg < 80 then
  (if ¬ x10 < 0 ∧ x10.toNatClampNeg < 80 then
  ((f_X8_worked v (v.1 176 a5.toNatClampNeg) ((v.1 184 ((x10 - (1 : Int32)).toNatClampNeg)).toInt64) ((v.1 184 x10.toNatClampNeg).toInt64)).bind fun p13 =>
  vlet (rI v 184 ((x10 - (1 : Int32)).toNatClampNeg) p13) fun v14 =>
  f_X8_workOut_165 (fun v a1 a3 a4 a5 => f_X8_workOut_12  n v a1 a3 a4 a5) v14 a1 a3 x10 a5)
else none)
else none))))
else none)
def f_X8_workOut (v : rV) (a1 : Int32) (a2 : Int32) (a3 : Int32) : Option (Int32 × rV) := vlet (((340 : Int32) * a1) + a2 : Int32) fun x1 =>
  f_X8_workOut_12  20000 v a1 a3 (0 : Int32) x1
def f_X8_worth_55   (v : rV) (a1 : Int32) (a2 : Int32) : Option (Int32 × rV) := if ¬ a2 < 0 ∧ a2.toNatClampNeg < 810 then
  ((f_X8_workOut v a1 (v.1 181 a2.toNatClampNeg) (v.1 182 a2.toNatClampNeg)).bind fun p5 =>
  some (p5.1, p5.2))
else none
def f_X8_worth_5   : Nat → rV → Int32 → Int32 → Option (Int32 × rV)
  | 0, _, _, _ => none
  | n + 1, v, a1, a2 => if ¬ a1 < 0 ∧ a1.toNatClampNeg < 9 then
  (if (((90 : Int32) * a1) + (v.1 179 a1.toNatClampNeg)) ≤ a2 then
  (some ((0 : Int32), v))
else
  (if ¬ a2 < 0 ∧ a2.toNatClampNeg < 810 then
  (if (v.1 180 a2.toNatClampNeg) = (v.1 181 a2.toNatClampNeg) then
  (f_X8_worth_55  v a1 a2)
else
  ((f_X8_workOut v a1 (v.1 180 a2.toNatClampNeg) (v.1 181 a2.toNatClampNeg)).bind fun p6 =>
  if p6.1 = 0 then
  (vlet (a2 + (1 : Int32)) fun x7 =>
  f_X8_worth_5  n p6.2 a1 x7)
else
  (f_X8_worth_55  p6.2 a1 a2)))
else none))
else none
def f_X8_worth (v : rV) (a1 : Int32) : Option (Int32 × rV) := vlet ((90 : Int32) * a1 : Int32) fun x1 =>
  f_X8_worth_5  20000 v a1 x1
def f_X8_lose_7   : Nat → rV → Int32 → Int32 → Option (Int32 × rV)
  | 0, _, _, _ => none
  | n + 1, v, a1, a2 => if (v.1 174 38) < a2 then
  (some (a1, v))
else
  (vlet (rI v 183 0 (if ((v.1 174 38) - a2) < (a2 - (v.1 174 37)) then ((v.1 174 38) - a2) else (a2 - (v.1 174 37)))) fun v2 =>
  if ¬ ((0 : Int32) + a2) < 0 ∧ ((0 : Int32) + a2).toNatClampNeg < 416 then
  (vlet (rI v2 183 1 (v2.1 187 (((0 : Int32) + a2).toNatClampNeg))) fun v4 =>
  if ¬ ((24 : Int32) + a2) < 0 ∧ ((24 : Int32) + a2).toNatClampNeg < 416 then
  (if ¬ ((48 : Int32) + a2) < 0 ∧ ((48 : Int32) + a2).toNatClampNeg < 416 then
  (vlet (rI v4 183 2 ((v4.1 187 (((24 : Int32) + a2).toNatClampNeg)) + (v4.1 187 (((48 : Int32) + a2).toNatClampNeg)))) fun v7 =>
  vlet (rI v7 183 3 (v7.1 187 289)) fun v8 =>
  (f_X8_of v8 (5 : Int32)).bind fun p9 =>
  vlet (rI v8 183 4 p9) fun v10 =>
  (f_X8_of v10 (6 : Int32)).bind fun p11 =>
  vlet (rI v10 183 5 p11) fun v12 =>
  vlet (rI v12 183 6 (((v12.1 174 38) - (v12.1 174 37)) + (1 : Int32))) fun v13 =>
  (f_X8_worth v13 (v13.1 187 294)).bind fun p14 =>
  vlet (if (0 : Int32) < (if p14.1 < (v13.1 187 (((0 : Int32) + a2).toNatClampNeg)) then p14.1 else (v13.1 187 (((0 : Int32) + a2).toNatClampNeg))) then (if p14.1 < (v13.1 187 (((0 : Int32) + a2).toNatClampNeg)) then p14.1 else (v13.1 187 (((0 : Int32) + a2).toNatClampNeg))) else (0 : Int32) : Int32) fun x15 =>
  (f_X8_of p14.2 (6 : Int32)).bind fun p16 =>
  vlet (x15 - ((x15 * p16) / (100 : Int32)) : Int32) fun x17 =>
  vlet ((0 : Int32) + a2 : Int32) fun x18 =>
  if ¬ x18 < 0 ∧ x18.toNatClampNeg < 416 then
  (vlet (rI p14.2 187 x18.toNatClampNeg ((p14.2.1 187 x18.toNatClampNeg) - x17)) fun v20 =>
  vlet (rI v20 187 290 ((v20.1 187 290) + x17)) fun v21 =>
  vlet (a1 + (v21.1 187 (((0 : Int32) + a2).toNatClampNeg)) : Int32) fun x22 =>
  vlet (a2 + (1 : Int32)) fun x23 =>
  f_X8_lose_7  n v21 x22 x23)
else none)
else none)
else none)
else none)
def f_X8_lose (v : rV)  : Option (Int32 × rV) := vlet (v.1 174 37 : Int32) fun x1 =>
  f_X8_lose_7  20000 v (0 : Int32) x1
def f_X8_fall (v : rV) (a1 : Int32) (a2 : Int32) (a3 : Int32) : Option (rV) := vlet (((24 : Int32) + ((24 : Int32) * a2)) + a1 : Int32) fun x1 =>
  if ¬ x1 < 0 ∧ x1.toNatClampNeg < 416 then
  (vlet (rI v 187 x1.toNatClampNeg ((v.1 187 x1.toNatClampNeg) - a3)) fun v3 =>
  vlet (((72 : Int32) + ((24 : Int32) * a2)) + a1 : Int32) fun x4 =>
  if ¬ x4 < 0 ∧ x4.toNatClampNeg < 416 then
  (vlet (rI v3 187 x4.toNatClampNeg ((v3.1 187 x4.toNatClampNeg) + a3)) fun v6 =>
  vlet (((24 : Int32) * a2) + a1 : Int32) fun x7 =>
  if ¬ x7 < 0 ∧ x7.toNatClampNeg < 48 then
  (vlet (rI v6 193 x7.toNatClampNeg ((v6.1 193 x7.toNatClampNeg) + a3)) fun v9 =>
  some v9)
else none)
else none)
else none
def f_X8_shed (v : rV) (a1 : Int32) (a2 : Int32) : Option (rV) := vlet ((0 : Int32) + a2 : Int32) fun x1 =>
  if ¬ x1 < 0 ∧ x1.toNatClampNeg < 416 then
  (if ¬ ((0 : Int32) + a1) < 0 ∧ ((0 : Int32) + a1).toNatClampNeg < 416 then
  (vlet (rI v 187 x1.toNatClampNeg ((v.1 187 x1.toNatClampNeg) + (v.1 187 (((0 : Int32) + a1).toNatClampNeg)))) fun v4 =>
  vlet (rI v4 187 (((0 : Int32) + a1).toNatClampNeg) (0 : Int32)) fun v5 =>
  if ¬ ((24 : Int32) + a1) < 0 ∧ ((24 : Int32) + a1).toNatClampNeg < 416 then
  ((f_X8_fall v5 a1 (0 : Int32) (v5.1 187 (((24 : Int32) + a1).toNatClampNeg))).bind fun p7 =>
  if ¬ ((48 : Int32) + a1) < 0 ∧ ((48 : Int32) + a1).toNatClampNeg < 416 then
  ((f_X8_fall p7 a1 (1 : Int32) (p7.1 187 (((48 : Int32) + a1).toNatClampNeg))).bind fun p9 =>
  some p9)
else none)
else none)
else none)
else none
def f_X8_letGo_2   : Nat → rV → Int32 → Int32 → Option (rV)
  | 0, _, _, _ => none
  | n + 1, v, a1, a2 => if a1 ≤ a2 then
  (some v)
else
  ((f_X8_shed v (v.1 174 37) ((v.1 174 37) + (1 : Int32))).bind fun p1 =>
  vlet (rI p1 174 37 ((p1.1 174 37) + (1 : Int32))) fun v2 =>
  (f_X8_shed v2 (v2.1 174 38) ((v2.1 174 38) - (1 : Int32))).bind fun p3 =>
  vlet (rI p3 174 38 ((p3.1 174 38) - (1 : Int32))) fun v4 =>
  vlet (a2 + (1 : Int32)) fun x5 =>
  f_X8_letGo_2  n v4 a1 x5)
def f_X8_letGo (v : rV) (a1 : Int32) : Option (rV) := f_X8_letGo_2  20000 v a1 (0 : Int32)
def f_X8_flows_181  (q59 : rV → Int32 → Int32 → Option (rV)) (v : rV) (a2 : Int32) (a3 : Int32) (s0 : Int32) (s1 : Int32) (s2 : Int32) : Option (rV) := if ¬ s2 < 0 ∧ s2.toNatClampNeg < 416 then
  (vlet (rI v 187 s2.toNatClampNeg (s1 + s0)) fun v11 =>
  vlet (a3 + (1 : Int32)) fun x12 =>
  q59 v11 a2 x12)
else none
def f_X8_flows_180  (q59 : rV → Int32 → Int32 → Option (rV)) (v : rV) (a2 : Int32) (a3 : Int32) (s0 : Int32) (s1 : Int32) : Option (rV) := f_X8_flows_181 q59 v a2 a3 (0 : Int32) s0 s1
def f_X8_flows_166  (q59 : rV → Int32 → Int32 → Option (rV)) (v : rV) (a2 : Int32) (a3 : Int32) (a5 : Int32) (s0 : Int32) (s1 : Int32) : Option (rV) := if a5 = 0 then
  (f_X8_flows_180 q59 v a2 a3 s0 s1)
else
  (if 0 ≤ a2 then
  (f_X8_flows_180 q59 v a2 a3 s0 s1)
else
  (f_X8_flows_181 q59 v a2 a3 (-a2) s0 s1))
def f_X8_flows_142  (q59 : rV → Int32 → Int32 → Option (rV)) (v : rV) (a2 : Int32) (a3 : Int32) (a4 : Int32) (s0 : Int32) : Option (rV) := if a4 = 0 then
  (f_X8_flows_166 q59 v a2 a3 s0 (v.1 187 293) (293 : Int32))
else
  (if a2 ≤ 0 then
  (f_X8_flows_166 q59 v a2 a3 s0 (v.1 187 293) (293 : Int32))
else
  (f_X8_flows_181 q59 v a2 a3 a2 (v.1 187 293) (293 : Int32)))
def f_X8_flows_116  (q59 : rV → Int32 → Int32 → Option (rV)) (v : rV) (a2 : Int32) (a3 : Int32) (s0 : Int32) : Option (rV) := if (((v.1 174 38) - a3) - (1 : Int32)) < ((a3 + (1 : Int32)) - (v.1 174 37)) then
  (f_X8_flows_142 q59 v a2 a3 s0 (0 : Int32))
else
  (f_X8_flows_142 q59 v a2 a3 s0 (1 : Int32))
def f_X8_flows_59   : Nat → rV → Int32 → Int32 → Option (rV)
  | 0, _, _, _ => none
  | n + 1, v, a2, a3 => if (v.1 174 38) ≤ a3 then
  (some v)
else
  (if ¬ a3 < 0 ∧ a3.toNatClampNeg < 24 then
  (if ¬ ((0 : Int32) + a3) < 0 ∧ ((0 : Int32) + a3).toNatClampNeg < 416 then
  (vlet (a2 + ((v.1 194 a3.toNatClampNeg) - (v.1 187 (((0 : Int32) + a3).toNatClampNeg))) : Int32) fun x7 =>
  if ¬ ((168 : Int32) + a3) < 0 ∧ ((168 : Int32) + a3).toNatClampNeg < 416 then
  (vlet (rI v 187 (((168 : Int32) + a3).toNatClampNeg) x7) fun v9 =>
  if (a3 - (v9.1 174 37)) < ((v9.1 174 38) - a3) then
  (f_X8_flows_116 (fun v a2 a3 => f_X8_flows_59  n v a2 a3) v9 x7 a3 (0 : Int32))
else
  (f_X8_flows_116 (fun v a2 a3 => f_X8_flows_59  n v a2 a3) v9 x7 a3 (1 : Int32)))
else none)
else none)
else none)
def f_X8_flows_5   : Nat → rV → Int32 → Int32 → Option (rV)
  | 0, _, _, _ => none
  | n + 1, v, a1, a2 => if (v.1 174 38) < a2 then
  ((f_X8_of v (11 : Int32)).bind fun p2 =>
  (f_X8_shape v (v.1 174 37) (v.1 174 38) a1 p2).bind fun p3 =>
  vlet (p3.1 174 37 : Int32) fun x4 =>
  f_X8_flows_59  20000 p3 (0 : Int32) x4)
else
  (if ¬ ((0 : Int32) + a2) < 0 ∧ ((0 : Int32) + a2).toNatClampNeg < 416 then
  (if ¬ a2 < 0 ∧ a2.toNatClampNeg < 24 then
  (vlet (rI v 194 a2.toNatClampNeg (v.1 187 (((0 : Int32) + a2).toNatClampNeg))) fun v22 =>
  vlet (a2 + (1 : Int32)) fun x23 =>
  f_X8_flows_5  n v22 a1 x23)
else none)
else none)
def f_X8_flows (v : rV) (a1 : Int32) : Option (rV) := vlet (v.1 174 37 : Int32) fun x1 =>
  f_X8_flows_5  20000 v a1 x1
def f_X8_carry_226  (q5 : rV → Int32 → Option (rV)) (v : rV) (a1 : Int32) : Option (rV) := vlet (a1 + (1 : Int32)) fun x6 =>
  q5 v x6
def f_X8_carry_95  (q5 : rV → Int32 → Option (rV)) : Nat → rV → Int32 → Int32 → Int32 → Int32 → Int32 → Int32 → Option (rV)
  | 0, _, _, _, _, _, _, _ => none
  | n + 1, v, a1, a2, a3, a4, a6, a7 => if (2 : Int32) ≤ a7 then
  (f_X8_carry_226 q5 v a1)
else
  (if a2 = 0 then
  (f_X8_carry_226 q5 v a1)
else
  (if ¬ a3 < 0 ∧ a3.toNatClampNeg < 24 then
  (if (v.1 194 a3.toNatClampNeg) ≤ 0 then
  (f_X8_carry_226 q5 v a1)
else
  (if a6 = 0 then
  (if ¬ (((24 : Int32) + ((24 : Int32) * a7)) + a3) < 0 ∧ (((24 : Int32) + ((24 : Int32) * a7)) + a3).toNatClampNeg < 416 then
  (vlet (v.1 187 ((((24 : Int32) + ((24 : Int32) * a7)) + a3).toNatClampNeg) : Int32) fun x9 =>
  if ((v.1 194 a3.toNatClampNeg).toInt64) = 0 then none else
  vlet ((if ((x9.toInt64 * ((if 0 ≤ a2 then a2 else 0 - a2).toInt64)) / ((v.1 194 a3.toNatClampNeg).toInt64)) < x9.toInt64 then ((x9.toInt64 * ((if 0 ≤ a2 then a2 else 0 - a2).toInt64)) / ((v.1 194 a3.toNatClampNeg).toInt64)) else x9.toInt64).toInt32 : Int32) fun x10 =>
  (f_X8_of v (7 : Int32)).bind fun p11 =>
  vlet ((x10 * ((100 : Int32) - p11)) / (100 : Int32) : Int32) fun x12 =>
  vlet (((24 : Int32) + ((24 : Int32) * a7)) + a3 : Int32) fun x13 =>
  if ¬ x13 < 0 ∧ x13.toNatClampNeg < 416 then
  (vlet (rI v 187 x13.toNatClampNeg ((v.1 187 x13.toNatClampNeg) - x12)) fun v15 =>
  vlet (((24 : Int32) + ((24 : Int32) * a7)) + a4 : Int32) fun x16 =>
  if ¬ x16 < 0 ∧ x16.toNatClampNeg < 416 then
  (vlet (rI v15 187 x16.toNatClampNeg ((v15.1 187 x16.toNatClampNeg) + x12)) fun v18 =>
  vlet (a7 + (1 : Int32)) fun x19 =>
  f_X8_carry_95 q5 n v18 a1 a2 a3 a4 a6 x19)
else none)
else none)
else none)
else
  (f_X8_carry_226 q5 v a1)))
else none))
def f_X8_carry_90  (q5 : rV → Int32 → Option (rV)) (v : rV) (a1 : Int32) (a2 : Int32) (a3 : Int32) (a4 : Int32) (s0 : Int32) : Option (rV) := f_X8_carry_95 q5 20000 v a1 a2 a3 a4 s0 (0 : Int32)
def f_X8_carry_89  (q5 : rV → Int32 → Option (rV)) (v : rV) (a1 : Int32) (a2 : Int32) (a3 : Int32) (a4 : Int32) : Option (rV) := f_X8_carry_90 q5 v a1 a2 a3 a4 (0 : Int32)
def f_X8_carry_47  (q5 : rV → Int32 → Option (rV)) (v : rV) (a1 : Int32) (a2 : Int32) (a3 : Int32) (s0 : Int32) : Option (rV) := if ¬ ((48 : Int32) + a3) < 0 ∧ ((48 : Int32) + a3).toNatClampNeg < 416 then
  (vlet (v.1 187 (((48 : Int32) + a3).toNatClampNeg) : Int32) fun x5 =>
  if x5 ≤ 0 then
  (f_X8_carry_89 q5 v a1 a2 a3 s0)
else
  (if ¬ ((24 : Int32) + a3) < 0 ∧ ((24 : Int32) + a3).toNatClampNeg < 416 then
  (if ((10 : Int32) * x5) < (x5 + (v.1 187 (((24 : Int32) + a3).toNatClampNeg))) then
  (f_X8_carry_89 q5 v a1 a2 a3 s0)
else
  (f_X8_carry_90 q5 v a1 a2 a3 s0 (1 : Int32)))
else none))
else none
def f_X8_carry_35  (q5 : rV → Int32 → Option (rV)) (v : rV) (a1 : Int32) (a2 : Int32) (s0 : Int32) : Option (rV) := if a2 ≤ 0 then
  (f_X8_carry_47 q5 v a1 a2 s0 a1)
else
  (f_X8_carry_47 q5 v a1 a2 s0 (a1 + (1 : Int32)))
def f_X8_carry_5   : Nat → rV → Int32 → Option (rV)
  | 0, _, _ => none
  | n + 1, v, a1 => if (v.1 174 38) ≤ a1 then
  (some v)
else
  (if ¬ ((168 : Int32) + a1) < 0 ∧ ((168 : Int32) + a1).toNatClampNeg < 416 then
  (vlet (v.1 187 (((168 : Int32) + a1).toNatClampNeg) : Int32) fun x3 =>
  if x3 ≤ 0 then
  (f_X8_carry_35 (fun v a1 => f_X8_carry_5  n v a1) v a1 x3 (a1 + (1 : Int32)))
else
  (f_X8_carry_35 (fun v a1 => f_X8_carry_5  n v a1) v a1 x3 a1))
else none)
def f_X8_carry (v : rV)  : Option (rV) := vlet (v.1 174 37 : Int32) fun x1 =>
  f_X8_carry_5  20000 v x1
def f_X8_stir_15  (q5 : rV → Int32 → Option (rV)) : Nat → rV → Int32 → Int32 → Option (rV)
  | 0, _, _, _ => none
  | n + 1, v, a1, a2 => if (2 : Int32) ≤ a2 then
  (vlet (a1 + (1 : Int32)) fun x2 =>
  q5 v x2)
else
  (vlet (((24 : Int32) + ((24 : Int32) * a2)) + a1 : Int32) fun x3 =>
  if ¬ x3 < 0 ∧ x3.toNatClampNeg < 416 then
  (if ¬ (x3 + (1 : Int32)) < 0 ∧ (x3 + (1 : Int32)).toNatClampNeg < 416 then
  (vlet (((v.1 187 x3.toNatClampNeg) - (v.1 187 ((x3 + (1 : Int32)).toNatClampNeg))) / (2 : Int32) : Int32) fun x6 =>
  vlet (rI v 187 x3.toNatClampNeg ((v.1 187 x3.toNatClampNeg) - x6)) fun v7 =>
  vlet (x3 + (1 : Int32) : Int32) fun x8 =>
  if ¬ x8 < 0 ∧ x8.toNatClampNeg < 416 then
  (vlet (rI v7 187 x8.toNatClampNeg ((v7.1 187 x8.toNatClampNeg) + x6)) fun v10 =>
  vlet (a2 + (1 : Int32)) fun x11 =>
  f_X8_stir_15 q5 n v10 a1 x11)
else none)
else none)
else none)
def f_X8_stir_5   : Nat → rV → Int32 → Option (rV)
  | 0, _, _ => none
  | n + 1, v, a1 => if (v.1 174 38) ≤ a1 then
  (some v)
else
  (f_X8_stir_15 (fun v a1 => f_X8_stir_5  n v a1) 20000 v a1 (0 : Int32))
def f_X8_stir (v : rV)  : Option (rV) := vlet (v.1 174 37 : Int32) fun x1 =>
  f_X8_stir_5  20000 v x1
def f_X8_draw (v : rV)  : Option (Int32 × rV) := vlet (rL v 174 27 (((v.2.1 174 27) * (6364136223846793005 : Int64)) + (1442695040888963407 : Int64))) fun v1 =>
  some (((((v1.2.1 174 27).toUInt64 >>> ((33 : Int32).toInt64.toUInt64 &&& Int64.toUInt64 63)).toInt64) - (((v1.2.1 174 27).toUInt64 >>> ((33 : Int32).toInt64.toUInt64 &&& Int64.toUInt64 63)).toInt64) / (4 : Int64) * (4 : Int64)).toInt32, v1)
def f_X8_wander_96  (q5 : rV → Int32 → Option (rV)) (v : rV) (a1 : Int32) : Option (rV) := vlet (a1 + (1 : Int32)) fun x4 =>
  q5 v x4
def f_X8_wander_41  (q5 : rV → Int32 → Option (rV)) (v : rV) (a1 : Int32) (s0 : Int32) : Option (rV) := if ¬ ((24 : Int32) + a1) < 0 ∧ ((24 : Int32) + a1).toNatClampNeg < 416 then
  (if (v.1 187 (((24 : Int32) + a1).toNatClampNeg)) ≤ 0 then
  (f_X8_wander_96 q5 v a1)
else
  (if s0 < (v.1 174 37) then
  (f_X8_wander_96 q5 v a1)
else
  (if (v.1 174 38) < s0 then
  (f_X8_wander_96 q5 v a1)
else
  (vlet ((24 : Int32) + a1 : Int32) fun x5 =>
  if ¬ x5 < 0 ∧ x5.toNatClampNeg < 416 then
  (vlet (rI v 187 x5.toNatClampNeg ((v.1 187 x5.toNatClampNeg) - (1 : Int32))) fun v7 =>
  vlet ((24 : Int32) + s0 : Int32) fun x8 =>
  if ¬ x8 < 0 ∧ x8.toNatClampNeg < 416 then
  (vlet (rI v7 187 x8.toNatClampNeg ((v7.1 187 x8.toNatClampNeg) + (1 : Int32))) fun v10 =>
  f_X8_wander_96 q5 v10 a1)
else none)
else none))))
else none
def f_X8_wander_5   : Nat → rV → Int32 → Option (rV)
  | 0, _, _ => none
  | n + 1, v, a1 => if (v.1 174 38) < a1 then
  (some v)
else
  ((f_X8_draw v).bind fun p2 =>
  if p2.1 = (1 : Int32) then
  (f_X8_wander_41 (fun v a1 => f_X8_wander_5  n v a1) p2.2 a1 (a1 - (1 : Int32)))
else
  (if p2.1 = (2 : Int32) then
  (f_X8_wander_41 (fun v a1 => f_X8_wander_5  n v a1) p2.2 a1 (a1 + (1 : Int32)))
else
  (f_X8_wander_41 (fun v a1 => f_X8_wander_5  n v a1) p2.2 a1 a1)))
def f_X8_wander (v : rV)  : Option (rV) := vlet (v.1 174 37 : Int32) fun x1 =>
  f_X8_wander_5  20000 v x1
def f_X8_bear_86  (q5 : rV → Int32 → Option (rV)) (v : rV) (a1 : Int32) : Option (rV) := vlet (a1 + (1 : Int32)) fun x7 =>
  q5 v x7
def f_X8_bear_5   : Nat → rV → Int32 → Option (rV)
  | 0, _, _ => none
  | n + 1, v, a1 => if (v.1 174 38) < a1 then
  (some v)
else
  (if ¬ ((24 : Int32) + a1) < 0 ∧ ((24 : Int32) + a1).toNatClampNeg < 416 then
  (if ¬ ((48 : Int32) + a1) < 0 ∧ ((48 : Int32) + a1).toNatClampNeg < 416 then
  (if ¬ ((0 : Int32) + a1) < 0 ∧ ((0 : Int32) + a1).toNatClampNeg < 416 then
  ((f_X8_of v (8 : Int32)).bind fun p5 =>
  vlet (((v.1 187 (((24 : Int32) + a1).toNatClampNeg)) + (v.1 187 (((48 : Int32) + a1).toNatClampNeg))) - (((v.1 187 (((0 : Int32) + a1).toNatClampNeg)) * p5) / (10 : Int32)) : Int32) fun x6 =>
  if x6 ≤ 0 then
  (f_X8_bear_86 (fun v a1 => f_X8_bear_5  n v a1) v a1)
else
  (vlet (if (v.1 187 (((24 : Int32) + a1).toNatClampNeg)) < x6 then (v.1 187 (((24 : Int32) + a1).toNatClampNeg)) else x6 : Int32) fun x8 =>
  (f_X8_fall v a1 (0 : Int32) x8).bind fun p9 =>
  (f_X8_fall p9 a1 (1 : Int32) (x6 - x8)).bind fun p10 =>
  f_X8_bear_86 (fun v a1 => f_X8_bear_5  n v a1) p10 a1))
else none)
else none)
else none)
def f_X8_bear (v : rV)  : Option (rV) := vlet (v.1 174 37 : Int32) fun x1 =>
  f_X8_bear_5  20000 v x1
def f_X8_goes_132   (v : rV) (a1 : Int32) (a2 : Int32) : Option (Bool × rV) := (f_X8_wander v).bind fun p13 =>
  (f_X8_bear p13).bind fun p14 =>
  if ¬ ((240 : Int32) + a1) < 0 ∧ ((240 : Int32) + a1).toNatClampNeg < 416 then
  (vlet (rI p14 187 (((240 : Int32) + a1).toNatClampNeg) (p14.1 174 37)) fun v16 =>
  if ¬ ((252 : Int32) + a1) < 0 ∧ ((252 : Int32) + a1).toNatClampNeg < 416 then
  (vlet (rI v16 187 (((252 : Int32) + a1).toNatClampNeg) (v16.1 174 38)) fun v18 =>
  if a2 ≤ 0 then
  (some (false, v18))
else
  (some (true, v18)))
else none)
else none
def f_X8_goes_109   (v : rV) (a1 : Int32) (a2 : Int32) : Option (Bool × rV) := (f_X8_flows v a2).bind fun p10 =>
  (f_X8_carry p10).bind fun p11 =>
  (f_X8_of p11 (5 : Int32)).bind fun p12 =>
  if p12 < (50 : Int32) then
  (f_X8_goes_132  p11 a1 a2)
else
  ((f_X8_stir p11).bind fun p20 =>
  f_X8_goes_132  p20 a1 a2)
def f_X8_goes (v : rV) (a1 : Int32) : Option (Bool × rV) := if ¬ ((240 : Int32) + a1) < 0 ∧ ((240 : Int32) + a1).toNatClampNeg < 416 then
  (vlet (rI v 174 37 (v.1 187 (((240 : Int32) + a1).toNatClampNeg))) fun v2 =>
  if ¬ ((252 : Int32) + a1) < 0 ∧ ((252 : Int32) + a1).toNatClampNeg < 416 then
  (vlet (rI v2 174 38 (v2.1 187 (((252 : Int32) + a1).toNatClampNeg))) fun v4 =>
  if ¬ ((264 : Int32) + a1) < 0 ∧ ((264 : Int32) + a1).toNatClampNeg < 416 then
  (vlet (rI v4 174 39 (v4.1 187 (((264 : Int32) + a1).toNatClampNeg))) fun v6 =>
  (f_X8_lose v6).bind fun p7 =>
  vlet (((p7.2.1 174 38) - (p7.2.1 174 37)) + (1 : Int32) : Int32) fun x8 =>
  (f_X8_of p7.2 (9 : Int32)).bind fun p9 =>
  if (p9 * x8) ≤ p7.1 then
  (f_X8_goes_109  p7.2 a1 p7.1)
else
  ((f_X8_of p7.2 (10 : Int32)).bind fun p22 =>
  if x8 ≤ (((2 : Int32) * p22) + (1 : Int32)) then
  (f_X8_goes_109  p7.2 a1 p7.1)
else
  ((f_X8_of p7.2 (10 : Int32)).bind fun p23 =>
  (f_X8_letGo p7.2 p23).bind fun p24 =>
  vlet ((276 : Int32) + a1 : Int32) fun x25 =>
  if ¬ x25 < 0 ∧ x25.toNatClampNeg < 416 then
  (vlet (rI p24 187 x25.toNatClampNeg ((p24.1 187 x25.toNatClampNeg) + (1 : Int32))) fun v27 =>
  f_X8_goes_109  v27 a1 p7.1)
else none)))
else none)
else none)
else none
def f_X8_remove_14   : Nat → rV → Int32 → Option (rV)
  | 0, _, _ => none
  | n + 1, v, a2 => if (v.1 187 288) ≤ a2 then
  (some v)
else
  (if ¬ (((240 : Int32) + a2) + (1 : Int32)) < 0 ∧ (((240 : Int32) + a2) + (1 : Int32)).toNatClampNeg < 416 then
  (if ¬ ((240 : Int32) + a2) < 0 ∧ ((240 : Int32) + a2).toNatClampNeg < 416 then
  (vlet (rI v 187 (((240 : Int32) + a2).toNatClampNeg) (v.1 187 ((((240 : Int32) + a2) + (1 : Int32)).toNatClampNeg))) fun v4 =>
  if ¬ (((252 : Int32) + a2) + (1 : Int32)) < 0 ∧ (((252 : Int32) + a2) + (1 : Int32)).toNatClampNeg < 416 then
  (if ¬ ((252 : Int32) + a2) < 0 ∧ ((252 : Int32) + a2).toNatClampNeg < 416 then
  (vlet (rI v4 187 (((252 : Int32) + a2).toNatClampNeg) (v4.1 187 ((((252 : Int32) + a2) + (1 : Int32)).toNatClampNeg))) fun v7 =>
  if ¬ (((264 : Int32) + a2) + (1 : Int32)) < 0 ∧ (((264 : Int32) + a2) + (1 : Int32)).toNatClampNeg < 416 then
  (if ¬ ((264 : Int32) + a2) < 0 ∧ ((264 : Int32) + a2).toNatClampNeg < 416 then
  (vlet (rI v7 187 (((264 : Int32) + a2).toNatClampNeg) (v7.1 187 ((((264 : Int32) + a2) + (1 : Int32)).toNatClampNeg))) fun v10 =>
  if ¬ (((276 : Int32) + a2) + (1 : Int32)) < 0 ∧ (((276 : Int32) + a2) + (1 : Int32)).toNatClampNeg < 416 then
  (if ¬ ((276 : Int32) + a2) < 0 ∧ ((276 : Int32) + a2).toNatClampNeg < 416 then
  (vlet (rI v10 187 (((276 : Int32) + a2).toNatClampNeg) (v10.1 187 ((((276 : Int32) + a2) + (1 : Int32)).toNatClampNeg))) fun v13 =>
  vlet (a2 + (1 : Int32)) fun x14 =>
  f_X8_remove_14  n v13 x14)
else none)
else none)
else none)
else none)
else none)
else none)
else none)
else none)
def f_X8_remove (v : rV) (a1 : Int32) : Option (rV) := vlet (rI v 187 288 ((v.1 187 288) - (1 : Int32))) fun v1 =>
  f_X8_remove_14  20000 v1 a1
def f_X8_tickOnce_200   (v : rV) (a2 : Int32) : Option (rV) := if a2 ≤ (v.1 187 292) then
  (some v)
else
  (vlet (rI v 187 292 a2) fun v3 =>
  vlet (rI v3 187 291 (v3.1 187 289)) fun v4 =>
  some v4)
def f_X8_tickOnce_148  (q103 : rV → Int32 → Int32 → Option (rV)) (v : rV) (a2 : Int32) (a3 : Int32) (a4 : Int32) (s0 : Int32) : Option (rV) := vlet (s0 + a3 : Int32) fun x12 =>
  if ¬ x12 < 0 ∧ x12.toNatClampNeg < 416 then
  (vlet (rI v 187 x12.toNatClampNeg ((v.1 187 x12.toNatClampNeg) + a4)) fun v14 =>
  vlet (a2 + a4 : Int32) fun x15 =>
  vlet (a3 + (1 : Int32)) fun x16 =>
  q103 v14 x15 x16)
else none
def f_X8_tickOnce_103   : Nat → rV → Int32 → Int32 → Option (rV)
  | 0, _, _, _ => none
  | n + 1, v, a2, a3 => if (24 : Int32) ≤ a3 then
  (if (120 : Int32) < (v.1 187 289) then
  (f_X8_tickOnce_200  v a2)
else
  (if ¬ (((296 : Int32) + (v.1 187 289)) - (1 : Int32)) < 0 ∧ (((296 : Int32) + (v.1 187 289)) - (1 : Int32)).toNatClampNeg < 416 then
  (vlet (rI v 187 ((((296 : Int32) + (v.1 187 289)) - (1 : Int32)).toNatClampNeg) a2) fun v7 =>
  f_X8_tickOnce_200  v7 a2)
else none))
else
  (if ¬ a3 < 0 ∧ a3.toNatClampNeg < 48 then
  (if ¬ ((24 : Int32) + a3) < 0 ∧ ((24 : Int32) + a3).toNatClampNeg < 48 then
  (vlet ((v.1 193 a3.toNatClampNeg) + (v.1 193 (((24 : Int32) + a3).toNatClampNeg)) : Int32) fun x11 =>
  if (v.1 174 23) < x11 then
  (f_X8_tickOnce_148 (fun v a2 a3 => f_X8_tickOnce_103  n v a2 a3) v a2 a3 x11 (144 : Int32))
else
  (f_X8_tickOnce_148 (fun v a2 a3 => f_X8_tickOnce_103  n v a2 a3) v a2 a3 x11 (120 : Int32)))
else none)
else none)
def f_X8_tickOnce_53   : Nat → rV → Int32 → Option (rV)
  | 0, _, _ => none
  | n + 1, v, a1 => if (v.1 187 288) ≤ a1 then
  (vlet (rI v 187 289 ((v.1 187 289) + (1 : Int32))) fun v2 =>
  f_X8_tickOnce_103  20000 v2 (0 : Int32) (0 : Int32))
else
  ((f_X8_goes v a1).bind fun p19 =>
  if p19.1 = true then
  (vlet (a1 + (1 : Int32)) fun x21 =>
  f_X8_tickOnce_53  n p19.2 x21)
else
  ((f_X8_remove p19.2 a1).bind fun p20 =>
  f_X8_tickOnce_53  n p20 a1))
def f_X8_tickOnce_2   : Nat → rV → Int32 → Option (rV)
  | 0, _, _ => none
  | n + 1, v, a1 => if (24 : Int32) ≤ a1 then
  (vlet (rI v 187 293 (0 : Int32)) fun v1 =>
  f_X8_tickOnce_53  20000 v1 (0 : Int32))
else
  (if ¬ ((168 : Int32) + a1) < 0 ∧ ((168 : Int32) + a1).toNatClampNeg < 416 then
  (vlet (rI v 187 (((168 : Int32) + a1).toNatClampNeg) (0 : Int32)) fun v25 =>
  if ¬ a1 < 0 ∧ a1.toNatClampNeg < 48 then
  (vlet (rI v25 193 a1.toNatClampNeg (0 : Int32)) fun v27 =>
  if ¬ ((24 : Int32) + a1) < 0 ∧ ((24 : Int32) + a1).toNatClampNeg < 48 then
  (vlet (rI v27 193 (((24 : Int32) + a1).toNatClampNeg) (0 : Int32)) fun v29 =>
  vlet (a1 + (1 : Int32)) fun x30 =>
  f_X8_tickOnce_2  n v29 x30)
else none)
else none)
else none)
def f_X8_tickOnce (v : rV)  : Option (rV) := f_X8_tickOnce_2  20000 v (0 : Int32)
def f_X8_run_2   : Nat → rV → Int32 → Int32 → Option (Int32 × rV)
  | 0, _, _, _ => none
  | n + 1, v, a1, a2 => if a1 ≤ a2 then
  (some (a2, v))
else
  (if (v.1 187 288) ≤ 0 then
  (some (a2, v))
else
  ((f_X8_tickOnce v).bind fun p1 =>
  vlet (a2 + (1 : Int32)) fun x2 =>
  f_X8_run_2  n p1 a1 x2))
def f_X8_run (v : rV) (a1 : Int32) : Option (Int32 × rV) := f_X8_run_2  20000 v a1 (0 : Int32)
def f_X8_tryOut (v : rV) (a1 : Int32) (a2 : Int64) (a4 : Int32) : Option (rV) := (f_X8_begin v a1 a2).bind fun p1 =>
  (f_X8_run p1 a4).bind fun p2 =>
  some p2.2
def f_X8_takeBack_2   : Nat → rV → Int32 → Option (rV)
  | 0, _, _ => none
  | n + 1, v, a1 => if (416 : Int32) ≤ a1 then
  (vlet (rL v 174 27 (v.2.1 174 28)) fun v1 =>
  some v1)
else
  (if ¬ a1 < 0 ∧ a1.toNatClampNeg < 416 then
  (vlet (rI v 187 a1.toNatClampNeg (v.1 188 a1.toNatClampNeg)) fun v3 =>
  vlet (a1 + (1 : Int32)) fun x4 =>
  f_X8_takeBack_2  n v3 x4)
else none)
def f_X8_takeBack (v : rV)  : Option (rV) := f_X8_takeBack_2  20000 v (0 : Int32)
def f_X8_alike_210  (q133 : rV → Int32 → Int32 → Int32 → Int32 → Int32 → Int32 → Option (Int32 × rV)) (v : rV) (a2 : Int32) (a3 : Int32) (a7 : Int32) (a8 : Int32) (a10 : Int32) (s0 : Int32) (s1 : Int32) : Option (Int32 × rV) := vlet (s1 + s0 : Int32) fun x18 =>
  vlet (a10 + (1 : Int32)) fun x19 =>
  q133 v a2 a3 a7 a8 x18 x19
def f_X8_alike_187  (q133 : rV → Int32 → Int32 → Int32 → Int32 → Int32 → Int32 → Option (Int32 × rV)) (v : rV) (a2 : Int32) (a3 : Int32) (a7 : Int32) (a8 : Int32) (a9 : Int32) (a10 : Int32) (s0 : Int32) : Option (Int32 × rV) := (f_X8_laidIn v (a8 + a10)).bind fun p17 =>
  if s0 = p17 then
  (f_X8_alike_210 q133 v a2 a3 a7 a8 a10 (1 : Int32) a9)
else
  (f_X8_alike_210 q133 v a2 a3 a7 a8 a10 (0 : Int32) a9)
def f_X8_alike_133   : Nat → rV → Int32 → Int32 → Int32 → Int32 → Int32 → Int32 → Option (Int32 × rV)
  | 0, _, _, _, _, _, _, _ => none
  | n + 1, v, a2, a3, a7, a8, a9, a10 => if ¬ (((12 : Int32) * a2) + (1 : Int32)) < 0 ∧ (((12 : Int32) * a2) + (1 : Int32)).toNatClampNeg < 156 then
  (if ¬ (((12 : Int32) * a3) + (1 : Int32)) < 0 ∧ (((12 : Int32) * a3) + (1 : Int32)).toNatClampNeg < 156 then
  (if (if (v.1 185 ((((12 : Int32) * a2) + (1 : Int32)).toNatClampNeg)) < (v.1 185 ((((12 : Int32) * a3) + (1 : Int32)).toNatClampNeg)) then (v.1 185 ((((12 : Int32) * a3) + (1 : Int32)).toNatClampNeg)) else (v.1 185 ((((12 : Int32) * a2) + (1 : Int32)).toNatClampNeg))) ≤ a10 then
  ((f_X8_takeBack v).bind fun p16 =>
  some (a9, p16))
else
  (if (24 : Int32) ≤ (a7 + a10) then
  (f_X8_alike_187 (fun v a2 a3 a7 a8 a9 a10 => f_X8_alike_133  n v a2 a3 a7 a8 a9 a10) v a2 a3 a7 a8 a9 a10 (0 : Int32))
else
  (if ¬ (a7 + a10) < 0 ∧ (a7 + a10).toNatClampNeg < 24 then
  (f_X8_alike_187 (fun v a2 a3 a7 a8 a9 a10 => f_X8_alike_133  n v a2 a3 a7 a8 a9 a10) v a2 a3 a7 a8 a9 a10 (v.1 196 ((a7 + a10).toNatClampNeg)))
else none)))
else none)
else none
def f_X8_alike_58   : Nat → rV → Int32 → Int32 → Int32 → Int64 → Int32 → Int32 → Option (Int32 × rV)
  | 0, _, _, _, _, _, _, _ => none
  | n + 1, v, a1, a2, a3, a4, a6, a7 => if (24 : Int32) ≤ a7 then
  ((f_X8_gather v ((1 : Int32) <<< (a3 &&& 31))).bind fun p8 =>
  (f_X8_tryOut p8.2 a1 a4 a6).bind fun p9 =>
  if ¬ (((12 : Int32) * a2) + (0 : Int32)) < 0 ∧ (((12 : Int32) * a2) + (0 : Int32)).toNatClampNeg < 156 then
  (vlet (p9.1 185 ((((12 : Int32) * a2) + (0 : Int32)).toNatClampNeg) : Int32) fun x11 =>
  if ¬ (((12 : Int32) * a3) + (0 : Int32)) < 0 ∧ (((12 : Int32) * a3) + (0 : Int32)).toNatClampNeg < 156 then
  (vlet (p9.1 185 ((((12 : Int32) * a3) + (0 : Int32)).toNatClampNeg) : Int32) fun x13 =>
  f_X8_alike_133  20000 p9 a2 a3 x11 x13 (0 : Int32) (0 : Int32))
else none)
else none)
else
  ((f_X8_laidIn v a7).bind fun p24 =>
  if ¬ a7 < 0 ∧ a7.toNatClampNeg < 24 then
  (vlet (rI v 196 a7.toNatClampNeg p24) fun v26 =>
  vlet (a7 + (1 : Int32)) fun x27 =>
  f_X8_alike_58  n v26 a1 a2 a3 a4 a6 x27)
else none)
def f_X8_alike (v : rV) (a1 : Int32) (a2 : Int32) (a3 : Int32) (a4 : Int64) (a6 : Int32) : Option (Int32 × rV) := if (f_X8_isLaw v a1) = true then
  (if (f_X8_isDrop v a2) = true then
  (if (f_X8_isDrop v a3) = true then
  (if (f_X8_areTicks a6) = true then
  ((f_X8_putAside v).bind fun p5 =>
  (f_X8_gather p5 ((1 : Int32) <<< (a2 &&& 31))).bind fun p6 =>
  (f_X8_tryOut p6.2 a1 a4 a6).bind fun p7 =>
  f_X8_alike_58  20000 p7 a1 a2 a3 a4 a6 (0 : Int32))
else
  (some ((-1 : Int32), v)))
else
  (some ((-1 : Int32), v)))
else
  (some ((-1 : Int32), v)))
else
  (some ((-1 : Int32), v))
def f_X8_areDrops (v : rV) (a1 : Int32) : Bool := if a1 ≤ 0 then
  (false)
else
  (if (a1 >>> ((v.1 174 21) &&& 31)) = 0 then
  (true)
else
  (false))
def f_X8_here (v : rV)  : Option (Int32) := if (v.1 174 2) ≤ (v.1 174 3) then
  (some (-1 : Int32))
else
  (if ¬ (v.1 174 3) < 0 ∧ (v.1 174 3).toNatClampNeg < 160 then
  (some (v.1 175 ((v.1 174 3).toNatClampNeg)))
else none)
def f_X8_look_0   : Nat → rV → Option (Int32 × rV)
  | 0, _ => none
  | n + 1, v => (f_X8_here v).bind fun p1 =>
  if p1 = (32 : Int32) then
  (vlet (rI v 174 3 ((v.1 174 3) + (1 : Int32))) fun v3 =>
  f_X8_look_0  n v3)
else
  ((f_X8_here v).bind fun p2 =>
  some (p2, v))
def f_X8_look (v : rV)  : Option (Int32 × rV) := f_X8_look_0  20000 v
def f_X8_bad_20   (v : rV) (s0 : Int32) : Option (rV) := vlet (rI v 174 4 s0) fun v1 =>
  some v1
def f_X8_bad (v : rV)  : Option (rV) := if (v.1 174 4) = (-1 : Int32) then
  (f_X8_bad_20  v (v.1 174 3))
else
  (f_X8_bad_20  v (v.1 174 4))
def f_X8_atEnd (v : rV)  : Option (Int32 × rV) := if (v.1 174 4) = (-1 : Int32) then
  ((f_X8_look v).bind fun p1 =>
  if p1.1 = (-1 : Int32) then
  (some (p1.2.1 174 4, p1.2))
else
  ((f_X8_bad p1.2).bind fun p2 =>
  some (p2.1 174 4, p2)))
else
  (some (v.1 174 4, v))
def f_X8_isDigit (a0 : Int32) : Bool := if a0 < (48 : Int32) then
  (false)
else
  (if (57 : Int32) < a0 then
  (false)
else
  (true))
def f_X8_plainNumber_48   (v : rV) (a1 : Int32) : Option (Int32 × rV) := (f_X8_here v).bind fun p1 =>
  if (f_X8_isDigit p1) = true then
  ((f_X8_bad v).bind fun p3 =>
  some (a1, p3))
else
  (some (a1, v))
def f_X8_plainNumber_4   : Nat → rV → Int32 → Int32 → Option (Int32 × rV)
  | 0, _, _, _ => none
  | n + 1, v, a1, a2 => if (4 : Int32) ≤ a2 then
  (f_X8_plainNumber_48  v a1)
else
  ((f_X8_here v).bind fun p5 =>
  if (f_X8_isDigit p5) = true then
  ((f_X8_here v).bind fun p7 =>
  vlet ((((10 : Int32) * a1) + p7) - (48 : Int32) : Int32) fun x8 =>
  vlet (rI v 174 3 ((v.1 174 3) + (1 : Int32))) fun v9 =>
  vlet (a2 + (1 : Int32)) fun x10 =>
  f_X8_plainNumber_4  n v9 x8 x10)
else
  (f_X8_plainNumber_48  v a1))
def f_X8_plainNumber (v : rV)  : Option (Int32 × rV) := f_X8_plainNumber_4  20000 v (0 : Int32) (0 : Int32)
def f_X8_put (v : rV) (a1 : Int32) (a2 : Int32) : Option (rV) := if ¬ (v.1 174 15) < 0 ∧ (v.1 174 15).toNatClampNeg < 9 then
  (if ¬ (((340 : Int32) * (v.1 174 15)) + (v.1 178 ((v.1 174 15).toNatClampNeg))) < 0 ∧ (((340 : Int32) * (v.1 174 15)) + (v.1 178 ((v.1 174 15).toNatClampNeg))).toNatClampNeg < 3060 then
  (vlet (rI v 176 ((((340 : Int32) * (v.1 174 15)) + (v.1 178 ((v.1 174 15).toNatClampNeg))).toNatClampNeg) a1) fun v3 =>
  if ¬ (v3.1 174 15) < 0 ∧ (v3.1 174 15).toNatClampNeg < 9 then
  (if ¬ (((340 : Int32) * (v3.1 174 15)) + (v3.1 178 ((v3.1 174 15).toNatClampNeg))) < 0 ∧ (((340 : Int32) * (v3.1 174 15)) + (v3.1 178 ((v3.1 174 15).toNatClampNeg))).toNatClampNeg < 3060 then
  (vlet (rI v3 177 ((((340 : Int32) * (v3.1 174 15)) + (v3.1 178 ((v3.1 174 15).toNatClampNeg))).toNatClampNeg) a2) fun v6 =>
  vlet (v6.1 174 15 : Int32) fun x7 =>
  if ¬ x7 < 0 ∧ x7.toNatClampNeg < 9 then
  (vlet (rI v6 178 x7.toNatClampNeg ((v6.1 178 x7.toNatClampNeg) + (1 : Int32))) fun v9 =>
  some v9)
else none)
else none)
else none)
else none)
else none
def f_X8_letterOf (v : rV) (a1 : Int32) : Int32 := if (v.1 174 16) = 0 then
  (if a1 = (105 : Int32) then
  ((0 : Int32))
else
  (if a1 = (119 : Int32) then
  ((1 : Int32))
else
  (if a1 = (103 : Int32) then
  ((2 : Int32))
else
  (if a1 = (116 : Int32) then
  ((3 : Int32))
else
  (if a1 = (109 : Int32) then
  ((4 : Int32))
else
  (if a1 = (97 : Int32) then
  ((5 : Int32))
else
  (if a1 = (107 : Int32) then
  ((6 : Int32))
else
  ((-1 : Int32)))))))))
else
  (if a1 = (101 : Int32) then
  ((0 : Int32))
else
  (if a1 = (114 : Int32) then
  ((1 : Int32))
else
  (if a1 = (118 : Int32) then
  ((2 : Int32))
else
  (if a1 = (110 : Int32) then
  ((3 : Int32))
else
  (if a1 = (104 : Int32) then
  ((4 : Int32))
else
  (if a1 = (116 : Int32) then
  ((5 : Int32))
else
  ((-1 : Int32))))))))
def f_X8_opens_13   (v : rV)  : Option (rV) := vlet (rI v 174 5 ((v.1 174 5) + (1 : Int32))) fun v1 =>
  vlet (rI v1 174 3 ((v1.1 174 3) + (1 : Int32))) fun v2 =>
  some v2
def f_X8_opens (v : rV)  : Option (rV) := if (v.1 174 5) = (6 : Int32) then
  ((f_X8_bad v).bind fun p3 =>
  f_X8_opens_13  p3)
else
  (f_X8_opens_13  v)
def f_X8_closes_20   (v : rV)  : Option (rV) := vlet (rI v 174 3 ((v.1 174 3) + (1 : Int32))) fun v1 =>
  vlet (rI v1 174 5 ((v1.1 174 5) - (1 : Int32))) fun v2 =>
  some v2
def f_X8_closes (v : rV) (a1 : Int32) : Option (rV) := if (v.1 174 4) = (-1 : Int32) then
  ((f_X8_look v).bind fun p3 =>
  if p3.1 = a1 then
  (f_X8_closes_20  p3.2)
else
  ((f_X8_bad p3.2).bind fun p4 =>
  f_X8_closes_20  p4))
else
  (f_X8_closes_20  v)
def f_X8_atom (R : rV → Option rV) (v : rV)  : Option (rV) := (f_X8_look v).bind fun p1 =>
  if (f_X8_isDigit p1.1) = true then
  ((f_X8_plainNumber p1.2).bind fun p14 =>
  (f_X8_put p14.2 (0 : Int32) p14.1).bind fun p15 =>
  some p15)
else
  (if (f_X8_letterOf p1.2 p1.1) = (-1 : Int32) then
  (if p1.1 = (91 : Int32) then
  ((f_X8_opens p1.2).bind fun p5 =>
  if (p5.1 174 4) = (-1 : Int32) then
  ((R p5).bind fun p6 =>
  (f_X8_closes p6 (93 : Int32)).bind fun p7 =>
  some p7)
else
  (some p5))
else
  ((f_X8_bad p1.2).bind fun p4 =>
  some p4))
else
  (vlet (rI p1.2 174 3 ((p1.2.1 174 3) + (1 : Int32))) fun v10 =>
  (f_X8_put v10 (1 : Int32) (f_X8_letterOf v10 p1.1)).bind fun p12 =>
  some p12))
def f_X8_term_79 (R : rV → Option rV)  (q21 : rV → Int32 → Option (rV)) (v : rV) (s0 : Int32) : Option (rV) := q21 v s0
def f_X8_term_59 (R : rV → Option rV)  (q21 : rV → Int32 → Option (rV)) (v : rV) (s0 : Int32) : Option (rV) := (f_X8_put v s0 (0 : Int32)).bind fun p4 =>
  if (p4.1 174 4) = (-1 : Int32) then
  ((f_X8_look p4).bind fun p5 =>
  f_X8_term_79 R q21 p5.2 p5.1)
else
  (f_X8_term_79 R q21 p4 (-1 : Int32))
def f_X8_term_33 (R : rV → Option rV)  (q21 : rV → Int32 → Option (rV)) (v : rV) (a1 : Int32) : Option (rV) := vlet (rI v 174 3 ((v.1 174 3) + (1 : Int32))) fun v2 =>
  (f_X8_atom R v2).bind fun p3 =>
  if a1 = (42 : Int32) then
  (f_X8_term_59 R q21 p3 (4 : Int32))
else
  (f_X8_term_59 R q21 p3 (5 : Int32))
def f_X8_term_21 (R : rV → Option rV)   : Nat → rV → Int32 → Option (rV)
  | 0, _, _ => none
  | n + 1, v, a1 => if a1 = (42 : Int32) then
  (f_X8_term_33 R (fun v a1 => f_X8_term_21 R  n v a1) v a1)
else
  (if a1 = (47 : Int32) then
  (f_X8_term_33 R (fun v a1 => f_X8_term_21 R  n v a1) v a1)
else
  (some v))
def f_X8_term_20 (R : rV → Option rV)   (v : rV) (s0 : Int32) : Option (rV) := f_X8_term_21 R  20000 v s0
def f_X8_term (R : rV → Option rV) (v : rV)  : Option (rV) := (f_X8_atom R v).bind fun p1 =>
  if (p1.1 174 4) = (-1 : Int32) then
  ((f_X8_look p1).bind fun p10 =>
  f_X8_term_20 R  p10.2 p10.1)
else
  (f_X8_term_20 R  p1 (-1 : Int32))
def f_X8_sum_79 (R : rV → Option rV)  (q21 : rV → Int32 → Option (rV)) (v : rV) (s0 : Int32) : Option (rV) := q21 v s0
def f_X8_sum_59 (R : rV → Option rV)  (q21 : rV → Int32 → Option (rV)) (v : rV) (s0 : Int32) : Option (rV) := (f_X8_put v s0 (0 : Int32)).bind fun p4 =>
  if (p4.1 174 4) = (-1 : Int32) then
  ((f_X8_look p4).bind fun p5 =>
  f_X8_sum_79 R q21 p5.2 p5.1)
else
  (f_X8_sum_79 R q21 p4 (-1 : Int32))
def f_X8_sum_33 (R : rV → Option rV)  (q21 : rV → Int32 → Option (rV)) (v : rV) (a1 : Int32) : Option (rV) := vlet (rI v 174 3 ((v.1 174 3) + (1 : Int32))) fun v2 =>
  (f_X8_term R v2).bind fun p3 =>
  if a1 = (43 : Int32) then
  (f_X8_sum_59 R q21 p3 (2 : Int32))
else
  (f_X8_sum_59 R q21 p3 (3 : Int32))
def f_X8_sum_21 (R : rV → Option rV)   : Nat → rV → Int32 → Option (rV)
  | 0, _, _ => none
  | n + 1, v, a1 => if a1 = (43 : Int32) then
  (f_X8_sum_33 R (fun v a1 => f_X8_sum_21 R  n v a1) v a1)
else
  (if a1 = (45 : Int32) then
  (f_X8_sum_33 R (fun v a1 => f_X8_sum_21 R  n v a1) v a1)
else
  (some v))
def f_X8_sum_20 (R : rV → Option rV)   (v : rV) (s0 : Int32) : Option (rV) := f_X8_sum_21 R  20000 v s0
def f_X8_sum_B (R : rV → Option rV) (v : rV)  : Option (rV) := (f_X8_term R v).bind fun p1 =>
  if (p1.1 174 4) = (-1 : Int32) then
  ((f_X8_look p1).bind fun p10 =>
  f_X8_sum_20 R  p10.2 p10.1)
else
  (f_X8_sum_20 R  p1 (-1 : Int32))
def f_X8_sum : Nat → rV → Option rV
  | 0, _ => none
  | n + 1, v => f_X8_sum_B (f_X8_sum n) v
def f_X8_back_11   : Nat → rV → Int32 → Option (Int32 × rV)
  | 0, _, _ => none
  | n + 1, v, a1 => if (416 : Int32) ≤ a1 then
  (vlet (rL v 174 27 (v.2.1 174 29)) fun v1 =>
  some (v1.1 187 289, v1))
else
  (if ¬ a1 < 0 ∧ a1.toNatClampNeg < 416 then
  (vlet (rI v 187 a1.toNatClampNeg (v.1 189 a1.toNatClampNeg)) fun v3 =>
  vlet (a1 + (1 : Int32)) fun x4 =>
  f_X8_back_11  n v3 x4)
else none)
def f_X8_back (v : rV)  : Option (Int32 × rV) := if (v.1 174 30) = 0 then
  (some ((-1 : Int32), v))
else
  (f_X8_back_11  20000 v (0 : Int32))
def f_X8_isStain (v : rV) (a1 : Int32) : Bool := (f_X8_in a1 (0 : Int32) ((v.1 174 41) - (1 : Int32)))
def f_X8_blot_104 (v : rV) (q36 : Int32 → Int32 → Int32 → Int32 → Int32 → Int32 → Int32 → Int32 → Option (Int32)) (a1 : Int32) (a2 : Int32) (a3 : Int32) (a4 : Int32) (a5 : Int32) (a6 : Int32) (a8 : Int32) (s0 : Int32) : Option (Int32) := vlet (if a4 < a6 then a6 else a4 : Int32) fun x8 =>
  vlet (if a5 < s0 then s0 else a5 : Int32) fun x9 =>
  vlet (a8 + (1 : Int32)) fun x10 =>
  q36 a1 a2 a3 x8 x9 a6 s0 x10
def f_X8_blot_88 (v : rV) (q36 : Int32 → Int32 → Int32 → Int32 → Int32 → Int32 → Int32 → Int32 → Option (Int32)) (a1 : Int32) (a2 : Int32) (a3 : Int32) (a4 : Int32) (a5 : Int32) (a7 : Int32) (a8 : Int32) (a9 : Int32) (s0 : Int32) : Option (Int32) := if a9 ≤ 0 then
  (f_X8_blot_104 v q36 a1 a2 a3 a4 a5 s0 a8 (0 : Int32))
else
  (f_X8_blot_104 v q36 a1 a2 a3 a4 a5 s0 a8 (a7 + a9))
def f_X8_blot_73 (v : rV) (q36 : Int32 → Int32 → Int32 → Int32 → Int32 → Int32 → Int32 → Int32 → Option (Int32)) (a1 : Int32) (a2 : Int32) (a4 : Int32) (a5 : Int32) (a6 : Int32) (a7 : Int32) (a8 : Int32) (a9 : Int32) (s0 : Int32) (s1 : Int32) : Option (Int32) := vlet (s1 + s0 : Int32) fun x7 =>
  if a9 ≤ 0 then
  (f_X8_blot_88 v q36 a1 a2 x7 a4 a5 a7 a8 a9 (0 : Int32))
else
  (f_X8_blot_88 v q36 a1 a2 x7 a4 a5 a7 a8 a9 (a6 + (1 : Int32)))
def f_X8_blot_72 (v : rV) (q36 : Int32 → Int32 → Int32 → Int32 → Int32 → Int32 → Int32 → Int32 → Option (Int32)) (a1 : Int32) (a2 : Int32) (a4 : Int32) (a5 : Int32) (a6 : Int32) (a7 : Int32) (a8 : Int32) (a9 : Int32) (s0 : Int32) : Option (Int32) := f_X8_blot_73 v q36 a1 a2 a4 a5 a6 a7 a8 a9 (0 : Int32) s0
def f_X8_blot_36 (v : rV)  : Nat → Int32 → Int32 → Int32 → Int32 → Int32 → Int32 → Int32 → Int32 → Option (Int32)
  | 0, _, _, _, _, _, _, _, _ => none
  | n + 1, a1, a2, a3, a4, a5, a6, a7, a8 => if (24 : Int32) ≤ a8 then
  (if a2 = 0 then
  (some a3)
else
  (if a2 = (1 : Int32) then
  (some a4)
else
  (some a5)))
else
  (if ¬ (((24 : Int32) * a1) + a8) < 0 ∧ (((24 : Int32) * a1) + a8).toNatClampNeg < 144 then
  (vlet (v.1 195 ((((24 : Int32) * a1) + a8).toNatClampNeg) : Int32) fun x6 =>
  if x6 ≤ 0 then
  (f_X8_blot_72 v (fun a1 a2 a3 a4 a5 a6 a7 a8 => f_X8_blot_36 v n a1 a2 a3 a4 a5 a6 a7 a8) a1 a2 a4 a5 a6 a7 a8 x6 a3)
else
  (if a6 = 0 then
  (f_X8_blot_73 v (fun a1 a2 a3 a4 a5 a6 a7 a8 => f_X8_blot_36 v n a1 a2 a3 a4 a5 a6 a7 a8) a1 a2 a4 a5 a6 a7 a8 x6 (1 : Int32) a3)
else
  (f_X8_blot_72 v (fun a1 a2 a3 a4 a5 a6 a7 a8 => f_X8_blot_36 v n a1 a2 a3 a4 a5 a6 a7 a8) a1 a2 a4 a5 a6 a7 a8 x6 a3)))
else none)
def f_X8_blot (v : rV) (a1 : Int32) (a2 : Int32) : Option (Int32) := if (f_X8_isStain v a1) = true then
  (if (f_X8_in a2 (0 : Int32) (2 : Int32)) = true then
  (f_X8_blot_36 v 20000 a1 a2 (0 : Int32) (0 : Int32) (0 : Int32) (0 : Int32) (0 : Int32) (0 : Int32))
else
  (some (-1 : Int32)))
else
  (some (-1 : Int32))
def f_X8_body_80 (v : rV)  : Nat → Int32 → Int32 → Int32 → Option (Int32)
  | 0, _, _, _ => none
  | n + 1, a1, a3, a4 => if ¬ ((252 : Int32) + a1) < 0 ∧ ((252 : Int32) + a1).toNatClampNeg < 416 then
  (if (v.1 187 (((252 : Int32) + a1).toNatClampNeg)) < a4 then
  (some a3)
else
  (if ¬ ((0 : Int32) + a4) < 0 ∧ ((0 : Int32) + a4).toNatClampNeg < 416 then
  (vlet (a3 + (v.1 187 (((0 : Int32) + a4).toNatClampNeg)) : Int32) fun x7 =>
  vlet (a4 + (1 : Int32)) fun x8 =>
  f_X8_body_80 v n a1 x7 x8)
else none))
else none
def f_X8_body (v : rV) (a1 : Int32) (a2 : Int32) : Option (Int32) := if (f_X8_in a1 (0 : Int32) ((v.1 187 288) - (1 : Int32))) = true then
  (if (f_X8_in a2 (0 : Int32) (3 : Int32)) = true then
  (if a2 = (2 : Int32) then
  (if ¬ ((240 : Int32) + a1) < 0 ∧ ((240 : Int32) + a1).toNatClampNeg < 416 then
  (vlet (v.1 187 (((240 : Int32) + a1).toNatClampNeg) : Int32) fun x4 =>
  f_X8_body_80 v 20000 a1 (0 : Int32) x4)
else none)
else
  (if a2 = 0 then
  (if ¬ ((240 : Int32) + a1) < 0 ∧ ((240 : Int32) + a1).toNatClampNeg < 416 then
  (some (v.1 187 (((240 : Int32) + a1).toNatClampNeg)))
else none)
else
  (if a2 = (1 : Int32) then
  (if ¬ ((252 : Int32) + a1) < 0 ∧ ((252 : Int32) + a1).toNatClampNeg < 416 then
  (some (v.1 187 (((252 : Int32) + a1).toNatClampNeg)))
else none)
else
  (if ¬ ((276 : Int32) + a1) < 0 ∧ ((276 : Int32) + a1).toNatClampNeg < 416 then
  (some (v.1 187 (((276 : Int32) + a1).toNatClampNeg)))
else none))))
else
  (some (-1 : Int32)))
else
  (some (-1 : Int32))
def f_X8_byteOf_45 (v : rV)  (a5 : Int32) (s0 : Int32) : Int32 := (s0 >>> (((24 : Int32) - ((8 : Int32) * (a5 - a5 / (4 : Int32) * (4 : Int32)))) &&& 31)) &&& (255 : Int32)
def f_X8_byteOf (v : rV) (a0 : Int32) (a1 : Int32) (a2 : Int32) (a3 : Int32) (a4 : Int32) (a5 : Int32) : Int32 := if (4 : Int32) ≤ a5 then
  (if (8 : Int32) ≤ a5 then
  (if (12 : Int32) ≤ a5 then
  (if (16 : Int32) ≤ a5 then
  (f_X8_byteOf_45 v a5 a4)
else
  (f_X8_byteOf_45 v a5 a3))
else
  (f_X8_byteOf_45 v a5 a2))
else
  (f_X8_byteOf_45 v a5 a1))
else
  (f_X8_byteOf_45 v a5 a0)
def f_X8_came (v : rV) (a1 : Int32) : Option (Int32) := if (f_X8_in a1 (1 : Int32) (if (v.1 187 289) < (120 : Int32) then (v.1 187 289) else (120 : Int32))) = true then
  (if ¬ (((296 : Int32) + a1) - (1 : Int32)) < 0 ∧ (((296 : Int32) + a1) - (1 : Int32)).toNatClampNeg < 416 then
  (some (v.1 187 ((((296 : Int32) + a1) - (1 : Int32)).toNatClampNeg)))
else none)
else
  (some (-1 : Int32))
def f_X8_isSign (a0 : Int32) : Bool := if a0 = (61 : Int32) then
  (true)
else
  (if a0 = (60 : Int32) then
  (true)
else
  (if a0 = (62 : Int32) then
  (true)
else
  (false)))
def f_X8_compare_68   (v : rV) (s0 : Int32) : Option (rV) := (f_X8_put v s0 (0 : Int32)).bind fun p4 =>
  some p4
def f_X8_compare_16   (v : rV) (s0 : Int32) : Option (rV) := if (f_X8_isSign s0) = true then
  (vlet (rI v 174 3 ((v.1 174 3) + (1 : Int32))) fun v2 =>
  (f_X8_sum 10 v2).bind fun p3 =>
  if s0 = (61 : Int32) then
  (f_X8_compare_68  p3 (6 : Int32))
else
  (if s0 = (60 : Int32) then
  (f_X8_compare_68  p3 (7 : Int32))
else
  (f_X8_compare_68  p3 (8 : Int32))))
else
  ((f_X8_bad v).bind fun p7 =>
  some p7)
def f_X8_compare (v : rV)  : Option (rV) := if (v.1 174 4) = (-1 : Int32) then
  ((f_X8_look v).bind fun p9 =>
  f_X8_compare_16  p9.2 p9.1)
else
  (f_X8_compare_16  v (-1 : Int32))
def f_X8_goOnAnd_0 (R : rV → Option rV)   : Nat → rV → Option (rV)
  | 0, _ => none
  | n + 1, v => if (v.1 174 4) = (-1 : Int32) then
  ((f_X8_look v).bind fun p1 =>
  if p1.1 = (38 : Int32) then
  (vlet (rI p1.2 174 3 ((p1.2.1 174 3) + (1 : Int32))) fun v2 =>
  (R v2).bind fun p3 =>
  (f_X8_put p3 (10 : Int32) (0 : Int32)).bind fun p4 =>
  f_X8_goOnAnd_0 R  n p4)
else
  (some p1.2))
else
  (some v)
def f_X8_goOnAnd (R : rV → Option rV) (v : rV)  : Option (rV) := f_X8_goOnAnd_0 R  20000 v
def f_X8_goOnOr_0 (R : rV → Option rV)   : Nat → rV → Option (rV)
  | 0, _ => none
  | n + 1, v => if (v.1 174 4) = (-1 : Int32) then
  ((f_X8_look v).bind fun p1 =>
  if p1.1 = (124 : Int32) then
  (vlet (rI p1.2 174 3 ((p1.2.1 174 3) + (1 : Int32))) fun v2 =>
  (R v2).bind fun p3 =>
  (f_X8_goOnAnd R p3).bind fun p4 =>
  (f_X8_put p4 (11 : Int32) (0 : Int32)).bind fun p5 =>
  f_X8_goOnOr_0 R  n p5)
else
  (some p1.2))
else
  (some v)
def f_X8_goOnOr (R : rV → Option rV) (v : rV)  : Option (rV) := f_X8_goOnOr_0 R  20000 v
def f_X8_condition (R : rV → Option rV) (v : rV)  : Option (rV) := (R v).bind fun p1 =>
  (f_X8_goOnAnd R p1).bind fun p2 =>
  (f_X8_goOnOr R p2).bind fun p3 =>
  some p3
def f_X8_unit_B (R : rV → Option rV) (v : rV)  : Option (rV) := (f_X8_look v).bind fun p1 =>
  if p1.1 = (33 : Int32) then
  ((f_X8_opens p1.2).bind fun p10 =>
  if (p10.1 174 4) = (-1 : Int32) then
  ((R p10).bind fun p11 =>
  (f_X8_put p11 (9 : Int32) (0 : Int32)).bind fun p12 =>
  vlet (rI p12 174 5 ((p12.1 174 5) - (1 : Int32))) fun v13 =>
  some v13)
else
  (some p10))
else
  (if p1.1 = (40 : Int32) then
  ((f_X8_opens p1.2).bind fun p5 =>
  if (p5.1 174 4) = (-1 : Int32) then
  ((f_X8_condition R p5).bind fun p6 =>
  (f_X8_closes p6 (41 : Int32)).bind fun p7 =>
  some p7)
else
  (some p5))
else
  ((f_X8_sum 10 p1.2).bind fun p2 =>
  if (p2.1 174 4) = (-1 : Int32) then
  ((f_X8_compare p2).bind fun p3 =>
  some p3)
else
  (some p2)))
def f_X8_unit : Nat → rV → Option rV
  | 0, _ => none
  | n + 1, v => f_X8_unit_B (f_X8_unit n) v
def f_X8_clause_250   (v : rV) (a1 : Int32) : Option (rV) := if ¬ (v.1 174 15) < 0 ∧ (v.1 174 15).toNatClampNeg < 9 then
  (if ¬ a1 < 0 ∧ a1.toNatClampNeg < 810 then
  (vlet (rI v 182 a1.toNatClampNeg (v.1 178 ((v.1 174 15).toNatClampNeg))) fun v14 =>
  vlet (v14.1 174 15 : Int32) fun x15 =>
  if ¬ x15 < 0 ∧ x15.toNatClampNeg < 9 then
  (vlet (rI v14 179 x15.toNatClampNeg ((v14.1 179 x15.toNatClampNeg) + (1 : Int32))) fun v17 =>
  some v17)
else none)
else none)
else none
def f_X8_clause_183   (v : rV) (a1 : Int32) (a2 : Int32) : Option (rV) := if ¬ a1 < 0 ∧ a1.toNatClampNeg < 810 then
  (vlet (rI v 181 a1.toNatClampNeg (v.1 180 a1.toNatClampNeg)) fun v11 =>
  if a2 = 0 then
  (f_X8_clause_250  v11 a1)
else
  (if (v11.1 174 4) = (-1 : Int32) then
  ((f_X8_look v11).bind fun p18 =>
  if p18.1 = (63 : Int32) then
  (vlet (rI p18.2 174 3 ((p18.2.1 174 3) + (1 : Int32))) fun v19 =>
  if ¬ (v19.1 174 15) < 0 ∧ (v19.1 174 15).toNatClampNeg < 9 then
  (vlet (rI v19 181 a1.toNatClampNeg (v19.1 178 ((v19.1 174 15).toNatClampNeg))) fun v21 =>
  (f_X8_sum 10 v21).bind fun p22 =>
  f_X8_clause_250  p22 a1)
else none)
else
  ((f_X8_bad p18.2).bind fun p23 =>
  some p23))
else
  (f_X8_clause_250  v11 a1)))
else none
def f_X8_clause_166   (v : rV) (a1 : Int32) (s0 : Int32) : Option (rV) := if s0 = 0 then
  (f_X8_clause_183  v a1 s0)
else
  ((f_X8_compare v).bind fun p27 =>
  (f_X8_goOnAnd (f_X8_unit 10) p27).bind fun p28 =>
  (f_X8_goOnOr (f_X8_unit 10) p28).bind fun p29 =>
  f_X8_clause_183  p29 a1 s0)
def f_X8_clause_165   (v : rV) (a1 : Int32) : Option (rV) := f_X8_clause_166  v a1 (0 : Int32)
def f_X8_clause_127   (v : rV) (a1 : Int32) (s0 : Int32) : Option (rV) := if s0 = 0 then
  ((f_X8_sum 10 v).bind fun p9 =>
  if (p9.1 174 4) = (-1 : Int32) then
  ((f_X8_look p9).bind fun p31 =>
  if (f_X8_isSign p31.1) = true then
  (f_X8_clause_166  p31.2 a1 (1 : Int32))
else
  (f_X8_clause_165  p31.2 a1))
else
  (f_X8_clause_165  p9 a1))
else
  ((f_X8_condition (f_X8_unit 10) v).bind fun p35 =>
  f_X8_clause_183  p35 a1 s0)
def f_X8_clause_122   (v : rV) (a1 : Int32) : Option (rV) := f_X8_clause_127  v a1 (1 : Int32)
def f_X8_clause_70   (v : rV) (a1 : Int32) : Option (rV) := vlet (rI v 174 3 ((v.1 174 3) + (1 : Int32))) fun v4 =>
  if (v4.1 174 4) = (-1 : Int32) then
  (if ¬ (v4.1 174 15) < 0 ∧ (v4.1 174 15).toNatClampNeg < 9 then
  (if ¬ a1 < 0 ∧ a1.toNatClampNeg < 810 then
  (vlet (rI v4 180 a1.toNatClampNeg (v4.1 178 ((v4.1 174 15).toNatClampNeg))) fun v7 =>
  (f_X8_look v7).bind fun p8 =>
  if p8.1 = (33 : Int32) then
  (f_X8_clause_122  p8.2 a1)
else
  ((f_X8_look p8.2).bind fun p37 =>
  if p37.1 = (40 : Int32) then
  (f_X8_clause_122  p37.2 a1)
else
  (f_X8_clause_127  p37.2 a1 (0 : Int32))))
else none)
else none)
else
  (some v4)
def f_X8_clause_39   (v : rV) (a1 : Int32) : Option (rV) := vlet (rI v 174 3 ((v.1 174 3) + (1 : Int32))) fun v3 =>
  if (v3.1 174 4) = (-1 : Int32) then
  ((f_X8_look v3).bind fun p41 =>
  if p41.1 = (58 : Int32) then
  (f_X8_clause_70  p41.2 a1)
else
  ((f_X8_bad p41.2).bind fun p42 =>
  f_X8_clause_70  p42 a1))
else
  (f_X8_clause_70  v3 a1)
def f_X8_clause (v : rV)  : Option (rV) := if ¬ (v.1 174 15) < 0 ∧ (v.1 174 15).toNatClampNeg < 9 then
  (vlet (((90 : Int32) * (v.1 174 15)) + (v.1 179 ((v.1 174 15).toNatClampNeg)) : Int32) fun x2 =>
  if (v.1 174 4) = (-1 : Int32) then
  ((f_X8_look v).bind fun p45 =>
  if p45.1 = (121 : Int32) then
  (f_X8_clause_39  p45.2 x2)
else
  ((f_X8_bad p45.2).bind fun p46 =>
  f_X8_clause_39  p46 x2))
else
  (f_X8_clause_39  v x2))
else none
def f_X8_copies (v : rV) (a1 : Int32) (a2 : Int32) : Option (Int32) := if ¬ (((12 : Int32) * a1) + (1 : Int32)) < 0 ∧ (((12 : Int32) * a1) + (1 : Int32)).toNatClampNeg < 156 then
  (if ((v.1 185 ((((12 : Int32) * a1) + (1 : Int32)).toNatClampNeg)) + a2) = 0 then none else
  some (((24 : Int32) + a2) / ((v.1 185 ((((12 : Int32) * a1) + (1 : Int32)).toNatClampNeg)) + a2)))
else none
def f_X8_count (v : rV) (a1 : Int32) : Int32 := if a1 = (0 : Int32) then
  (v.1 174 13)
else
  (if a1 = (1 : Int32) then
  (v.1 174 14)
else
  (if a1 = (2 : Int32) then
  (v.1 174 21)
else
  (if a1 = (3 : Int32) then
  (v.1 174 41)
else
  (if a1 = (4 : Int32) then
  (v.1 174 2)
else
  (if a1 = (5 : Int32) then
  (v.1 174 23)
else
  ((-1 : Int32)))))))
def f_X8_evenOf_8   : Nat → rV → Int32 → Int32 → Int32 → Int64 → Int32 → Int32 → Option (Int32 × rV)
  | 0, _, _, _, _, _, _, _ => none
  | n + 1, v, a1, a2, a3, a4, a6, a7 => (f_X8_copies v a2 a3).bind fun p2 =>
  if p2 ≤ a7 then
  ((f_X8_tryOut v a1 a4 a6).bind fun p3 =>
  (f_X8_even p3).bind fun p4 =>
  some (p4, p3))
else
  (if ¬ (((12 : Int32) * a2) + (1 : Int32)) < 0 ∧ (((12 : Int32) * a2) + (1 : Int32)).toNatClampNeg < 156 then
  ((f_X8_addPiece v (a7 * ((v.1 185 ((((12 : Int32) * a2) + (1 : Int32)).toNatClampNeg)) + a3)) (v.1 185 ((((12 : Int32) * a2) + (1 : Int32)).toNatClampNeg)) a2).bind fun p6 =>
  vlet (a7 + (1 : Int32)) fun x7 =>
  f_X8_evenOf_8  n p6 a1 a2 a3 a4 a6 x7)
else none)
def f_X8_evenOf (v : rV) (a1 : Int32) (a2 : Int32) (a3 : Int32) (a4 : Int64) (a6 : Int32) : Option (Int32 × rV) := vlet (rI v 174 34 (0 : Int32)) fun v1 =>
  f_X8_evenOf_8  20000 v1 a1 a2 a3 a4 a6 (0 : Int32)
def f_X8_dots_80  (q39 : rV → Int32 → Int32 → Int64 → Int32 → Int32 → Int32 → Int32 → Option (Int32 × rV)) (v : rV) (a1 : Int32) (a2 : Int32) (a3 : Int64) (a5 : Int32) (a6 : Int32) (a7 : Int32) (a8 : Int32) : Option (Int32 × rV) := vlet (a8 + (1 : Int32)) fun x7 =>
  q39 v a1 a2 a3 a5 a6 a7 x7
def f_X8_dots_72  (q39 : rV → Int32 → Int32 → Int64 → Int32 → Int32 → Int32 → Int32 → Option (Int32 × rV)) (v : rV) (a1 : Int32) (a2 : Int32) (a3 : Int64) (a5 : Int32) (a8 : Int32) (a9 : Int32) : Option (Int32 × rV) := f_X8_dots_80 q39 v a1 a2 a3 a5 a8 a9 a8
def f_X8_dots_39   : Nat → rV → Int32 → Int32 → Int64 → Int32 → Int32 → Int32 → Int32 → Option (Int32 × rV)
  | 0, _, _, _, _, _, _, _, _ => none
  | n + 1, v, a1, a2, a3, a5, a6, a7, a8 => if (9 : Int32) < a8 then
  ((f_X8_takeBack v).bind fun p5 =>
  some (a6, p5))
else
  ((f_X8_evenOf v a1 a2 a8 a3 a5).bind fun p6 =>
  if a6 = (-1 : Int32) then
  (f_X8_dots_72 (fun v a1 a2 a3 a5 a6 a7 a8 => f_X8_dots_39  n v a1 a2 a3 a5 a6 a7 a8) p6.2 a1 a2 a3 a5 a8 p6.1)
else
  (if a7 ≤ p6.1 then
  (f_X8_dots_80 (fun v a1 a2 a3 a5 a6 a7 a8 => f_X8_dots_39  n v a1 a2 a3 a5 a6 a7 a8) p6.2 a1 a2 a3 a5 a6 a7 a8)
else
  (f_X8_dots_72 (fun v a1 a2 a3 a5 a6 a7 a8 => f_X8_dots_39  n v a1 a2 a3 a5 a6 a7 a8) p6.2 a1 a2 a3 a5 a8 p6.1)))
def f_X8_dots (v : rV) (a1 : Int32) (a2 : Int32) (a3 : Int64) (a5 : Int32) : Option (Int32 × rV) := if (f_X8_isLaw v a1) = true then
  (if (f_X8_isDrop v a2) = true then
  (if (f_X8_areTicks a5) = true then
  ((f_X8_putAside v).bind fun p4 =>
  f_X8_dots_39  20000 p4 a1 a2 a3 a5 (-1 : Int32) (0 : Int32) (0 : Int32))
else
  (some ((-1 : Int32), v)))
else
  (some ((-1 : Int32), v)))
else
  (some ((-1 : Int32), v))
def f_X8_drop_24   (v : rV) (a1 : Int32) (a2 : Int32) (s0 : Int32) : Option (Int32 × rV) := vlet (rI v 174 0 s0) fun v2 =>
  if (v2.1 174 0) = (1 : Int32) then
  (some ((0 : Int32), v2))
else
  (if ¬ (((12 : Int32) * a1) + a2) < 0 ∧ (((12 : Int32) * a1) + a2).toNatClampNeg < 156 then
  (some (v2.1 185 ((((12 : Int32) * a1) + a2).toNatClampNeg), v2))
else none)
def f_X8_drop_23   (v : rV) (a1 : Int32) (a2 : Int32) : Option (Int32 × rV) := f_X8_drop_24  v a1 a2 (1 : Int32)
def f_X8_drop (v : rV) (a1 : Int32) (a2 : Int32) : Option (Int32 × rV) := if (f_X8_isDrop v a1) = true then
  (if (f_X8_in a2 (0 : Int32) (11 : Int32)) = true then
  (f_X8_drop_24  v a1 a2 (0 : Int32))
else
  (f_X8_drop_23  v a1 a2))
else
  (f_X8_drop_23  v a1 a2)
def f_X8_dropLetter (a0 : Int32) : Int32 := if a0 = (120 : Int32) then
  ((0 : Int32))
else
  (if a0 = (107 : Int32) then
  ((1 : Int32))
else
  (if a0 = (119 : Int32) then
  ((2 : Int32))
else
  (if a0 = (103 : Int32) then
  ((3 : Int32))
else
  (if a0 = (108 : Int32) then
  ((4 : Int32))
else
  (if a0 = (109 : Int32) then
  ((5 : Int32))
else
  (if a0 = (97 : Int32) then
  ((6 : Int32))
else
  (if a0 = (112 : Int32) then
  ((7 : Int32))
else
  (if a0 = (99 : Int32) then
  ((8 : Int32))
else
  (if a0 = (101 : Int32) then
  ((9 : Int32))
else
  (if a0 = (106 : Int32) then
  ((10 : Int32))
else
  (if a0 = (115 : Int32) then
  ((11 : Int32))
else
  ((-1 : Int32)))))))))))))
def f_X8_dry_62   (v : rV) (s0 : Int32) : Option (Int32 × rV) := (f_X8_takeBack v).bind fun p7 =>
  some (s0, p7)
def f_X8_dry (v : rV) (a1 : Int32) (a2 : Int32) (a3 : Int64) : Option (Int32 × rV) := if (f_X8_isLaw v a1) = true then
  (if (f_X8_isDrop v a2) = true then
  ((f_X8_putAside v).bind fun p3 =>
  (f_X8_gather p3 ((1 : Int32) <<< (a2 &&& 31))).bind fun p4 =>
  (f_X8_begin p4.2 a1 a3).bind fun p5 =>
  (f_X8_run p5 (200 : Int32)).bind fun p6 =>
  if (p6.2.1 187 288) = 0 then
  (f_X8_dry_62  p6.2 p6.1)
else
  (f_X8_dry_62  p6.2 (-1 : Int32)))
else
  (some ((-1 : Int32), v)))
else
  (some ((-1 : Int32), v))
def f_X8_end (v : rV) (a1 : Int32) : Option (Bool × rV) := if a1 < 0 then
  (some (false, v))
else
  (if a1 ≤ (v.1 174 2) then
  (vlet (rI v 174 2 a1) fun v1 =>
  some (true, v1))
else
  (some (false, v)))
def f_X8_open (v : rV) (a1 : Int32) (a2 : Int32) : Option (rV) := vlet (rI v 174 15 a1) fun v1 =>
  if a2 = 0 ∨ a2 = 1 then vlet (rI v1 174 16 a2) fun v2 =>
  vlet (rI v2 174 3 (0 : Int32)) fun v3 =>
  vlet (rI v3 174 4 (-1 : Int32)) fun v4 =>
  vlet (rI v4 174 5 (0 : Int32)) fun v5 =>
  if ¬ a1 < 0 ∧ a1.toNatClampNeg < 9 then
  (vlet (rI v5 178 a1.toNatClampNeg (0 : Int32)) fun v7 =>
  vlet (rI v7 179 a1.toNatClampNeg (0 : Int32)) fun v8 =>
  some v8)
else none
 else none
def f_X8_readLaw_44   (v : rV)  : Option (Int32 × rV) := (f_X8_atEnd v).bind fun p3 =>
  some (p3.1, p3.2)
def f_X8_readLaw_10   : Nat → rV → Option (Int32 × rV)
  | 0, _ => none
  | n + 1, v => if (v.1 174 4) = (-1 : Int32) then
  ((f_X8_look v).bind fun p4 =>
  if p4.1 = (59 : Int32) then
  (vlet (rI p4.2 174 3 ((p4.2.1 174 3) + (1 : Int32))) fun v5 =>
  (f_X8_clause v5).bind fun p6 =>
  f_X8_readLaw_10  n p6)
else
  (f_X8_readLaw_44  p4.2))
else
  (f_X8_readLaw_44  v)
def f_X8_readLaw (v : rV) (a1 : Int32) : Option (Int32 × rV) := (f_X8_open v a1 (0 : Int32)).bind fun p1 =>
  (f_X8_clause p1).bind fun p2 =>
  f_X8_readLaw_10  20000 p2
def f_X8_readWant (v : rV) (a1 : Int32) : Option (Int32 × rV) := (f_X8_open v a1 (1 : Int32)).bind fun p1 =>
  (f_X8_condition (f_X8_unit 10) p1).bind fun p2 =>
  (f_X8_atEnd p2).bind fun p3 =>
  some (p3.1, p3.2)
def f_X8_usual (a0 : Int32) : Int32 := if a0 = (1 : Int32) then
  ((8 : Int32))
else
  (if a0 = (2 : Int32) then
  ((300 : Int32))
else
  (if a0 = (8 : Int32) then
  ((5 : Int32))
else
  (if a0 = (10 : Int32) then
  ((1 : Int32))
else
  ((0 : Int32)))))
def f_X8_lowest (a0 : Int32) : Int32 := if a0 = (1 : Int32) then
  ((2 : Int32))
else
  (if a0 = (2 : Int32) then
  ((1 : Int32))
else
  (if a0 = (8 : Int32) then
  ((1 : Int32))
else
  (if a0 = (10 : Int32) then
  ((1 : Int32))
else
  ((0 : Int32)))))
def f_X8_highest (a0 : Int32) : Int32 := if a0 = 0 then
  ((23 : Int32))
else
  (if a0 = (1 : Int32) then
  ((24 : Int32))
else
  (if a0 = (2 : Int32) then
  ((999 : Int32))
else
  (if a0 = (3 : Int32) then
  ((999 : Int32))
else
  (if a0 = (4 : Int32) then
  ((999 : Int32))
else
  (if a0 = (7 : Int32) then
  ((100 : Int32))
else
  (if a0 = (10 : Int32) then
  ((9 : Int32))
else
  (if a0 = (11 : Int32) then
  ((9 : Int32))
else
  ((99 : Int32)))))))))
def f_X8_item_36   (v : rV)  : Option (rV) := (f_X8_bad v).bind fun p1 =>
  some p1
def f_X8_item_120   (v : rV) (a1 : Int32) (a2 : Int32) (a3 : Int32) : Option (rV) := if ¬ (((12 : Int32) * a1) + a2) < 0 ∧ (((12 : Int32) * a1) + a2).toNatClampNeg < 156 then
  (vlet (rI v 185 ((((12 : Int32) * a1) + a2).toNatClampNeg) a3) fun v9 =>
  some v9)
else none
def f_X8_item_19   (v : rV) (a1 : Int32) (s0 : Int32) : Option (rV) := if s0 = (-1 : Int32) then
  (f_X8_item_36  v)
else
  (if (f_X8_has (v.1 174 22) s0) = true then
  (f_X8_item_36  v)
else
  (vlet (rI v 174 22 ((v.1 174 22) ||| ((1 : Int32) <<< (s0 &&& 31)))) fun v3 =>
  vlet (rI v3 174 3 ((v3.1 174 3) + (1 : Int32))) fun v4 =>
  (f_X8_look v4).bind fun p5 =>
  if (f_X8_isDigit p5.1) = true then
  ((f_X8_plainNumber p5.2).bind fun p7 =>
  if (p7.2.1 174 4) = (-1 : Int32) then
  (if (f_X8_in p7.1 (f_X8_lowest s0) (f_X8_highest s0)) = true then
  (f_X8_item_120  p7.2 a1 s0 p7.1)
else
  (vlet (rI p7.2 174 3 ((p7.2.1 174 3) - (1 : Int32))) fun v13 =>
  (f_X8_bad v13).bind fun p14 =>
  f_X8_item_120  p14 a1 s0 p7.1))
else
  (f_X8_item_120  p7.2 a1 s0 p7.1))
else
  ((f_X8_bad p5.2).bind fun p17 =>
  some p17)))
def f_X8_item (v : rV) (a1 : Int32) : Option (rV) := if (v.1 174 4) = (-1 : Int32) then
  ((f_X8_look v).bind fun p21 =>
  f_X8_item_19  p21.2 a1 (f_X8_dropLetter p21.1))
else
  (f_X8_item_19  v a1 (-1 : Int32))
def f_X8_readDrop_84   (v : rV) (a1 : Int32) : Option (Int32 × rV) := (f_X8_atEnd v).bind fun p5 =>
  if p5.1 = (-1 : Int32) then
  (if ¬ (((12 : Int32) * a1) + (0 : Int32)) < 0 ∧ (((12 : Int32) * a1) + (0 : Int32)).toNatClampNeg < 156 then
  (if ¬ (((12 : Int32) * a1) + (1 : Int32)) < 0 ∧ (((12 : Int32) * a1) + (1 : Int32)).toNatClampNeg < 156 then
  (if ((p5.2.1 185 ((((12 : Int32) * a1) + (0 : Int32)).toNatClampNeg)) + (p5.2.1 185 ((((12 : Int32) * a1) + (1 : Int32)).toNatClampNeg))) ≤ (24 : Int32) then
  (some (p5.2.1 174 4, p5.2))
else
  (vlet (rI p5.2 174 4 (p5.2.1 174 2)) fun v8 =>
  some (v8.1 174 4, v8)))
else none)
else none)
else
  (some (p5.2.1 174 4, p5.2))
def f_X8_readDrop_49   : Nat → rV → Int32 → Option (Int32 × rV)
  | 0, _, _ => none
  | n + 1, v, a1 => if (v.1 174 4) = (-1 : Int32) then
  ((f_X8_look v).bind fun p11 =>
  if p11.1 = (44 : Int32) then
  (vlet (rI p11.2 174 3 ((p11.2.1 174 3) + (1 : Int32))) fun v12 =>
  (f_X8_item v12 a1).bind fun p13 =>
  f_X8_readDrop_49  n p13 a1)
else
  (f_X8_readDrop_84  p11.2 a1))
else
  (f_X8_readDrop_84  v a1)
def f_X8_readDrop_17   : Nat → rV → Int32 → Int32 → Option (Int32 × rV)
  | 0, _, _, _ => none
  | n + 1, v, a1, a2 => if (12 : Int32) ≤ a2 then
  ((f_X8_item v a1).bind fun p4 =>
  f_X8_readDrop_49  20000 p4 a1)
else
  (if ¬ (((12 : Int32) * a1) + a2) < 0 ∧ (((12 : Int32) * a1) + a2).toNatClampNeg < 156 then
  (vlet (rI v 185 ((((12 : Int32) * a1) + a2).toNatClampNeg) (f_X8_usual a2)) fun v18 =>
  vlet (a2 + (1 : Int32)) fun x19 =>
  f_X8_readDrop_17  n v18 a1 x19)
else none)
def f_X8_readDrop (v : rV) (a1 : Int32) : Option (Int32 × rV) := vlet (rI v 174 3 (0 : Int32)) fun v1 =>
  vlet (rI v1 174 4 (-1 : Int32)) fun v2 =>
  vlet (rI v2 174 22 (0 : Int32)) fun v3 =>
  f_X8_readDrop_17  20000 v3 a1 (0 : Int32)
def f_X8_fault (v : rV) (a1 : Int32) : Option (Int32 × rV) := if a1 = 0 then
  ((f_X8_readLaw v (8 : Int32)).bind fun p5 =>
  some (p5.1, p5.2))
else
  (if a1 = (1 : Int32) then
  ((f_X8_readWant v (8 : Int32)).bind fun p3 =>
  some (p3.1, p3.2))
else
  (if a1 = (2 : Int32) then
  ((f_X8_readDrop v (12 : Int32)).bind fun p1 =>
  some (p1.1, p1.2))
else
  (some ((-2 : Int32), v))))
def f_X8_feed_109  (q62 : rV → Int32 → Int32 → Int32 → Int32 → Int32 → Int32 → Option (Int32 × rV)) (v : rV) (a1 : Int32) (a2 : Int32) (a3 : Int32) (a4 : Int32) (a5 : Int32) (a7 : Int32) : Option (Int32 × rV) := vlet (a7 + (1 : Int32)) fun x3 =>
  q62 v a1 a2 a3 a4 a5 x3
def f_X8_feed_62   : Nat → rV → Int32 → Int32 → Int32 → Int32 → Int32 → Int32 → Option (Int32 × rV)
  | 0, _, _, _, _, _, _, _ => none
  | n + 1, v, a1, a2, a3, a4, a5, a7 => if (20 : Int32) ≤ a7 then
  (some (v.1 174 2, v))
else
  (vlet (f_X8_byteOf v a1 a2 a3 a4 a5 a7 : Int32) fun x2 =>
  if x2 = 0 then
  (f_X8_feed_109 (fun v a1 a2 a3 a4 a5 a7 => f_X8_feed_62  n v a1 a2 a3 a4 a5 a7) v a1 a2 a3 a4 a5 a7)
else
  (if ¬ (v.1 174 2) < 0 ∧ (v.1 174 2).toNatClampNeg < 160 then
  (vlet (rI v 175 ((v.1 174 2).toNatClampNeg) x2) fun v5 =>
  vlet (rI v5 174 2 ((v5.1 174 2) + (1 : Int32))) fun v6 =>
  f_X8_feed_109 (fun v a1 a2 a3 a4 a5 a7 => f_X8_feed_62  n v a1 a2 a3 a4 a5 a7) v6 a1 a2 a3 a4 a5 a7)
else none))
def f_X8_feed_35  (q6 : rV → Int32 → Int32 → Int32 → Int32 → Int32 → Int32 → Int32 → Option (Int32 × rV)) (v : rV) (a1 : Int32) (a2 : Int32) (a3 : Int32) (a4 : Int32) (a5 : Int32) (a7 : Int32) (s0 : Int32) (s1 : Int32) : Option (Int32 × rV) := vlet (s1 + s0 : Int32) fun x11 =>
  vlet (a7 + (1 : Int32)) fun x12 =>
  q6 v a1 a2 a3 a4 a5 x11 x12
def f_X8_feed_6   : Nat → rV → Int32 → Int32 → Int32 → Int32 → Int32 → Int32 → Int32 → Option (Int32 × rV)
  | 0, _, _, _, _, _, _, _, _ => none
  | n + 1, v, a1, a2, a3, a4, a5, a6, a7 => if (20 : Int32) ≤ a7 then
  (if ((v.1 174 2) + a6) ≤ (160 : Int32) then
  (f_X8_feed_62  20000 v a1 a2 a3 a4 a5 (0 : Int32))
else
  (some ((-1 : Int32), v)))
else
  (if (f_X8_byteOf v a1 a2 a3 a4 a5 a7) = 0 then
  (f_X8_feed_35 (fun v a1 a2 a3 a4 a5 a6 a7 => f_X8_feed_6  n v a1 a2 a3 a4 a5 a6 a7) v a1 a2 a3 a4 a5 a7 (0 : Int32) a6)
else
  (f_X8_feed_35 (fun v a1 a2 a3 a4 a5 a6 a7 => f_X8_feed_6  n v a1 a2 a3 a4 a5 a6 a7) v a1 a2 a3 a4 a5 a7 (1 : Int32) a6))
def f_X8_feed (v : rV) (a1 : Int32) (a2 : Int32) (a3 : Int32) (a4 : Int32) (a5 : Int32) : Option (Int32 × rV) := f_X8_feed_6  20000 v a1 a2 a3 a4 a5 (0 : Int32) (0 : Int32)
def f_X8_flow (v : rV) (a1 : Int32) : Option (Int32) := if (f_X8_isCell a1) = true then
  (if ¬ ((168 : Int32) + a1) < 0 ∧ ((168 : Int32) + a1).toNatClampNeg < 416 then
  (some (v.1 187 (((168 : Int32) + a1).toNatClampNeg)))
else none)
else
  (some (-100000 : Int32))
def f_X8_free (v : rV) (a1 : Int32) (a2 : Int32) : Option (Int32) := if (f_X8_isCell a1) = true then
  (if (f_X8_in a2 (0 : Int32) (1 : Int32)) = true then
  (if ¬ (((24 : Int32) + ((24 : Int32) * a2)) + a1) < 0 ∧ (((24 : Int32) + ((24 : Int32) * a2)) + a1).toNatClampNeg < 416 then
  (some (v.1 187 ((((24 : Int32) + ((24 : Int32) * a2)) + a1).toNatClampNeg)))
else none)
else
  (some (-1 : Int32)))
else
  (some (-1 : Int32))
def f_X8_grain (v : rV) (a1 : Int32) (a2 : Int32) (a3 : Int32) : Option (Bool × rV) := if (f_X8_isStain v a1) = true then
  (if (f_X8_isCell a2) = true then
  (if (f_X8_in a3 (0 : Int32) (9999 : Int32)) = true then
  (if ¬ (((24 : Int32) * a1) + a2) < 0 ∧ (((24 : Int32) * a1) + a2).toNatClampNeg < 144 then
  (vlet (rI v 195 ((((24 : Int32) * a1) + a2).toNatClampNeg) a3) fun v5 =>
  some (true, v5))
else none)
else
  (some (false, v)))
else
  (some (false, v)))
else
  (some (false, v))
def f_X8_heap (v : rV) (a1 : Int32) (a2 : Int32) : Option (Int32) := if (f_X8_isCell a1) = true then
  (if (f_X8_in a2 (0 : Int32) (1 : Int32)) = true then
  (if a2 = 0 then
  (if ¬ ((120 : Int32) + a1) < 0 ∧ ((120 : Int32) + a1).toNatClampNeg < 416 then
  (some (v.1 187 (((120 : Int32) + a1).toNatClampNeg)))
else none)
else
  (if ¬ ((144 : Int32) + a1) < 0 ∧ ((144 : Int32) + a1).toNatClampNeg < 416 then
  (some (v.1 187 (((144 : Int32) + a1).toNatClampNeg)))
else none))
else
  (some (-1 : Int32)))
else
  (some (-1 : Int32))
def f_X8_image_2   : Nat → rV → Int32 → Option (Int32 × rV)
  | 0, _, _ => none
  | n + 1, v, a1 => if (416 : Int32) ≤ a1 then
  (vlet (rL v 174 29 (v.2.1 174 27)) fun v1 =>
  vlet (rI v1 174 30 (1 : Int32)) fun v2 =>
  some (v2.1 187 289, v2))
else
  (if ¬ a1 < 0 ∧ a1.toNatClampNeg < 416 then
  (vlet (rI v 189 a1.toNatClampNeg (v.1 187 a1.toNatClampNeg)) fun v4 =>
  vlet (a1 + (1 : Int32)) fun x5 =>
  f_X8_image_2  n v4 x5)
else none)
def f_X8_image (v : rV)  : Option (Int32 × rV) := f_X8_image_2  20000 v (0 : Int32)
def f_X8_isLetter (a0 : Int32) : Bool := if (f_X8_in a0 (3 : Int32) (9 : Int32)) = true then
  (if a0 = (8 : Int32) then
  (false)
else
  (true))
else
  (false)
def f_X8_isMet_2   : Nat → rV → Int32 → Int32 → Option (Bool × rV)
  | 0, _, _, _ => none
  | n + 1, v, a1, a2 => if (6 : Int32) ≤ a2 then
  (vlet ((4 : Int32) + a1 : Int32) fun x1 =>
  if ¬ x1 < 0 ∧ x1.toNatClampNeg < 9 then
  ((f_X8_workOut v x1 (0 : Int32) (v.1 178 x1.toNatClampNeg)).bind fun p3 =>
  if p3.1 = 0 then
  (some (false, p3.2))
else
  (some (true, p3.2)))
else none)
else
  ((f_X8_about v a2).bind fun p5 =>
  if ¬ a2 < 0 ∧ a2.toNatClampNeg < 7 then
  (vlet (rI v 183 a2.toNatClampNeg p5) fun v7 =>
  vlet (a2 + (1 : Int32)) fun x8 =>
  f_X8_isMet_2  n v7 a1 x8)
else none)
def f_X8_isMet (v : rV) (a1 : Int32) : Option (Bool × rV) := f_X8_isMet_2  20000 v a1 (0 : Int32)
def f_X8_isRead_2 (v : rV)  : Nat → Int32 → Int32 → Int32 → Option (Bool)
  | 0, _, _, _ => none
  | n + 1, a1, a2, a3 => if (24 : Int32) ≤ a3 then
  (some true)
else
  ((f_X8_laidIn v a3).bind fun p1 =>
  if ¬ (((24 : Int32) * a1) + a3) < 0 ∧ (((24 : Int32) * a1) + a3).toNatClampNeg < 144 then
  (if (if 0 ≤ (p1 - (v.1 195 ((((24 : Int32) * a1) + a3).toNatClampNeg))) then (p1 - (v.1 195 ((((24 : Int32) * a1) + a3).toNatClampNeg))) else 0 - (p1 - (v.1 195 ((((24 : Int32) * a1) + a3).toNatClampNeg)))) ≤ a2 then
  (vlet (a3 + (1 : Int32)) fun x3 =>
  f_X8_isRead_2 v n a1 a2 x3)
else
  (some false))
else none)
def f_X8_isRead (v : rV) (a1 : Int32) (a2 : Int32) : Option (Bool) := f_X8_isRead_2 v 20000 a1 a2 (0 : Int32)
def f_X8_join_28   : Nat → rV → Int32 → Int32 → Int32 → Int32 → Option (Int32 × rV)
  | 0, _, _, _, _, _ => none
  | n + 1, v, a1, a2, a3, a4 => if (24 : Int32) ≤ a4 then
  (some (a3, v))
else
  (vlet (((24 : Int32) * a1) + a4 : Int32) fun x3 =>
  if ¬ x3 < 0 ∧ x3.toNatClampNeg < 144 then
  (if ¬ (((24 : Int32) * a2) + a4) < 0 ∧ (((24 : Int32) * a2) + a4).toNatClampNeg < 144 then
  (vlet (rI v 195 x3.toNatClampNeg (if ((v.1 195 x3.toNatClampNeg) + (v.1 195 ((((24 : Int32) * a2) + a4).toNatClampNeg))) < (9999 : Int32) then ((v.1 195 x3.toNatClampNeg) + (v.1 195 ((((24 : Int32) * a2) + a4).toNatClampNeg))) else (9999 : Int32))) fun v6 =>
  vlet (a3 + (v6.1 195 x3.toNatClampNeg) : Int32) fun x7 =>
  vlet (a4 + (1 : Int32)) fun x8 =>
  f_X8_join_28  n v6 a1 a2 x7 x8)
else none)
else none)
def f_X8_join (v : rV) (a1 : Int32) (a2 : Int32) : Option (Int32 × rV) := if (f_X8_isStain v a1) = true then
  (if (f_X8_isStain v a2) = true then
  (if a1 = a2 then
  (some ((-1 : Int32), v))
else
  (f_X8_join_28  20000 v a1 a2 (0 : Int32) (0 : Int32)))
else
  (some ((-1 : Int32), v)))
else
  (some ((-1 : Int32), v))
def f_X8_least_146   (v : rV) (a2 : Int32) (a3 : Int32) (a8 : Int32) (a9 : Int32) : Option (Int32 × rV) := if ¬ (((12 : Int32) * a2) + a3) < 0 ∧ (((12 : Int32) * a2) + a3).toNatClampNeg < 156 then
  (vlet (rI v 185 ((((12 : Int32) * a2) + a3).toNatClampNeg) a8) fun v10 =>
  (f_X8_takeBack v10).bind fun p11 =>
  some (a9, p11))
else none
def f_X8_least_138  (q80 : rV → Int32 → Int32 → Int32 → Int32 → Int64 → Int32 → Int32 → Int32 → Int32 → Option (Int32 × rV)) (v : rV) (a1 : Int32) (a2 : Int32) (a3 : Int32) (a4 : Int32) (a5 : Int64) (a7 : Int32) (a8 : Int32) (a10 : Int32) (s0 : Int32) : Option (Int32 × rV) := vlet (a10 + (1 : Int32)) fun x17 =>
  q80 v a1 a2 a3 a4 a5 a7 a8 s0 x17
def f_X8_least_80   : Nat → rV → Int32 → Int32 → Int32 → Int32 → Int64 → Int32 → Int32 → Int32 → Int32 → Option (Int32 × rV)
  | 0, _, _, _, _, _, _, _, _, _, _ => none
  | n + 1, v, a1, a2, a3, a4, a5, a7, a8, a9, a10 => if (60 : Int32) < a10 then
  (f_X8_least_146  v a2 a3 a8 a9)
else
  (if a9 = (-1 : Int32) then
  (if ¬ (((12 : Int32) * a2) + a3) < 0 ∧ (((12 : Int32) * a2) + a3).toNatClampNeg < 156 then
  (vlet (rI v 185 ((((12 : Int32) * a2) + a3).toNatClampNeg) a10) fun v13 =>
  (f_X8_gather v13 ((1 : Int32) <<< (a2 &&& 31))).bind fun p14 =>
  (f_X8_tryOut p14.2 a1 a5 a7).bind fun p15 =>
  (f_X8_isMet p15 a4).bind fun p16 =>
  if p16.1 = true then
  (f_X8_least_138 (fun v a1 a2 a3 a4 a5 a7 a8 a9 a10 => f_X8_least_80  n v a1 a2 a3 a4 a5 a7 a8 a9 a10) p16.2 a1 a2 a3 a4 a5 a7 a8 a10 a10)
else
  (f_X8_least_138 (fun v a1 a2 a3 a4 a5 a7 a8 a9 a10 => f_X8_least_80  n v a1 a2 a3 a4 a5 a7 a8 a9 a10) p16.2 a1 a2 a3 a4 a5 a7 a8 a10 (-1 : Int32)))
else none)
else
  (f_X8_least_146  v a2 a3 a8 a9))
def f_X8_least (v : rV) (a1 : Int32) (a2 : Int32) (a3 : Int32) (a4 : Int32) (a5 : Int64) (a7 : Int32) : Option (Int32 × rV) := if (f_X8_isLaw v a1) = true then
  (if (f_X8_isDrop v a2) = true then
  (if (f_X8_in a3 (3 : Int32) (9 : Int32)) = true then
  (if a3 = (8 : Int32) then
  (some ((-1 : Int32), v))
else
  (if (f_X8_in a4 (0 : Int32) ((v.1 174 14) - (1 : Int32))) = true then
  (if (f_X8_areTicks a7) = true then
  (if ¬ (((12 : Int32) * a2) + a3) < 0 ∧ (((12 : Int32) * a2) + a3).toNatClampNeg < 156 then
  (vlet (v.1 185 ((((12 : Int32) * a2) + a3).toNatClampNeg) : Int32) fun x7 =>
  (f_X8_putAside v).bind fun p8 =>
  f_X8_least_80  20000 p8 a1 a2 a3 a4 a5 a7 x7 (-1 : Int32) (0 : Int32))
else none)
else
  (some ((-1 : Int32), v)))
else
  (some ((-1 : Int32), v))))
else
  (some ((-1 : Int32), v)))
else
  (some ((-1 : Int32), v)))
else
  (some ((-1 : Int32), v))
def f_X8_lies (v : rV) (a1 : Int32) (a2 : Int32) : Option (Int32) := if (f_X8_isCell a1) = true then
  (if (f_X8_in a2 (0 : Int32) (1 : Int32)) = true then
  (if ¬ (((72 : Int32) + ((24 : Int32) * a2)) + a1) < 0 ∧ (((72 : Int32) + ((24 : Int32) * a2)) + a1).toNatClampNeg < 416 then
  (some (v.1 187 ((((72 : Int32) + ((24 : Int32) * a2)) + a1).toNatClampNeg)))
else none)
else
  (some (-1 : Int32)))
else
  (some (-1 : Int32))
def f_X8_line_172  (q106 : rV → Int32 → Int32 → Int32 → Int32 → Int32 → Int32 → Int64 → Int32 → Int32 → Int32 → Int32 → Int32 → Option (Int32 × rV)) (v : rV) (a1 : Int32) (a2 : Int32) (a3 : Int32) (a4 : Int32) (a5 : Int32) (a6 : Int32) (a7 : Int64) (a9 : Int32) (a10 : Int32) (a12 : Int32) (a13 : Int32) (s0 : Int32) (s1 : Int32) : Option (Int32 × rV) := vlet (s1 ||| s0 : Int32) fun x16 =>
  vlet (a13 + (10 : Int32)) fun x17 =>
  q106 v a1 a2 a3 a4 a5 a6 a7 a9 a10 x16 a12 x17
def f_X8_line_121  (q106 : rV → Int32 → Int32 → Int32 → Int32 → Int32 → Int32 → Int64 → Int32 → Int32 → Int32 → Int32 → Int32 → Option (Int32 × rV)) (v : rV) (a1 : Int32) (a2 : Int32) (a3 : Int32) (a4 : Int32) (a5 : Int32) (a6 : Int32) (a7 : Int64) (a9 : Int32) (a10 : Int32) (a11 : Int32) (a12 : Int32) (a13 : Int32) (s0 : Int32) (s1 : Int32) : Option (Int32 × rV) := if s0 < s1 then
  (if ¬ (((12 : Int32) * a2) + a3) < 0 ∧ (((12 : Int32) * a2) + a3).toNatClampNeg < 156 then
  (vlet (rI v 185 ((((12 : Int32) * a2) + a3).toNatClampNeg) a10) fun v11 =>
  if a5 = (-1 : Int32) then
  (some (a11, v11))
else
  (some (a12, v11)))
else none)
else
  (if ¬ (((12 : Int32) * a2) + a3) < 0 ∧ (((12 : Int32) * a2) + a3).toNatClampNeg < 156 then
  (vlet (rI v 185 ((((12 : Int32) * a2) + a3).toNatClampNeg) a13) fun v14 =>
  (f_X8_least v14 a1 a2 a4 a6 a7 a9).bind fun p15 =>
  if p15.1 = (-1 : Int32) then
  (f_X8_line_172 q106 p15.2 a1 a2 a3 a4 a5 a6 a7 a9 a10 p15.1 a13 (0 : Int32) a11)
else
  (f_X8_line_172 q106 p15.2 a1 a2 a3 a4 a5 a6 a7 a9 a10 p15.1 a13 ((1 : Int32) <<< ((a13 / (10 : Int32)) &&& 31)) a11))
else none)
def f_X8_line_106   : Nat → rV → Int32 → Int32 → Int32 → Int32 → Int32 → Int32 → Int64 → Int32 → Int32 → Int32 → Int32 → Int32 → Option (Int32 × rV)
  | 0, _, _, _, _, _, _, _, _, _, _, _, _, _ => none
  | n + 1, v, a1, a2, a3, a4, a5, a6, a7, a9, a10, a11, a12, a13 => if a5 = (-1 : Int32) then
  (f_X8_line_121 (fun v a1 a2 a3 a4 a5 a6 a7 a9 a10 a11 a12 a13 => f_X8_line_106  n v a1 a2 a3 a4 a5 a6 a7 a9 a10 a11 a12 a13) v a1 a2 a3 a4 a5 a6 a7 a9 a10 a11 a12 a13 (60 : Int32) a13)
else
  (f_X8_line_121 (fun v a1 a2 a3 a4 a5 a6 a7 a9 a10 a11 a12 a13 => f_X8_line_106  n v a1 a2 a3 a4 a5 a6 a7 a9 a10 a11 a12 a13) v a1 a2 a3 a4 a5 a6 a7 a9 a10 a11 a12 a13 a5 a13)
def f_X8_line_104   (v : rV) (a1 : Int32) (a2 : Int32) (a3 : Int32) (a4 : Int32) (a5 : Int32) (a6 : Int32) (a7 : Int64) (a9 : Int32) (a10 : Int32) (a11 : Int32) (a12 : Int32) (s0 : Int32) : Option (Int32 × rV) := f_X8_line_106  20000 v a1 a2 a3 a4 a5 a6 a7 a9 a10 a11 a12 s0
def f_X8_line (v : rV) (a1 : Int32) (a2 : Int32) (a3 : Int32) (a4 : Int32) (a5 : Int32) (a6 : Int32) (a7 : Int64) (a9 : Int32) : Option (Int32 × rV) := if (f_X8_isDrop v a2) = true then
  (if (f_X8_isLetter a3) = true then
  (if (f_X8_isLetter a4) = true then
  (if a3 = a4 then
  (some ((-1 : Int32), v))
else
  (if (f_X8_in a5 (-1 : Int32) (60 : Int32)) = true then
  (if (f_X8_isLaw v a1) = true then
  (if (f_X8_in a6 (0 : Int32) ((v.1 174 14) - (1 : Int32))) = true then
  (if (f_X8_areTicks a9) = true then
  (if ¬ (((12 : Int32) * a2) + a3) < 0 ∧ (((12 : Int32) * a2) + a3).toNatClampNeg < 156 then
  (vlet (v.1 185 ((((12 : Int32) * a2) + a3).toNatClampNeg) : Int32) fun x9 =>
  if a5 = (-1 : Int32) then
  (f_X8_line_104  v a1 a2 a3 a4 a5 a6 a7 a9 x9 (0 : Int32) (-1 : Int32) (0 : Int32))
else
  (f_X8_line_104  v a1 a2 a3 a4 a5 a6 a7 a9 x9 (0 : Int32) (-1 : Int32) a5))
else none)
else
  (some ((-1 : Int32), v)))
else
  (some ((-1 : Int32), v)))
else
  (some ((-1 : Int32), v)))
else
  (some ((-1 : Int32), v))))
else
  (some ((-1 : Int32), v)))
else
  (some ((-1 : Int32), v)))
else
  (some ((-1 : Int32), v))
def f_X8_luck_104  (q61 : rV → Int32 → Int32 → Int32 → Int64 → Int32 → Int32 → Int32 → Int32 → Option (Int32 × rV)) (v : rV) (a1 : Int32) (a2 : Int32) (a3 : Int32) (a4 : Int64) (a6 : Int32) (a7 : Int32) (a9 : Int32) (s0 : Int32) (s1 : Int32) : Option (Int32 × rV) := vlet (s1 + s0 : Int32) fun x11 =>
  vlet (a9 + (1 : Int32)) fun x12 =>
  q61 v a1 a2 a3 a4 a6 a7 x11 x12
def f_X8_luck_61   : Nat → rV → Int32 → Int32 → Int32 → Int64 → Int32 → Int32 → Int32 → Int32 → Option (Int32 × rV)
  | 0, _, _, _, _, _, _, _, _, _ => none
  | n + 1, v, a1, a2, a3, a4, a6, a7, a8, a9 => if a6 ≤ a9 then
  ((f_X8_takeBack v).bind fun p7 =>
  some (a8, p7))
else
  ((f_X8_gather v ((1 : Int32) <<< (a2 &&& 31))).bind fun p8 =>
  (f_X8_tryOut p8.2 a1 (a4 + a9.toInt64) a7).bind fun p9 =>
  (f_X8_isMet p9 a3).bind fun p10 =>
  if p10.1 = true then
  (f_X8_luck_104 (fun v a1 a2 a3 a4 a6 a7 a8 a9 => f_X8_luck_61  n v a1 a2 a3 a4 a6 a7 a8 a9) p10.2 a1 a2 a3 a4 a6 a7 a9 (1 : Int32) a8)
else
  (f_X8_luck_104 (fun v a1 a2 a3 a4 a6 a7 a8 a9 => f_X8_luck_61  n v a1 a2 a3 a4 a6 a7 a8 a9) p10.2 a1 a2 a3 a4 a6 a7 a9 (0 : Int32) a8))
def f_X8_luck (v : rV) (a1 : Int32) (a2 : Int32) (a3 : Int32) (a4 : Int64) (a6 : Int32) (a7 : Int32) : Option (Int32 × rV) := if (f_X8_isLaw v a1) = true then
  (if (f_X8_isDrop v a2) = true then
  (if (f_X8_in a3 (0 : Int32) ((v.1 174 14) - (1 : Int32))) = true then
  (if (f_X8_in a6 (1 : Int32) (20 : Int32)) = true then
  (if (f_X8_areTicks a7) = true then
  ((f_X8_putAside v).bind fun p6 =>
  f_X8_luck_61  20000 p6 a1 a2 a3 a4 a6 a7 (0 : Int32) (0 : Int32))
else
  (some ((-1 : Int32), v)))
else
  (some ((-1 : Int32), v)))
else
  (some ((-1 : Int32), v)))
else
  (some ((-1 : Int32), v)))
else
  (some ((-1 : Int32), v))
def f_X8_met (v : rV) (a1 : Int32) : Option (Int32 × rV) := if (f_X8_in a1 (0 : Int32) ((v.1 174 14) - (1 : Int32))) = true then
  ((f_X8_isMet v a1).bind fun p2 =>
  if p2.1 = true then
  (some ((1 : Int32), p2.2))
else
  (some ((0 : Int32), p2.2)))
else
  (some ((-1 : Int32), v))
def f_X8_middle_65 (v : rV)  : Nat → Int32 → Int32 → Int32 → Int32 → Int32 → Option (Int32)
  | 0, _, _, _, _, _ => none
  | n + 1, a1, a2, a3, a4, a5 => if (24 : Int32) ≤ a5 then
  (if a1 = 0 then
  (if a2 = 0 then none else
  some (a3 / a2))
else
  (some a4))
else
  ((f_X8_laidIn v a5).bind fun p4 =>
  if a2 = 0 then none else
  vlet (a4 + (p4 * (if 0 ≤ (a5 - ((a3 / a2) / (10 : Int32))) then (a5 - ((a3 / a2) / (10 : Int32))) else 0 - (a5 - ((a3 / a2) / (10 : Int32))))) : Int32) fun x5 =>
  vlet (a5 + (1 : Int32)) fun x6 =>
  f_X8_middle_65 v n a1 a2 a3 x5 x6)
def f_X8_middle_7 (v : rV)  : Nat → Int32 → Int32 → Int32 → Int32 → Option (Int32)
  | 0, _, _, _, _ => none
  | n + 1, a1, a2, a3, a4 => if (24 : Int32) ≤ a4 then
  (if a2 = 0 then
  (some (-1 : Int32))
else
  (if (f_X8_in a1 (0 : Int32) (1 : Int32)) = true then
  (f_X8_middle_65 v 20000 a1 a2 a3 (0 : Int32) (0 : Int32))
else
  (some (-1 : Int32))))
else
  ((f_X8_laidIn v a4).bind fun p11 =>
  vlet (a2 + p11 : Int32) fun x12 =>
  (f_X8_laidIn v a4).bind fun p13 =>
  vlet (a3 + (((10 : Int32) * a4) * p13) : Int32) fun x14 =>
  vlet (a4 + (1 : Int32)) fun x15 =>
  f_X8_middle_7 v n a1 x12 x14 x15)
def f_X8_middle (v : rV) (a1 : Int32) : Option (Int32) := f_X8_middle_7 v 20000 a1 (0 : Int32) (0 : Int32) (0 : Int32)
def f_X8_nearestTick_105  (q21 : rV → Int32 → Int32 → Int32 → Option (Int32 × rV)) (v : rV) (a1 : Int32) (a6 : Int32) (a7 : Int32) : Option (Int32 × rV) := vlet (a7 + (1 : Int32)) fun x5 =>
  q21 v a1 a6 x5
def f_X8_nearestTick_95  (q21 : rV → Int32 → Int32 → Int32 → Option (Int32 × rV)) (v : rV) (a1 : Int32) (a7 : Int32) (a8 : Int32) : Option (Int32 × rV) := vlet (rI v 174 43 a8) fun v4 =>
  f_X8_nearestTick_105 q21 v4 a1 a7 a7
def f_X8_nearestTick_40  (q21 : rV → Int32 → Int32 → Int32 → Option (Int32 × rV)) : Nat → rV → Int32 → Int32 → Int32 → Int32 → Int32 → Option (Int32 × rV)
  | 0, _, _, _, _, _, _ => none
  | n + 1, v, a1, a6, a7, a8, a9 => if (24 : Int32) ≤ a9 then
  (if a6 = (-1 : Int32) then
  (f_X8_nearestTick_95 q21 v a1 a7 a8)
else
  (if (v.1 174 43) ≤ a8 then
  (f_X8_nearestTick_105 q21 v a1 a6 a7)
else
  (f_X8_nearestTick_95 q21 v a1 a7 a8)))
else
  ((f_X8_laidIn v a9).bind fun p8 =>
  if ¬ (((24 : Int32) * a1) + a9) < 0 ∧ (((24 : Int32) * a1) + a9).toNatClampNeg < 144 then
  (vlet (a8 + (if 0 ≤ (p8 - (v.1 195 ((((24 : Int32) * a1) + a9).toNatClampNeg))) then (p8 - (v.1 195 ((((24 : Int32) * a1) + a9).toNatClampNeg))) else 0 - (p8 - (v.1 195 ((((24 : Int32) * a1) + a9).toNatClampNeg)))) : Int32) fun x10 =>
  vlet (a9 + (1 : Int32)) fun x11 =>
  f_X8_nearestTick_40 q21 n v a1 a6 a7 x10 x11)
else none)
def f_X8_nearestTick_21   : Nat → rV → Int32 → Int32 → Int32 → Option (Int32 × rV)
  | 0, _, _, _, _ => none
  | n + 1, v, a1, a6, a7 => if (60 : Int32) < a7 then
  (some (a6, v))
else
  ((f_X8_run v (1 : Int32)).bind fun p3 =>
  f_X8_nearestTick_40 (fun v a1 a6 a7 => f_X8_nearestTick_21  n v a1 a6 a7) 20000 p3.2 a1 a6 a7 (0 : Int32) (0 : Int32))
def f_X8_nearestTick (v : rV) (a1 : Int32) (a2 : Int32) (a3 : Int32) (a4 : Int64) : Option (Int32 × rV) := (f_X8_gather v ((1 : Int32) <<< (a3 &&& 31))).bind fun p1 =>
  (f_X8_begin p1.2 a2 a4).bind fun p2 =>
  f_X8_nearestTick_21  20000 p2 a1 (-1 : Int32) (1 : Int32)
def f_X8_partsOf_61   : Nat → rV → Int32 → Int32 → Option (Int32 × rV)
  | 0, _, _, _ => none
  | n + 1, v, a7, a8 => if (24 : Int32) ≤ a8 then
  (some (a7, v))
else
  (if ¬ a8 < 0 ∧ a8.toNatClampNeg < 24 then
  ((f_X8_laidIn v a8).bind fun p5 =>
  vlet (a7 + (if 0 ≤ ((v.1 196 a8.toNatClampNeg) - p5) then ((v.1 196 a8.toNatClampNeg) - p5) else 0 - ((v.1 196 a8.toNatClampNeg) - p5)) : Int32) fun x6 =>
  vlet (a8 + (1 : Int32)) fun x7 =>
  f_X8_partsOf_61  n v x6 x7)
else none)
def f_X8_partsOf_20   : Nat → rV → Int32 → Int64 → Int32 → Int32 → Option (Int32 × rV)
  | 0, _, _, _, _, _ => none
  | n + 1, v, a2, a4, a6, a7 => if (24 : Int32) ≤ a7 then
  ((f_X8_tryOut v a2 a4 a6).bind fun p3 =>
  f_X8_partsOf_61  20000 p3 (0 : Int32) (0 : Int32))
else
  ((f_X8_laidIn v a7).bind fun p9 =>
  if ¬ a7 < 0 ∧ a7.toNatClampNeg < 24 then
  (vlet (rI v 196 a7.toNatClampNeg p9) fun v11 =>
  vlet (a7 + (1 : Int32)) fun x12 =>
  f_X8_partsOf_20  n v11 a2 a4 a6 x12)
else none)
def f_X8_partsOf (v : rV) (a1 : Int32) (a2 : Int32) (a3 : Int32) (a4 : Int64) (a6 : Int32) : Option (Int32 × rV) := (f_X8_gather v ((1 : Int32) <<< (a3 &&& 31))).bind fun p1 =>
  (f_X8_tryOut p1.2 a1 a4 a6).bind fun p2 =>
  f_X8_partsOf_20  20000 p2 a2 a4 a6 (0 : Int32)
def f_X8_next_97  (q47 : rV → Int32 → Int32 → Int32 → Int64 → Int32 → Int32 → Int32 → Int32 → Option (Int32 × rV)) (v : rV) (a1 : Int32) (a2 : Int32) (a3 : Int32) (a4 : Int64) (a6 : Int32) (a8 : Int32) (a9 : Int32) (a10 : Int32) (s0 : Int32) : Option (Int32 × rV) := vlet (if a8 < a10 then a10 else a8 : Int32) fun x8 =>
  vlet (a9 + (1 : Int32)) fun x9 =>
  q47 v a1 a2 a3 a4 a6 s0 x8 x9
def f_X8_next_81  (q47 : rV → Int32 → Int32 → Int32 → Int64 → Int32 → Int32 → Int32 → Int32 → Option (Int32 × rV)) (v : rV) (a1 : Int32) (a2 : Int32) (a3 : Int32) (a4 : Int64) (a6 : Int32) (a7 : Int32) (a8 : Int32) (a9 : Int32) (s0 : Int32) : Option (Int32 × rV) := if s0 ≤ a8 then
  (f_X8_next_97 q47 v a1 a2 a3 a4 a6 a8 a9 s0 a7)
else
  (f_X8_next_97 q47 v a1 a2 a3 a4 a6 a8 a9 s0 a9)
def f_X8_next_47   : Nat → rV → Int32 → Int32 → Int32 → Int64 → Int32 → Int32 → Int32 → Int32 → Option (Int32 × rV)
  | 0, _, _, _, _, _, _, _, _, _ => none
  | n + 1, v, a1, a2, a3, a4, a6, a7, a8, a9 => if (v.1 174 21) ≤ a9 then
  ((f_X8_takeBack v).bind fun p6 =>
  some (a7, p6))
else
  (if (f_X8_has a3 a9) = true then
  ((f_X8_partsOf v a1 a2 a9 a4 a6).bind fun p11 =>
  f_X8_next_81 (fun v a1 a2 a3 a4 a6 a7 a8 a9 => f_X8_next_47  n v a1 a2 a3 a4 a6 a7 a8 a9) p11.2 a1 a2 a3 a4 a6 a7 a8 a9 p11.1)
else
  (f_X8_next_81 (fun v a1 a2 a3 a4 a6 a7 a8 a9 => f_X8_next_47  n v a1 a2 a3 a4 a6 a7 a8 a9) v a1 a2 a3 a4 a6 a7 a8 a9 (-1 : Int32)))
def f_X8_next (v : rV) (a1 : Int32) (a2 : Int32) (a3 : Int32) (a4 : Int64) (a6 : Int32) : Option (Int32 × rV) := if (f_X8_isLaw v a1) = true then
  (if (f_X8_isLaw v a2) = true then
  (if (f_X8_areDrops v a3) = true then
  (if (f_X8_areTicks a6) = true then
  ((f_X8_putAside v).bind fun p5 =>
  f_X8_next_47  20000 p5 a1 a2 a3 a4 a6 (-1 : Int32) (-1 : Int32) (0 : Int32))
else
  (some ((-1 : Int32), v)))
else
  (some ((-1 : Int32), v)))
else
  (some ((-1 : Int32), v)))
else
  (some ((-1 : Int32), v))
def f_X8_read_118  (q59 : rV → Int32 → Int32 → Int32 → Int64 → Int32 → Int32 → Int32 → Int32 → Option (Int32 × rV)) (v : rV) (a1 : Int32) (a2 : Int32) (a3 : Int32) (a4 : Int64) (a6 : Int32) (a7 : Int32) (a8 : Int32) (a9 : Int32) : Option (Int32 × rV) := vlet (a9 + (1 : Int32)) fun x8 =>
  q59 v a1 a2 a3 a4 a6 a7 a8 x8
def f_X8_read_115  (q59 : rV → Int32 → Int32 → Int32 → Int64 → Int32 → Int32 → Int32 → Int32 → Option (Int32 × rV)) (v : rV) (a1 : Int32) (a2 : Int32) (a3 : Int32) (a4 : Int64) (a6 : Int32) (a7 : Int32) (a9 : Int32) (s0 : Int32) (s1 : Int32) : Option (Int32 × rV) := vlet (s1 ||| s0 : Int32) fun x12 =>
  f_X8_read_118 q59 v a1 a2 a3 a4 a6 a7 x12 a9
def f_X8_read_59   : Nat → rV → Int32 → Int32 → Int32 → Int64 → Int32 → Int32 → Int32 → Int32 → Option (Int32 × rV)
  | 0, _, _, _, _, _, _, _, _, _ => none
  | n + 1, v, a1, a2, a3, a4, a6, a7, a8, a9 => if (v.1 174 21) ≤ a9 then
  ((f_X8_takeBack v).bind fun p6 =>
  some (a8, p6))
else
  (if (f_X8_has a3 a9) = true then
  ((f_X8_gather v ((1 : Int32) <<< (a9 &&& 31))).bind fun p9 =>
  (f_X8_tryOut p9.2 a2 a4 a6).bind fun p10 =>
  (f_X8_isRead p10 a1 a7).bind fun p11 =>
  if p11 = true then
  (f_X8_read_115 (fun v a1 a2 a3 a4 a6 a7 a8 a9 => f_X8_read_59  n v a1 a2 a3 a4 a6 a7 a8 a9) p10 a1 a2 a3 a4 a6 a7 a9 ((1 : Int32) <<< (a9 &&& 31)) a8)
else
  (f_X8_read_115 (fun v a1 a2 a3 a4 a6 a7 a8 a9 => f_X8_read_59  n v a1 a2 a3 a4 a6 a7 a8 a9) p10 a1 a2 a3 a4 a6 a7 a9 (0 : Int32) a8))
else
  (f_X8_read_118 (fun v a1 a2 a3 a4 a6 a7 a8 a9 => f_X8_read_59  n v a1 a2 a3 a4 a6 a7 a8 a9) v a1 a2 a3 a4 a6 a7 a8 a9))
def f_X8_read_28   (v : rV) (a1 : Int32) (a2 : Int32) (a3 : Int32) (a4 : Int64) (a6 : Int32) (a7 : Int32) : Option (Int32 × rV) := if (f_X8_areTicks a6) = true then
  (if (f_X8_in a7 (0 : Int32) (99 : Int32)) = true then
  ((f_X8_putAside v).bind fun p5 =>
  f_X8_read_59  20000 p5 a1 a2 a3 a4 a6 a7 (0 : Int32) (0 : Int32))
else
  (some ((-1 : Int32), v)))
else
  (some ((-1 : Int32), v))
def f_X8_read (v : rV) (a1 : Int32) (a2 : Int32) (a3 : Int32) (a4 : Int64) (a6 : Int32) (a7 : Int32) : Option (Int32 × rV) := if (f_X8_isStain v a1) = true then
  (if (f_X8_isLaw v a2) = true then
  (if a3 = 0 then
  (f_X8_read_28  v a1 a2 a3 a4 a6 a7)
else
  (if (f_X8_areDrops v a3) = true then
  (f_X8_read_28  v a1 a2 a3 a4 a6 a7)
else
  (some ((-1 : Int32), v))))
else
  (some ((-1 : Int32), v)))
else
  (some ((-1 : Int32), v))
def f_X8_odds_61  (q29 : rV → Int32 → Int32 → Int32 → Option (Int32 × rV)) (v : rV) (a8 : Int32) (a10 : Int32) (s0 : Int32) (s1 : Int32) : Option (Int32 × rV) := vlet (s1 + s0 : Int32) fun x3 =>
  vlet (a10 + (1 : Int32)) fun x4 =>
  q29 v a8 x3 x4
def f_X8_odds_29   : Nat → rV → Int32 → Int32 → Int32 → Option (Int32 × rV)
  | 0, _, _, _, _ => none
  | n + 1, v, a8, a9, a10 => if (v.1 174 21) ≤ a10 then
  (some (a9, v))
else
  (if (f_X8_has a8 a10) = true then
  (if ¬ a10 < 0 ∧ a10.toNatClampNeg < 12 then
  (f_X8_odds_61 (fun v a8 a9 a10 => f_X8_odds_29  n v a8 a9 a10) v a8 a10 (v.1 186 a10.toNatClampNeg) a9)
else none)
else
  (f_X8_odds_61 (fun v a8 a9 a10 => f_X8_odds_29  n v a8 a9 a10) v a8 a10 (0 : Int32) a9))
def f_X8_odds (v : rV) (a1 : Int32) (a2 : Int32) (a3 : Int32) (a4 : Int64) (a6 : Int32) (a7 : Int32) : Option (Int32 × rV) := (f_X8_read v a1 a2 a3 a4 a6 a7).bind fun p1 =>
  if p1.1 = (-1 : Int32) then
  (some ((-1 : Int32), p1.2))
else
  (f_X8_odds_29  20000 p1.2 p1.1 (0 : Int32) (0 : Int32))
def f_X8_pace (v : rV) (a1 : Int32) : Option (Bool × rV) := if (f_X8_in a1 (0 : Int32) (99 : Int32)) = true then
  (vlet (rI v 174 23 a1) fun v2 =>
  some (true, v2))
else
  (some (false, v))
def f_X8_parts (v : rV) (a1 : Int32) (a2 : Int32) (a3 : Int32) (a4 : Int64) (a6 : Int32) : Option (Int32 × rV) := if (f_X8_isLaw v a1) = true then
  (if (f_X8_isLaw v a2) = true then
  (if (f_X8_isDrop v a3) = true then
  (if (f_X8_areTicks a6) = true then
  ((f_X8_putAside v).bind fun p5 =>
  (f_X8_partsOf p5 a1 a2 a3 a4 a6).bind fun p6 =>
  (f_X8_takeBack p6.2).bind fun p7 =>
  some (p6.1, p7))
else
  (some ((-1 : Int32), v)))
else
  (some ((-1 : Int32), v)))
else
  (some ((-1 : Int32), v)))
else
  (some ((-1 : Int32), v))
def f_X8_print_14   : Nat → rV → Int32 → Int32 → Int32 → Option (Int32 × rV)
  | 0, _, _, _, _ => none
  | n + 1, v, a1, a2, a3 => if (24 : Int32) ≤ a3 then
  (some (a2, v))
else
  ((f_X8_laidIn v a3).bind fun p2 =>
  if ¬ (((24 : Int32) * a1) + a3) < 0 ∧ (((24 : Int32) * a1) + a3).toNatClampNeg < 144 then
  (vlet (rI v 195 ((((24 : Int32) * a1) + a3).toNatClampNeg) p2) fun v4 =>
  (f_X8_laidIn v4 a3).bind fun p5 =>
  vlet (a2 + p5 : Int32) fun x6 =>
  vlet (a3 + (1 : Int32)) fun x7 =>
  f_X8_print_14  n v4 a1 x6 x7)
else none)
def f_X8_print (v : rV) (a1 : Int32) : Option (Int32 × rV) := if (f_X8_isStain v a1) = true then
  (f_X8_print_14  20000 v a1 (0 : Int32) (0 : Int32))
else
  (some ((-1 : Int32), v))
def f_X8_printed (v : rV) (a1 : Int32) (a2 : Int32) (a3 : Int32) (a4 : Int64) (a6 : Int32) (a7 : Int32) : Option (Int32 × rV) := if (f_X8_isLaw v a1) = true then
  (if (f_X8_isDrop v a2) = true then
  (if (f_X8_in a3 (0 : Int32) (9 : Int32)) = true then
  (if (f_X8_areTicks a6) = true then
  (if (f_X8_in a7 (0 : Int32) (1 : Int32)) = true then
  (if a7 = (1 : Int32) then
  ((f_X8_copies v a2 a3).bind fun p9 =>
  some (p9, v))
else
  ((f_X8_putAside v).bind fun p6 =>
  (f_X8_evenOf p6 a1 a2 a3 a4 a6).bind fun p7 =>
  (f_X8_takeBack p7.2).bind fun p8 =>
  some (p7.1, p8)))
else
  (some ((-1 : Int32), v)))
else
  (some ((-1 : Int32), v)))
else
  (some ((-1 : Int32), v)))
else
  (some ((-1 : Int32), v)))
else
  (some ((-1 : Int32), v))
def f_X8_rush (v : rV) (a1 : Int32) : Int32 := if (v.1 187 292) = 0 then
  ((-1 : Int32))
else
  (if (f_X8_in a1 (0 : Int32) (1 : Int32)) = true then
  (if a1 = 0 then
  (v.1 187 291)
else
  (v.1 187 292))
else
  ((-1 : Int32)))
def f_X8_saved_93  (q39 : rV → Int32 → Int32 → Int32 → Int64 → Int32 → Int32 → Int32 → Option (Int32 × rV)) (v : rV) (a1 : Int32) (a2 : Int32) (a3 : Int32) (a4 : Int64) (a6 : Int32) (a7 : Int32) (a8 : Int32) : Option (Int32 × rV) := vlet (a8 + (1 : Int32)) fun x7 =>
  q39 v a1 a2 a3 a4 a6 a7 x7
def f_X8_saved_83  (q39 : rV → Int32 → Int32 → Int32 → Int64 → Int32 → Int32 → Int32 → Option (Int32 × rV)) (v : rV) (a1 : Int32) (a2 : Int32) (a3 : Int32) (a4 : Int64) (a8 : Int32) : Option (Int32 × rV) := vlet (v.1 174 43 : Int32) fun x9 =>
  f_X8_saved_93 q39 v a1 a2 a3 a4 a8 x9 a8
def f_X8_saved_39   : Nat → rV → Int32 → Int32 → Int32 → Int64 → Int32 → Int32 → Int32 → Option (Int32 × rV)
  | 0, _, _, _, _, _, _, _, _ => none
  | n + 1, v, a1, a2, a3, a4, a6, a7, a8 => if (v.1 174 21) ≤ a8 then
  ((f_X8_takeBack v).bind fun p5 =>
  some (a6, p5))
else
  (if (f_X8_has a3 a8) = true then
  ((f_X8_nearestTick v a1 a2 a8 a4).bind fun p8 =>
  if a6 = (-1 : Int32) then
  (f_X8_saved_83 (fun v a1 a2 a3 a4 a6 a7 a8 => f_X8_saved_39  n v a1 a2 a3 a4 a6 a7 a8) p8.2 a1 a2 a3 a4 a8)
else
  (if a7 ≤ (p8.2.1 174 43) then
  (f_X8_saved_93 (fun v a1 a2 a3 a4 a6 a7 a8 => f_X8_saved_39  n v a1 a2 a3 a4 a6 a7 a8) p8.2 a1 a2 a3 a4 a6 a7 a8)
else
  (f_X8_saved_83 (fun v a1 a2 a3 a4 a6 a7 a8 => f_X8_saved_39  n v a1 a2 a3 a4 a6 a7 a8) p8.2 a1 a2 a3 a4 a8)))
else
  (f_X8_saved_93 (fun v a1 a2 a3 a4 a6 a7 a8 => f_X8_saved_39  n v a1 a2 a3 a4 a6 a7 a8) v a1 a2 a3 a4 a6 a7 a8))
def f_X8_saved (v : rV) (a1 : Int32) (a2 : Int32) (a3 : Int32) (a4 : Int64) : Option (Int32 × rV) := if (f_X8_isStain v a1) = true then
  (if (f_X8_isLaw v a2) = true then
  (if (f_X8_areDrops v a3) = true then
  ((f_X8_putAside v).bind fun p4 =>
  f_X8_saved_39  20000 p4 a1 a2 a3 a4 (-1 : Int32) (0 : Int32) (0 : Int32))
else
  (some ((-1 : Int32), v)))
else
  (some ((-1 : Int32), v)))
else
  (some ((-1 : Int32), v))
def f_X8_speed (v : rV)  : Int32 := v.1 187 293
def f_X8_stain (v : rV)  : Option (Int32 × rV) := if (v.1 174 41) = (6 : Int32) then
  (some ((-1 : Int32), v))
else
  (vlet (rI v 174 41 ((v.1 174 41) + (1 : Int32))) fun v1 =>
  some ((v1.1 174 41) - (1 : Int32), v1))
def f_X8_start (v : rV) (a1 : Int32) (a2 : Int32) (a3 : Int64) : Option (Int32 × rV) := if (f_X8_isLaw v a1) = true then
  (if (f_X8_areDrops v a2) = true then
  ((f_X8_gather v a2).bind fun p3 =>
  if p3.1 = true then
  ((f_X8_begin p3.2 a1 a3).bind fun p4 =>
  some (p4.1 187 288, p4))
else
  (some ((-1 : Int32), p3.2)))
else
  (some ((-1 : Int32), v)))
else
  (some ((-1 : Int32), v))
def f_X8_steps (v : rV) (a1 : Int32) (a2 : Int32) (a3 : Int32) (a4 : Int64) (a6 : Int32) : Option (Int32 × rV) := if (f_X8_isStain v a1) = true then
  (if (f_X8_isLaw v a2) = true then
  (if (f_X8_isDrop v a3) = true then
  (if (f_X8_in a6 (0 : Int32) (1 : Int32)) = true then
  ((f_X8_putAside v).bind fun p5 =>
  (f_X8_nearestTick p5 a1 a2 a3 a4).bind fun p6 =>
  (f_X8_takeBack p6.2).bind fun p7 =>
  if a6 = 0 then
  (some (p6.1, p7))
else
  (some (p7.1 174 43, p7)))
else
  (some ((-1 : Int32), v)))
else
  (some ((-1 : Int32), v)))
else
  (some ((-1 : Int32), v)))
else
  (some ((-1 : Int32), v))
def f_X8_text_95   (v : rV) (a1 : Int32) : Option (Int32 × rV) := if a1 = (2 : Int32) then
  (if (12 : Int32) ≤ (v.1 174 21) then
  (some ((-1 : Int32), v))
else
  ((f_X8_readDrop v (v.1 174 21)).bind fun p1 =>
  if p1.1 = (-1 : Int32) then
  (vlet (rI p1.2 174 2 (0 : Int32)) fun v2 =>
  if ¬ (v2.1 174 21) < 0 ∧ (v2.1 174 21).toNatClampNeg < 12 then
  (vlet (rI v2 186 ((v2.1 174 21).toNatClampNeg) (1 : Int32)) fun v4 =>
  vlet (rI v4 174 21 ((v4.1 174 21) + (1 : Int32))) fun v5 =>
  some ((v5.1 174 21) - (1 : Int32), v5))
else none)
else
  (some ((-1 : Int32), p1.2))))
else
  (some ((-1 : Int32), v))
def f_X8_text_46   (v : rV) (a1 : Int32) : Option (Int32 × rV) := if a1 = (1 : Int32) then
  (if (4 : Int32) ≤ (v.1 174 14) then
  (f_X8_text_95  v a1)
else
  ((f_X8_readWant v ((4 : Int32) + (v.1 174 14))).bind fun p9 =>
  if p9.1 = (-1 : Int32) then
  (vlet (rI p9.2 174 2 (0 : Int32)) fun v10 =>
  vlet (rI v10 174 14 ((v10.1 174 14) + (1 : Int32))) fun v11 =>
  some ((v11.1 174 14) - (1 : Int32), v11))
else
  (f_X8_text_95  p9.2 a1)))
else
  (f_X8_text_95  v a1)
def f_X8_text (v : rV) (a1 : Int32) : Option (Int32 × rV) := if a1 = 0 then
  (if (4 : Int32) ≤ (v.1 174 13) then
  (f_X8_text_46  v a1)
else
  ((f_X8_readLaw v (v.1 174 13)).bind fun p15 =>
  if p15.1 = (-1 : Int32) then
  (vlet (rI p15.2 174 2 (0 : Int32)) fun v16 =>
  vlet (rI v16 174 13 ((v16.1 174 13) + (1 : Int32))) fun v17 =>
  some ((v17.1 174 13) - (1 : Int32), v17))
else
  (f_X8_text_46  p15.2 a1)))
else
  (f_X8_text_46  v a1)
def f_X8_thrown (v : rV)  : Int32 := v.1 174 0
def f_X8_tick (v : rV) (a1 : Int32) : Option (Int32 × rV) := if (v.1 187 295) = (1 : Int32) then
  (if (f_X8_in a1 (1 : Int32) (60 : Int32)) = true then
  ((f_X8_run v a1).bind fun p2 =>
  some (p2.1, p2.2))
else
  (some ((-1 : Int32), v)))
else
  (some ((-1 : Int32), v))
def f_X8_tried_82   (v : rV) (s0 : Int32) : Option (Int32 × rV) := (f_X8_takeBack v).bind fun p9 =>
  some (s0, p9)
def f_X8_tried (v : rV) (a1 : Int32) (a2 : Int32) (a3 : Int64) (a5 : Int32) (a6 : Int32) : Option (Int32 × rV) := if (f_X8_isLaw v a1) = true then
  (if (f_X8_areDrops v a2) = true then
  ((f_X8_gather v a2).bind fun p3 =>
  if p3.1 = true then
  (if (f_X8_areTicks a5) = true then
  (if (f_X8_in a6 (0 : Int32) (32 : Int32)) = true then
  ((f_X8_putAside p3.2).bind fun p6 =>
  (f_X8_tryOut p6 a1 a3 a5).bind fun p7 =>
  if a6 ≤ (8 : Int32) then
  ((f_X8_about p7 a6).bind fun p8 =>
  f_X8_tried_82  p7 p8)
else
  ((f_X8_laidIn p7 (a6 - (9 : Int32))).bind fun p10 =>
  f_X8_tried_82  p7 p10))
else
  (some ((-1 : Int32), p3.2)))
else
  (some ((-1 : Int32), p3.2)))
else
  (some ((-1 : Int32), p3.2)))
else
  (some ((-1 : Int32), v)))
else
  (some ((-1 : Int32), v))
def f_X8_turned_68 (v : rV) (q23 : Int32 → Int32 → Int32 → Int32 → Option (Int32)) (a1 : Int32) (a2 : Int32) (a4 : Int32) (s0 : Int32) (s1 : Int32) : Option (Int32) := vlet (s1 + s0 : Int32) fun x5 =>
  vlet (a4 + (1 : Int32)) fun x6 =>
  q23 a1 a2 x5 x6
def f_X8_turned_23 (v : rV)  : Nat → Int32 → Int32 → Int32 → Int32 → Option (Int32)
  | 0, _, _, _, _ => none
  | n + 1, a1, a2, a3, a4 => if (24 : Int32) ≤ a4 then
  (some a3)
else
  (if ¬ (((24 : Int32) * a1) + a4) < 0 ∧ (((24 : Int32) * a1) + a4).toNatClampNeg < 144 then
  (if ¬ (((((24 : Int32) * a2) + (24 : Int32)) - (1 : Int32)) - a4) < 0 ∧ (((((24 : Int32) * a2) + (24 : Int32)) - (1 : Int32)) - a4).toNatClampNeg < 144 then
  (if (v.1 195 ((((24 : Int32) * a1) + a4).toNatClampNeg)) = (v.1 195 ((((((24 : Int32) * a2) + (24 : Int32)) - (1 : Int32)) - a4).toNatClampNeg)) then
  (f_X8_turned_68 v (fun a1 a2 a3 a4 => f_X8_turned_23 v n a1 a2 a3 a4) a1 a2 a4 (0 : Int32) a3)
else
  (f_X8_turned_68 v (fun a1 a2 a3 a4 => f_X8_turned_23 v n a1 a2 a3 a4) a1 a2 a4 (1 : Int32) a3))
else none)
else none)
def f_X8_turned (v : rV) (a1 : Int32) (a2 : Int32) : Option (Int32) := if (f_X8_isStain v a1) = true then
  (if (f_X8_isStain v a2) = true then
  (f_X8_turned_23 v 20000 a1 a2 (0 : Int32) (0 : Int32))
else
  (some (-1 : Int32)))
else
  (some (-1 : Int32))
def f_X8_water (v : rV) (a1 : Int32) : Option (Int32) := if (f_X8_isCell a1) = true then
  (if ¬ ((0 : Int32) + a1) < 0 ∧ ((0 : Int32) + a1).toNatClampNeg < 416 then
  (some (v.1 187 (((0 : Int32) + a1).toNatClampNeg)))
else none)
else
  (some (-1 : Int32))
def f_X8_weigh (v : rV) (a1 : Int32) (a2 : Int32) : Option (Bool × rV) := if (f_X8_isDrop v a1) = true then
  (if (f_X8_in a2 (1 : Int32) (9 : Int32)) = true then
  (if ¬ a1 < 0 ∧ a1.toNatClampNeg < 12 then
  (vlet (rI v 186 a1.toNatClampNeg a2) fun v4 =>
  some (true, v4))
else none)
else
  (some (false, v)))
else
  (some (false, v))
def f_L_drop (v : rV) (a b : Int32) : Option (Int32 × rV) :=
  if f_X7_isDrop v a = true ∧ ¬ b < 0 ∧ ¬ 12 ≤ b then (if ¬ a < 0 ∧ a.toNatClampNeg < 12 then some (0, rL v 197 0 (v.1 (38 + a.toNatClampNeg) b.toNatClampNeg).toInt64) else none) else some (1, v)
def f_L_law_2757 (X : Nat × (Nat → Int32))  (q23 : rV → Int32 → Option (Bool × rV)) (v : rV) (a4 : Int32) : Option (Bool × rV) := vlet (a4 + (10 : Int32)) fun x10 =>
  q23 v x10
def f_L_law_445 (X : Nat × (Nat → Int32))  (q23 : rV → Int32 → Option (Bool × rV)) (v : rV) (a4 : Int32) : Option (Bool × rV) := f_L_law_2757 X q23 v a4
def f_L_law_23 (X : Nat × (Nat → Int32))   : Nat → rV → Int32 → Option (Bool × rV)
  | 0, _, _ => none
  | n + 1, v, a4 => if ((Int32.ofNat X.1) - (10 : Int32)) < a4 then
  (some (true, v))
else
  (if ¬ a4 < 0 ∧ a4.toNatClampNeg < X.1 then
  (if ((X.2 a4.toNatClampNeg) &&& (63 : Int32)) = (0 : Int32) then
  (if ¬ (a4 + (1 : Int32)) < 0 ∧ (a4 + (1 : Int32)).toNatClampNeg < X.1 then
  (if ¬ (a4 + (2 : Int32)) < 0 ∧ (a4 + (2 : Int32)).toNatClampNeg < X.1 then
  (if ¬ (a4 + (3 : Int32)) < 0 ∧ (a4 + (3 : Int32)).toNatClampNeg < X.1 then
  (if ¬ (a4 + (4 : Int32)) < 0 ∧ (a4 + (4 : Int32)).toNatClampNeg < X.1 then
  (if ¬ (a4 + (5 : Int32)) < 0 ∧ (a4 + (5 : Int32)).toNatClampNeg < X.1 then
  ((f_X7_feed v (X.2 ((a4 + (1 : Int32)).toNatClampNeg)) (X.2 ((a4 + (2 : Int32)).toNatClampNeg)) (X.2 ((a4 + (3 : Int32)).toNatClampNeg)) (X.2 ((a4 + (4 : Int32)).toNatClampNeg)) (X.2 ((a4 + (5 : Int32)).toNatClampNeg))).bind fun p8 =>
  (f_X8_feed p8.2 (X.2 ((a4 + (1 : Int32)).toNatClampNeg)) (X.2 ((a4 + (2 : Int32)).toNatClampNeg)) (X.2 ((a4 + (3 : Int32)).toNatClampNeg)) (X.2 ((a4 + (4 : Int32)).toNatClampNeg)) (X.2 ((a4 + (5 : Int32)).toNatClampNeg))).bind fun p9 =>
  if p8.1 = p9.1 then
  (f_L_law_2757 X (fun v a4 => f_L_law_23 X  n v a4) p9.2 a4)
else
  (some (false, p9.2)))
else none)
else none)
else none)
else none)
else none)
else
  (if ((X.2 a4.toNatClampNeg) &&& (63 : Int32)) = (1 : Int32) then
  (if ¬ (a4 + (1 : Int32)) < 0 ∧ (a4 + (1 : Int32)).toNatClampNeg < X.1 then
  ((f_X7_end v (X.2 ((a4 + (1 : Int32)).toNatClampNeg))).bind fun p14 =>
  (f_X8_end p14.2 (X.2 ((a4 + (1 : Int32)).toNatClampNeg))).bind fun p15 =>
  if (bI p14.1) = (bI p15.1) then
  (f_L_law_2757 X (fun v a4 => f_L_law_23 X  n v a4) p15.2 a4)
else
  (some (false, p15.2)))
else none)
else
  (if ((X.2 a4.toNatClampNeg) &&& (63 : Int32)) = (2 : Int32) then
  (if ¬ (a4 + (1 : Int32)) < 0 ∧ (a4 + (1 : Int32)).toNatClampNeg < X.1 then
  ((f_X7_fault v (X.2 ((a4 + (1 : Int32)).toNatClampNeg))).bind fun p19 =>
  (f_X8_fault p19.2 (X.2 ((a4 + (1 : Int32)).toNatClampNeg))).bind fun p20 =>
  if p19.1 = p20.1 then
  (f_L_law_2757 X (fun v a4 => f_L_law_23 X  n v a4) p20.2 a4)
else
  (some (false, p20.2)))
else none)
else
  (if ((X.2 a4.toNatClampNeg) &&& (63 : Int32)) = (3 : Int32) then
  (if ¬ (a4 + (1 : Int32)) < 0 ∧ (a4 + (1 : Int32)).toNatClampNeg < X.1 then
  ((f_X7_text v (X.2 ((a4 + (1 : Int32)).toNatClampNeg))).bind fun p24 =>
  (f_X8_text p24.2 (X.2 ((a4 + (1 : Int32)).toNatClampNeg))).bind fun p25 =>
  if p24.1 = p25.1 then
  (f_L_law_2757 X (fun v a4 => f_L_law_23 X  n v a4) p25.2 a4)
else
  (some (false, p25.2)))
else none)
else
  (if ((X.2 a4.toNatClampNeg) &&& (63 : Int32)) = (4 : Int32) then
  (if ¬ (a4 + (1 : Int32)) < 0 ∧ (a4 + (1 : Int32)).toNatClampNeg < X.1 then
  (if ¬ (a4 + (2 : Int32)) < 0 ∧ (a4 + (2 : Int32)).toNatClampNeg < X.1 then
  ((f_L_drop v (X.2 ((a4 + (1 : Int32)).toNatClampNeg)) (X.2 ((a4 + (2 : Int32)).toNatClampNeg))).bind fun p30 =>
  (f_X8_drop p30.2 (X.2 ((a4 + (1 : Int32)).toNatClampNeg)) (X.2 ((a4 + (2 : Int32)).toNatClampNeg))).bind fun p31 =>
  if (f_X8_thrown p31.2) = p30.1 then
  (if p30.1 = 0 then
  (if (lg_cmp (p31.2.2.1 197 0) p31.1.toInt64) = 0 then
  (f_L_law_445 X (fun v a4 => f_L_law_23 X  n v a4) p31.2 a4)
else
  (some (false, p31.2)))
else
  (f_L_law_445 X (fun v a4 => f_L_law_23 X  n v a4) p31.2 a4))
else
  (some (false, p31.2)))
else none)
else none)
else
  (if ((X.2 a4.toNatClampNeg) &&& (63 : Int32)) = (5 : Int32) then
  (if ¬ (a4 + (1 : Int32)) < 0 ∧ (a4 + (1 : Int32)).toNatClampNeg < X.1 then
  ((f_X7_pace v (X.2 ((a4 + (1 : Int32)).toNatClampNeg))).bind fun p38 =>
  (f_X8_pace p38.2 (X.2 ((a4 + (1 : Int32)).toNatClampNeg))).bind fun p39 =>
  if (bI p38.1) = (bI p39.1) then
  (f_L_law_2757 X (fun v a4 => f_L_law_23 X  n v a4) p39.2 a4)
else
  (some (false, p39.2)))
else none)
else
  (if ((X.2 a4.toNatClampNeg) &&& (63 : Int32)) = (6 : Int32) then
  (if ¬ (a4 + (1 : Int32)) < 0 ∧ (a4 + (1 : Int32)).toNatClampNeg < X.1 then
  (if ¬ (a4 + (2 : Int32)) < 0 ∧ (a4 + (2 : Int32)).toNatClampNeg < X.1 then
  (if ¬ (a4 + (3 : Int32)) < 0 ∧ (a4 + (3 : Int32)).toNatClampNeg < X.1 then
  (if ¬ (a4 + (4 : Int32)) < 0 ∧ (a4 + (4 : Int32)).toNatClampNeg < X.1 then
  ((f_X7_start v (X.2 ((a4 + (1 : Int32)).toNatClampNeg)) (X.2 ((a4 + (2 : Int32)).toNatClampNeg)) ((((X.2 ((a4 + (3 : Int32)).toNatClampNeg)).toInt64) <<< ((32 : Int32).toInt64 &&& 63)) ||| (((X.2 ((a4 + (4 : Int32)).toNatClampNeg)).toInt64) &&& (4294967295 : Int64)))).bind fun p46 =>
  (f_X8_start p46.2 (X.2 ((a4 + (1 : Int32)).toNatClampNeg)) (X.2 ((a4 + (2 : Int32)).toNatClampNeg)) ((((X.2 ((a4 + (3 : Int32)).toNatClampNeg)).toInt64) <<< ((32 : Int32).toInt64 &&& 63)) ||| (((X.2 ((a4 + (4 : Int32)).toNatClampNeg)).toInt64) &&& (4294967295 : Int64)))).bind fun p47 =>
  if p46.1 = p47.1 then
  (f_L_law_2757 X (fun v a4 => f_L_law_23 X  n v a4) p47.2 a4)
else
  (some (false, p47.2)))
else none)
else none)
else none)
else none)
else
  (if ((X.2 a4.toNatClampNeg) &&& (63 : Int32)) = (7 : Int32) then
  (if ¬ (a4 + (1 : Int32)) < 0 ∧ (a4 + (1 : Int32)).toNatClampNeg < X.1 then
  ((f_X7_tick v (X.2 ((a4 + (1 : Int32)).toNatClampNeg))).bind fun p51 =>
  (f_X8_tick p51.2 (X.2 ((a4 + (1 : Int32)).toNatClampNeg))).bind fun p52 =>
  if p51.1 = p52.1 then
  (f_L_law_2757 X (fun v a4 => f_L_law_23 X  n v a4) p52.2 a4)
else
  (some (false, p52.2)))
else none)
else
  (if ((X.2 a4.toNatClampNeg) &&& (63 : Int32)) = (8 : Int32) then
  (if ¬ (a4 + (1 : Int32)) < 0 ∧ (a4 + (1 : Int32)).toNatClampNeg < X.1 then
  (if ¬ (a4 + (2 : Int32)) < 0 ∧ (a4 + (2 : Int32)).toNatClampNeg < X.1 then
  ((f_X7_body v (X.2 ((a4 + (1 : Int32)).toNatClampNeg)) (X.2 ((a4 + (2 : Int32)).toNatClampNeg))).bind fun p57 =>
  (f_X8_body v (X.2 ((a4 + (1 : Int32)).toNatClampNeg)) (X.2 ((a4 + (2 : Int32)).toNatClampNeg))).bind fun p58 =>
  if p57 = p58 then
  (f_L_law_2757 X (fun v a4 => f_L_law_23 X  n v a4) v a4)
else
  (some (false, v)))
else none)
else none)
else
  (if ((X.2 a4.toNatClampNeg) &&& (63 : Int32)) = (9 : Int32) then
  (if ¬ (a4 + (1 : Int32)) < 0 ∧ (a4 + (1 : Int32)).toNatClampNeg < X.1 then
  ((f_X7_water v (X.2 ((a4 + (1 : Int32)).toNatClampNeg))).bind fun p62 =>
  (f_X8_water v (X.2 ((a4 + (1 : Int32)).toNatClampNeg))).bind fun p63 =>
  if p62 = p63 then
  (f_L_law_2757 X (fun v a4 => f_L_law_23 X  n v a4) v a4)
else
  (some (false, v)))
else none)
else
  (if ((X.2 a4.toNatClampNeg) &&& (63 : Int32)) = (10 : Int32) then
  (if ¬ (a4 + (1 : Int32)) < 0 ∧ (a4 + (1 : Int32)).toNatClampNeg < X.1 then
  (if ¬ (a4 + (2 : Int32)) < 0 ∧ (a4 + (2 : Int32)).toNatClampNeg < X.1 then
  ((f_X7_free v (X.2 ((a4 + (1 : Int32)).toNatClampNeg)) (X.2 ((a4 + (2 : Int32)).toNatClampNeg))).bind fun p68 =>
  (f_X8_free v (X.2 ((a4 + (1 : Int32)).toNatClampNeg)) (X.2 ((a4 + (2 : Int32)).toNatClampNeg))).bind fun p69 =>
  if p68 = p69 then
  (f_L_law_2757 X (fun v a4 => f_L_law_23 X  n v a4) v a4)
else
  (some (false, v)))
else none)
else none)
else
  (if ((X.2 a4.toNatClampNeg) &&& (63 : Int32)) = (11 : Int32) then
  (if ¬ (a4 + (1 : Int32)) < 0 ∧ (a4 + (1 : Int32)).toNatClampNeg < X.1 then
  (if ¬ (a4 + (2 : Int32)) < 0 ∧ (a4 + (2 : Int32)).toNatClampNeg < X.1 then
  ((f_X7_lies v (X.2 ((a4 + (1 : Int32)).toNatClampNeg)) (X.2 ((a4 + (2 : Int32)).toNatClampNeg))).bind fun p74 =>
  (f_X8_lies v (X.2 ((a4 + (1 : Int32)).toNatClampNeg)) (X.2 ((a4 + (2 : Int32)).toNatClampNeg))).bind fun p75 =>
  if p74 = p75 then
  (f_L_law_2757 X (fun v a4 => f_L_law_23 X  n v a4) v a4)
else
  (some (false, v)))
else none)
else none)
else
  (if ((X.2 a4.toNatClampNeg) &&& (63 : Int32)) = (12 : Int32) then
  (if ¬ (a4 + (1 : Int32)) < 0 ∧ (a4 + (1 : Int32)).toNatClampNeg < X.1 then
  (if ¬ (a4 + (2 : Int32)) < 0 ∧ (a4 + (2 : Int32)).toNatClampNeg < X.1 then
  ((f_X7_heap v (X.2 ((a4 + (1 : Int32)).toNatClampNeg)) (X.2 ((a4 + (2 : Int32)).toNatClampNeg))).bind fun p80 =>
  (f_X8_heap v (X.2 ((a4 + (1 : Int32)).toNatClampNeg)) (X.2 ((a4 + (2 : Int32)).toNatClampNeg))).bind fun p81 =>
  if p80 = p81 then
  (f_L_law_2757 X (fun v a4 => f_L_law_23 X  n v a4) v a4)
else
  (some (false, v)))
else none)
else none)
else
  (if ((X.2 a4.toNatClampNeg) &&& (63 : Int32)) = (13 : Int32) then
  (if ¬ (a4 + (1 : Int32)) < 0 ∧ (a4 + (1 : Int32)).toNatClampNeg < X.1 then
  ((f_X7_flow v (X.2 ((a4 + (1 : Int32)).toNatClampNeg))).bind fun p85 =>
  (f_X8_flow v (X.2 ((a4 + (1 : Int32)).toNatClampNeg))).bind fun p86 =>
  if p85 = p86 then
  (f_L_law_2757 X (fun v a4 => f_L_law_23 X  n v a4) v a4)
else
  (some (false, v)))
else none)
else
  (if ((X.2 a4.toNatClampNeg) &&& (63 : Int32)) = (14 : Int32) then
  (if ¬ (a4 + (1 : Int32)) < 0 ∧ (a4 + (1 : Int32)).toNatClampNeg < X.1 then
  ((f_X7_about v (X.2 ((a4 + (1 : Int32)).toNatClampNeg))).bind fun p90 =>
  (f_X8_about v (X.2 ((a4 + (1 : Int32)).toNatClampNeg))).bind fun p91 =>
  if p90 = p91 then
  (f_L_law_2757 X (fun v a4 => f_L_law_23 X  n v a4) v a4)
else
  (some (false, v)))
else none)
else
  (if ((X.2 a4.toNatClampNeg) &&& (63 : Int32)) = (15 : Int32) then
  (if ¬ (a4 + (1 : Int32)) < 0 ∧ (a4 + (1 : Int32)).toNatClampNeg < X.1 then
  (if (f_X7_rush v (X.2 ((a4 + (1 : Int32)).toNatClampNeg))) = (f_X8_rush v (X.2 ((a4 + (1 : Int32)).toNatClampNeg))) then
  (f_L_law_2757 X (fun v a4 => f_L_law_23 X  n v a4) v a4)
else
  (some (false, v)))
else none)
else
  (if ((X.2 a4.toNatClampNeg) &&& (63 : Int32)) = (16 : Int32) then
  (if (f_X7_speed v) = (f_X8_speed v) then
  (f_L_law_2757 X (fun v a4 => f_L_law_23 X  n v a4) v a4)
else
  (some (false, v)))
else
  (if ((X.2 a4.toNatClampNeg) &&& (63 : Int32)) = (17 : Int32) then
  (if ¬ (a4 + (1 : Int32)) < 0 ∧ (a4 + (1 : Int32)).toNatClampNeg < X.1 then
  ((f_X7_met v (X.2 ((a4 + (1 : Int32)).toNatClampNeg))).bind fun p104 =>
  (f_X8_met p104.2 (X.2 ((a4 + (1 : Int32)).toNatClampNeg))).bind fun p105 =>
  if p104.1 = p105.1 then
  (f_L_law_2757 X (fun v a4 => f_L_law_23 X  n v a4) p105.2 a4)
else
  (some (false, p105.2)))
else none)
else
  (if ((X.2 a4.toNatClampNeg) &&& (63 : Int32)) = (18 : Int32) then
  (if ¬ (a4 + (1 : Int32)) < 0 ∧ (a4 + (1 : Int32)).toNatClampNeg < X.1 then
  (if ¬ (a4 + (2 : Int32)) < 0 ∧ (a4 + (2 : Int32)).toNatClampNeg < X.1 then
  (if ¬ (a4 + (3 : Int32)) < 0 ∧ (a4 + (3 : Int32)).toNatClampNeg < X.1 then
  (if ¬ (a4 + (4 : Int32)) < 0 ∧ (a4 + (4 : Int32)).toNatClampNeg < X.1 then
  (if ¬ (a4 + (5 : Int32)) < 0 ∧ (a4 + (5 : Int32)).toNatClampNeg < X.1 then
  (if ¬ (a4 + (6 : Int32)) < 0 ∧ (a4 + (6 : Int32)).toNatClampNeg < X.1 then
  ((f_X7_tried v (X.2 ((a4 + (1 : Int32)).toNatClampNeg)) (X.2 ((a4 + (2 : Int32)).toNatClampNeg)) ((((X.2 ((a4 + (3 : Int32)).toNatClampNeg)).toInt64) <<< ((32 : Int32).toInt64 &&& 63)) ||| (((X.2 ((a4 + (4 : Int32)).toNatClampNeg)).toInt64) &&& (4294967295 : Int64))) (X.2 ((a4 + (5 : Int32)).toNatClampNeg)) (X.2 ((a4 + (6 : Int32)).toNatClampNeg))).bind fun p114 =>
  (f_X8_tried p114.2 (X.2 ((a4 + (1 : Int32)).toNatClampNeg)) (X.2 ((a4 + (2 : Int32)).toNatClampNeg)) ((((X.2 ((a4 + (3 : Int32)).toNatClampNeg)).toInt64) <<< ((32 : Int32).toInt64 &&& 63)) ||| (((X.2 ((a4 + (4 : Int32)).toNatClampNeg)).toInt64) &&& (4294967295 : Int64))) (X.2 ((a4 + (5 : Int32)).toNatClampNeg)) (X.2 ((a4 + (6 : Int32)).toNatClampNeg))).bind fun p115 =>
  if p114.1 = p115.1 then
  (f_L_law_2757 X (fun v a4 => f_L_law_23 X  n v a4) p115.2 a4)
else
  (some (false, p115.2)))
else none)
else none)
else none)
else none)
else none)
else none)
else
  (if ((X.2 a4.toNatClampNeg) &&& (63 : Int32)) = (19 : Int32) then
  (if ¬ (a4 + (1 : Int32)) < 0 ∧ (a4 + (1 : Int32)).toNatClampNeg < X.1 then
  (if ¬ (a4 + (2 : Int32)) < 0 ∧ (a4 + (2 : Int32)).toNatClampNeg < X.1 then
  (if ¬ (a4 + (3 : Int32)) < 0 ∧ (a4 + (3 : Int32)).toNatClampNeg < X.1 then
  (if ¬ (a4 + (4 : Int32)) < 0 ∧ (a4 + (4 : Int32)).toNatClampNeg < X.1 then
  (if ¬ (a4 + (5 : Int32)) < 0 ∧ (a4 + (5 : Int32)).toNatClampNeg < X.1 then
  (if ¬ (a4 + (6 : Int32)) < 0 ∧ (a4 + (6 : Int32)).toNatClampNeg < X.1 then
  (if ¬ (a4 + (7 : Int32)) < 0 ∧ (a4 + (7 : Int32)).toNatClampNeg < X.1 then
  ((f_X7_least v (X.2 ((a4 + (1 : Int32)).toNatClampNeg)) (X.2 ((a4 + (2 : Int32)).toNatClampNeg)) (X.2 ((a4 + (3 : Int32)).toNatClampNeg)) (X.2 ((a4 + (4 : Int32)).toNatClampNeg)) ((((X.2 ((a4 + (5 : Int32)).toNatClampNeg)).toInt64) <<< ((32 : Int32).toInt64 &&& 63)) ||| (((X.2 ((a4 + (6 : Int32)).toNatClampNeg)).toInt64) &&& (4294967295 : Int64))) (X.2 ((a4 + (7 : Int32)).toNatClampNeg))).bind fun p125 =>
  (f_X8_least p125.2 (X.2 ((a4 + (1 : Int32)).toNatClampNeg)) (X.2 ((a4 + (2 : Int32)).toNatClampNeg)) (X.2 ((a4 + (3 : Int32)).toNatClampNeg)) (X.2 ((a4 + (4 : Int32)).toNatClampNeg)) ((((X.2 ((a4 + (5 : Int32)).toNatClampNeg)).toInt64) <<< ((32 : Int32).toInt64 &&& 63)) ||| (((X.2 ((a4 + (6 : Int32)).toNatClampNeg)).toInt64) &&& (4294967295 : Int64))) (X.2 ((a4 + (7 : Int32)).toNatClampNeg))).bind fun p126 =>
  if p125.1 = p126.1 then
  (f_L_law_2757 X (fun v a4 => f_L_law_23 X  n v a4) p126.2 a4)
else
  (some (false, p126.2)))
else none)
else none)
else none)
else none)
else none)
else none)
else none)
else
  (if ((X.2 a4.toNatClampNeg) &&& (63 : Int32)) = (20 : Int32) then
  ((f_X7_stain v).bind fun p129 =>
  (f_X8_stain p129.2).bind fun p130 =>
  if p129.1 = p130.1 then
  (f_L_law_2757 X (fun v a4 => f_L_law_23 X  n v a4) p130.2 a4)
else
  (some (false, p130.2)))
else
  (if ((X.2 a4.toNatClampNeg) &&& (63 : Int32)) = (21 : Int32) then
  (if ¬ (a4 + (1 : Int32)) < 0 ∧ (a4 + (1 : Int32)).toNatClampNeg < X.1 then
  (if ¬ (a4 + (2 : Int32)) < 0 ∧ (a4 + (2 : Int32)).toNatClampNeg < X.1 then
  (if ¬ (a4 + (3 : Int32)) < 0 ∧ (a4 + (3 : Int32)).toNatClampNeg < X.1 then
  ((f_X7_grain v (X.2 ((a4 + (1 : Int32)).toNatClampNeg)) (X.2 ((a4 + (2 : Int32)).toNatClampNeg)) (X.2 ((a4 + (3 : Int32)).toNatClampNeg))).bind fun p136 =>
  (f_X8_grain p136.2 (X.2 ((a4 + (1 : Int32)).toNatClampNeg)) (X.2 ((a4 + (2 : Int32)).toNatClampNeg)) (X.2 ((a4 + (3 : Int32)).toNatClampNeg))).bind fun p137 =>
  if (bI p136.1) = (bI p137.1) then
  (f_L_law_2757 X (fun v a4 => f_L_law_23 X  n v a4) p137.2 a4)
else
  (some (false, p137.2)))
else none)
else none)
else none)
else
  (if ((X.2 a4.toNatClampNeg) &&& (63 : Int32)) = (22 : Int32) then
  (if ¬ (a4 + (1 : Int32)) < 0 ∧ (a4 + (1 : Int32)).toNatClampNeg < X.1 then
  ((f_X7_print v (X.2 ((a4 + (1 : Int32)).toNatClampNeg))).bind fun p141 =>
  (f_X8_print p141.2 (X.2 ((a4 + (1 : Int32)).toNatClampNeg))).bind fun p142 =>
  if p141.1 = p142.1 then
  (f_L_law_2757 X (fun v a4 => f_L_law_23 X  n v a4) p142.2 a4)
else
  (some (false, p142.2)))
else none)
else
  (if ((X.2 a4.toNatClampNeg) &&& (63 : Int32)) = (23 : Int32) then
  (if ¬ (a4 + (1 : Int32)) < 0 ∧ (a4 + (1 : Int32)).toNatClampNeg < X.1 then
  (if ¬ (a4 + (2 : Int32)) < 0 ∧ (a4 + (2 : Int32)).toNatClampNeg < X.1 then
  (if ¬ (a4 + (3 : Int32)) < 0 ∧ (a4 + (3 : Int32)).toNatClampNeg < X.1 then
  (if ¬ (a4 + (4 : Int32)) < 0 ∧ (a4 + (4 : Int32)).toNatClampNeg < X.1 then
  (if ¬ (a4 + (5 : Int32)) < 0 ∧ (a4 + (5 : Int32)).toNatClampNeg < X.1 then
  (if ¬ (a4 + (6 : Int32)) < 0 ∧ (a4 + (6 : Int32)).toNatClampNeg < X.1 then
  (if ¬ (a4 + (7 : Int32)) < 0 ∧ (a4 + (7 : Int32)).toNatClampNeg < X.1 then
  ((f_X7_read v (X.2 ((a4 + (1 : Int32)).toNatClampNeg)) (X.2 ((a4 + (2 : Int32)).toNatClampNeg)) (X.2 ((a4 + (3 : Int32)).toNatClampNeg)) ((((X.2 ((a4 + (4 : Int32)).toNatClampNeg)).toInt64) <<< ((32 : Int32).toInt64 &&& 63)) ||| (((X.2 ((a4 + (5 : Int32)).toNatClampNeg)).toInt64) &&& (4294967295 : Int64))) (X.2 ((a4 + (6 : Int32)).toNatClampNeg)) (X.2 ((a4 + (7 : Int32)).toNatClampNeg))).bind fun p152 =>
  (f_X8_read p152.2 (X.2 ((a4 + (1 : Int32)).toNatClampNeg)) (X.2 ((a4 + (2 : Int32)).toNatClampNeg)) (X.2 ((a4 + (3 : Int32)).toNatClampNeg)) ((((X.2 ((a4 + (4 : Int32)).toNatClampNeg)).toInt64) <<< ((32 : Int32).toInt64 &&& 63)) ||| (((X.2 ((a4 + (5 : Int32)).toNatClampNeg)).toInt64) &&& (4294967295 : Int64))) (X.2 ((a4 + (6 : Int32)).toNatClampNeg)) (X.2 ((a4 + (7 : Int32)).toNatClampNeg))).bind fun p153 =>
  if p152.1 = p153.1 then
  (f_L_law_2757 X (fun v a4 => f_L_law_23 X  n v a4) p153.2 a4)
else
  (some (false, p153.2)))
else none)
else none)
else none)
else none)
else none)
else none)
else none)
else
  (if ((X.2 a4.toNatClampNeg) &&& (63 : Int32)) = (24 : Int32) then
  (if ¬ (a4 + (1 : Int32)) < 0 ∧ (a4 + (1 : Int32)).toNatClampNeg < X.1 then
  (if ¬ (a4 + (2 : Int32)) < 0 ∧ (a4 + (2 : Int32)).toNatClampNeg < X.1 then
  ((f_X7_weigh v (X.2 ((a4 + (1 : Int32)).toNatClampNeg)) (X.2 ((a4 + (2 : Int32)).toNatClampNeg))).bind fun p158 =>
  (f_X8_weigh p158.2 (X.2 ((a4 + (1 : Int32)).toNatClampNeg)) (X.2 ((a4 + (2 : Int32)).toNatClampNeg))).bind fun p159 =>
  if (bI p158.1) = (bI p159.1) then
  (f_L_law_2757 X (fun v a4 => f_L_law_23 X  n v a4) p159.2 a4)
else
  (some (false, p159.2)))
else none)
else none)
else
  (if ((X.2 a4.toNatClampNeg) &&& (63 : Int32)) = (25 : Int32) then
  (if ¬ (a4 + (1 : Int32)) < 0 ∧ (a4 + (1 : Int32)).toNatClampNeg < X.1 then
  (if ¬ (a4 + (2 : Int32)) < 0 ∧ (a4 + (2 : Int32)).toNatClampNeg < X.1 then
  (if ¬ (a4 + (3 : Int32)) < 0 ∧ (a4 + (3 : Int32)).toNatClampNeg < X.1 then
  (if ¬ (a4 + (4 : Int32)) < 0 ∧ (a4 + (4 : Int32)).toNatClampNeg < X.1 then
  (if ¬ (a4 + (5 : Int32)) < 0 ∧ (a4 + (5 : Int32)).toNatClampNeg < X.1 then
  (if ¬ (a4 + (6 : Int32)) < 0 ∧ (a4 + (6 : Int32)).toNatClampNeg < X.1 then
  (if ¬ (a4 + (7 : Int32)) < 0 ∧ (a4 + (7 : Int32)).toNatClampNeg < X.1 then
  ((f_X7_odds v (X.2 ((a4 + (1 : Int32)).toNatClampNeg)) (X.2 ((a4 + (2 : Int32)).toNatClampNeg)) (X.2 ((a4 + (3 : Int32)).toNatClampNeg)) ((((X.2 ((a4 + (4 : Int32)).toNatClampNeg)).toInt64) <<< ((32 : Int32).toInt64 &&& 63)) ||| (((X.2 ((a4 + (5 : Int32)).toNatClampNeg)).toInt64) &&& (4294967295 : Int64))) (X.2 ((a4 + (6 : Int32)).toNatClampNeg)) (X.2 ((a4 + (7 : Int32)).toNatClampNeg))).bind fun p169 =>
  (f_X8_odds p169.2 (X.2 ((a4 + (1 : Int32)).toNatClampNeg)) (X.2 ((a4 + (2 : Int32)).toNatClampNeg)) (X.2 ((a4 + (3 : Int32)).toNatClampNeg)) ((((X.2 ((a4 + (4 : Int32)).toNatClampNeg)).toInt64) <<< ((32 : Int32).toInt64 &&& 63)) ||| (((X.2 ((a4 + (5 : Int32)).toNatClampNeg)).toInt64) &&& (4294967295 : Int64))) (X.2 ((a4 + (6 : Int32)).toNatClampNeg)) (X.2 ((a4 + (7 : Int32)).toNatClampNeg))).bind fun p170 =>
  if p169.1 = p170.1 then
  (f_L_law_2757 X (fun v a4 => f_L_law_23 X  n v a4) p170.2 a4)
else
  (some (false, p170.2)))
else none)
else none)
else none)
else none)
else none)
else none)
else none)
else
  (if ((X.2 a4.toNatClampNeg) &&& (63 : Int32)) = (26 : Int32) then
  (if ¬ (a4 + (1 : Int32)) < 0 ∧ (a4 + (1 : Int32)).toNatClampNeg < X.1 then
  (if ¬ (a4 + (2 : Int32)) < 0 ∧ (a4 + (2 : Int32)).toNatClampNeg < X.1 then
  (if ¬ (a4 + (3 : Int32)) < 0 ∧ (a4 + (3 : Int32)).toNatClampNeg < X.1 then
  (if ¬ (a4 + (4 : Int32)) < 0 ∧ (a4 + (4 : Int32)).toNatClampNeg < X.1 then
  (if ¬ (a4 + (5 : Int32)) < 0 ∧ (a4 + (5 : Int32)).toNatClampNeg < X.1 then
  (if ¬ (a4 + (6 : Int32)) < 0 ∧ (a4 + (6 : Int32)).toNatClampNeg < X.1 then
  ((f_X7_parts v (X.2 ((a4 + (1 : Int32)).toNatClampNeg)) (X.2 ((a4 + (2 : Int32)).toNatClampNeg)) (X.2 ((a4 + (3 : Int32)).toNatClampNeg)) ((((X.2 ((a4 + (4 : Int32)).toNatClampNeg)).toInt64) <<< ((32 : Int32).toInt64 &&& 63)) ||| (((X.2 ((a4 + (5 : Int32)).toNatClampNeg)).toInt64) &&& (4294967295 : Int64))) (X.2 ((a4 + (6 : Int32)).toNatClampNeg))).bind fun p179 =>
  (f_X8_parts p179.2 (X.2 ((a4 + (1 : Int32)).toNatClampNeg)) (X.2 ((a4 + (2 : Int32)).toNatClampNeg)) (X.2 ((a4 + (3 : Int32)).toNatClampNeg)) ((((X.2 ((a4 + (4 : Int32)).toNatClampNeg)).toInt64) <<< ((32 : Int32).toInt64 &&& 63)) ||| (((X.2 ((a4 + (5 : Int32)).toNatClampNeg)).toInt64) &&& (4294967295 : Int64))) (X.2 ((a4 + (6 : Int32)).toNatClampNeg))).bind fun p180 =>
  if p179.1 = p180.1 then
  (f_L_law_2757 X (fun v a4 => f_L_law_23 X  n v a4) p180.2 a4)
else
  (some (false, p180.2)))
else none)
else none)
else none)
else none)
else none)
else none)
else
  (if ((X.2 a4.toNatClampNeg) &&& (63 : Int32)) = (27 : Int32) then
  (if ¬ (a4 + (1 : Int32)) < 0 ∧ (a4 + (1 : Int32)).toNatClampNeg < X.1 then
  (if ¬ (a4 + (2 : Int32)) < 0 ∧ (a4 + (2 : Int32)).toNatClampNeg < X.1 then
  (if ¬ (a4 + (3 : Int32)) < 0 ∧ (a4 + (3 : Int32)).toNatClampNeg < X.1 then
  (if ¬ (a4 + (4 : Int32)) < 0 ∧ (a4 + (4 : Int32)).toNatClampNeg < X.1 then
  (if ¬ (a4 + (5 : Int32)) < 0 ∧ (a4 + (5 : Int32)).toNatClampNeg < X.1 then
  (if ¬ (a4 + (6 : Int32)) < 0 ∧ (a4 + (6 : Int32)).toNatClampNeg < X.1 then
  ((f_X7_next v (X.2 ((a4 + (1 : Int32)).toNatClampNeg)) (X.2 ((a4 + (2 : Int32)).toNatClampNeg)) (X.2 ((a4 + (3 : Int32)).toNatClampNeg)) ((((X.2 ((a4 + (4 : Int32)).toNatClampNeg)).toInt64) <<< ((32 : Int32).toInt64 &&& 63)) ||| (((X.2 ((a4 + (5 : Int32)).toNatClampNeg)).toInt64) &&& (4294967295 : Int64))) (X.2 ((a4 + (6 : Int32)).toNatClampNeg))).bind fun p189 =>
  (f_X8_next p189.2 (X.2 ((a4 + (1 : Int32)).toNatClampNeg)) (X.2 ((a4 + (2 : Int32)).toNatClampNeg)) (X.2 ((a4 + (3 : Int32)).toNatClampNeg)) ((((X.2 ((a4 + (4 : Int32)).toNatClampNeg)).toInt64) <<< ((32 : Int32).toInt64 &&& 63)) ||| (((X.2 ((a4 + (5 : Int32)).toNatClampNeg)).toInt64) &&& (4294967295 : Int64))) (X.2 ((a4 + (6 : Int32)).toNatClampNeg))).bind fun p190 =>
  if p189.1 = p190.1 then
  (f_L_law_2757 X (fun v a4 => f_L_law_23 X  n v a4) p190.2 a4)
else
  (some (false, p190.2)))
else none)
else none)
else none)
else none)
else none)
else none)
else
  (if ((X.2 a4.toNatClampNeg) &&& (63 : Int32)) = (28 : Int32) then
  (if ¬ (a4 + (1 : Int32)) < 0 ∧ (a4 + (1 : Int32)).toNatClampNeg < X.1 then
  (if ¬ (a4 + (2 : Int32)) < 0 ∧ (a4 + (2 : Int32)).toNatClampNeg < X.1 then
  (if ¬ (a4 + (3 : Int32)) < 0 ∧ (a4 + (3 : Int32)).toNatClampNeg < X.1 then
  (if ¬ (a4 + (4 : Int32)) < 0 ∧ (a4 + (4 : Int32)).toNatClampNeg < X.1 then
  (if ¬ (a4 + (5 : Int32)) < 0 ∧ (a4 + (5 : Int32)).toNatClampNeg < X.1 then
  (if ¬ (a4 + (6 : Int32)) < 0 ∧ (a4 + (6 : Int32)).toNatClampNeg < X.1 then
  (if ¬ (a4 + (7 : Int32)) < 0 ∧ (a4 + (7 : Int32)).toNatClampNeg < X.1 then
  ((f_X7_printed v (X.2 ((a4 + (1 : Int32)).toNatClampNeg)) (X.2 ((a4 + (2 : Int32)).toNatClampNeg)) (X.2 ((a4 + (3 : Int32)).toNatClampNeg)) ((((X.2 ((a4 + (4 : Int32)).toNatClampNeg)).toInt64) <<< ((32 : Int32).toInt64 &&& 63)) ||| (((X.2 ((a4 + (5 : Int32)).toNatClampNeg)).toInt64) &&& (4294967295 : Int64))) (X.2 ((a4 + (6 : Int32)).toNatClampNeg)) (X.2 ((a4 + (7 : Int32)).toNatClampNeg))).bind fun p200 =>
  (f_X8_printed p200.2 (X.2 ((a4 + (1 : Int32)).toNatClampNeg)) (X.2 ((a4 + (2 : Int32)).toNatClampNeg)) (X.2 ((a4 + (3 : Int32)).toNatClampNeg)) ((((X.2 ((a4 + (4 : Int32)).toNatClampNeg)).toInt64) <<< ((32 : Int32).toInt64 &&& 63)) ||| (((X.2 ((a4 + (5 : Int32)).toNatClampNeg)).toInt64) &&& (4294967295 : Int64))) (X.2 ((a4 + (6 : Int32)).toNatClampNeg)) (X.2 ((a4 + (7 : Int32)).toNatClampNeg))).bind fun p201 =>
  if p200.1 = p201.1 then
  (f_L_law_2757 X (fun v a4 => f_L_law_23 X  n v a4) p201.2 a4)
else
  (some (false, p201.2)))
else none)
else none)
else none)
else none)
else none)
else none)
else none)
else
  (if ((X.2 a4.toNatClampNeg) &&& (63 : Int32)) = (29 : Int32) then
  (if ¬ (a4 + (1 : Int32)) < 0 ∧ (a4 + (1 : Int32)).toNatClampNeg < X.1 then
  (if ¬ (a4 + (2 : Int32)) < 0 ∧ (a4 + (2 : Int32)).toNatClampNeg < X.1 then
  (if ¬ (a4 + (3 : Int32)) < 0 ∧ (a4 + (3 : Int32)).toNatClampNeg < X.1 then
  (if ¬ (a4 + (4 : Int32)) < 0 ∧ (a4 + (4 : Int32)).toNatClampNeg < X.1 then
  (if ¬ (a4 + (5 : Int32)) < 0 ∧ (a4 + (5 : Int32)).toNatClampNeg < X.1 then
  ((f_X7_dots v (X.2 ((a4 + (1 : Int32)).toNatClampNeg)) (X.2 ((a4 + (2 : Int32)).toNatClampNeg)) ((((X.2 ((a4 + (3 : Int32)).toNatClampNeg)).toInt64) <<< ((32 : Int32).toInt64 &&& 63)) ||| (((X.2 ((a4 + (4 : Int32)).toNatClampNeg)).toInt64) &&& (4294967295 : Int64))) (X.2 ((a4 + (5 : Int32)).toNatClampNeg))).bind fun p209 =>
  (f_X8_dots p209.2 (X.2 ((a4 + (1 : Int32)).toNatClampNeg)) (X.2 ((a4 + (2 : Int32)).toNatClampNeg)) ((((X.2 ((a4 + (3 : Int32)).toNatClampNeg)).toInt64) <<< ((32 : Int32).toInt64 &&& 63)) ||| (((X.2 ((a4 + (4 : Int32)).toNatClampNeg)).toInt64) &&& (4294967295 : Int64))) (X.2 ((a4 + (5 : Int32)).toNatClampNeg))).bind fun p210 =>
  if p209.1 = p210.1 then
  (f_L_law_2757 X (fun v a4 => f_L_law_23 X  n v a4) p210.2 a4)
else
  (some (false, p210.2)))
else none)
else none)
else none)
else none)
else none)
else
  (if ((X.2 a4.toNatClampNeg) &&& (63 : Int32)) = (30 : Int32) then
  (if ¬ (a4 + (1 : Int32)) < 0 ∧ (a4 + (1 : Int32)).toNatClampNeg < X.1 then
  ((f_X7_came v (X.2 ((a4 + (1 : Int32)).toNatClampNeg))).bind fun p214 =>
  (f_X8_came v (X.2 ((a4 + (1 : Int32)).toNatClampNeg))).bind fun p215 =>
  if p214 = p215 then
  (f_L_law_2757 X (fun v a4 => f_L_law_23 X  n v a4) v a4)
else
  (some (false, v)))
else none)
else
  (if ((X.2 a4.toNatClampNeg) &&& (63 : Int32)) = (31 : Int32) then
  (if ¬ (a4 + (1 : Int32)) < 0 ∧ (a4 + (1 : Int32)).toNatClampNeg < X.1 then
  ((f_X7_middle v (X.2 ((a4 + (1 : Int32)).toNatClampNeg))).bind fun p219 =>
  (f_X8_middle v (X.2 ((a4 + (1 : Int32)).toNatClampNeg))).bind fun p220 =>
  if p219 = p220 then
  (f_L_law_2757 X (fun v a4 => f_L_law_23 X  n v a4) v a4)
else
  (some (false, v)))
else none)
else
  (if ((X.2 a4.toNatClampNeg) &&& (63 : Int32)) = (32 : Int32) then
  (if ¬ (a4 + (1 : Int32)) < 0 ∧ (a4 + (1 : Int32)).toNatClampNeg < X.1 then
  (if ¬ (a4 + (2 : Int32)) < 0 ∧ (a4 + (2 : Int32)).toNatClampNeg < X.1 then
  (if ¬ (a4 + (3 : Int32)) < 0 ∧ (a4 + (3 : Int32)).toNatClampNeg < X.1 then
  (if ¬ (a4 + (4 : Int32)) < 0 ∧ (a4 + (4 : Int32)).toNatClampNeg < X.1 then
  ((f_X7_dry v (X.2 ((a4 + (1 : Int32)).toNatClampNeg)) (X.2 ((a4 + (2 : Int32)).toNatClampNeg)) ((((X.2 ((a4 + (3 : Int32)).toNatClampNeg)).toInt64) <<< ((32 : Int32).toInt64 &&& 63)) ||| (((X.2 ((a4 + (4 : Int32)).toNatClampNeg)).toInt64) &&& (4294967295 : Int64)))).bind fun p227 =>
  (f_X8_dry p227.2 (X.2 ((a4 + (1 : Int32)).toNatClampNeg)) (X.2 ((a4 + (2 : Int32)).toNatClampNeg)) ((((X.2 ((a4 + (3 : Int32)).toNatClampNeg)).toInt64) <<< ((32 : Int32).toInt64 &&& 63)) ||| (((X.2 ((a4 + (4 : Int32)).toNatClampNeg)).toInt64) &&& (4294967295 : Int64)))).bind fun p228 =>
  if p227.1 = p228.1 then
  (f_L_law_2757 X (fun v a4 => f_L_law_23 X  n v a4) p228.2 a4)
else
  (some (false, p228.2)))
else none)
else none)
else none)
else none)
else
  (if ((X.2 a4.toNatClampNeg) &&& (63 : Int32)) = (33 : Int32) then
  (if ¬ (a4 + (1 : Int32)) < 0 ∧ (a4 + (1 : Int32)).toNatClampNeg < X.1 then
  (if ¬ (a4 + (2 : Int32)) < 0 ∧ (a4 + (2 : Int32)).toNatClampNeg < X.1 then
  (if ¬ (a4 + (3 : Int32)) < 0 ∧ (a4 + (3 : Int32)).toNatClampNeg < X.1 then
  (if ¬ (a4 + (4 : Int32)) < 0 ∧ (a4 + (4 : Int32)).toNatClampNeg < X.1 then
  (if ¬ (a4 + (5 : Int32)) < 0 ∧ (a4 + (5 : Int32)).toNatClampNeg < X.1 then
  (if ¬ (a4 + (6 : Int32)) < 0 ∧ (a4 + (6 : Int32)).toNatClampNeg < X.1 then
  (if ¬ (a4 + (7 : Int32)) < 0 ∧ (a4 + (7 : Int32)).toNatClampNeg < X.1 then
  ((f_X7_luck v (X.2 ((a4 + (1 : Int32)).toNatClampNeg)) (X.2 ((a4 + (2 : Int32)).toNatClampNeg)) (X.2 ((a4 + (3 : Int32)).toNatClampNeg)) ((((X.2 ((a4 + (4 : Int32)).toNatClampNeg)).toInt64) <<< ((32 : Int32).toInt64 &&& 63)) ||| (((X.2 ((a4 + (5 : Int32)).toNatClampNeg)).toInt64) &&& (4294967295 : Int64))) (X.2 ((a4 + (6 : Int32)).toNatClampNeg)) (X.2 ((a4 + (7 : Int32)).toNatClampNeg))).bind fun p238 =>
  (f_X8_luck p238.2 (X.2 ((a4 + (1 : Int32)).toNatClampNeg)) (X.2 ((a4 + (2 : Int32)).toNatClampNeg)) (X.2 ((a4 + (3 : Int32)).toNatClampNeg)) ((((X.2 ((a4 + (4 : Int32)).toNatClampNeg)).toInt64) <<< ((32 : Int32).toInt64 &&& 63)) ||| (((X.2 ((a4 + (5 : Int32)).toNatClampNeg)).toInt64) &&& (4294967295 : Int64))) (X.2 ((a4 + (6 : Int32)).toNatClampNeg)) (X.2 ((a4 + (7 : Int32)).toNatClampNeg))).bind fun p239 =>
  if p238.1 = p239.1 then
  (f_L_law_2757 X (fun v a4 => f_L_law_23 X  n v a4) p239.2 a4)
else
  (some (false, p239.2)))
else none)
else none)
else none)
else none)
else none)
else none)
else none)
else
  (if ((X.2 a4.toNatClampNeg) &&& (63 : Int32)) = (34 : Int32) then
  (if ¬ (a4 + (1 : Int32)) < 0 ∧ (a4 + (1 : Int32)).toNatClampNeg < X.1 then
  (if ¬ (a4 + (2 : Int32)) < 0 ∧ (a4 + (2 : Int32)).toNatClampNeg < X.1 then
  (if ¬ (a4 + (3 : Int32)) < 0 ∧ (a4 + (3 : Int32)).toNatClampNeg < X.1 then
  (if ¬ (a4 + (4 : Int32)) < 0 ∧ (a4 + (4 : Int32)).toNatClampNeg < X.1 then
  (if ¬ (a4 + (5 : Int32)) < 0 ∧ (a4 + (5 : Int32)).toNatClampNeg < X.1 then
  (if ¬ (a4 + (6 : Int32)) < 0 ∧ (a4 + (6 : Int32)).toNatClampNeg < X.1 then
  (if ¬ (a4 + (7 : Int32)) < 0 ∧ (a4 + (7 : Int32)).toNatClampNeg < X.1 then
  (if ¬ (a4 + (8 : Int32)) < 0 ∧ (a4 + (8 : Int32)).toNatClampNeg < X.1 then
  (if ¬ (a4 + (9 : Int32)) < 0 ∧ (a4 + (9 : Int32)).toNatClampNeg < X.1 then
  ((f_X7_line v (X.2 ((a4 + (1 : Int32)).toNatClampNeg)) (X.2 ((a4 + (2 : Int32)).toNatClampNeg)) (X.2 ((a4 + (3 : Int32)).toNatClampNeg)) (X.2 ((a4 + (4 : Int32)).toNatClampNeg)) (X.2 ((a4 + (5 : Int32)).toNatClampNeg)) (X.2 ((a4 + (6 : Int32)).toNatClampNeg)) ((((X.2 ((a4 + (7 : Int32)).toNatClampNeg)).toInt64) <<< ((32 : Int32).toInt64 &&& 63)) ||| (((X.2 ((a4 + (8 : Int32)).toNatClampNeg)).toInt64) &&& (4294967295 : Int64))) (X.2 ((a4 + (9 : Int32)).toNatClampNeg))).bind fun p251 =>
  (f_X8_line p251.2 (X.2 ((a4 + (1 : Int32)).toNatClampNeg)) (X.2 ((a4 + (2 : Int32)).toNatClampNeg)) (X.2 ((a4 + (3 : Int32)).toNatClampNeg)) (X.2 ((a4 + (4 : Int32)).toNatClampNeg)) (X.2 ((a4 + (5 : Int32)).toNatClampNeg)) (X.2 ((a4 + (6 : Int32)).toNatClampNeg)) ((((X.2 ((a4 + (7 : Int32)).toNatClampNeg)).toInt64) <<< ((32 : Int32).toInt64 &&& 63)) ||| (((X.2 ((a4 + (8 : Int32)).toNatClampNeg)).toInt64) &&& (4294967295 : Int64))) (X.2 ((a4 + (9 : Int32)).toNatClampNeg))).bind fun p252 =>
  if p251.1 = p252.1 then
  (f_L_law_2757 X (fun v a4 => f_L_law_23 X  n v a4) p252.2 a4)
else
  (some (false, p252.2)))
else none)
else none)
else none)
else none)
else none)
else none)
else none)
else none)
else none)
else
  (if ((X.2 a4.toNatClampNeg) &&& (63 : Int32)) = (35 : Int32) then
  (if ¬ (a4 + (1 : Int32)) < 0 ∧ (a4 + (1 : Int32)).toNatClampNeg < X.1 then
  (if ¬ (a4 + (2 : Int32)) < 0 ∧ (a4 + (2 : Int32)).toNatClampNeg < X.1 then
  (if ¬ (a4 + (3 : Int32)) < 0 ∧ (a4 + (3 : Int32)).toNatClampNeg < X.1 then
  (if ¬ (a4 + (4 : Int32)) < 0 ∧ (a4 + (4 : Int32)).toNatClampNeg < X.1 then
  (if ¬ (a4 + (5 : Int32)) < 0 ∧ (a4 + (5 : Int32)).toNatClampNeg < X.1 then
  (if ¬ (a4 + (6 : Int32)) < 0 ∧ (a4 + (6 : Int32)).toNatClampNeg < X.1 then
  ((f_X7_alike v (X.2 ((a4 + (1 : Int32)).toNatClampNeg)) (X.2 ((a4 + (2 : Int32)).toNatClampNeg)) (X.2 ((a4 + (3 : Int32)).toNatClampNeg)) ((((X.2 ((a4 + (4 : Int32)).toNatClampNeg)).toInt64) <<< ((32 : Int32).toInt64 &&& 63)) ||| (((X.2 ((a4 + (5 : Int32)).toNatClampNeg)).toInt64) &&& (4294967295 : Int64))) (X.2 ((a4 + (6 : Int32)).toNatClampNeg))).bind fun p261 =>
  (f_X8_alike p261.2 (X.2 ((a4 + (1 : Int32)).toNatClampNeg)) (X.2 ((a4 + (2 : Int32)).toNatClampNeg)) (X.2 ((a4 + (3 : Int32)).toNatClampNeg)) ((((X.2 ((a4 + (4 : Int32)).toNatClampNeg)).toInt64) <<< ((32 : Int32).toInt64 &&& 63)) ||| (((X.2 ((a4 + (5 : Int32)).toNatClampNeg)).toInt64) &&& (4294967295 : Int64))) (X.2 ((a4 + (6 : Int32)).toNatClampNeg))).bind fun p262 =>
  if p261.1 = p262.1 then
  (f_L_law_2757 X (fun v a4 => f_L_law_23 X  n v a4) p262.2 a4)
else
  (some (false, p262.2)))
else none)
else none)
else none)
else none)
else none)
else none)
else
  (if ((X.2 a4.toNatClampNeg) &&& (63 : Int32)) = (36 : Int32) then
  (if ¬ (a4 + (1 : Int32)) < 0 ∧ (a4 + (1 : Int32)).toNatClampNeg < X.1 then
  (if ¬ (a4 + (2 : Int32)) < 0 ∧ (a4 + (2 : Int32)).toNatClampNeg < X.1 then
  ((f_X7_turned v (X.2 ((a4 + (1 : Int32)).toNatClampNeg)) (X.2 ((a4 + (2 : Int32)).toNatClampNeg))).bind fun p267 =>
  (f_X8_turned v (X.2 ((a4 + (1 : Int32)).toNatClampNeg)) (X.2 ((a4 + (2 : Int32)).toNatClampNeg))).bind fun p268 =>
  if p267 = p268 then
  (f_L_law_2757 X (fun v a4 => f_L_law_23 X  n v a4) v a4)
else
  (some (false, v)))
else none)
else none)
else
  (if ((X.2 a4.toNatClampNeg) &&& (63 : Int32)) = (37 : Int32) then
  (if ¬ (a4 + (1 : Int32)) < 0 ∧ (a4 + (1 : Int32)).toNatClampNeg < X.1 then
  (if ¬ (a4 + (2 : Int32)) < 0 ∧ (a4 + (2 : Int32)).toNatClampNeg < X.1 then
  ((f_X7_join v (X.2 ((a4 + (1 : Int32)).toNatClampNeg)) (X.2 ((a4 + (2 : Int32)).toNatClampNeg))).bind fun p273 =>
  (f_X8_join p273.2 (X.2 ((a4 + (1 : Int32)).toNatClampNeg)) (X.2 ((a4 + (2 : Int32)).toNatClampNeg))).bind fun p274 =>
  if p273.1 = p274.1 then
  (f_L_law_2757 X (fun v a4 => f_L_law_23 X  n v a4) p274.2 a4)
else
  (some (false, p274.2)))
else none)
else none)
else
  (if ((X.2 a4.toNatClampNeg) &&& (63 : Int32)) = (38 : Int32) then
  (if ¬ (a4 + (1 : Int32)) < 0 ∧ (a4 + (1 : Int32)).toNatClampNeg < X.1 then
  (if ¬ (a4 + (2 : Int32)) < 0 ∧ (a4 + (2 : Int32)).toNatClampNeg < X.1 then
  ((f_X7_blot v (X.2 ((a4 + (1 : Int32)).toNatClampNeg)) (X.2 ((a4 + (2 : Int32)).toNatClampNeg))).bind fun p279 =>
  (f_X8_blot v (X.2 ((a4 + (1 : Int32)).toNatClampNeg)) (X.2 ((a4 + (2 : Int32)).toNatClampNeg))).bind fun p280 =>
  if p279 = p280 then
  (f_L_law_2757 X (fun v a4 => f_L_law_23 X  n v a4) v a4)
else
  (some (false, v)))
else none)
else none)
else
  (if ((X.2 a4.toNatClampNeg) &&& (63 : Int32)) = (39 : Int32) then
  (if ¬ (a4 + (1 : Int32)) < 0 ∧ (a4 + (1 : Int32)).toNatClampNeg < X.1 then
  (if ¬ (a4 + (2 : Int32)) < 0 ∧ (a4 + (2 : Int32)).toNatClampNeg < X.1 then
  (if ¬ (a4 + (3 : Int32)) < 0 ∧ (a4 + (3 : Int32)).toNatClampNeg < X.1 then
  (if ¬ (a4 + (4 : Int32)) < 0 ∧ (a4 + (4 : Int32)).toNatClampNeg < X.1 then
  (if ¬ (a4 + (5 : Int32)) < 0 ∧ (a4 + (5 : Int32)).toNatClampNeg < X.1 then
  (if ¬ (a4 + (6 : Int32)) < 0 ∧ (a4 + (6 : Int32)).toNatClampNeg < X.1 then
  ((f_X7_steps v (X.2 ((a4 + (1 : Int32)).toNatClampNeg)) (X.2 ((a4 + (2 : Int32)).toNatClampNeg)) (X.2 ((a4 + (3 : Int32)).toNatClampNeg)) ((((X.2 ((a4 + (4 : Int32)).toNatClampNeg)).toInt64) <<< ((32 : Int32).toInt64 &&& 63)) ||| (((X.2 ((a4 + (5 : Int32)).toNatClampNeg)).toInt64) &&& (4294967295 : Int64))) (X.2 ((a4 + (6 : Int32)).toNatClampNeg))).bind fun p289 =>
  (f_X8_steps p289.2 (X.2 ((a4 + (1 : Int32)).toNatClampNeg)) (X.2 ((a4 + (2 : Int32)).toNatClampNeg)) (X.2 ((a4 + (3 : Int32)).toNatClampNeg)) ((((X.2 ((a4 + (4 : Int32)).toNatClampNeg)).toInt64) <<< ((32 : Int32).toInt64 &&& 63)) ||| (((X.2 ((a4 + (5 : Int32)).toNatClampNeg)).toInt64) &&& (4294967295 : Int64))) (X.2 ((a4 + (6 : Int32)).toNatClampNeg))).bind fun p290 =>
  if p289.1 = p290.1 then
  (f_L_law_2757 X (fun v a4 => f_L_law_23 X  n v a4) p290.2 a4)
else
  (some (false, p290.2)))
else none)
else none)
else none)
else none)
else none)
else none)
else
  (if ((X.2 a4.toNatClampNeg) &&& (63 : Int32)) = (40 : Int32) then
  (if ¬ (a4 + (1 : Int32)) < 0 ∧ (a4 + (1 : Int32)).toNatClampNeg < X.1 then
  (if ¬ (a4 + (2 : Int32)) < 0 ∧ (a4 + (2 : Int32)).toNatClampNeg < X.1 then
  (if ¬ (a4 + (3 : Int32)) < 0 ∧ (a4 + (3 : Int32)).toNatClampNeg < X.1 then
  (if ¬ (a4 + (4 : Int32)) < 0 ∧ (a4 + (4 : Int32)).toNatClampNeg < X.1 then
  (if ¬ (a4 + (5 : Int32)) < 0 ∧ (a4 + (5 : Int32)).toNatClampNeg < X.1 then
  ((f_X7_saved v (X.2 ((a4 + (1 : Int32)).toNatClampNeg)) (X.2 ((a4 + (2 : Int32)).toNatClampNeg)) (X.2 ((a4 + (3 : Int32)).toNatClampNeg)) ((((X.2 ((a4 + (4 : Int32)).toNatClampNeg)).toInt64) <<< ((32 : Int32).toInt64 &&& 63)) ||| (((X.2 ((a4 + (5 : Int32)).toNatClampNeg)).toInt64) &&& (4294967295 : Int64)))).bind fun p298 =>
  (f_X8_saved p298.2 (X.2 ((a4 + (1 : Int32)).toNatClampNeg)) (X.2 ((a4 + (2 : Int32)).toNatClampNeg)) (X.2 ((a4 + (3 : Int32)).toNatClampNeg)) ((((X.2 ((a4 + (4 : Int32)).toNatClampNeg)).toInt64) <<< ((32 : Int32).toInt64 &&& 63)) ||| (((X.2 ((a4 + (5 : Int32)).toNatClampNeg)).toInt64) &&& (4294967295 : Int64)))).bind fun p299 =>
  if p298.1 = p299.1 then
  (f_L_law_2757 X (fun v a4 => f_L_law_23 X  n v a4) p299.2 a4)
else
  (some (false, p299.2)))
else none)
else none)
else none)
else none)
else none)
else
  (if ((X.2 a4.toNatClampNeg) &&& (63 : Int32)) = (41 : Int32) then
  ((f_X7_image v).bind fun p302 =>
  (f_X8_image p302.2).bind fun p303 =>
  if p302.1 = p303.1 then
  (f_L_law_2757 X (fun v a4 => f_L_law_23 X  n v a4) p303.2 a4)
else
  (some (false, p303.2)))
else
  (if ((X.2 a4.toNatClampNeg) &&& (63 : Int32)) = (42 : Int32) then
  ((f_X7_back v).bind fun p306 =>
  (f_X8_back p306.2).bind fun p307 =>
  if p306.1 = p307.1 then
  (f_L_law_2757 X (fun v a4 => f_L_law_23 X  n v a4) p307.2 a4)
else
  (some (false, p307.2)))
else
  (if ((X.2 a4.toNatClampNeg) &&& (63 : Int32)) = (43 : Int32) then
  (if ¬ (a4 + (1 : Int32)) < 0 ∧ (a4 + (1 : Int32)).toNatClampNeg < X.1 then
  (if (f_X7_count v (X.2 ((a4 + (1 : Int32)).toNatClampNeg))) = (f_X8_count v (X.2 ((a4 + (1 : Int32)).toNatClampNeg))) then
  (f_L_law_2757 X (fun v a4 => f_L_law_23 X  n v a4) v a4)
else
  (some (false, v)))
else none)
else
  (f_L_law_2757 X (fun v a4 => f_L_law_23 X  n v a4) v a4)))))))))))))))))))))))))))))))))))))))))))))
else none)
def rD (v : rV) (n : Nat) : rV := (fun a b => if a = n then 0 else v.1 a b, fun a b => if a = n then 0 else v.2.1 a b, fun a b => if a = n then none else v.2.2 a b)
def rMn (v : rV) (n N : Nat) : rV := (fun a b => if n ≤ a ∧ a ≤ n + N then 0 else v.1 a b, fun a b => if n ≤ a ∧ a ≤ n + N then 0 else v.2.1 a b, fun a b => if a = n then (if b < N then some (n + 1 + b) else none) else if n ≤ a ∧ a ≤ n + N then none else v.2.2 a b)
def vc_0 : rV := (fun _ _ => 0, fun _ _ => 0, fun _ _ => none)
def vc_1 : rV := rD vc_0 0
def vc_2 : rV := rD vc_1 1
def vc_3 : rV := rD vc_2 2
def vc_4 : rV := rR vc_3 1 0 (some 2)
def vc_5 : rV := rR vc_4 0 0 (some 1)
def vc_6 : rV := rD vc_5 3
def vc_7 : rV := rD vc_6 4
def vc_8 : rV := rD vc_7 5
def vc_9 : rV := rR vc_8 4 0 (some 5)
def vc_10 : rV := rD vc_9 6
def vc_11 : rV := rR vc_10 4 1 (some 6)
def vc_12 : rV := rR vc_11 3 1 (some 4)
def vc_13 : rV := rR vc_12 3 2 (some 1000010)
def vc_14 : rV := rR vc_13 3 0 (some 1)
def vc_15 : rV := rR vc_14 0 1 (some 3)
def vc_16 : rV := rD vc_15 7
def vc_17 : rV := rD vc_16 8
def vc_18 : rV := rR vc_17 7 1 (some 8)
def vc_19 : rV := rR vc_18 7 0 (some 1)
def vc_20 : rV := rR vc_19 0 2 (some 7)
def vc_21 : rV := rD vc_20 9
def vc_22 : rV := rD vc_21 10
def vc_23 : rV := rR vc_22 9 0 (some 10)
def vc_24 : rV := rD vc_23 11
def vc_25 : rV := rD vc_24 12
def vc_26 : rV := rR vc_25 11 0 (some 12)
def vc_27 : rV := rD vc_26 13
def vc_28 : rV := rR vc_27 11 1 (some 13)
def vc_29 : rV := rR vc_28 10 0 (some 11)
def vc_30 : rV := rD vc_29 14
def vc_31 : rV := rD vc_30 15
def vc_32 : rV := rR vc_31 14 0 (some 15)
def vc_33 : rV := rD vc_32 16
def vc_34 : rV := rR vc_33 14 1 (some 16)
def vc_35 : rV := rR vc_34 10 1 (some 14)
def vc_36 : rV := rD vc_35 17
def vc_37 : rV := rD vc_36 18
def vc_38 : rV := rR vc_37 17 0 (some 18)
def vc_39 : rV := rD vc_38 19
def vc_40 : rV := rR vc_39 17 1 (some 19)
def vc_41 : rV := rR vc_40 10 2 (some 17)
def vc_42 : rV := rD vc_41 20
def vc_43 : rV := rD vc_42 21
def vc_44 : rV := rR vc_43 20 0 (some 21)
def vc_45 : rV := rD vc_44 22
def vc_46 : rV := rR vc_45 20 1 (some 22)
def vc_47 : rV := rR vc_46 10 3 (some 20)
def vc_48 : rV := rR vc_47 0 3 (some 9)
def vc_49 : rV := rD vc_48 23
def vc_50 : rV := rD vc_49 24
def vc_51 : rV := rR vc_50 23 0 (some 24)
def vc_52 : rV := rD vc_51 25
def vc_53 : rV := rD vc_52 26
def vc_54 : rV := rR vc_53 25 0 (some 26)
def vc_55 : rV := rD vc_54 27
def vc_56 : rV := rR vc_55 25 1 (some 27)
def vc_57 : rV := rR vc_56 24 0 (some 25)
def vc_58 : rV := rD vc_57 28
def vc_59 : rV := rD vc_58 29
def vc_60 : rV := rR vc_59 28 0 (some 29)
def vc_61 : rV := rD vc_60 30
def vc_62 : rV := rR vc_61 28 1 (some 30)
def vc_63 : rV := rR vc_62 24 1 (some 28)
def vc_64 : rV := rD vc_63 31
def vc_65 : rV := rD vc_64 32
def vc_66 : rV := rR vc_65 31 0 (some 32)
def vc_67 : rV := rD vc_66 33
def vc_68 : rV := rR vc_67 31 1 (some 33)
def vc_69 : rV := rR vc_68 24 2 (some 31)
def vc_70 : rV := rD vc_69 34
def vc_71 : rV := rD vc_70 35
def vc_72 : rV := rR vc_71 34 0 (some 35)
def vc_73 : rV := rD vc_72 36
def vc_74 : rV := rR vc_73 34 1 (some 36)
def vc_75 : rV := rR vc_74 24 3 (some 34)
def vc_76 : rV := rR vc_75 0 4 (some 23)
def vc_77 : rV := rMn vc_76 37 12
def vc_78 : rV := rR vc_77 0 5 (some 37)
def vc_79 : rV := rD vc_78 50
def vc_80 : rV := rR vc_79 0 6 (some 50)
def vc_81 : rV := rD vc_80 51
def vc_82 : rV := rR vc_81 0 7 (some 51)
def vc_83 : rV := rMn vc_82 52 6
def vc_84 : rV := rR vc_83 0 8 (some 52)
def vc_85 : rV := rD vc_84 59
def vc_86 : rV := rR vc_85 0 9 (some 59)
def vc_87 : rV := rD vc_86 60
def vc_88 : rV := rD vc_87 61
def vc_89 : rV := rR vc_88 60 0 (some 61)
def vc_90 : rV := rD vc_89 62
def vc_91 : rV := rR vc_90 60 1 (some 62)
def vc_92 : rV := rD vc_91 63
def vc_93 : rV := rR vc_92 60 2 (some 63)
def vc_94 : rV := rMn vc_93 64 2
def vc_95 : rV := rR vc_94 60 4 (some 64)
def vc_96 : rV := rMn vc_95 67 2
def vc_97 : rV := rR vc_96 60 5 (some 67)
def vc_98 : rV := rD vc_97 70
def vc_99 : rV := rR vc_98 60 6 (some 70)
def vc_100 : rV := rD vc_99 71
def vc_101 : rV := rR vc_100 60 7 (some 71)
def vc_102 : rV := rD vc_101 72
def vc_103 : rV := rR vc_102 60 8 (some 72)
def vc_104 : rV := rD vc_103 73
def vc_105 : rV := rR vc_104 60 9 (some 73)
def vc_106 : rV := rD vc_105 74
def vc_107 : rV := rD vc_106 75
def vc_108 : rV := rR vc_107 74 0 (some 75)
def vc_109 : rV := rR vc_108 73 0 (some 74)
def vc_110 : rV := rD vc_109 76
def vc_111 : rV := rD vc_110 77
def vc_112 : rV := rR vc_111 76 0 (some 77)
def vc_113 : rV := rR vc_112 73 1 (some 76)
def vc_114 : rV := rD vc_113 78
def vc_115 : rV := rD vc_114 79
def vc_116 : rV := rR vc_115 78 0 (some 79)
def vc_117 : rV := rR vc_116 73 2 (some 78)
def vc_118 : rV := rD vc_117 80
def vc_119 : rV := rD vc_118 81
def vc_120 : rV := rR vc_119 80 0 (some 81)
def vc_121 : rV := rR vc_120 73 3 (some 80)
def vc_122 : rV := rD vc_121 82
def vc_123 : rV := rD vc_122 83
def vc_124 : rV := rR vc_123 82 0 (some 83)
def vc_125 : rV := rR vc_124 73 4 (some 82)
def vc_126 : rV := rD vc_125 84
def vc_127 : rV := rD vc_126 85
def vc_128 : rV := rR vc_127 84 0 (some 85)
def vc_129 : rV := rR vc_128 73 5 (some 84)
def vc_130 : rV := rD vc_129 86
def vc_131 : rV := rD vc_130 87
def vc_132 : rV := rR vc_131 86 0 (some 87)
def vc_133 : rV := rR vc_132 73 6 (some 86)
def vc_134 : rV := rD vc_133 88
def vc_135 : rV := rD vc_134 89
def vc_136 : rV := rR vc_135 88 0 (some 89)
def vc_137 : rV := rR vc_136 73 7 (some 88)
def vc_138 : rV := rD vc_137 90
def vc_139 : rV := rD vc_138 91
def vc_140 : rV := rR vc_139 90 0 (some 91)
def vc_141 : rV := rR vc_140 73 8 (some 90)
def vc_142 : rV := rD vc_141 92
def vc_143 : rV := rD vc_142 93
def vc_144 : rV := rR vc_143 92 0 (some 93)
def vc_145 : rV := rR vc_144 73 9 (some 92)
def vc_146 : rV := rD vc_145 94
def vc_147 : rV := rD vc_146 95
def vc_148 : rV := rR vc_147 94 0 (some 95)
def vc_149 : rV := rR vc_148 73 10 (some 94)
def vc_150 : rV := rD vc_149 96
def vc_151 : rV := rD vc_150 97
def vc_152 : rV := rR vc_151 96 0 (some 97)
def vc_153 : rV := rR vc_152 73 11 (some 96)
def vc_154 : rV := rR vc_153 0 10 (some 60)
def vc_155 : rV := rD vc_154 98
def vc_156 : rV := rD vc_155 99
def vc_157 : rV := rR vc_156 98 0 (some 99)
def vc_158 : rV := rD vc_157 100
def vc_159 : rV := rR vc_158 98 1 (some 100)
def vc_160 : rV := rD vc_159 101
def vc_161 : rV := rR vc_160 98 2 (some 101)
def vc_162 : rV := rMn vc_161 102 2
def vc_163 : rV := rR vc_162 98 4 (some 102)
def vc_164 : rV := rMn vc_163 105 2
def vc_165 : rV := rR vc_164 98 5 (some 105)
def vc_166 : rV := rD vc_165 108
def vc_167 : rV := rR vc_166 98 6 (some 108)
def vc_168 : rV := rD vc_167 109
def vc_169 : rV := rR vc_168 98 7 (some 109)
def vc_170 : rV := rD vc_169 110
def vc_171 : rV := rR vc_170 98 8 (some 110)
def vc_172 : rV := rD vc_171 111
def vc_173 : rV := rR vc_172 98 9 (some 111)
def vc_174 : rV := rD vc_173 112
def vc_175 : rV := rD vc_174 113
def vc_176 : rV := rR vc_175 112 0 (some 113)
def vc_177 : rV := rR vc_176 111 0 (some 112)
def vc_178 : rV := rD vc_177 114
def vc_179 : rV := rD vc_178 115
def vc_180 : rV := rR vc_179 114 0 (some 115)
def vc_181 : rV := rR vc_180 111 1 (some 114)
def vc_182 : rV := rD vc_181 116
def vc_183 : rV := rD vc_182 117
def vc_184 : rV := rR vc_183 116 0 (some 117)
def vc_185 : rV := rR vc_184 111 2 (some 116)
def vc_186 : rV := rD vc_185 118
def vc_187 : rV := rD vc_186 119
def vc_188 : rV := rR vc_187 118 0 (some 119)
def vc_189 : rV := rR vc_188 111 3 (some 118)
def vc_190 : rV := rD vc_189 120
def vc_191 : rV := rD vc_190 121
def vc_192 : rV := rR vc_191 120 0 (some 121)
def vc_193 : rV := rR vc_192 111 4 (some 120)
def vc_194 : rV := rD vc_193 122
def vc_195 : rV := rD vc_194 123
def vc_196 : rV := rR vc_195 122 0 (some 123)
def vc_197 : rV := rR vc_196 111 5 (some 122)
def vc_198 : rV := rD vc_197 124
def vc_199 : rV := rD vc_198 125
def vc_200 : rV := rR vc_199 124 0 (some 125)
def vc_201 : rV := rR vc_200 111 6 (some 124)
def vc_202 : rV := rD vc_201 126
def vc_203 : rV := rD vc_202 127
def vc_204 : rV := rR vc_203 126 0 (some 127)
def vc_205 : rV := rR vc_204 111 7 (some 126)
def vc_206 : rV := rD vc_205 128
def vc_207 : rV := rD vc_206 129
def vc_208 : rV := rR vc_207 128 0 (some 129)
def vc_209 : rV := rR vc_208 111 8 (some 128)
def vc_210 : rV := rD vc_209 130
def vc_211 : rV := rD vc_210 131
def vc_212 : rV := rR vc_211 130 0 (some 131)
def vc_213 : rV := rR vc_212 111 9 (some 130)
def vc_214 : rV := rD vc_213 132
def vc_215 : rV := rD vc_214 133
def vc_216 : rV := rR vc_215 132 0 (some 133)
def vc_217 : rV := rR vc_216 111 10 (some 132)
def vc_218 : rV := rD vc_217 134
def vc_219 : rV := rD vc_218 135
def vc_220 : rV := rR vc_219 134 0 (some 135)
def vc_221 : rV := rR vc_220 111 11 (some 134)
def vc_222 : rV := rR vc_221 0 11 (some 98)
def vc_223 : rV := rD vc_222 136
def vc_224 : rV := rD vc_223 137
def vc_225 : rV := rR vc_224 136 0 (some 137)
def vc_226 : rV := rD vc_225 138
def vc_227 : rV := rR vc_226 136 1 (some 138)
def vc_228 : rV := rD vc_227 139
def vc_229 : rV := rR vc_228 136 2 (some 139)
def vc_230 : rV := rMn vc_229 140 2
def vc_231 : rV := rR vc_230 136 4 (some 140)
def vc_232 : rV := rMn vc_231 143 2
def vc_233 : rV := rR vc_232 136 5 (some 143)
def vc_234 : rV := rD vc_233 146
def vc_235 : rV := rR vc_234 136 6 (some 146)
def vc_236 : rV := rD vc_235 147
def vc_237 : rV := rR vc_236 136 7 (some 147)
def vc_238 : rV := rD vc_237 148
def vc_239 : rV := rR vc_238 136 8 (some 148)
def vc_240 : rV := rD vc_239 149
def vc_241 : rV := rR vc_240 136 9 (some 149)
def vc_242 : rV := rD vc_241 150
def vc_243 : rV := rD vc_242 151
def vc_244 : rV := rR vc_243 150 0 (some 151)
def vc_245 : rV := rR vc_244 149 0 (some 150)
def vc_246 : rV := rD vc_245 152
def vc_247 : rV := rD vc_246 153
def vc_248 : rV := rR vc_247 152 0 (some 153)
def vc_249 : rV := rR vc_248 149 1 (some 152)
def vc_250 : rV := rD vc_249 154
def vc_251 : rV := rD vc_250 155
def vc_252 : rV := rR vc_251 154 0 (some 155)
def vc_253 : rV := rR vc_252 149 2 (some 154)
def vc_254 : rV := rD vc_253 156
def vc_255 : rV := rD vc_254 157
def vc_256 : rV := rR vc_255 156 0 (some 157)
def vc_257 : rV := rR vc_256 149 3 (some 156)
def vc_258 : rV := rD vc_257 158
def vc_259 : rV := rD vc_258 159
def vc_260 : rV := rR vc_259 158 0 (some 159)
def vc_261 : rV := rR vc_260 149 4 (some 158)
def vc_262 : rV := rD vc_261 160
def vc_263 : rV := rD vc_262 161
def vc_264 : rV := rR vc_263 160 0 (some 161)
def vc_265 : rV := rR vc_264 149 5 (some 160)
def vc_266 : rV := rD vc_265 162
def vc_267 : rV := rD vc_266 163
def vc_268 : rV := rR vc_267 162 0 (some 163)
def vc_269 : rV := rR vc_268 149 6 (some 162)
def vc_270 : rV := rD vc_269 164
def vc_271 : rV := rD vc_270 165
def vc_272 : rV := rR vc_271 164 0 (some 165)
def vc_273 : rV := rR vc_272 149 7 (some 164)
def vc_274 : rV := rD vc_273 166
def vc_275 : rV := rD vc_274 167
def vc_276 : rV := rR vc_275 166 0 (some 167)
def vc_277 : rV := rR vc_276 149 8 (some 166)
def vc_278 : rV := rD vc_277 168
def vc_279 : rV := rD vc_278 169
def vc_280 : rV := rR vc_279 168 0 (some 169)
def vc_281 : rV := rR vc_280 149 9 (some 168)
def vc_282 : rV := rD vc_281 170
def vc_283 : rV := rD vc_282 171
def vc_284 : rV := rR vc_283 170 0 (some 171)
def vc_285 : rV := rR vc_284 149 10 (some 170)
def vc_286 : rV := rD vc_285 172
def vc_287 : rV := rD vc_286 173
def vc_288 : rV := rR vc_287 172 0 (some 173)
def vc_289 : rV := rR vc_288 149 11 (some 172)
def vc_290 : rV := rR vc_289 0 12 (some 136)
def vc_291 : rV := rI vc_290 0 15 (3 : Int32)
def vc_292 : rV := rI vc_291 50 0 (1 : Int32)
def vc_293 : rV := rI vc_292 50 1 (1 : Int32)
def vc_294 : rV := rI vc_293 50 2 (1 : Int32)
def vc_295 : rV := rI vc_294 50 3 (1 : Int32)
def vc_296 : rV := rI vc_295 50 4 (1 : Int32)
def vc_297 : rV := rI vc_296 50 5 (1 : Int32)
def vc_298 : rV := rI vc_297 50 6 (1 : Int32)
def vc_299 : rV := rI vc_298 50 7 (1 : Int32)
def vc_300 : rV := rI vc_299 50 8 (1 : Int32)
def vc_301 : rV := rI vc_300 50 9 (1 : Int32)
def vc_302 : rV := rI vc_301 50 10 (1 : Int32)
def vc_303 : rV := rI vc_302 50 11 (1 : Int32)
def vc_304 : rV := rD vc_303 174
def vc_305 : rV := rD vc_304 175
def vc_306 : rV := rR vc_305 174 1 (some 175)
def vc_307 : rV := rD vc_306 176
def vc_308 : rV := rR vc_307 174 6 (some 176)
def vc_309 : rV := rD vc_308 177
def vc_310 : rV := rR vc_309 174 7 (some 177)
def vc_311 : rV := rD vc_310 178
def vc_312 : rV := rR vc_311 174 8 (some 178)
def vc_313 : rV := rD vc_312 179
def vc_314 : rV := rR vc_313 174 9 (some 179)
def vc_315 : rV := rD vc_314 180
def vc_316 : rV := rR vc_315 174 10 (some 180)
def vc_317 : rV := rD vc_316 181
def vc_318 : rV := rR vc_317 174 11 (some 181)
def vc_319 : rV := rD vc_318 182
def vc_320 : rV := rR vc_319 174 12 (some 182)
def vc_321 : rV := rD vc_320 183
def vc_322 : rV := rR vc_321 174 17 (some 183)
def vc_323 : rV := rD vc_322 184
def vc_324 : rV := rR vc_323 174 18 (some 184)
def vc_325 : rV := rD vc_324 185
def vc_326 : rV := rR vc_325 174 19 (some 185)
def vc_327 : rV := rD vc_326 186
def vc_328 : rV := rR vc_327 174 20 (some 186)
def vc_329 : rV := rI vc_328 174 23 (3 : Int32)
def vc_330 : rV := rD vc_329 187
def vc_331 : rV := rR vc_330 174 24 (some 187)
def vc_332 : rV := rD vc_331 188
def vc_333 : rV := rR vc_332 174 25 (some 188)
def vc_334 : rV := rD vc_333 189
def vc_335 : rV := rR vc_334 174 26 (some 189)
def vc_336 : rV := rD vc_335 190
def vc_337 : rV := rR vc_336 174 31 (some 190)
def vc_338 : rV := rD vc_337 191
def vc_339 : rV := rR vc_338 174 32 (some 191)
def vc_340 : rV := rD vc_339 192
def vc_341 : rV := rR vc_340 174 33 (some 192)
def vc_342 : rV := rD vc_341 193
def vc_343 : rV := rR vc_342 174 35 (some 193)
def vc_344 : rV := rD vc_343 194
def vc_345 : rV := rR vc_344 174 36 (some 194)
def vc_346 : rV := rD vc_345 195
def vc_347 : rV := rR vc_346 174 40 (some 195)
def vc_348 : rV := rD vc_347 196
def vc_349 : rV := rR vc_348 174 42 (some 196)
def vc_350 : rV := rD vc_349 197
