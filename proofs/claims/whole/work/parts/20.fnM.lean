/-! methods as functions over the numbered heap: 20.fnM -/
def f_X8_in (a0 : Int32) (a1 : Int32) (a2 : Int32) : Bool := if a0 < a1 then
  (false)
else
  (if a2 < a0 then
  (false)
else
  (true))
set_option maxRecDepth 20000 in
theorem x_X8_in {X : Nat × (Nat → Int32)} {v : rV} {a0 : Int32} {a1 : Int32} {a2 : Int32}  : EvM mX8_in 1 0 0 [.int a0, .int a1, .int a2] (rZ X) v (rPZ X ((f_X8_in a0 a1 a2), v)) := by
  refine evm_of (by decide +kernel) (fun G => Nat.le_of_ble_eq_true rfl) ?_
  show Ev mX8_in 1 0 0 0 [(0, .int a0), (1, .int a1), (2, .int a2)] [] (rZ X) v _
  generalize h : f_X8_in a0 a1 a2 = r
  unfold f_X8_in at h
  refine e_iload_n dX8_in_0 rfl ?_
  refine e_iload_n dX8_in_1 rfl ?_
  refine e_icmp_lt (tgt := 14) dX8_in_2 (by decide) (fun c2 => ?_) (fun c2 => ?_)
  · rw [if_pos c2] at h
    refine e_iconst (x := (0 : Int32)) dX8_in_14 (by decide) ?_
    subst h
    exact e_iret dX8_in_15 rfl rfl ⟨rfl, rfl, rfl⟩
  · rw [if_neg c2] at h
    refine e_iload_n dX8_in_5 rfl ?_
    refine e_iload_n dX8_in_6 rfl ?_
    refine e_icmp_gt (tgt := 14) dX8_in_7 (by decide) (fun c1 => ?_) (fun c1 => ?_)
    · rw [if_pos c1] at h
      refine e_iconst (x := (0 : Int32)) dX8_in_14 (by decide) ?_
      subst h
      exact e_iret dX8_in_15 rfl rfl ⟨rfl, rfl, rfl⟩
    · rw [if_neg c1] at h
      refine e_iconst (x := (1 : Int32)) dX8_in_10 (by decide) ?_
      refine e_goto (tgt := 15) dX8_in_11 (by decide) ?_
      subst h
      exact e_iret dX8_in_15 rfl rfl ⟨rfl, rfl, rfl⟩
def f_X8_isCell (a0 : Int32) : Bool := (f_X8_in a0 (0 : Int32) (23 : Int32))
set_option maxRecDepth 20000 in
theorem x_X8_isCell {X : Nat × (Nat → Int32)} {v : rV} {a0 : Int32}  : EvM mX8_isCell 2 0 0 [.int a0] (rZ X) v (rPZ X ((f_X8_isCell a0), v)) := by
  refine evm_of (by decide +kernel) (fun G => Nat.le_of_ble_eq_true rfl) ?_
  show Ev mX8_isCell 2 0 0 0 [(0, .int a0)] [] (rZ X) v _
  generalize h : f_X8_isCell a0 = r
  unfold f_X8_isCell at h
  refine e_iload_n dX8_isCell_0 rfl ?_
  refine e_iconst (x := (0 : Int32)) dX8_isCell_1 (by decide) ?_
  refine e_bipush (x := (23 : Int32)) dX8_isCell_2 (by decide) ?_
  refine c_SZ (M' := mX8_in) [.int a0, .int (0 : Int32), .int (23 : Int32)] dX8_isCell_4 rfl wmX8_216 stX8_in lkX8_in (Nat.le_of_ble_eq_true rfl) ((x_X8_in ).mono (by omega)) ?_
  subst h
  exact e_iret dX8_isCell_7 rfl (bI_z _) ⟨rfl, rfl, rfl⟩
def f_X8_laidIn (v : rV) (a1 : Int32) : Option (Int32) := if (f_X8_isCell a1) = true then
  (if ¬ ((72 : Int32) + a1) < 0 ∧ ((72 : Int32) + a1).toNatClampNeg < 416 then
  (if ¬ ((96 : Int32) + a1) < 0 ∧ ((96 : Int32) + a1).toNatClampNeg < 416 then
  (some ((v.1 187 (((72 : Int32) + a1).toNatClampNeg)) + (v.1 187 (((96 : Int32) + a1).toNatClampNeg))))
else none)
else none)
else
  (some (0 : Int32))
set_option maxRecDepth 20000 in
theorem x_X8_laidIn {X : Nat × (Nat → Int32)} {v : rV} {r : Int32} {a1 : Int32}  (h : f_X8_laidIn v a1 = some r) : EvM mX8_laidIn 3 0 0 [.ref 174, .int a1] (rZ X) v (rPI X (r, v)) := by
  refine evm_of (by decide +kernel) (fun G => Nat.le_of_ble_eq_true rfl) ?_
  show Ev mX8_laidIn 3 0 0 0 [(0, .ref 174), (1, .int a1)] [] (rZ X) v _
  unfold f_X8_laidIn at h
  refine e_iload_n dX8_laidIn_0 rfl ?_
  refine c_SZ (M' := mX8_isCell) [.int a1] dX8_laidIn_1 rfl wmX8_353 stX8_isCell lkX8_isCell (Nat.le_of_ble_eq_true rfl) ((x_X8_isCell ).mono (by omega)) ?_
  refine e_if_eq (tgt := 29) dX8_laidIn_4 (by decide) (fun c4 => ?_) (fun c4 => ?_)
  · rw [if_neg (bI_n c4)] at h
    refine e_iconst (x := (0 : Int32)) dX8_laidIn_29 (by decide) ?_
    obtain rfl := Option.some.inj h
    exact e_iret dX8_laidIn_30 rfl rfl ⟨rfl, rfl, rfl⟩
  · rw [if_pos (bI_p c4)] at h
    refine e_aload_n dX8_laidIn_7 rfl ?_
    refine e_get (w := .ref 187) (j := 24) dX8_laidIn_8 k0_174 rc8 (by decide) wfX8_50 (g0_174_24) ?_
    refine e_bipush (x := (72 : Int32)) dX8_laidIn_11 (by decide) ?_
    refine e_iload_n dX8_laidIn_13 rfl ?_
    refine e_iadd dX8_laidIn_14 ?_
    obtain ⟨c2, h⟩ := grd h
    refine e_ialdJ dX8_laidIn_15 k0_187 rfl c2.2 c2.1 ?_
    refine e_aload_n dX8_laidIn_16 rfl ?_
    refine e_get (w := .ref 187) (j := 24) dX8_laidIn_17 k0_174 rc8 (by decide) wfX8_50 (g0_174_24) ?_
    refine e_bipush (x := (96 : Int32)) dX8_laidIn_20 (by decide) ?_
    refine e_iload_n dX8_laidIn_22 rfl ?_
    refine e_iadd dX8_laidIn_23 ?_
    obtain ⟨c3, h⟩ := grd h
    refine e_ialdJ dX8_laidIn_24 k0_187 rfl c3.2 c3.1 ?_
    refine e_iadd dX8_laidIn_25 ?_
    refine e_goto (tgt := 30) dX8_laidIn_26 (by decide) ?_
    obtain rfl := Option.some.inj h
    exact e_iret dX8_laidIn_30 rfl rfl ⟨rfl, rfl, rfl⟩
def f_X8_ring_6 (v : rV)  : Nat → Int32 → Int32 → Int32 → Option (Int32)
  | 0, _, _, _ => none
  | n + 1, a1, a2, a3 => if (24 : Int32) ≤ a3 then
  (if a1 = 0 then
  (some (0 : Int32))
else
  (if a1 = 0 then none else
  some (((100 : Int32) * a2) / a1)))
else
  ((f_X8_laidIn v a3).bind fun p3 =>
  vlet (a1 + p3 : Int32) fun x4 =>
  if ¬ ((192 : Int32) + a3) < 0 ∧ ((192 : Int32) + a3).toNatClampNeg < 416 then
  ((f_X8_laidIn v a3).bind fun p6 =>
  vlet (a2 + ((v.1 187 (((192 : Int32) + a3).toNatClampNeg)) * p6) : Int32) fun x7 =>
  vlet (a3 + (1 : Int32)) fun x8 =>
  f_X8_ring_6 v n x4 x7 x8)
else none)
def f_X8_ring (v : rV)  : Option (Int32) := f_X8_ring_6 v 20000 (0 : Int32) (0 : Int32) (0 : Int32)
set_option maxRecDepth 20000 in
theorem b_X8_ring_6 {X : Nat × (Nat → Int32)} {r : Int32} {v : rV}   : ∀ (n : Nat) (a1 : Int32) (a2 : Int32) (a3 : Int32) , f_X8_ring_6 v  n a1 a2 a3 = some r → Ev mX8_ring 4 0 0 6 [(0, .ref 174), (1, .int a1), (2, .int a2), (3, .int a3)] [] (rZ X) v (rPI X (r, v)) := by
  intro n
  induction n with
  | zero =>
    intros
    rename_i h
    cases h
  | succ n ih =>
    intro a1 a2 a3 h
    rw [f_X8_ring_6] at h
    refine e_iload_n dX8_ring_6 rfl ?_
    refine e_bipush (x := (24 : Int32)) dX8_ring_7 (by decide) ?_
    refine e_icmp_ge (tgt := 45) dX8_ring_9 (by decide) (fun c9 => ?_) (fun c9 => ?_)
    · rw [if_pos c9] at h
      refine e_iload_n dX8_ring_45 rfl ?_
      refine e_if_ne (tgt := 53) dX8_ring_46 (by decide) (fun c2 => ?_) (fun c2 => ?_)
      · rw [if_neg c2] at h
        refine e_bipush (x := (100 : Int32)) dX8_ring_53 (by decide) ?_
        refine e_iload_n dX8_ring_55 rfl ?_
        refine e_imul dX8_ring_56 ?_
        refine e_iload_n dX8_ring_57 rfl ?_
        obtain ⟨c1, h⟩ := grdn h
        refine e_idiv dX8_ring_58 c1 ?_
        obtain rfl := Option.some.inj h
        exact e_iret dX8_ring_59 rfl rfl ⟨rfl, rfl, rfl⟩
      · rw [if_pos c2] at h
        refine e_iconst (x := (0 : Int32)) dX8_ring_49 (by decide) ?_
        refine e_goto (tgt := 59) dX8_ring_50 (by decide) ?_
        obtain rfl := Option.some.inj h
        exact e_iret dX8_ring_59 rfl rfl ⟨rfl, rfl, rfl⟩
    · rw [if_neg c9] at h
      refine e_iload_n dX8_ring_12 rfl ?_
      refine e_aload_n dX8_ring_13 rfl ?_
      refine e_iload_n dX8_ring_14 rfl ?_
      obtain ⟨p3, ep3, h⟩ := Option.bind_eq_some_iff.mp h
      refine c_VI (M' := mX8_laidIn) [.int a3] dX8_ring_15 rfl wmX8_357 imX8_laidIn seX8_laidIn lkX8_laidIn k0_174 rc8 (Nat.le_of_ble_eq_true rfl) ((x_X8_laidIn  ep3).mono (by omega)) ?_
      refine e_iadd dX8_ring_18 ?_
      obtain ⟨x4, ex4, h⟩ := vlet_ex h
      refine e_nameI ex4.symm ?_
      clear ex4
      refine e_istore_n (lv' := [(1, .int x4), (0, .ref 174), (2, .int a2), (3, .int a3)]) dX8_ring_19 (by decide) rfl ?_
      refine e_iload_n dX8_ring_20 rfl ?_
      refine e_aload_n dX8_ring_21 rfl ?_
      refine e_get (w := .ref 187) (j := 24) dX8_ring_22 k0_174 rc8 (by decide) wfX8_50 (g0_174_24) ?_
      refine e_sipush (x := (192 : Int32)) dX8_ring_25 (by decide) ?_
      refine e_iload_n dX8_ring_28 rfl ?_
      refine e_iadd dX8_ring_29 ?_
      obtain ⟨c5, h⟩ := grd h
      refine e_ialdJ dX8_ring_30 k0_187 rfl c5.2 c5.1 ?_
      refine e_aload_n dX8_ring_31 rfl ?_
      refine e_iload_n dX8_ring_32 rfl ?_
      obtain ⟨p6, ep6, h⟩ := Option.bind_eq_some_iff.mp h
      refine c_VI (M' := mX8_laidIn) [.int a3] dX8_ring_33 rfl wmX8_357 imX8_laidIn seX8_laidIn lkX8_laidIn k0_174 rc8 (Nat.le_of_ble_eq_true rfl) ((x_X8_laidIn  ep6).mono (by omega)) ?_
      refine e_imul dX8_ring_36 ?_
      refine e_iadd dX8_ring_37 ?_
      obtain ⟨x7, ex7, h⟩ := vlet_ex h
      refine e_nameI ex7.symm ?_
      clear ex7
      refine e_istore_n (lv' := [(2, .int x7), (1, .int x4), (0, .ref 174), (3, .int a3)]) dX8_ring_38 (by decide) rfl ?_
      obtain ⟨x8, ex8, h⟩ := vlet_ex h
      refine e_iinc (lv' := [(3, .int x8), (2, .int x7), (1, .int x4), (0, .ref 174)]) dX8_ring_39 rfl (ex8.symm) (by decide) rfl ?_
      clear ex8
      refine e_goto (tgt := 6) dX8_ring_42 (by decide) ?_
      refine e_sub [3, 2, 1, 0] rfl ?_
      exact ih x4 x7 x8 h
set_option maxRecDepth 20000 in
theorem x_X8_ring {X : Nat × (Nat → Int32)} {v : rV} {r : Int32}   (h : f_X8_ring v = some r) : EvM mX8_ring 4 0 0 [.ref 174] (rZ X) v (rPI X (r, v)) := by
  refine evm_of (by decide +kernel) (fun G => Nat.le_of_ble_eq_true rfl) ?_
  show Ev mX8_ring 4 0 0 0 [(0, .ref 174)] [] (rZ X) v _
  unfold f_X8_ring at h
  refine e_iconst (x := (0 : Int32)) dX8_ring_0 (by decide) ?_
  refine e_istore_n (lv' := [(1, .int (0 : Int32)), (0, .ref 174)]) dX8_ring_1 (by decide) rfl ?_
  refine e_iconst (x := (0 : Int32)) dX8_ring_2 (by decide) ?_
  refine e_istore_n (lv' := [(2, .int (0 : Int32)), (1, .int (0 : Int32)), (0, .ref 174)]) dX8_ring_3 (by decide) rfl ?_
  refine e_iconst (x := (0 : Int32)) dX8_ring_4 (by decide) ?_
  refine e_istore_n (lv' := [(3, .int (0 : Int32)), (2, .int (0 : Int32)), (1, .int (0 : Int32)), (0, .ref 174)]) dX8_ring_5 (by decide) rfl ?_
  refine e_sub [3, 2, 1, 0] rfl ?_
  exact b_X8_ring_6  _ (0 : Int32) (0 : Int32) (0 : Int32) h
def f_X8_rings_46 (v : rV) (q4 : Int32 → Int32 → Option (Int32)) (a2 : Int32) (s0 : Int32) (s1 : Int32) : Option (Int32) := vlet (s1 + s0 : Int32) fun x3 =>
  vlet (a2 + (1 : Int32)) fun x4 =>
  q4 x3 x4
def f_X8_rings_45 (v : rV) (q4 : Int32 → Int32 → Option (Int32)) (a2 : Int32) (s0 : Int32) : Option (Int32) := f_X8_rings_46 v q4 a2 (0 : Int32) s0
def f_X8_rings_4 (v : rV)  : Nat → Int32 → Int32 → Option (Int32)
  | 0, _, _ => none
  | n + 1, a1, a2 => if (24 : Int32) ≤ a2 then
  (some a1)
else
  ((f_X8_laidIn v a2).bind fun p1 =>
  (f_X8_laidIn v (a2 - (1 : Int32))).bind fun p2 =>
  if p1 ≤ p2 then
  (f_X8_rings_45 v (fun a1 a2 => f_X8_rings_4 v n a1 a2) a2 a1)
else
  ((f_X8_laidIn v a2).bind fun p5 =>
  (f_X8_laidIn v (a2 + (1 : Int32))).bind fun p6 =>
  if p5 ≤ p6 then
  (f_X8_rings_45 v (fun a1 a2 => f_X8_rings_4 v n a1 a2) a2 a1)
else
  (f_X8_rings_46 v (fun a1 a2 => f_X8_rings_4 v n a1 a2) a2 (1 : Int32) a1)))
def f_X8_rings (v : rV)  : Option (Int32) := f_X8_rings_4 v 20000 (0 : Int32) (0 : Int32)
set_option maxRecDepth 20000 in
theorem b_X8_rings_46 {X : Nat × (Nat → Int32)} {r : Int32} {v : rV} {q4 : Int32 → Int32 → Option (Int32)} (hq4 : ∀ (a1 : Int32) (a2 : Int32) , q4 a1 a2 = some r → Ev mX8_rings 4 0 0 4 [(0, .ref 174), (1, .int a1), (2, .int a2)] [] (rZ X) v (rPI X (r, v))) {a2 : Int32} {s0 : Int32} {s1 : Int32}  (h : f_X8_rings_46 v q4 a2 s0 s1 = some r) : Ev mX8_rings 4 0 0 46 [(0, .ref 174), (2, .int a2)] [.int s0, .int s1] (rZ X) v (rPI X (r, v)) := by
  unfold f_X8_rings_46 at h
  refine e_iadd dX8_rings_46 ?_
  obtain ⟨x3, ex3, h⟩ := vlet_ex h
  refine e_nameI ex3.symm ?_
  clear ex3
  refine e_istore_n (lv' := [(1, .int x3), (0, .ref 174), (2, .int a2)]) dX8_rings_47 (by decide) rfl ?_
  obtain ⟨x4, ex4, h⟩ := vlet_ex h
  refine e_iinc (lv' := [(2, .int x4), (1, .int x3), (0, .ref 174)]) dX8_rings_48 rfl (ex4.symm) (by decide) rfl ?_
  clear ex4
  refine e_goto (tgt := 4) dX8_rings_51 (by decide) ?_
  refine e_sub [2, 1, 0] rfl ?_
  exact hq4 x3 x4 h
set_option maxRecDepth 20000 in
theorem b_X8_rings_45 {X : Nat × (Nat → Int32)} {r : Int32} {v : rV} {q4 : Int32 → Int32 → Option (Int32)} (hq4 : ∀ (a1 : Int32) (a2 : Int32) , q4 a1 a2 = some r → Ev mX8_rings 4 0 0 4 [(0, .ref 174), (1, .int a1), (2, .int a2)] [] (rZ X) v (rPI X (r, v))) {a2 : Int32} {s0 : Int32}  (h : f_X8_rings_45 v q4 a2 s0 = some r) : Ev mX8_rings 4 0 0 45 [(0, .ref 174), (2, .int a2)] [.int s0] (rZ X) v (rPI X (r, v)) := by
  unfold f_X8_rings_45 at h
  refine e_iconst (x := (0 : Int32)) dX8_rings_45 (by decide) ?_
  exact b_X8_rings_46 hq4 h
set_option maxRecDepth 20000 in
theorem b_X8_rings_4 {X : Nat × (Nat → Int32)} {r : Int32} {v : rV}   : ∀ (n : Nat) (a1 : Int32) (a2 : Int32) , f_X8_rings_4 v  n a1 a2 = some r → Ev mX8_rings 4 0 0 4 [(0, .ref 174), (1, .int a1), (2, .int a2)] [] (rZ X) v (rPI X (r, v)) := by
  intro n
  induction n with
  | zero =>
    intros
    rename_i h
    cases h
  | succ n ih =>
    intro a1 a2 h
    rw [f_X8_rings_4] at h
    refine e_iload_n dX8_rings_4 rfl ?_
    refine e_bipush (x := (24 : Int32)) dX8_rings_5 (by decide) ?_
    refine e_icmp_ge (tgt := 54) dX8_rings_7 (by decide) (fun c9 => ?_) (fun c9 => ?_)
    · rw [if_pos c9] at h
      refine e_iload_n dX8_rings_54 rfl ?_
      obtain rfl := Option.some.inj h
      exact e_iret dX8_rings_55 rfl rfl ⟨rfl, rfl, rfl⟩
    · rw [if_neg c9] at h
      refine e_iload_n dX8_rings_10 rfl ?_
      refine e_aload_n dX8_rings_11 rfl ?_
      refine e_iload_n dX8_rings_12 rfl ?_
      obtain ⟨p1, ep1, h⟩ := Option.bind_eq_some_iff.mp h
      refine c_VI (M' := mX8_laidIn) [.int a2] dX8_rings_13 rfl wmX8_357 imX8_laidIn seX8_laidIn lkX8_laidIn k0_174 rc8 (Nat.le_of_ble_eq_true rfl) ((x_X8_laidIn  ep1).mono (by omega)) ?_
      refine e_aload_n dX8_rings_16 rfl ?_
      refine e_iload_n dX8_rings_17 rfl ?_
      refine e_iconst (x := (1 : Int32)) dX8_rings_18 (by decide) ?_
      refine e_isub dX8_rings_19 ?_
      obtain ⟨p2, ep2, h⟩ := Option.bind_eq_some_iff.mp h
      refine c_VI (M' := mX8_laidIn) [.int (a2 - (1 : Int32))] dX8_rings_20 rfl wmX8_357 imX8_laidIn seX8_laidIn lkX8_laidIn k0_174 rc8 (Nat.le_of_ble_eq_true rfl) ((x_X8_laidIn  ep2).mono (by omega)) ?_
      refine e_icmp_le (tgt := 45) dX8_rings_23 (by decide) (fun c8 => ?_) (fun c8 => ?_)
      · rw [if_pos c8] at h
        refine e_sub [0, 2] rfl ?_
        exact b_X8_rings_45 (fun a1 a2  hh => ih a1 a2  hh) h
      · rw [if_neg c8] at h
        refine e_aload_n dX8_rings_26 rfl ?_
        refine e_iload_n dX8_rings_27 rfl ?_
        obtain ⟨p5, ep5, h⟩ := Option.bind_eq_some_iff.mp h
        refine c_VI (M' := mX8_laidIn) [.int a2] dX8_rings_28 rfl wmX8_357 imX8_laidIn seX8_laidIn lkX8_laidIn k0_174 rc8 (Nat.le_of_ble_eq_true rfl) ((x_X8_laidIn  ep5).mono (by omega)) ?_
        refine e_aload_n dX8_rings_31 rfl ?_
        refine e_iload_n dX8_rings_32 rfl ?_
        refine e_iconst (x := (1 : Int32)) dX8_rings_33 (by decide) ?_
        refine e_iadd dX8_rings_34 ?_
        obtain ⟨p6, ep6, h⟩ := Option.bind_eq_some_iff.mp h
        refine c_VI (M' := mX8_laidIn) [.int (a2 + (1 : Int32))] dX8_rings_35 rfl wmX8_357 imX8_laidIn seX8_laidIn lkX8_laidIn k0_174 rc8 (Nat.le_of_ble_eq_true rfl) ((x_X8_laidIn  ep6).mono (by omega)) ?_
        refine e_icmp_le (tgt := 45) dX8_rings_38 (by decide) (fun c7 => ?_) (fun c7 => ?_)
        · rw [if_pos c7] at h
          refine e_sub [0, 2] rfl ?_
          exact b_X8_rings_45 (fun a1 a2  hh => ih a1 a2  hh) h
        · rw [if_neg c7] at h
          refine e_iconst (x := (1 : Int32)) dX8_rings_41 (by decide) ?_
          refine e_goto (tgt := 46) dX8_rings_42 (by decide) ?_
          refine e_sub [0, 2] rfl ?_
          exact b_X8_rings_46 (fun a1 a2  hh => ih a1 a2  hh) h
set_option maxRecDepth 20000 in
theorem x_X8_rings {X : Nat × (Nat → Int32)} {v : rV} {r : Int32}   (h : f_X8_rings v = some r) : EvM mX8_rings 4 0 0 [.ref 174] (rZ X) v (rPI X (r, v)) := by
  refine evm_of (by decide +kernel) (fun G => Nat.le_of_ble_eq_true rfl) ?_
  show Ev mX8_rings 4 0 0 0 [(0, .ref 174)] [] (rZ X) v _
  unfold f_X8_rings at h
  refine e_iconst (x := (0 : Int32)) dX8_rings_0 (by decide) ?_
  refine e_istore_n (lv' := [(1, .int (0 : Int32)), (0, .ref 174)]) dX8_rings_1 (by decide) rfl ?_
  refine e_iconst (x := (0 : Int32)) dX8_rings_2 (by decide) ?_
  refine e_istore_n (lv' := [(2, .int (0 : Int32)), (1, .int (0 : Int32)), (0, .ref 174)]) dX8_rings_3 (by decide) rfl ?_
  refine e_sub [2, 1, 0] rfl ?_
  exact b_X8_rings_4  _ (0 : Int32) (0 : Int32) h
def f_X8_even_59 (v : rV) (q6 : Int32 → Int32 → Int32 → Option (Int32)) (a1 : Int32) (a2 : Int32) (a3 : Int32) : Option (Int32) := vlet (a3 + (1 : Int32)) fun x3 =>
  q6 a1 a2 x3
def f_X8_even_48 (v : rV) (q6 : Int32 → Int32 → Int32 → Option (Int32)) (a2 : Int32) (a3 : Int32) (s0 : Int32) : Option (Int32) := (f_X8_laidIn v a3).bind fun p5 =>
  vlet (if a2 < p5 then p5 else a2 : Int32) fun x6 =>
  f_X8_even_59 v q6 s0 x6 a3
def f_X8_even_6 (v : rV)  : Nat → Int32 → Int32 → Int32 → Option (Int32)
  | 0, _, _, _ => none
  | n + 1, a1, a2, a3 => if (24 : Int32) ≤ a3 then
  (if a1 = (-1 : Int32) then
  (some (0 : Int32))
else
  (some (a2 - a1)))
else
  (if ¬ ((216 : Int32) + a3) < 0 ∧ ((216 : Int32) + a3).toNatClampNeg < 416 then
  (if (v.1 187 (((216 : Int32) + a3).toNatClampNeg)) = (1 : Int32) then
  (if a1 = (-1 : Int32) then
  ((f_X8_laidIn v a3).bind fun p7 =>
  f_X8_even_48 v (fun a1 a2 a3 => f_X8_even_6 v n a1 a2 a3) a2 a3 p7)
else
  ((f_X8_laidIn v a3).bind fun p4 =>
  f_X8_even_48 v (fun a1 a2 a3 => f_X8_even_6 v n a1 a2 a3) a2 a3 (if p4 < a1 then p4 else a1)))
else
  (f_X8_even_59 v (fun a1 a2 a3 => f_X8_even_6 v n a1 a2 a3) a1 a2 a3))
else none)
def f_X8_even (v : rV)  : Option (Int32) := f_X8_even_6 v 20000 (-1 : Int32) (0 : Int32) (0 : Int32)
set_option maxRecDepth 20000 in
theorem b_X8_even_59 {X : Nat × (Nat → Int32)} {r : Int32} {v : rV} {q6 : Int32 → Int32 → Int32 → Option (Int32)} (hq6 : ∀ (a1 : Int32) (a2 : Int32) (a3 : Int32) , q6 a1 a2 a3 = some r → Ev mX8_even 4 0 0 6 [(0, .ref 174), (1, .int a1), (2, .int a2), (3, .int a3)] [] (rZ X) v (rPI X (r, v))) {a1 : Int32} {a2 : Int32} {a3 : Int32}  (h : f_X8_even_59 v q6 a1 a2 a3 = some r) : Ev mX8_even 4 0 0 59 [(0, .ref 174), (1, .int a1), (2, .int a2), (3, .int a3)] [] (rZ X) v (rPI X (r, v)) := by
  unfold f_X8_even_59 at h
  obtain ⟨x3, ex3, h⟩ := vlet_ex h
  refine e_iinc (lv' := [(3, .int x3), (0, .ref 174), (1, .int a1), (2, .int a2)]) dX8_even_59 rfl (ex3.symm) (by decide) rfl ?_
  clear ex3
  refine e_goto (tgt := 6) dX8_even_62 (by decide) ?_
  refine e_sub [1, 2, 3, 0] rfl ?_
  exact hq6 a1 a2 x3 h
set_option maxRecDepth 20000 in
theorem b_X8_even_48 {X : Nat × (Nat → Int32)} {r : Int32} {v : rV} {q6 : Int32 → Int32 → Int32 → Option (Int32)} (hq6 : ∀ (a1 : Int32) (a2 : Int32) (a3 : Int32) , q6 a1 a2 a3 = some r → Ev mX8_even 4 0 0 6 [(0, .ref 174), (1, .int a1), (2, .int a2), (3, .int a3)] [] (rZ X) v (rPI X (r, v))) {a2 : Int32} {a3 : Int32} {s0 : Int32}  (h : f_X8_even_48 v q6 a2 a3 s0 = some r) : Ev mX8_even 4 0 0 48 [(0, .ref 174), (2, .int a2), (3, .int a3)] [.int s0] (rZ X) v (rPI X (r, v)) := by
  unfold f_X8_even_48 at h
  refine e_istore_n (lv' := [(1, .int s0), (0, .ref 174), (2, .int a2), (3, .int a3)]) dX8_even_48 (by decide) rfl ?_
  refine e_iload_n dX8_even_49 rfl ?_
  refine e_aload_n dX8_even_50 rfl ?_
  refine e_iload_n dX8_even_51 rfl ?_
  obtain ⟨p5, ep5, h⟩ := Option.bind_eq_some_iff.mp h
  refine c_VI (M' := mX8_laidIn) [.int a3] dX8_even_52 rfl wmX8_357 imX8_laidIn seX8_laidIn lkX8_laidIn k0_174 rc8 (Nat.le_of_ble_eq_true rfl) ((x_X8_laidIn  ep5).mono (by omega)) ?_
  refine e_max dX8_even_55 wmX8_300 wmst_max winimath wmcd_max (by omega) (Nat.le_of_ble_eq_true rfl) ?_
  obtain ⟨x6, ex6, h⟩ := vlet_ex h
  refine e_nameI ex6.symm ?_
  clear ex6
  refine e_istore_n (lv' := [(2, .int x6), (1, .int s0), (0, .ref 174), (3, .int a3)]) dX8_even_58 (by decide) rfl ?_
  refine e_sub [2, 1, 0, 3] rfl ?_
  exact b_X8_even_59 hq6 h
set_option maxRecDepth 20000 in
theorem b_X8_even_6 {X : Nat × (Nat → Int32)} {r : Int32} {v : rV}   : ∀ (n : Nat) (a1 : Int32) (a2 : Int32) (a3 : Int32) , f_X8_even_6 v  n a1 a2 a3 = some r → Ev mX8_even 4 0 0 6 [(0, .ref 174), (1, .int a1), (2, .int a2), (3, .int a3)] [] (rZ X) v (rPI X (r, v)) := by
  intro n
  induction n with
  | zero =>
    intros
    rename_i h
    cases h
  | succ n ih =>
    intro a1 a2 a3 h
    rw [f_X8_even_6] at h
    refine e_iload_n dX8_even_6 rfl ?_
    refine e_bipush (x := (24 : Int32)) dX8_even_7 (by decide) ?_
    refine e_icmp_ge (tgt := 65) dX8_even_9 (by decide) (fun c10 => ?_) (fun c10 => ?_)
    · rw [if_pos c10] at h
      refine e_iload_n dX8_even_65 rfl ?_
      refine e_iconst (x := (-1 : Int32)) dX8_even_66 (by decide) ?_
      refine e_icmp_ne (tgt := 74) dX8_even_67 (by decide) (fun c1 => ?_) (fun c1 => ?_)
      · rw [if_neg c1] at h
        refine e_iload_n dX8_even_74 rfl ?_
        refine e_iload_n dX8_even_75 rfl ?_
        refine e_isub dX8_even_76 ?_
        obtain rfl := Option.some.inj h
        exact e_iret dX8_even_77 rfl rfl ⟨rfl, rfl, rfl⟩
      · rw [if_pos c1] at h
        refine e_iconst (x := (0 : Int32)) dX8_even_70 (by decide) ?_
        refine e_goto (tgt := 77) dX8_even_71 (by decide) ?_
        obtain rfl := Option.some.inj h
        exact e_iret dX8_even_77 rfl rfl ⟨rfl, rfl, rfl⟩
    · rw [if_neg c10] at h
      refine e_aload_n dX8_even_12 rfl ?_
      refine e_get (w := .ref 187) (j := 24) dX8_even_13 k0_174 rc8 (by decide) wfX8_50 (g0_174_24) ?_
      refine e_sipush (x := (216 : Int32)) dX8_even_16 (by decide) ?_
      refine e_iload_n dX8_even_19 rfl ?_
      refine e_iadd dX8_even_20 ?_
      obtain ⟨c2, h⟩ := grd h
      refine e_ialdJ dX8_even_21 k0_187 rfl c2.2 c2.1 ?_
      refine e_iconst (x := (1 : Int32)) dX8_even_22 (by decide) ?_
      refine e_icmp_ne (tgt := 59) dX8_even_23 (by decide) (fun c9 => ?_) (fun c9 => ?_)
      · rw [if_neg c9] at h
        exact b_X8_even_59 (fun a1 a2 a3  hh => ih a1 a2 a3  hh) h
      · rw [if_pos c9] at h
        refine e_iload_n dX8_even_26 rfl ?_
        refine e_iconst (x := (-1 : Int32)) dX8_even_27 (by decide) ?_
        refine e_icmp_ne (tgt := 39) dX8_even_28 (by decide) (fun c8 => ?_) (fun c8 => ?_)
        · rw [if_neg c8] at h
          refine e_iload_n dX8_even_39 rfl ?_
          refine e_aload_n dX8_even_40 rfl ?_
          refine e_iload_n dX8_even_41 rfl ?_
          obtain ⟨p4, ep4, h⟩ := Option.bind_eq_some_iff.mp h
          refine c_VI (M' := mX8_laidIn) [.int a3] dX8_even_42 rfl wmX8_357 imX8_laidIn seX8_laidIn lkX8_laidIn k0_174 rc8 (Nat.le_of_ble_eq_true rfl) ((x_X8_laidIn  ep4).mono (by omega)) ?_
          refine e_min dX8_even_45 wmX8_261 wmst_min winimath wmcd_min (by omega) (Nat.le_of_ble_eq_true rfl) ?_
          refine e_sub [0, 2, 3] rfl ?_
          exact b_X8_even_48 (fun a1 a2 a3  hh => ih a1 a2 a3  hh) h
        · rw [if_pos c8] at h
          refine e_aload_n dX8_even_31 rfl ?_
          refine e_iload_n dX8_even_32 rfl ?_
          obtain ⟨p7, ep7, h⟩ := Option.bind_eq_some_iff.mp h
          refine c_VI (M' := mX8_laidIn) [.int a3] dX8_even_33 rfl wmX8_357 imX8_laidIn seX8_laidIn lkX8_laidIn k0_174 rc8 (Nat.le_of_ble_eq_true rfl) ((x_X8_laidIn  ep7).mono (by omega)) ?_
          refine e_goto (tgt := 48) dX8_even_36 (by decide) ?_
          refine e_sub [0, 2, 3] rfl ?_
          exact b_X8_even_48 (fun a1 a2 a3  hh => ih a1 a2 a3  hh) h
set_option maxRecDepth 20000 in
theorem x_X8_even {X : Nat × (Nat → Int32)} {v : rV} {r : Int32}   (h : f_X8_even v = some r) : EvM mX8_even 4 0 0 [.ref 174] (rZ X) v (rPI X (r, v)) := by
  refine evm_of (by decide +kernel) (fun G => Nat.le_of_ble_eq_true rfl) ?_
  show Ev mX8_even 4 0 0 0 [(0, .ref 174)] [] (rZ X) v _
  unfold f_X8_even at h
  refine e_iconst (x := (-1 : Int32)) dX8_even_0 (by decide) ?_
  refine e_istore_n (lv' := [(1, .int (-1 : Int32)), (0, .ref 174)]) dX8_even_1 (by decide) rfl ?_
  refine e_iconst (x := (0 : Int32)) dX8_even_2 (by decide) ?_
  refine e_istore_n (lv' := [(2, .int (0 : Int32)), (1, .int (-1 : Int32)), (0, .ref 174)]) dX8_even_3 (by decide) rfl ?_
  refine e_iconst (x := (0 : Int32)) dX8_even_4 (by decide) ?_
  refine e_istore_n (lv' := [(3, .int (0 : Int32)), (2, .int (0 : Int32)), (1, .int (-1 : Int32)), (0, .ref 174)]) dX8_even_5 (by decide) rfl ?_
  refine e_sub [3, 2, 1, 0] rfl ?_
  exact b_X8_even_6  _ (-1 : Int32) (0 : Int32) (0 : Int32) h
def f_X8_sumOf_5 (v : rV)  : Nat → Int32 → Int32 → Int32 → Int32 → Option (Int32)
  | 0, _, _, _, _ => none
  | n + 1, a1, a2, a3, a4 => if (a1 + a2) ≤ a4 then
  (some a3)
else
  (if ¬ a4 < 0 ∧ a4.toNatClampNeg < 416 then
  (vlet (a3 + (v.1 187 a4.toNatClampNeg) : Int32) fun x2 =>
  vlet (a4 + (1 : Int32)) fun x3 =>
  f_X8_sumOf_5 v n a1 a2 x2 x3)
else none)
def f_X8_sumOf (v : rV) (a1 : Int32) (a2 : Int32) : Option (Int32) := f_X8_sumOf_5 v 20000 a1 a2 (0 : Int32) a1
set_option maxRecDepth 20000 in
theorem b_X8_sumOf_5 {X : Nat × (Nat → Int32)} {r : Int32} {v : rV}   : ∀ (n : Nat) (a1 : Int32) (a2 : Int32) (a3 : Int32) (a4 : Int32) , f_X8_sumOf_5 v  n a1 a2 a3 a4 = some r → Ev mX8_sumOf 1 0 0 5 [(0, .ref 174), (1, .int a1), (2, .int a2), (3, .int a3), (4, .int a4)] [] (rZ X) v (rPI X (r, v)) := by
  intro n
  induction n with
  | zero =>
    intros
    rename_i h
    cases h
  | succ n ih =>
    intro a1 a2 a3 a4 h
    rw [f_X8_sumOf_5] at h
    refine e_iload dX8_sumOf_5 rfl ?_
    refine e_iload_n dX8_sumOf_7 rfl ?_
    refine e_iload_n dX8_sumOf_8 rfl ?_
    refine e_iadd dX8_sumOf_9 ?_
    refine e_icmp_ge (tgt := 29) dX8_sumOf_10 (by decide) (fun c4 => ?_) (fun c4 => ?_)
    · rw [if_pos c4] at h
      refine e_iload_n dX8_sumOf_29 rfl ?_
      obtain rfl := Option.some.inj h
      exact e_iret dX8_sumOf_30 rfl rfl ⟨rfl, rfl, rfl⟩
    · rw [if_neg c4] at h
      refine e_iload_n dX8_sumOf_13 rfl ?_
      refine e_aload_n dX8_sumOf_14 rfl ?_
      refine e_get (w := .ref 187) (j := 24) dX8_sumOf_15 k0_174 rc8 (by decide) wfX8_50 (g0_174_24) ?_
      refine e_iload dX8_sumOf_18 rfl ?_
      obtain ⟨c1, h⟩ := grd h
      refine e_ialdJ dX8_sumOf_20 k0_187 rfl c1.2 c1.1 ?_
      refine e_iadd dX8_sumOf_21 ?_
      obtain ⟨x2, ex2, h⟩ := vlet_ex h
      refine e_nameI ex2.symm ?_
      clear ex2
      refine e_istore_n (lv' := [(3, .int x2), (0, .ref 174), (1, .int a1), (2, .int a2), (4, .int a4)]) dX8_sumOf_22 (by decide) rfl ?_
      obtain ⟨x3, ex3, h⟩ := vlet_ex h
      refine e_iinc (lv' := [(4, .int x3), (3, .int x2), (0, .ref 174), (1, .int a1), (2, .int a2)]) dX8_sumOf_23 rfl (ex3.symm) (by decide) rfl ?_
      clear ex3
      refine e_goto (tgt := 5) dX8_sumOf_26 (by decide) ?_
      refine e_sub [2, 3, 4, 1, 0] rfl ?_
      exact ih a1 a2 x2 x3 h
set_option maxRecDepth 20000 in
theorem x_X8_sumOf {X : Nat × (Nat → Int32)} {v : rV} {r : Int32} {a1 : Int32} {a2 : Int32}  (h : f_X8_sumOf v a1 a2 = some r) : EvM mX8_sumOf 1 0 0 [.ref 174, .int a1, .int a2] (rZ X) v (rPI X (r, v)) := by
  refine evm_of (by decide +kernel) (fun G => Nat.le_of_ble_eq_true rfl) ?_
  show Ev mX8_sumOf 1 0 0 0 [(0, .ref 174), (1, .int a1), (2, .int a2)] [] (rZ X) v _
  unfold f_X8_sumOf at h
  refine e_iconst (x := (0 : Int32)) dX8_sumOf_0 (by decide) ?_
  refine e_istore_n (lv' := [(3, .int (0 : Int32)), (0, .ref 174), (1, .int a1), (2, .int a2)]) dX8_sumOf_1 (by decide) rfl ?_
  refine e_iload_n dX8_sumOf_2 rfl ?_
  refine e_istore (lv' := [(4, .int a1), (3, .int (0 : Int32)), (0, .ref 174), (1, .int a1), (2, .int a2)]) dX8_sumOf_3 (by decide) rfl ?_
  refine e_sub [2, 3, 4, 1, 0] rfl ?_
  exact b_X8_sumOf_5  _ a1 a2 (0 : Int32) a1 h
def f_X8_about (v : rV) (a1 : Int32) : Option (Int32) := if a1 = (0 : Int32) then
  ((f_X8_ring v).bind fun p2 =>
  some p2)
else
  (if a1 = (1 : Int32) then
  ((f_X8_rings v).bind fun p4 =>
  some p4)
else
  (if a1 = (2 : Int32) then
  ((f_X8_even v).bind fun p6 =>
  some p6)
else
  (if a1 = (3 : Int32) then
  ((f_X8_sumOf v (72 : Int32) (48 : Int32)).bind fun p8 =>
  some p8)
else
  (if a1 = (4 : Int32) then
  ((f_X8_sumOf v (144 : Int32) (24 : Int32)).bind fun p10 =>
  some p10)
else
  (if a1 = (5 : Int32) then
  (some (v.1 187 289))
else
  (if a1 = (6 : Int32) then
  (some (v.1 187 290))
else
  (if a1 = (7 : Int32) then
  (some (v.1 187 288))
else
  (if a1 = (8 : Int32) then
  ((f_X8_sumOf v (24 : Int32) (48 : Int32)).bind fun p15 =>
  some p15)
else
  (some (-1 : Int32))))))))))
set_option maxRecDepth 20000 in
theorem x_X8_about {X : Nat × (Nat → Int32)} {v : rV} {r : Int32} {a1 : Int32}  (h : f_X8_about v a1 = some r) : EvM mX8_about 5 0 0 [.ref 174, .int a1] (rZ X) v (rPI X (r, v)) := by
  refine evm_of (by decide +kernel) (fun G => Nat.le_of_ble_eq_true rfl) ?_
  show Ev mX8_about 5 0 0 0 [(0, .ref 174), (1, .int a1)] [] (rZ X) v _
  unfold f_X8_about at h
  refine e_iload_n dX8_about_0 rfl ?_
  by_cases c1 : a1 = (0 : Int32)
  · rw [if_pos c1] at h
    refine e_tabIn (off := 51) (tgt := 52) dX8_about_1 (by rw [c1]; decide) (by rw [c1]; decide) (by rw [c1]; rfl) (by decide) ?_
    refine e_aload_n dX8_about_52 rfl ?_
    obtain ⟨p2, ep2, h⟩ := Option.bind_eq_some_iff.mp h
    refine c_VI (M' := mX8_ring) [] dX8_about_53 rfl wmX8_360 imX8_ring seX8_ring lkX8_ring k0_174 rc8 (Nat.le_of_ble_eq_true rfl) ((x_X8_ring  ep2).mono (by omega)) ?_
    obtain rfl := Option.some.inj h
    exact e_iret dX8_about_56 rfl rfl ⟨rfl, rfl, rfl⟩
  · rw [if_neg c1] at h
    have nc1 := tab_ne c1 (k := 0) (by decide)
    by_cases c3 : a1 = (1 : Int32)
    · rw [if_pos c3] at h
      refine e_tabIn (off := 56) (tgt := 57) dX8_about_1 (by rw [c3]; decide) (by rw [c3]; decide) (by rw [c3]; rfl) (by decide) ?_
      refine e_aload_n dX8_about_57 rfl ?_
      obtain ⟨p4, ep4, h⟩ := Option.bind_eq_some_iff.mp h
      refine c_VI (M' := mX8_rings) [] dX8_about_58 rfl wmX8_363 imX8_rings seX8_rings lkX8_rings k0_174 rc8 (Nat.le_of_ble_eq_true rfl) ((x_X8_rings  ep4).mono (by omega)) ?_
      obtain rfl := Option.some.inj h
      exact e_iret dX8_about_61 rfl rfl ⟨rfl, rfl, rfl⟩
    · rw [if_neg c3] at h
      have nc3 := tab_ne c3 (k := 1) (by decide)
      by_cases c5 : a1 = (2 : Int32)
      · rw [if_pos c5] at h
        refine e_tabIn (off := 61) (tgt := 62) dX8_about_1 (by rw [c5]; decide) (by rw [c5]; decide) (by rw [c5]; rfl) (by decide) ?_
        refine e_aload_n dX8_about_62 rfl ?_
        obtain ⟨p6, ep6, h⟩ := Option.bind_eq_some_iff.mp h
        refine c_VI (M' := mX8_even) [] dX8_about_63 rfl wmX8_366 imX8_even seX8_even lkX8_even k0_174 rc8 (Nat.le_of_ble_eq_true rfl) ((x_X8_even  ep6).mono (by omega)) ?_
        obtain rfl := Option.some.inj h
        exact e_iret dX8_about_66 rfl rfl ⟨rfl, rfl, rfl⟩
      · rw [if_neg c5] at h
        have nc5 := tab_ne c5 (k := 2) (by decide)
        by_cases c7 : a1 = (3 : Int32)
        · rw [if_pos c7] at h
          refine e_tabIn (off := 66) (tgt := 67) dX8_about_1 (by rw [c7]; decide) (by rw [c7]; decide) (by rw [c7]; rfl) (by decide) ?_
          refine e_aload_n dX8_about_67 rfl ?_
          refine e_bipush (x := (72 : Int32)) dX8_about_68 (by decide) ?_
          refine e_bipush (x := (48 : Int32)) dX8_about_70 (by decide) ?_
          obtain ⟨p8, ep8, h⟩ := Option.bind_eq_some_iff.mp h
          refine c_VI (M' := mX8_sumOf) [.int (72 : Int32), .int (48 : Int32)] dX8_about_72 rfl wmX8_369 imX8_sumOf seX8_sumOf lkX8_sumOf k0_174 rc8 (Nat.le_of_ble_eq_true rfl) ((x_X8_sumOf  ep8).mono (by omega)) ?_
          obtain rfl := Option.some.inj h
          exact e_iret dX8_about_75 rfl rfl ⟨rfl, rfl, rfl⟩
        · rw [if_neg c7] at h
          have nc7 := tab_ne c7 (k := 3) (by decide)
          by_cases c9 : a1 = (4 : Int32)
          · rw [if_pos c9] at h
            refine e_tabIn (off := 75) (tgt := 76) dX8_about_1 (by rw [c9]; decide) (by rw [c9]; decide) (by rw [c9]; rfl) (by decide) ?_
            refine e_aload_n dX8_about_76 rfl ?_
            refine e_sipush (x := (144 : Int32)) dX8_about_77 (by decide) ?_
            refine e_bipush (x := (24 : Int32)) dX8_about_80 (by decide) ?_
            obtain ⟨p10, ep10, h⟩ := Option.bind_eq_some_iff.mp h
            refine c_VI (M' := mX8_sumOf) [.int (144 : Int32), .int (24 : Int32)] dX8_about_82 rfl wmX8_369 imX8_sumOf seX8_sumOf lkX8_sumOf k0_174 rc8 (Nat.le_of_ble_eq_true rfl) ((x_X8_sumOf  ep10).mono (by omega)) ?_
            obtain rfl := Option.some.inj h
            exact e_iret dX8_about_85 rfl rfl ⟨rfl, rfl, rfl⟩
          · rw [if_neg c9] at h
            have nc9 := tab_ne c9 (k := 4) (by decide)
            by_cases c11 : a1 = (5 : Int32)
            · rw [if_pos c11] at h
              refine e_tabIn (off := 85) (tgt := 86) dX8_about_1 (by rw [c11]; decide) (by rw [c11]; decide) (by rw [c11]; rfl) (by decide) ?_
              refine e_aload_n dX8_about_86 rfl ?_
              refine e_get (w := .ref 187) (j := 24) dX8_about_87 k0_174 rc8 (by decide) wfX8_50 (g0_174_24) ?_
              refine e_sipush (x := (289 : Int32)) dX8_about_90 (by decide) ?_
              refine e_ialdJ dX8_about_93 k0_187 (j := 289) (by decide) (by decide) (by decide) ?_
              obtain rfl := Option.some.inj h
              exact e_iret dX8_about_94 rfl rfl ⟨rfl, rfl, rfl⟩
            · rw [if_neg c11] at h
              have nc11 := tab_ne c11 (k := 5) (by decide)
              by_cases c12 : a1 = (6 : Int32)
              · rw [if_pos c12] at h
                refine e_tabIn (off := 94) (tgt := 95) dX8_about_1 (by rw [c12]; decide) (by rw [c12]; decide) (by rw [c12]; rfl) (by decide) ?_
                refine e_aload_n dX8_about_95 rfl ?_
                refine e_get (w := .ref 187) (j := 24) dX8_about_96 k0_174 rc8 (by decide) wfX8_50 (g0_174_24) ?_
                refine e_sipush (x := (290 : Int32)) dX8_about_99 (by decide) ?_
                refine e_ialdJ dX8_about_102 k0_187 (j := 290) (by decide) (by decide) (by decide) ?_
                obtain rfl := Option.some.inj h
                exact e_iret dX8_about_103 rfl rfl ⟨rfl, rfl, rfl⟩
              · rw [if_neg c12] at h
                have nc12 := tab_ne c12 (k := 6) (by decide)
                by_cases c13 : a1 = (7 : Int32)
                · rw [if_pos c13] at h
                  refine e_tabIn (off := 103) (tgt := 104) dX8_about_1 (by rw [c13]; decide) (by rw [c13]; decide) (by rw [c13]; rfl) (by decide) ?_
                  refine e_aload_n dX8_about_104 rfl ?_
                  refine e_get (w := .ref 187) (j := 24) dX8_about_105 k0_174 rc8 (by decide) wfX8_50 (g0_174_24) ?_
                  refine e_sipush (x := (288 : Int32)) dX8_about_108 (by decide) ?_
                  refine e_ialdJ dX8_about_111 k0_187 (j := 288) (by decide) (by decide) (by decide) ?_
                  obtain rfl := Option.some.inj h
                  exact e_iret dX8_about_112 rfl rfl ⟨rfl, rfl, rfl⟩
                · rw [if_neg c13] at h
                  have nc13 := tab_ne c13 (k := 7) (by decide)
                  by_cases c14 : a1 = (8 : Int32)
                  · rw [if_pos c14] at h
                    refine e_tabIn (off := 112) (tgt := 113) dX8_about_1 (by rw [c14]; decide) (by rw [c14]; decide) (by rw [c14]; rfl) (by decide) ?_
                    refine e_aload_n dX8_about_113 rfl ?_
                    refine e_bipush (x := (24 : Int32)) dX8_about_114 (by decide) ?_
                    refine e_bipush (x := (48 : Int32)) dX8_about_116 (by decide) ?_
                    obtain ⟨p15, ep15, h⟩ := Option.bind_eq_some_iff.mp h
                    refine c_VI (M' := mX8_sumOf) [.int (24 : Int32), .int (48 : Int32)] dX8_about_118 rfl wmX8_369 imX8_sumOf seX8_sumOf lkX8_sumOf k0_174 rc8 (Nat.le_of_ble_eq_true rfl) ((x_X8_sumOf  ep15).mono (by omega)) ?_
                    obtain rfl := Option.some.inj h
                    exact e_iret dX8_about_121 rfl rfl ⟨rfl, rfl, rfl⟩
                  · rw [if_neg c14] at h
                    have nc14 := tab_ne c14 (k := 8) (by decide)
                    refine e_tabOut (tgt := 122) dX8_about_1 (by omega) (by decide) ?_
                    refine e_iconst (x := (-1 : Int32)) dX8_about_122 (by decide) ?_
                    obtain rfl := Option.some.inj h
                    exact e_iret dX8_about_123 rfl rfl ⟨rfl, rfl, rfl⟩
def f_X8_addPiece_78   (v : rV) (a1 : Int32) (a2 : Int32) (a3 : Int32) (a4 : Int32) : Option (rV) := if ¬ a4 < 0 ∧ a4.toNatClampNeg < 12 then
  (vlet (rI v 190 a4.toNatClampNeg a1) fun v3 =>
  vlet (rI v3 191 a4.toNatClampNeg a2) fun v4 =>
  vlet (rI v4 192 a4.toNatClampNeg a3) fun v5 =>
  vlet (rI v5 174 34 ((v5.1 174 34) + (1 : Int32))) fun v6 =>
  some v6)
else none
def f_X8_addPiece_6   : Nat → rV → Int32 → Int32 → Int32 → Int32 → Option (rV)
  | 0, _, _, _, _, _ => none
  | n + 1, v, a1, a2, a3, a4 => if a4 ≤ 0 then
  (f_X8_addPiece_78  v a1 a2 a3 a4)
else
  (if ¬ (a4 - (1 : Int32)) < 0 ∧ (a4 - (1 : Int32)).toNatClampNeg < 12 then
  (if (v.1 190 ((a4 - (1 : Int32)).toNatClampNeg)) ≤ a1 then
  (f_X8_addPiece_78  v a1 a2 a3 a4)
else
  (if ¬ a4 < 0 ∧ a4.toNatClampNeg < 12 then
  (vlet (rI v 190 a4.toNatClampNeg (v.1 190 ((a4 - (1 : Int32)).toNatClampNeg))) fun v9 =>
  vlet (rI v9 191 a4.toNatClampNeg (v9.1 191 ((a4 - (1 : Int32)).toNatClampNeg))) fun v10 =>
  vlet (rI v10 192 a4.toNatClampNeg (v10.1 192 ((a4 - (1 : Int32)).toNatClampNeg))) fun v11 =>
  vlet (a4 + (-1 : Int32)) fun x12 =>
  f_X8_addPiece_6  n v11 a1 a2 a3 x12)
else none))
else none)
def f_X8_addPiece (v : rV) (a1 : Int32) (a2 : Int32) (a3 : Int32) : Option (rV) := vlet (v.1 174 34 : Int32) fun x1 =>
  f_X8_addPiece_6  20000 v a1 a2 a3 x1
set_option maxRecDepth 20000 in
theorem b_X8_addPiece_78 {X : Nat × (Nat → Int32)} {r : rV} {v : rV}   {a1 : Int32} {a2 : Int32} {a3 : Int32} {a4 : Int32}  (h : f_X8_addPiece_78  v a1 a2 a3 a4 = some r) : Ev mX8_addPiece 1 0 0 78 [(0, .ref 174), (1, .int a1), (2, .int a2), (3, .int a3), (4, .int a4)] [] (rZ X) v (rPV X r) := by
  unfold f_X8_addPiece_78 at h
  refine e_aload_n dX8_addPiece_78 rfl ?_
  refine e_get (w := .ref 190) (j := 31) dX8_addPiece_79 k0_174 rc8 (by decide) wfX8_59 (g0_174_31) ?_
  refine e_iload dX8_addPiece_82 rfl ?_
  refine e_iload_n dX8_addPiece_84 rfl ?_
  obtain ⟨c2, h⟩ := grd h
  refine e_iastJ dX8_addPiece_85 k0_190 rfl c2.2 c2.1 ?_
  obtain ⟨v3, ev3, h⟩ := vlet_ex h
  refine e_nameV ev3.symm ?_
  clear ev3
  refine e_aload_n dX8_addPiece_86 rfl ?_
  refine e_get (w := .ref 191) (j := 32) dX8_addPiece_87 k0_174 rc8 (by decide) wfX8_62 (g0_174_32) ?_
  refine e_iload dX8_addPiece_90 rfl ?_
  refine e_iload_n dX8_addPiece_92 rfl ?_
  refine e_iastJ dX8_addPiece_93 k0_191 rfl (c2).2 (c2).1 ?_
  obtain ⟨v4, ev4, h⟩ := vlet_ex h
  refine e_nameV ev4.symm ?_
  clear ev4
  refine e_aload_n dX8_addPiece_94 rfl ?_
  refine e_get (w := .ref 192) (j := 33) dX8_addPiece_95 k0_174 rc8 (by decide) wfX8_65 (g0_174_33) ?_
  refine e_iload dX8_addPiece_98 rfl ?_
  refine e_iload_n dX8_addPiece_100 rfl ?_
  refine e_iastJ dX8_addPiece_101 k0_192 rfl (c2).2 (c2).1 ?_
  obtain ⟨v5, ev5, h⟩ := vlet_ex h
  refine e_nameV ev5.symm ?_
  clear ev5
  refine e_aload_n dX8_addPiece_102 rfl ?_
  refine e_dup dX8_addPiece_103 rfl ?_
  refine e_get (w := .int (v5.1 174 34)) (j := 34) dX8_addPiece_104 k0_174 rc8 (by decide) wfX8_247 rfl ?_
  refine e_iconst (x := (1 : Int32)) dX8_addPiece_107 (by decide) ?_
  refine e_iadd dX8_addPiece_108 ?_
  refine e_putI (j := 34) dX8_addPiece_109 k0_174 rc8 (by decide) wfX8_247 rfl rfl ?_
  obtain ⟨v6, ev6, h⟩ := vlet_ex h
  refine e_nameV ev6.symm ?_
  clear ev6
  obtain rfl := Option.some.inj h
  exact e_ret dX8_addPiece_112 rfl ⟨rfl, rfl, rfl⟩
set_option maxRecDepth 20000 in
theorem b_X8_addPiece_6 {X : Nat × (Nat → Int32)} {r : rV}   : ∀ (n : Nat) (v : rV) (a1 : Int32) (a2 : Int32) (a3 : Int32) (a4 : Int32) , f_X8_addPiece_6   n v a1 a2 a3 a4 = some r → Ev mX8_addPiece 1 0 0 6 [(0, .ref 174), (1, .int a1), (2, .int a2), (3, .int a3), (4, .int a4)] [] (rZ X) v (rPV X r) := by
  intro n
  induction n with
  | zero =>
    intros
    rename_i h
    cases h
  | succ n ih =>
    intro v a1 a2 a3 a4 h
    rw [f_X8_addPiece_6] at h
    refine e_iload dX8_addPiece_6 rfl ?_
    refine e_if_le (tgt := 78) dX8_addPiece_8 (by decide) (fun c14 => ?_) (fun c14 => ?_)
    · rw [if_pos c14] at h
      exact b_X8_addPiece_78  h
    · rw [if_neg c14] at h
      refine e_aload_n dX8_addPiece_11 rfl ?_
      refine e_get (w := .ref 190) (j := 31) dX8_addPiece_12 k0_174 rc8 (by decide) wfX8_59 (g0_174_31) ?_
      refine e_iload dX8_addPiece_15 rfl ?_
      refine e_iconst (x := (1 : Int32)) dX8_addPiece_17 (by decide) ?_
      refine e_isub dX8_addPiece_18 ?_
      obtain ⟨c7, h⟩ := grd h
      refine e_ialdJ dX8_addPiece_19 k0_190 rfl c7.2 c7.1 ?_
      refine e_iload_n dX8_addPiece_20 rfl ?_
      refine e_icmp_le (tgt := 78) dX8_addPiece_21 (by decide) (fun c13 => ?_) (fun c13 => ?_)
      · rw [if_pos c13] at h
        exact b_X8_addPiece_78  h
      · rw [if_neg c13] at h
        refine e_aload_n dX8_addPiece_24 rfl ?_
        refine e_get (w := .ref 190) (j := 31) dX8_addPiece_25 k0_174 rc8 (by decide) wfX8_59 (g0_174_31) ?_
        refine e_iload dX8_addPiece_28 rfl ?_
        refine e_aload_n dX8_addPiece_30 rfl ?_
        refine e_get (w := .ref 190) (j := 31) dX8_addPiece_31 k0_174 rc8 (by decide) wfX8_59 (g0_174_31) ?_
        refine e_iload dX8_addPiece_34 rfl ?_
        refine e_iconst (x := (1 : Int32)) dX8_addPiece_36 (by decide) ?_
        refine e_isub dX8_addPiece_37 ?_
        refine e_ialdJ dX8_addPiece_38 k0_190 rfl (c7).2 (c7).1 ?_
        obtain ⟨c8, h⟩ := grd h
        refine e_iastJ dX8_addPiece_39 k0_190 rfl c8.2 c8.1 ?_
        obtain ⟨v9, ev9, h⟩ := vlet_ex h
        refine e_nameV ev9.symm ?_
        clear ev9
        refine e_aload_n dX8_addPiece_40 rfl ?_
        refine e_get (w := .ref 191) (j := 32) dX8_addPiece_41 k0_174 rc8 (by decide) wfX8_62 (g0_174_32) ?_
        refine e_iload dX8_addPiece_44 rfl ?_
        refine e_aload_n dX8_addPiece_46 rfl ?_
        refine e_get (w := .ref 191) (j := 32) dX8_addPiece_47 k0_174 rc8 (by decide) wfX8_62 (g0_174_32) ?_
        refine e_iload dX8_addPiece_50 rfl ?_
        refine e_iconst (x := (1 : Int32)) dX8_addPiece_52 (by decide) ?_
        refine e_isub dX8_addPiece_53 ?_
        refine e_ialdJ dX8_addPiece_54 k0_191 rfl (c7).2 (c7).1 ?_
        refine e_iastJ dX8_addPiece_55 k0_191 rfl (c8).2 (c8).1 ?_
        obtain ⟨v10, ev10, h⟩ := vlet_ex h
        refine e_nameV ev10.symm ?_
        clear ev10
        refine e_aload_n dX8_addPiece_56 rfl ?_
        refine e_get (w := .ref 192) (j := 33) dX8_addPiece_57 k0_174 rc8 (by decide) wfX8_65 (g0_174_33) ?_
        refine e_iload dX8_addPiece_60 rfl ?_
        refine e_aload_n dX8_addPiece_62 rfl ?_
        refine e_get (w := .ref 192) (j := 33) dX8_addPiece_63 k0_174 rc8 (by decide) wfX8_65 (g0_174_33) ?_
        refine e_iload dX8_addPiece_66 rfl ?_
        refine e_iconst (x := (1 : Int32)) dX8_addPiece_68 (by decide) ?_
        refine e_isub dX8_addPiece_69 ?_
        refine e_ialdJ dX8_addPiece_70 k0_192 rfl (c7).2 (c7).1 ?_
        refine e_iastJ dX8_addPiece_71 k0_192 rfl (c8).2 (c8).1 ?_
        obtain ⟨v11, ev11, h⟩ := vlet_ex h
        refine e_nameV ev11.symm ?_
        clear ev11
        obtain ⟨x12, ex12, h⟩ := vlet_ex h
        refine e_iinc (lv' := [(4, .int x12), (0, .ref 174), (1, .int a1), (2, .int a2), (3, .int a3)]) dX8_addPiece_72 rfl (ex12.symm) (by decide) rfl ?_
        clear ex12
        refine e_goto (tgt := 6) dX8_addPiece_75 (by decide) ?_
        refine e_sub [1, 2, 3, 4, 0] rfl ?_
        exact ih v11 a1 a2 a3 x12 h
set_option maxRecDepth 20000 in
theorem x_X8_addPiece {X : Nat × (Nat → Int32)} {v : rV} {r : rV} {a1 : Int32} {a2 : Int32} {a3 : Int32}  (h : f_X8_addPiece v a1 a2 a3 = some r) : EvM mX8_addPiece 1 0 0 [.ref 174, .int a1, .int a2, .int a3] (rZ X) v (rPV X r) := by
  refine evm_of (by decide +kernel) (fun G => Nat.le_of_ble_eq_true rfl) ?_
  show Ev mX8_addPiece 1 0 0 0 [(0, .ref 174), (1, .int a1), (2, .int a2), (3, .int a3)] [] (rZ X) v _
  unfold f_X8_addPiece at h
  refine e_aload_n dX8_addPiece_0 rfl ?_
  refine e_get (w := .int (v.1 174 34)) (j := 34) dX8_addPiece_1 k0_174 rc8 (by decide) wfX8_247 rfl ?_
  obtain ⟨x1, ex1, h⟩ := vlet_ex h
  refine e_nameI ex1.symm ?_
  clear ex1
  refine e_istore (lv' := [(4, .int x1), (0, .ref 174), (1, .int a1), (2, .int a2), (3, .int a3)]) dX8_addPiece_4 (by decide) rfl ?_
  refine e_sub [1, 2, 3, 4, 0] rfl ?_
  exact b_X8_addPiece_6  _ v a1 a2 a3 x1 h
def f_X8_isLaw (v : rV) (a1 : Int32) : Bool := (f_X8_in a1 (0 : Int32) ((v.1 174 13) - (1 : Int32)))
set_option maxRecDepth 20000 in
theorem x_X8_isLaw {X : Nat × (Nat → Int32)} {v : rV} {a1 : Int32}  : EvM mX8_isLaw 2 0 0 [.ref 174, .int a1] (rZ X) v (rPZ X ((f_X8_isLaw v a1), v)) := by
  refine evm_of (by decide +kernel) (fun G => Nat.le_of_ble_eq_true rfl) ?_
  show Ev mX8_isLaw 2 0 0 0 [(0, .ref 174), (1, .int a1)] [] (rZ X) v _
  generalize h : f_X8_isLaw v a1 = r
  unfold f_X8_isLaw at h
  refine e_iload_n dX8_isLaw_0 rfl ?_
  refine e_iconst (x := (0 : Int32)) dX8_isLaw_1 (by decide) ?_
  refine e_aload_n dX8_isLaw_2 rfl ?_
  refine e_get (w := .int (v.1 174 13)) (j := 13) dX8_isLaw_3 k0_174 rc8 (by decide) wfX8_235 rfl ?_
  refine e_iconst (x := (1 : Int32)) dX8_isLaw_6 (by decide) ?_
  refine e_isub dX8_isLaw_7 ?_
  refine c_SZ (M' := mX8_in) [.int a1, .int (0 : Int32), .int ((v.1 174 13) - (1 : Int32))] dX8_isLaw_8 rfl wmX8_216 stX8_in lkX8_in (Nat.le_of_ble_eq_true rfl) ((x_X8_in ).mono (by omega)) ?_
  subst h
  exact e_iret dX8_isLaw_11 rfl (bI_z _) ⟨rfl, rfl, rfl⟩
def f_X8_isDrop (v : rV) (a1 : Int32) : Bool := (f_X8_in a1 (0 : Int32) ((v.1 174 21) - (1 : Int32)))
set_option maxRecDepth 20000 in
theorem x_X8_isDrop {X : Nat × (Nat → Int32)} {v : rV} {a1 : Int32}  : EvM mX8_isDrop 2 0 0 [.ref 174, .int a1] (rZ X) v (rPZ X ((f_X8_isDrop v a1), v)) := by
  refine evm_of (by decide +kernel) (fun G => Nat.le_of_ble_eq_true rfl) ?_
  show Ev mX8_isDrop 2 0 0 0 [(0, .ref 174), (1, .int a1)] [] (rZ X) v _
  generalize h : f_X8_isDrop v a1 = r
  unfold f_X8_isDrop at h
  refine e_iload_n dX8_isDrop_0 rfl ?_
  refine e_iconst (x := (0 : Int32)) dX8_isDrop_1 (by decide) ?_
  refine e_aload_n dX8_isDrop_2 rfl ?_
  refine e_get (w := .int (v.1 174 21)) (j := 21) dX8_isDrop_3 k0_174 rc8 (by decide) wfX8_241 rfl ?_
  refine e_iconst (x := (1 : Int32)) dX8_isDrop_6 (by decide) ?_
  refine e_isub dX8_isDrop_7 ?_
  refine c_SZ (M' := mX8_in) [.int a1, .int (0 : Int32), .int ((v.1 174 21) - (1 : Int32))] dX8_isDrop_8 rfl wmX8_216 stX8_in lkX8_in (Nat.le_of_ble_eq_true rfl) ((x_X8_in ).mono (by omega)) ?_
  subst h
  exact e_iret dX8_isDrop_11 rfl (bI_z _) ⟨rfl, rfl, rfl⟩
def f_X8_areTicks (a0 : Int32) : Bool := (f_X8_in a0 (1 : Int32) (60 : Int32))
set_option maxRecDepth 20000 in
theorem x_X8_areTicks {X : Nat × (Nat → Int32)} {v : rV} {a0 : Int32}  : EvM mX8_areTicks 2 0 0 [.int a0] (rZ X) v (rPZ X ((f_X8_areTicks a0), v)) := by
  refine evm_of (by decide +kernel) (fun G => Nat.le_of_ble_eq_true rfl) ?_
  show Ev mX8_areTicks 2 0 0 0 [(0, .int a0)] [] (rZ X) v _
  generalize h : f_X8_areTicks a0 = r
  unfold f_X8_areTicks at h
  refine e_iload_n dX8_areTicks_0 rfl ?_
  refine e_iconst (x := (1 : Int32)) dX8_areTicks_1 (by decide) ?_
  refine e_bipush (x := (60 : Int32)) dX8_areTicks_2 (by decide) ?_
  refine c_SZ (M' := mX8_in) [.int a0, .int (1 : Int32), .int (60 : Int32)] dX8_areTicks_4 rfl wmX8_216 stX8_in lkX8_in (Nat.le_of_ble_eq_true rfl) ((x_X8_in ).mono (by omega)) ?_
  subst h
  exact e_iret dX8_areTicks_7 rfl (bI_z _) ⟨rfl, rfl, rfl⟩
def f_X8_putAside_2   : Nat → rV → Int32 → Option (rV)
  | 0, _, _ => none
  | n + 1, v, a1 => if (416 : Int32) ≤ a1 then
  (vlet (rL v 174 28 (v.2.1 174 27)) fun v1 =>
  some v1)
else
  (if ¬ a1 < 0 ∧ a1.toNatClampNeg < 416 then
  (vlet (rI v 188 a1.toNatClampNeg (v.1 187 a1.toNatClampNeg)) fun v3 =>
  vlet (a1 + (1 : Int32)) fun x4 =>
  f_X8_putAside_2  n v3 x4)
else none)
def f_X8_putAside (v : rV)  : Option (rV) := f_X8_putAside_2  20000 v (0 : Int32)
set_option maxRecDepth 20000 in
theorem b_X8_putAside_2 {X : Nat × (Nat → Int32)} {r : rV}   : ∀ (n : Nat) (v : rV) (a1 : Int32) , f_X8_putAside_2   n v a1 = some r → Ev mX8_putAside 1 0 0 2 [(0, .ref 174), (1, .int a1)] [] (rZ X) v (rPV X r) := by
  intro n
  induction n with
  | zero =>
    intros
    rename_i h
    cases h
  | succ n ih =>
    intro v a1 h
    rw [f_X8_putAside_2] at h
    refine e_iload_n dX8_putAside_2 rfl ?_
    refine e_sipush (x := (416 : Int32)) dX8_putAside_3 (by decide) ?_
    refine e_icmp_ge (tgt := 27) dX8_putAside_6 (by decide) (fun c5 => ?_) (fun c5 => ?_)
    · rw [if_pos c5] at h
      refine e_aload_n dX8_putAside_27 rfl ?_
      refine e_aload_n dX8_putAside_28 rfl ?_
      refine e_get (w := .long (v.2.1 174 27)) (j := 27) dX8_putAside_29 k0_174 rc8 (by decide) wfX8_254 rfl ?_
      refine e_putL (j := 28) dX8_putAside_32 k0_174 rc8 (by decide) wfX8_378 rfl rfl ?_
      obtain ⟨v1, ev1, h⟩ := vlet_ex h
      refine e_nameV ev1.symm ?_
      clear ev1
      obtain rfl := Option.some.inj h
      exact e_ret dX8_putAside_35 rfl ⟨rfl, rfl, rfl⟩
    · rw [if_neg c5] at h
      refine e_aload_n dX8_putAside_9 rfl ?_
      refine e_get (w := .ref 188) (j := 25) dX8_putAside_10 k0_174 rc8 (by decide) wfX8_53 (g0_174_25) ?_
      refine e_iload_n dX8_putAside_13 rfl ?_
      refine e_aload_n dX8_putAside_14 rfl ?_
      refine e_get (w := .ref 187) (j := 24) dX8_putAside_15 k0_174 rc8 (by decide) wfX8_50 (g0_174_24) ?_
      refine e_iload_n dX8_putAside_18 rfl ?_
      obtain ⟨c2, h⟩ := grd h
      refine e_ialdJ dX8_putAside_19 k0_187 rfl c2.2 c2.1 ?_
      refine e_iastJ dX8_putAside_20 k0_188 rfl (c2).2 (c2).1 ?_
      obtain ⟨v3, ev3, h⟩ := vlet_ex h
      refine e_nameV ev3.symm ?_
      clear ev3
      obtain ⟨x4, ex4, h⟩ := vlet_ex h
      refine e_iinc (lv' := [(1, .int x4), (0, .ref 174)]) dX8_putAside_21 rfl (ex4.symm) (by decide) rfl ?_
      clear ex4
      refine e_goto (tgt := 2) dX8_putAside_24 (by decide) ?_
      refine e_sub [1, 0] rfl ?_
      exact ih v3 x4 h
set_option maxRecDepth 20000 in
theorem x_X8_putAside {X : Nat × (Nat → Int32)} {v : rV} {r : rV}   (h : f_X8_putAside v = some r) : EvM mX8_putAside 1 0 0 [.ref 174] (rZ X) v (rPV X r) := by
  refine evm_of (by decide +kernel) (fun G => Nat.le_of_ble_eq_true rfl) ?_
  show Ev mX8_putAside 1 0 0 0 [(0, .ref 174)] [] (rZ X) v _
  unfold f_X8_putAside at h
  refine e_iconst (x := (0 : Int32)) dX8_putAside_0 (by decide) ?_
  refine e_istore_n (lv' := [(1, .int (0 : Int32)), (0, .ref 174)]) dX8_putAside_1 (by decide) rfl ?_
  refine e_sub [1, 0] rfl ?_
  exact b_X8_putAside_2  _ v (0 : Int32) h
def f_X8_has (a0 : Int32) (a1 : Int32) : Bool := if ((a0 >>> (a1 &&& 31)) &&& (1 : Int32)) = (1 : Int32) then
  (true)
else
  (false)
set_option maxRecDepth 20000 in
theorem x_X8_has {X : Nat × (Nat → Int32)} {v : rV} {a0 : Int32} {a1 : Int32}  : EvM mX8_has 1 0 0 [.int a0, .int a1] (rZ X) v (rPZ X ((f_X8_has a0 a1), v)) := by
  refine evm_of (by decide +kernel) (fun G => Nat.le_of_ble_eq_true rfl) ?_
  show Ev mX8_has 1 0 0 0 [(0, .int a0), (1, .int a1)] [] (rZ X) v _
  generalize h : f_X8_has a0 a1 = r
  unfold f_X8_has at h
  refine e_iload_n dX8_has_0 rfl ?_
  refine e_iload_n dX8_has_1 rfl ?_
  refine e_ishr dX8_has_2 ?_
  refine e_iconst (x := (1 : Int32)) dX8_has_3 (by decide) ?_
  refine e_iand dX8_has_4 ?_
  refine e_iconst (x := (1 : Int32)) dX8_has_5 (by decide) ?_
  refine e_icmp_ne (tgt := 13) dX8_has_6 (by decide) (fun c1 => ?_) (fun c1 => ?_)
  · rw [if_neg c1] at h
    refine e_iconst (x := (0 : Int32)) dX8_has_13 (by decide) ?_
    subst h
    exact e_iret dX8_has_14 rfl rfl ⟨rfl, rfl, rfl⟩
  · rw [if_pos c1] at h
    refine e_iconst (x := (1 : Int32)) dX8_has_9 (by decide) ?_
    refine e_goto (tgt := 14) dX8_has_10 (by decide) ?_
    subst h
    exact e_iret dX8_has_14 rfl rfl ⟨rfl, rfl, rfl⟩
def f_X8_gather_58   : Nat → rV → Int32 → Option (Bool × rV)
  | 0, _, _ => none
  | n + 1, v, a2 => if (v.1 174 34) ≤ a2 then
  (some (true, v))
else
  (if ¬ (a2 - (1 : Int32)) < 0 ∧ (a2 - (1 : Int32)).toNatClampNeg < 12 then
  (if ¬ a2 < 0 ∧ a2.toNatClampNeg < 12 then
  (if ((v.1 190 ((a2 - (1 : Int32)).toNatClampNeg)) + (v.1 191 ((a2 - (1 : Int32)).toNatClampNeg))) ≤ (v.1 190 a2.toNatClampNeg) then
  (vlet (a2 + (1 : Int32)) fun x4 =>
  f_X8_gather_58  n v x4)
else
  (some (false, v)))
else none)
else none)
def f_X8_gather_50  (q7 : rV → Int32 → Int32 → Option (Bool × rV)) (v : rV) (a1 : Int32) (a2 : Int32) : Option (Bool × rV) := vlet (a2 + (1 : Int32)) fun x8 =>
  q7 v a1 x8
def f_X8_gather_7   : Nat → rV → Int32 → Int32 → Option (Bool × rV)
  | 0, _, _, _ => none
  | n + 1, v, a1, a2 => if (v.1 174 21) ≤ a2 then
  (f_X8_gather_58  20000 v (1 : Int32))
else
  (if (f_X8_has a1 a2) = true then
  (if ¬ (((12 : Int32) * a2) + (0 : Int32)) < 0 ∧ (((12 : Int32) * a2) + (0 : Int32)).toNatClampNeg < 156 then
  (if ¬ (((12 : Int32) * a2) + (1 : Int32)) < 0 ∧ (((12 : Int32) * a2) + (1 : Int32)).toNatClampNeg < 156 then
  ((f_X8_addPiece v (v.1 185 ((((12 : Int32) * a2) + (0 : Int32)).toNatClampNeg)) (v.1 185 ((((12 : Int32) * a2) + (1 : Int32)).toNatClampNeg)) a2).bind fun p11 =>
  f_X8_gather_50 (fun v a1 a2 => f_X8_gather_7  n v a1 a2) p11 a1 a2)
else none)
else none)
else
  (f_X8_gather_50 (fun v a1 a2 => f_X8_gather_7  n v a1 a2) v a1 a2))
def f_X8_gather (v : rV) (a1 : Int32) : Option (Bool × rV) := vlet (rI v 174 34 (0 : Int32)) fun v1 =>
  f_X8_gather_7  20000 v1 a1 (0 : Int32)
set_option maxRecDepth 20000 in
theorem b_X8_gather_58 {X : Nat × (Nat → Int32)} {r : Bool × rV}   : ∀ (n : Nat) (v : rV) (a2 : Int32) , f_X8_gather_58   n v a2 = some r → Ev mX8_gather 2 0 0 58 [(0, .ref 174), (2, .int a2)] [] (rZ X) v (rPZ X r) := by
  intro n
  induction n with
  | zero =>
    intros
    rename_i h
    cases h
  | succ n ih =>
    intro v a2 h
    rw [f_X8_gather_58] at h
    refine e_iload_n dX8_gather_58 rfl ?_
    refine e_aload_n dX8_gather_59 rfl ?_
    refine e_get (w := .int (v.1 174 34)) (j := 34) dX8_gather_60 k0_174 rc8 (by decide) wfX8_247 rfl ?_
    refine e_icmp_ge (tgt := 100) dX8_gather_63 (by decide) (fun c6 => ?_) (fun c6 => ?_)
    · rw [if_pos c6] at h
      refine e_iconst (x := (1 : Int32)) dX8_gather_100 (by decide) ?_
      obtain rfl := Option.some.inj h
      exact e_iret dX8_gather_101 rfl rfl ⟨rfl, rfl, rfl⟩
    · rw [if_neg c6] at h
      refine e_aload_n dX8_gather_66 rfl ?_
      refine e_get (w := .ref 190) (j := 31) dX8_gather_67 k0_174 rc8 (by decide) wfX8_59 (g0_174_31) ?_
      refine e_iload_n dX8_gather_70 rfl ?_
      refine e_iconst (x := (1 : Int32)) dX8_gather_71 (by decide) ?_
      refine e_isub dX8_gather_72 ?_
      obtain ⟨c2, h⟩ := grd h
      refine e_ialdJ dX8_gather_73 k0_190 rfl c2.2 c2.1 ?_
      refine e_aload_n dX8_gather_74 rfl ?_
      refine e_get (w := .ref 191) (j := 32) dX8_gather_75 k0_174 rc8 (by decide) wfX8_62 (g0_174_32) ?_
      refine e_iload_n dX8_gather_78 rfl ?_
      refine e_iconst (x := (1 : Int32)) dX8_gather_79 (by decide) ?_
      refine e_isub dX8_gather_80 ?_
      refine e_ialdJ dX8_gather_81 k0_191 rfl (c2).2 (c2).1 ?_
      refine e_iadd dX8_gather_82 ?_
      refine e_aload_n dX8_gather_83 rfl ?_
      refine e_get (w := .ref 190) (j := 31) dX8_gather_84 k0_174 rc8 (by decide) wfX8_59 (g0_174_31) ?_
      refine e_iload_n dX8_gather_87 rfl ?_
      obtain ⟨c3, h⟩ := grd h
      refine e_ialdJ dX8_gather_88 k0_190 rfl c3.2 c3.1 ?_
      refine e_icmp_le (tgt := 94) dX8_gather_89 (by decide) (fun c5 => ?_) (fun c5 => ?_)
      · rw [if_pos c5] at h
        obtain ⟨x4, ex4, h⟩ := vlet_ex h
        refine e_iinc (lv' := [(2, .int x4), (0, .ref 174)]) dX8_gather_94 rfl (ex4.symm) (by decide) rfl ?_
        clear ex4
        refine e_goto (tgt := 58) dX8_gather_97 (by decide) ?_
        refine e_sub [1, 0] rfl ?_
        exact ih v x4 h
      · rw [if_neg c5] at h
        refine e_iconst (x := (0 : Int32)) dX8_gather_92 (by decide) ?_
        obtain rfl := Option.some.inj h
        exact e_iret dX8_gather_93 rfl rfl ⟨rfl, rfl, rfl⟩
set_option maxRecDepth 20000 in
theorem b_X8_gather_50 {X : Nat × (Nat → Int32)} {r : Bool × rV} {v : rV} {q7 : rV → Int32 → Int32 → Option (Bool × rV)} (hq7 : ∀ (v : rV) (a1 : Int32) (a2 : Int32) , q7 v a1 a2 = some r → Ev mX8_gather 2 0 0 7 [(0, .ref 174), (1, .int a1), (2, .int a2)] [] (rZ X) v (rPZ X r)) {a1 : Int32} {a2 : Int32}  (h : f_X8_gather_50 q7 v a1 a2 = some r) : Ev mX8_gather 2 0 0 50 [(0, .ref 174), (1, .int a1), (2, .int a2)] [] (rZ X) v (rPZ X r) := by
  unfold f_X8_gather_50 at h
  obtain ⟨x8, ex8, h⟩ := vlet_ex h
  refine e_iinc (lv' := [(2, .int x8), (0, .ref 174), (1, .int a1)]) dX8_gather_50 rfl (ex8.symm) (by decide) rfl ?_
  clear ex8
  refine e_goto (tgt := 7) dX8_gather_53 (by decide) ?_
  refine e_sub [1, 2, 0] rfl ?_
  exact hq7 v a1 x8 h
set_option maxRecDepth 20000 in
theorem b_X8_gather_7 {X : Nat × (Nat → Int32)} {r : Bool × rV}   : ∀ (n : Nat) (v : rV) (a1 : Int32) (a2 : Int32) , f_X8_gather_7   n v a1 a2 = some r → Ev mX8_gather 2 0 0 7 [(0, .ref 174), (1, .int a1), (2, .int a2)] [] (rZ X) v (rPZ X r) := by
  intro n
  induction n with
  | zero =>
    intros
    rename_i h
    cases h
  | succ n ih =>
    intro v a1 a2 h
    rw [f_X8_gather_7] at h
    refine e_iload_n dX8_gather_7 rfl ?_
    refine e_aload_n dX8_gather_8 rfl ?_
    refine e_get (w := .int (v.1 174 21)) (j := 21) dX8_gather_9 k0_174 rc8 (by decide) wfX8_241 rfl ?_
    refine e_icmp_ge (tgt := 56) dX8_gather_12 (by decide) (fun c13 => ?_) (fun c13 => ?_)
    · rw [if_pos c13] at h
      refine e_iconst (x := (1 : Int32)) dX8_gather_56 (by decide) ?_
      refine e_istore_n (lv' := [(2, .int (1 : Int32)), (0, .ref 174), (1, .int a1)]) dX8_gather_57 (by decide) rfl ?_
      refine e_sub [1, 0] rfl ?_
      exact b_X8_gather_58  _ v (1 : Int32) h
    · rw [if_neg c13] at h
      refine e_iload_n dX8_gather_15 rfl ?_
      refine e_iload_n dX8_gather_16 rfl ?_
      refine c_SZ (M' := mX8_has) [.int a1, .int a2] dX8_gather_17 rfl wmX8_206 stX8_has lkX8_has (Nat.le_of_ble_eq_true rfl) ((x_X8_has ).mono (by omega)) ?_
      refine e_if_eq (tgt := 50) dX8_gather_20 (by decide) (fun c12 => ?_) (fun c12 => ?_)
      · rw [if_neg (bI_n c12)] at h
        exact b_X8_gather_50 (fun v a1 a2  hh => ih v a1 a2  hh) h
      · rw [if_pos (bI_p c12)] at h
        refine e_aload_n dX8_gather_23 rfl ?_
        refine e_aload_n dX8_gather_24 rfl ?_
        refine e_get (w := .ref 185) (j := 19) dX8_gather_25 k0_174 rc8 (by decide) wfX8_40 (g0_174_19) ?_
        refine e_bipush (x := (12 : Int32)) dX8_gather_28 (by decide) ?_
        refine e_iload_n dX8_gather_30 rfl ?_
        refine e_imul dX8_gather_31 ?_
        refine e_iconst (x := (0 : Int32)) dX8_gather_32 (by decide) ?_
        refine e_iadd dX8_gather_33 ?_
        obtain ⟨c9, h⟩ := grd h
        refine e_ialdJ dX8_gather_34 k0_185 rfl c9.2 c9.1 ?_
        refine e_aload_n dX8_gather_35 rfl ?_
        refine e_get (w := .ref 185) (j := 19) dX8_gather_36 k0_174 rc8 (by decide) wfX8_40 (g0_174_19) ?_
        refine e_bipush (x := (12 : Int32)) dX8_gather_39 (by decide) ?_
        refine e_iload_n dX8_gather_41 rfl ?_
        refine e_imul dX8_gather_42 ?_
        refine e_iconst (x := (1 : Int32)) dX8_gather_43 (by decide) ?_
        refine e_iadd dX8_gather_44 ?_
        obtain ⟨c10, h⟩ := grd h
        refine e_ialdJ dX8_gather_45 k0_185 rfl c10.2 c10.1 ?_
        refine e_iload_n dX8_gather_46 rfl ?_
        obtain ⟨p11, ep11, h⟩ := Option.bind_eq_some_iff.mp h
        refine c_VV (M' := mX8_addPiece) [.int (v.1 185 ((((12 : Int32) * a2) + (0 : Int32)).toNatClampNeg)), .int (v.1 185 ((((12 : Int32) * a2) + (1 : Int32)).toNatClampNeg)), .int a2] dX8_gather_47 rfl wmX8_250 imX8_addPiece seX8_addPiece lkX8_addPiece k0_174 rc8 (Nat.le_of_ble_eq_true rfl) ((x_X8_addPiece  ep11).mono (by omega)) ?_
        exact b_X8_gather_50 (fun v a1 a2  hh => ih v a1 a2  hh) h
set_option maxRecDepth 20000 in
theorem x_X8_gather {X : Nat × (Nat → Int32)} {v : rV} {r : Bool × rV} {a1 : Int32}  (h : f_X8_gather v a1 = some r) : EvM mX8_gather 2 0 0 [.ref 174, .int a1] (rZ X) v (rPZ X r) := by
  refine evm_of (by decide +kernel) (fun G => Nat.le_of_ble_eq_true rfl) ?_
  show Ev mX8_gather 2 0 0 0 [(0, .ref 174), (1, .int a1)] [] (rZ X) v _
  unfold f_X8_gather at h
  refine e_aload_n dX8_gather_0 rfl ?_
  refine e_iconst (x := (0 : Int32)) dX8_gather_1 (by decide) ?_
  refine e_putI (j := 34) dX8_gather_2 k0_174 rc8 (by decide) wfX8_247 rfl rfl ?_
  obtain ⟨v1, ev1, h⟩ := vlet_ex h
  refine e_nameV ev1.symm ?_
  clear ev1
  refine e_iconst (x := (0 : Int32)) dX8_gather_5 (by decide) ?_
  refine e_istore_n (lv' := [(2, .int (0 : Int32)), (0, .ref 174), (1, .int a1)]) dX8_gather_6 (by decide) rfl ?_
  refine e_sub [1, 2, 0] rfl ?_
  exact b_X8_gather_7  _ v1 a1 (0 : Int32) h
def f_X8_weightAt (a0 : Int32) (a1 : Int32) (a2 : Int32) (a3 : Int32) : Int32 := (((a2 - a0) + (1 : Int32)) * ((a1 - a2) + (1 : Int32))) * ((10 : Int32) + (a3 * (a2 - a0)))
set_option maxRecDepth 20000 in
theorem x_X8_weightAt {X : Nat × (Nat → Int32)} {v : rV} {a0 : Int32} {a1 : Int32} {a2 : Int32} {a3 : Int32}  : EvM mX8_weightAt 1 0 0 [.int a0, .int a1, .int a2, .int a3] (rZ X) v (rPI X ((f_X8_weightAt a0 a1 a2 a3), v)) := by
  refine evm_of (by decide +kernel) (fun G => Nat.le_of_ble_eq_true rfl) ?_
  show Ev mX8_weightAt 1 0 0 0 [(0, .int a0), (1, .int a1), (2, .int a2), (3, .int a3)] [] (rZ X) v _
  generalize h : f_X8_weightAt a0 a1 a2 a3 = r
  unfold f_X8_weightAt at h
  refine e_iload_n dX8_weightAt_0 rfl ?_
  refine e_iload_n dX8_weightAt_1 rfl ?_
  refine e_isub dX8_weightAt_2 ?_
  refine e_iconst (x := (1 : Int32)) dX8_weightAt_3 (by decide) ?_
  refine e_iadd dX8_weightAt_4 ?_
  refine e_iload_n dX8_weightAt_5 rfl ?_
  refine e_iload_n dX8_weightAt_6 rfl ?_
  refine e_isub dX8_weightAt_7 ?_
  refine e_iconst (x := (1 : Int32)) dX8_weightAt_8 (by decide) ?_
  refine e_iadd dX8_weightAt_9 ?_
  refine e_imul dX8_weightAt_10 ?_
  refine e_bipush (x := (10 : Int32)) dX8_weightAt_11 (by decide) ?_
  refine e_iload_n dX8_weightAt_13 rfl ?_
  refine e_iload_n dX8_weightAt_14 rfl ?_
  refine e_iload_n dX8_weightAt_15 rfl ?_
  refine e_isub dX8_weightAt_16 ?_
  refine e_imul dX8_weightAt_17 ?_
  refine e_iadd dX8_weightAt_18 ?_
  refine e_imul dX8_weightAt_19 ?_
  subst h
  exact e_iret dX8_weightAt_20 rfl rfl ⟨rfl, rfl, rfl⟩
def f_X8_shape_94   : Nat → rV → Int32 → Int32 → Option (rV)
  | 0, _, _, _ => none
  | n + 1, v, a6, a7 => if a6 ≤ 0 then
  (some v)
else
  (vlet ((0 : Int32) + a7 : Int32) fun x1 =>
  if ¬ x1 < 0 ∧ x1.toNatClampNeg < 416 then
  (vlet (rI v 187 x1.toNatClampNeg ((v.1 187 x1.toNatClampNeg) + (1 : Int32))) fun v3 =>
  vlet (a6 + (-1 : Int32)) fun x4 =>
  vlet (a7 + (1 : Int32)) fun x5 =>
  f_X8_shape_94  n v3 x4 x5)
else none)
def f_X8_shape_38   : Nat → rV → Int32 → Int32 → Int32 → Int32 → Int32 → Int32 → Int32 → Option (rV)
  | 0, _, _, _, _, _, _, _, _ => none
  | n + 1, v, a1, a2, a3, a4, a5, a6, a7 => if a2 < a7 then
  (f_X8_shape_94  20000 v a6 a1)
else
  (if a5.toInt64 = 0 then none else
  if ¬ ((0 : Int32) + a7) < 0 ∧ ((0 : Int32) + a7).toNatClampNeg < 416 then
  (vlet (rI v 187 (((0 : Int32) + a7).toNatClampNeg) (((a3.toInt64 * ((f_X8_weightAt a1 a2 a7 a4).toInt64)) / a5.toInt64).toInt32)) fun v9 =>
  vlet (a6 - (v9.1 187 (((0 : Int32) + a7).toNatClampNeg)) : Int32) fun x10 =>
  vlet (a7 + (1 : Int32)) fun x11 =>
  f_X8_shape_38  n v9 a1 a2 a3 a4 a5 x10 x11)
else none)
def f_X8_shape_6   : Nat → rV → Int32 → Int32 → Int32 → Int32 → Int32 → Int32 → Option (rV)
  | 0, _, _, _, _, _, _, _ => none
  | n + 1, v, a1, a2, a3, a4, a5, a6 => if a2 < a6 then
  (f_X8_shape_38  20000 v a1 a2 a3 a4 a5 a3 a1)
else
  (vlet (a5 + (f_X8_weightAt a1 a2 a6 a4) : Int32) fun x15 =>
  vlet (a6 + (1 : Int32)) fun x16 =>
  f_X8_shape_6  n v a1 a2 a3 a4 x15 x16)
def f_X8_shape (v : rV) (a1 : Int32) (a2 : Int32) (a3 : Int32) (a4 : Int32) : Option (rV) := f_X8_shape_6  20000 v a1 a2 a3 a4 (0 : Int32) a1
set_option maxRecDepth 20000 in
theorem b_X8_shape_94 {X : Nat × (Nat → Int32)} {r : rV}   : ∀ (n : Nat) (v : rV) (a6 : Int32) (a7 : Int32) , f_X8_shape_94   n v a6 a7 = some r → Ev mX8_shape 2 0 0 94 [(0, .ref 174), (6, .int a6), (7, .int a7)] [] (rZ X) v (rPV X r) := by
  intro n
  induction n with
  | zero =>
    intros
    rename_i h
    cases h
  | succ n ih =>
    intro v a6 a7 h
    rw [f_X8_shape_94] at h
    refine e_iload dX8_shape_94 rfl ?_
    refine e_if_le (tgt := 121) dX8_shape_96 (by decide) (fun c6 => ?_) (fun c6 => ?_)
    · rw [if_pos c6] at h
      obtain rfl := Option.some.inj h
      exact e_ret dX8_shape_121 rfl ⟨rfl, rfl, rfl⟩
    · rw [if_neg c6] at h
      refine e_aload_n dX8_shape_99 rfl ?_
      refine e_get (w := .ref 187) (j := 24) dX8_shape_100 k0_174 rc8 (by decide) wfX8_50 (g0_174_24) ?_
      refine e_iconst (x := (0 : Int32)) dX8_shape_103 (by decide) ?_
      refine e_iload dX8_shape_104 rfl ?_
      refine e_iadd dX8_shape_106 ?_
      obtain ⟨x1, ex1, h⟩ := vlet_ex h
      refine e_nameI ex1.symm ?_
      clear ex1
      refine e_dup2 dX8_shape_107 rfl rfl ?_
      obtain ⟨c2, h⟩ := grd h
      refine e_ialdJ dX8_shape_108 k0_187 rfl c2.2 c2.1 ?_
      refine e_iconst (x := (1 : Int32)) dX8_shape_109 (by decide) ?_
      refine e_iadd dX8_shape_110 ?_
      refine e_iastJ dX8_shape_111 k0_187 rfl (c2).2 (c2).1 ?_
      obtain ⟨v3, ev3, h⟩ := vlet_ex h
      refine e_nameV ev3.symm ?_
      clear ev3
      obtain ⟨x4, ex4, h⟩ := vlet_ex h
      refine e_iinc (lv' := [(6, .int x4), (0, .ref 174), (7, .int a7)]) dX8_shape_112 rfl (ex4.symm) (by decide) rfl ?_
      clear ex4
      obtain ⟨x5, ex5, h⟩ := vlet_ex h
      refine e_iinc (lv' := [(7, .int x5), (6, .int x4), (0, .ref 174)]) dX8_shape_115 rfl (ex5.symm) (by decide) rfl ?_
      clear ex5
      refine e_goto (tgt := 94) dX8_shape_118 (by decide) ?_
      refine e_sub [2, 1, 0] rfl ?_
      exact ih v3 x4 x5 h
set_option maxRecDepth 20000 in
theorem b_X8_shape_38 {X : Nat × (Nat → Int32)} {r : rV}   : ∀ (n : Nat) (v : rV) (a1 : Int32) (a2 : Int32) (a3 : Int32) (a4 : Int32) (a5 : Int32) (a6 : Int32) (a7 : Int32) , f_X8_shape_38   n v a1 a2 a3 a4 a5 a6 a7 = some r → Ev mX8_shape 2 0 0 38 [(0, .ref 174), (1, .int a1), (2, .int a2), (3, .int a3), (4, .int a4), (5, .int a5), (6, .int a6), (7, .int a7)] [] (rZ X) v (rPV X r) := by
  intro n
  induction n with
  | zero =>
    intros
    rename_i h
    cases h
  | succ n ih =>
    intro v a1 a2 a3 a4 a5 a6 a7 h
    rw [f_X8_shape_38] at h
    refine e_iload dX8_shape_38 rfl ?_
    refine e_iload_n dX8_shape_40 rfl ?_
    refine e_icmp_gt (tgt := 91) dX8_shape_41 (by decide) (fun c13 => ?_) (fun c13 => ?_)
    · rw [if_pos c13] at h
      refine e_iload_n dX8_shape_91 rfl ?_
      refine e_istore (lv' := [(7, .int a1), (0, .ref 174), (1, .int a1), (2, .int a2), (3, .int a3), (4, .int a4), (5, .int a5), (6, .int a6)]) dX8_shape_92 (by decide) rfl ?_
      refine e_sub [1, 7, 0] rfl ?_
      exact b_X8_shape_94  _ v a6 a1 h
    · rw [if_neg c13] at h
      refine e_aload_n dX8_shape_44 rfl ?_
      refine e_get (w := .ref 187) (j := 24) dX8_shape_45 k0_174 rc8 (by decide) wfX8_50 (g0_174_24) ?_
      refine e_iconst (x := (0 : Int32)) dX8_shape_48 (by decide) ?_
      refine e_iload dX8_shape_49 rfl ?_
      refine e_iadd dX8_shape_51 ?_
      refine e_iload_n dX8_shape_52 rfl ?_
      refine e_i2l dX8_shape_53 ?_
      refine e_iload_n dX8_shape_54 rfl ?_
      refine e_iload_n dX8_shape_55 rfl ?_
      refine e_iload dX8_shape_56 rfl ?_
      refine e_iload dX8_shape_58 rfl ?_
      refine c_SI (M' := mX8_weightAt) [.int a1, .int a2, .int a7, .int a4] dX8_shape_60 rfl wmX8_268 stX8_weightAt lkX8_weightAt (Nat.le_of_ble_eq_true rfl) ((x_X8_weightAt ).mono (by omega)) ?_
      refine e_i2l dX8_shape_63 ?_
      refine e_lmul dX8_shape_64 ?_
      refine e_iload dX8_shape_65 rfl ?_
      refine e_i2l dX8_shape_67 ?_
      obtain ⟨c12, h⟩ := grdn h
      refine e_ldiv dX8_shape_68 c12 ?_
      refine e_l2i dX8_shape_69 ?_
      obtain ⟨c8, h⟩ := grd h
      refine e_iastJ dX8_shape_70 k0_187 rfl c8.2 c8.1 ?_
      obtain ⟨v9, ev9, h⟩ := vlet_ex h
      refine e_nameV ev9.symm ?_
      clear ev9
      refine e_iload dX8_shape_71 rfl ?_
      refine e_aload_n dX8_shape_73 rfl ?_
      refine e_get (w := .ref 187) (j := 24) dX8_shape_74 k0_174 rc8 (by decide) wfX8_50 (g0_174_24) ?_
      refine e_iconst (x := (0 : Int32)) dX8_shape_77 (by decide) ?_
      refine e_iload dX8_shape_78 rfl ?_
      refine e_iadd dX8_shape_80 ?_
      refine e_ialdJ dX8_shape_81 k0_187 rfl (c8).2 (c8).1 ?_
      refine e_isub dX8_shape_82 ?_
      obtain ⟨x10, ex10, h⟩ := vlet_ex h
      refine e_nameI ex10.symm ?_
      clear ex10
      refine e_istore (lv' := [(6, .int x10), (0, .ref 174), (1, .int a1), (2, .int a2), (3, .int a3), (4, .int a4), (5, .int a5), (7, .int a7)]) dX8_shape_83 (by decide) rfl ?_
      obtain ⟨x11, ex11, h⟩ := vlet_ex h
      refine e_iinc (lv' := [(7, .int x11), (6, .int x10), (0, .ref 174), (1, .int a1), (2, .int a2), (3, .int a3), (4, .int a4), (5, .int a5)]) dX8_shape_85 rfl (ex11.symm) (by decide) rfl ?_
      clear ex11
      refine e_goto (tgt := 38) dX8_shape_88 (by decide) ?_
      refine e_sub [2, 3, 4, 5, 6, 7, 1, 0] rfl ?_
      exact ih v9 a1 a2 a3 a4 a5 x10 x11 h
set_option maxRecDepth 20000 in
theorem b_X8_shape_6 {X : Nat × (Nat → Int32)} {r : rV}   : ∀ (n : Nat) (v : rV) (a1 : Int32) (a2 : Int32) (a3 : Int32) (a4 : Int32) (a5 : Int32) (a6 : Int32) , f_X8_shape_6   n v a1 a2 a3 a4 a5 a6 = some r → Ev mX8_shape 2 0 0 6 [(0, .ref 174), (1, .int a1), (2, .int a2), (3, .int a3), (4, .int a4), (5, .int a5), (6, .int a6)] [] (rZ X) v (rPV X r) := by
  intro n
  induction n with
  | zero =>
    intros
    rename_i h
    cases h
  | succ n ih =>
    intro v a1 a2 a3 a4 a5 a6 h
    rw [f_X8_shape_6] at h
    refine e_iload dX8_shape_6 rfl ?_
    refine e_iload_n dX8_shape_8 rfl ?_
    refine e_icmp_gt (tgt := 32) dX8_shape_9 (by decide) (fun c17 => ?_) (fun c17 => ?_)
    · rw [if_pos c17] at h
      refine e_iload_n dX8_shape_32 rfl ?_
      refine e_istore (lv' := [(6, .int a3), (0, .ref 174), (1, .int a1), (2, .int a2), (3, .int a3), (4, .int a4), (5, .int a5)]) dX8_shape_33 (by decide) rfl ?_
      refine e_iload_n dX8_shape_35 rfl ?_
      refine e_istore (lv' := [(7, .int a1), (6, .int a3), (0, .ref 174), (1, .int a1), (2, .int a2), (3, .int a3), (4, .int a4), (5, .int a5)]) dX8_shape_36 (by decide) rfl ?_
      refine e_sub [2, 3, 4, 5, 6, 7, 1, 0] rfl ?_
      exact b_X8_shape_38  _ v a1 a2 a3 a4 a5 a3 a1 h
    · rw [if_neg c17] at h
      refine e_iload dX8_shape_12 rfl ?_
      refine e_iload_n dX8_shape_14 rfl ?_
      refine e_iload_n dX8_shape_15 rfl ?_
      refine e_iload dX8_shape_16 rfl ?_
      refine e_iload dX8_shape_18 rfl ?_
      refine c_SI (M' := mX8_weightAt) [.int a1, .int a2, .int a6, .int a4] dX8_shape_20 rfl wmX8_268 stX8_weightAt lkX8_weightAt (Nat.le_of_ble_eq_true rfl) ((x_X8_weightAt ).mono (by omega)) ?_
      refine e_iadd dX8_shape_23 ?_
      obtain ⟨x15, ex15, h⟩ := vlet_ex h
      refine e_nameI ex15.symm ?_
      clear ex15
      refine e_istore (lv' := [(5, .int x15), (0, .ref 174), (1, .int a1), (2, .int a2), (3, .int a3), (4, .int a4), (6, .int a6)]) dX8_shape_24 (by decide) rfl ?_
      obtain ⟨x16, ex16, h⟩ := vlet_ex h
      refine e_iinc (lv' := [(6, .int x16), (5, .int x15), (0, .ref 174), (1, .int a1), (2, .int a2), (3, .int a3), (4, .int a4)]) dX8_shape_26 rfl (ex16.symm) (by decide) rfl ?_
      clear ex16
      refine e_goto (tgt := 6) dX8_shape_29 (by decide) ?_
      refine e_sub [2, 3, 4, 5, 6, 1, 0] rfl ?_
      exact ih v a1 a2 a3 a4 x15 x16 h
set_option maxRecDepth 20000 in
theorem x_X8_shape {X : Nat × (Nat → Int32)} {v : rV} {r : rV} {a1 : Int32} {a2 : Int32} {a3 : Int32} {a4 : Int32}  (h : f_X8_shape v a1 a2 a3 a4 = some r) : EvM mX8_shape 2 0 0 [.ref 174, .int a1, .int a2, .int a3, .int a4] (rZ X) v (rPV X r) := by
  refine evm_of (by decide +kernel) (fun G => Nat.le_of_ble_eq_true rfl) ?_
  show Ev mX8_shape 2 0 0 0 [(0, .ref 174), (1, .int a1), (2, .int a2), (3, .int a3), (4, .int a4)] [] (rZ X) v _
  unfold f_X8_shape at h
  refine e_iconst (x := (0 : Int32)) dX8_shape_0 (by decide) ?_
  refine e_istore (lv' := [(5, .int (0 : Int32)), (0, .ref 174), (1, .int a1), (2, .int a2), (3, .int a3), (4, .int a4)]) dX8_shape_1 (by decide) rfl ?_
  refine e_iload_n dX8_shape_3 rfl ?_
  refine e_istore (lv' := [(6, .int a1), (5, .int (0 : Int32)), (0, .ref 174), (1, .int a1), (2, .int a2), (3, .int a3), (4, .int a4)]) dX8_shape_4 (by decide) rfl ?_
  refine e_sub [2, 3, 4, 5, 6, 1, 0] rfl ?_
  exact b_X8_shape_6  _ v a1 a2 a3 a4 (0 : Int32) a1 h
def f_X8_land_315   : Nat → rV → Int32 → Int32 → Int32 → Int32 → Option (rV)
  | 0, _, _, _, _, _ => none
  | n + 1, v, a3, a4, a8, a10 => if a8 ≤ a10 then
  (some v)
else
  (if ((a4 - a3) + (1 : Int32)) = 0 then none else
  vlet (((48 : Int32) + a3) + (a10 - a10 / ((a4 - a3) + (1 : Int32)) * ((a4 - a3) + (1 : Int32))) : Int32) fun x20 =>
  if ¬ x20 < 0 ∧ x20.toNatClampNeg < 416 then
  (vlet (rI v 187 x20.toNatClampNeg ((v.1 187 x20.toNatClampNeg) + (1 : Int32))) fun v22 =>
  vlet (a10 + (1 : Int32)) fun x23 =>
  f_X8_land_315  n v22 a3 a4 a8 x23)
else none)
def f_X8_land_276   : Nat → rV → Int32 → Int32 → Int32 → Int32 → Int32 → Option (rV)
  | 0, _, _, _, _, _, _ => none
  | n + 1, v, a3, a4, a7, a8, a10 => if a7 ≤ a10 then
  (f_X8_land_315  20000 v a3 a4 a8 (0 : Int32))
else
  (if ((a4 - a3) + (1 : Int32)) = 0 then none else
  vlet (((24 : Int32) + a3) + (a10 - a10 / ((a4 - a3) + (1 : Int32)) * ((a4 - a3) + (1 : Int32))) : Int32) fun x26 =>
  if ¬ x26 < 0 ∧ x26.toNatClampNeg < 416 then
  (vlet (rI v 187 x26.toNatClampNeg ((v.1 187 x26.toNatClampNeg) + (1 : Int32))) fun v28 =>
  vlet (a10 + (1 : Int32)) fun x29 =>
  f_X8_land_276  n v28 a3 a4 a7 a8 x29)
else none)
def f_X8_land_226   : Nat → rV → Int32 → Int32 → Int32 → Int32 → Int32 → Int32 → Int32 → Option (rV)
  | 0, _, _, _, _, _, _, _, _ => none
  | n + 1, v, a3, a4, a5, a6, a7, a8, a10 => if a4 < a10 then
  (if ¬ (((12 : Int32) * a5) + (11 : Int32)) < 0 ∧ (((12 : Int32) * a5) + (11 : Int32)).toNatClampNeg < 156 then
  ((f_X8_shape v a3 a4 a6 (v.1 185 ((((12 : Int32) * a5) + (11 : Int32)).toNatClampNeg))).bind fun p19 =>
  f_X8_land_276  20000 p19 a3 a4 a7 a8 (0 : Int32))
else none)
else
  (if ¬ ((216 : Int32) + a10) < 0 ∧ ((216 : Int32) + a10).toNatClampNeg < 416 then
  (vlet (rI v 187 (((216 : Int32) + a10).toNatClampNeg) (1 : Int32)) fun v33 =>
  vlet (a10 + (1 : Int32)) fun x34 =>
  f_X8_land_226  n v33 a3 a4 a5 a6 a7 a8 x34)
else none)
def f_X8_land_48   : Nat → rV → Int32 → Int32 → Int32 → Int32 → Int32 → Int32 → Int32 → Int32 → Option (rV)
  | 0, _, _, _, _, _, _, _, _, _ => none
  | n + 1, v, a2, a3, a4, a5, a6, a7, a8, a9 => if a2 ≤ a9 then
  (vlet (v.1 187 288 : Int32) fun x6 =>
  vlet (rI v 187 288 ((v.1 187 288) + (1 : Int32))) fun v7 =>
  if ¬ ((240 : Int32) + x6) < 0 ∧ ((240 : Int32) + x6).toNatClampNeg < 416 then
  (vlet (rI v7 187 (((240 : Int32) + x6).toNatClampNeg) a3) fun v9 =>
  if ¬ ((252 : Int32) + x6) < 0 ∧ ((252 : Int32) + x6).toNatClampNeg < 416 then
  (vlet (rI v9 187 (((252 : Int32) + x6).toNatClampNeg) a4) fun v11 =>
  if ¬ ((264 : Int32) + x6) < 0 ∧ ((264 : Int32) + x6).toNatClampNeg < 416 then
  (vlet (rI v11 187 (((264 : Int32) + x6).toNatClampNeg) a5) fun v13 =>
  if ¬ ((192 : Int32) + a3) < 0 ∧ ((192 : Int32) + a3).toNatClampNeg < 416 then
  (vlet (rI v13 187 (((192 : Int32) + a3).toNatClampNeg) (1 : Int32)) fun v15 =>
  if ¬ ((192 : Int32) + a4) < 0 ∧ ((192 : Int32) + a4).toNatClampNeg < 416 then
  (vlet (rI v15 187 (((192 : Int32) + a4).toNatClampNeg) (1 : Int32)) fun v17 =>
  f_X8_land_226  20000 v17 a3 a4 a5 a6 a7 a8 a3)
else none)
else none)
else none)
else none)
else none)
else
  (if ¬ a9 < 0 ∧ a9.toNatClampNeg < 12 then
  (vlet (if (v.1 192 a9.toNatClampNeg) < a5 then (v.1 192 a9.toNatClampNeg) else a5 : Int32) fun x37 =>
  if ¬ (((12 : Int32) * (v.1 192 a9.toNatClampNeg)) + (2 : Int32)) < 0 ∧ (((12 : Int32) * (v.1 192 a9.toNatClampNeg)) + (2 : Int32)).toNatClampNeg < 156 then
  (vlet (a6 + (v.1 185 ((((12 : Int32) * (v.1 192 a9.toNatClampNeg)) + (2 : Int32)).toNatClampNeg)) : Int32) fun x39 =>
  if ¬ (((12 : Int32) * (v.1 192 a9.toNatClampNeg)) + (3 : Int32)) < 0 ∧ (((12 : Int32) * (v.1 192 a9.toNatClampNeg)) + (3 : Int32)).toNatClampNeg < 156 then
  (vlet (a7 + (v.1 185 ((((12 : Int32) * (v.1 192 a9.toNatClampNeg)) + (3 : Int32)).toNatClampNeg)) : Int32) fun x41 =>
  if ¬ (((12 : Int32) * (v.1 192 a9.toNatClampNeg)) + (4 : Int32)) < 0 ∧ (((12 : Int32) * (v.1 192 a9.toNatClampNeg)) + (4 : Int32)).toNatClampNeg < 156 then
  (vlet (a8 + (v.1 185 ((((12 : Int32) * (v.1 192 a9.toNatClampNeg)) + (4 : Int32)).toNatClampNeg)) : Int32) fun x43 =>
  vlet (a9 + (1 : Int32)) fun x44 =>
  f_X8_land_48  n v a2 a3 a4 x37 x39 x41 x43 x44)
else none)
else none)
else none)
else none)
def f_X8_land (v : rV) (a1 : Int32) (a2 : Int32) : Option (rV) := if ¬ a1 < 0 ∧ a1.toNatClampNeg < 12 then
  (vlet (v.1 190 a1.toNatClampNeg : Int32) fun x2 =>
  if ¬ (a2 - (1 : Int32)) < 0 ∧ (a2 - (1 : Int32)).toNatClampNeg < 12 then
  (vlet (((v.1 190 ((a2 - (1 : Int32)).toNatClampNeg)) + (v.1 191 ((a2 - (1 : Int32)).toNatClampNeg))) - (1 : Int32) : Int32) fun x4 =>
  vlet (v.1 192 a1.toNatClampNeg : Int32) fun x5 =>
  f_X8_land_48  20000 v a2 x2 x4 x5 (0 : Int32) (0 : Int32) (0 : Int32) a1)
else none)
else none
set_option maxRecDepth 20000 in
theorem b_X8_land_315 {X : Nat × (Nat → Int32)} {r : rV}   : ∀ (n : Nat) (v : rV) (a3 : Int32) (a4 : Int32) (a8 : Int32) (a10 : Int32) , f_X8_land_315   n v a3 a4 a8 a10 = some r → Ev mX8_land 3 0 0 315 [(0, .ref 174), (3, .int a3), (4, .int a4), (8, .int a8), (10, .int a10)] [] (rZ X) v (rPV X r) := by
  intro n
  induction n with
  | zero =>
    intros
    rename_i h
    cases h
  | succ n ih =>
    intro v a3 a4 a8 a10 h
    rw [f_X8_land_315] at h
    refine e_iload dX8_land_315 rfl ?_
    refine e_iload dX8_land_317 rfl ?_
    refine e_icmp_ge (tgt := 351) dX8_land_319 (by decide) (fun c25 => ?_) (fun c25 => ?_)
    · rw [if_pos c25] at h
      obtain rfl := Option.some.inj h
      exact e_ret dX8_land_351 rfl ⟨rfl, rfl, rfl⟩
    · rw [if_neg c25] at h
      refine e_aload_n dX8_land_322 rfl ?_
      refine e_get (w := .ref 187) (j := 24) dX8_land_323 k0_174 rc8 (by decide) wfX8_50 (g0_174_24) ?_
      refine e_bipush (x := (48 : Int32)) dX8_land_326 (by decide) ?_
      refine e_iload_n dX8_land_328 rfl ?_
      refine e_iadd dX8_land_329 ?_
      refine e_iload dX8_land_330 rfl ?_
      refine e_iload dX8_land_332 rfl ?_
      refine e_iload_n dX8_land_334 rfl ?_
      refine e_isub dX8_land_335 ?_
      refine e_iconst (x := (1 : Int32)) dX8_land_336 (by decide) ?_
      refine e_iadd dX8_land_337 ?_
      obtain ⟨c24, h⟩ := grdn h
      refine e_irem dX8_land_338 c24 ?_
      refine e_iadd dX8_land_339 ?_
      obtain ⟨x20, ex20, h⟩ := vlet_ex h
      refine e_nameI ex20.symm ?_
      clear ex20
      refine e_dup2 dX8_land_340 rfl rfl ?_
      obtain ⟨c21, h⟩ := grd h
      refine e_ialdJ dX8_land_341 k0_187 rfl c21.2 c21.1 ?_
      refine e_iconst (x := (1 : Int32)) dX8_land_342 (by decide) ?_
      refine e_iadd dX8_land_343 ?_
      refine e_iastJ dX8_land_344 k0_187 rfl (c21).2 (c21).1 ?_
      obtain ⟨v22, ev22, h⟩ := vlet_ex h
      refine e_nameV ev22.symm ?_
      clear ev22
      obtain ⟨x23, ex23, h⟩ := vlet_ex h
      refine e_iinc (lv' := [(10, .int x23), (0, .ref 174), (3, .int a3), (4, .int a4), (8, .int a8)]) dX8_land_345 rfl (ex23.symm) (by decide) rfl ?_
      clear ex23
      refine e_goto (tgt := 315) dX8_land_348 (by decide) ?_
      refine e_sub [1, 2, 3, 4, 0] rfl ?_
      exact ih v22 a3 a4 a8 x23 h
set_option maxRecDepth 20000 in
theorem b_X8_land_276 {X : Nat × (Nat → Int32)} {r : rV}   : ∀ (n : Nat) (v : rV) (a3 : Int32) (a4 : Int32) (a7 : Int32) (a8 : Int32) (a10 : Int32) , f_X8_land_276   n v a3 a4 a7 a8 a10 = some r → Ev mX8_land 3 0 0 276 [(0, .ref 174), (3, .int a3), (4, .int a4), (7, .int a7), (8, .int a8), (10, .int a10)] [] (rZ X) v (rPV X r) := by
  intro n
  induction n with
  | zero =>
    intros
    rename_i h
    cases h
  | succ n ih =>
    intro v a3 a4 a7 a8 a10 h
    rw [f_X8_land_276] at h
    refine e_iload dX8_land_276 rfl ?_
    refine e_iload dX8_land_278 rfl ?_
    refine e_icmp_ge (tgt := 312) dX8_land_280 (by decide) (fun c31 => ?_) (fun c31 => ?_)
    · rw [if_pos c31] at h
      refine e_iconst (x := (0 : Int32)) dX8_land_312 (by decide) ?_
      refine e_istore (lv' := [(10, .int (0 : Int32)), (0, .ref 174), (3, .int a3), (4, .int a4), (7, .int a7), (8, .int a8)]) dX8_land_313 (by decide) rfl ?_
      refine e_sub [1, 2, 3, 5, 0] rfl ?_
      exact b_X8_land_315  _ v a3 a4 a8 (0 : Int32) h
    · rw [if_neg c31] at h
      refine e_aload_n dX8_land_283 rfl ?_
      refine e_get (w := .ref 187) (j := 24) dX8_land_284 k0_174 rc8 (by decide) wfX8_50 (g0_174_24) ?_
      refine e_bipush (x := (24 : Int32)) dX8_land_287 (by decide) ?_
      refine e_iload_n dX8_land_289 rfl ?_
      refine e_iadd dX8_land_290 ?_
      refine e_iload dX8_land_291 rfl ?_
      refine e_iload dX8_land_293 rfl ?_
      refine e_iload_n dX8_land_295 rfl ?_
      refine e_isub dX8_land_296 ?_
      refine e_iconst (x := (1 : Int32)) dX8_land_297 (by decide) ?_
      refine e_iadd dX8_land_298 ?_
      obtain ⟨c30, h⟩ := grdn h
      refine e_irem dX8_land_299 c30 ?_
      refine e_iadd dX8_land_300 ?_
      obtain ⟨x26, ex26, h⟩ := vlet_ex h
      refine e_nameI ex26.symm ?_
      clear ex26
      refine e_dup2 dX8_land_301 rfl rfl ?_
      obtain ⟨c27, h⟩ := grd h
      refine e_ialdJ dX8_land_302 k0_187 rfl c27.2 c27.1 ?_
      refine e_iconst (x := (1 : Int32)) dX8_land_303 (by decide) ?_
      refine e_iadd dX8_land_304 ?_
      refine e_iastJ dX8_land_305 k0_187 rfl (c27).2 (c27).1 ?_
      obtain ⟨v28, ev28, h⟩ := vlet_ex h
      refine e_nameV ev28.symm ?_
      clear ev28
      obtain ⟨x29, ex29, h⟩ := vlet_ex h
      refine e_iinc (lv' := [(10, .int x29), (0, .ref 174), (3, .int a3), (4, .int a4), (7, .int a7), (8, .int a8)]) dX8_land_306 rfl (ex29.symm) (by decide) rfl ?_
      clear ex29
      refine e_goto (tgt := 276) dX8_land_309 (by decide) ?_
      refine e_sub [1, 2, 3, 4, 5, 0] rfl ?_
      exact ih v28 a3 a4 a7 a8 x29 h
set_option maxRecDepth 20000 in
theorem b_X8_land_226 {X : Nat × (Nat → Int32)} {r : rV}   : ∀ (n : Nat) (v : rV) (a3 : Int32) (a4 : Int32) (a5 : Int32) (a6 : Int32) (a7 : Int32) (a8 : Int32) (a10 : Int32) , f_X8_land_226   n v a3 a4 a5 a6 a7 a8 a10 = some r → Ev mX8_land 3 0 0 226 [(0, .ref 174), (3, .int a3), (4, .int a4), (5, .int a5), (6, .int a6), (7, .int a7), (8, .int a8), (10, .int a10)] [] (rZ X) v (rPV X r) := by
  intro n
  induction n with
  | zero =>
    intros
    rename_i h
    cases h
  | succ n ih =>
    intro v a3 a4 a5 a6 a7 a8 a10 h
    rw [f_X8_land_226] at h
    refine e_iload dX8_land_226 rfl ?_
    refine e_iload dX8_land_228 rfl ?_
    refine e_icmp_gt (tgt := 251) dX8_land_230 (by decide) (fun c35 => ?_) (fun c35 => ?_)
    · rw [if_pos c35] at h
      refine e_aload_n dX8_land_251 rfl ?_
      refine e_iload_n dX8_land_252 rfl ?_
      refine e_iload dX8_land_253 rfl ?_
      refine e_iload dX8_land_255 rfl ?_
      refine e_aload_n dX8_land_257 rfl ?_
      refine e_get (w := .ref 185) (j := 19) dX8_land_258 k0_174 rc8 (by decide) wfX8_40 (g0_174_19) ?_
      refine e_bipush (x := (12 : Int32)) dX8_land_261 (by decide) ?_
      refine e_iload dX8_land_263 rfl ?_
      refine e_imul dX8_land_265 ?_
      refine e_bipush (x := (11 : Int32)) dX8_land_266 (by decide) ?_
      refine e_iadd dX8_land_268 ?_
      obtain ⟨c18, h⟩ := grd h
      refine e_ialdJ dX8_land_269 k0_185 rfl c18.2 c18.1 ?_
      obtain ⟨p19, ep19, h⟩ := Option.bind_eq_some_iff.mp h
      refine c_VV (M' := mX8_shape) [.int a3, .int a4, .int a6, .int (v.1 185 ((((12 : Int32) * a5) + (11 : Int32)).toNatClampNeg))] dX8_land_270 rfl wmX8_264 imX8_shape seX8_shape lkX8_shape k0_174 rc8 (Nat.le_of_ble_eq_true rfl) ((x_X8_shape  ep19).mono (by omega)) ?_
      refine e_iconst (x := (0 : Int32)) dX8_land_273 (by decide) ?_
      refine e_istore (lv' := [(10, .int (0 : Int32)), (0, .ref 174), (3, .int a3), (4, .int a4), (5, .int a5), (6, .int a6), (7, .int a7), (8, .int a8)]) dX8_land_274 (by decide) rfl ?_
      refine e_sub [1, 2, 3, 6, 7, 0] rfl ?_
      exact b_X8_land_276  _ p19 a3 a4 a7 a8 (0 : Int32) h
    · rw [if_neg c35] at h
      refine e_aload_n dX8_land_233 rfl ?_
      refine e_get (w := .ref 187) (j := 24) dX8_land_234 k0_174 rc8 (by decide) wfX8_50 (g0_174_24) ?_
      refine e_sipush (x := (216 : Int32)) dX8_land_237 (by decide) ?_
      refine e_iload dX8_land_240 rfl ?_
      refine e_iadd dX8_land_242 ?_
      refine e_iconst (x := (1 : Int32)) dX8_land_243 (by decide) ?_
      obtain ⟨c32, h⟩ := grd h
      refine e_iastJ dX8_land_244 k0_187 rfl c32.2 c32.1 ?_
      obtain ⟨v33, ev33, h⟩ := vlet_ex h
      refine e_nameV ev33.symm ?_
      clear ev33
      obtain ⟨x34, ex34, h⟩ := vlet_ex h
      refine e_iinc (lv' := [(10, .int x34), (0, .ref 174), (3, .int a3), (4, .int a4), (5, .int a5), (6, .int a6), (7, .int a7), (8, .int a8)]) dX8_land_245 rfl (ex34.symm) (by decide) rfl ?_
      clear ex34
      refine e_goto (tgt := 226) dX8_land_248 (by decide) ?_
      refine e_sub [1, 2, 3, 4, 5, 6, 7, 0] rfl ?_
      exact ih v33 a3 a4 a5 a6 a7 a8 x34 h
set_option maxRecDepth 20000 in
theorem b_X8_land_48 {X : Nat × (Nat → Int32)} {r : rV}   : ∀ (n : Nat) (v : rV) (a2 : Int32) (a3 : Int32) (a4 : Int32) (a5 : Int32) (a6 : Int32) (a7 : Int32) (a8 : Int32) (a9 : Int32) , f_X8_land_48   n v a2 a3 a4 a5 a6 a7 a8 a9 = some r → Ev mX8_land 3 0 0 48 [(0, .ref 174), (2, .int a2), (3, .int a3), (4, .int a4), (5, .int a5), (6, .int a6), (7, .int a7), (8, .int a8), (9, .int a9)] [] (rZ X) v (rPV X r) := by
  intro n
  induction n with
  | zero =>
    intros
    rename_i h
    cases h
  | succ n ih =>
    intro v a2 a3 a4 a5 a6 a7 a8 a9 h
    rw [f_X8_land_48] at h
    refine e_iload dX8_land_48 rfl ?_
    refine e_iload_n dX8_land_50 rfl ?_
    refine e_icmp_ge (tgt := 140) dX8_land_51 (by decide) (fun c45 => ?_) (fun c45 => ?_)
    · rw [if_pos c45] at h
      refine e_aload_n dX8_land_140 rfl ?_
      refine e_get (w := .ref 187) (j := 24) dX8_land_141 k0_174 rc8 (by decide) wfX8_50 (g0_174_24) ?_
      refine e_sipush (x := (288 : Int32)) dX8_land_144 (by decide) ?_
      refine e_ialdJ dX8_land_147 k0_187 (j := 288) (by decide) (by decide) (by decide) ?_
      obtain ⟨x6, ex6, h⟩ := vlet_ex h
      refine e_nameI ex6.symm ?_
      clear ex6
      refine e_istore (lv' := [(9, .int x6), (0, .ref 174), (2, .int a2), (3, .int a3), (4, .int a4), (5, .int a5), (6, .int a6), (7, .int a7), (8, .int a8)]) dX8_land_148 (by decide) rfl ?_
      refine e_aload_n dX8_land_150 rfl ?_
      refine e_get (w := .ref 187) (j := 24) dX8_land_151 k0_174 rc8 (by decide) wfX8_50 (g0_174_24) ?_
      refine e_sipush (x := (288 : Int32)) dX8_land_154 (by decide) ?_
      refine e_dup2 dX8_land_157 rfl rfl ?_
      refine e_ialdJ dX8_land_158 k0_187 (j := 288) (by decide) (by decide) (by decide) ?_
      refine e_iconst (x := (1 : Int32)) dX8_land_159 (by decide) ?_
      refine e_iadd dX8_land_160 ?_
      refine e_iastJ dX8_land_161 k0_187 (j := 288) (by decide) (by decide) (by decide) ?_
      obtain ⟨v7, ev7, h⟩ := vlet_ex h
      refine e_nameV ev7.symm ?_
      clear ev7
      refine e_aload_n dX8_land_162 rfl ?_
      refine e_get (w := .ref 187) (j := 24) dX8_land_163 k0_174 rc8 (by decide) wfX8_50 (g0_174_24) ?_
      refine e_sipush (x := (240 : Int32)) dX8_land_166 (by decide) ?_
      refine e_iload dX8_land_169 rfl ?_
      refine e_iadd dX8_land_171 ?_
      refine e_iload_n dX8_land_172 rfl ?_
      obtain ⟨c8, h⟩ := grd h
      refine e_iastJ dX8_land_173 k0_187 rfl c8.2 c8.1 ?_
      obtain ⟨v9, ev9, h⟩ := vlet_ex h
      refine e_nameV ev9.symm ?_
      clear ev9
      refine e_aload_n dX8_land_174 rfl ?_
      refine e_get (w := .ref 187) (j := 24) dX8_land_175 k0_174 rc8 (by decide) wfX8_50 (g0_174_24) ?_
      refine e_sipush (x := (252 : Int32)) dX8_land_178 (by decide) ?_
      refine e_iload dX8_land_181 rfl ?_
      refine e_iadd dX8_land_183 ?_
      refine e_iload dX8_land_184 rfl ?_
      obtain ⟨c10, h⟩ := grd h
      refine e_iastJ dX8_land_186 k0_187 rfl c10.2 c10.1 ?_
      obtain ⟨v11, ev11, h⟩ := vlet_ex h
      refine e_nameV ev11.symm ?_
      clear ev11
      refine e_aload_n dX8_land_187 rfl ?_
      refine e_get (w := .ref 187) (j := 24) dX8_land_188 k0_174 rc8 (by decide) wfX8_50 (g0_174_24) ?_
      refine e_sipush (x := (264 : Int32)) dX8_land_191 (by decide) ?_
      refine e_iload dX8_land_194 rfl ?_
      refine e_iadd dX8_land_196 ?_
      refine e_iload dX8_land_197 rfl ?_
      obtain ⟨c12, h⟩ := grd h
      refine e_iastJ dX8_land_199 k0_187 rfl c12.2 c12.1 ?_
      obtain ⟨v13, ev13, h⟩ := vlet_ex h
      refine e_nameV ev13.symm ?_
      clear ev13
      refine e_aload_n dX8_land_200 rfl ?_
      refine e_get (w := .ref 187) (j := 24) dX8_land_201 k0_174 rc8 (by decide) wfX8_50 (g0_174_24) ?_
      refine e_sipush (x := (192 : Int32)) dX8_land_204 (by decide) ?_
      refine e_iload_n dX8_land_207 rfl ?_
      refine e_iadd dX8_land_208 ?_
      refine e_iconst (x := (1 : Int32)) dX8_land_209 (by decide) ?_
      obtain ⟨c14, h⟩ := grd h
      refine e_iastJ dX8_land_210 k0_187 rfl c14.2 c14.1 ?_
      obtain ⟨v15, ev15, h⟩ := vlet_ex h
      refine e_nameV ev15.symm ?_
      clear ev15
      refine e_aload_n dX8_land_211 rfl ?_
      refine e_get (w := .ref 187) (j := 24) dX8_land_212 k0_174 rc8 (by decide) wfX8_50 (g0_174_24) ?_
      refine e_sipush (x := (192 : Int32)) dX8_land_215 (by decide) ?_
      refine e_iload dX8_land_218 rfl ?_
      refine e_iadd dX8_land_220 ?_
      refine e_iconst (x := (1 : Int32)) dX8_land_221 (by decide) ?_
      obtain ⟨c16, h⟩ := grd h
      refine e_iastJ dX8_land_222 k0_187 rfl c16.2 c16.1 ?_
      obtain ⟨v17, ev17, h⟩ := vlet_ex h
      refine e_nameV ev17.symm ?_
      clear ev17
      refine e_iload_n dX8_land_223 rfl ?_
      refine e_istore (lv' := [(10, .int a3), (9, .int x6), (0, .ref 174), (2, .int a2), (3, .int a3), (4, .int a4), (5, .int a5), (6, .int a6), (7, .int a7), (8, .int a8)]) dX8_land_224 (by decide) rfl ?_
      refine e_sub [2, 4, 5, 6, 7, 8, 9, 0] rfl ?_
      exact b_X8_land_226  _ v17 a3 a4 a5 a6 a7 a8 a3 h
    · rw [if_neg c45] at h
      refine e_iload dX8_land_54 rfl ?_
      refine e_aload_n dX8_land_56 rfl ?_
      refine e_get (w := .ref 192) (j := 33) dX8_land_57 k0_174 rc8 (by decide) wfX8_65 (g0_174_33) ?_
      refine e_iload dX8_land_60 rfl ?_
      obtain ⟨c36, h⟩ := grd h
      refine e_ialdJ dX8_land_62 k0_192 rfl c36.2 c36.1 ?_
      refine e_min dX8_land_63 wmX8_261 wmst_min winimath wmcd_min (by omega) (Nat.le_of_ble_eq_true rfl) ?_
      obtain ⟨x37, ex37, h⟩ := vlet_ex h
      refine e_nameI ex37.symm ?_
      clear ex37
      refine e_istore (lv' := [(5, .int x37), (0, .ref 174), (2, .int a2), (3, .int a3), (4, .int a4), (6, .int a6), (7, .int a7), (8, .int a8), (9, .int a9)]) dX8_land_66 (by decide) rfl ?_
      refine e_iload dX8_land_68 rfl ?_
      refine e_aload_n dX8_land_70 rfl ?_
      refine e_get (w := .ref 185) (j := 19) dX8_land_71 k0_174 rc8 (by decide) wfX8_40 (g0_174_19) ?_
      refine e_bipush (x := (12 : Int32)) dX8_land_74 (by decide) ?_
      refine e_aload_n dX8_land_76 rfl ?_
      refine e_get (w := .ref 192) (j := 33) dX8_land_77 k0_174 rc8 (by decide) wfX8_65 (g0_174_33) ?_
      refine e_iload dX8_land_80 rfl ?_
      refine e_ialdJ dX8_land_82 k0_192 rfl (c36).2 (c36).1 ?_
      refine e_imul dX8_land_83 ?_
      refine e_iconst (x := (2 : Int32)) dX8_land_84 (by decide) ?_
      refine e_iadd dX8_land_85 ?_
      obtain ⟨c38, h⟩ := grd h
      refine e_ialdJ dX8_land_86 k0_185 rfl c38.2 c38.1 ?_
      refine e_iadd dX8_land_87 ?_
      obtain ⟨x39, ex39, h⟩ := vlet_ex h
      refine e_nameI ex39.symm ?_
      clear ex39
      refine e_istore (lv' := [(6, .int x39), (5, .int x37), (0, .ref 174), (2, .int a2), (3, .int a3), (4, .int a4), (7, .int a7), (8, .int a8), (9, .int a9)]) dX8_land_88 (by decide) rfl ?_
      refine e_iload dX8_land_90 rfl ?_
      refine e_aload_n dX8_land_92 rfl ?_
      refine e_get (w := .ref 185) (j := 19) dX8_land_93 k0_174 rc8 (by decide) wfX8_40 (g0_174_19) ?_
      refine e_bipush (x := (12 : Int32)) dX8_land_96 (by decide) ?_
      refine e_aload_n dX8_land_98 rfl ?_
      refine e_get (w := .ref 192) (j := 33) dX8_land_99 k0_174 rc8 (by decide) wfX8_65 (g0_174_33) ?_
      refine e_iload dX8_land_102 rfl ?_
      refine e_ialdJ dX8_land_104 k0_192 rfl (c36).2 (c36).1 ?_
      refine e_imul dX8_land_105 ?_
      refine e_iconst (x := (3 : Int32)) dX8_land_106 (by decide) ?_
      refine e_iadd dX8_land_107 ?_
      obtain ⟨c40, h⟩ := grd h
      refine e_ialdJ dX8_land_108 k0_185 rfl c40.2 c40.1 ?_
      refine e_iadd dX8_land_109 ?_
      obtain ⟨x41, ex41, h⟩ := vlet_ex h
      refine e_nameI ex41.symm ?_
      clear ex41
      refine e_istore (lv' := [(7, .int x41), (6, .int x39), (5, .int x37), (0, .ref 174), (2, .int a2), (3, .int a3), (4, .int a4), (8, .int a8), (9, .int a9)]) dX8_land_110 (by decide) rfl ?_
      refine e_iload dX8_land_112 rfl ?_
      refine e_aload_n dX8_land_114 rfl ?_
      refine e_get (w := .ref 185) (j := 19) dX8_land_115 k0_174 rc8 (by decide) wfX8_40 (g0_174_19) ?_
      refine e_bipush (x := (12 : Int32)) dX8_land_118 (by decide) ?_
      refine e_aload_n dX8_land_120 rfl ?_
      refine e_get (w := .ref 192) (j := 33) dX8_land_121 k0_174 rc8 (by decide) wfX8_65 (g0_174_33) ?_
      refine e_iload dX8_land_124 rfl ?_
      refine e_ialdJ dX8_land_126 k0_192 rfl (c36).2 (c36).1 ?_
      refine e_imul dX8_land_127 ?_
      refine e_iconst (x := (4 : Int32)) dX8_land_128 (by decide) ?_
      refine e_iadd dX8_land_129 ?_
      obtain ⟨c42, h⟩ := grd h
      refine e_ialdJ dX8_land_130 k0_185 rfl c42.2 c42.1 ?_
      refine e_iadd dX8_land_131 ?_
      obtain ⟨x43, ex43, h⟩ := vlet_ex h
      refine e_nameI ex43.symm ?_
      clear ex43
      refine e_istore (lv' := [(8, .int x43), (7, .int x41), (6, .int x39), (5, .int x37), (0, .ref 174), (2, .int a2), (3, .int a3), (4, .int a4), (9, .int a9)]) dX8_land_132 (by decide) rfl ?_
      obtain ⟨x44, ex44, h⟩ := vlet_ex h
      refine e_iinc (lv' := [(9, .int x44), (8, .int x43), (7, .int x41), (6, .int x39), (5, .int x37), (0, .ref 174), (2, .int a2), (3, .int a3), (4, .int a4)]) dX8_land_134 rfl (ex44.symm) (by decide) rfl ?_
      clear ex44
      refine e_goto (tgt := 48) dX8_land_137 (by decide) ?_
      refine e_sub [5, 6, 7, 8, 4, 3, 2, 1, 0] rfl ?_
      exact ih v a2 a3 a4 x37 x39 x41 x43 x44 h
set_option maxRecDepth 20000 in
theorem x_X8_land {X : Nat × (Nat → Int32)} {v : rV} {r : rV} {a1 : Int32} {a2 : Int32}  (h : f_X8_land v a1 a2 = some r) : EvM mX8_land 3 0 0 [.ref 174, .int a1, .int a2] (rZ X) v (rPV X r) := by
  refine evm_of (by decide +kernel) (fun G => Nat.le_of_ble_eq_true rfl) ?_
  show Ev mX8_land 3 0 0 0 [(0, .ref 174), (1, .int a1), (2, .int a2)] [] (rZ X) v _
  unfold f_X8_land at h
  refine e_aload_n dX8_land_0 rfl ?_
  refine e_get (w := .ref 190) (j := 31) dX8_land_1 k0_174 rc8 (by decide) wfX8_59 (g0_174_31) ?_
  refine e_iload_n dX8_land_4 rfl ?_
  obtain ⟨c1, h⟩ := grd h
  refine e_ialdJ dX8_land_5 k0_190 rfl c1.2 c1.1 ?_
  obtain ⟨x2, ex2, h⟩ := vlet_ex h
  refine e_nameI ex2.symm ?_
  clear ex2
  refine e_istore_n (lv' := [(3, .int x2), (0, .ref 174), (1, .int a1), (2, .int a2)]) dX8_land_6 (by decide) rfl ?_
  refine e_aload_n dX8_land_7 rfl ?_
  refine e_get (w := .ref 190) (j := 31) dX8_land_8 k0_174 rc8 (by decide) wfX8_59 (g0_174_31) ?_
  refine e_iload_n dX8_land_11 rfl ?_
  refine e_iconst (x := (1 : Int32)) dX8_land_12 (by decide) ?_
  refine e_isub dX8_land_13 ?_
  obtain ⟨c3, h⟩ := grd h
  refine e_ialdJ dX8_land_14 k0_190 rfl c3.2 c3.1 ?_
  refine e_aload_n dX8_land_15 rfl ?_
  refine e_get (w := .ref 191) (j := 32) dX8_land_16 k0_174 rc8 (by decide) wfX8_62 (g0_174_32) ?_
  refine e_iload_n dX8_land_19 rfl ?_
  refine e_iconst (x := (1 : Int32)) dX8_land_20 (by decide) ?_
  refine e_isub dX8_land_21 ?_
  refine e_ialdJ dX8_land_22 k0_191 rfl (c3).2 (c3).1 ?_
  refine e_iadd dX8_land_23 ?_
  refine e_iconst (x := (1 : Int32)) dX8_land_24 (by decide) ?_
  refine e_isub dX8_land_25 ?_
  obtain ⟨x4, ex4, h⟩ := vlet_ex h
  refine e_nameI ex4.symm ?_
  clear ex4
  refine e_istore (lv' := [(4, .int x4), (3, .int x2), (0, .ref 174), (1, .int a1), (2, .int a2)]) dX8_land_26 (by decide) rfl ?_
  refine e_aload_n dX8_land_28 rfl ?_
  refine e_get (w := .ref 192) (j := 33) dX8_land_29 k0_174 rc8 (by decide) wfX8_65 (g0_174_33) ?_
  refine e_iload_n dX8_land_32 rfl ?_
  refine e_ialdJ dX8_land_33 k0_192 rfl (c1).2 (c1).1 ?_
  obtain ⟨x5, ex5, h⟩ := vlet_ex h
  refine e_nameI ex5.symm ?_
  clear ex5
  refine e_istore (lv' := [(5, .int x5), (4, .int x4), (3, .int x2), (0, .ref 174), (1, .int a1), (2, .int a2)]) dX8_land_34 (by decide) rfl ?_
  refine e_iconst (x := (0 : Int32)) dX8_land_36 (by decide) ?_
  refine e_istore (lv' := [(6, .int (0 : Int32)), (5, .int x5), (4, .int x4), (3, .int x2), (0, .ref 174), (1, .int a1), (2, .int a2)]) dX8_land_37 (by decide) rfl ?_
  refine e_iconst (x := (0 : Int32)) dX8_land_39 (by decide) ?_
  refine e_istore (lv' := [(7, .int (0 : Int32)), (6, .int (0 : Int32)), (5, .int x5), (4, .int x4), (3, .int x2), (0, .ref 174), (1, .int a1), (2, .int a2)]) dX8_land_40 (by decide) rfl ?_
  refine e_iconst (x := (0 : Int32)) dX8_land_42 (by decide) ?_
  refine e_istore (lv' := [(8, .int (0 : Int32)), (7, .int (0 : Int32)), (6, .int (0 : Int32)), (5, .int x5), (4, .int x4), (3, .int x2), (0, .ref 174), (1, .int a1), (2, .int a2)]) dX8_land_43 (by decide) rfl ?_
  refine e_iload_n dX8_land_45 rfl ?_
  refine e_istore (lv' := [(9, .int a1), (8, .int (0 : Int32)), (7, .int (0 : Int32)), (6, .int (0 : Int32)), (5, .int x5), (4, .int x4), (3, .int x2), (0, .ref 174), (1, .int a1), (2, .int a2)]) dX8_land_46 (by decide) rfl ?_
  refine e_sub [7, 9, 6, 5, 4, 3, 2, 1, 0] rfl ?_
  exact b_X8_land_48  _ v a2 x2 x4 x5 (0 : Int32) (0 : Int32) (0 : Int32) a1 h
def f_X8_begin_110  (q51 : rV → Int32 → Option (rV)) (v : rV) (a4 : Int32) (a5 : Int32) : Option (rV) := (f_X8_land v a4 a5).bind fun p5 =>
  q51 p5 a5
def f_X8_begin_66  (q51 : rV → Int32 → Option (rV)) : Nat → rV → Int32 → Int32 → Option (rV)
  | 0, _, _, _ => none
  | n + 1, v, a4, a5 => if (v.1 174 34) ≤ a5 then
  (f_X8_begin_110 q51 v a4 a5)
else
  (if ¬ (a5 - (1 : Int32)) < 0 ∧ (a5 - (1 : Int32)).toNatClampNeg < 12 then
  (if ¬ a5 < 0 ∧ a5.toNatClampNeg < 12 then
  (if ((v.1 190 ((a5 - (1 : Int32)).toNatClampNeg)) + (v.1 191 ((a5 - (1 : Int32)).toNatClampNeg))) = (v.1 190 a5.toNatClampNeg) then
  (vlet (a5 + (1 : Int32)) fun x8 =>
  f_X8_begin_66 q51 n v a4 x8)
else
  (f_X8_begin_110 q51 v a4 a5))
else none)
else none)
def f_X8_begin_51   : Nat → rV → Int32 → Option (rV)
  | 0, _, _ => none
  | n + 1, v, a4 => if (v.1 174 34) ≤ a4 then
  (some v)
else
  (vlet (a4 + (1 : Int32) : Int32) fun x4 =>
  f_X8_begin_66 (fun v a4 => f_X8_begin_51  n v a4) 20000 v a4 x4)
def f_X8_begin_3   : Nat → rV → Int32 → Int64 → Int32 → Option (rV)
  | 0, _, _, _, _ => none
  | n + 1, v, a1, a2, a4 => if (416 : Int32) ≤ a4 then
  (vlet (rI v 187 294 a1) fun v1 =>
  vlet (rI v1 187 295 (1 : Int32)) fun v2 =>
  vlet (rL v2 174 27 a2) fun v3 =>
  f_X8_begin_51  20000 v3 (0 : Int32))
else
  (if ¬ a4 < 0 ∧ a4.toNatClampNeg < 416 then
  (vlet (rI v 187 a4.toNatClampNeg (0 : Int32)) fun v13 =>
  vlet (a4 + (1 : Int32)) fun x14 =>
  f_X8_begin_3  n v13 a1 a2 x14)
else none)
def f_X8_begin (v : rV) (a1 : Int32) (a2 : Int64) : Option (rV) := f_X8_begin_3  20000 v a1 a2 (0 : Int32)
set_option maxRecDepth 20000 in
theorem b_X8_begin_110 {X : Nat × (Nat → Int32)} {r : rV} {v : rV} {q51 : rV → Int32 → Option (rV)} (hq51 : ∀ (v : rV) (a4 : Int32) , q51 v a4 = some r → Ev mX8_begin 4 0 0 51 [(0, .ref 174), (4, .int a4)] [] (rZ X) v (rPV X r)) {a4 : Int32} {a5 : Int32}  (h : f_X8_begin_110 q51 v a4 a5 = some r) : Ev mX8_begin 4 0 0 110 [(0, .ref 174), (4, .int a4), (5, .int a5)] [] (rZ X) v (rPV X r) := by
  unfold f_X8_begin_110 at h
  refine e_aload_n dX8_begin_110 rfl ?_
  refine e_iload dX8_begin_111 rfl ?_
  refine e_iload dX8_begin_113 rfl ?_
  obtain ⟨p5, ep5, h⟩ := Option.bind_eq_some_iff.mp h
  refine c_VV (M' := mX8_land) [.int a4, .int a5] dX8_begin_115 rfl wmX8_258 imX8_land seX8_land lkX8_land k0_174 rc8 (Nat.le_of_ble_eq_true rfl) ((x_X8_land  ep5).mono (by omega)) ?_
  refine e_iload dX8_begin_118 rfl ?_
  refine e_istore (lv' := [(4, .int a5), (0, .ref 174), (5, .int a5)]) dX8_begin_120 (by decide) rfl ?_
  refine e_goto (tgt := 51) dX8_begin_122 (by decide) ?_
  refine e_sub [1, 0] rfl ?_
  exact hq51 p5 a5 h
set_option maxRecDepth 20000 in
theorem b_X8_begin_66 {X : Nat × (Nat → Int32)} {r : rV} {q51 : rV → Int32 → Option (rV)} (hq51 : ∀ (v : rV) (a4 : Int32) , q51 v a4 = some r → Ev mX8_begin 4 0 0 51 [(0, .ref 174), (4, .int a4)] [] (rZ X) v (rPV X r)) : ∀ (n : Nat) (v : rV) (a4 : Int32) (a5 : Int32) , f_X8_begin_66  q51 n v a4 a5 = some r → Ev mX8_begin 4 0 0 66 [(0, .ref 174), (4, .int a4), (5, .int a5)] [] (rZ X) v (rPV X r) := by
  intro n
  induction n with
  | zero =>
    intros
    rename_i h
    cases h
  | succ n ih =>
    intro v a4 a5 h
    rw [f_X8_begin_66] at h
    refine e_iload dX8_begin_66 rfl ?_
    refine e_aload_n dX8_begin_68 rfl ?_
    refine e_get (w := .int (v.1 174 34)) (j := 34) dX8_begin_69 k0_174 rc8 (by decide) wfX8_247 rfl ?_
    refine e_icmp_ge (tgt := 110) dX8_begin_72 (by decide) (fun c10 => ?_) (fun c10 => ?_)
    · rw [if_pos c10] at h
      exact b_X8_begin_110 hq51 h
    · rw [if_neg c10] at h
      refine e_aload_n dX8_begin_75 rfl ?_
      refine e_get (w := .ref 190) (j := 31) dX8_begin_76 k0_174 rc8 (by decide) wfX8_59 (g0_174_31) ?_
      refine e_iload dX8_begin_79 rfl ?_
      refine e_iconst (x := (1 : Int32)) dX8_begin_81 (by decide) ?_
      refine e_isub dX8_begin_82 ?_
      obtain ⟨c6, h⟩ := grd h
      refine e_ialdJ dX8_begin_83 k0_190 rfl c6.2 c6.1 ?_
      refine e_aload_n dX8_begin_84 rfl ?_
      refine e_get (w := .ref 191) (j := 32) dX8_begin_85 k0_174 rc8 (by decide) wfX8_62 (g0_174_32) ?_
      refine e_iload dX8_begin_88 rfl ?_
      refine e_iconst (x := (1 : Int32)) dX8_begin_90 (by decide) ?_
      refine e_isub dX8_begin_91 ?_
      refine e_ialdJ dX8_begin_92 k0_191 rfl (c6).2 (c6).1 ?_
      refine e_iadd dX8_begin_93 ?_
      refine e_aload_n dX8_begin_94 rfl ?_
      refine e_get (w := .ref 190) (j := 31) dX8_begin_95 k0_174 rc8 (by decide) wfX8_59 (g0_174_31) ?_
      refine e_iload dX8_begin_98 rfl ?_
      obtain ⟨c7, h⟩ := grd h
      refine e_ialdJ dX8_begin_100 k0_190 rfl c7.2 c7.1 ?_
      refine e_icmp_ne (tgt := 110) dX8_begin_101 (by decide) (fun c9 => ?_) (fun c9 => ?_)
      · rw [if_neg c9] at h
        exact b_X8_begin_110 hq51 h
      · rw [if_pos c9] at h
        obtain ⟨x8, ex8, h⟩ := vlet_ex h
        refine e_iinc (lv' := [(5, .int x8), (0, .ref 174), (4, .int a4)]) dX8_begin_104 rfl (ex8.symm) (by decide) rfl ?_
        clear ex8
        refine e_goto (tgt := 66) dX8_begin_107 (by decide) ?_
        refine e_sub [1, 2, 0] rfl ?_
        exact ih v a4 x8 h
set_option maxRecDepth 20000 in
theorem b_X8_begin_51 {X : Nat × (Nat → Int32)} {r : rV}   : ∀ (n : Nat) (v : rV) (a4 : Int32) , f_X8_begin_51   n v a4 = some r → Ev mX8_begin 4 0 0 51 [(0, .ref 174), (4, .int a4)] [] (rZ X) v (rPV X r) := by
  intro n
  induction n with
  | zero =>
    intros
    rename_i h
    cases h
  | succ n ih =>
    intro v a4 h
    rw [f_X8_begin_51] at h
    refine e_iload dX8_begin_51 rfl ?_
    refine e_aload_n dX8_begin_53 rfl ?_
    refine e_get (w := .int (v.1 174 34)) (j := 34) dX8_begin_54 k0_174 rc8 (by decide) wfX8_247 rfl ?_
    refine e_icmp_ge (tgt := 125) dX8_begin_57 (by decide) (fun c11 => ?_) (fun c11 => ?_)
    · rw [if_pos c11] at h
      obtain rfl := Option.some.inj h
      exact e_ret dX8_begin_125 rfl ⟨rfl, rfl, rfl⟩
    · rw [if_neg c11] at h
      refine e_iload dX8_begin_60 rfl ?_
      refine e_iconst (x := (1 : Int32)) dX8_begin_62 (by decide) ?_
      refine e_iadd dX8_begin_63 ?_
      obtain ⟨x4, ex4, h⟩ := vlet_ex h
      refine e_nameI ex4.symm ?_
      clear ex4
      refine e_istore (lv' := [(5, .int x4), (0, .ref 174), (4, .int a4)]) dX8_begin_64 (by decide) rfl ?_
      refine e_sub [1, 2, 0] rfl ?_
      exact b_X8_begin_66 (fun v a4  hh => ih v a4  hh) _ v a4 x4 h
set_option maxRecDepth 20000 in
theorem b_X8_begin_3 {X : Nat × (Nat → Int32)} {r : rV}   : ∀ (n : Nat) (v : rV) (a1 : Int32) (a2 : Int64) (a4 : Int32) , f_X8_begin_3   n v a1 a2 a4 = some r → Ev mX8_begin 4 0 0 3 [(0, .ref 174), (1, .int a1), (2, .long a2), (4, .int a4)] [] (rZ X) v (rPV X r) := by
  intro n
  induction n with
  | zero =>
    intros
    rename_i h
    cases h
  | succ n ih =>
    intro v a1 a2 a4 h
    rw [f_X8_begin_3] at h
    refine e_iload dX8_begin_3 rfl ?_
    refine e_sipush (x := (416 : Int32)) dX8_begin_5 (by decide) ?_
    refine e_icmp_ge (tgt := 25) dX8_begin_8 (by decide) (fun c15 => ?_) (fun c15 => ?_)
    · rw [if_pos c15] at h
      refine e_aload_n dX8_begin_25 rfl ?_
      refine e_get (w := .ref 187) (j := 24) dX8_begin_26 k0_174 rc8 (by decide) wfX8_50 (g0_174_24) ?_
      refine e_sipush (x := (294 : Int32)) dX8_begin_29 (by decide) ?_
      refine e_iload_n dX8_begin_32 rfl ?_
      refine e_iastJ dX8_begin_33 k0_187 (j := 294) (by decide) (by decide) (by decide) ?_
      obtain ⟨v1, ev1, h⟩ := vlet_ex h
      refine e_nameV ev1.symm ?_
      clear ev1
      refine e_aload_n dX8_begin_34 rfl ?_
      refine e_get (w := .ref 187) (j := 24) dX8_begin_35 k0_174 rc8 (by decide) wfX8_50 (g0_174_24) ?_
      refine e_sipush (x := (295 : Int32)) dX8_begin_38 (by decide) ?_
      refine e_iconst (x := (1 : Int32)) dX8_begin_41 (by decide) ?_
      refine e_iastJ dX8_begin_42 k0_187 (j := 295) (by decide) (by decide) (by decide) ?_
      obtain ⟨v2, ev2, h⟩ := vlet_ex h
      refine e_nameV ev2.symm ?_
      clear ev2
      refine e_aload_n dX8_begin_43 rfl ?_
      refine e_lload_n dX8_begin_44 rfl ?_
      refine e_putL (j := 27) dX8_begin_45 k0_174 rc8 (by decide) wfX8_254 rfl rfl ?_
      obtain ⟨v3, ev3, h⟩ := vlet_ex h
      refine e_nameV ev3.symm ?_
      clear ev3
      refine e_iconst (x := (0 : Int32)) dX8_begin_48 (by decide) ?_
      refine e_istore (lv' := [(4, .int (0 : Int32)), (0, .ref 174), (1, .int a1), (2, .long a2)]) dX8_begin_49 (by decide) rfl ?_
      refine e_sub [1, 0] rfl ?_
      exact b_X8_begin_51  _ v3 (0 : Int32) h
    · rw [if_neg c15] at h
      refine e_aload_n dX8_begin_11 rfl ?_
      refine e_get (w := .ref 187) (j := 24) dX8_begin_12 k0_174 rc8 (by decide) wfX8_50 (g0_174_24) ?_
      refine e_iload dX8_begin_15 rfl ?_
      refine e_iconst (x := (0 : Int32)) dX8_begin_17 (by decide) ?_
      obtain ⟨c12, h⟩ := grd h
      refine e_iastJ dX8_begin_18 k0_187 rfl c12.2 c12.1 ?_
      obtain ⟨v13, ev13, h⟩ := vlet_ex h
      refine e_nameV ev13.symm ?_
      clear ev13
      obtain ⟨x14, ex14, h⟩ := vlet_ex h
      refine e_iinc (lv' := [(4, .int x14), (0, .ref 174), (1, .int a1), (2, .long a2)]) dX8_begin_19 rfl (ex14.symm) (by decide) rfl ?_
      clear ex14
      refine e_goto (tgt := 3) dX8_begin_22 (by decide) ?_
      refine e_sub [1, 2, 3, 0] rfl ?_
      exact ih v13 a1 a2 x14 h
set_option maxRecDepth 20000 in
theorem x_X8_begin {X : Nat × (Nat → Int32)} {v : rV} {r : rV} {a1 : Int32} {a2 : Int64}  (h : f_X8_begin v a1 a2 = some r) : EvM mX8_begin 4 0 0 [.ref 174, .int a1, .long a2] (rZ X) v (rPV X r) := by
  refine evm_of (by decide +kernel) (fun G => Nat.le_of_ble_eq_true rfl) ?_
  show Ev mX8_begin 4 0 0 0 [(0, .ref 174), (1, .int a1), (2, .long a2)] [] (rZ X) v _
  unfold f_X8_begin at h
  refine e_iconst (x := (0 : Int32)) dX8_begin_0 (by decide) ?_
  refine e_istore (lv' := [(4, .int (0 : Int32)), (0, .ref 174), (1, .int a1), (2, .long a2)]) dX8_begin_1 (by decide) rfl ?_
  refine e_sub [1, 2, 3, 0] rfl ?_
  exact b_X8_begin_3  _ v a1 a2 (0 : Int32) h
def f_X8_of (v : rV) (a1 : Int32) : Option (Int32) := if ¬ (((12 : Int32) * (v.1 174 39)) + a1) < 0 ∧ (((12 : Int32) * (v.1 174 39)) + a1).toNatClampNeg < 156 then
  (some (v.1 185 ((((12 : Int32) * (v.1 174 39)) + a1).toNatClampNeg)))
else none
set_option maxRecDepth 20000 in
theorem x_X8_of {X : Nat × (Nat → Int32)} {v : rV} {r : Int32} {a1 : Int32}  (h : f_X8_of v a1 = some r) : EvM mX8_of 1 0 0 [.ref 174, .int a1] (rZ X) v (rPI X (r, v)) := by
  refine evm_of (by decide +kernel) (fun G => Nat.le_of_ble_eq_true rfl) ?_
  show Ev mX8_of 1 0 0 0 [(0, .ref 174), (1, .int a1)] [] (rZ X) v _
  unfold f_X8_of at h
  refine e_aload_n dX8_of_0 rfl ?_
  refine e_get (w := .ref 185) (j := 19) dX8_of_1 k0_174 rc8 (by decide) wfX8_40 (g0_174_19) ?_
  refine e_bipush (x := (12 : Int32)) dX8_of_4 (by decide) ?_
  refine e_aload_n dX8_of_6 rfl ?_
  refine e_get (w := .int (v.1 174 39)) (j := 39) dX8_of_7 k0_174 rc8 (by decide) wfX8_285 rfl ?_
  refine e_imul dX8_of_10 ?_
  refine e_iload_n dX8_of_11 rfl ?_
  refine e_iadd dX8_of_12 ?_
  obtain ⟨c1, h⟩ := grd h
  refine e_ialdJ dX8_of_13 k0_185 rfl c1.2 c1.1 ?_
  obtain rfl := Option.some.inj h
  exact e_iret dX8_of_14 rfl rfl ⟨rfl, rfl, rfl⟩
def f_X8_bounded (a0 : Int64) : Int32 := (if (if a0 < (1000000 : Int64) then a0 else (1000000 : Int64)) < (-1000000 : Int64) then (-1000000 : Int64) else (if a0 < (1000000 : Int64) then a0 else (1000000 : Int64))).toInt32
set_option maxRecDepth 20000 in
theorem x_X8_bounded {X : Nat × (Nat → Int32)} {v : rV} {a0 : Int64}  : EvM mX8_bounded 1 0 0 [.long a0] (rZ X) v (rPI X ((f_X8_bounded a0), v)) := by
  refine evm_of (by decide +kernel) (fun G => Nat.le_of_ble_eq_true rfl) ?_
  show Ev mX8_bounded 1 0 0 0 [(0, .long a0)] [] (rZ X) v _
  generalize h : f_X8_bounded a0 = r
  unfold f_X8_bounded at h
  refine e_ldc2 dX8_bounded_0 wcX8_175 ?_
  refine e_ldc2 dX8_bounded_3 wcX8_177 ?_
  refine e_lload_n dX8_bounded_6 rfl ?_
  refine e_minl dX8_bounded_7 wmX8_179 wmst_minl winimath wmcd_minl (by omega) (Nat.le_of_ble_eq_true rfl) ?_
  refine e_maxl dX8_bounded_10 wmX8_185 wmst_maxl winimath wmcd_maxl (by omega) (Nat.le_of_ble_eq_true rfl) ?_
  refine e_l2i dX8_bounded_13 ?_
  subst h
  exact e_iret dX8_bounded_14 rfl rfl ⟨rfl, rfl, rfl⟩
def f_X8_worked_144 (v : rV)  (a1 : Int64) (a3 : Int64) : Option (Int32) := if (lg_cmp a1 (0 : Int64)) = 0 then
  (if (lg_cmp a3 (0 : Int64)) = 0 then
  (some (0 : Int32))
else
  (some (1 : Int32)))
else
  (some (1 : Int32))
def f_X8_worked (v : rV) (a0 : Int32) (a1 : Int64) (a3 : Int64) : Option (Int32) := if a0 = (2 : Int32) then
  (some (f_X8_bounded (a1 + a3)))
else
  (if a0 = (3 : Int32) then
  (some (f_X8_bounded (a1 - a3)))
else
  (if a0 = (4 : Int32) then
  (some (f_X8_bounded (a1 * a3)))
else
  (if a0 = (5 : Int32) then
  (if (lg_cmp a3 (0 : Int64)) = 0 then
  (some (0 : Int32))
else
  (if a3 = 0 then none else
  some (f_X8_bounded (a1 / a3))))
else
  (if a0 = (6 : Int32) then
  (if (lg_cmp a1 a3) = 0 then
  (some (1 : Int32))
else
  (some (0 : Int32)))
else
  (if a0 = (7 : Int32) then
  (if 0 ≤ (lg_cmp a1 a3) then
  (some (0 : Int32))
else
  (some (1 : Int32)))
else
  (if a0 = (8 : Int32) then
  (if (lg_cmp a1 a3) ≤ 0 then
  (some (0 : Int32))
else
  (some (1 : Int32)))
else
  (if a0 = (9 : Int32) then
  (f_X8_worked_144 v a1 a3)
else
  (if a0 = (10 : Int32) then
  (if (lg_cmp a1 (0 : Int64)) = 0 then
  (some (0 : Int32))
else
  (if (lg_cmp a3 (0 : Int64)) = 0 then
  (some (0 : Int32))
else
  (some (1 : Int32))))
else
  (f_X8_worked_144 v a1 a3)))))))))
set_option maxRecDepth 20000 in
theorem b_X8_worked_144 {X : Nat × (Nat → Int32)} {r : Int32} {v : rV}   {a1 : Int64} {a3 : Int64}  (h : f_X8_worked_144 v  a1 a3 = some r) : Ev mX8_worked 2 0 0 144 [(1, .long a1), (3, .long a3)] [] (rZ X) v (rPI X (r, v)) := by
  unfold f_X8_worked_144 at h
  refine e_lload_n dX8_worked_144 rfl ?_
  refine e_lconst (x := (0 : Int64)) dX8_worked_145 (by decide) ?_
  refine e_lcmp dX8_worked_146 ?_
  refine e_if_ne (tgt := 156) dX8_worked_147 (by decide) (fun c19 => ?_) (fun c19 => ?_)
  · rw [if_neg c19] at h
    refine e_iconst (x := (1 : Int32)) dX8_worked_156 (by decide) ?_
    refine e_goto (tgt := 161) dX8_worked_157 (by decide) ?_
    obtain rfl := Option.some.inj h
    exact e_iret dX8_worked_161 rfl rfl ⟨rfl, rfl, rfl⟩
  · rw [if_pos c19] at h
    refine e_lload_n dX8_worked_150 rfl ?_
    refine e_lconst (x := (0 : Int64)) dX8_worked_151 (by decide) ?_
    refine e_lcmp dX8_worked_152 ?_
    refine e_if_eq (tgt := 160) dX8_worked_153 (by decide) (fun c18 => ?_) (fun c18 => ?_)
    · rw [if_pos c18] at h
      refine e_iconst (x := (0 : Int32)) dX8_worked_160 (by decide) ?_
      obtain rfl := Option.some.inj h
      exact e_iret dX8_worked_161 rfl rfl ⟨rfl, rfl, rfl⟩
    · rw [if_neg c18] at h
      refine e_iconst (x := (1 : Int32)) dX8_worked_156 (by decide) ?_
      refine e_goto (tgt := 161) dX8_worked_157 (by decide) ?_
      obtain rfl := Option.some.inj h
      exact e_iret dX8_worked_161 rfl rfl ⟨rfl, rfl, rfl⟩
set_option maxRecDepth 20000 in
theorem x_X8_worked {X : Nat × (Nat → Int32)} {v : rV} {r : Int32} {a0 : Int32} {a1 : Int64} {a3 : Int64}  (h : f_X8_worked v a0 a1 a3 = some r) : EvM mX8_worked 2 0 0 [.int a0, .long a1, .long a3] (rZ X) v (rPI X (r, v)) := by
  refine evm_of (by decide +kernel) (fun G => Nat.le_of_ble_eq_true rfl) ?_
  show Ev mX8_worked 2 0 0 0 [(0, .int a0), (1, .long a1), (3, .long a3)] [] (rZ X) v _
  unfold f_X8_worked at h
  refine e_iload_n dX8_worked_0 rfl ?_
  by_cases c1 : a0 = (2 : Int32)
  · rw [if_pos c1] at h
    refine e_tabIn (off := 51) (tgt := 52) dX8_worked_1 (by rw [c1]; decide) (by rw [c1]; decide) (by rw [c1]; rfl) (by decide) ?_
    refine e_lload_n dX8_worked_52 rfl ?_
    refine e_lload_n dX8_worked_53 rfl ?_
    refine e_ladd dX8_worked_54 ?_
    refine c_SI (M' := mX8_bounded) [.long (a1 + a3)] dX8_worked_55 rfl wmX8_188 stX8_bounded lkX8_bounded (Nat.le_of_ble_eq_true rfl) ((x_X8_bounded ).mono (by omega)) ?_
    obtain rfl := Option.some.inj h
    exact e_iret dX8_worked_58 rfl rfl ⟨rfl, rfl, rfl⟩
  · rw [if_neg c1] at h
    have nc1 := tab_ne c1 (k := 2) (by decide)
    by_cases c3 : a0 = (3 : Int32)
    · rw [if_pos c3] at h
      refine e_tabIn (off := 58) (tgt := 59) dX8_worked_1 (by rw [c3]; decide) (by rw [c3]; decide) (by rw [c3]; rfl) (by decide) ?_
      refine e_lload_n dX8_worked_59 rfl ?_
      refine e_lload_n dX8_worked_60 rfl ?_
      refine e_lsub dX8_worked_61 ?_
      refine c_SI (M' := mX8_bounded) [.long (a1 - a3)] dX8_worked_62 rfl wmX8_188 stX8_bounded lkX8_bounded (Nat.le_of_ble_eq_true rfl) ((x_X8_bounded ).mono (by omega)) ?_
      obtain rfl := Option.some.inj h
      exact e_iret dX8_worked_65 rfl rfl ⟨rfl, rfl, rfl⟩
    · rw [if_neg c3] at h
      have nc3 := tab_ne c3 (k := 3) (by decide)
      by_cases c5 : a0 = (4 : Int32)
      · rw [if_pos c5] at h
        refine e_tabIn (off := 65) (tgt := 66) dX8_worked_1 (by rw [c5]; decide) (by rw [c5]; decide) (by rw [c5]; rfl) (by decide) ?_
        refine e_lload_n dX8_worked_66 rfl ?_
        refine e_lload_n dX8_worked_67 rfl ?_
        refine e_lmul dX8_worked_68 ?_
        refine c_SI (M' := mX8_bounded) [.long (a1 * a3)] dX8_worked_69 rfl wmX8_188 stX8_bounded lkX8_bounded (Nat.le_of_ble_eq_true rfl) ((x_X8_bounded ).mono (by omega)) ?_
        obtain rfl := Option.some.inj h
        exact e_iret dX8_worked_72 rfl rfl ⟨rfl, rfl, rfl⟩
      · rw [if_neg c5] at h
        have nc5 := tab_ne c5 (k := 4) (by decide)
        by_cases c7 : a0 = (5 : Int32)
        · rw [if_pos c7] at h
          refine e_tabIn (off := 72) (tgt := 73) dX8_worked_1 (by rw [c7]; decide) (by rw [c7]; decide) (by rw [c7]; rfl) (by decide) ?_
          refine e_lload_n dX8_worked_73 rfl ?_
          refine e_lconst (x := (0 : Int64)) dX8_worked_74 (by decide) ?_
          refine e_lcmp dX8_worked_75 ?_
          refine e_if_ne (tgt := 83) dX8_worked_76 (by decide) (fun c10 => ?_) (fun c10 => ?_)
          · rw [if_neg c10] at h
            refine e_lload_n dX8_worked_83 rfl ?_
            refine e_lload_n dX8_worked_84 rfl ?_
            obtain ⟨c9, h⟩ := grdn h
            refine e_ldiv dX8_worked_85 c9 ?_
            refine c_SI (M' := mX8_bounded) [.long (a1 / a3)] dX8_worked_86 rfl wmX8_188 stX8_bounded lkX8_bounded (Nat.le_of_ble_eq_true rfl) ((x_X8_bounded ).mono (by omega)) ?_
            obtain rfl := Option.some.inj h
            exact e_iret dX8_worked_89 rfl rfl ⟨rfl, rfl, rfl⟩
          · rw [if_pos c10] at h
            refine e_iconst (x := (0 : Int32)) dX8_worked_79 (by decide) ?_
            refine e_goto (tgt := 89) dX8_worked_80 (by decide) ?_
            obtain rfl := Option.some.inj h
            exact e_iret dX8_worked_89 rfl rfl ⟨rfl, rfl, rfl⟩
        · rw [if_neg c7] at h
          have nc7 := tab_ne c7 (k := 5) (by decide)
          by_cases c11 : a0 = (6 : Int32)
          · rw [if_pos c11] at h
            refine e_tabIn (off := 89) (tgt := 90) dX8_worked_1 (by rw [c11]; decide) (by rw [c11]; decide) (by rw [c11]; rfl) (by decide) ?_
            refine e_lload_n dX8_worked_90 rfl ?_
            refine e_lload_n dX8_worked_91 rfl ?_
            refine e_lcmp dX8_worked_92 ?_
            refine e_if_ne (tgt := 100) dX8_worked_93 (by decide) (fun c12 => ?_) (fun c12 => ?_)
            · rw [if_neg c12] at h
              refine e_iconst (x := (0 : Int32)) dX8_worked_100 (by decide) ?_
              obtain rfl := Option.some.inj h
              exact e_iret dX8_worked_101 rfl rfl ⟨rfl, rfl, rfl⟩
            · rw [if_pos c12] at h
              refine e_iconst (x := (1 : Int32)) dX8_worked_96 (by decide) ?_
              refine e_goto (tgt := 101) dX8_worked_97 (by decide) ?_
              obtain rfl := Option.some.inj h
              exact e_iret dX8_worked_101 rfl rfl ⟨rfl, rfl, rfl⟩
          · rw [if_neg c11] at h
            have nc11 := tab_ne c11 (k := 6) (by decide)
            by_cases c13 : a0 = (7 : Int32)
            · rw [if_pos c13] at h
              refine e_tabIn (off := 101) (tgt := 102) dX8_worked_1 (by rw [c13]; decide) (by rw [c13]; decide) (by rw [c13]; rfl) (by decide) ?_
              refine e_lload_n dX8_worked_102 rfl ?_
              refine e_lload_n dX8_worked_103 rfl ?_
              refine e_lcmp dX8_worked_104 ?_
              refine e_if_ge (tgt := 112) dX8_worked_105 (by decide) (fun c14 => ?_) (fun c14 => ?_)
              · rw [if_pos c14] at h
                refine e_iconst (x := (0 : Int32)) dX8_worked_112 (by decide) ?_
                obtain rfl := Option.some.inj h
                exact e_iret dX8_worked_113 rfl rfl ⟨rfl, rfl, rfl⟩
              · rw [if_neg c14] at h
                refine e_iconst (x := (1 : Int32)) dX8_worked_108 (by decide) ?_
                refine e_goto (tgt := 113) dX8_worked_109 (by decide) ?_
                obtain rfl := Option.some.inj h
                exact e_iret dX8_worked_113 rfl rfl ⟨rfl, rfl, rfl⟩
            · rw [if_neg c13] at h
              have nc13 := tab_ne c13 (k := 7) (by decide)
              by_cases c15 : a0 = (8 : Int32)
              · rw [if_pos c15] at h
                refine e_tabIn (off := 113) (tgt := 114) dX8_worked_1 (by rw [c15]; decide) (by rw [c15]; decide) (by rw [c15]; rfl) (by decide) ?_
                refine e_lload_n dX8_worked_114 rfl ?_
                refine e_lload_n dX8_worked_115 rfl ?_
                refine e_lcmp dX8_worked_116 ?_
                refine e_if_le (tgt := 124) dX8_worked_117 (by decide) (fun c16 => ?_) (fun c16 => ?_)
                · rw [if_pos c16] at h
                  refine e_iconst (x := (0 : Int32)) dX8_worked_124 (by decide) ?_
                  obtain rfl := Option.some.inj h
                  exact e_iret dX8_worked_125 rfl rfl ⟨rfl, rfl, rfl⟩
                · rw [if_neg c16] at h
                  refine e_iconst (x := (1 : Int32)) dX8_worked_120 (by decide) ?_
                  refine e_goto (tgt := 125) dX8_worked_121 (by decide) ?_
                  obtain rfl := Option.some.inj h
                  exact e_iret dX8_worked_125 rfl rfl ⟨rfl, rfl, rfl⟩
              · rw [if_neg c15] at h
                have nc15 := tab_ne c15 (k := 8) (by decide)
                by_cases c17 : a0 = (9 : Int32)
                · rw [if_pos c17] at h
                  refine e_tabIn (off := 143) (tgt := 144) dX8_worked_1 (by rw [c17]; decide) (by rw [c17]; decide) (by rw [c17]; rfl) (by decide) ?_
                  refine e_sub [1, 2] rfl ?_
                  exact b_X8_worked_144  h
                · rw [if_neg c17] at h
                  have nc17 := tab_ne c17 (k := 9) (by decide)
                  by_cases c20 : a0 = (10 : Int32)
                  · rw [if_pos c20] at h
                    refine e_tabIn (off := 125) (tgt := 126) dX8_worked_1 (by rw [c20]; decide) (by rw [c20]; decide) (by rw [c20]; rfl) (by decide) ?_
                    refine e_lload_n dX8_worked_126 rfl ?_
                    refine e_lconst (x := (0 : Int64)) dX8_worked_127 (by decide) ?_
                    refine e_lcmp dX8_worked_128 ?_
                    refine e_if_eq (tgt := 142) dX8_worked_129 (by decide) (fun c22 => ?_) (fun c22 => ?_)
                    · rw [if_pos c22] at h
                      refine e_iconst (x := (0 : Int32)) dX8_worked_142 (by decide) ?_
                      obtain rfl := Option.some.inj h
                      exact e_iret dX8_worked_143 rfl rfl ⟨rfl, rfl, rfl⟩
                    · rw [if_neg c22] at h
                      refine e_lload_n dX8_worked_132 rfl ?_
                      refine e_lconst (x := (0 : Int64)) dX8_worked_133 (by decide) ?_
                      refine e_lcmp dX8_worked_134 ?_
                      refine e_if_eq (tgt := 142) dX8_worked_135 (by decide) (fun c21 => ?_) (fun c21 => ?_)
                      · rw [if_pos c21] at h
                        refine e_iconst (x := (0 : Int32)) dX8_worked_142 (by decide) ?_
                        obtain rfl := Option.some.inj h
                        exact e_iret dX8_worked_143 rfl rfl ⟨rfl, rfl, rfl⟩
                      · rw [if_neg c21] at h
                        refine e_iconst (x := (1 : Int32)) dX8_worked_138 (by decide) ?_
                        refine e_goto (tgt := 143) dX8_worked_139 (by decide) ?_
                        obtain rfl := Option.some.inj h
                        exact e_iret dX8_worked_143 rfl rfl ⟨rfl, rfl, rfl⟩
                  · rw [if_neg c20] at h
                    have nc20 := tab_ne c20 (k := 10) (by decide)
                    refine e_tabOut (tgt := 144) dX8_worked_1 (by omega) (by decide) ?_
                    refine e_sub [1, 2] rfl ?_
                    exact b_X8_worked_144  h
def f_X8_workOut_165  (q12 : rV → Int32 → Int32 → Int32 → Int32 → Option (Int32 × rV)) (v : rV) (a1 : Int32) (a3 : Int32) (a4 : Int32) (a5 : Int32) : Option (Int32 × rV) := vlet (a5 + (1 : Int32)) fun x8 =>
  q12 v a1 a3 a4 x8
def f_X8_workOut_83  (q12 : rV → Int32 → Int32 → Int32 → Int32 → Option (Int32 × rV)) (v : rV) (a1 : Int32) (a3 : Int32) (a4 : Int32) (a5 : Int32) (s0 : Int32) (s1 : Int32) : Option (Int32 × rV) := if ¬ s1 < 0 ∧ s1.toNatClampNeg < 80 then
  (vlet (rI v 184 s1.toNatClampNeg s0) fun v6 =>
  vlet (a4 + (1 : Int32)) fun x7 =>
  f_X8_workOut_165 q12 v6 a1 a3 x7 a5)
else none
def f_X8_workOut_45  (q12 : rV → Int32 → Int32 → Int32 → Int32 → Option (Int32 × rV)) (v : rV) (a1 : Int32) (a3 : Int32) (a4 : Int32) (a5 : Int32) : Option (Int32 × rV) := if ¬ a5 < 0 ∧ a5.toNatClampNeg < 3060 then
  (if (v.1 176 a5.toNatClampNeg) = 0 then
  (f_X8_workOut_83 q12 v a1 a3 a4 a5 (v.1 177 a5.toNatClampNeg) a4)
else
  (if ¬ (v.1 177 a5.toNatClampNeg) < 0 ∧ (v.1 177 a5.toNatClampNeg).toNatClampNeg < 7 then
  (f_X8_workOut_83 q12 v a1 a3 a4 a5 (v.1 183 ((v.1 177 a5.toNatClampNeg).toNatClampNeg)) a4)
else none))
else none
def f_X8_workOut_12   : Nat → rV → Int32 → Int32 → Int32 → Int32 → Option (Int32 × rV)
  | 0, _, _, _, _, _ => none
  | n + 1, v, a1, a3, a4, a5 => if (((340 : Int32) * a1) + a3) ≤ a5 then
  (some (v.1 184 0, v))
else
  (if ¬ a5 < 0 ∧ a5.toNatClampNeg < 3060 then
  (if (v.1 176 a5.toNatClampNeg) = 0 then
  (f_X8_workOut_45 (fun v a1 a3 a4 a5 => f_X8_workOut_12  n v a1 a3 a4 a5) v a1 a3 a4 a5)
else
  (if (v.1 176 a5.toNatClampNeg) = (1 : Int32) then
  (f_X8_workOut_45 (fun v a1 a3 a4 a5 => f_X8_workOut_12  n v a1 a3 a4 a5) v a1 a3 a4 a5)
else
  (if (v.1 176 a5.toNatClampNeg) = (9 : Int32) then
  (if ¬ (a4 - (1 : Int32)) < 0 ∧ (a4 - (1 : Int32)).toNatClampNeg < 80 then
  (vlet (rI v 184 ((a4 - (1 : Int32)).toNatClampNeg) ((1 : Int32) - (v.1 184 ((a4 - (1 : Int32)).toNatClampNeg)))) fun v16 =>
  f_X8_workOut_165 (fun v a1 a3 a4 a5 => f_X8_workOut_12  n v a1 a3 a4 a5) v16 a1 a3 a4 a5)
else none)
else
  (vlet (a4 + (-1 : Int32)) fun x10 =>
  if ¬ (x10 - (1 : Int32)) < 0 ∧ (x10 - (1 : Int32)).toNatClampNeg < 80 then
  (if ¬ x10 < 0 ∧ x10.toNatClampNeg < 80 then
  ((f_X8_worked v (v.1 176 a5.toNatClampNeg) ((v.1 184 ((x10 - (1 : Int32)).toNatClampNeg)).toInt64) ((v.1 184 x10.toNatClampNeg).toInt64)).bind fun p13 =>
  vlet (rI v 184 ((x10 - (1 : Int32)).toNatClampNeg) p13) fun v14 =>
  f_X8_workOut_165 (fun v a1 a3 a4 a5 => f_X8_workOut_12  n v a1 a3 a4 a5) v14 a1 a3 x10 a5)
else none)
else none))))
else none)
def f_X8_workOut (v : rV) (a1 : Int32) (a2 : Int32) (a3 : Int32) : Option (Int32 × rV) := vlet (((340 : Int32) * a1) + a2 : Int32) fun x1 =>
  f_X8_workOut_12  20000 v a1 a3 (0 : Int32) x1
set_option maxRecDepth 20000 in
theorem b_X8_workOut_165 {X : Nat × (Nat → Int32)} {r : Int32 × rV} {v : rV} {q12 : rV → Int32 → Int32 → Int32 → Int32 → Option (Int32 × rV)} (hq12 : ∀ (v : rV) (a1 : Int32) (a3 : Int32) (a4 : Int32) (a5 : Int32) , q12 v a1 a3 a4 a5 = some r → Ev mX8_workOut 3 0 0 12 [(0, .ref 174), (1, .int a1), (3, .int a3), (4, .int a4), (5, .int a5)] [] (rZ X) v (rPI X r)) {a1 : Int32} {a3 : Int32} {a4 : Int32} {a5 : Int32}  (h : f_X8_workOut_165 q12 v a1 a3 a4 a5 = some r) : Ev mX8_workOut 3 0 0 165 [(0, .ref 174), (1, .int a1), (3, .int a3), (4, .int a4), (5, .int a5)] [] (rZ X) v (rPI X r) := by
  unfold f_X8_workOut_165 at h
  obtain ⟨x8, ex8, h⟩ := vlet_ex h
  refine e_iinc (lv' := [(5, .int x8), (0, .ref 174), (1, .int a1), (3, .int a3), (4, .int a4)]) dX8_workOut_165 rfl (ex8.symm) (by decide) rfl ?_
  clear ex8
  refine e_goto (tgt := 12) dX8_workOut_168 (by decide) ?_
  refine e_sub [1, 2, 3, 4, 0] rfl ?_
  exact hq12 v a1 a3 a4 x8 h
set_option maxRecDepth 20000 in
theorem b_X8_workOut_83 {X : Nat × (Nat → Int32)} {r : Int32 × rV} {v : rV} {q12 : rV → Int32 → Int32 → Int32 → Int32 → Option (Int32 × rV)} (hq12 : ∀ (v : rV) (a1 : Int32) (a3 : Int32) (a4 : Int32) (a5 : Int32) , q12 v a1 a3 a4 a5 = some r → Ev mX8_workOut 3 0 0 12 [(0, .ref 174), (1, .int a1), (3, .int a3), (4, .int a4), (5, .int a5)] [] (rZ X) v (rPI X r)) {a1 : Int32} {a3 : Int32} {a4 : Int32} {a5 : Int32} {s0 : Int32} {s1 : Int32}  (h : f_X8_workOut_83 q12 v a1 a3 a4 a5 s0 s1 = some r) : Ev mX8_workOut 3 0 0 83 [(0, .ref 174), (1, .int a1), (3, .int a3), (4, .int a4), (5, .int a5)] [.int s0, .int s1, .ref 184] (rZ X) v (rPI X r) := by
  unfold f_X8_workOut_83 at h
  obtain ⟨c5, h⟩ := grd h
  refine e_iastJ dX8_workOut_83 k0_184 rfl c5.2 c5.1 ?_
  obtain ⟨v6, ev6, h⟩ := vlet_ex h
  refine e_nameV ev6.symm ?_
  clear ev6
  obtain ⟨x7, ex7, h⟩ := vlet_ex h
  refine e_iinc (lv' := [(4, .int x7), (0, .ref 174), (1, .int a1), (3, .int a3), (5, .int a5)]) dX8_workOut_84 rfl (ex7.symm) (by decide) rfl ?_
  clear ex7
  refine e_goto (tgt := 165) dX8_workOut_87 (by decide) ?_
  refine e_sub [1, 2, 3, 0, 4] rfl ?_
  exact b_X8_workOut_165 hq12 h
set_option maxRecDepth 20000 in
theorem b_X8_workOut_45 {X : Nat × (Nat → Int32)} {r : Int32 × rV} {v : rV} {q12 : rV → Int32 → Int32 → Int32 → Int32 → Option (Int32 × rV)} (hq12 : ∀ (v : rV) (a1 : Int32) (a3 : Int32) (a4 : Int32) (a5 : Int32) , q12 v a1 a3 a4 a5 = some r → Ev mX8_workOut 3 0 0 12 [(0, .ref 174), (1, .int a1), (3, .int a3), (4, .int a4), (5, .int a5)] [] (rZ X) v (rPI X r)) {a1 : Int32} {a3 : Int32} {a4 : Int32} {a5 : Int32}  (h : f_X8_workOut_45 q12 v a1 a3 a4 a5 = some r) : Ev mX8_workOut 3 0 0 45 [(0, .ref 174), (1, .int a1), (3, .int a3), (4, .int a4), (5, .int a5)] [] (rZ X) v (rPI X r) := by
  unfold f_X8_workOut_45 at h
  refine e_aload_n dX8_workOut_45 rfl ?_
  refine e_get (w := .ref 184) (j := 18) dX8_workOut_46 k0_174 rc8 (by decide) wfX8_37 (g0_174_18) ?_
  refine e_iload dX8_workOut_49 rfl ?_
  refine e_aload_n dX8_workOut_51 rfl ?_
  refine e_get (w := .ref 176) (j := 6) dX8_workOut_52 k0_174 rc8 (by decide) wfX8_13 (g0_174_6) ?_
  refine e_iload dX8_workOut_55 rfl ?_
  obtain ⟨c3, h⟩ := grd h
  refine e_ialdJ dX8_workOut_57 k0_176 rfl c3.2 c3.1 ?_
  refine e_if_ne (tgt := 71) dX8_workOut_58 (by decide) (fun c9 => ?_) (fun c9 => ?_)
  · rw [if_neg c9] at h
    refine e_aload_n dX8_workOut_71 rfl ?_
    refine e_get (w := .ref 183) (j := 17) dX8_workOut_72 k0_174 rc8 (by decide) wfX8_34 (g0_174_17) ?_
    refine e_aload_n dX8_workOut_75 rfl ?_
    refine e_get (w := .ref 177) (j := 7) dX8_workOut_76 k0_174 rc8 (by decide) wfX8_16 (g0_174_7) ?_
    refine e_iload dX8_workOut_79 rfl ?_
    refine e_ialdJ dX8_workOut_81 k0_177 rfl (c3).2 (c3).1 ?_
    obtain ⟨c4, h⟩ := grd h
    refine e_ialdJ dX8_workOut_82 k0_183 rfl c4.2 c4.1 ?_
    exact b_X8_workOut_83 hq12 h
  · rw [if_pos c9] at h
    refine e_aload_n dX8_workOut_61 rfl ?_
    refine e_get (w := .ref 177) (j := 7) dX8_workOut_62 k0_174 rc8 (by decide) wfX8_16 (g0_174_7) ?_
    refine e_iload dX8_workOut_65 rfl ?_
    refine e_ialdJ dX8_workOut_67 k0_177 rfl (c3).2 (c3).1 ?_
    refine e_goto (tgt := 83) dX8_workOut_68 (by decide) ?_
    exact b_X8_workOut_83 hq12 h
set_option maxRecDepth 20000 in
theorem b_X8_workOut_12 {X : Nat × (Nat → Int32)} {r : Int32 × rV}   : ∀ (n : Nat) (v : rV) (a1 : Int32) (a3 : Int32) (a4 : Int32) (a5 : Int32) , f_X8_workOut_12   n v a1 a3 a4 a5 = some r → Ev mX8_workOut 3 0 0 12 [(0, .ref 174), (1, .int a1), (3, .int a3), (4, .int a4), (5, .int a5)] [] (rZ X) v (rPI X r) := by
  intro n
  induction n with
  | zero =>
    intros
    rename_i h
    cases h
  | succ n ih =>
    intro v a1 a3 a4 a5 h
    rw [f_X8_workOut_12] at h
    refine e_iload dX8_workOut_12 rfl ?_
    refine e_sipush (x := (340 : Int32)) dX8_workOut_14 (by decide) ?_
    refine e_iload_n dX8_workOut_17 rfl ?_
    refine e_imul dX8_workOut_18 ?_
    refine e_iload_n dX8_workOut_19 rfl ?_
    refine e_iadd dX8_workOut_20 ?_
    refine e_icmp_ge (tgt := 171) dX8_workOut_21 (by decide) (fun c20 => ?_) (fun c20 => ?_)
    · rw [if_pos c20] at h
      refine e_aload_n dX8_workOut_171 rfl ?_
      refine e_get (w := .ref 184) (j := 18) dX8_workOut_172 k0_174 rc8 (by decide) wfX8_37 (g0_174_18) ?_
      refine e_iconst (x := (0 : Int32)) dX8_workOut_175 (by decide) ?_
      refine e_ialdJ dX8_workOut_176 k0_184 (j := 0) (by decide) (by decide) (by decide) ?_
      obtain rfl := Option.some.inj h
      exact e_iret dX8_workOut_177 rfl rfl ⟨rfl, rfl, rfl⟩
    · rw [if_neg c20] at h
      refine e_aload_n dX8_workOut_24 rfl ?_
      refine e_get (w := .ref 176) (j := 6) dX8_workOut_25 k0_174 rc8 (by decide) wfX8_13 (g0_174_6) ?_
      refine e_iload dX8_workOut_28 rfl ?_
      obtain ⟨c2, h⟩ := grd h
      refine e_ialdJ dX8_workOut_30 k0_176 rfl c2.2 c2.1 ?_
      refine e_if_eq (tgt := 45) dX8_workOut_31 (by decide) (fun c19 => ?_) (fun c19 => ?_)
      · rw [if_pos c19] at h
        exact b_X8_workOut_45 (fun v a1 a3 a4 a5  hh => ih v a1 a3 a4 a5  hh) h
      · rw [if_neg c19] at h
        refine e_aload_n dX8_workOut_34 rfl ?_
        refine e_get (w := .ref 176) (j := 6) dX8_workOut_35 k0_174 rc8 (by decide) wfX8_13 (g0_174_6) ?_
        refine e_iload dX8_workOut_38 rfl ?_
        refine e_ialdJ dX8_workOut_40 k0_176 rfl (c2).2 (c2).1 ?_
        refine e_iconst (x := (1 : Int32)) dX8_workOut_41 (by decide) ?_
        refine e_icmp_ne (tgt := 90) dX8_workOut_42 (by decide) (fun c18 => ?_) (fun c18 => ?_)
        · rw [if_neg c18] at h
          refine e_aload_n dX8_workOut_90 rfl ?_
          refine e_get (w := .ref 176) (j := 6) dX8_workOut_91 k0_174 rc8 (by decide) wfX8_13 (g0_174_6) ?_
          refine e_iload dX8_workOut_94 rfl ?_
          refine e_ialdJ dX8_workOut_96 k0_176 rfl (c2).2 (c2).1 ?_
          refine e_bipush (x := (9 : Int32)) dX8_workOut_97 (by decide) ?_
          refine e_icmp_ne (tgt := 125) dX8_workOut_99 (by decide) (fun c17 => ?_) (fun c17 => ?_)
          · rw [if_neg c17] at h
            obtain ⟨x10, ex10, h⟩ := vlet_ex h
            refine e_iinc (lv' := [(4, .int x10), (0, .ref 174), (1, .int a1), (3, .int a3), (5, .int a5)]) dX8_workOut_125 rfl (ex10.symm) (by decide) rfl ?_
            clear ex10
            refine e_aload_n dX8_workOut_128 rfl ?_
            refine e_get (w := .ref 184) (j := 18) dX8_workOut_129 k0_174 rc8 (by decide) wfX8_37 (g0_174_18) ?_
            refine e_iload dX8_workOut_132 rfl ?_
            refine e_iconst (x := (1 : Int32)) dX8_workOut_134 (by decide) ?_
            refine e_isub dX8_workOut_135 ?_
            refine e_aload_n dX8_workOut_136 rfl ?_
            refine e_get (w := .ref 176) (j := 6) dX8_workOut_137 k0_174 rc8 (by decide) wfX8_13 (g0_174_6) ?_
            refine e_iload dX8_workOut_140 rfl ?_
            refine e_ialdJ dX8_workOut_142 k0_176 rfl (c2).2 (c2).1 ?_
            refine e_aload_n dX8_workOut_143 rfl ?_
            refine e_get (w := .ref 184) (j := 18) dX8_workOut_144 k0_174 rc8 (by decide) wfX8_37 (g0_174_18) ?_
            refine e_iload dX8_workOut_147 rfl ?_
            refine e_iconst (x := (1 : Int32)) dX8_workOut_149 (by decide) ?_
            refine e_isub dX8_workOut_150 ?_
            obtain ⟨c11, h⟩ := grd h
            refine e_ialdJ dX8_workOut_151 k0_184 rfl c11.2 c11.1 ?_
            refine e_i2l dX8_workOut_152 ?_
            refine e_aload_n dX8_workOut_153 rfl ?_
            refine e_get (w := .ref 184) (j := 18) dX8_workOut_154 k0_174 rc8 (by decide) wfX8_37 (g0_174_18) ?_
            refine e_iload dX8_workOut_157 rfl ?_
            obtain ⟨c12, h⟩ := grd h
            refine e_ialdJ dX8_workOut_159 k0_184 rfl c12.2 c12.1 ?_
            refine e_i2l dX8_workOut_160 ?_
            obtain ⟨p13, ep13, h⟩ := Option.bind_eq_some_iff.mp h
            refine c_SI (M' := mX8_worked) [.int (v.1 176 a5.toNatClampNeg), .long ((v.1 184 ((x10 - (1 : Int32)).toNatClampNeg)).toInt64), .long ((v.1 184 x10.toNatClampNeg).toInt64)] dX8_workOut_161 rfl wmX8_192 stX8_worked lkX8_worked (Nat.le_of_ble_eq_true rfl) ((x_X8_worked  ep13).mono (by omega)) ?_
            refine e_iastJ dX8_workOut_164 k0_184 rfl (c11).2 (c11).1 ?_
            obtain ⟨v14, ev14, h⟩ := vlet_ex h
            refine e_nameV ev14.symm ?_
            clear ev14
            refine e_sub [1, 2, 3, 0, 4] rfl ?_
            exact b_X8_workOut_165 (fun v a1 a3 a4 a5  hh => ih v a1 a3 a4 a5  hh) h
          · rw [if_pos c17] at h
            refine e_aload_n dX8_workOut_102 rfl ?_
            refine e_get (w := .ref 184) (j := 18) dX8_workOut_103 k0_174 rc8 (by decide) wfX8_37 (g0_174_18) ?_
            refine e_iload dX8_workOut_106 rfl ?_
            refine e_iconst (x := (1 : Int32)) dX8_workOut_108 (by decide) ?_
            refine e_isub dX8_workOut_109 ?_
            refine e_iconst (x := (1 : Int32)) dX8_workOut_110 (by decide) ?_
            refine e_aload_n dX8_workOut_111 rfl ?_
            refine e_get (w := .ref 184) (j := 18) dX8_workOut_112 k0_174 rc8 (by decide) wfX8_37 (g0_174_18) ?_
            refine e_iload dX8_workOut_115 rfl ?_
            refine e_iconst (x := (1 : Int32)) dX8_workOut_117 (by decide) ?_
            refine e_isub dX8_workOut_118 ?_
            obtain ⟨c15, h⟩ := grd h
            refine e_ialdJ dX8_workOut_119 k0_184 rfl c15.2 c15.1 ?_
            refine e_isub dX8_workOut_120 ?_
            refine e_iastJ dX8_workOut_121 k0_184 rfl (c15).2 (c15).1 ?_
            obtain ⟨v16, ev16, h⟩ := vlet_ex h
            refine e_nameV ev16.symm ?_
            clear ev16
            refine e_goto (tgt := 165) dX8_workOut_122 (by decide) ?_
            exact b_X8_workOut_165 (fun v a1 a3 a4 a5  hh => ih v a1 a3 a4 a5  hh) h
        · rw [if_pos c18] at h
          exact b_X8_workOut_45 (fun v a1 a3 a4 a5  hh => ih v a1 a3 a4 a5  hh) h
set_option maxRecDepth 20000 in
theorem x_X8_workOut {X : Nat × (Nat → Int32)} {v : rV} {r : Int32 × rV} {a1 : Int32} {a2 : Int32} {a3 : Int32}  (h : f_X8_workOut v a1 a2 a3 = some r) : EvM mX8_workOut 3 0 0 [.ref 174, .int a1, .int a2, .int a3] (rZ X) v (rPI X r) := by
  refine evm_of (by decide +kernel) (fun G => Nat.le_of_ble_eq_true rfl) ?_
  show Ev mX8_workOut 3 0 0 0 [(0, .ref 174), (1, .int a1), (2, .int a2), (3, .int a3)] [] (rZ X) v _
  unfold f_X8_workOut at h
  refine e_iconst (x := (0 : Int32)) dX8_workOut_0 (by decide) ?_
  refine e_istore (lv' := [(4, .int (0 : Int32)), (0, .ref 174), (1, .int a1), (2, .int a2), (3, .int a3)]) dX8_workOut_1 (by decide) rfl ?_
  refine e_sipush (x := (340 : Int32)) dX8_workOut_3 (by decide) ?_
  refine e_iload_n dX8_workOut_6 rfl ?_
  refine e_imul dX8_workOut_7 ?_
  refine e_iload_n dX8_workOut_8 rfl ?_
  refine e_iadd dX8_workOut_9 ?_
  obtain ⟨x1, ex1, h⟩ := vlet_ex h
  refine e_nameI ex1.symm ?_
  clear ex1
  refine e_istore (lv' := [(5, .int x1), (4, .int (0 : Int32)), (0, .ref 174), (1, .int a1), (2, .int a2), (3, .int a3)]) dX8_workOut_10 (by decide) rfl ?_
  refine e_sub [2, 3, 5, 1, 0] rfl ?_
  exact b_X8_workOut_12  _ v a1 a3 (0 : Int32) x1 h
def f_X8_worth_55   (v : rV) (a1 : Int32) (a2 : Int32) : Option (Int32 × rV) := if ¬ a2 < 0 ∧ a2.toNatClampNeg < 810 then
  ((f_X8_workOut v a1 (v.1 181 a2.toNatClampNeg) (v.1 182 a2.toNatClampNeg)).bind fun p5 =>
  some (p5.1, p5.2))
else none
def f_X8_worth_5   : Nat → rV → Int32 → Int32 → Option (Int32 × rV)
  | 0, _, _, _ => none
  | n + 1, v, a1, a2 => if ¬ a1 < 0 ∧ a1.toNatClampNeg < 9 then
  (if (((90 : Int32) * a1) + (v.1 179 a1.toNatClampNeg)) ≤ a2 then
  (some ((0 : Int32), v))
else
  (if ¬ a2 < 0 ∧ a2.toNatClampNeg < 810 then
  (if (v.1 180 a2.toNatClampNeg) = (v.1 181 a2.toNatClampNeg) then
  (f_X8_worth_55  v a1 a2)
else
  ((f_X8_workOut v a1 (v.1 180 a2.toNatClampNeg) (v.1 181 a2.toNatClampNeg)).bind fun p6 =>
  if p6.1 = 0 then
  (vlet (a2 + (1 : Int32)) fun x7 =>
  f_X8_worth_5  n p6.2 a1 x7)
else
  (f_X8_worth_55  p6.2 a1 a2)))
else none))
else none
def f_X8_worth (v : rV) (a1 : Int32) : Option (Int32 × rV) := vlet ((90 : Int32) * a1 : Int32) fun x1 =>
  f_X8_worth_5  20000 v a1 x1
set_option maxRecDepth 20000 in
theorem b_X8_worth_55 {X : Nat × (Nat → Int32)} {r : Int32 × rV} {v : rV}   {a1 : Int32} {a2 : Int32}  (h : f_X8_worth_55  v a1 a2 = some r) : Ev mX8_worth 4 0 0 55 [(0, .ref 174), (1, .int a1), (2, .int a2)] [] (rZ X) v (rPI X r) := by
  unfold f_X8_worth_55 at h
  refine e_aload_n dX8_worth_55 rfl ?_
  refine e_iload_n dX8_worth_56 rfl ?_
  refine e_aload_n dX8_worth_57 rfl ?_
  refine e_get (w := .ref 181) (j := 11) dX8_worth_58 k0_174 rc8 (by decide) wfX8_28 (g0_174_11) ?_
  refine e_iload_n dX8_worth_61 rfl ?_
  obtain ⟨c4, h⟩ := grd h
  refine e_ialdJ dX8_worth_62 k0_181 rfl c4.2 c4.1 ?_
  refine e_aload_n dX8_worth_63 rfl ?_
  refine e_get (w := .ref 182) (j := 12) dX8_worth_64 k0_174 rc8 (by decide) wfX8_31 (g0_174_12) ?_
  refine e_iload_n dX8_worth_67 rfl ?_
  refine e_ialdJ dX8_worth_68 k0_182 rfl (c4).2 (c4).1 ?_
  obtain ⟨p5, ep5, h⟩ := Option.bind_eq_some_iff.mp h
  refine c_VI (M' := mX8_workOut) [.int a1, .int (v.1 181 a2.toNatClampNeg), .int (v.1 182 a2.toNatClampNeg)] dX8_worth_69 rfl wmX8_196 imX8_workOut seX8_workOut lkX8_workOut k0_174 rc8 (Nat.le_of_ble_eq_true rfl) ((x_X8_workOut  ep5).mono (by omega)) ?_
  obtain rfl := Option.some.inj h
  exact e_iret dX8_worth_72 rfl rfl ⟨rfl, rfl, rfl⟩
set_option maxRecDepth 20000 in
theorem b_X8_worth_5 {X : Nat × (Nat → Int32)} {r : Int32 × rV}   : ∀ (n : Nat) (v : rV) (a1 : Int32) (a2 : Int32) , f_X8_worth_5   n v a1 a2 = some r → Ev mX8_worth 4 0 0 5 [(0, .ref 174), (1, .int a1), (2, .int a2)] [] (rZ X) v (rPI X r) := by
  intro n
  induction n with
  | zero =>
    intros
    rename_i h
    cases h
  | succ n ih =>
    intro v a1 a2 h
    rw [f_X8_worth_5] at h
    refine e_iload_n dX8_worth_5 rfl ?_
    refine e_bipush (x := (90 : Int32)) dX8_worth_6 (by decide) ?_
    refine e_iload_n dX8_worth_8 rfl ?_
    refine e_imul dX8_worth_9 ?_
    refine e_aload_n dX8_worth_10 rfl ?_
    refine e_get (w := .ref 179) (j := 9) dX8_worth_11 k0_174 rc8 (by decide) wfX8_22 (g0_174_9) ?_
    refine e_iload_n dX8_worth_14 rfl ?_
    obtain ⟨c2, h⟩ := grd h
    refine e_ialdJ dX8_worth_15 k0_179 rfl c2.2 c2.1 ?_
    refine e_iadd dX8_worth_16 ?_
    refine e_icmp_ge (tgt := 79) dX8_worth_17 (by decide) (fun c10 => ?_) (fun c10 => ?_)
    · rw [if_pos c10] at h
      refine e_iconst (x := (0 : Int32)) dX8_worth_79 (by decide) ?_
      obtain rfl := Option.some.inj h
      exact e_iret dX8_worth_80 rfl rfl ⟨rfl, rfl, rfl⟩
    · rw [if_neg c10] at h
      refine e_aload_n dX8_worth_20 rfl ?_
      refine e_get (w := .ref 180) (j := 10) dX8_worth_21 k0_174 rc8 (by decide) wfX8_25 (g0_174_10) ?_
      refine e_iload_n dX8_worth_24 rfl ?_
      obtain ⟨c3, h⟩ := grd h
      refine e_ialdJ dX8_worth_25 k0_180 rfl c3.2 c3.1 ?_
      refine e_aload_n dX8_worth_26 rfl ?_
      refine e_get (w := .ref 181) (j := 11) dX8_worth_27 k0_174 rc8 (by decide) wfX8_28 (g0_174_11) ?_
      refine e_iload_n dX8_worth_30 rfl ?_
      refine e_ialdJ dX8_worth_31 k0_181 rfl (c3).2 (c3).1 ?_
      refine e_icmp_eq (tgt := 55) dX8_worth_32 (by decide) (fun c9 => ?_) (fun c9 => ?_)
      · rw [if_pos c9] at h
        exact b_X8_worth_55  h
      · rw [if_neg c9] at h
        refine e_aload_n dX8_worth_35 rfl ?_
        refine e_iload_n dX8_worth_36 rfl ?_
        refine e_aload_n dX8_worth_37 rfl ?_
        refine e_get (w := .ref 180) (j := 10) dX8_worth_38 k0_174 rc8 (by decide) wfX8_25 (g0_174_10) ?_
        refine e_iload_n dX8_worth_41 rfl ?_
        refine e_ialdJ dX8_worth_42 k0_180 rfl (c3).2 (c3).1 ?_
        refine e_aload_n dX8_worth_43 rfl ?_
        refine e_get (w := .ref 181) (j := 11) dX8_worth_44 k0_174 rc8 (by decide) wfX8_28 (g0_174_11) ?_
        refine e_iload_n dX8_worth_47 rfl ?_
        refine e_ialdJ dX8_worth_48 k0_181 rfl (c3).2 (c3).1 ?_
        obtain ⟨p6, ep6, h⟩ := Option.bind_eq_some_iff.mp h
        refine c_VI (M' := mX8_workOut) [.int a1, .int (v.1 180 a2.toNatClampNeg), .int (v.1 181 a2.toNatClampNeg)] dX8_worth_49 rfl wmX8_196 imX8_workOut seX8_workOut lkX8_workOut k0_174 rc8 (Nat.le_of_ble_eq_true rfl) ((x_X8_workOut  ep6).mono (by omega)) ?_
        refine e_if_eq (tgt := 73) dX8_worth_52 (by decide) (fun c8 => ?_) (fun c8 => ?_)
        · rw [if_pos c8] at h
          obtain ⟨x7, ex7, h⟩ := vlet_ex h
          refine e_iinc (lv' := [(2, .int x7), (0, .ref 174), (1, .int a1)]) dX8_worth_73 rfl (ex7.symm) (by decide) rfl ?_
          clear ex7
          refine e_goto (tgt := 5) dX8_worth_76 (by decide) ?_
          refine e_sub [1, 2, 0] rfl ?_
          exact ih p6.2 a1 x7 h
        · rw [if_neg c8] at h
          exact b_X8_worth_55  h
set_option maxRecDepth 20000 in
theorem x_X8_worth {X : Nat × (Nat → Int32)} {v : rV} {r : Int32 × rV} {a1 : Int32}  (h : f_X8_worth v a1 = some r) : EvM mX8_worth 4 0 0 [.ref 174, .int a1] (rZ X) v (rPI X r) := by
  refine evm_of (by decide +kernel) (fun G => Nat.le_of_ble_eq_true rfl) ?_
  show Ev mX8_worth 4 0 0 0 [(0, .ref 174), (1, .int a1)] [] (rZ X) v _
  unfold f_X8_worth at h
  refine e_bipush (x := (90 : Int32)) dX8_worth_0 (by decide) ?_
  refine e_iload_n dX8_worth_2 rfl ?_
  refine e_imul dX8_worth_3 ?_
  obtain ⟨x1, ex1, h⟩ := vlet_ex h
  refine e_nameI ex1.symm ?_
  clear ex1
  refine e_istore_n (lv' := [(2, .int x1), (0, .ref 174), (1, .int a1)]) dX8_worth_4 (by decide) rfl ?_
  refine e_sub [1, 2, 0] rfl ?_
  exact b_X8_worth_5  _ v a1 x1 h
def f_X8_lose_7   : Nat → rV → Int32 → Int32 → Option (Int32 × rV)
  | 0, _, _, _ => none
  | n + 1, v, a1, a2 => if (v.1 174 38) < a2 then
  (some (a1, v))
else
  (vlet (rI v 183 0 (if ((v.1 174 38) - a2) < (a2 - (v.1 174 37)) then ((v.1 174 38) - a2) else (a2 - (v.1 174 37)))) fun v2 =>
  if ¬ ((0 : Int32) + a2) < 0 ∧ ((0 : Int32) + a2).toNatClampNeg < 416 then
  (vlet (rI v2 183 1 (v2.1 187 (((0 : Int32) + a2).toNatClampNeg))) fun v4 =>
  if ¬ ((24 : Int32) + a2) < 0 ∧ ((24 : Int32) + a2).toNatClampNeg < 416 then
  (if ¬ ((48 : Int32) + a2) < 0 ∧ ((48 : Int32) + a2).toNatClampNeg < 416 then
  (vlet (rI v4 183 2 ((v4.1 187 (((24 : Int32) + a2).toNatClampNeg)) + (v4.1 187 (((48 : Int32) + a2).toNatClampNeg)))) fun v7 =>
  vlet (rI v7 183 3 (v7.1 187 289)) fun v8 =>
  (f_X8_of v8 (5 : Int32)).bind fun p9 =>
  vlet (rI v8 183 4 p9) fun v10 =>
  (f_X8_of v10 (6 : Int32)).bind fun p11 =>
  vlet (rI v10 183 5 p11) fun v12 =>
  vlet (rI v12 183 6 (((v12.1 174 38) - (v12.1 174 37)) + (1 : Int32))) fun v13 =>
  (f_X8_worth v13 (v13.1 187 294)).bind fun p14 =>
  vlet (if (0 : Int32) < (if p14.1 < (v13.1 187 (((0 : Int32) + a2).toNatClampNeg)) then p14.1 else (v13.1 187 (((0 : Int32) + a2).toNatClampNeg))) then (if p14.1 < (v13.1 187 (((0 : Int32) + a2).toNatClampNeg)) then p14.1 else (v13.1 187 (((0 : Int32) + a2).toNatClampNeg))) else (0 : Int32) : Int32) fun x15 =>
  (f_X8_of p14.2 (6 : Int32)).bind fun p16 =>
  vlet (x15 - ((x15 * p16) / (100 : Int32)) : Int32) fun x17 =>
  vlet ((0 : Int32) + a2 : Int32) fun x18 =>
  if ¬ x18 < 0 ∧ x18.toNatClampNeg < 416 then
  (vlet (rI p14.2 187 x18.toNatClampNeg ((p14.2.1 187 x18.toNatClampNeg) - x17)) fun v20 =>
  vlet (rI v20 187 290 ((v20.1 187 290) + x17)) fun v21 =>
  vlet (a1 + (v21.1 187 (((0 : Int32) + a2).toNatClampNeg)) : Int32) fun x22 =>
  vlet (a2 + (1 : Int32)) fun x23 =>
  f_X8_lose_7  n v21 x22 x23)
else none)
else none)
else none)
else none)
def f_X8_lose (v : rV)  : Option (Int32 × rV) := vlet (v.1 174 37 : Int32) fun x1 =>
  f_X8_lose_7  20000 v (0 : Int32) x1
set_option maxRecDepth 20000 in
theorem b_X8_lose_7 {X : Nat × (Nat → Int32)} {r : Int32 × rV}   : ∀ (n : Nat) (v : rV) (a1 : Int32) (a2 : Int32) , f_X8_lose_7   n v a1 a2 = some r → Ev mX8_lose 5 0 0 7 [(0, .ref 174), (1, .int a1), (2, .int a2)] [] (rZ X) v (rPI X r) := by
  intro n
  induction n with
  | zero =>
    intros
    rename_i h
    cases h
  | succ n ih =>
    intro v a1 a2 h
    rw [f_X8_lose_7] at h
    refine e_iload_n dX8_lose_7 rfl ?_
    refine e_aload_n dX8_lose_8 rfl ?_
    refine e_get (w := .int (v.1 174 38)) (j := 38) dX8_lose_9 k0_174 rc8 (by decide) wfX8_291 rfl ?_
    refine e_icmp_gt (tgt := 213) dX8_lose_12 (by decide) (fun c24 => ?_) (fun c24 => ?_)
    · rw [if_pos c24] at h
      refine e_iload_n dX8_lose_213 rfl ?_
      obtain rfl := Option.some.inj h
      exact e_iret dX8_lose_214 rfl rfl ⟨rfl, rfl, rfl⟩
    · rw [if_neg c24] at h
      refine e_aload_n dX8_lose_15 rfl ?_
      refine e_get (w := .ref 183) (j := 17) dX8_lose_16 k0_174 rc8 (by decide) wfX8_34 (g0_174_17) ?_
      refine e_iconst (x := (0 : Int32)) dX8_lose_19 (by decide) ?_
      refine e_iload_n dX8_lose_20 rfl ?_
      refine e_aload_n dX8_lose_21 rfl ?_
      refine e_get (w := .int (v.1 174 37)) (j := 37) dX8_lose_22 k0_174 rc8 (by decide) wfX8_288 rfl ?_
      refine e_isub dX8_lose_25 ?_
      refine e_aload_n dX8_lose_26 rfl ?_
      refine e_get (w := .int (v.1 174 38)) (j := 38) dX8_lose_27 k0_174 rc8 (by decide) wfX8_291 rfl ?_
      refine e_iload_n dX8_lose_30 rfl ?_
      refine e_isub dX8_lose_31 ?_
      refine e_min dX8_lose_32 wmX8_261 wmst_min winimath wmcd_min (by omega) (Nat.le_of_ble_eq_true rfl) ?_
      refine e_iastJ dX8_lose_35 k0_183 (j := 0) (by decide) (by decide) (by decide) ?_
      obtain ⟨v2, ev2, h⟩ := vlet_ex h
      refine e_nameV ev2.symm ?_
      clear ev2
      refine e_aload_n dX8_lose_36 rfl ?_
      refine e_get (w := .ref 183) (j := 17) dX8_lose_37 k0_174 rc8 (by decide) wfX8_34 (g0_174_17) ?_
      refine e_iconst (x := (1 : Int32)) dX8_lose_40 (by decide) ?_
      refine e_aload_n dX8_lose_41 rfl ?_
      refine e_get (w := .ref 187) (j := 24) dX8_lose_42 k0_174 rc8 (by decide) wfX8_50 (g0_174_24) ?_
      refine e_iconst (x := (0 : Int32)) dX8_lose_45 (by decide) ?_
      refine e_iload_n dX8_lose_46 rfl ?_
      refine e_iadd dX8_lose_47 ?_
      obtain ⟨c3, h⟩ := grd h
      refine e_ialdJ dX8_lose_48 k0_187 rfl c3.2 c3.1 ?_
      refine e_iastJ dX8_lose_49 k0_183 (j := 1) (by decide) (by decide) (by decide) ?_
      obtain ⟨v4, ev4, h⟩ := vlet_ex h
      refine e_nameV ev4.symm ?_
      clear ev4
      refine e_aload_n dX8_lose_50 rfl ?_
      refine e_get (w := .ref 183) (j := 17) dX8_lose_51 k0_174 rc8 (by decide) wfX8_34 (g0_174_17) ?_
      refine e_iconst (x := (2 : Int32)) dX8_lose_54 (by decide) ?_
      refine e_aload_n dX8_lose_55 rfl ?_
      refine e_get (w := .ref 187) (j := 24) dX8_lose_56 k0_174 rc8 (by decide) wfX8_50 (g0_174_24) ?_
      refine e_bipush (x := (24 : Int32)) dX8_lose_59 (by decide) ?_
      refine e_iload_n dX8_lose_61 rfl ?_
      refine e_iadd dX8_lose_62 ?_
      obtain ⟨c5, h⟩ := grd h
      refine e_ialdJ dX8_lose_63 k0_187 rfl c5.2 c5.1 ?_
      refine e_aload_n dX8_lose_64 rfl ?_
      refine e_get (w := .ref 187) (j := 24) dX8_lose_65 k0_174 rc8 (by decide) wfX8_50 (g0_174_24) ?_
      refine e_bipush (x := (48 : Int32)) dX8_lose_68 (by decide) ?_
      refine e_iload_n dX8_lose_70 rfl ?_
      refine e_iadd dX8_lose_71 ?_
      obtain ⟨c6, h⟩ := grd h
      refine e_ialdJ dX8_lose_72 k0_187 rfl c6.2 c6.1 ?_
      refine e_iadd dX8_lose_73 ?_
      refine e_iastJ dX8_lose_74 k0_183 (j := 2) (by decide) (by decide) (by decide) ?_
      obtain ⟨v7, ev7, h⟩ := vlet_ex h
      refine e_nameV ev7.symm ?_
      clear ev7
      refine e_aload_n dX8_lose_75 rfl ?_
      refine e_get (w := .ref 183) (j := 17) dX8_lose_76 k0_174 rc8 (by decide) wfX8_34 (g0_174_17) ?_
      refine e_iconst (x := (3 : Int32)) dX8_lose_79 (by decide) ?_
      refine e_aload_n dX8_lose_80 rfl ?_
      refine e_get (w := .ref 187) (j := 24) dX8_lose_81 k0_174 rc8 (by decide) wfX8_50 (g0_174_24) ?_
      refine e_sipush (x := (289 : Int32)) dX8_lose_84 (by decide) ?_
      refine e_ialdJ dX8_lose_87 k0_187 (j := 289) (by decide) (by decide) (by decide) ?_
      refine e_iastJ dX8_lose_88 k0_183 (j := 3) (by decide) (by decide) (by decide) ?_
      obtain ⟨v8, ev8, h⟩ := vlet_ex h
      refine e_nameV ev8.symm ?_
      clear ev8
      refine e_aload_n dX8_lose_89 rfl ?_
      refine e_get (w := .ref 183) (j := 17) dX8_lose_90 k0_174 rc8 (by decide) wfX8_34 (g0_174_17) ?_
      refine e_iconst (x := (4 : Int32)) dX8_lose_93 (by decide) ?_
      refine e_aload_n dX8_lose_94 rfl ?_
      refine e_iconst (x := (5 : Int32)) dX8_lose_95 (by decide) ?_
      obtain ⟨p9, ep9, h⟩ := Option.bind_eq_some_iff.mp h
      refine c_VI (M' := mX8_of) [.int (5 : Int32)] dX8_lose_96 rfl wmX8_294 imX8_of seX8_of lkX8_of k0_174 rc8 (Nat.le_of_ble_eq_true rfl) ((x_X8_of  ep9).mono (by omega)) ?_
      refine e_iastJ dX8_lose_99 k0_183 (j := 4) (by decide) (by decide) (by decide) ?_
      obtain ⟨v10, ev10, h⟩ := vlet_ex h
      refine e_nameV ev10.symm ?_
      clear ev10
      refine e_aload_n dX8_lose_100 rfl ?_
      refine e_get (w := .ref 183) (j := 17) dX8_lose_101 k0_174 rc8 (by decide) wfX8_34 (g0_174_17) ?_
      refine e_iconst (x := (5 : Int32)) dX8_lose_104 (by decide) ?_
      refine e_aload_n dX8_lose_105 rfl ?_
      refine e_bipush (x := (6 : Int32)) dX8_lose_106 (by decide) ?_
      obtain ⟨p11, ep11, h⟩ := Option.bind_eq_some_iff.mp h
      refine c_VI (M' := mX8_of) [.int (6 : Int32)] dX8_lose_108 rfl wmX8_294 imX8_of seX8_of lkX8_of k0_174 rc8 (Nat.le_of_ble_eq_true rfl) ((x_X8_of  ep11).mono (by omega)) ?_
      refine e_iastJ dX8_lose_111 k0_183 (j := 5) (by decide) (by decide) (by decide) ?_
      obtain ⟨v12, ev12, h⟩ := vlet_ex h
      refine e_nameV ev12.symm ?_
      clear ev12
      refine e_aload_n dX8_lose_112 rfl ?_
      refine e_get (w := .ref 183) (j := 17) dX8_lose_113 k0_174 rc8 (by decide) wfX8_34 (g0_174_17) ?_
      refine e_bipush (x := (6 : Int32)) dX8_lose_116 (by decide) ?_
      refine e_aload_n dX8_lose_118 rfl ?_
      refine e_get (w := .int (v12.1 174 38)) (j := 38) dX8_lose_119 k0_174 rc8 (by decide) wfX8_291 rfl ?_
      refine e_aload_n dX8_lose_122 rfl ?_
      refine e_get (w := .int (v12.1 174 37)) (j := 37) dX8_lose_123 k0_174 rc8 (by decide) wfX8_288 rfl ?_
      refine e_isub dX8_lose_126 ?_
      refine e_iconst (x := (1 : Int32)) dX8_lose_127 (by decide) ?_
      refine e_iadd dX8_lose_128 ?_
      refine e_iastJ dX8_lose_129 k0_183 (j := 6) (by decide) (by decide) (by decide) ?_
      obtain ⟨v13, ev13, h⟩ := vlet_ex h
      refine e_nameV ev13.symm ?_
      clear ev13
      refine e_iconst (x := (0 : Int32)) dX8_lose_130 (by decide) ?_
      refine e_aload_n dX8_lose_131 rfl ?_
      refine e_get (w := .ref 187) (j := 24) dX8_lose_132 k0_174 rc8 (by decide) wfX8_50 (g0_174_24) ?_
      refine e_iconst (x := (0 : Int32)) dX8_lose_135 (by decide) ?_
      refine e_iload_n dX8_lose_136 rfl ?_
      refine e_iadd dX8_lose_137 ?_
      refine e_ialdJ dX8_lose_138 k0_187 rfl (c3).2 (c3).1 ?_
      refine e_aload_n dX8_lose_139 rfl ?_
      refine e_aload_n dX8_lose_140 rfl ?_
      refine e_get (w := .ref 187) (j := 24) dX8_lose_141 k0_174 rc8 (by decide) wfX8_50 (g0_174_24) ?_
      refine e_sipush (x := (294 : Int32)) dX8_lose_144 (by decide) ?_
      refine e_ialdJ dX8_lose_147 k0_187 (j := 294) (by decide) (by decide) (by decide) ?_
      obtain ⟨p14, ep14, h⟩ := Option.bind_eq_some_iff.mp h
      refine c_VI (M' := mX8_worth) [.int (v13.1 187 294)] dX8_lose_148 rfl wmX8_297 imX8_worth seX8_worth lkX8_worth k0_174 rc8 (Nat.le_of_ble_eq_true rfl) ((x_X8_worth  ep14).mono (by omega)) ?_
      refine e_min dX8_lose_151 wmX8_261 wmst_min winimath wmcd_min (by omega) (Nat.le_of_ble_eq_true rfl) ?_
      refine e_max dX8_lose_154 wmX8_300 wmst_max winimath wmcd_max (by omega) (Nat.le_of_ble_eq_true rfl) ?_
      obtain ⟨x15, ex15, h⟩ := vlet_ex h
      refine e_nameI ex15.symm ?_
      clear ex15
      refine e_istore_n (lv' := [(3, .int x15), (0, .ref 174), (1, .int a1), (2, .int a2)]) dX8_lose_157 (by decide) rfl ?_
      refine e_iload_n dX8_lose_158 rfl ?_
      refine e_iload_n dX8_lose_159 rfl ?_
      refine e_aload_n dX8_lose_160 rfl ?_
      refine e_bipush (x := (6 : Int32)) dX8_lose_161 (by decide) ?_
      obtain ⟨p16, ep16, h⟩ := Option.bind_eq_some_iff.mp h
      refine c_VI (M' := mX8_of) [.int (6 : Int32)] dX8_lose_163 rfl wmX8_294 imX8_of seX8_of lkX8_of k0_174 rc8 (Nat.le_of_ble_eq_true rfl) ((x_X8_of  ep16).mono (by omega)) ?_
      refine e_imul dX8_lose_166 ?_
      refine e_bipush (x := (100 : Int32)) dX8_lose_167 (by decide) ?_
      refine e_idiv dX8_lose_169 (by decide) ?_
      refine e_isub dX8_lose_170 ?_
      obtain ⟨x17, ex17, h⟩ := vlet_ex h
      refine e_nameI ex17.symm ?_
      clear ex17
      refine e_istore_n (lv' := [(3, .int x17), (0, .ref 174), (1, .int a1), (2, .int a2)]) dX8_lose_171 (by decide) rfl ?_
      refine e_aload_n dX8_lose_172 rfl ?_
      refine e_get (w := .ref 187) (j := 24) dX8_lose_173 k0_174 rc8 (by decide) wfX8_50 (g0_174_24) ?_
      refine e_iconst (x := (0 : Int32)) dX8_lose_176 (by decide) ?_
      refine e_iload_n dX8_lose_177 rfl ?_
      refine e_iadd dX8_lose_178 ?_
      obtain ⟨x18, ex18, h⟩ := vlet_ex h
      refine e_nameI ex18.symm ?_
      clear ex18
      refine e_dup2 dX8_lose_179 rfl rfl ?_
      obtain ⟨c19, h⟩ := grd h
      refine e_ialdJ dX8_lose_180 k0_187 rfl c19.2 c19.1 ?_
      refine e_iload_n dX8_lose_181 rfl ?_
      refine e_isub dX8_lose_182 ?_
      refine e_iastJ dX8_lose_183 k0_187 rfl (c19).2 (c19).1 ?_
      obtain ⟨v20, ev20, h⟩ := vlet_ex h
      refine e_nameV ev20.symm ?_
      clear ev20
      refine e_aload_n dX8_lose_184 rfl ?_
      refine e_get (w := .ref 187) (j := 24) dX8_lose_185 k0_174 rc8 (by decide) wfX8_50 (g0_174_24) ?_
      refine e_sipush (x := (290 : Int32)) dX8_lose_188 (by decide) ?_
      refine e_dup2 dX8_lose_191 rfl rfl ?_
      refine e_ialdJ dX8_lose_192 k0_187 (j := 290) (by decide) (by decide) (by decide) ?_
      refine e_iload_n dX8_lose_193 rfl ?_
      refine e_iadd dX8_lose_194 ?_
      refine e_iastJ dX8_lose_195 k0_187 (j := 290) (by decide) (by decide) (by decide) ?_
      obtain ⟨v21, ev21, h⟩ := vlet_ex h
      refine e_nameV ev21.symm ?_
      clear ev21
      refine e_iload_n dX8_lose_196 rfl ?_
      refine e_aload_n dX8_lose_197 rfl ?_
      refine e_get (w := .ref 187) (j := 24) dX8_lose_198 k0_174 rc8 (by decide) wfX8_50 (g0_174_24) ?_
      refine e_iconst (x := (0 : Int32)) dX8_lose_201 (by decide) ?_
      refine e_iload_n dX8_lose_202 rfl ?_
      refine e_iadd dX8_lose_203 ?_
      refine e_ialdJ dX8_lose_204 k0_187 rfl (c3).2 (c3).1 ?_
      refine e_iadd dX8_lose_205 ?_
      obtain ⟨x22, ex22, h⟩ := vlet_ex h
      refine e_nameI ex22.symm ?_
      clear ex22
      refine e_istore_n (lv' := [(1, .int x22), (3, .int x17), (0, .ref 174), (2, .int a2)]) dX8_lose_206 (by decide) rfl ?_
      obtain ⟨x23, ex23, h⟩ := vlet_ex h
      refine e_iinc (lv' := [(2, .int x23), (1, .int x22), (3, .int x17), (0, .ref 174)]) dX8_lose_207 rfl (ex23.symm) (by decide) rfl ?_
      clear ex23
      refine e_goto (tgt := 7) dX8_lose_210 (by decide) ?_
      refine e_sub [3, 1, 0] rfl ?_
      exact ih v21 x22 x23 h
set_option maxRecDepth 20000 in
theorem x_X8_lose {X : Nat × (Nat → Int32)} {v : rV} {r : Int32 × rV}   (h : f_X8_lose v = some r) : EvM mX8_lose 5 0 0 [.ref 174] (rZ X) v (rPI X r) := by
  refine evm_of (by decide +kernel) (fun G => Nat.le_of_ble_eq_true rfl) ?_
  show Ev mX8_lose 5 0 0 0 [(0, .ref 174)] [] (rZ X) v _
  unfold f_X8_lose at h
  refine e_iconst (x := (0 : Int32)) dX8_lose_0 (by decide) ?_
  refine e_istore_n (lv' := [(1, .int (0 : Int32)), (0, .ref 174)]) dX8_lose_1 (by decide) rfl ?_
  refine e_aload_n dX8_lose_2 rfl ?_
  refine e_get (w := .int (v.1 174 37)) (j := 37) dX8_lose_3 k0_174 rc8 (by decide) wfX8_288 rfl ?_
  obtain ⟨x1, ex1, h⟩ := vlet_ex h
  refine e_nameI ex1.symm ?_
  clear ex1
  refine e_istore_n (lv' := [(2, .int x1), (1, .int (0 : Int32)), (0, .ref 174)]) dX8_lose_6 (by decide) rfl ?_
  refine e_sub [2, 1, 0] rfl ?_
  exact b_X8_lose_7  _ v (0 : Int32) x1 h
def f_X8_fall (v : rV) (a1 : Int32) (a2 : Int32) (a3 : Int32) : Option (rV) := vlet (((24 : Int32) + ((24 : Int32) * a2)) + a1 : Int32) fun x1 =>
  if ¬ x1 < 0 ∧ x1.toNatClampNeg < 416 then
  (vlet (rI v 187 x1.toNatClampNeg ((v.1 187 x1.toNatClampNeg) - a3)) fun v3 =>
  vlet (((72 : Int32) + ((24 : Int32) * a2)) + a1 : Int32) fun x4 =>
  if ¬ x4 < 0 ∧ x4.toNatClampNeg < 416 then
  (vlet (rI v3 187 x4.toNatClampNeg ((v3.1 187 x4.toNatClampNeg) + a3)) fun v6 =>
  vlet (((24 : Int32) * a2) + a1 : Int32) fun x7 =>
  if ¬ x7 < 0 ∧ x7.toNatClampNeg < 48 then
  (vlet (rI v6 193 x7.toNatClampNeg ((v6.1 193 x7.toNatClampNeg) + a3)) fun v9 =>
  some v9)
else none)
else none)
else none
set_option maxRecDepth 20000 in
theorem x_X8_fall {X : Nat × (Nat → Int32)} {v : rV} {r : rV} {a1 : Int32} {a2 : Int32} {a3 : Int32}  (h : f_X8_fall v a1 a2 a3 = some r) : EvM mX8_fall 1 0 0 [.ref 174, .int a1, .int a2, .int a3] (rZ X) v (rPV X r) := by
  refine evm_of (by decide +kernel) (fun G => Nat.le_of_ble_eq_true rfl) ?_
  show Ev mX8_fall 1 0 0 0 [(0, .ref 174), (1, .int a1), (2, .int a2), (3, .int a3)] [] (rZ X) v _
  unfold f_X8_fall at h
  refine e_aload_n dX8_fall_0 rfl ?_
  refine e_get (w := .ref 187) (j := 24) dX8_fall_1 k0_174 rc8 (by decide) wfX8_50 (g0_174_24) ?_
  refine e_bipush (x := (24 : Int32)) dX8_fall_4 (by decide) ?_
  refine e_bipush (x := (24 : Int32)) dX8_fall_6 (by decide) ?_
  refine e_iload_n dX8_fall_8 rfl ?_
  refine e_imul dX8_fall_9 ?_
  refine e_iadd dX8_fall_10 ?_
  refine e_iload_n dX8_fall_11 rfl ?_
  refine e_iadd dX8_fall_12 ?_
  obtain ⟨x1, ex1, h⟩ := vlet_ex h
  refine e_nameI ex1.symm ?_
  clear ex1
  refine e_dup2 dX8_fall_13 rfl rfl ?_
  obtain ⟨c2, h⟩ := grd h
  refine e_ialdJ dX8_fall_14 k0_187 rfl c2.2 c2.1 ?_
  refine e_iload_n dX8_fall_15 rfl ?_
  refine e_isub dX8_fall_16 ?_
  refine e_iastJ dX8_fall_17 k0_187 rfl (c2).2 (c2).1 ?_
  obtain ⟨v3, ev3, h⟩ := vlet_ex h
  refine e_nameV ev3.symm ?_
  clear ev3
  refine e_aload_n dX8_fall_18 rfl ?_
  refine e_get (w := .ref 187) (j := 24) dX8_fall_19 k0_174 rc8 (by decide) wfX8_50 (g0_174_24) ?_
  refine e_bipush (x := (72 : Int32)) dX8_fall_22 (by decide) ?_
  refine e_bipush (x := (24 : Int32)) dX8_fall_24 (by decide) ?_
  refine e_iload_n dX8_fall_26 rfl ?_
  refine e_imul dX8_fall_27 ?_
  refine e_iadd dX8_fall_28 ?_
  refine e_iload_n dX8_fall_29 rfl ?_
  refine e_iadd dX8_fall_30 ?_
  obtain ⟨x4, ex4, h⟩ := vlet_ex h
  refine e_nameI ex4.symm ?_
  clear ex4
  refine e_dup2 dX8_fall_31 rfl rfl ?_
  obtain ⟨c5, h⟩ := grd h
  refine e_ialdJ dX8_fall_32 k0_187 rfl c5.2 c5.1 ?_
  refine e_iload_n dX8_fall_33 rfl ?_
  refine e_iadd dX8_fall_34 ?_
  refine e_iastJ dX8_fall_35 k0_187 rfl (c5).2 (c5).1 ?_
  obtain ⟨v6, ev6, h⟩ := vlet_ex h
  refine e_nameV ev6.symm ?_
  clear ev6
  refine e_aload_n dX8_fall_36 rfl ?_
  refine e_get (w := .ref 193) (j := 35) dX8_fall_37 k0_174 rc8 (by decide) wfX8_68 (g0_174_35) ?_
  refine e_bipush (x := (24 : Int32)) dX8_fall_40 (by decide) ?_
  refine e_iload_n dX8_fall_42 rfl ?_
  refine e_imul dX8_fall_43 ?_
  refine e_iload_n dX8_fall_44 rfl ?_
  refine e_iadd dX8_fall_45 ?_
  obtain ⟨x7, ex7, h⟩ := vlet_ex h
  refine e_nameI ex7.symm ?_
  clear ex7
  refine e_dup2 dX8_fall_46 rfl rfl ?_
  obtain ⟨c8, h⟩ := grd h
  refine e_ialdJ dX8_fall_47 k0_193 rfl c8.2 c8.1 ?_
  refine e_iload_n dX8_fall_48 rfl ?_
  refine e_iadd dX8_fall_49 ?_
  refine e_iastJ dX8_fall_50 k0_193 rfl (c8).2 (c8).1 ?_
  obtain ⟨v9, ev9, h⟩ := vlet_ex h
  refine e_nameV ev9.symm ?_
  clear ev9
  obtain rfl := Option.some.inj h
  exact e_ret dX8_fall_51 rfl ⟨rfl, rfl, rfl⟩
def f_X8_shed (v : rV) (a1 : Int32) (a2 : Int32) : Option (rV) := vlet ((0 : Int32) + a2 : Int32) fun x1 =>
  if ¬ x1 < 0 ∧ x1.toNatClampNeg < 416 then
  (if ¬ ((0 : Int32) + a1) < 0 ∧ ((0 : Int32) + a1).toNatClampNeg < 416 then
  (vlet (rI v 187 x1.toNatClampNeg ((v.1 187 x1.toNatClampNeg) + (v.1 187 (((0 : Int32) + a1).toNatClampNeg)))) fun v4 =>
  vlet (rI v4 187 (((0 : Int32) + a1).toNatClampNeg) (0 : Int32)) fun v5 =>
  if ¬ ((24 : Int32) + a1) < 0 ∧ ((24 : Int32) + a1).toNatClampNeg < 416 then
  ((f_X8_fall v5 a1 (0 : Int32) (v5.1 187 (((24 : Int32) + a1).toNatClampNeg))).bind fun p7 =>
  if ¬ ((48 : Int32) + a1) < 0 ∧ ((48 : Int32) + a1).toNatClampNeg < 416 then
  ((f_X8_fall p7 a1 (1 : Int32) (p7.1 187 (((48 : Int32) + a1).toNatClampNeg))).bind fun p9 =>
  some p9)
else none)
else none)
else none)
else none
set_option maxRecDepth 20000 in
theorem x_X8_shed {X : Nat × (Nat → Int32)} {v : rV} {r : rV} {a1 : Int32} {a2 : Int32}  (h : f_X8_shed v a1 a2 = some r) : EvM mX8_shed 2 0 0 [.ref 174, .int a1, .int a2] (rZ X) v (rPV X r) := by
  refine evm_of (by decide +kernel) (fun G => Nat.le_of_ble_eq_true rfl) ?_
  show Ev mX8_shed 2 0 0 0 [(0, .ref 174), (1, .int a1), (2, .int a2)] [] (rZ X) v _
  unfold f_X8_shed at h
  refine e_aload_n dX8_shed_0 rfl ?_
  refine e_get (w := .ref 187) (j := 24) dX8_shed_1 k0_174 rc8 (by decide) wfX8_50 (g0_174_24) ?_
  refine e_iconst (x := (0 : Int32)) dX8_shed_4 (by decide) ?_
  refine e_iload_n dX8_shed_5 rfl ?_
  refine e_iadd dX8_shed_6 ?_
  obtain ⟨x1, ex1, h⟩ := vlet_ex h
  refine e_nameI ex1.symm ?_
  clear ex1
  refine e_dup2 dX8_shed_7 rfl rfl ?_
  obtain ⟨c2, h⟩ := grd h
  refine e_ialdJ dX8_shed_8 k0_187 rfl c2.2 c2.1 ?_
  refine e_aload_n dX8_shed_9 rfl ?_
  refine e_get (w := .ref 187) (j := 24) dX8_shed_10 k0_174 rc8 (by decide) wfX8_50 (g0_174_24) ?_
  refine e_iconst (x := (0 : Int32)) dX8_shed_13 (by decide) ?_
  refine e_iload_n dX8_shed_14 rfl ?_
  refine e_iadd dX8_shed_15 ?_
  obtain ⟨c3, h⟩ := grd h
  refine e_ialdJ dX8_shed_16 k0_187 rfl c3.2 c3.1 ?_
  refine e_iadd dX8_shed_17 ?_
  refine e_iastJ dX8_shed_18 k0_187 rfl (c2).2 (c2).1 ?_
  obtain ⟨v4, ev4, h⟩ := vlet_ex h
  refine e_nameV ev4.symm ?_
  clear ev4
  refine e_aload_n dX8_shed_19 rfl ?_
  refine e_get (w := .ref 187) (j := 24) dX8_shed_20 k0_174 rc8 (by decide) wfX8_50 (g0_174_24) ?_
  refine e_iconst (x := (0 : Int32)) dX8_shed_23 (by decide) ?_
  refine e_iload_n dX8_shed_24 rfl ?_
  refine e_iadd dX8_shed_25 ?_
  refine e_iconst (x := (0 : Int32)) dX8_shed_26 (by decide) ?_
  refine e_iastJ dX8_shed_27 k0_187 rfl (c3).2 (c3).1 ?_
  obtain ⟨v5, ev5, h⟩ := vlet_ex h
  refine e_nameV ev5.symm ?_
  clear ev5
  refine e_aload_n dX8_shed_28 rfl ?_
  refine e_iload_n dX8_shed_29 rfl ?_
  refine e_iconst (x := (0 : Int32)) dX8_shed_30 (by decide) ?_
  refine e_aload_n dX8_shed_31 rfl ?_
  refine e_get (w := .ref 187) (j := 24) dX8_shed_32 k0_174 rc8 (by decide) wfX8_50 (g0_174_24) ?_
  refine e_bipush (x := (24 : Int32)) dX8_shed_35 (by decide) ?_
  refine e_iload_n dX8_shed_37 rfl ?_
  refine e_iadd dX8_shed_38 ?_
  obtain ⟨c6, h⟩ := grd h
  refine e_ialdJ dX8_shed_39 k0_187 rfl c6.2 c6.1 ?_
  obtain ⟨p7, ep7, h⟩ := Option.bind_eq_some_iff.mp h
  refine c_VV (M' := mX8_fall) [.int a1, .int (0 : Int32), .int (v5.1 187 (((24 : Int32) + a1).toNatClampNeg))] dX8_shed_40 rfl wmX8_305 imX8_fall seX8_fall lkX8_fall k0_174 rc8 (Nat.le_of_ble_eq_true rfl) ((x_X8_fall  ep7).mono (by omega)) ?_
  refine e_aload_n dX8_shed_43 rfl ?_
  refine e_iload_n dX8_shed_44 rfl ?_
  refine e_iconst (x := (1 : Int32)) dX8_shed_45 (by decide) ?_
  refine e_aload_n dX8_shed_46 rfl ?_
  refine e_get (w := .ref 187) (j := 24) dX8_shed_47 k0_174 rc8 (by decide) wfX8_50 (g0_174_24) ?_
  refine e_bipush (x := (48 : Int32)) dX8_shed_50 (by decide) ?_
  refine e_iload_n dX8_shed_52 rfl ?_
  refine e_iadd dX8_shed_53 ?_
  obtain ⟨c8, h⟩ := grd h
  refine e_ialdJ dX8_shed_54 k0_187 rfl c8.2 c8.1 ?_
  obtain ⟨p9, ep9, h⟩ := Option.bind_eq_some_iff.mp h
  refine c_VV (M' := mX8_fall) [.int a1, .int (1 : Int32), .int (p7.1 187 (((48 : Int32) + a1).toNatClampNeg))] dX8_shed_55 rfl wmX8_305 imX8_fall seX8_fall lkX8_fall k0_174 rc8 (Nat.le_of_ble_eq_true rfl) ((x_X8_fall  ep9).mono (by omega)) ?_
  obtain rfl := Option.some.inj h
  exact e_ret dX8_shed_58 rfl ⟨rfl, rfl, rfl⟩
def f_X8_letGo_2   : Nat → rV → Int32 → Int32 → Option (rV)
  | 0, _, _, _ => none
  | n + 1, v, a1, a2 => if a1 ≤ a2 then
  (some v)
else
  ((f_X8_shed v (v.1 174 37) ((v.1 174 37) + (1 : Int32))).bind fun p1 =>
  vlet (rI p1 174 37 ((p1.1 174 37) + (1 : Int32))) fun v2 =>
  (f_X8_shed v2 (v2.1 174 38) ((v2.1 174 38) - (1 : Int32))).bind fun p3 =>
  vlet (rI p3 174 38 ((p3.1 174 38) - (1 : Int32))) fun v4 =>
  vlet (a2 + (1 : Int32)) fun x5 =>
  f_X8_letGo_2  n v4 a1 x5)
def f_X8_letGo (v : rV) (a1 : Int32) : Option (rV) := f_X8_letGo_2  20000 v a1 (0 : Int32)
set_option maxRecDepth 20000 in
theorem b_X8_letGo_2 {X : Nat × (Nat → Int32)} {r : rV}   : ∀ (n : Nat) (v : rV) (a1 : Int32) (a2 : Int32) , f_X8_letGo_2   n v a1 a2 = some r → Ev mX8_letGo 3 0 0 2 [(0, .ref 174), (1, .int a1), (2, .int a2)] [] (rZ X) v (rPV X r) := by
  intro n
  induction n with
  | zero =>
    intros
    rename_i h
    cases h
  | succ n ih =>
    intro v a1 a2 h
    rw [f_X8_letGo_2] at h
    refine e_iload_n dX8_letGo_2 rfl ?_
    refine e_iload_n dX8_letGo_3 rfl ?_
    refine e_icmp_ge (tgt := 61) dX8_letGo_4 (by decide) (fun c6 => ?_) (fun c6 => ?_)
    · rw [if_pos c6] at h
      obtain rfl := Option.some.inj h
      exact e_ret dX8_letGo_61 rfl ⟨rfl, rfl, rfl⟩
    · rw [if_neg c6] at h
      refine e_aload_n dX8_letGo_7 rfl ?_
      refine e_aload_n dX8_letGo_8 rfl ?_
      refine e_get (w := .int (v.1 174 37)) (j := 37) dX8_letGo_9 k0_174 rc8 (by decide) wfX8_288 rfl ?_
      refine e_aload_n dX8_letGo_12 rfl ?_
      refine e_get (w := .int (v.1 174 37)) (j := 37) dX8_letGo_13 k0_174 rc8 (by decide) wfX8_288 rfl ?_
      refine e_iconst (x := (1 : Int32)) dX8_letGo_16 (by decide) ?_
      refine e_iadd dX8_letGo_17 ?_
      obtain ⟨p1, ep1, h⟩ := Option.bind_eq_some_iff.mp h
      refine c_VV (M' := mX8_shed) [.int (v.1 174 37), .int ((v.1 174 37) + (1 : Int32))] dX8_letGo_18 rfl wmX8_302 imX8_shed seX8_shed lkX8_shed k0_174 rc8 (Nat.le_of_ble_eq_true rfl) ((x_X8_shed  ep1).mono (by omega)) ?_
      refine e_aload_n dX8_letGo_21 rfl ?_
      refine e_dup dX8_letGo_22 rfl ?_
      refine e_get (w := .int (p1.1 174 37)) (j := 37) dX8_letGo_23 k0_174 rc8 (by decide) wfX8_288 rfl ?_
      refine e_iconst (x := (1 : Int32)) dX8_letGo_26 (by decide) ?_
      refine e_iadd dX8_letGo_27 ?_
      refine e_putI (j := 37) dX8_letGo_28 k0_174 rc8 (by decide) wfX8_288 rfl rfl ?_
      obtain ⟨v2, ev2, h⟩ := vlet_ex h
      refine e_nameV ev2.symm ?_
      clear ev2
      refine e_aload_n dX8_letGo_31 rfl ?_
      refine e_aload_n dX8_letGo_32 rfl ?_
      refine e_get (w := .int (v2.1 174 38)) (j := 38) dX8_letGo_33 k0_174 rc8 (by decide) wfX8_291 rfl ?_
      refine e_aload_n dX8_letGo_36 rfl ?_
      refine e_get (w := .int (v2.1 174 38)) (j := 38) dX8_letGo_37 k0_174 rc8 (by decide) wfX8_291 rfl ?_
      refine e_iconst (x := (1 : Int32)) dX8_letGo_40 (by decide) ?_
      refine e_isub dX8_letGo_41 ?_
      obtain ⟨p3, ep3, h⟩ := Option.bind_eq_some_iff.mp h
      refine c_VV (M' := mX8_shed) [.int (v2.1 174 38), .int ((v2.1 174 38) - (1 : Int32))] dX8_letGo_42 rfl wmX8_302 imX8_shed seX8_shed lkX8_shed k0_174 rc8 (Nat.le_of_ble_eq_true rfl) ((x_X8_shed  ep3).mono (by omega)) ?_
      refine e_aload_n dX8_letGo_45 rfl ?_
      refine e_dup dX8_letGo_46 rfl ?_
      refine e_get (w := .int (p3.1 174 38)) (j := 38) dX8_letGo_47 k0_174 rc8 (by decide) wfX8_291 rfl ?_
      refine e_iconst (x := (1 : Int32)) dX8_letGo_50 (by decide) ?_
      refine e_isub dX8_letGo_51 ?_
      refine e_putI (j := 38) dX8_letGo_52 k0_174 rc8 (by decide) wfX8_291 rfl rfl ?_
      obtain ⟨v4, ev4, h⟩ := vlet_ex h
      refine e_nameV ev4.symm ?_
      clear ev4
      obtain ⟨x5, ex5, h⟩ := vlet_ex h
      refine e_iinc (lv' := [(2, .int x5), (0, .ref 174), (1, .int a1)]) dX8_letGo_55 rfl (ex5.symm) (by decide) rfl ?_
      clear ex5
      refine e_goto (tgt := 2) dX8_letGo_58 (by decide) ?_
      refine e_sub [1, 2, 0] rfl ?_
      exact ih v4 a1 x5 h
set_option maxRecDepth 20000 in
theorem x_X8_letGo {X : Nat × (Nat → Int32)} {v : rV} {r : rV} {a1 : Int32}  (h : f_X8_letGo v a1 = some r) : EvM mX8_letGo 3 0 0 [.ref 174, .int a1] (rZ X) v (rPV X r) := by
  refine evm_of (by decide +kernel) (fun G => Nat.le_of_ble_eq_true rfl) ?_
  show Ev mX8_letGo 3 0 0 0 [(0, .ref 174), (1, .int a1)] [] (rZ X) v _
  unfold f_X8_letGo at h
  refine e_iconst (x := (0 : Int32)) dX8_letGo_0 (by decide) ?_
  refine e_istore_n (lv' := [(2, .int (0 : Int32)), (0, .ref 174), (1, .int a1)]) dX8_letGo_1 (by decide) rfl ?_
  refine e_sub [1, 2, 0] rfl ?_
  exact b_X8_letGo_2  _ v a1 (0 : Int32) h
def f_X8_flows_181  (q59 : rV → Int32 → Int32 → Option (rV)) (v : rV) (a2 : Int32) (a3 : Int32) (s0 : Int32) (s1 : Int32) (s2 : Int32) : Option (rV) := if ¬ s2 < 0 ∧ s2.toNatClampNeg < 416 then
  (vlet (rI v 187 s2.toNatClampNeg (s1 + s0)) fun v11 =>
  vlet (a3 + (1 : Int32)) fun x12 =>
  q59 v11 a2 x12)
else none
def f_X8_flows_180  (q59 : rV → Int32 → Int32 → Option (rV)) (v : rV) (a2 : Int32) (a3 : Int32) (s0 : Int32) (s1 : Int32) : Option (rV) := f_X8_flows_181 q59 v a2 a3 (0 : Int32) s0 s1
def f_X8_flows_166  (q59 : rV → Int32 → Int32 → Option (rV)) (v : rV) (a2 : Int32) (a3 : Int32) (a5 : Int32) (s0 : Int32) (s1 : Int32) : Option (rV) := if a5 = 0 then
  (f_X8_flows_180 q59 v a2 a3 s0 s1)
else
  (if 0 ≤ a2 then
  (f_X8_flows_180 q59 v a2 a3 s0 s1)
else
  (f_X8_flows_181 q59 v a2 a3 (-a2) s0 s1))
def f_X8_flows_142  (q59 : rV → Int32 → Int32 → Option (rV)) (v : rV) (a2 : Int32) (a3 : Int32) (a4 : Int32) (s0 : Int32) : Option (rV) := if a4 = 0 then
  (f_X8_flows_166 q59 v a2 a3 s0 (v.1 187 293) (293 : Int32))
else
  (if a2 ≤ 0 then
  (f_X8_flows_166 q59 v a2 a3 s0 (v.1 187 293) (293 : Int32))
else
  (f_X8_flows_181 q59 v a2 a3 a2 (v.1 187 293) (293 : Int32)))
def f_X8_flows_116  (q59 : rV → Int32 → Int32 → Option (rV)) (v : rV) (a2 : Int32) (a3 : Int32) (s0 : Int32) : Option (rV) := if (((v.1 174 38) - a3) - (1 : Int32)) < ((a3 + (1 : Int32)) - (v.1 174 37)) then
  (f_X8_flows_142 q59 v a2 a3 s0 (0 : Int32))
else
  (f_X8_flows_142 q59 v a2 a3 s0 (1 : Int32))
def f_X8_flows_59   : Nat → rV → Int32 → Int32 → Option (rV)
  | 0, _, _, _ => none
  | n + 1, v, a2, a3 => if (v.1 174 38) ≤ a3 then
  (some v)
else
  (if ¬ a3 < 0 ∧ a3.toNatClampNeg < 24 then
  (if ¬ ((0 : Int32) + a3) < 0 ∧ ((0 : Int32) + a3).toNatClampNeg < 416 then
  (vlet (a2 + ((v.1 194 a3.toNatClampNeg) - (v.1 187 (((0 : Int32) + a3).toNatClampNeg))) : Int32) fun x7 =>
  if ¬ ((168 : Int32) + a3) < 0 ∧ ((168 : Int32) + a3).toNatClampNeg < 416 then
  (vlet (rI v 187 (((168 : Int32) + a3).toNatClampNeg) x7) fun v9 =>
  if (a3 - (v9.1 174 37)) < ((v9.1 174 38) - a3) then
  (f_X8_flows_116 (fun v a2 a3 => f_X8_flows_59  n v a2 a3) v9 x7 a3 (0 : Int32))
else
  (f_X8_flows_116 (fun v a2 a3 => f_X8_flows_59  n v a2 a3) v9 x7 a3 (1 : Int32)))
else none)
else none)
else none)
def f_X8_flows_5   : Nat → rV → Int32 → Int32 → Option (rV)
  | 0, _, _, _ => none
  | n + 1, v, a1, a2 => if (v.1 174 38) < a2 then
  ((f_X8_of v (11 : Int32)).bind fun p2 =>
  (f_X8_shape v (v.1 174 37) (v.1 174 38) a1 p2).bind fun p3 =>
  vlet (p3.1 174 37 : Int32) fun x4 =>
  f_X8_flows_59  20000 p3 (0 : Int32) x4)
else
  (if ¬ ((0 : Int32) + a2) < 0 ∧ ((0 : Int32) + a2).toNatClampNeg < 416 then
  (if ¬ a2 < 0 ∧ a2.toNatClampNeg < 24 then
  (vlet (rI v 194 a2.toNatClampNeg (v.1 187 (((0 : Int32) + a2).toNatClampNeg))) fun v22 =>
  vlet (a2 + (1 : Int32)) fun x23 =>
  f_X8_flows_5  n v22 a1 x23)
else none)
else none)
def f_X8_flows (v : rV) (a1 : Int32) : Option (rV) := vlet (v.1 174 37 : Int32) fun x1 =>
  f_X8_flows_5  20000 v a1 x1
set_option maxRecDepth 20000 in
theorem b_X8_flows_181 {X : Nat × (Nat → Int32)} {r : rV} {v : rV} {q59 : rV → Int32 → Int32 → Option (rV)} (hq59 : ∀ (v : rV) (a2 : Int32) (a3 : Int32) , q59 v a2 a3 = some r → Ev mX8_flows 3 0 0 59 [(0, .ref 174), (2, .int a2), (3, .int a3)] [] (rZ X) v (rPV X r)) {a2 : Int32} {a3 : Int32} {s0 : Int32} {s1 : Int32} {s2 : Int32}  (h : f_X8_flows_181 q59 v a2 a3 s0 s1 s2 = some r) : Ev mX8_flows 3 0 0 181 [(0, .ref 174), (2, .int a2), (3, .int a3)] [.int s0, .int s1, .int s2, .ref 187] (rZ X) v (rPV X r) := by
  unfold f_X8_flows_181 at h
  refine e_iadd dX8_flows_181 ?_
  obtain ⟨c10, h⟩ := grd h
  refine e_iastJ dX8_flows_182 k0_187 rfl c10.2 c10.1 ?_
  obtain ⟨v11, ev11, h⟩ := vlet_ex h
  refine e_nameV ev11.symm ?_
  clear ev11
  obtain ⟨x12, ex12, h⟩ := vlet_ex h
  refine e_iinc (lv' := [(3, .int x12), (0, .ref 174), (2, .int a2)]) dX8_flows_183 rfl (ex12.symm) (by decide) rfl ?_
  clear ex12
  refine e_goto (tgt := 59) dX8_flows_186 (by decide) ?_
  refine e_sub [1, 2, 0] rfl ?_
  exact hq59 v11 a2 x12 h
set_option maxRecDepth 20000 in
theorem b_X8_flows_180 {X : Nat × (Nat → Int32)} {r : rV} {v : rV} {q59 : rV → Int32 → Int32 → Option (rV)} (hq59 : ∀ (v : rV) (a2 : Int32) (a3 : Int32) , q59 v a2 a3 = some r → Ev mX8_flows 3 0 0 59 [(0, .ref 174), (2, .int a2), (3, .int a3)] [] (rZ X) v (rPV X r)) {a2 : Int32} {a3 : Int32} {s0 : Int32} {s1 : Int32}  (h : f_X8_flows_180 q59 v a2 a3 s0 s1 = some r) : Ev mX8_flows 3 0 0 180 [(0, .ref 174), (2, .int a2), (3, .int a3)] [.int s0, .int s1, .ref 187] (rZ X) v (rPV X r) := by
  unfold f_X8_flows_180 at h
  refine e_iconst (x := (0 : Int32)) dX8_flows_180 (by decide) ?_
  exact b_X8_flows_181 hq59 h
set_option maxRecDepth 20000 in
theorem b_X8_flows_166 {X : Nat × (Nat → Int32)} {r : rV} {v : rV} {q59 : rV → Int32 → Int32 → Option (rV)} (hq59 : ∀ (v : rV) (a2 : Int32) (a3 : Int32) , q59 v a2 a3 = some r → Ev mX8_flows 3 0 0 59 [(0, .ref 174), (2, .int a2), (3, .int a3)] [] (rZ X) v (rPV X r)) {a2 : Int32} {a3 : Int32} {a5 : Int32} {s0 : Int32} {s1 : Int32}  (h : f_X8_flows_166 q59 v a2 a3 a5 s0 s1 = some r) : Ev mX8_flows 3 0 0 166 [(0, .ref 174), (2, .int a2), (3, .int a3), (5, .int a5)] [.int s0, .int s1, .ref 187] (rZ X) v (rPV X r) := by
  unfold f_X8_flows_166 at h
  refine e_iload dX8_flows_166 rfl ?_
  refine e_if_eq (tgt := 180) dX8_flows_168 (by decide) (fun c14 => ?_) (fun c14 => ?_)
  · rw [if_pos c14] at h
    refine e_sub [0, 1, 2] rfl ?_
    exact b_X8_flows_180 hq59 h
  · rw [if_neg c14] at h
    refine e_iload_n dX8_flows_171 rfl ?_
    refine e_if_ge (tgt := 180) dX8_flows_172 (by decide) (fun c13 => ?_) (fun c13 => ?_)
    · rw [if_pos c13] at h
      refine e_sub [0, 1, 2] rfl ?_
      exact b_X8_flows_180 hq59 h
    · rw [if_neg c13] at h
      refine e_iload_n dX8_flows_175 rfl ?_
      refine e_ineg dX8_flows_176 ?_
      refine e_goto (tgt := 181) dX8_flows_177 (by decide) ?_
      refine e_sub [0, 1, 2] rfl ?_
      exact b_X8_flows_181 hq59 h
set_option maxRecDepth 20000 in
theorem b_X8_flows_142 {X : Nat × (Nat → Int32)} {r : rV} {v : rV} {q59 : rV → Int32 → Int32 → Option (rV)} (hq59 : ∀ (v : rV) (a2 : Int32) (a3 : Int32) , q59 v a2 a3 = some r → Ev mX8_flows 3 0 0 59 [(0, .ref 174), (2, .int a2), (3, .int a3)] [] (rZ X) v (rPV X r)) {a2 : Int32} {a3 : Int32} {a4 : Int32} {s0 : Int32}  (h : f_X8_flows_142 q59 v a2 a3 a4 s0 = some r) : Ev mX8_flows 3 0 0 142 [(0, .ref 174), (2, .int a2), (3, .int a3), (4, .int a4)] [.int s0] (rZ X) v (rPV X r) := by
  unfold f_X8_flows_142 at h
  refine e_istore (lv' := [(5, .int s0), (0, .ref 174), (2, .int a2), (3, .int a3), (4, .int a4)]) dX8_flows_142 (by decide) rfl ?_
  refine e_aload_n dX8_flows_144 rfl ?_
  refine e_get (w := .ref 187) (j := 24) dX8_flows_145 k0_174 rc8 (by decide) wfX8_50 (g0_174_24) ?_
  refine e_sipush (x := (293 : Int32)) dX8_flows_148 (by decide) ?_
  refine e_dup2 dX8_flows_151 rfl rfl ?_
  refine e_ialdJ dX8_flows_152 k0_187 (j := 293) (by decide) (by decide) (by decide) ?_
  refine e_iload dX8_flows_153 rfl ?_
  refine e_if_eq (tgt := 166) dX8_flows_155 (by decide) (fun c16 => ?_) (fun c16 => ?_)
  · rw [if_pos c16] at h
    refine e_sub [1, 2, 3, 0] rfl ?_
    exact b_X8_flows_166 hq59 h
  · rw [if_neg c16] at h
    refine e_iload_n dX8_flows_158 rfl ?_
    refine e_if_le (tgt := 166) dX8_flows_159 (by decide) (fun c15 => ?_) (fun c15 => ?_)
    · rw [if_pos c15] at h
      refine e_sub [1, 2, 3, 0] rfl ?_
      exact b_X8_flows_166 hq59 h
    · rw [if_neg c15] at h
      refine e_iload_n dX8_flows_162 rfl ?_
      refine e_goto (tgt := 181) dX8_flows_163 (by decide) ?_
      refine e_sub [1, 2, 3] rfl ?_
      exact b_X8_flows_181 hq59 h
set_option maxRecDepth 20000 in
theorem b_X8_flows_116 {X : Nat × (Nat → Int32)} {r : rV} {v : rV} {q59 : rV → Int32 → Int32 → Option (rV)} (hq59 : ∀ (v : rV) (a2 : Int32) (a3 : Int32) , q59 v a2 a3 = some r → Ev mX8_flows 3 0 0 59 [(0, .ref 174), (2, .int a2), (3, .int a3)] [] (rZ X) v (rPV X r)) {a2 : Int32} {a3 : Int32} {s0 : Int32}  (h : f_X8_flows_116 q59 v a2 a3 s0 = some r) : Ev mX8_flows 3 0 0 116 [(0, .ref 174), (2, .int a2), (3, .int a3)] [.int s0] (rZ X) v (rPV X r) := by
  unfold f_X8_flows_116 at h
  refine e_istore (lv' := [(4, .int s0), (0, .ref 174), (2, .int a2), (3, .int a3)]) dX8_flows_116 (by decide) rfl ?_
  refine e_iload_n dX8_flows_118 rfl ?_
  refine e_iconst (x := (1 : Int32)) dX8_flows_119 (by decide) ?_
  refine e_iadd dX8_flows_120 ?_
  refine e_aload_n dX8_flows_121 rfl ?_
  refine e_get (w := .int (v.1 174 37)) (j := 37) dX8_flows_122 k0_174 rc8 (by decide) wfX8_288 rfl ?_
  refine e_isub dX8_flows_125 ?_
  refine e_aload_n dX8_flows_126 rfl ?_
  refine e_get (w := .int (v.1 174 38)) (j := 38) dX8_flows_127 k0_174 rc8 (by decide) wfX8_291 rfl ?_
  refine e_iload_n dX8_flows_130 rfl ?_
  refine e_isub dX8_flows_131 ?_
  refine e_iconst (x := (1 : Int32)) dX8_flows_132 (by decide) ?_
  refine e_isub dX8_flows_133 ?_
  refine e_icmp_gt (tgt := 141) dX8_flows_134 (by decide) (fun c17 => ?_) (fun c17 => ?_)
  · rw [if_pos c17] at h
    refine e_iconst (x := (0 : Int32)) dX8_flows_141 (by decide) ?_
    refine e_sub [1, 2, 3, 0] rfl ?_
    exact b_X8_flows_142 hq59 h
  · rw [if_neg c17] at h
    refine e_iconst (x := (1 : Int32)) dX8_flows_137 (by decide) ?_
    refine e_goto (tgt := 142) dX8_flows_138 (by decide) ?_
    refine e_sub [1, 2, 3, 0] rfl ?_
    exact b_X8_flows_142 hq59 h
set_option maxRecDepth 20000 in
theorem b_X8_flows_59 {X : Nat × (Nat → Int32)} {r : rV}   : ∀ (n : Nat) (v : rV) (a2 : Int32) (a3 : Int32) , f_X8_flows_59   n v a2 a3 = some r → Ev mX8_flows 3 0 0 59 [(0, .ref 174), (2, .int a2), (3, .int a3)] [] (rZ X) v (rPV X r) := by
  intro n
  induction n with
  | zero =>
    intros
    rename_i h
    cases h
  | succ n ih =>
    intro v a2 a3 h
    rw [f_X8_flows_59] at h
    refine e_iload_n dX8_flows_59 rfl ?_
    refine e_aload_n dX8_flows_60 rfl ?_
    refine e_get (w := .int (v.1 174 38)) (j := 38) dX8_flows_61 k0_174 rc8 (by decide) wfX8_291 rfl ?_
    refine e_icmp_ge (tgt := 189) dX8_flows_64 (by decide) (fun c19 => ?_) (fun c19 => ?_)
    · rw [if_pos c19] at h
      obtain rfl := Option.some.inj h
      exact e_ret dX8_flows_189 rfl ⟨rfl, rfl, rfl⟩
    · rw [if_neg c19] at h
      refine e_iload_n dX8_flows_67 rfl ?_
      refine e_aload_n dX8_flows_68 rfl ?_
      refine e_get (w := .ref 194) (j := 36) dX8_flows_69 k0_174 rc8 (by decide) wfX8_71 (g0_174_36) ?_
      refine e_iload_n dX8_flows_72 rfl ?_
      obtain ⟨c5, h⟩ := grd h
      refine e_ialdJ dX8_flows_73 k0_194 rfl c5.2 c5.1 ?_
      refine e_aload_n dX8_flows_74 rfl ?_
      refine e_get (w := .ref 187) (j := 24) dX8_flows_75 k0_174 rc8 (by decide) wfX8_50 (g0_174_24) ?_
      refine e_iconst (x := (0 : Int32)) dX8_flows_78 (by decide) ?_
      refine e_iload_n dX8_flows_79 rfl ?_
      refine e_iadd dX8_flows_80 ?_
      obtain ⟨c6, h⟩ := grd h
      refine e_ialdJ dX8_flows_81 k0_187 rfl c6.2 c6.1 ?_
      refine e_isub dX8_flows_82 ?_
      refine e_iadd dX8_flows_83 ?_
      obtain ⟨x7, ex7, h⟩ := vlet_ex h
      refine e_nameI ex7.symm ?_
      clear ex7
      refine e_istore_n (lv' := [(2, .int x7), (0, .ref 174), (3, .int a3)]) dX8_flows_84 (by decide) rfl ?_
      refine e_aload_n dX8_flows_85 rfl ?_
      refine e_get (w := .ref 187) (j := 24) dX8_flows_86 k0_174 rc8 (by decide) wfX8_50 (g0_174_24) ?_
      refine e_sipush (x := (168 : Int32)) dX8_flows_89 (by decide) ?_
      refine e_iload_n dX8_flows_92 rfl ?_
      refine e_iadd dX8_flows_93 ?_
      refine e_iload_n dX8_flows_94 rfl ?_
      obtain ⟨c8, h⟩ := grd h
      refine e_iastJ dX8_flows_95 k0_187 rfl c8.2 c8.1 ?_
      obtain ⟨v9, ev9, h⟩ := vlet_ex h
      refine e_nameV ev9.symm ?_
      clear ev9
      refine e_iload_n dX8_flows_96 rfl ?_
      refine e_aload_n dX8_flows_97 rfl ?_
      refine e_get (w := .int (v9.1 174 37)) (j := 37) dX8_flows_98 k0_174 rc8 (by decide) wfX8_288 rfl ?_
      refine e_isub dX8_flows_101 ?_
      refine e_aload_n dX8_flows_102 rfl ?_
      refine e_get (w := .int (v9.1 174 38)) (j := 38) dX8_flows_103 k0_174 rc8 (by decide) wfX8_291 rfl ?_
      refine e_iload_n dX8_flows_106 rfl ?_
      refine e_isub dX8_flows_107 ?_
      refine e_icmp_lt (tgt := 115) dX8_flows_108 (by decide) (fun c18 => ?_) (fun c18 => ?_)
      · rw [if_pos c18] at h
        refine e_iconst (x := (0 : Int32)) dX8_flows_115 (by decide) ?_
        refine e_sub [1, 0, 2] rfl ?_
        exact b_X8_flows_116 (fun v a2 a3  hh => ih v a2 a3  hh) h
      · rw [if_neg c18] at h
        refine e_iconst (x := (1 : Int32)) dX8_flows_111 (by decide) ?_
        refine e_goto (tgt := 116) dX8_flows_112 (by decide) ?_
        refine e_sub [1, 0, 2] rfl ?_
        exact b_X8_flows_116 (fun v a2 a3  hh => ih v a2 a3  hh) h
set_option maxRecDepth 20000 in
theorem b_X8_flows_5 {X : Nat × (Nat → Int32)} {r : rV}   : ∀ (n : Nat) (v : rV) (a1 : Int32) (a2 : Int32) , f_X8_flows_5   n v a1 a2 = some r → Ev mX8_flows 3 0 0 5 [(0, .ref 174), (1, .int a1), (2, .int a2)] [] (rZ X) v (rPV X r) := by
  intro n
  induction n with
  | zero =>
    intros
    rename_i h
    cases h
  | succ n ih =>
    intro v a1 a2 h
    rw [f_X8_flows_5] at h
    refine e_iload_n dX8_flows_5 rfl ?_
    refine e_aload_n dX8_flows_6 rfl ?_
    refine e_get (w := .int (v.1 174 38)) (j := 38) dX8_flows_7 k0_174 rc8 (by decide) wfX8_291 rfl ?_
    refine e_icmp_gt (tgt := 33) dX8_flows_10 (by decide) (fun c24 => ?_) (fun c24 => ?_)
    · rw [if_pos c24] at h
      refine e_aload_n dX8_flows_33 rfl ?_
      refine e_aload_n dX8_flows_34 rfl ?_
      refine e_get (w := .int (v.1 174 37)) (j := 37) dX8_flows_35 k0_174 rc8 (by decide) wfX8_288 rfl ?_
      refine e_aload_n dX8_flows_38 rfl ?_
      refine e_get (w := .int (v.1 174 38)) (j := 38) dX8_flows_39 k0_174 rc8 (by decide) wfX8_291 rfl ?_
      refine e_iload_n dX8_flows_42 rfl ?_
      refine e_aload_n dX8_flows_43 rfl ?_
      refine e_bipush (x := (11 : Int32)) dX8_flows_44 (by decide) ?_
      obtain ⟨p2, ep2, h⟩ := Option.bind_eq_some_iff.mp h
      refine c_VI (M' := mX8_of) [.int (11 : Int32)] dX8_flows_46 rfl wmX8_294 imX8_of seX8_of lkX8_of k0_174 rc8 (Nat.le_of_ble_eq_true rfl) ((x_X8_of  ep2).mono (by omega)) ?_
      obtain ⟨p3, ep3, h⟩ := Option.bind_eq_some_iff.mp h
      refine c_VV (M' := mX8_shape) [.int (v.1 174 37), .int (v.1 174 38), .int a1, .int p2] dX8_flows_49 rfl wmX8_264 imX8_shape seX8_shape lkX8_shape k0_174 rc8 (Nat.le_of_ble_eq_true rfl) ((x_X8_shape  ep3).mono (by omega)) ?_
      refine e_iconst (x := (0 : Int32)) dX8_flows_52 (by decide) ?_
      refine e_istore_n (lv' := [(2, .int (0 : Int32)), (0, .ref 174), (1, .int a1)]) dX8_flows_53 (by decide) rfl ?_
      refine e_aload_n dX8_flows_54 rfl ?_
      refine e_get (w := .int (p3.1 174 37)) (j := 37) dX8_flows_55 k0_174 rc8 (by decide) wfX8_288 rfl ?_
      obtain ⟨x4, ex4, h⟩ := vlet_ex h
      refine e_nameI ex4.symm ?_
      clear ex4
      refine e_istore_n (lv' := [(3, .int x4), (2, .int (0 : Int32)), (0, .ref 174), (1, .int a1)]) dX8_flows_58 (by decide) rfl ?_
      refine e_sub [2, 1, 0] rfl ?_
      exact b_X8_flows_59  _ p3 (0 : Int32) x4 h
    · rw [if_neg c24] at h
      refine e_aload_n dX8_flows_13 rfl ?_
      refine e_get (w := .ref 194) (j := 36) dX8_flows_14 k0_174 rc8 (by decide) wfX8_71 (g0_174_36) ?_
      refine e_iload_n dX8_flows_17 rfl ?_
      refine e_aload_n dX8_flows_18 rfl ?_
      refine e_get (w := .ref 187) (j := 24) dX8_flows_19 k0_174 rc8 (by decide) wfX8_50 (g0_174_24) ?_
      refine e_iconst (x := (0 : Int32)) dX8_flows_22 (by decide) ?_
      refine e_iload_n dX8_flows_23 rfl ?_
      refine e_iadd dX8_flows_24 ?_
      obtain ⟨c20, h⟩ := grd h
      refine e_ialdJ dX8_flows_25 k0_187 rfl c20.2 c20.1 ?_
      obtain ⟨c21, h⟩ := grd h
      refine e_iastJ dX8_flows_26 k0_194 rfl c21.2 c21.1 ?_
      obtain ⟨v22, ev22, h⟩ := vlet_ex h
      refine e_nameV ev22.symm ?_
      clear ev22
      obtain ⟨x23, ex23, h⟩ := vlet_ex h
      refine e_iinc (lv' := [(2, .int x23), (0, .ref 174), (1, .int a1)]) dX8_flows_27 rfl (ex23.symm) (by decide) rfl ?_
      clear ex23
      refine e_goto (tgt := 5) dX8_flows_30 (by decide) ?_
      refine e_sub [1, 2, 0] rfl ?_
      exact ih v22 a1 x23 h
set_option maxRecDepth 20000 in
theorem x_X8_flows {X : Nat × (Nat → Int32)} {v : rV} {r : rV} {a1 : Int32}  (h : f_X8_flows v a1 = some r) : EvM mX8_flows 3 0 0 [.ref 174, .int a1] (rZ X) v (rPV X r) := by
  refine evm_of (by decide +kernel) (fun G => Nat.le_of_ble_eq_true rfl) ?_
  show Ev mX8_flows 3 0 0 0 [(0, .ref 174), (1, .int a1)] [] (rZ X) v _
  unfold f_X8_flows at h
  refine e_aload_n dX8_flows_0 rfl ?_
  refine e_get (w := .int (v.1 174 37)) (j := 37) dX8_flows_1 k0_174 rc8 (by decide) wfX8_288 rfl ?_
  obtain ⟨x1, ex1, h⟩ := vlet_ex h
  refine e_nameI ex1.symm ?_
  clear ex1
  refine e_istore_n (lv' := [(2, .int x1), (0, .ref 174), (1, .int a1)]) dX8_flows_4 (by decide) rfl ?_
  refine e_sub [1, 2, 0] rfl ?_
  exact b_X8_flows_5  _ v a1 x1 h
def f_X8_carry_226  (q5 : rV → Int32 → Option (rV)) (v : rV) (a1 : Int32) : Option (rV) := vlet (a1 + (1 : Int32)) fun x6 =>
  q5 v x6
def f_X8_carry_95  (q5 : rV → Int32 → Option (rV)) : Nat → rV → Int32 → Int32 → Int32 → Int32 → Int32 → Int32 → Option (rV)
  | 0, _, _, _, _, _, _, _ => none
  | n + 1, v, a1, a2, a3, a4, a6, a7 => if (2 : Int32) ≤ a7 then
  (f_X8_carry_226 q5 v a1)
else
  (if a2 = 0 then
  (f_X8_carry_226 q5 v a1)
else
  (if ¬ a3 < 0 ∧ a3.toNatClampNeg < 24 then
  (if (v.1 194 a3.toNatClampNeg) ≤ 0 then
  (f_X8_carry_226 q5 v a1)
else
  (if a6 = 0 then
  (if ¬ (((24 : Int32) + ((24 : Int32) * a7)) + a3) < 0 ∧ (((24 : Int32) + ((24 : Int32) * a7)) + a3).toNatClampNeg < 416 then
  (vlet (v.1 187 ((((24 : Int32) + ((24 : Int32) * a7)) + a3).toNatClampNeg) : Int32) fun x9 =>
  if ((v.1 194 a3.toNatClampNeg).toInt64) = 0 then none else
  vlet ((if ((x9.toInt64 * ((if 0 ≤ a2 then a2 else 0 - a2).toInt64)) / ((v.1 194 a3.toNatClampNeg).toInt64)) < x9.toInt64 then ((x9.toInt64 * ((if 0 ≤ a2 then a2 else 0 - a2).toInt64)) / ((v.1 194 a3.toNatClampNeg).toInt64)) else x9.toInt64).toInt32 : Int32) fun x10 =>
  (f_X8_of v (7 : Int32)).bind fun p11 =>
  vlet ((x10 * ((100 : Int32) - p11)) / (100 : Int32) : Int32) fun x12 =>
  vlet (((24 : Int32) + ((24 : Int32) * a7)) + a3 : Int32) fun x13 =>
  if ¬ x13 < 0 ∧ x13.toNatClampNeg < 416 then
  (vlet (rI v 187 x13.toNatClampNeg ((v.1 187 x13.toNatClampNeg) - x12)) fun v15 =>
  vlet (((24 : Int32) + ((24 : Int32) * a7)) + a4 : Int32) fun x16 =>
  if ¬ x16 < 0 ∧ x16.toNatClampNeg < 416 then
  (vlet (rI v15 187 x16.toNatClampNeg ((v15.1 187 x16.toNatClampNeg) + x12)) fun v18 =>
  vlet (a7 + (1 : Int32)) fun x19 =>
  f_X8_carry_95 q5 n v18 a1 a2 a3 a4 a6 x19)
else none)
else none)
else none)
else
  (f_X8_carry_226 q5 v a1)))
else none))
def f_X8_carry_90  (q5 : rV → Int32 → Option (rV)) (v : rV) (a1 : Int32) (a2 : Int32) (a3 : Int32) (a4 : Int32) (s0 : Int32) : Option (rV) := f_X8_carry_95 q5 20000 v a1 a2 a3 a4 s0 (0 : Int32)
def f_X8_carry_89  (q5 : rV → Int32 → Option (rV)) (v : rV) (a1 : Int32) (a2 : Int32) (a3 : Int32) (a4 : Int32) : Option (rV) := f_X8_carry_90 q5 v a1 a2 a3 a4 (0 : Int32)
def f_X8_carry_47  (q5 : rV → Int32 → Option (rV)) (v : rV) (a1 : Int32) (a2 : Int32) (a3 : Int32) (s0 : Int32) : Option (rV) := if ¬ ((48 : Int32) + a3) < 0 ∧ ((48 : Int32) + a3).toNatClampNeg < 416 then
  (vlet (v.1 187 (((48 : Int32) + a3).toNatClampNeg) : Int32) fun x5 =>
  if x5 ≤ 0 then
  (f_X8_carry_89 q5 v a1 a2 a3 s0)
else
  (if ¬ ((24 : Int32) + a3) < 0 ∧ ((24 : Int32) + a3).toNatClampNeg < 416 then
  (if ((10 : Int32) * x5) < (x5 + (v.1 187 (((24 : Int32) + a3).toNatClampNeg))) then
  (f_X8_carry_89 q5 v a1 a2 a3 s0)
else
  (f_X8_carry_90 q5 v a1 a2 a3 s0 (1 : Int32)))
else none))
else none
def f_X8_carry_35  (q5 : rV → Int32 → Option (rV)) (v : rV) (a1 : Int32) (a2 : Int32) (s0 : Int32) : Option (rV) := if a2 ≤ 0 then
  (f_X8_carry_47 q5 v a1 a2 s0 a1)
else
  (f_X8_carry_47 q5 v a1 a2 s0 (a1 + (1 : Int32)))
def f_X8_carry_5   : Nat → rV → Int32 → Option (rV)
  | 0, _, _ => none
  | n + 1, v, a1 => if (v.1 174 38) ≤ a1 then
  (some v)
else
  (if ¬ ((168 : Int32) + a1) < 0 ∧ ((168 : Int32) + a1).toNatClampNeg < 416 then
  (vlet (v.1 187 (((168 : Int32) + a1).toNatClampNeg) : Int32) fun x3 =>
  if x3 ≤ 0 then
  (f_X8_carry_35 (fun v a1 => f_X8_carry_5  n v a1) v a1 x3 (a1 + (1 : Int32)))
else
  (f_X8_carry_35 (fun v a1 => f_X8_carry_5  n v a1) v a1 x3 a1))
else none)
def f_X8_carry (v : rV)  : Option (rV) := vlet (v.1 174 37 : Int32) fun x1 =>
  f_X8_carry_5  20000 v x1
set_option maxRecDepth 20000 in
theorem b_X8_carry_226 {X : Nat × (Nat → Int32)} {r : rV} {v : rV} {q5 : rV → Int32 → Option (rV)} (hq5 : ∀ (v : rV) (a1 : Int32) , q5 v a1 = some r → Ev mX8_carry 2 0 0 5 [(0, .ref 174), (1, .int a1)] [] (rZ X) v (rPV X r)) {a1 : Int32}  (h : f_X8_carry_226 q5 v a1 = some r) : Ev mX8_carry 2 0 0 226 [(0, .ref 174), (1, .int a1)] [] (rZ X) v (rPV X r) := by
  unfold f_X8_carry_226 at h
  obtain ⟨x6, ex6, h⟩ := vlet_ex h
  refine e_iinc (lv' := [(1, .int x6), (0, .ref 174)]) dX8_carry_226 rfl (ex6.symm) (by decide) rfl ?_
  clear ex6
  refine e_goto (tgt := 5) dX8_carry_229 (by decide) ?_
  refine e_sub [1, 0] rfl ?_
  exact hq5 v x6 h
set_option maxRecDepth 20000 in
theorem b_X8_carry_95 {X : Nat × (Nat → Int32)} {r : rV} {q5 : rV → Int32 → Option (rV)} (hq5 : ∀ (v : rV) (a1 : Int32) , q5 v a1 = some r → Ev mX8_carry 2 0 0 5 [(0, .ref 174), (1, .int a1)] [] (rZ X) v (rPV X r)) : ∀ (n : Nat) (v : rV) (a1 : Int32) (a2 : Int32) (a3 : Int32) (a4 : Int32) (a6 : Int32) (a7 : Int32) , f_X8_carry_95  q5 n v a1 a2 a3 a4 a6 a7 = some r → Ev mX8_carry 2 0 0 95 [(0, .ref 174), (1, .int a1), (2, .int a2), (3, .int a3), (4, .int a4), (6, .int a6), (7, .int a7)] [] (rZ X) v (rPV X r) := by
  intro n
  induction n with
  | zero =>
    intros
    rename_i h
    cases h
  | succ n ih =>
    intro v a1 a2 a3 a4 a6 a7 h
    rw [f_X8_carry_95] at h
    refine e_iload dX8_carry_95 rfl ?_
    refine e_iconst (x := (2 : Int32)) dX8_carry_97 (by decide) ?_
    refine e_icmp_ge (tgt := 226) dX8_carry_98 (by decide) (fun c24 => ?_) (fun c24 => ?_)
    · rw [if_pos c24] at h
      refine e_sub [0, 1] rfl ?_
      exact b_X8_carry_226 hq5 h
    · rw [if_neg c24] at h
      refine e_iload_n dX8_carry_101 rfl ?_
      refine e_if_eq (tgt := 226) dX8_carry_102 (by decide) (fun c23 => ?_) (fun c23 => ?_)
      · rw [if_pos c23] at h
        refine e_sub [0, 1] rfl ?_
        exact b_X8_carry_226 hq5 h
      · rw [if_neg c23] at h
        refine e_aload_n dX8_carry_105 rfl ?_
        refine e_get (w := .ref 194) (j := 36) dX8_carry_106 k0_174 rc8 (by decide) wfX8_71 (g0_174_36) ?_
        refine e_iload_n dX8_carry_109 rfl ?_
        obtain ⟨c7, h⟩ := grd h
        refine e_ialdJ dX8_carry_110 k0_194 rfl c7.2 c7.1 ?_
        refine e_if_le (tgt := 226) dX8_carry_111 (by decide) (fun c22 => ?_) (fun c22 => ?_)
        · rw [if_pos c22] at h
          refine e_sub [0, 1] rfl ?_
          exact b_X8_carry_226 hq5 h
        · rw [if_neg c22] at h
          refine e_iload dX8_carry_114 rfl ?_
          refine e_if_ne (tgt := 226) dX8_carry_116 (by decide) (fun c21 => ?_) (fun c21 => ?_)
          · rw [if_neg c21] at h
            refine e_sub [0, 1] rfl ?_
            exact b_X8_carry_226 hq5 h
          · rw [if_pos c21] at h
            refine e_aload_n dX8_carry_119 rfl ?_
            refine e_get (w := .ref 187) (j := 24) dX8_carry_120 k0_174 rc8 (by decide) wfX8_50 (g0_174_24) ?_
            refine e_bipush (x := (24 : Int32)) dX8_carry_123 (by decide) ?_
            refine e_bipush (x := (24 : Int32)) dX8_carry_125 (by decide) ?_
            refine e_iload dX8_carry_127 rfl ?_
            refine e_imul dX8_carry_129 ?_
            refine e_iadd dX8_carry_130 ?_
            refine e_iload_n dX8_carry_131 rfl ?_
            refine e_iadd dX8_carry_132 ?_
            obtain ⟨c8, h⟩ := grd h
            refine e_ialdJ dX8_carry_133 k0_187 rfl c8.2 c8.1 ?_
            obtain ⟨x9, ex9, h⟩ := vlet_ex h
            refine e_nameI ex9.symm ?_
            clear ex9
            refine e_istore (lv' := [(8, .int x9), (0, .ref 174), (1, .int a1), (2, .int a2), (3, .int a3), (4, .int a4), (6, .int a6), (7, .int a7)]) dX8_carry_134 (by decide) rfl ?_
            refine e_iload dX8_carry_136 rfl ?_
            refine e_i2l dX8_carry_138 ?_
            refine e_iload dX8_carry_139 rfl ?_
            refine e_i2l dX8_carry_141 ?_
            refine e_iload_n dX8_carry_142 rfl ?_
            refine e_abs dX8_carry_143 wmX8_308 wmst_abs winimath wmcd_abs (by omega) (Nat.le_of_ble_eq_true rfl) ?_
            refine e_i2l dX8_carry_146 ?_
            refine e_lmul dX8_carry_147 ?_
            refine e_aload_n dX8_carry_148 rfl ?_
            refine e_get (w := .ref 194) (j := 36) dX8_carry_149 k0_174 rc8 (by decide) wfX8_71 (g0_174_36) ?_
            refine e_iload_n dX8_carry_152 rfl ?_
            refine e_ialdJ dX8_carry_153 k0_194 rfl (c7).2 (c7).1 ?_
            refine e_i2l dX8_carry_154 ?_
            obtain ⟨c20, h⟩ := grdn h
            refine e_ldiv dX8_carry_155 c20 ?_
            refine e_minl dX8_carry_156 wmX8_179 wmst_minl winimath wmcd_minl (by omega) (Nat.le_of_ble_eq_true rfl) ?_
            refine e_l2i dX8_carry_159 ?_
            obtain ⟨x10, ex10, h⟩ := vlet_ex h
            refine e_nameI ex10.symm ?_
            clear ex10
            refine e_istore (lv' := [(9, .int x10), (8, .int x9), (0, .ref 174), (1, .int a1), (2, .int a2), (3, .int a3), (4, .int a4), (6, .int a6), (7, .int a7)]) dX8_carry_160 (by decide) rfl ?_
            refine e_iload dX8_carry_162 rfl ?_
            refine e_bipush (x := (100 : Int32)) dX8_carry_164 (by decide) ?_
            refine e_aload_n dX8_carry_166 rfl ?_
            refine e_bipush (x := (7 : Int32)) dX8_carry_167 (by decide) ?_
            obtain ⟨p11, ep11, h⟩ := Option.bind_eq_some_iff.mp h
            refine c_VI (M' := mX8_of) [.int (7 : Int32)] dX8_carry_169 rfl wmX8_294 imX8_of seX8_of lkX8_of k0_174 rc8 (Nat.le_of_ble_eq_true rfl) ((x_X8_of  ep11).mono (by omega)) ?_
            refine e_isub dX8_carry_172 ?_
            refine e_imul dX8_carry_173 ?_
            refine e_bipush (x := (100 : Int32)) dX8_carry_174 (by decide) ?_
            refine e_idiv dX8_carry_176 (by decide) ?_
            obtain ⟨x12, ex12, h⟩ := vlet_ex h
            refine e_nameI ex12.symm ?_
            clear ex12
            refine e_istore (lv' := [(9, .int x12), (8, .int x9), (0, .ref 174), (1, .int a1), (2, .int a2), (3, .int a3), (4, .int a4), (6, .int a6), (7, .int a7)]) dX8_carry_177 (by decide) rfl ?_
            refine e_aload_n dX8_carry_179 rfl ?_
            refine e_get (w := .ref 187) (j := 24) dX8_carry_180 k0_174 rc8 (by decide) wfX8_50 (g0_174_24) ?_
            refine e_bipush (x := (24 : Int32)) dX8_carry_183 (by decide) ?_
            refine e_bipush (x := (24 : Int32)) dX8_carry_185 (by decide) ?_
            refine e_iload dX8_carry_187 rfl ?_
            refine e_imul dX8_carry_189 ?_
            refine e_iadd dX8_carry_190 ?_
            refine e_iload_n dX8_carry_191 rfl ?_
            refine e_iadd dX8_carry_192 ?_
            obtain ⟨x13, ex13, h⟩ := vlet_ex h
            refine e_nameI ex13.symm ?_
            clear ex13
            refine e_dup2 dX8_carry_193 rfl rfl ?_
            obtain ⟨c14, h⟩ := grd h
            refine e_ialdJ dX8_carry_194 k0_187 rfl c14.2 c14.1 ?_
            refine e_iload dX8_carry_195 rfl ?_
            refine e_isub dX8_carry_197 ?_
            refine e_iastJ dX8_carry_198 k0_187 rfl (c14).2 (c14).1 ?_
            obtain ⟨v15, ev15, h⟩ := vlet_ex h
            refine e_nameV ev15.symm ?_
            clear ev15
            refine e_aload_n dX8_carry_199 rfl ?_
            refine e_get (w := .ref 187) (j := 24) dX8_carry_200 k0_174 rc8 (by decide) wfX8_50 (g0_174_24) ?_
            refine e_bipush (x := (24 : Int32)) dX8_carry_203 (by decide) ?_
            refine e_bipush (x := (24 : Int32)) dX8_carry_205 (by decide) ?_
            refine e_iload dX8_carry_207 rfl ?_
            refine e_imul dX8_carry_209 ?_
            refine e_iadd dX8_carry_210 ?_
            refine e_iload dX8_carry_211 rfl ?_
            refine e_iadd dX8_carry_213 ?_
            obtain ⟨x16, ex16, h⟩ := vlet_ex h
            refine e_nameI ex16.symm ?_
            clear ex16
            refine e_dup2 dX8_carry_214 rfl rfl ?_
            obtain ⟨c17, h⟩ := grd h
            refine e_ialdJ dX8_carry_215 k0_187 rfl c17.2 c17.1 ?_
            refine e_iload dX8_carry_216 rfl ?_
            refine e_iadd dX8_carry_218 ?_
            refine e_iastJ dX8_carry_219 k0_187 rfl (c17).2 (c17).1 ?_
            obtain ⟨v18, ev18, h⟩ := vlet_ex h
            refine e_nameV ev18.symm ?_
            clear ev18
            obtain ⟨x19, ex19, h⟩ := vlet_ex h
            refine e_iinc (lv' := [(7, .int x19), (9, .int x12), (8, .int x9), (0, .ref 174), (1, .int a1), (2, .int a2), (3, .int a3), (4, .int a4), (6, .int a6)]) dX8_carry_220 rfl (ex19.symm) (by decide) rfl ?_
            clear ex19
            refine e_goto (tgt := 95) dX8_carry_223 (by decide) ?_
            refine e_sub [3, 4, 5, 6, 7, 8, 0] rfl ?_
            exact ih v18 a1 a2 a3 a4 a6 x19 h
set_option maxRecDepth 20000 in
theorem b_X8_carry_90 {X : Nat × (Nat → Int32)} {r : rV} {v : rV} {q5 : rV → Int32 → Option (rV)} (hq5 : ∀ (v : rV) (a1 : Int32) , q5 v a1 = some r → Ev mX8_carry 2 0 0 5 [(0, .ref 174), (1, .int a1)] [] (rZ X) v (rPV X r)) {a1 : Int32} {a2 : Int32} {a3 : Int32} {a4 : Int32} {s0 : Int32}  (h : f_X8_carry_90 q5 v a1 a2 a3 a4 s0 = some r) : Ev mX8_carry 2 0 0 90 [(0, .ref 174), (1, .int a1), (2, .int a2), (3, .int a3), (4, .int a4)] [.int s0] (rZ X) v (rPV X r) := by
  unfold f_X8_carry_90 at h
  refine e_istore (lv' := [(6, .int s0), (0, .ref 174), (1, .int a1), (2, .int a2), (3, .int a3), (4, .int a4)]) dX8_carry_90 (by decide) rfl ?_
  refine e_iconst (x := (0 : Int32)) dX8_carry_92 (by decide) ?_
  refine e_istore (lv' := [(7, .int (0 : Int32)), (6, .int s0), (0, .ref 174), (1, .int a1), (2, .int a2), (3, .int a3), (4, .int a4)]) dX8_carry_93 (by decide) rfl ?_
  refine e_sub [2, 3, 4, 5, 6, 1, 0] rfl ?_
  exact b_X8_carry_95 hq5 _ v a1 a2 a3 a4 s0 (0 : Int32) h
set_option maxRecDepth 20000 in
theorem b_X8_carry_89 {X : Nat × (Nat → Int32)} {r : rV} {v : rV} {q5 : rV → Int32 → Option (rV)} (hq5 : ∀ (v : rV) (a1 : Int32) , q5 v a1 = some r → Ev mX8_carry 2 0 0 5 [(0, .ref 174), (1, .int a1)] [] (rZ X) v (rPV X r)) {a1 : Int32} {a2 : Int32} {a3 : Int32} {a4 : Int32}  (h : f_X8_carry_89 q5 v a1 a2 a3 a4 = some r) : Ev mX8_carry 2 0 0 89 [(0, .ref 174), (1, .int a1), (2, .int a2), (3, .int a3), (4, .int a4)] [] (rZ X) v (rPV X r) := by
  unfold f_X8_carry_89 at h
  refine e_iconst (x := (0 : Int32)) dX8_carry_89 (by decide) ?_
  exact b_X8_carry_90 hq5 h
set_option maxRecDepth 20000 in
theorem b_X8_carry_47 {X : Nat × (Nat → Int32)} {r : rV} {v : rV} {q5 : rV → Int32 → Option (rV)} (hq5 : ∀ (v : rV) (a1 : Int32) , q5 v a1 = some r → Ev mX8_carry 2 0 0 5 [(0, .ref 174), (1, .int a1)] [] (rZ X) v (rPV X r)) {a1 : Int32} {a2 : Int32} {a3 : Int32} {s0 : Int32}  (h : f_X8_carry_47 q5 v a1 a2 a3 s0 = some r) : Ev mX8_carry 2 0 0 47 [(0, .ref 174), (1, .int a1), (2, .int a2), (3, .int a3)] [.int s0] (rZ X) v (rPV X r) := by
  unfold f_X8_carry_47 at h
  refine e_istore (lv' := [(4, .int s0), (0, .ref 174), (1, .int a1), (2, .int a2), (3, .int a3)]) dX8_carry_47 (by decide) rfl ?_
  refine e_aload_n dX8_carry_49 rfl ?_
  refine e_get (w := .ref 187) (j := 24) dX8_carry_50 k0_174 rc8 (by decide) wfX8_50 (g0_174_24) ?_
  refine e_bipush (x := (48 : Int32)) dX8_carry_53 (by decide) ?_
  refine e_iload_n dX8_carry_55 rfl ?_
  refine e_iadd dX8_carry_56 ?_
  obtain ⟨c4, h⟩ := grd h
  refine e_ialdJ dX8_carry_57 k0_187 rfl c4.2 c4.1 ?_
  obtain ⟨x5, ex5, h⟩ := vlet_ex h
  refine e_nameI ex5.symm ?_
  clear ex5
  refine e_istore (lv' := [(5, .int x5), (4, .int s0), (0, .ref 174), (1, .int a1), (2, .int a2), (3, .int a3)]) dX8_carry_58 (by decide) rfl ?_
  refine e_iload dX8_carry_60 rfl ?_
  refine e_if_le (tgt := 89) dX8_carry_62 (by decide) (fun c27 => ?_) (fun c27 => ?_)
  · rw [if_pos c27] at h
    refine e_sub [2, 3, 4, 5, 1] rfl ?_
    exact b_X8_carry_89 hq5 h
  · rw [if_neg c27] at h
    refine e_bipush (x := (10 : Int32)) dX8_carry_65 (by decide) ?_
    refine e_iload dX8_carry_67 rfl ?_
    refine e_imul dX8_carry_69 ?_
    refine e_iload dX8_carry_70 rfl ?_
    refine e_aload_n dX8_carry_72 rfl ?_
    refine e_get (w := .ref 187) (j := 24) dX8_carry_73 k0_174 rc8 (by decide) wfX8_50 (g0_174_24) ?_
    refine e_bipush (x := (24 : Int32)) dX8_carry_76 (by decide) ?_
    refine e_iload_n dX8_carry_78 rfl ?_
    refine e_iadd dX8_carry_79 ?_
    obtain ⟨c25, h⟩ := grd h
    refine e_ialdJ dX8_carry_80 k0_187 rfl c25.2 c25.1 ?_
    refine e_iadd dX8_carry_81 ?_
    refine e_icmp_lt (tgt := 89) dX8_carry_82 (by decide) (fun c26 => ?_) (fun c26 => ?_)
    · rw [if_pos c26] at h
      refine e_sub [2, 3, 4, 5, 1] rfl ?_
      exact b_X8_carry_89 hq5 h
    · rw [if_neg c26] at h
      refine e_iconst (x := (1 : Int32)) dX8_carry_85 (by decide) ?_
      refine e_goto (tgt := 90) dX8_carry_86 (by decide) ?_
      refine e_sub [2, 3, 4, 5, 1] rfl ?_
      exact b_X8_carry_90 hq5 h
set_option maxRecDepth 20000 in
theorem b_X8_carry_35 {X : Nat × (Nat → Int32)} {r : rV} {v : rV} {q5 : rV → Int32 → Option (rV)} (hq5 : ∀ (v : rV) (a1 : Int32) , q5 v a1 = some r → Ev mX8_carry 2 0 0 5 [(0, .ref 174), (1, .int a1)] [] (rZ X) v (rPV X r)) {a1 : Int32} {a2 : Int32} {s0 : Int32}  (h : f_X8_carry_35 q5 v a1 a2 s0 = some r) : Ev mX8_carry 2 0 0 35 [(0, .ref 174), (1, .int a1), (2, .int a2)] [.int s0] (rZ X) v (rPV X r) := by
  unfold f_X8_carry_35 at h
  refine e_istore_n (lv' := [(3, .int s0), (0, .ref 174), (1, .int a1), (2, .int a2)]) dX8_carry_35 (by decide) rfl ?_
  refine e_iload_n dX8_carry_36 rfl ?_
  refine e_if_le (tgt := 46) dX8_carry_37 (by decide) (fun c28 => ?_) (fun c28 => ?_)
  · rw [if_pos c28] at h
    refine e_iload_n dX8_carry_46 rfl ?_
    refine e_sub [1, 2, 3, 0] rfl ?_
    exact b_X8_carry_47 hq5 h
  · rw [if_neg c28] at h
    refine e_iload_n dX8_carry_40 rfl ?_
    refine e_iconst (x := (1 : Int32)) dX8_carry_41 (by decide) ?_
    refine e_iadd dX8_carry_42 ?_
    refine e_goto (tgt := 47) dX8_carry_43 (by decide) ?_
    refine e_sub [1, 2, 3, 0] rfl ?_
    exact b_X8_carry_47 hq5 h
set_option maxRecDepth 20000 in
theorem b_X8_carry_5 {X : Nat × (Nat → Int32)} {r : rV}   : ∀ (n : Nat) (v : rV) (a1 : Int32) , f_X8_carry_5   n v a1 = some r → Ev mX8_carry 2 0 0 5 [(0, .ref 174), (1, .int a1)] [] (rZ X) v (rPV X r) := by
  intro n
  induction n with
  | zero =>
    intros
    rename_i h
    cases h
  | succ n ih =>
    intro v a1 h
    rw [f_X8_carry_5] at h
    refine e_iload_n dX8_carry_5 rfl ?_
    refine e_aload_n dX8_carry_6 rfl ?_
    refine e_get (w := .int (v.1 174 38)) (j := 38) dX8_carry_7 k0_174 rc8 (by decide) wfX8_291 rfl ?_
    refine e_icmp_ge (tgt := 232) dX8_carry_10 (by decide) (fun c30 => ?_) (fun c30 => ?_)
    · rw [if_pos c30] at h
      obtain rfl := Option.some.inj h
      exact e_ret dX8_carry_232 rfl ⟨rfl, rfl, rfl⟩
    · rw [if_neg c30] at h
      refine e_aload_n dX8_carry_13 rfl ?_
      refine e_get (w := .ref 187) (j := 24) dX8_carry_14 k0_174 rc8 (by decide) wfX8_50 (g0_174_24) ?_
      refine e_sipush (x := (168 : Int32)) dX8_carry_17 (by decide) ?_
      refine e_iload_n dX8_carry_20 rfl ?_
      refine e_iadd dX8_carry_21 ?_
      obtain ⟨c2, h⟩ := grd h
      refine e_ialdJ dX8_carry_22 k0_187 rfl c2.2 c2.1 ?_
      obtain ⟨x3, ex3, h⟩ := vlet_ex h
      refine e_nameI ex3.symm ?_
      clear ex3
      refine e_istore_n (lv' := [(2, .int x3), (0, .ref 174), (1, .int a1)]) dX8_carry_23 (by decide) rfl ?_
      refine e_iload_n dX8_carry_24 rfl ?_
      refine e_if_le (tgt := 32) dX8_carry_25 (by decide) (fun c29 => ?_) (fun c29 => ?_)
      · rw [if_pos c29] at h
        refine e_iload_n dX8_carry_32 rfl ?_
        refine e_iconst (x := (1 : Int32)) dX8_carry_33 (by decide) ?_
        refine e_iadd dX8_carry_34 ?_
        refine e_sub [1, 2, 0] rfl ?_
        exact b_X8_carry_35 (fun v a1  hh => ih v a1  hh) h
      · rw [if_neg c29] at h
        refine e_iload_n dX8_carry_28 rfl ?_
        refine e_goto (tgt := 35) dX8_carry_29 (by decide) ?_
        refine e_sub [1, 2, 0] rfl ?_
        exact b_X8_carry_35 (fun v a1  hh => ih v a1  hh) h
set_option maxRecDepth 20000 in
theorem x_X8_carry {X : Nat × (Nat → Int32)} {v : rV} {r : rV}   (h : f_X8_carry v = some r) : EvM mX8_carry 2 0 0 [.ref 174] (rZ X) v (rPV X r) := by
  refine evm_of (by decide +kernel) (fun G => Nat.le_of_ble_eq_true rfl) ?_
  show Ev mX8_carry 2 0 0 0 [(0, .ref 174)] [] (rZ X) v _
  unfold f_X8_carry at h
  refine e_aload_n dX8_carry_0 rfl ?_
  refine e_get (w := .int (v.1 174 37)) (j := 37) dX8_carry_1 k0_174 rc8 (by decide) wfX8_288 rfl ?_
  obtain ⟨x1, ex1, h⟩ := vlet_ex h
  refine e_nameI ex1.symm ?_
  clear ex1
  refine e_istore_n (lv' := [(1, .int x1), (0, .ref 174)]) dX8_carry_4 (by decide) rfl ?_
  refine e_sub [1, 0] rfl ?_
  exact b_X8_carry_5  _ v x1 h
def f_X8_stir_15  (q5 : rV → Int32 → Option (rV)) : Nat → rV → Int32 → Int32 → Option (rV)
  | 0, _, _, _ => none
  | n + 1, v, a1, a2 => if (2 : Int32) ≤ a2 then
  (vlet (a1 + (1 : Int32)) fun x2 =>
  q5 v x2)
else
  (vlet (((24 : Int32) + ((24 : Int32) * a2)) + a1 : Int32) fun x3 =>
  if ¬ x3 < 0 ∧ x3.toNatClampNeg < 416 then
  (if ¬ (x3 + (1 : Int32)) < 0 ∧ (x3 + (1 : Int32)).toNatClampNeg < 416 then
  (vlet (((v.1 187 x3.toNatClampNeg) - (v.1 187 ((x3 + (1 : Int32)).toNatClampNeg))) / (2 : Int32) : Int32) fun x6 =>
  vlet (rI v 187 x3.toNatClampNeg ((v.1 187 x3.toNatClampNeg) - x6)) fun v7 =>
  vlet (x3 + (1 : Int32) : Int32) fun x8 =>
  if ¬ x8 < 0 ∧ x8.toNatClampNeg < 416 then
  (vlet (rI v7 187 x8.toNatClampNeg ((v7.1 187 x8.toNatClampNeg) + x6)) fun v10 =>
  vlet (a2 + (1 : Int32)) fun x11 =>
  f_X8_stir_15 q5 n v10 a1 x11)
else none)
else none)
else none)
def f_X8_stir_5   : Nat → rV → Int32 → Option (rV)
  | 0, _, _ => none
  | n + 1, v, a1 => if (v.1 174 38) ≤ a1 then
  (some v)
else
  (f_X8_stir_15 (fun v a1 => f_X8_stir_5  n v a1) 20000 v a1 (0 : Int32))
def f_X8_stir (v : rV)  : Option (rV) := vlet (v.1 174 37 : Int32) fun x1 =>
  f_X8_stir_5  20000 v x1
set_option maxRecDepth 20000 in
theorem b_X8_stir_15 {X : Nat × (Nat → Int32)} {r : rV} {q5 : rV → Int32 → Option (rV)} (hq5 : ∀ (v : rV) (a1 : Int32) , q5 v a1 = some r → Ev mX8_stir 1 0 0 5 [(0, .ref 174), (1, .int a1)] [] (rZ X) v (rPV X r)) : ∀ (n : Nat) (v : rV) (a1 : Int32) (a2 : Int32) , f_X8_stir_15  q5 n v a1 a2 = some r → Ev mX8_stir 1 0 0 15 [(0, .ref 174), (1, .int a1), (2, .int a2)] [] (rZ X) v (rPV X r) := by
  intro n
  induction n with
  | zero =>
    intros
    rename_i h
    cases h
  | succ n ih =>
    intro v a1 a2 h
    rw [f_X8_stir_15] at h
    refine e_iload_n dX8_stir_15 rfl ?_
    refine e_iconst (x := (2 : Int32)) dX8_stir_16 (by decide) ?_
    refine e_icmp_ge (tgt := 79) dX8_stir_17 (by decide) (fun c12 => ?_) (fun c12 => ?_)
    · rw [if_pos c12] at h
      obtain ⟨x2, ex2, h⟩ := vlet_ex h
      refine e_iinc (lv' := [(1, .int x2), (0, .ref 174), (2, .int a2)]) dX8_stir_79 rfl (ex2.symm) (by decide) rfl ?_
      clear ex2
      refine e_goto (tgt := 5) dX8_stir_82 (by decide) ?_
      refine e_sub [1, 0] rfl ?_
      exact hq5 v x2 h
    · rw [if_neg c12] at h
      refine e_bipush (x := (24 : Int32)) dX8_stir_20 (by decide) ?_
      refine e_bipush (x := (24 : Int32)) dX8_stir_22 (by decide) ?_
      refine e_iload_n dX8_stir_24 rfl ?_
      refine e_imul dX8_stir_25 ?_
      refine e_iadd dX8_stir_26 ?_
      refine e_iload_n dX8_stir_27 rfl ?_
      refine e_iadd dX8_stir_28 ?_
      obtain ⟨x3, ex3, h⟩ := vlet_ex h
      refine e_nameI ex3.symm ?_
      clear ex3
      refine e_istore_n (lv' := [(3, .int x3), (0, .ref 174), (1, .int a1), (2, .int a2)]) dX8_stir_29 (by decide) rfl ?_
      refine e_aload_n dX8_stir_30 rfl ?_
      refine e_get (w := .ref 187) (j := 24) dX8_stir_31 k0_174 rc8 (by decide) wfX8_50 (g0_174_24) ?_
      refine e_iload_n dX8_stir_34 rfl ?_
      obtain ⟨c4, h⟩ := grd h
      refine e_ialdJ dX8_stir_35 k0_187 rfl c4.2 c4.1 ?_
      refine e_aload_n dX8_stir_36 rfl ?_
      refine e_get (w := .ref 187) (j := 24) dX8_stir_37 k0_174 rc8 (by decide) wfX8_50 (g0_174_24) ?_
      refine e_iload_n dX8_stir_40 rfl ?_
      refine e_iconst (x := (1 : Int32)) dX8_stir_41 (by decide) ?_
      refine e_iadd dX8_stir_42 ?_
      obtain ⟨c5, h⟩ := grd h
      refine e_ialdJ dX8_stir_43 k0_187 rfl c5.2 c5.1 ?_
      refine e_isub dX8_stir_44 ?_
      refine e_iconst (x := (2 : Int32)) dX8_stir_45 (by decide) ?_
      refine e_idiv dX8_stir_46 (by decide) ?_
      obtain ⟨x6, ex6, h⟩ := vlet_ex h
      refine e_nameI ex6.symm ?_
      clear ex6
      refine e_istore (lv' := [(4, .int x6), (3, .int x3), (0, .ref 174), (1, .int a1), (2, .int a2)]) dX8_stir_47 (by decide) rfl ?_
      refine e_aload_n dX8_stir_49 rfl ?_
      refine e_get (w := .ref 187) (j := 24) dX8_stir_50 k0_174 rc8 (by decide) wfX8_50 (g0_174_24) ?_
      refine e_iload_n dX8_stir_53 rfl ?_
      refine e_dup2 dX8_stir_54 rfl rfl ?_
      refine e_ialdJ dX8_stir_55 k0_187 rfl (c4).2 (c4).1 ?_
      refine e_iload dX8_stir_56 rfl ?_
      refine e_isub dX8_stir_58 ?_
      refine e_iastJ dX8_stir_59 k0_187 rfl (c4).2 (c4).1 ?_
      obtain ⟨v7, ev7, h⟩ := vlet_ex h
      refine e_nameV ev7.symm ?_
      clear ev7
      refine e_aload_n dX8_stir_60 rfl ?_
      refine e_get (w := .ref 187) (j := 24) dX8_stir_61 k0_174 rc8 (by decide) wfX8_50 (g0_174_24) ?_
      refine e_iload_n dX8_stir_64 rfl ?_
      refine e_iconst (x := (1 : Int32)) dX8_stir_65 (by decide) ?_
      refine e_iadd dX8_stir_66 ?_
      obtain ⟨x8, ex8, h⟩ := vlet_ex h
      refine e_nameI ex8.symm ?_
      clear ex8
      refine e_dup2 dX8_stir_67 rfl rfl ?_
      obtain ⟨c9, h⟩ := grd h
      refine e_ialdJ dX8_stir_68 k0_187 rfl c9.2 c9.1 ?_
      refine e_iload dX8_stir_69 rfl ?_
      refine e_iadd dX8_stir_71 ?_
      refine e_iastJ dX8_stir_72 k0_187 rfl (c9).2 (c9).1 ?_
      obtain ⟨v10, ev10, h⟩ := vlet_ex h
      refine e_nameV ev10.symm ?_
      clear ev10
      obtain ⟨x11, ex11, h⟩ := vlet_ex h
      refine e_iinc (lv' := [(2, .int x11), (4, .int x6), (3, .int x3), (0, .ref 174), (1, .int a1)]) dX8_stir_73 rfl (ex11.symm) (by decide) rfl ?_
      clear ex11
      refine e_goto (tgt := 15) dX8_stir_76 (by decide) ?_
      refine e_sub [3, 4, 0] rfl ?_
      exact ih v10 a1 x11 h
set_option maxRecDepth 20000 in
theorem b_X8_stir_5 {X : Nat × (Nat → Int32)} {r : rV}   : ∀ (n : Nat) (v : rV) (a1 : Int32) , f_X8_stir_5   n v a1 = some r → Ev mX8_stir 1 0 0 5 [(0, .ref 174), (1, .int a1)] [] (rZ X) v (rPV X r) := by
  intro n
  induction n with
  | zero =>
    intros
    rename_i h
    cases h
  | succ n ih =>
    intro v a1 h
    rw [f_X8_stir_5] at h
    refine e_iload_n dX8_stir_5 rfl ?_
    refine e_aload_n dX8_stir_6 rfl ?_
    refine e_get (w := .int (v.1 174 38)) (j := 38) dX8_stir_7 k0_174 rc8 (by decide) wfX8_291 rfl ?_
    refine e_icmp_ge (tgt := 85) dX8_stir_10 (by decide) (fun c13 => ?_) (fun c13 => ?_)
    · rw [if_pos c13] at h
      obtain rfl := Option.some.inj h
      exact e_ret dX8_stir_85 rfl ⟨rfl, rfl, rfl⟩
    · rw [if_neg c13] at h
      refine e_iconst (x := (0 : Int32)) dX8_stir_13 (by decide) ?_
      refine e_istore_n (lv' := [(2, .int (0 : Int32)), (0, .ref 174), (1, .int a1)]) dX8_stir_14 (by decide) rfl ?_
      refine e_sub [1, 2, 0] rfl ?_
      exact b_X8_stir_15 (fun v a1  hh => ih v a1  hh) _ v a1 (0 : Int32) h
set_option maxRecDepth 20000 in
theorem x_X8_stir {X : Nat × (Nat → Int32)} {v : rV} {r : rV}   (h : f_X8_stir v = some r) : EvM mX8_stir 1 0 0 [.ref 174] (rZ X) v (rPV X r) := by
  refine evm_of (by decide +kernel) (fun G => Nat.le_of_ble_eq_true rfl) ?_
  show Ev mX8_stir 1 0 0 0 [(0, .ref 174)] [] (rZ X) v _
  unfold f_X8_stir at h
  refine e_aload_n dX8_stir_0 rfl ?_
  refine e_get (w := .int (v.1 174 37)) (j := 37) dX8_stir_1 k0_174 rc8 (by decide) wfX8_288 rfl ?_
  obtain ⟨x1, ex1, h⟩ := vlet_ex h
  refine e_nameI ex1.symm ?_
  clear ex1
  refine e_istore_n (lv' := [(1, .int x1), (0, .ref 174)]) dX8_stir_4 (by decide) rfl ?_
  refine e_sub [1, 0] rfl ?_
  exact b_X8_stir_5  _ v x1 h
def f_X8_draw (v : rV)  : Option (Int32 × rV) := vlet (rL v 174 27 (((v.2.1 174 27) * (6364136223846793005 : Int64)) + (1442695040888963407 : Int64))) fun v1 =>
  some (((((v1.2.1 174 27).toUInt64 >>> ((33 : Int32).toInt64.toUInt64 &&& Int64.toUInt64 63)).toInt64) - (((v1.2.1 174 27).toUInt64 >>> ((33 : Int32).toInt64.toUInt64 &&& Int64.toUInt64 63)).toInt64) / (4 : Int64) * (4 : Int64)).toInt32, v1)
set_option maxRecDepth 20000 in
theorem x_X8_draw {X : Nat × (Nat → Int32)} {v : rV} {r : Int32 × rV}   (h : f_X8_draw v = some r) : EvM mX8_draw 1 0 0 [.ref 174] (rZ X) v (rPI X r) := by
  refine evm_of (by decide +kernel) (fun G => Nat.le_of_ble_eq_true rfl) ?_
  show Ev mX8_draw 1 0 0 0 [(0, .ref 174)] [] (rZ X) v _
  unfold f_X8_draw at h
  refine e_aload_n dX8_draw_0 rfl ?_
  refine e_aload_n dX8_draw_1 rfl ?_
  refine e_get (w := .long (v.2.1 174 27)) (j := 27) dX8_draw_2 k0_174 rc8 (by decide) wfX8_254 rfl ?_
  refine e_ldc2 dX8_draw_5 wcX8_311 ?_
  refine e_lmul dX8_draw_8 ?_
  refine e_ldc2 dX8_draw_9 wcX8_313 ?_
  refine e_ladd dX8_draw_12 ?_
  refine e_putL (j := 27) dX8_draw_13 k0_174 rc8 (by decide) wfX8_254 rfl rfl ?_
  obtain ⟨v1, ev1, h⟩ := vlet_ex h
  refine e_nameV ev1.symm ?_
  clear ev1
  refine e_aload_n dX8_draw_16 rfl ?_
  refine e_get (w := .long (v1.2.1 174 27)) (j := 27) dX8_draw_17 k0_174 rc8 (by decide) wfX8_254 rfl ?_
  refine e_bipush (x := (33 : Int32)) dX8_draw_20 (by decide) ?_
  refine e_lushr dX8_draw_22 ?_
  refine e_ldc2 dX8_draw_23 wcX8_315 ?_
  refine e_lrem dX8_draw_26 (by decide) ?_
  refine e_l2i dX8_draw_27 ?_
  obtain rfl := Option.some.inj h
  exact e_iret dX8_draw_28 rfl rfl ⟨rfl, rfl, rfl⟩
def f_X8_wander_96  (q5 : rV → Int32 → Option (rV)) (v : rV) (a1 : Int32) : Option (rV) := vlet (a1 + (1 : Int32)) fun x4 =>
  q5 v x4
def f_X8_wander_41  (q5 : rV → Int32 → Option (rV)) (v : rV) (a1 : Int32) (s0 : Int32) : Option (rV) := if ¬ ((24 : Int32) + a1) < 0 ∧ ((24 : Int32) + a1).toNatClampNeg < 416 then
  (if (v.1 187 (((24 : Int32) + a1).toNatClampNeg)) ≤ 0 then
  (f_X8_wander_96 q5 v a1)
else
  (if s0 < (v.1 174 37) then
  (f_X8_wander_96 q5 v a1)
else
  (if (v.1 174 38) < s0 then
  (f_X8_wander_96 q5 v a1)
else
  (vlet ((24 : Int32) + a1 : Int32) fun x5 =>
  if ¬ x5 < 0 ∧ x5.toNatClampNeg < 416 then
  (vlet (rI v 187 x5.toNatClampNeg ((v.1 187 x5.toNatClampNeg) - (1 : Int32))) fun v7 =>
  vlet ((24 : Int32) + s0 : Int32) fun x8 =>
  if ¬ x8 < 0 ∧ x8.toNatClampNeg < 416 then
  (vlet (rI v7 187 x8.toNatClampNeg ((v7.1 187 x8.toNatClampNeg) + (1 : Int32))) fun v10 =>
  f_X8_wander_96 q5 v10 a1)
else none)
else none))))
else none
def f_X8_wander_5   : Nat → rV → Int32 → Option (rV)
  | 0, _, _ => none
  | n + 1, v, a1 => if (v.1 174 38) < a1 then
  (some v)
else
  ((f_X8_draw v).bind fun p2 =>
  if p2.1 = (1 : Int32) then
  (f_X8_wander_41 (fun v a1 => f_X8_wander_5  n v a1) p2.2 a1 (a1 - (1 : Int32)))
else
  (if p2.1 = (2 : Int32) then
  (f_X8_wander_41 (fun v a1 => f_X8_wander_5  n v a1) p2.2 a1 (a1 + (1 : Int32)))
else
  (f_X8_wander_41 (fun v a1 => f_X8_wander_5  n v a1) p2.2 a1 a1)))
def f_X8_wander (v : rV)  : Option (rV) := vlet (v.1 174 37 : Int32) fun x1 =>
  f_X8_wander_5  20000 v x1
set_option maxRecDepth 20000 in
theorem b_X8_wander_96 {X : Nat × (Nat → Int32)} {r : rV} {v : rV} {q5 : rV → Int32 → Option (rV)} (hq5 : ∀ (v : rV) (a1 : Int32) , q5 v a1 = some r → Ev mX8_wander 2 0 0 5 [(0, .ref 174), (1, .int a1)] [] (rZ X) v (rPV X r)) {a1 : Int32}  (h : f_X8_wander_96 q5 v a1 = some r) : Ev mX8_wander 2 0 0 96 [(0, .ref 174), (1, .int a1)] [] (rZ X) v (rPV X r) := by
  unfold f_X8_wander_96 at h
  obtain ⟨x4, ex4, h⟩ := vlet_ex h
  refine e_iinc (lv' := [(1, .int x4), (0, .ref 174)]) dX8_wander_96 rfl (ex4.symm) (by decide) rfl ?_
  clear ex4
  refine e_goto (tgt := 5) dX8_wander_99 (by decide) ?_
  refine e_sub [1, 0] rfl ?_
  exact hq5 v x4 h
set_option maxRecDepth 20000 in
theorem b_X8_wander_41 {X : Nat × (Nat → Int32)} {r : rV} {v : rV} {q5 : rV → Int32 → Option (rV)} (hq5 : ∀ (v : rV) (a1 : Int32) , q5 v a1 = some r → Ev mX8_wander 2 0 0 5 [(0, .ref 174), (1, .int a1)] [] (rZ X) v (rPV X r)) {a1 : Int32} {s0 : Int32}  (h : f_X8_wander_41 q5 v a1 s0 = some r) : Ev mX8_wander 2 0 0 41 [(0, .ref 174), (1, .int a1)] [.int s0] (rZ X) v (rPV X r) := by
  unfold f_X8_wander_41 at h
  refine e_istore_n (lv' := [(3, .int s0), (0, .ref 174), (1, .int a1)]) dX8_wander_41 (by decide) rfl ?_
  refine e_aload_n dX8_wander_42 rfl ?_
  refine e_get (w := .ref 187) (j := 24) dX8_wander_43 k0_174 rc8 (by decide) wfX8_50 (g0_174_24) ?_
  refine e_bipush (x := (24 : Int32)) dX8_wander_46 (by decide) ?_
  refine e_iload_n dX8_wander_48 rfl ?_
  refine e_iadd dX8_wander_49 ?_
  obtain ⟨c3, h⟩ := grd h
  refine e_ialdJ dX8_wander_50 k0_187 rfl c3.2 c3.1 ?_
  refine e_if_le (tgt := 96) dX8_wander_51 (by decide) (fun c13 => ?_) (fun c13 => ?_)
  · rw [if_pos c13] at h
    refine e_sub [1, 2] rfl ?_
    exact b_X8_wander_96 hq5 h
  · rw [if_neg c13] at h
    refine e_iload_n dX8_wander_54 rfl ?_
    refine e_aload_n dX8_wander_55 rfl ?_
    refine e_get (w := .int (v.1 174 37)) (j := 37) dX8_wander_56 k0_174 rc8 (by decide) wfX8_288 rfl ?_
    refine e_icmp_lt (tgt := 96) dX8_wander_59 (by decide) (fun c12 => ?_) (fun c12 => ?_)
    · rw [if_pos c12] at h
      refine e_sub [1, 2] rfl ?_
      exact b_X8_wander_96 hq5 h
    · rw [if_neg c12] at h
      refine e_iload_n dX8_wander_62 rfl ?_
      refine e_aload_n dX8_wander_63 rfl ?_
      refine e_get (w := .int (v.1 174 38)) (j := 38) dX8_wander_64 k0_174 rc8 (by decide) wfX8_291 rfl ?_
      refine e_icmp_gt (tgt := 96) dX8_wander_67 (by decide) (fun c11 => ?_) (fun c11 => ?_)
      · rw [if_pos c11] at h
        refine e_sub [1, 2] rfl ?_
        exact b_X8_wander_96 hq5 h
      · rw [if_neg c11] at h
        refine e_aload_n dX8_wander_70 rfl ?_
        refine e_get (w := .ref 187) (j := 24) dX8_wander_71 k0_174 rc8 (by decide) wfX8_50 (g0_174_24) ?_
        refine e_bipush (x := (24 : Int32)) dX8_wander_74 (by decide) ?_
        refine e_iload_n dX8_wander_76 rfl ?_
        refine e_iadd dX8_wander_77 ?_
        obtain ⟨x5, ex5, h⟩ := vlet_ex h
        refine e_nameI ex5.symm ?_
        clear ex5
        refine e_dup2 dX8_wander_78 rfl rfl ?_
        obtain ⟨c6, h⟩ := grd h
        refine e_ialdJ dX8_wander_79 k0_187 rfl c6.2 c6.1 ?_
        refine e_iconst (x := (1 : Int32)) dX8_wander_80 (by decide) ?_
        refine e_isub dX8_wander_81 ?_
        refine e_iastJ dX8_wander_82 k0_187 rfl (c6).2 (c6).1 ?_
        obtain ⟨v7, ev7, h⟩ := vlet_ex h
        refine e_nameV ev7.symm ?_
        clear ev7
        refine e_aload_n dX8_wander_83 rfl ?_
        refine e_get (w := .ref 187) (j := 24) dX8_wander_84 k0_174 rc8 (by decide) wfX8_50 (g0_174_24) ?_
        refine e_bipush (x := (24 : Int32)) dX8_wander_87 (by decide) ?_
        refine e_iload_n dX8_wander_89 rfl ?_
        refine e_iadd dX8_wander_90 ?_
        obtain ⟨x8, ex8, h⟩ := vlet_ex h
        refine e_nameI ex8.symm ?_
        clear ex8
        refine e_dup2 dX8_wander_91 rfl rfl ?_
        obtain ⟨c9, h⟩ := grd h
        refine e_ialdJ dX8_wander_92 k0_187 rfl c9.2 c9.1 ?_
        refine e_iconst (x := (1 : Int32)) dX8_wander_93 (by decide) ?_
        refine e_iadd dX8_wander_94 ?_
        refine e_iastJ dX8_wander_95 k0_187 rfl (c9).2 (c9).1 ?_
        obtain ⟨v10, ev10, h⟩ := vlet_ex h
        refine e_nameV ev10.symm ?_
        clear ev10
        refine e_sub [1, 2] rfl ?_
        exact b_X8_wander_96 hq5 h
set_option maxRecDepth 20000 in
theorem b_X8_wander_5 {X : Nat × (Nat → Int32)} {r : rV}   : ∀ (n : Nat) (v : rV) (a1 : Int32) , f_X8_wander_5   n v a1 = some r → Ev mX8_wander 2 0 0 5 [(0, .ref 174), (1, .int a1)] [] (rZ X) v (rPV X r) := by
  intro n
  induction n with
  | zero =>
    intros
    rename_i h
    cases h
  | succ n ih =>
    intro v a1 h
    rw [f_X8_wander_5] at h
    refine e_iload_n dX8_wander_5 rfl ?_
    refine e_aload_n dX8_wander_6 rfl ?_
    refine e_get (w := .int (v.1 174 38)) (j := 38) dX8_wander_7 k0_174 rc8 (by decide) wfX8_291 rfl ?_
    refine e_icmp_gt (tgt := 102) dX8_wander_10 (by decide) (fun c16 => ?_) (fun c16 => ?_)
    · rw [if_pos c16] at h
      obtain rfl := Option.some.inj h
      exact e_ret dX8_wander_102 rfl ⟨rfl, rfl, rfl⟩
    · rw [if_neg c16] at h
      refine e_aload_n dX8_wander_13 rfl ?_
      obtain ⟨p2, ep2, h⟩ := Option.bind_eq_some_iff.mp h
      refine c_VI (M' := mX8_draw) [] dX8_wander_14 rfl wmX8_317 imX8_draw seX8_draw lkX8_draw k0_174 rc8 (Nat.le_of_ble_eq_true rfl) ((x_X8_draw  ep2).mono (by omega)) ?_
      refine e_istore_n (lv' := [(2, .int p2.1), (0, .ref 174), (1, .int a1)]) dX8_wander_17 (by decide) rfl ?_
      refine e_iload_n dX8_wander_18 rfl ?_
      refine e_iconst (x := (1 : Int32)) dX8_wander_19 (by decide) ?_
      refine e_icmp_ne (tgt := 29) dX8_wander_20 (by decide) (fun c15 => ?_) (fun c15 => ?_)
      · rw [if_neg c15] at h
        refine e_iload_n dX8_wander_29 rfl ?_
        refine e_iconst (x := (2 : Int32)) dX8_wander_30 (by decide) ?_
        refine e_icmp_ne (tgt := 40) dX8_wander_31 (by decide) (fun c14 => ?_) (fun c14 => ?_)
        · rw [if_neg c14] at h
          refine e_iload_n dX8_wander_40 rfl ?_
          refine e_sub [1, 2] rfl ?_
          exact b_X8_wander_41 (fun v a1  hh => ih v a1  hh) h
        · rw [if_pos c14] at h
          refine e_iload_n dX8_wander_34 rfl ?_
          refine e_iconst (x := (1 : Int32)) dX8_wander_35 (by decide) ?_
          refine e_iadd dX8_wander_36 ?_
          refine e_goto (tgt := 41) dX8_wander_37 (by decide) ?_
          refine e_sub [1, 2] rfl ?_
          exact b_X8_wander_41 (fun v a1  hh => ih v a1  hh) h
      · rw [if_pos c15] at h
        refine e_iload_n dX8_wander_23 rfl ?_
        refine e_iconst (x := (1 : Int32)) dX8_wander_24 (by decide) ?_
        refine e_isub dX8_wander_25 ?_
        refine e_goto (tgt := 41) dX8_wander_26 (by decide) ?_
        refine e_sub [1, 2] rfl ?_
        exact b_X8_wander_41 (fun v a1  hh => ih v a1  hh) h
set_option maxRecDepth 20000 in
theorem x_X8_wander {X : Nat × (Nat → Int32)} {v : rV} {r : rV}   (h : f_X8_wander v = some r) : EvM mX8_wander 2 0 0 [.ref 174] (rZ X) v (rPV X r) := by
  refine evm_of (by decide +kernel) (fun G => Nat.le_of_ble_eq_true rfl) ?_
  show Ev mX8_wander 2 0 0 0 [(0, .ref 174)] [] (rZ X) v _
  unfold f_X8_wander at h
  refine e_aload_n dX8_wander_0 rfl ?_
  refine e_get (w := .int (v.1 174 37)) (j := 37) dX8_wander_1 k0_174 rc8 (by decide) wfX8_288 rfl ?_
  obtain ⟨x1, ex1, h⟩ := vlet_ex h
  refine e_nameI ex1.symm ?_
  clear ex1
  refine e_istore_n (lv' := [(1, .int x1), (0, .ref 174)]) dX8_wander_4 (by decide) rfl ?_
  refine e_sub [1, 0] rfl ?_
  exact b_X8_wander_5  _ v x1 h
def f_X8_bear_86  (q5 : rV → Int32 → Option (rV)) (v : rV) (a1 : Int32) : Option (rV) := vlet (a1 + (1 : Int32)) fun x7 =>
  q5 v x7
def f_X8_bear_5   : Nat → rV → Int32 → Option (rV)
  | 0, _, _ => none
  | n + 1, v, a1 => if (v.1 174 38) < a1 then
  (some v)
else
  (if ¬ ((24 : Int32) + a1) < 0 ∧ ((24 : Int32) + a1).toNatClampNeg < 416 then
  (if ¬ ((48 : Int32) + a1) < 0 ∧ ((48 : Int32) + a1).toNatClampNeg < 416 then
  (if ¬ ((0 : Int32) + a1) < 0 ∧ ((0 : Int32) + a1).toNatClampNeg < 416 then
  ((f_X8_of v (8 : Int32)).bind fun p5 =>
  vlet (((v.1 187 (((24 : Int32) + a1).toNatClampNeg)) + (v.1 187 (((48 : Int32) + a1).toNatClampNeg))) - (((v.1 187 (((0 : Int32) + a1).toNatClampNeg)) * p5) / (10 : Int32)) : Int32) fun x6 =>
  if x6 ≤ 0 then
  (f_X8_bear_86 (fun v a1 => f_X8_bear_5  n v a1) v a1)
else
  (vlet (if (v.1 187 (((24 : Int32) + a1).toNatClampNeg)) < x6 then (v.1 187 (((24 : Int32) + a1).toNatClampNeg)) else x6 : Int32) fun x8 =>
  (f_X8_fall v a1 (0 : Int32) x8).bind fun p9 =>
  (f_X8_fall p9 a1 (1 : Int32) (x6 - x8)).bind fun p10 =>
  f_X8_bear_86 (fun v a1 => f_X8_bear_5  n v a1) p10 a1))
else none)
else none)
else none)
def f_X8_bear (v : rV)  : Option (rV) := vlet (v.1 174 37 : Int32) fun x1 =>
  f_X8_bear_5  20000 v x1
set_option maxRecDepth 20000 in
theorem b_X8_bear_86 {X : Nat × (Nat → Int32)} {r : rV} {v : rV} {q5 : rV → Int32 → Option (rV)} (hq5 : ∀ (v : rV) (a1 : Int32) , q5 v a1 = some r → Ev mX8_bear 2 0 0 5 [(0, .ref 174), (1, .int a1)] [] (rZ X) v (rPV X r)) {a1 : Int32}  (h : f_X8_bear_86 q5 v a1 = some r) : Ev mX8_bear 2 0 0 86 [(0, .ref 174), (1, .int a1)] [] (rZ X) v (rPV X r) := by
  unfold f_X8_bear_86 at h
  obtain ⟨x7, ex7, h⟩ := vlet_ex h
  refine e_iinc (lv' := [(1, .int x7), (0, .ref 174)]) dX8_bear_86 rfl (ex7.symm) (by decide) rfl ?_
  clear ex7
  refine e_goto (tgt := 5) dX8_bear_89 (by decide) ?_
  refine e_sub [1, 0] rfl ?_
  exact hq5 v x7 h
set_option maxRecDepth 20000 in
theorem b_X8_bear_5 {X : Nat × (Nat → Int32)} {r : rV}   : ∀ (n : Nat) (v : rV) (a1 : Int32) , f_X8_bear_5   n v a1 = some r → Ev mX8_bear 2 0 0 5 [(0, .ref 174), (1, .int a1)] [] (rZ X) v (rPV X r) := by
  intro n
  induction n with
  | zero =>
    intros
    rename_i h
    cases h
  | succ n ih =>
    intro v a1 h
    rw [f_X8_bear_5] at h
    refine e_iload_n dX8_bear_5 rfl ?_
    refine e_aload_n dX8_bear_6 rfl ?_
    refine e_get (w := .int (v.1 174 38)) (j := 38) dX8_bear_7 k0_174 rc8 (by decide) wfX8_291 rfl ?_
    refine e_icmp_gt (tgt := 92) dX8_bear_10 (by decide) (fun c12 => ?_) (fun c12 => ?_)
    · rw [if_pos c12] at h
      obtain rfl := Option.some.inj h
      exact e_ret dX8_bear_92 rfl ⟨rfl, rfl, rfl⟩
    · rw [if_neg c12] at h
      refine e_aload_n dX8_bear_13 rfl ?_
      refine e_get (w := .ref 187) (j := 24) dX8_bear_14 k0_174 rc8 (by decide) wfX8_50 (g0_174_24) ?_
      refine e_bipush (x := (24 : Int32)) dX8_bear_17 (by decide) ?_
      refine e_iload_n dX8_bear_19 rfl ?_
      refine e_iadd dX8_bear_20 ?_
      obtain ⟨c2, h⟩ := grd h
      refine e_ialdJ dX8_bear_21 k0_187 rfl c2.2 c2.1 ?_
      refine e_aload_n dX8_bear_22 rfl ?_
      refine e_get (w := .ref 187) (j := 24) dX8_bear_23 k0_174 rc8 (by decide) wfX8_50 (g0_174_24) ?_
      refine e_bipush (x := (48 : Int32)) dX8_bear_26 (by decide) ?_
      refine e_iload_n dX8_bear_28 rfl ?_
      refine e_iadd dX8_bear_29 ?_
      obtain ⟨c3, h⟩ := grd h
      refine e_ialdJ dX8_bear_30 k0_187 rfl c3.2 c3.1 ?_
      refine e_iadd dX8_bear_31 ?_
      refine e_aload_n dX8_bear_32 rfl ?_
      refine e_get (w := .ref 187) (j := 24) dX8_bear_33 k0_174 rc8 (by decide) wfX8_50 (g0_174_24) ?_
      refine e_iconst (x := (0 : Int32)) dX8_bear_36 (by decide) ?_
      refine e_iload_n dX8_bear_37 rfl ?_
      refine e_iadd dX8_bear_38 ?_
      obtain ⟨c4, h⟩ := grd h
      refine e_ialdJ dX8_bear_39 k0_187 rfl c4.2 c4.1 ?_
      refine e_aload_n dX8_bear_40 rfl ?_
      refine e_bipush (x := (8 : Int32)) dX8_bear_41 (by decide) ?_
      obtain ⟨p5, ep5, h⟩ := Option.bind_eq_some_iff.mp h
      refine c_VI (M' := mX8_of) [.int (8 : Int32)] dX8_bear_43 rfl wmX8_294 imX8_of seX8_of lkX8_of k0_174 rc8 (Nat.le_of_ble_eq_true rfl) ((x_X8_of  ep5).mono (by omega)) ?_
      refine e_imul dX8_bear_46 ?_
      refine e_bipush (x := (10 : Int32)) dX8_bear_47 (by decide) ?_
      refine e_idiv dX8_bear_49 (by decide) ?_
      refine e_isub dX8_bear_50 ?_
      obtain ⟨x6, ex6, h⟩ := vlet_ex h
      refine e_nameI ex6.symm ?_
      clear ex6
      refine e_istore_n (lv' := [(2, .int x6), (0, .ref 174), (1, .int a1)]) dX8_bear_51 (by decide) rfl ?_
      refine e_iload_n dX8_bear_52 rfl ?_
      refine e_if_le (tgt := 86) dX8_bear_53 (by decide) (fun c11 => ?_) (fun c11 => ?_)
      · rw [if_pos c11] at h
        refine e_sub [1, 2] rfl ?_
        exact b_X8_bear_86 (fun v a1  hh => ih v a1  hh) h
      · rw [if_neg c11] at h
        refine e_iload_n dX8_bear_56 rfl ?_
        refine e_aload_n dX8_bear_57 rfl ?_
        refine e_get (w := .ref 187) (j := 24) dX8_bear_58 k0_174 rc8 (by decide) wfX8_50 (g0_174_24) ?_
        refine e_bipush (x := (24 : Int32)) dX8_bear_61 (by decide) ?_
        refine e_iload_n dX8_bear_63 rfl ?_
        refine e_iadd dX8_bear_64 ?_
        refine e_ialdJ dX8_bear_65 k0_187 rfl (c2).2 (c2).1 ?_
        refine e_min dX8_bear_66 wmX8_261 wmst_min winimath wmcd_min (by omega) (Nat.le_of_ble_eq_true rfl) ?_
        obtain ⟨x8, ex8, h⟩ := vlet_ex h
        refine e_nameI ex8.symm ?_
        clear ex8
        refine e_istore_n (lv' := [(3, .int x8), (2, .int x6), (0, .ref 174), (1, .int a1)]) dX8_bear_69 (by decide) rfl ?_
        refine e_aload_n dX8_bear_70 rfl ?_
        refine e_iload_n dX8_bear_71 rfl ?_
        refine e_iconst (x := (0 : Int32)) dX8_bear_72 (by decide) ?_
        refine e_iload_n dX8_bear_73 rfl ?_
        obtain ⟨p9, ep9, h⟩ := Option.bind_eq_some_iff.mp h
        refine c_VV (M' := mX8_fall) [.int a1, .int (0 : Int32), .int x8] dX8_bear_74 rfl wmX8_305 imX8_fall seX8_fall lkX8_fall k0_174 rc8 (Nat.le_of_ble_eq_true rfl) ((x_X8_fall  ep9).mono (by omega)) ?_
        refine e_aload_n dX8_bear_77 rfl ?_
        refine e_iload_n dX8_bear_78 rfl ?_
        refine e_iconst (x := (1 : Int32)) dX8_bear_79 (by decide) ?_
        refine e_iload_n dX8_bear_80 rfl ?_
        refine e_iload_n dX8_bear_81 rfl ?_
        refine e_isub dX8_bear_82 ?_
        obtain ⟨p10, ep10, h⟩ := Option.bind_eq_some_iff.mp h
        refine c_VV (M' := mX8_fall) [.int a1, .int (1 : Int32), .int (x6 - x8)] dX8_bear_83 rfl wmX8_305 imX8_fall seX8_fall lkX8_fall k0_174 rc8 (Nat.le_of_ble_eq_true rfl) ((x_X8_fall  ep10).mono (by omega)) ?_
        refine e_sub [2, 3] rfl ?_
        exact b_X8_bear_86 (fun v a1  hh => ih v a1  hh) h
set_option maxRecDepth 20000 in
theorem x_X8_bear {X : Nat × (Nat → Int32)} {v : rV} {r : rV}   (h : f_X8_bear v = some r) : EvM mX8_bear 2 0 0 [.ref 174] (rZ X) v (rPV X r) := by
  refine evm_of (by decide +kernel) (fun G => Nat.le_of_ble_eq_true rfl) ?_
  show Ev mX8_bear 2 0 0 0 [(0, .ref 174)] [] (rZ X) v _
  unfold f_X8_bear at h
  refine e_aload_n dX8_bear_0 rfl ?_
  refine e_get (w := .int (v.1 174 37)) (j := 37) dX8_bear_1 k0_174 rc8 (by decide) wfX8_288 rfl ?_
  obtain ⟨x1, ex1, h⟩ := vlet_ex h
  refine e_nameI ex1.symm ?_
  clear ex1
  refine e_istore_n (lv' := [(1, .int x1), (0, .ref 174)]) dX8_bear_4 (by decide) rfl ?_
  refine e_sub [1, 0] rfl ?_
  exact b_X8_bear_5  _ v x1 h
def f_X8_goes_132   (v : rV) (a1 : Int32) (a2 : Int32) : Option (Bool × rV) := (f_X8_wander v).bind fun p13 =>
  (f_X8_bear p13).bind fun p14 =>
  if ¬ ((240 : Int32) + a1) < 0 ∧ ((240 : Int32) + a1).toNatClampNeg < 416 then
  (vlet (rI p14 187 (((240 : Int32) + a1).toNatClampNeg) (p14.1 174 37)) fun v16 =>
  if ¬ ((252 : Int32) + a1) < 0 ∧ ((252 : Int32) + a1).toNatClampNeg < 416 then
  (vlet (rI v16 187 (((252 : Int32) + a1).toNatClampNeg) (v16.1 174 38)) fun v18 =>
  if a2 ≤ 0 then
  (some (false, v18))
else
  (some (true, v18)))
else none)
else none
def f_X8_goes_109   (v : rV) (a1 : Int32) (a2 : Int32) : Option (Bool × rV) := (f_X8_flows v a2).bind fun p10 =>
  (f_X8_carry p10).bind fun p11 =>
  (f_X8_of p11 (5 : Int32)).bind fun p12 =>
  if p12 < (50 : Int32) then
  (f_X8_goes_132  p11 a1 a2)
else
  ((f_X8_stir p11).bind fun p20 =>
  f_X8_goes_132  p20 a1 a2)
def f_X8_goes (v : rV) (a1 : Int32) : Option (Bool × rV) := if ¬ ((240 : Int32) + a1) < 0 ∧ ((240 : Int32) + a1).toNatClampNeg < 416 then
  (vlet (rI v 174 37 (v.1 187 (((240 : Int32) + a1).toNatClampNeg))) fun v2 =>
  if ¬ ((252 : Int32) + a1) < 0 ∧ ((252 : Int32) + a1).toNatClampNeg < 416 then
  (vlet (rI v2 174 38 (v2.1 187 (((252 : Int32) + a1).toNatClampNeg))) fun v4 =>
  if ¬ ((264 : Int32) + a1) < 0 ∧ ((264 : Int32) + a1).toNatClampNeg < 416 then
  (vlet (rI v4 174 39 (v4.1 187 (((264 : Int32) + a1).toNatClampNeg))) fun v6 =>
  (f_X8_lose v6).bind fun p7 =>
  vlet (((p7.2.1 174 38) - (p7.2.1 174 37)) + (1 : Int32) : Int32) fun x8 =>
  (f_X8_of p7.2 (9 : Int32)).bind fun p9 =>
  if (p9 * x8) ≤ p7.1 then
  (f_X8_goes_109  p7.2 a1 p7.1)
else
  ((f_X8_of p7.2 (10 : Int32)).bind fun p22 =>
  if x8 ≤ (((2 : Int32) * p22) + (1 : Int32)) then
  (f_X8_goes_109  p7.2 a1 p7.1)
else
  ((f_X8_of p7.2 (10 : Int32)).bind fun p23 =>
  (f_X8_letGo p7.2 p23).bind fun p24 =>
  vlet ((276 : Int32) + a1 : Int32) fun x25 =>
  if ¬ x25 < 0 ∧ x25.toNatClampNeg < 416 then
  (vlet (rI p24 187 x25.toNatClampNeg ((p24.1 187 x25.toNatClampNeg) + (1 : Int32))) fun v27 =>
  f_X8_goes_109  v27 a1 p7.1)
else none)))
else none)
else none)
else none
set_option maxRecDepth 20000 in
theorem b_X8_goes_132 {X : Nat × (Nat → Int32)} {r : Bool × rV} {v : rV}   {a1 : Int32} {a2 : Int32}  (h : f_X8_goes_132  v a1 a2 = some r) : Ev mX8_goes 6 0 0 132 [(0, .ref 174), (1, .int a1), (2, .int a2)] [] (rZ X) v (rPZ X r) := by
  unfold f_X8_goes_132 at h
  refine e_aload_n dX8_goes_132 rfl ?_
  obtain ⟨p13, ep13, h⟩ := Option.bind_eq_some_iff.mp h
  refine c_VV (M' := mX8_wander) [] dX8_goes_133 rfl wmX8_335 imX8_wander seX8_wander lkX8_wander k0_174 rc8 (Nat.le_of_ble_eq_true rfl) ((x_X8_wander  ep13).mono (by omega)) ?_
  refine e_aload_n dX8_goes_136 rfl ?_
  obtain ⟨p14, ep14, h⟩ := Option.bind_eq_some_iff.mp h
  refine c_VV (M' := mX8_bear) [] dX8_goes_137 rfl wmX8_338 imX8_bear seX8_bear lkX8_bear k0_174 rc8 (Nat.le_of_ble_eq_true rfl) ((x_X8_bear  ep14).mono (by omega)) ?_
  refine e_aload_n dX8_goes_140 rfl ?_
  refine e_get (w := .ref 187) (j := 24) dX8_goes_141 k0_174 rc8 (by decide) wfX8_50 (g0_174_24) ?_
  refine e_sipush (x := (240 : Int32)) dX8_goes_144 (by decide) ?_
  refine e_iload_n dX8_goes_147 rfl ?_
  refine e_iadd dX8_goes_148 ?_
  refine e_aload_n dX8_goes_149 rfl ?_
  refine e_get (w := .int (p14.1 174 37)) (j := 37) dX8_goes_150 k0_174 rc8 (by decide) wfX8_288 rfl ?_
  obtain ⟨c15, h⟩ := grd h
  refine e_iastJ dX8_goes_153 k0_187 rfl c15.2 c15.1 ?_
  obtain ⟨v16, ev16, h⟩ := vlet_ex h
  refine e_nameV ev16.symm ?_
  clear ev16
  refine e_aload_n dX8_goes_154 rfl ?_
  refine e_get (w := .ref 187) (j := 24) dX8_goes_155 k0_174 rc8 (by decide) wfX8_50 (g0_174_24) ?_
  refine e_sipush (x := (252 : Int32)) dX8_goes_158 (by decide) ?_
  refine e_iload_n dX8_goes_161 rfl ?_
  refine e_iadd dX8_goes_162 ?_
  refine e_aload_n dX8_goes_163 rfl ?_
  refine e_get (w := .int (v16.1 174 38)) (j := 38) dX8_goes_164 k0_174 rc8 (by decide) wfX8_291 rfl ?_
  obtain ⟨c17, h⟩ := grd h
  refine e_iastJ dX8_goes_167 k0_187 rfl c17.2 c17.1 ?_
  obtain ⟨v18, ev18, h⟩ := vlet_ex h
  refine e_nameV ev18.symm ?_
  clear ev18
  refine e_iload_n dX8_goes_168 rfl ?_
  refine e_if_le (tgt := 176) dX8_goes_169 (by decide) (fun c19 => ?_) (fun c19 => ?_)
  · rw [if_pos c19] at h
    refine e_iconst (x := (0 : Int32)) dX8_goes_176 (by decide) ?_
    obtain rfl := Option.some.inj h
    exact e_iret dX8_goes_177 rfl rfl ⟨rfl, rfl, rfl⟩
  · rw [if_neg c19] at h
    refine e_iconst (x := (1 : Int32)) dX8_goes_172 (by decide) ?_
    refine e_goto (tgt := 177) dX8_goes_173 (by decide) ?_
    obtain rfl := Option.some.inj h
    exact e_iret dX8_goes_177 rfl rfl ⟨rfl, rfl, rfl⟩
set_option maxRecDepth 20000 in
theorem b_X8_goes_109 {X : Nat × (Nat → Int32)} {r : Bool × rV} {v : rV}   {a1 : Int32} {a2 : Int32}  (h : f_X8_goes_109  v a1 a2 = some r) : Ev mX8_goes 6 0 0 109 [(0, .ref 174), (1, .int a1), (2, .int a2)] [] (rZ X) v (rPZ X r) := by
  unfold f_X8_goes_109 at h
  refine e_aload_n dX8_goes_109 rfl ?_
  refine e_iload_n dX8_goes_110 rfl ?_
  obtain ⟨p10, ep10, h⟩ := Option.bind_eq_some_iff.mp h
  refine c_VV (M' := mX8_flows) [.int a2] dX8_goes_111 rfl wmX8_326 imX8_flows seX8_flows lkX8_flows k0_174 rc8 (Nat.le_of_ble_eq_true rfl) ((x_X8_flows  ep10).mono (by omega)) ?_
  refine e_aload_n dX8_goes_114 rfl ?_
  obtain ⟨p11, ep11, h⟩ := Option.bind_eq_some_iff.mp h
  refine c_VV (M' := mX8_carry) [] dX8_goes_115 rfl wmX8_329 imX8_carry seX8_carry lkX8_carry k0_174 rc8 (Nat.le_of_ble_eq_true rfl) ((x_X8_carry  ep11).mono (by omega)) ?_
  refine e_aload_n dX8_goes_118 rfl ?_
  refine e_iconst (x := (5 : Int32)) dX8_goes_119 (by decide) ?_
  obtain ⟨p12, ep12, h⟩ := Option.bind_eq_some_iff.mp h
  refine c_VI (M' := mX8_of) [.int (5 : Int32)] dX8_goes_120 rfl wmX8_294 imX8_of seX8_of lkX8_of k0_174 rc8 (Nat.le_of_ble_eq_true rfl) ((x_X8_of  ep12).mono (by omega)) ?_
  refine e_bipush (x := (50 : Int32)) dX8_goes_123 (by decide) ?_
  refine e_icmp_lt (tgt := 132) dX8_goes_125 (by decide) (fun c21 => ?_) (fun c21 => ?_)
  · rw [if_pos c21] at h
    exact b_X8_goes_132  h
  · rw [if_neg c21] at h
    refine e_aload_n dX8_goes_128 rfl ?_
    obtain ⟨p20, ep20, h⟩ := Option.bind_eq_some_iff.mp h
    refine c_VV (M' := mX8_stir) [] dX8_goes_129 rfl wmX8_332 imX8_stir seX8_stir lkX8_stir k0_174 rc8 (Nat.le_of_ble_eq_true rfl) ((x_X8_stir  ep20).mono (by omega)) ?_
    exact b_X8_goes_132  h
set_option maxRecDepth 20000 in
theorem x_X8_goes {X : Nat × (Nat → Int32)} {v : rV} {r : Bool × rV} {a1 : Int32}  (h : f_X8_goes v a1 = some r) : EvM mX8_goes 6 0 0 [.ref 174, .int a1] (rZ X) v (rPZ X r) := by
  refine evm_of (by decide +kernel) (fun G => Nat.le_of_ble_eq_true rfl) ?_
  show Ev mX8_goes 6 0 0 0 [(0, .ref 174), (1, .int a1)] [] (rZ X) v _
  unfold f_X8_goes at h
  refine e_aload_n dX8_goes_0 rfl ?_
  refine e_aload_n dX8_goes_1 rfl ?_
  refine e_get (w := .ref 187) (j := 24) dX8_goes_2 k0_174 rc8 (by decide) wfX8_50 (g0_174_24) ?_
  refine e_sipush (x := (240 : Int32)) dX8_goes_5 (by decide) ?_
  refine e_iload_n dX8_goes_8 rfl ?_
  refine e_iadd dX8_goes_9 ?_
  obtain ⟨c1, h⟩ := grd h
  refine e_ialdJ dX8_goes_10 k0_187 rfl c1.2 c1.1 ?_
  refine e_putI (j := 37) dX8_goes_11 k0_174 rc8 (by decide) wfX8_288 rfl rfl ?_
  obtain ⟨v2, ev2, h⟩ := vlet_ex h
  refine e_nameV ev2.symm ?_
  clear ev2
  refine e_aload_n dX8_goes_14 rfl ?_
  refine e_aload_n dX8_goes_15 rfl ?_
  refine e_get (w := .ref 187) (j := 24) dX8_goes_16 k0_174 rc8 (by decide) wfX8_50 (g0_174_24) ?_
  refine e_sipush (x := (252 : Int32)) dX8_goes_19 (by decide) ?_
  refine e_iload_n dX8_goes_22 rfl ?_
  refine e_iadd dX8_goes_23 ?_
  obtain ⟨c3, h⟩ := grd h
  refine e_ialdJ dX8_goes_24 k0_187 rfl c3.2 c3.1 ?_
  refine e_putI (j := 38) dX8_goes_25 k0_174 rc8 (by decide) wfX8_291 rfl rfl ?_
  obtain ⟨v4, ev4, h⟩ := vlet_ex h
  refine e_nameV ev4.symm ?_
  clear ev4
  refine e_aload_n dX8_goes_28 rfl ?_
  refine e_aload_n dX8_goes_29 rfl ?_
  refine e_get (w := .ref 187) (j := 24) dX8_goes_30 k0_174 rc8 (by decide) wfX8_50 (g0_174_24) ?_
  refine e_sipush (x := (264 : Int32)) dX8_goes_33 (by decide) ?_
  refine e_iload_n dX8_goes_36 rfl ?_
  refine e_iadd dX8_goes_37 ?_
  obtain ⟨c5, h⟩ := grd h
  refine e_ialdJ dX8_goes_38 k0_187 rfl c5.2 c5.1 ?_
  refine e_putI (j := 39) dX8_goes_39 k0_174 rc8 (by decide) wfX8_285 rfl rfl ?_
  obtain ⟨v6, ev6, h⟩ := vlet_ex h
  refine e_nameV ev6.symm ?_
  clear ev6
  refine e_aload_n dX8_goes_42 rfl ?_
  obtain ⟨p7, ep7, h⟩ := Option.bind_eq_some_iff.mp h
  refine c_VI (M' := mX8_lose) [] dX8_goes_43 rfl wmX8_320 imX8_lose seX8_lose lkX8_lose k0_174 rc8 (Nat.le_of_ble_eq_true rfl) ((x_X8_lose  ep7).mono (by omega)) ?_
  refine e_istore_n (lv' := [(2, .int p7.1), (0, .ref 174), (1, .int a1)]) dX8_goes_46 (by decide) rfl ?_
  refine e_aload_n dX8_goes_47 rfl ?_
  refine e_get (w := .int (p7.2.1 174 38)) (j := 38) dX8_goes_48 k0_174 rc8 (by decide) wfX8_291 rfl ?_
  refine e_aload_n dX8_goes_51 rfl ?_
  refine e_get (w := .int (p7.2.1 174 37)) (j := 37) dX8_goes_52 k0_174 rc8 (by decide) wfX8_288 rfl ?_
  refine e_isub dX8_goes_55 ?_
  refine e_iconst (x := (1 : Int32)) dX8_goes_56 (by decide) ?_
  refine e_iadd dX8_goes_57 ?_
  obtain ⟨x8, ex8, h⟩ := vlet_ex h
  refine e_nameI ex8.symm ?_
  clear ex8
  refine e_istore_n (lv' := [(3, .int x8), (2, .int p7.1), (0, .ref 174), (1, .int a1)]) dX8_goes_58 (by decide) rfl ?_
  refine e_iload_n dX8_goes_59 rfl ?_
  refine e_aload_n dX8_goes_60 rfl ?_
  refine e_bipush (x := (9 : Int32)) dX8_goes_61 (by decide) ?_
  obtain ⟨p9, ep9, h⟩ := Option.bind_eq_some_iff.mp h
  refine c_VI (M' := mX8_of) [.int (9 : Int32)] dX8_goes_63 rfl wmX8_294 imX8_of seX8_of lkX8_of k0_174 rc8 (Nat.le_of_ble_eq_true rfl) ((x_X8_of  ep9).mono (by omega)) ?_
  refine e_iload_n dX8_goes_66 rfl ?_
  refine e_imul dX8_goes_67 ?_
  refine e_icmp_ge (tgt := 109) dX8_goes_68 (by decide) (fun c29 => ?_) (fun c29 => ?_)
  · rw [if_pos c29] at h
    refine e_sub [2, 3, 1] rfl ?_
    exact b_X8_goes_109  h
  · rw [if_neg c29] at h
    refine e_iload_n dX8_goes_71 rfl ?_
    refine e_iconst (x := (2 : Int32)) dX8_goes_72 (by decide) ?_
    refine e_aload_n dX8_goes_73 rfl ?_
    refine e_bipush (x := (10 : Int32)) dX8_goes_74 (by decide) ?_
    obtain ⟨p22, ep22, h⟩ := Option.bind_eq_some_iff.mp h
    refine c_VI (M' := mX8_of) [.int (10 : Int32)] dX8_goes_76 rfl wmX8_294 imX8_of seX8_of lkX8_of k0_174 rc8 (Nat.le_of_ble_eq_true rfl) ((x_X8_of  ep22).mono (by omega)) ?_
    refine e_imul dX8_goes_79 ?_
    refine e_iconst (x := (1 : Int32)) dX8_goes_80 (by decide) ?_
    refine e_iadd dX8_goes_81 ?_
    refine e_icmp_le (tgt := 109) dX8_goes_82 (by decide) (fun c28 => ?_) (fun c28 => ?_)
    · rw [if_pos c28] at h
      refine e_sub [2, 3, 1] rfl ?_
      exact b_X8_goes_109  h
    · rw [if_neg c28] at h
      refine e_aload_n dX8_goes_85 rfl ?_
      refine e_aload_n dX8_goes_86 rfl ?_
      refine e_bipush (x := (10 : Int32)) dX8_goes_87 (by decide) ?_
      obtain ⟨p23, ep23, h⟩ := Option.bind_eq_some_iff.mp h
      refine c_VI (M' := mX8_of) [.int (10 : Int32)] dX8_goes_89 rfl wmX8_294 imX8_of seX8_of lkX8_of k0_174 rc8 (Nat.le_of_ble_eq_true rfl) ((x_X8_of  ep23).mono (by omega)) ?_
      obtain ⟨p24, ep24, h⟩ := Option.bind_eq_some_iff.mp h
      refine c_VV (M' := mX8_letGo) [.int p23] dX8_goes_92 rfl wmX8_323 imX8_letGo seX8_letGo lkX8_letGo k0_174 rc8 (Nat.le_of_ble_eq_true rfl) ((x_X8_letGo  ep24).mono (by omega)) ?_
      refine e_aload_n dX8_goes_95 rfl ?_
      refine e_get (w := .ref 187) (j := 24) dX8_goes_96 k0_174 rc8 (by decide) wfX8_50 (g0_174_24) ?_
      refine e_sipush (x := (276 : Int32)) dX8_goes_99 (by decide) ?_
      refine e_iload_n dX8_goes_102 rfl ?_
      refine e_iadd dX8_goes_103 ?_
      obtain ⟨x25, ex25, h⟩ := vlet_ex h
      refine e_nameI ex25.symm ?_
      clear ex25
      refine e_dup2 dX8_goes_104 rfl rfl ?_
      obtain ⟨c26, h⟩ := grd h
      refine e_ialdJ dX8_goes_105 k0_187 rfl c26.2 c26.1 ?_
      refine e_iconst (x := (1 : Int32)) dX8_goes_106 (by decide) ?_
      refine e_iadd dX8_goes_107 ?_
      refine e_iastJ dX8_goes_108 k0_187 rfl (c26).2 (c26).1 ?_
      obtain ⟨v27, ev27, h⟩ := vlet_ex h
      refine e_nameV ev27.symm ?_
      clear ev27
      refine e_sub [2, 3, 1] rfl ?_
      exact b_X8_goes_109  h
def f_X8_remove_14   : Nat → rV → Int32 → Option (rV)
  | 0, _, _ => none
  | n + 1, v, a2 => if (v.1 187 288) ≤ a2 then
  (some v)
else
  (if ¬ (((240 : Int32) + a2) + (1 : Int32)) < 0 ∧ (((240 : Int32) + a2) + (1 : Int32)).toNatClampNeg < 416 then
  (if ¬ ((240 : Int32) + a2) < 0 ∧ ((240 : Int32) + a2).toNatClampNeg < 416 then
  (vlet (rI v 187 (((240 : Int32) + a2).toNatClampNeg) (v.1 187 ((((240 : Int32) + a2) + (1 : Int32)).toNatClampNeg))) fun v4 =>
  if ¬ (((252 : Int32) + a2) + (1 : Int32)) < 0 ∧ (((252 : Int32) + a2) + (1 : Int32)).toNatClampNeg < 416 then
  (if ¬ ((252 : Int32) + a2) < 0 ∧ ((252 : Int32) + a2).toNatClampNeg < 416 then
  (vlet (rI v4 187 (((252 : Int32) + a2).toNatClampNeg) (v4.1 187 ((((252 : Int32) + a2) + (1 : Int32)).toNatClampNeg))) fun v7 =>
  if ¬ (((264 : Int32) + a2) + (1 : Int32)) < 0 ∧ (((264 : Int32) + a2) + (1 : Int32)).toNatClampNeg < 416 then
  (if ¬ ((264 : Int32) + a2) < 0 ∧ ((264 : Int32) + a2).toNatClampNeg < 416 then
  (vlet (rI v7 187 (((264 : Int32) + a2).toNatClampNeg) (v7.1 187 ((((264 : Int32) + a2) + (1 : Int32)).toNatClampNeg))) fun v10 =>
  if ¬ (((276 : Int32) + a2) + (1 : Int32)) < 0 ∧ (((276 : Int32) + a2) + (1 : Int32)).toNatClampNeg < 416 then
  (if ¬ ((276 : Int32) + a2) < 0 ∧ ((276 : Int32) + a2).toNatClampNeg < 416 then
  (vlet (rI v10 187 (((276 : Int32) + a2).toNatClampNeg) (v10.1 187 ((((276 : Int32) + a2) + (1 : Int32)).toNatClampNeg))) fun v13 =>
  vlet (a2 + (1 : Int32)) fun x14 =>
  f_X8_remove_14  n v13 x14)
else none)
else none)
else none)
else none)
else none)
else none)
else none)
else none)
def f_X8_remove (v : rV) (a1 : Int32) : Option (rV) := vlet (rI v 187 288 ((v.1 187 288) - (1 : Int32))) fun v1 =>
  f_X8_remove_14  20000 v1 a1
set_option maxRecDepth 20000 in
theorem b_X8_remove_14 {X : Nat × (Nat → Int32)} {r : rV}   : ∀ (n : Nat) (v : rV) (a2 : Int32) , f_X8_remove_14   n v a2 = some r → Ev mX8_remove 1 0 0 14 [(0, .ref 174), (2, .int a2)] [] (rZ X) v (rPV X r) := by
  intro n
  induction n with
  | zero =>
    intros
    rename_i h
    cases h
  | succ n ih =>
    intro v a2 h
    rw [f_X8_remove_14] at h
    refine e_iload_n dX8_remove_14 rfl ?_
    refine e_aload_n dX8_remove_15 rfl ?_
    refine e_get (w := .ref 187) (j := 24) dX8_remove_16 k0_174 rc8 (by decide) wfX8_50 (g0_174_24) ?_
    refine e_sipush (x := (288 : Int32)) dX8_remove_19 (by decide) ?_
    refine e_ialdJ dX8_remove_22 k0_187 (j := 288) (by decide) (by decide) (by decide) ?_
    refine e_icmp_ge (tgt := 120) dX8_remove_23 (by decide) (fun c15 => ?_) (fun c15 => ?_)
    · rw [if_pos c15] at h
      obtain rfl := Option.some.inj h
      exact e_ret dX8_remove_120 rfl ⟨rfl, rfl, rfl⟩
    · rw [if_neg c15] at h
      refine e_aload_n dX8_remove_26 rfl ?_
      refine e_get (w := .ref 187) (j := 24) dX8_remove_27 k0_174 rc8 (by decide) wfX8_50 (g0_174_24) ?_
      refine e_sipush (x := (240 : Int32)) dX8_remove_30 (by decide) ?_
      refine e_iload_n dX8_remove_33 rfl ?_
      refine e_iadd dX8_remove_34 ?_
      refine e_aload_n dX8_remove_35 rfl ?_
      refine e_get (w := .ref 187) (j := 24) dX8_remove_36 k0_174 rc8 (by decide) wfX8_50 (g0_174_24) ?_
      refine e_sipush (x := (240 : Int32)) dX8_remove_39 (by decide) ?_
      refine e_iload_n dX8_remove_42 rfl ?_
      refine e_iadd dX8_remove_43 ?_
      refine e_iconst (x := (1 : Int32)) dX8_remove_44 (by decide) ?_
      refine e_iadd dX8_remove_45 ?_
      obtain ⟨c2, h⟩ := grd h
      refine e_ialdJ dX8_remove_46 k0_187 rfl c2.2 c2.1 ?_
      obtain ⟨c3, h⟩ := grd h
      refine e_iastJ dX8_remove_47 k0_187 rfl c3.2 c3.1 ?_
      obtain ⟨v4, ev4, h⟩ := vlet_ex h
      refine e_nameV ev4.symm ?_
      clear ev4
      refine e_aload_n dX8_remove_48 rfl ?_
      refine e_get (w := .ref 187) (j := 24) dX8_remove_49 k0_174 rc8 (by decide) wfX8_50 (g0_174_24) ?_
      refine e_sipush (x := (252 : Int32)) dX8_remove_52 (by decide) ?_
      refine e_iload_n dX8_remove_55 rfl ?_
      refine e_iadd dX8_remove_56 ?_
      refine e_aload_n dX8_remove_57 rfl ?_
      refine e_get (w := .ref 187) (j := 24) dX8_remove_58 k0_174 rc8 (by decide) wfX8_50 (g0_174_24) ?_
      refine e_sipush (x := (252 : Int32)) dX8_remove_61 (by decide) ?_
      refine e_iload_n dX8_remove_64 rfl ?_
      refine e_iadd dX8_remove_65 ?_
      refine e_iconst (x := (1 : Int32)) dX8_remove_66 (by decide) ?_
      refine e_iadd dX8_remove_67 ?_
      obtain ⟨c5, h⟩ := grd h
      refine e_ialdJ dX8_remove_68 k0_187 rfl c5.2 c5.1 ?_
      obtain ⟨c6, h⟩ := grd h
      refine e_iastJ dX8_remove_69 k0_187 rfl c6.2 c6.1 ?_
      obtain ⟨v7, ev7, h⟩ := vlet_ex h
      refine e_nameV ev7.symm ?_
      clear ev7
      refine e_aload_n dX8_remove_70 rfl ?_
      refine e_get (w := .ref 187) (j := 24) dX8_remove_71 k0_174 rc8 (by decide) wfX8_50 (g0_174_24) ?_
      refine e_sipush (x := (264 : Int32)) dX8_remove_74 (by decide) ?_
      refine e_iload_n dX8_remove_77 rfl ?_
      refine e_iadd dX8_remove_78 ?_
      refine e_aload_n dX8_remove_79 rfl ?_
      refine e_get (w := .ref 187) (j := 24) dX8_remove_80 k0_174 rc8 (by decide) wfX8_50 (g0_174_24) ?_
      refine e_sipush (x := (264 : Int32)) dX8_remove_83 (by decide) ?_
      refine e_iload_n dX8_remove_86 rfl ?_
      refine e_iadd dX8_remove_87 ?_
      refine e_iconst (x := (1 : Int32)) dX8_remove_88 (by decide) ?_
      refine e_iadd dX8_remove_89 ?_
      obtain ⟨c8, h⟩ := grd h
      refine e_ialdJ dX8_remove_90 k0_187 rfl c8.2 c8.1 ?_
      obtain ⟨c9, h⟩ := grd h
      refine e_iastJ dX8_remove_91 k0_187 rfl c9.2 c9.1 ?_
      obtain ⟨v10, ev10, h⟩ := vlet_ex h
      refine e_nameV ev10.symm ?_
      clear ev10
      refine e_aload_n dX8_remove_92 rfl ?_
      refine e_get (w := .ref 187) (j := 24) dX8_remove_93 k0_174 rc8 (by decide) wfX8_50 (g0_174_24) ?_
      refine e_sipush (x := (276 : Int32)) dX8_remove_96 (by decide) ?_
      refine e_iload_n dX8_remove_99 rfl ?_
      refine e_iadd dX8_remove_100 ?_
      refine e_aload_n dX8_remove_101 rfl ?_
      refine e_get (w := .ref 187) (j := 24) dX8_remove_102 k0_174 rc8 (by decide) wfX8_50 (g0_174_24) ?_
      refine e_sipush (x := (276 : Int32)) dX8_remove_105 (by decide) ?_
      refine e_iload_n dX8_remove_108 rfl ?_
      refine e_iadd dX8_remove_109 ?_
      refine e_iconst (x := (1 : Int32)) dX8_remove_110 (by decide) ?_
      refine e_iadd dX8_remove_111 ?_
      obtain ⟨c11, h⟩ := grd h
      refine e_ialdJ dX8_remove_112 k0_187 rfl c11.2 c11.1 ?_
      obtain ⟨c12, h⟩ := grd h
      refine e_iastJ dX8_remove_113 k0_187 rfl c12.2 c12.1 ?_
      obtain ⟨v13, ev13, h⟩ := vlet_ex h
      refine e_nameV ev13.symm ?_
      clear ev13
      obtain ⟨x14, ex14, h⟩ := vlet_ex h
      refine e_iinc (lv' := [(2, .int x14), (0, .ref 174)]) dX8_remove_114 rfl (ex14.symm) (by decide) rfl ?_
      clear ex14
      refine e_goto (tgt := 14) dX8_remove_117 (by decide) ?_
      refine e_sub [1, 0] rfl ?_
      exact ih v13 x14 h
set_option maxRecDepth 20000 in
theorem x_X8_remove {X : Nat × (Nat → Int32)} {v : rV} {r : rV} {a1 : Int32}  (h : f_X8_remove v a1 = some r) : EvM mX8_remove 1 0 0 [.ref 174, .int a1] (rZ X) v (rPV X r) := by
  refine evm_of (by decide +kernel) (fun G => Nat.le_of_ble_eq_true rfl) ?_
  show Ev mX8_remove 1 0 0 0 [(0, .ref 174), (1, .int a1)] [] (rZ X) v _
  unfold f_X8_remove at h
  refine e_aload_n dX8_remove_0 rfl ?_
  refine e_get (w := .ref 187) (j := 24) dX8_remove_1 k0_174 rc8 (by decide) wfX8_50 (g0_174_24) ?_
  refine e_sipush (x := (288 : Int32)) dX8_remove_4 (by decide) ?_
  refine e_dup2 dX8_remove_7 rfl rfl ?_
  refine e_ialdJ dX8_remove_8 k0_187 (j := 288) (by decide) (by decide) (by decide) ?_
  refine e_iconst (x := (1 : Int32)) dX8_remove_9 (by decide) ?_
  refine e_isub dX8_remove_10 ?_
  refine e_iastJ dX8_remove_11 k0_187 (j := 288) (by decide) (by decide) (by decide) ?_
  obtain ⟨v1, ev1, h⟩ := vlet_ex h
  refine e_nameV ev1.symm ?_
  clear ev1
  refine e_iload_n dX8_remove_12 rfl ?_
  refine e_istore_n (lv' := [(2, .int a1), (0, .ref 174), (1, .int a1)]) dX8_remove_13 (by decide) rfl ?_
  refine e_sub [1, 0] rfl ?_
  exact b_X8_remove_14  _ v1 a1 h
def f_X8_tickOnce_200   (v : rV) (a2 : Int32) : Option (rV) := if a2 ≤ (v.1 187 292) then
  (some v)
else
  (vlet (rI v 187 292 a2) fun v3 =>
  vlet (rI v3 187 291 (v3.1 187 289)) fun v4 =>
  some v4)
def f_X8_tickOnce_148  (q103 : rV → Int32 → Int32 → Option (rV)) (v : rV) (a2 : Int32) (a3 : Int32) (a4 : Int32) (s0 : Int32) : Option (rV) := vlet (s0 + a3 : Int32) fun x12 =>
  if ¬ x12 < 0 ∧ x12.toNatClampNeg < 416 then
  (vlet (rI v 187 x12.toNatClampNeg ((v.1 187 x12.toNatClampNeg) + a4)) fun v14 =>
  vlet (a2 + a4 : Int32) fun x15 =>
  vlet (a3 + (1 : Int32)) fun x16 =>
  q103 v14 x15 x16)
else none
def f_X8_tickOnce_103   : Nat → rV → Int32 → Int32 → Option (rV)
  | 0, _, _, _ => none
  | n + 1, v, a2, a3 => if (24 : Int32) ≤ a3 then
  (if (120 : Int32) < (v.1 187 289) then
  (f_X8_tickOnce_200  v a2)
else
  (if ¬ (((296 : Int32) + (v.1 187 289)) - (1 : Int32)) < 0 ∧ (((296 : Int32) + (v.1 187 289)) - (1 : Int32)).toNatClampNeg < 416 then
  (vlet (rI v 187 ((((296 : Int32) + (v.1 187 289)) - (1 : Int32)).toNatClampNeg) a2) fun v7 =>
  f_X8_tickOnce_200  v7 a2)
else none))
else
  (if ¬ a3 < 0 ∧ a3.toNatClampNeg < 48 then
  (if ¬ ((24 : Int32) + a3) < 0 ∧ ((24 : Int32) + a3).toNatClampNeg < 48 then
  (vlet ((v.1 193 a3.toNatClampNeg) + (v.1 193 (((24 : Int32) + a3).toNatClampNeg)) : Int32) fun x11 =>
  if (v.1 174 23) < x11 then
  (f_X8_tickOnce_148 (fun v a2 a3 => f_X8_tickOnce_103  n v a2 a3) v a2 a3 x11 (144 : Int32))
else
  (f_X8_tickOnce_148 (fun v a2 a3 => f_X8_tickOnce_103  n v a2 a3) v a2 a3 x11 (120 : Int32)))
else none)
else none)
def f_X8_tickOnce_53   : Nat → rV → Int32 → Option (rV)
  | 0, _, _ => none
  | n + 1, v, a1 => if (v.1 187 288) ≤ a1 then
  (vlet (rI v 187 289 ((v.1 187 289) + (1 : Int32))) fun v2 =>
  f_X8_tickOnce_103  20000 v2 (0 : Int32) (0 : Int32))
else
  ((f_X8_goes v a1).bind fun p19 =>
  if p19.1 = true then
  (vlet (a1 + (1 : Int32)) fun x21 =>
  f_X8_tickOnce_53  n p19.2 x21)
else
  ((f_X8_remove p19.2 a1).bind fun p20 =>
  f_X8_tickOnce_53  n p20 a1))
def f_X8_tickOnce_2   : Nat → rV → Int32 → Option (rV)
  | 0, _, _ => none
  | n + 1, v, a1 => if (24 : Int32) ≤ a1 then
  (vlet (rI v 187 293 (0 : Int32)) fun v1 =>
  f_X8_tickOnce_53  20000 v1 (0 : Int32))
else
  (if ¬ ((168 : Int32) + a1) < 0 ∧ ((168 : Int32) + a1).toNatClampNeg < 416 then
  (vlet (rI v 187 (((168 : Int32) + a1).toNatClampNeg) (0 : Int32)) fun v25 =>
  if ¬ a1 < 0 ∧ a1.toNatClampNeg < 48 then
  (vlet (rI v25 193 a1.toNatClampNeg (0 : Int32)) fun v27 =>
  if ¬ ((24 : Int32) + a1) < 0 ∧ ((24 : Int32) + a1).toNatClampNeg < 48 then
  (vlet (rI v27 193 (((24 : Int32) + a1).toNatClampNeg) (0 : Int32)) fun v29 =>
  vlet (a1 + (1 : Int32)) fun x30 =>
  f_X8_tickOnce_2  n v29 x30)
else none)
else none)
else none)
def f_X8_tickOnce (v : rV)  : Option (rV) := f_X8_tickOnce_2  20000 v (0 : Int32)
set_option maxRecDepth 20000 in
theorem b_X8_tickOnce_200 {X : Nat × (Nat → Int32)} {r : rV} {v : rV}   {a2 : Int32}  (h : f_X8_tickOnce_200  v a2 = some r) : Ev mX8_tickOnce 7 0 0 200 [(0, .ref 174), (2, .int a2)] [] (rZ X) v (rPV X r) := by
  unfold f_X8_tickOnce_200 at h
  refine e_iload_n dX8_tickOnce_200 rfl ?_
  refine e_aload_n dX8_tickOnce_201 rfl ?_
  refine e_get (w := .ref 187) (j := 24) dX8_tickOnce_202 k0_174 rc8 (by decide) wfX8_50 (g0_174_24) ?_
  refine e_sipush (x := (292 : Int32)) dX8_tickOnce_205 (by decide) ?_
  refine e_ialdJ dX8_tickOnce_208 k0_187 (j := 292) (by decide) (by decide) (by decide) ?_
  refine e_icmp_le (tgt := 237) dX8_tickOnce_209 (by decide) (fun c5 => ?_) (fun c5 => ?_)
  · rw [if_pos c5] at h
    obtain rfl := Option.some.inj h
    exact e_ret dX8_tickOnce_237 rfl ⟨rfl, rfl, rfl⟩
  · rw [if_neg c5] at h
    refine e_aload_n dX8_tickOnce_212 rfl ?_
    refine e_get (w := .ref 187) (j := 24) dX8_tickOnce_213 k0_174 rc8 (by decide) wfX8_50 (g0_174_24) ?_
    refine e_sipush (x := (292 : Int32)) dX8_tickOnce_216 (by decide) ?_
    refine e_iload_n dX8_tickOnce_219 rfl ?_
    refine e_iastJ dX8_tickOnce_220 k0_187 (j := 292) (by decide) (by decide) (by decide) ?_
    obtain ⟨v3, ev3, h⟩ := vlet_ex h
    refine e_nameV ev3.symm ?_
    clear ev3
    refine e_aload_n dX8_tickOnce_221 rfl ?_
    refine e_get (w := .ref 187) (j := 24) dX8_tickOnce_222 k0_174 rc8 (by decide) wfX8_50 (g0_174_24) ?_
    refine e_sipush (x := (291 : Int32)) dX8_tickOnce_225 (by decide) ?_
    refine e_aload_n dX8_tickOnce_228 rfl ?_
    refine e_get (w := .ref 187) (j := 24) dX8_tickOnce_229 k0_174 rc8 (by decide) wfX8_50 (g0_174_24) ?_
    refine e_sipush (x := (289 : Int32)) dX8_tickOnce_232 (by decide) ?_
    refine e_ialdJ dX8_tickOnce_235 k0_187 (j := 289) (by decide) (by decide) (by decide) ?_
    refine e_iastJ dX8_tickOnce_236 k0_187 (j := 291) (by decide) (by decide) (by decide) ?_
    obtain ⟨v4, ev4, h⟩ := vlet_ex h
    refine e_nameV ev4.symm ?_
    clear ev4
    obtain rfl := Option.some.inj h
    exact e_ret dX8_tickOnce_237 rfl ⟨rfl, rfl, rfl⟩
set_option maxRecDepth 20000 in
theorem b_X8_tickOnce_148 {X : Nat × (Nat → Int32)} {r : rV} {v : rV} {q103 : rV → Int32 → Int32 → Option (rV)} (hq103 : ∀ (v : rV) (a2 : Int32) (a3 : Int32) , q103 v a2 a3 = some r → Ev mX8_tickOnce 7 0 0 103 [(0, .ref 174), (2, .int a2), (3, .int a3)] [] (rZ X) v (rPV X r)) {a2 : Int32} {a3 : Int32} {a4 : Int32} {s0 : Int32}  (h : f_X8_tickOnce_148 q103 v a2 a3 a4 s0 = some r) : Ev mX8_tickOnce 7 0 0 148 [(0, .ref 174), (2, .int a2), (3, .int a3), (4, .int a4)] [.int s0, .ref 187] (rZ X) v (rPV X r) := by
  unfold f_X8_tickOnce_148 at h
  refine e_iload_n dX8_tickOnce_148 rfl ?_
  refine e_iadd dX8_tickOnce_149 ?_
  obtain ⟨x12, ex12, h⟩ := vlet_ex h
  refine e_nameI ex12.symm ?_
  clear ex12
  refine e_dup2 dX8_tickOnce_150 rfl rfl ?_
  obtain ⟨c13, h⟩ := grd h
  refine e_ialdJ dX8_tickOnce_151 k0_187 rfl c13.2 c13.1 ?_
  refine e_iload dX8_tickOnce_152 rfl ?_
  refine e_iadd dX8_tickOnce_154 ?_
  refine e_iastJ dX8_tickOnce_155 k0_187 rfl (c13).2 (c13).1 ?_
  obtain ⟨v14, ev14, h⟩ := vlet_ex h
  refine e_nameV ev14.symm ?_
  clear ev14
  refine e_iload_n dX8_tickOnce_156 rfl ?_
  refine e_iload dX8_tickOnce_157 rfl ?_
  refine e_iadd dX8_tickOnce_159 ?_
  obtain ⟨x15, ex15, h⟩ := vlet_ex h
  refine e_nameI ex15.symm ?_
  clear ex15
  refine e_istore_n (lv' := [(2, .int x15), (0, .ref 174), (3, .int a3), (4, .int a4)]) dX8_tickOnce_160 (by decide) rfl ?_
  obtain ⟨x16, ex16, h⟩ := vlet_ex h
  refine e_iinc (lv' := [(3, .int x16), (2, .int x15), (0, .ref 174), (4, .int a4)]) dX8_tickOnce_161 rfl (ex16.symm) (by decide) rfl ?_
  clear ex16
  refine e_goto (tgt := 103) dX8_tickOnce_164 (by decide) ?_
  refine e_sub [2, 1, 0] rfl ?_
  exact hq103 v14 x15 x16 h
set_option maxRecDepth 20000 in
theorem b_X8_tickOnce_103 {X : Nat × (Nat → Int32)} {r : rV}   : ∀ (n : Nat) (v : rV) (a2 : Int32) (a3 : Int32) , f_X8_tickOnce_103   n v a2 a3 = some r → Ev mX8_tickOnce 7 0 0 103 [(0, .ref 174), (2, .int a2), (3, .int a3)] [] (rZ X) v (rPV X r) := by
  intro n
  induction n with
  | zero =>
    intros
    rename_i h
    cases h
  | succ n ih =>
    intro v a2 a3 h
    rw [f_X8_tickOnce_103] at h
    refine e_iload_n dX8_tickOnce_103 rfl ?_
    refine e_bipush (x := (24 : Int32)) dX8_tickOnce_104 (by decide) ?_
    refine e_icmp_ge (tgt := 167) dX8_tickOnce_106 (by decide) (fun c18 => ?_) (fun c18 => ?_)
    · rw [if_pos c18] at h
      refine e_aload_n dX8_tickOnce_167 rfl ?_
      refine e_get (w := .ref 187) (j := 24) dX8_tickOnce_168 k0_174 rc8 (by decide) wfX8_50 (g0_174_24) ?_
      refine e_sipush (x := (289 : Int32)) dX8_tickOnce_171 (by decide) ?_
      refine e_ialdJ dX8_tickOnce_174 k0_187 (j := 289) (by decide) (by decide) (by decide) ?_
      refine e_bipush (x := (120 : Int32)) dX8_tickOnce_175 (by decide) ?_
      refine e_icmp_gt (tgt := 200) dX8_tickOnce_177 (by decide) (fun c8 => ?_) (fun c8 => ?_)
      · rw [if_pos c8] at h
        refine e_sub [0, 1] rfl ?_
        exact b_X8_tickOnce_200  h
      · rw [if_neg c8] at h
        refine e_aload_n dX8_tickOnce_180 rfl ?_
        refine e_get (w := .ref 187) (j := 24) dX8_tickOnce_181 k0_174 rc8 (by decide) wfX8_50 (g0_174_24) ?_
        refine e_sipush (x := (296 : Int32)) dX8_tickOnce_184 (by decide) ?_
        refine e_aload_n dX8_tickOnce_187 rfl ?_
        refine e_get (w := .ref 187) (j := 24) dX8_tickOnce_188 k0_174 rc8 (by decide) wfX8_50 (g0_174_24) ?_
        refine e_sipush (x := (289 : Int32)) dX8_tickOnce_191 (by decide) ?_
        refine e_ialdJ dX8_tickOnce_194 k0_187 (j := 289) (by decide) (by decide) (by decide) ?_
        refine e_iadd dX8_tickOnce_195 ?_
        refine e_iconst (x := (1 : Int32)) dX8_tickOnce_196 (by decide) ?_
        refine e_isub dX8_tickOnce_197 ?_
        refine e_iload_n dX8_tickOnce_198 rfl ?_
        obtain ⟨c6, h⟩ := grd h
        refine e_iastJ dX8_tickOnce_199 k0_187 rfl c6.2 c6.1 ?_
        obtain ⟨v7, ev7, h⟩ := vlet_ex h
        refine e_nameV ev7.symm ?_
        clear ev7
        refine e_sub [0, 1] rfl ?_
        exact b_X8_tickOnce_200  h
    · rw [if_neg c18] at h
      refine e_aload_n dX8_tickOnce_109 rfl ?_
      refine e_get (w := .ref 193) (j := 35) dX8_tickOnce_110 k0_174 rc8 (by decide) wfX8_68 (g0_174_35) ?_
      refine e_iload_n dX8_tickOnce_113 rfl ?_
      obtain ⟨c9, h⟩ := grd h
      refine e_ialdJ dX8_tickOnce_114 k0_193 rfl c9.2 c9.1 ?_
      refine e_aload_n dX8_tickOnce_115 rfl ?_
      refine e_get (w := .ref 193) (j := 35) dX8_tickOnce_116 k0_174 rc8 (by decide) wfX8_68 (g0_174_35) ?_
      refine e_bipush (x := (24 : Int32)) dX8_tickOnce_119 (by decide) ?_
      refine e_iload_n dX8_tickOnce_121 rfl ?_
      refine e_iadd dX8_tickOnce_122 ?_
      obtain ⟨c10, h⟩ := grd h
      refine e_ialdJ dX8_tickOnce_123 k0_193 rfl c10.2 c10.1 ?_
      refine e_iadd dX8_tickOnce_124 ?_
      obtain ⟨x11, ex11, h⟩ := vlet_ex h
      refine e_nameI ex11.symm ?_
      clear ex11
      refine e_istore (lv' := [(4, .int x11), (0, .ref 174), (2, .int a2), (3, .int a3)]) dX8_tickOnce_125 (by decide) rfl ?_
      refine e_aload_n dX8_tickOnce_127 rfl ?_
      refine e_get (w := .ref 187) (j := 24) dX8_tickOnce_128 k0_174 rc8 (by decide) wfX8_50 (g0_174_24) ?_
      refine e_iload dX8_tickOnce_131 rfl ?_
      refine e_aload_n dX8_tickOnce_133 rfl ?_
      refine e_get (w := .int (v.1 174 23)) (j := 23) dX8_tickOnce_134 k0_174 rc8 (by decide) wfX8_46 rfl ?_
      refine e_icmp_gt (tgt := 145) dX8_tickOnce_137 (by decide) (fun c17 => ?_) (fun c17 => ?_)
      · rw [if_pos c17] at h
        refine e_sipush (x := (144 : Int32)) dX8_tickOnce_145 (by decide) ?_
        refine e_sub [1, 2, 3, 0] rfl ?_
        exact b_X8_tickOnce_148 (fun v a2 a3  hh => ih v a2 a3  hh) h
      · rw [if_neg c17] at h
        refine e_bipush (x := (120 : Int32)) dX8_tickOnce_140 (by decide) ?_
        refine e_goto (tgt := 148) dX8_tickOnce_142 (by decide) ?_
        refine e_sub [1, 2, 3, 0] rfl ?_
        exact b_X8_tickOnce_148 (fun v a2 a3  hh => ih v a2 a3  hh) h
set_option maxRecDepth 20000 in
theorem b_X8_tickOnce_53 {X : Nat × (Nat → Int32)} {r : rV}   : ∀ (n : Nat) (v : rV) (a1 : Int32) , f_X8_tickOnce_53   n v a1 = some r → Ev mX8_tickOnce 7 0 0 53 [(0, .ref 174), (1, .int a1)] [] (rZ X) v (rPV X r) := by
  intro n
  induction n with
  | zero =>
    intros
    rename_i h
    cases h
  | succ n ih =>
    intro v a1 h
    rw [f_X8_tickOnce_53] at h
    refine e_iload_n dX8_tickOnce_53 rfl ?_
    refine e_aload_n dX8_tickOnce_54 rfl ?_
    refine e_get (w := .ref 187) (j := 24) dX8_tickOnce_55 k0_174 rc8 (by decide) wfX8_50 (g0_174_24) ?_
    refine e_sipush (x := (288 : Int32)) dX8_tickOnce_58 (by decide) ?_
    refine e_ialdJ dX8_tickOnce_61 k0_187 (j := 288) (by decide) (by decide) (by decide) ?_
    refine e_icmp_ge (tgt := 87) dX8_tickOnce_62 (by decide) (fun c23 => ?_) (fun c23 => ?_)
    · rw [if_pos c23] at h
      refine e_aload_n dX8_tickOnce_87 rfl ?_
      refine e_get (w := .ref 187) (j := 24) dX8_tickOnce_88 k0_174 rc8 (by decide) wfX8_50 (g0_174_24) ?_
      refine e_sipush (x := (289 : Int32)) dX8_tickOnce_91 (by decide) ?_
      refine e_dup2 dX8_tickOnce_94 rfl rfl ?_
      refine e_ialdJ dX8_tickOnce_95 k0_187 (j := 289) (by decide) (by decide) (by decide) ?_
      refine e_iconst (x := (1 : Int32)) dX8_tickOnce_96 (by decide) ?_
      refine e_iadd dX8_tickOnce_97 ?_
      refine e_iastJ dX8_tickOnce_98 k0_187 (j := 289) (by decide) (by decide) (by decide) ?_
      obtain ⟨v2, ev2, h⟩ := vlet_ex h
      refine e_nameV ev2.symm ?_
      clear ev2
      refine e_iconst (x := (0 : Int32)) dX8_tickOnce_99 (by decide) ?_
      refine e_istore_n (lv' := [(2, .int (0 : Int32)), (0, .ref 174), (1, .int a1)]) dX8_tickOnce_100 (by decide) rfl ?_
      refine e_iconst (x := (0 : Int32)) dX8_tickOnce_101 (by decide) ?_
      refine e_istore_n (lv' := [(3, .int (0 : Int32)), (2, .int (0 : Int32)), (0, .ref 174), (1, .int a1)]) dX8_tickOnce_102 (by decide) rfl ?_
      refine e_sub [2, 1, 0] rfl ?_
      exact b_X8_tickOnce_103  _ v2 (0 : Int32) (0 : Int32) h
    · rw [if_neg c23] at h
      refine e_aload_n dX8_tickOnce_65 rfl ?_
      refine e_iload_n dX8_tickOnce_66 rfl ?_
      obtain ⟨p19, ep19, h⟩ := Option.bind_eq_some_iff.mp h
      refine c_VZ (M' := mX8_goes) [.int a1] dX8_tickOnce_67 rfl wmX8_341 imX8_goes seX8_goes lkX8_goes k0_174 rc8 (Nat.le_of_ble_eq_true rfl) ((x_X8_goes  ep19).mono (by omega)) ?_
      refine e_if_eq (tgt := 79) dX8_tickOnce_70 (by decide) (fun c22 => ?_) (fun c22 => ?_)
      · rw [if_neg (bI_n c22)] at h
        refine e_aload_n dX8_tickOnce_79 rfl ?_
        refine e_iload_n dX8_tickOnce_80 rfl ?_
        obtain ⟨p20, ep20, h⟩ := Option.bind_eq_some_iff.mp h
        refine c_VV (M' := mX8_remove) [.int a1] dX8_tickOnce_81 rfl wmX8_344 imX8_remove seX8_remove lkX8_remove k0_174 rc8 (Nat.le_of_ble_eq_true rfl) ((x_X8_remove  ep20).mono (by omega)) ?_
        refine e_goto (tgt := 53) dX8_tickOnce_84 (by decide) ?_
        exact ih p20 a1 h
      · rw [if_pos (bI_p c22)] at h
        obtain ⟨x21, ex21, h⟩ := vlet_ex h
        refine e_iinc (lv' := [(1, .int x21), (0, .ref 174)]) dX8_tickOnce_73 rfl (ex21.symm) (by decide) rfl ?_
        clear ex21
        refine e_goto (tgt := 53) dX8_tickOnce_76 (by decide) ?_
        refine e_sub [1, 0] rfl ?_
        exact ih p19.2 x21 h
set_option maxRecDepth 20000 in
theorem b_X8_tickOnce_2 {X : Nat × (Nat → Int32)} {r : rV}   : ∀ (n : Nat) (v : rV) (a1 : Int32) , f_X8_tickOnce_2   n v a1 = some r → Ev mX8_tickOnce 7 0 0 2 [(0, .ref 174), (1, .int a1)] [] (rZ X) v (rPV X r) := by
  intro n
  induction n with
  | zero =>
    intros
    rename_i h
    cases h
  | succ n ih =>
    intro v a1 h
    rw [f_X8_tickOnce_2] at h
    refine e_iload_n dX8_tickOnce_2 rfl ?_
    refine e_bipush (x := (24 : Int32)) dX8_tickOnce_3 (by decide) ?_
    refine e_icmp_ge (tgt := 42) dX8_tickOnce_5 (by decide) (fun c31 => ?_) (fun c31 => ?_)
    · rw [if_pos c31] at h
      refine e_aload_n dX8_tickOnce_42 rfl ?_
      refine e_get (w := .ref 187) (j := 24) dX8_tickOnce_43 k0_174 rc8 (by decide) wfX8_50 (g0_174_24) ?_
      refine e_sipush (x := (293 : Int32)) dX8_tickOnce_46 (by decide) ?_
      refine e_iconst (x := (0 : Int32)) dX8_tickOnce_49 (by decide) ?_
      refine e_iastJ dX8_tickOnce_50 k0_187 (j := 293) (by decide) (by decide) (by decide) ?_
      obtain ⟨v1, ev1, h⟩ := vlet_ex h
      refine e_nameV ev1.symm ?_
      clear ev1
      refine e_iconst (x := (0 : Int32)) dX8_tickOnce_51 (by decide) ?_
      refine e_istore_n (lv' := [(1, .int (0 : Int32)), (0, .ref 174)]) dX8_tickOnce_52 (by decide) rfl ?_
      refine e_sub [1, 0] rfl ?_
      exact b_X8_tickOnce_53  _ v1 (0 : Int32) h
    · rw [if_neg c31] at h
      refine e_aload_n dX8_tickOnce_8 rfl ?_
      refine e_get (w := .ref 187) (j := 24) dX8_tickOnce_9 k0_174 rc8 (by decide) wfX8_50 (g0_174_24) ?_
      refine e_sipush (x := (168 : Int32)) dX8_tickOnce_12 (by decide) ?_
      refine e_iload_n dX8_tickOnce_15 rfl ?_
      refine e_iadd dX8_tickOnce_16 ?_
      refine e_iconst (x := (0 : Int32)) dX8_tickOnce_17 (by decide) ?_
      obtain ⟨c24, h⟩ := grd h
      refine e_iastJ dX8_tickOnce_18 k0_187 rfl c24.2 c24.1 ?_
      obtain ⟨v25, ev25, h⟩ := vlet_ex h
      refine e_nameV ev25.symm ?_
      clear ev25
      refine e_aload_n dX8_tickOnce_19 rfl ?_
      refine e_get (w := .ref 193) (j := 35) dX8_tickOnce_20 k0_174 rc8 (by decide) wfX8_68 (g0_174_35) ?_
      refine e_iload_n dX8_tickOnce_23 rfl ?_
      refine e_iconst (x := (0 : Int32)) dX8_tickOnce_24 (by decide) ?_
      obtain ⟨c26, h⟩ := grd h
      refine e_iastJ dX8_tickOnce_25 k0_193 rfl c26.2 c26.1 ?_
      obtain ⟨v27, ev27, h⟩ := vlet_ex h
      refine e_nameV ev27.symm ?_
      clear ev27
      refine e_aload_n dX8_tickOnce_26 rfl ?_
      refine e_get (w := .ref 193) (j := 35) dX8_tickOnce_27 k0_174 rc8 (by decide) wfX8_68 (g0_174_35) ?_
      refine e_bipush (x := (24 : Int32)) dX8_tickOnce_30 (by decide) ?_
      refine e_iload_n dX8_tickOnce_32 rfl ?_
      refine e_iadd dX8_tickOnce_33 ?_
      refine e_iconst (x := (0 : Int32)) dX8_tickOnce_34 (by decide) ?_
      obtain ⟨c28, h⟩ := grd h
      refine e_iastJ dX8_tickOnce_35 k0_193 rfl c28.2 c28.1 ?_
      obtain ⟨v29, ev29, h⟩ := vlet_ex h
      refine e_nameV ev29.symm ?_
      clear ev29
      obtain ⟨x30, ex30, h⟩ := vlet_ex h
      refine e_iinc (lv' := [(1, .int x30), (0, .ref 174)]) dX8_tickOnce_36 rfl (ex30.symm) (by decide) rfl ?_
      clear ex30
      refine e_goto (tgt := 2) dX8_tickOnce_39 (by decide) ?_
      refine e_sub [1, 0] rfl ?_
      exact ih v29 x30 h
set_option maxRecDepth 20000 in
theorem x_X8_tickOnce {X : Nat × (Nat → Int32)} {v : rV} {r : rV}   (h : f_X8_tickOnce v = some r) : EvM mX8_tickOnce 7 0 0 [.ref 174] (rZ X) v (rPV X r) := by
  refine evm_of (by decide +kernel) (fun G => Nat.le_of_ble_eq_true rfl) ?_
  show Ev mX8_tickOnce 7 0 0 0 [(0, .ref 174)] [] (rZ X) v _
  unfold f_X8_tickOnce at h
  refine e_iconst (x := (0 : Int32)) dX8_tickOnce_0 (by decide) ?_
  refine e_istore_n (lv' := [(1, .int (0 : Int32)), (0, .ref 174)]) dX8_tickOnce_1 (by decide) rfl ?_
  refine e_sub [1, 0] rfl ?_
  exact b_X8_tickOnce_2  _ v (0 : Int32) h
def f_X8_run_2   : Nat → rV → Int32 → Int32 → Option (Int32 × rV)
  | 0, _, _, _ => none
  | n + 1, v, a1, a2 => if a1 ≤ a2 then
  (some (a2, v))
else
  (if (v.1 187 288) ≤ 0 then
  (some (a2, v))
else
  ((f_X8_tickOnce v).bind fun p1 =>
  vlet (a2 + (1 : Int32)) fun x2 =>
  f_X8_run_2  n p1 a1 x2))
def f_X8_run (v : rV) (a1 : Int32) : Option (Int32 × rV) := f_X8_run_2  20000 v a1 (0 : Int32)
set_option maxRecDepth 20000 in
theorem b_X8_run_2 {X : Nat × (Nat → Int32)} {r : Int32 × rV}   : ∀ (n : Nat) (v : rV) (a1 : Int32) (a2 : Int32) , f_X8_run_2   n v a1 a2 = some r → Ev mX8_run 8 0 0 2 [(0, .ref 174), (1, .int a1), (2, .int a2)] [] (rZ X) v (rPI X r) := by
  intro n
  induction n with
  | zero =>
    intros
    rename_i h
    cases h
  | succ n ih =>
    intro v a1 a2 h
    rw [f_X8_run_2] at h
    refine e_iload_n dX8_run_2 rfl ?_
    refine e_iload_n dX8_run_3 rfl ?_
    refine e_icmp_ge (tgt := 28) dX8_run_4 (by decide) (fun c4 => ?_) (fun c4 => ?_)
    · rw [if_pos c4] at h
      refine e_iload_n dX8_run_28 rfl ?_
      obtain rfl := Option.some.inj h
      exact e_iret dX8_run_29 rfl rfl ⟨rfl, rfl, rfl⟩
    · rw [if_neg c4] at h
      refine e_aload_n dX8_run_7 rfl ?_
      refine e_get (w := .ref 187) (j := 24) dX8_run_8 k0_174 rc8 (by decide) wfX8_50 (g0_174_24) ?_
      refine e_sipush (x := (288 : Int32)) dX8_run_11 (by decide) ?_
      refine e_ialdJ dX8_run_14 k0_187 (j := 288) (by decide) (by decide) (by decide) ?_
      refine e_if_le (tgt := 28) dX8_run_15 (by decide) (fun c3 => ?_) (fun c3 => ?_)
      · rw [if_pos c3] at h
        refine e_iload_n dX8_run_28 rfl ?_
        obtain rfl := Option.some.inj h
        exact e_iret dX8_run_29 rfl rfl ⟨rfl, rfl, rfl⟩
      · rw [if_neg c3] at h
        refine e_aload_n dX8_run_18 rfl ?_
        obtain ⟨p1, ep1, h⟩ := Option.bind_eq_some_iff.mp h
        refine c_VV (M' := mX8_tickOnce) [] dX8_run_19 rfl wmX8_347 imX8_tickOnce seX8_tickOnce lkX8_tickOnce k0_174 rc8 (Nat.le_of_ble_eq_true rfl) ((x_X8_tickOnce  ep1).mono (by omega)) ?_
        obtain ⟨x2, ex2, h⟩ := vlet_ex h
        refine e_iinc (lv' := [(2, .int x2), (0, .ref 174), (1, .int a1)]) dX8_run_22 rfl (ex2.symm) (by decide) rfl ?_
        clear ex2
        refine e_goto (tgt := 2) dX8_run_25 (by decide) ?_
        refine e_sub [1, 2, 0] rfl ?_
        exact ih p1 a1 x2 h
set_option maxRecDepth 20000 in
theorem x_X8_run {X : Nat × (Nat → Int32)} {v : rV} {r : Int32 × rV} {a1 : Int32}  (h : f_X8_run v a1 = some r) : EvM mX8_run 8 0 0 [.ref 174, .int a1] (rZ X) v (rPI X r) := by
  refine evm_of (by decide +kernel) (fun G => Nat.le_of_ble_eq_true rfl) ?_
  show Ev mX8_run 8 0 0 0 [(0, .ref 174), (1, .int a1)] [] (rZ X) v _
  unfold f_X8_run at h
  refine e_iconst (x := (0 : Int32)) dX8_run_0 (by decide) ?_
  refine e_istore_n (lv' := [(2, .int (0 : Int32)), (0, .ref 174), (1, .int a1)]) dX8_run_1 (by decide) rfl ?_
  refine e_sub [1, 2, 0] rfl ?_
  exact b_X8_run_2  _ v a1 (0 : Int32) h
def f_X8_tryOut (v : rV) (a1 : Int32) (a2 : Int64) (a4 : Int32) : Option (rV) := (f_X8_begin v a1 a2).bind fun p1 =>
  (f_X8_run p1 a4).bind fun p2 =>
  some p2.2
set_option maxRecDepth 20000 in
theorem x_X8_tryOut {X : Nat × (Nat → Int32)} {v : rV} {r : rV} {a1 : Int32} {a2 : Int64} {a4 : Int32}  (h : f_X8_tryOut v a1 a2 a4 = some r) : EvM mX8_tryOut 9 0 0 [.ref 174, .int a1, .long a2, .int a4] (rZ X) v (rPV X r) := by
  refine evm_of (by decide +kernel) (fun G => Nat.le_of_ble_eq_true rfl) ?_
  show Ev mX8_tryOut 9 0 0 0 [(0, .ref 174), (1, .int a1), (2, .long a2), (4, .int a4)] [] (rZ X) v _
  unfold f_X8_tryOut at h
  refine e_aload_n dX8_tryOut_0 rfl ?_
  refine e_iload_n dX8_tryOut_1 rfl ?_
  refine e_lload_n dX8_tryOut_2 rfl ?_
  obtain ⟨p1, ep1, h⟩ := Option.bind_eq_some_iff.mp h
  refine c_VV (M' := mX8_begin) [.int a1, .long a2] dX8_tryOut_3 rfl wmX8_281 imX8_begin seX8_begin lkX8_begin k0_174 rc8 (Nat.le_of_ble_eq_true rfl) ((x_X8_begin  ep1).mono (by omega)) ?_
  refine e_aload_n dX8_tryOut_6 rfl ?_
  refine e_iload dX8_tryOut_7 rfl ?_
  obtain ⟨p2, ep2, h⟩ := Option.bind_eq_some_iff.mp h
  refine c_VI (M' := mX8_run) [.int a4] dX8_tryOut_9 rfl wmX8_350 imX8_run seX8_run lkX8_run k0_174 rc8 (Nat.le_of_ble_eq_true rfl) ((x_X8_run  ep2).mono (by omega)) ?_
  refine e_pop dX8_tryOut_12 rfl ?_
  obtain rfl := Option.some.inj h
  exact e_ret dX8_tryOut_13 rfl ⟨rfl, rfl, rfl⟩
def f_X8_takeBack_2   : Nat → rV → Int32 → Option (rV)
  | 0, _, _ => none
  | n + 1, v, a1 => if (416 : Int32) ≤ a1 then
  (vlet (rL v 174 27 (v.2.1 174 28)) fun v1 =>
  some v1)
else
  (if ¬ a1 < 0 ∧ a1.toNatClampNeg < 416 then
  (vlet (rI v 187 a1.toNatClampNeg (v.1 188 a1.toNatClampNeg)) fun v3 =>
  vlet (a1 + (1 : Int32)) fun x4 =>
  f_X8_takeBack_2  n v3 x4)
else none)
def f_X8_takeBack (v : rV)  : Option (rV) := f_X8_takeBack_2  20000 v (0 : Int32)
set_option maxRecDepth 20000 in
theorem b_X8_takeBack_2 {X : Nat × (Nat → Int32)} {r : rV}   : ∀ (n : Nat) (v : rV) (a1 : Int32) , f_X8_takeBack_2   n v a1 = some r → Ev mX8_takeBack 1 0 0 2 [(0, .ref 174), (1, .int a1)] [] (rZ X) v (rPV X r) := by
  intro n
  induction n with
  | zero =>
    intros
    rename_i h
    cases h
  | succ n ih =>
    intro v a1 h
    rw [f_X8_takeBack_2] at h
    refine e_iload_n dX8_takeBack_2 rfl ?_
    refine e_sipush (x := (416 : Int32)) dX8_takeBack_3 (by decide) ?_
    refine e_icmp_ge (tgt := 27) dX8_takeBack_6 (by decide) (fun c5 => ?_) (fun c5 => ?_)
    · rw [if_pos c5] at h
      refine e_aload_n dX8_takeBack_27 rfl ?_
      refine e_aload_n dX8_takeBack_28 rfl ?_
      refine e_get (w := .long (v.2.1 174 28)) (j := 28) dX8_takeBack_29 k0_174 rc8 (by decide) wfX8_378 rfl ?_
      refine e_putL (j := 27) dX8_takeBack_32 k0_174 rc8 (by decide) wfX8_254 rfl rfl ?_
      obtain ⟨v1, ev1, h⟩ := vlet_ex h
      refine e_nameV ev1.symm ?_
      clear ev1
      obtain rfl := Option.some.inj h
      exact e_ret dX8_takeBack_35 rfl ⟨rfl, rfl, rfl⟩
    · rw [if_neg c5] at h
      refine e_aload_n dX8_takeBack_9 rfl ?_
      refine e_get (w := .ref 187) (j := 24) dX8_takeBack_10 k0_174 rc8 (by decide) wfX8_50 (g0_174_24) ?_
      refine e_iload_n dX8_takeBack_13 rfl ?_
      refine e_aload_n dX8_takeBack_14 rfl ?_
      refine e_get (w := .ref 188) (j := 25) dX8_takeBack_15 k0_174 rc8 (by decide) wfX8_53 (g0_174_25) ?_
      refine e_iload_n dX8_takeBack_18 rfl ?_
      obtain ⟨c2, h⟩ := grd h
      refine e_ialdJ dX8_takeBack_19 k0_188 rfl c2.2 c2.1 ?_
      refine e_iastJ dX8_takeBack_20 k0_187 rfl (c2).2 (c2).1 ?_
      obtain ⟨v3, ev3, h⟩ := vlet_ex h
      refine e_nameV ev3.symm ?_
      clear ev3
      obtain ⟨x4, ex4, h⟩ := vlet_ex h
      refine e_iinc (lv' := [(1, .int x4), (0, .ref 174)]) dX8_takeBack_21 rfl (ex4.symm) (by decide) rfl ?_
      clear ex4
      refine e_goto (tgt := 2) dX8_takeBack_24 (by decide) ?_
      refine e_sub [1, 0] rfl ?_
      exact ih v3 x4 h
set_option maxRecDepth 20000 in
theorem x_X8_takeBack {X : Nat × (Nat → Int32)} {v : rV} {r : rV}   (h : f_X8_takeBack v = some r) : EvM mX8_takeBack 1 0 0 [.ref 174] (rZ X) v (rPV X r) := by
  refine evm_of (by decide +kernel) (fun G => Nat.le_of_ble_eq_true rfl) ?_
  show Ev mX8_takeBack 1 0 0 0 [(0, .ref 174)] [] (rZ X) v _
  unfold f_X8_takeBack at h
  refine e_iconst (x := (0 : Int32)) dX8_takeBack_0 (by decide) ?_
  refine e_istore_n (lv' := [(1, .int (0 : Int32)), (0, .ref 174)]) dX8_takeBack_1 (by decide) rfl ?_
  refine e_sub [1, 0] rfl ?_
  exact b_X8_takeBack_2  _ v (0 : Int32) h
def f_X8_alike_210  (q133 : rV → Int32 → Int32 → Int32 → Int32 → Int32 → Int32 → Option (Int32 × rV)) (v : rV) (a2 : Int32) (a3 : Int32) (a7 : Int32) (a8 : Int32) (a10 : Int32) (s0 : Int32) (s1 : Int32) : Option (Int32 × rV) := vlet (s1 + s0 : Int32) fun x18 =>
  vlet (a10 + (1 : Int32)) fun x19 =>
  q133 v a2 a3 a7 a8 x18 x19
def f_X8_alike_187  (q133 : rV → Int32 → Int32 → Int32 → Int32 → Int32 → Int32 → Option (Int32 × rV)) (v : rV) (a2 : Int32) (a3 : Int32) (a7 : Int32) (a8 : Int32) (a9 : Int32) (a10 : Int32) (s0 : Int32) : Option (Int32 × rV) := (f_X8_laidIn v (a8 + a10)).bind fun p17 =>
  if s0 = p17 then
  (f_X8_alike_210 q133 v a2 a3 a7 a8 a10 (1 : Int32) a9)
else
  (f_X8_alike_210 q133 v a2 a3 a7 a8 a10 (0 : Int32) a9)
def f_X8_alike_133   : Nat → rV → Int32 → Int32 → Int32 → Int32 → Int32 → Int32 → Option (Int32 × rV)
  | 0, _, _, _, _, _, _, _ => none
  | n + 1, v, a2, a3, a7, a8, a9, a10 => if ¬ (((12 : Int32) * a2) + (1 : Int32)) < 0 ∧ (((12 : Int32) * a2) + (1 : Int32)).toNatClampNeg < 156 then
  (if ¬ (((12 : Int32) * a3) + (1 : Int32)) < 0 ∧ (((12 : Int32) * a3) + (1 : Int32)).toNatClampNeg < 156 then
  (if (if (v.1 185 ((((12 : Int32) * a2) + (1 : Int32)).toNatClampNeg)) < (v.1 185 ((((12 : Int32) * a3) + (1 : Int32)).toNatClampNeg)) then (v.1 185 ((((12 : Int32) * a3) + (1 : Int32)).toNatClampNeg)) else (v.1 185 ((((12 : Int32) * a2) + (1 : Int32)).toNatClampNeg))) ≤ a10 then
  ((f_X8_takeBack v).bind fun p16 =>
  some (a9, p16))
else
  (if (24 : Int32) ≤ (a7 + a10) then
  (f_X8_alike_187 (fun v a2 a3 a7 a8 a9 a10 => f_X8_alike_133  n v a2 a3 a7 a8 a9 a10) v a2 a3 a7 a8 a9 a10 (0 : Int32))
else
  (if ¬ (a7 + a10) < 0 ∧ (a7 + a10).toNatClampNeg < 24 then
  (f_X8_alike_187 (fun v a2 a3 a7 a8 a9 a10 => f_X8_alike_133  n v a2 a3 a7 a8 a9 a10) v a2 a3 a7 a8 a9 a10 (v.1 196 ((a7 + a10).toNatClampNeg)))
else none)))
else none)
else none
def f_X8_alike_58   : Nat → rV → Int32 → Int32 → Int32 → Int64 → Int32 → Int32 → Option (Int32 × rV)
  | 0, _, _, _, _, _, _, _ => none
  | n + 1, v, a1, a2, a3, a4, a6, a7 => if (24 : Int32) ≤ a7 then
  ((f_X8_gather v ((1 : Int32) <<< (a3 &&& 31))).bind fun p8 =>
  (f_X8_tryOut p8.2 a1 a4 a6).bind fun p9 =>
  if ¬ (((12 : Int32) * a2) + (0 : Int32)) < 0 ∧ (((12 : Int32) * a2) + (0 : Int32)).toNatClampNeg < 156 then
  (vlet (p9.1 185 ((((12 : Int32) * a2) + (0 : Int32)).toNatClampNeg) : Int32) fun x11 =>
  if ¬ (((12 : Int32) * a3) + (0 : Int32)) < 0 ∧ (((12 : Int32) * a3) + (0 : Int32)).toNatClampNeg < 156 then
  (vlet (p9.1 185 ((((12 : Int32) * a3) + (0 : Int32)).toNatClampNeg) : Int32) fun x13 =>
  f_X8_alike_133  20000 p9 a2 a3 x11 x13 (0 : Int32) (0 : Int32))
else none)
else none)
else
  ((f_X8_laidIn v a7).bind fun p24 =>
  if ¬ a7 < 0 ∧ a7.toNatClampNeg < 24 then
  (vlet (rI v 196 a7.toNatClampNeg p24) fun v26 =>
  vlet (a7 + (1 : Int32)) fun x27 =>
  f_X8_alike_58  n v26 a1 a2 a3 a4 a6 x27)
else none)
def f_X8_alike (v : rV) (a1 : Int32) (a2 : Int32) (a3 : Int32) (a4 : Int64) (a6 : Int32) : Option (Int32 × rV) := if (f_X8_isLaw v a1) = true then
  (if (f_X8_isDrop v a2) = true then
  (if (f_X8_isDrop v a3) = true then
  (if (f_X8_areTicks a6) = true then
  ((f_X8_putAside v).bind fun p5 =>
  (f_X8_gather p5 ((1 : Int32) <<< (a2 &&& 31))).bind fun p6 =>
  (f_X8_tryOut p6.2 a1 a4 a6).bind fun p7 =>
  f_X8_alike_58  20000 p7 a1 a2 a3 a4 a6 (0 : Int32))
else
  (some ((-1 : Int32), v)))
else
  (some ((-1 : Int32), v)))
else
  (some ((-1 : Int32), v)))
else
  (some ((-1 : Int32), v))
set_option maxRecDepth 20000 in
theorem b_X8_alike_210 {X : Nat × (Nat → Int32)} {r : Int32 × rV} {v : rV} {q133 : rV → Int32 → Int32 → Int32 → Int32 → Int32 → Int32 → Option (Int32 × rV)} (hq133 : ∀ (v : rV) (a2 : Int32) (a3 : Int32) (a7 : Int32) (a8 : Int32) (a9 : Int32) (a10 : Int32) , q133 v a2 a3 a7 a8 a9 a10 = some r → Ev mX8_alike 10 0 0 133 [(0, .ref 174), (2, .int a2), (3, .int a3), (7, .int a7), (8, .int a8), (9, .int a9), (10, .int a10)] [] (rZ X) v (rPI X r)) {a2 : Int32} {a3 : Int32} {a7 : Int32} {a8 : Int32} {a10 : Int32} {s0 : Int32} {s1 : Int32}  (h : f_X8_alike_210 q133 v a2 a3 a7 a8 a10 s0 s1 = some r) : Ev mX8_alike 10 0 0 210 [(0, .ref 174), (2, .int a2), (3, .int a3), (7, .int a7), (8, .int a8), (10, .int a10)] [.int s0, .int s1] (rZ X) v (rPI X r) := by
  unfold f_X8_alike_210 at h
  refine e_iadd dX8_alike_210 ?_
  obtain ⟨x18, ex18, h⟩ := vlet_ex h
  refine e_nameI ex18.symm ?_
  clear ex18
  refine e_istore (lv' := [(9, .int x18), (0, .ref 174), (2, .int a2), (3, .int a3), (7, .int a7), (8, .int a8), (10, .int a10)]) dX8_alike_211 (by decide) rfl ?_
  obtain ⟨x19, ex19, h⟩ := vlet_ex h
  refine e_iinc (lv' := [(10, .int x19), (9, .int x18), (0, .ref 174), (2, .int a2), (3, .int a3), (7, .int a7), (8, .int a8)]) dX8_alike_213 rfl (ex19.symm) (by decide) rfl ?_
  clear ex19
  refine e_goto (tgt := 133) dX8_alike_216 (by decide) ?_
  refine e_sub [2, 3, 4, 5, 6, 1, 0] rfl ?_
  exact hq133 v a2 a3 a7 a8 x18 x19 h
set_option maxRecDepth 20000 in
theorem b_X8_alike_187 {X : Nat × (Nat → Int32)} {r : Int32 × rV} {v : rV} {q133 : rV → Int32 → Int32 → Int32 → Int32 → Int32 → Int32 → Option (Int32 × rV)} (hq133 : ∀ (v : rV) (a2 : Int32) (a3 : Int32) (a7 : Int32) (a8 : Int32) (a9 : Int32) (a10 : Int32) , q133 v a2 a3 a7 a8 a9 a10 = some r → Ev mX8_alike 10 0 0 133 [(0, .ref 174), (2, .int a2), (3, .int a3), (7, .int a7), (8, .int a8), (9, .int a9), (10, .int a10)] [] (rZ X) v (rPI X r)) {a2 : Int32} {a3 : Int32} {a7 : Int32} {a8 : Int32} {a9 : Int32} {a10 : Int32} {s0 : Int32}  (h : f_X8_alike_187 q133 v a2 a3 a7 a8 a9 a10 s0 = some r) : Ev mX8_alike 10 0 0 187 [(0, .ref 174), (2, .int a2), (3, .int a3), (7, .int a7), (8, .int a8), (9, .int a9), (10, .int a10)] [.int s0] (rZ X) v (rPI X r) := by
  unfold f_X8_alike_187 at h
  refine e_istore (lv' := [(11, .int s0), (0, .ref 174), (2, .int a2), (3, .int a3), (7, .int a7), (8, .int a8), (9, .int a9), (10, .int a10)]) dX8_alike_187 (by decide) rfl ?_
  refine e_iload dX8_alike_189 rfl ?_
  refine e_iload dX8_alike_191 rfl ?_
  refine e_aload_n dX8_alike_193 rfl ?_
  refine e_iload dX8_alike_194 rfl ?_
  refine e_iload dX8_alike_196 rfl ?_
  refine e_iadd dX8_alike_198 ?_
  obtain ⟨p17, ep17, h⟩ := Option.bind_eq_some_iff.mp h
  refine c_VI (M' := mX8_laidIn) [.int (a8 + a10)] dX8_alike_199 rfl wmX8_357 imX8_laidIn seX8_laidIn lkX8_laidIn k0_174 rc8 (Nat.le_of_ble_eq_true rfl) ((x_X8_laidIn  ep17).mono (by omega)) ?_
  refine e_icmp_ne (tgt := 209) dX8_alike_202 (by decide) (fun c20 => ?_) (fun c20 => ?_)
  · rw [if_neg c20] at h
    refine e_iconst (x := (0 : Int32)) dX8_alike_209 (by decide) ?_
    refine e_sub [1, 2, 3, 4, 5, 7] rfl ?_
    exact b_X8_alike_210 hq133 h
  · rw [if_pos c20] at h
    refine e_iconst (x := (1 : Int32)) dX8_alike_205 (by decide) ?_
    refine e_goto (tgt := 210) dX8_alike_206 (by decide) ?_
    refine e_sub [1, 2, 3, 4, 5, 7] rfl ?_
    exact b_X8_alike_210 hq133 h
set_option maxRecDepth 20000 in
theorem b_X8_alike_133 {X : Nat × (Nat → Int32)} {r : Int32 × rV}   : ∀ (n : Nat) (v : rV) (a2 : Int32) (a3 : Int32) (a7 : Int32) (a8 : Int32) (a9 : Int32) (a10 : Int32) , f_X8_alike_133   n v a2 a3 a7 a8 a9 a10 = some r → Ev mX8_alike 10 0 0 133 [(0, .ref 174), (2, .int a2), (3, .int a3), (7, .int a7), (8, .int a8), (9, .int a9), (10, .int a10)] [] (rZ X) v (rPI X r) := by
  intro n
  induction n with
  | zero =>
    intros
    rename_i h
    cases h
  | succ n ih =>
    intro v a2 a3 a7 a8 a9 a10 h
    rw [f_X8_alike_133] at h
    refine e_iload dX8_alike_133 rfl ?_
    refine e_aload_n dX8_alike_135 rfl ?_
    refine e_get (w := .ref 185) (j := 19) dX8_alike_136 k0_174 rc8 (by decide) wfX8_40 (g0_174_19) ?_
    refine e_bipush (x := (12 : Int32)) dX8_alike_139 (by decide) ?_
    refine e_iload_n dX8_alike_141 rfl ?_
    refine e_imul dX8_alike_142 ?_
    refine e_iconst (x := (1 : Int32)) dX8_alike_143 (by decide) ?_
    refine e_iadd dX8_alike_144 ?_
    obtain ⟨c14, h⟩ := grd h
    refine e_ialdJ dX8_alike_145 k0_185 rfl c14.2 c14.1 ?_
    refine e_aload_n dX8_alike_146 rfl ?_
    refine e_get (w := .ref 185) (j := 19) dX8_alike_147 k0_174 rc8 (by decide) wfX8_40 (g0_174_19) ?_
    refine e_bipush (x := (12 : Int32)) dX8_alike_150 (by decide) ?_
    refine e_iload_n dX8_alike_152 rfl ?_
    refine e_imul dX8_alike_153 ?_
    refine e_iconst (x := (1 : Int32)) dX8_alike_154 (by decide) ?_
    refine e_iadd dX8_alike_155 ?_
    obtain ⟨c15, h⟩ := grd h
    refine e_ialdJ dX8_alike_156 k0_185 rfl c15.2 c15.1 ?_
    refine e_max dX8_alike_157 wmX8_300 wmst_max winimath wmcd_max (by omega) (Nat.le_of_ble_eq_true rfl) ?_
    refine e_icmp_ge (tgt := 219) dX8_alike_160 (by decide) (fun c23 => ?_) (fun c23 => ?_)
    · rw [if_pos c23] at h
      refine e_aload_n dX8_alike_219 rfl ?_
      obtain ⟨p16, ep16, h⟩ := Option.bind_eq_some_iff.mp h
      refine c_VV (M' := mX8_takeBack) [] dX8_alike_220 rfl wmX8_391 imX8_takeBack seX8_takeBack lkX8_takeBack k0_174 rc8 (Nat.le_of_ble_eq_true rfl) ((x_X8_takeBack  ep16).mono (by omega)) ?_
      refine e_iload dX8_alike_223 rfl ?_
      obtain rfl := Option.some.inj h
      exact e_iret dX8_alike_225 rfl rfl ⟨rfl, rfl, rfl⟩
    · rw [if_neg c23] at h
      refine e_iload dX8_alike_163 rfl ?_
      refine e_iload dX8_alike_165 rfl ?_
      refine e_iadd dX8_alike_167 ?_
      refine e_bipush (x := (24 : Int32)) dX8_alike_168 (by decide) ?_
      refine e_icmp_ge (tgt := 186) dX8_alike_170 (by decide) (fun c22 => ?_) (fun c22 => ?_)
      · rw [if_pos c22] at h
        refine e_iconst (x := (0 : Int32)) dX8_alike_186 (by decide) ?_
        exact b_X8_alike_187 (fun v a2 a3 a7 a8 a9 a10  hh => ih v a2 a3 a7 a8 a9 a10  hh) h
      · rw [if_neg c22] at h
        refine e_aload_n dX8_alike_173 rfl ?_
        refine e_get (w := .ref 196) (j := 42) dX8_alike_174 k0_174 rc8 (by decide) wfX8_77 (g0_174_42) ?_
        refine e_iload dX8_alike_177 rfl ?_
        refine e_iload dX8_alike_179 rfl ?_
        refine e_iadd dX8_alike_181 ?_
        obtain ⟨c21, h⟩ := grd h
        refine e_ialdJ dX8_alike_182 k0_196 rfl c21.2 c21.1 ?_
        refine e_goto (tgt := 187) dX8_alike_183 (by decide) ?_
        exact b_X8_alike_187 (fun v a2 a3 a7 a8 a9 a10  hh => ih v a2 a3 a7 a8 a9 a10  hh) h
set_option maxRecDepth 20000 in
theorem b_X8_alike_58 {X : Nat × (Nat → Int32)} {r : Int32 × rV}   : ∀ (n : Nat) (v : rV) (a1 : Int32) (a2 : Int32) (a3 : Int32) (a4 : Int64) (a6 : Int32) (a7 : Int32) , f_X8_alike_58   n v a1 a2 a3 a4 a6 a7 = some r → Ev mX8_alike 10 0 0 58 [(0, .ref 174), (1, .int a1), (2, .int a2), (3, .int a3), (4, .long a4), (6, .int a6), (7, .int a7)] [] (rZ X) v (rPI X r) := by
  intro n
  induction n with
  | zero =>
    intros
    rename_i h
    cases h
  | succ n ih =>
    intro v a1 a2 a3 a4 a6 a7 h
    rw [f_X8_alike_58] at h
    refine e_iload dX8_alike_58 rfl ?_
    refine e_bipush (x := (24 : Int32)) dX8_alike_60 (by decide) ?_
    refine e_icmp_ge (tgt := 84) dX8_alike_62 (by decide) (fun c28 => ?_) (fun c28 => ?_)
    · rw [if_pos c28] at h
      refine e_aload_n dX8_alike_84 rfl ?_
      refine e_iconst (x := (1 : Int32)) dX8_alike_85 (by decide) ?_
      refine e_iload_n dX8_alike_86 rfl ?_
      refine e_ishl dX8_alike_87 ?_
      obtain ⟨p8, ep8, h⟩ := Option.bind_eq_some_iff.mp h
      refine c_VZ (M' := mX8_gather) [.int ((1 : Int32) <<< (a3 &&& 31))] dX8_alike_88 rfl wmX8_278 imX8_gather seX8_gather lkX8_gather k0_174 rc8 (Nat.le_of_ble_eq_true rfl) ((x_X8_gather  ep8).mono (by omega)) ?_
      refine e_pop dX8_alike_91 rfl ?_
      refine e_aload_n dX8_alike_92 rfl ?_
      refine e_iload_n dX8_alike_93 rfl ?_
      refine e_lload dX8_alike_94 rfl ?_
      refine e_iload dX8_alike_96 rfl ?_
      obtain ⟨p9, ep9, h⟩ := Option.bind_eq_some_iff.mp h
      refine c_VV (M' := mX8_tryOut) [.int a1, .long a4, .int a6] dX8_alike_98 rfl wmX8_387 imX8_tryOut seX8_tryOut lkX8_tryOut k0_174 rc8 (Nat.le_of_ble_eq_true rfl) ((x_X8_tryOut  ep9).mono (by omega)) ?_
      refine e_aload_n dX8_alike_101 rfl ?_
      refine e_get (w := .ref 185) (j := 19) dX8_alike_102 k0_174 rc8 (by decide) wfX8_40 (g0_174_19) ?_
      refine e_bipush (x := (12 : Int32)) dX8_alike_105 (by decide) ?_
      refine e_iload_n dX8_alike_107 rfl ?_
      refine e_imul dX8_alike_108 ?_
      refine e_iconst (x := (0 : Int32)) dX8_alike_109 (by decide) ?_
      refine e_iadd dX8_alike_110 ?_
      obtain ⟨c10, h⟩ := grd h
      refine e_ialdJ dX8_alike_111 k0_185 rfl c10.2 c10.1 ?_
      obtain ⟨x11, ex11, h⟩ := vlet_ex h
      refine e_nameI ex11.symm ?_
      clear ex11
      refine e_istore (lv' := [(7, .int x11), (0, .ref 174), (1, .int a1), (2, .int a2), (3, .int a3), (4, .long a4), (6, .int a6)]) dX8_alike_112 (by decide) rfl ?_
      refine e_aload_n dX8_alike_114 rfl ?_
      refine e_get (w := .ref 185) (j := 19) dX8_alike_115 k0_174 rc8 (by decide) wfX8_40 (g0_174_19) ?_
      refine e_bipush (x := (12 : Int32)) dX8_alike_118 (by decide) ?_
      refine e_iload_n dX8_alike_120 rfl ?_
      refine e_imul dX8_alike_121 ?_
      refine e_iconst (x := (0 : Int32)) dX8_alike_122 (by decide) ?_
      refine e_iadd dX8_alike_123 ?_
      obtain ⟨c12, h⟩ := grd h
      refine e_ialdJ dX8_alike_124 k0_185 rfl c12.2 c12.1 ?_
      obtain ⟨x13, ex13, h⟩ := vlet_ex h
      refine e_nameI ex13.symm ?_
      clear ex13
      refine e_istore (lv' := [(8, .int x13), (7, .int x11), (0, .ref 174), (1, .int a1), (2, .int a2), (3, .int a3), (4, .long a4), (6, .int a6)]) dX8_alike_125 (by decide) rfl ?_
      refine e_iconst (x := (0 : Int32)) dX8_alike_127 (by decide) ?_
      refine e_istore (lv' := [(9, .int (0 : Int32)), (8, .int x13), (7, .int x11), (0, .ref 174), (1, .int a1), (2, .int a2), (3, .int a3), (4, .long a4), (6, .int a6)]) dX8_alike_128 (by decide) rfl ?_
      refine e_iconst (x := (0 : Int32)) dX8_alike_130 (by decide) ?_
      refine e_istore (lv' := [(10, .int (0 : Int32)), (9, .int (0 : Int32)), (8, .int x13), (7, .int x11), (0, .ref 174), (1, .int a1), (2, .int a2), (3, .int a3), (4, .long a4), (6, .int a6)]) dX8_alike_131 (by decide) rfl ?_
      refine e_sub [4, 6, 7, 3, 2, 1, 0] rfl ?_
      exact b_X8_alike_133  _ p9 a2 a3 x11 x13 (0 : Int32) (0 : Int32) h
    · rw [if_neg c28] at h
      refine e_aload_n dX8_alike_65 rfl ?_
      refine e_get (w := .ref 196) (j := 42) dX8_alike_66 k0_174 rc8 (by decide) wfX8_77 (g0_174_42) ?_
      refine e_iload dX8_alike_69 rfl ?_
      refine e_aload_n dX8_alike_71 rfl ?_
      refine e_iload dX8_alike_72 rfl ?_
      obtain ⟨p24, ep24, h⟩ := Option.bind_eq_some_iff.mp h
      refine c_VI (M' := mX8_laidIn) [.int a7] dX8_alike_74 rfl wmX8_357 imX8_laidIn seX8_laidIn lkX8_laidIn k0_174 rc8 (Nat.le_of_ble_eq_true rfl) ((x_X8_laidIn  ep24).mono (by omega)) ?_
      obtain ⟨c25, h⟩ := grd h
      refine e_iastJ dX8_alike_77 k0_196 rfl c25.2 c25.1 ?_
      obtain ⟨v26, ev26, h⟩ := vlet_ex h
      refine e_nameV ev26.symm ?_
      clear ev26
      obtain ⟨x27, ex27, h⟩ := vlet_ex h
      refine e_iinc (lv' := [(7, .int x27), (0, .ref 174), (1, .int a1), (2, .int a2), (3, .int a3), (4, .long a4), (6, .int a6)]) dX8_alike_78 rfl (ex27.symm) (by decide) rfl ?_
      clear ex27
      refine e_goto (tgt := 58) dX8_alike_81 (by decide) ?_
      refine e_sub [1, 2, 3, 4, 5, 6, 0] rfl ?_
      exact ih v26 a1 a2 a3 a4 a6 x27 h
set_option maxRecDepth 20000 in
theorem x_X8_alike {X : Nat × (Nat → Int32)} {v : rV} {r : Int32 × rV} {a1 : Int32} {a2 : Int32} {a3 : Int32} {a4 : Int64} {a6 : Int32}  (h : f_X8_alike v a1 a2 a3 a4 a6 = some r) : EvM mX8_alike 10 0 0 [.ref 174, .int a1, .int a2, .int a3, .long a4, .int a6] (rZ X) v (rPI X r) := by
  refine evm_of (by decide +kernel) (fun G => Nat.le_of_ble_eq_true rfl) ?_
  show Ev mX8_alike 10 0 0 0 [(0, .ref 174), (1, .int a1), (2, .int a2), (3, .int a3), (4, .long a4), (6, .int a6)] [] (rZ X) v _
  unfold f_X8_alike at h
  refine e_aload_n dX8_alike_0 rfl ?_
  refine e_iload_n dX8_alike_1 rfl ?_
  refine c_VZ (M' := mX8_isLaw) [.int a1] dX8_alike_2 rfl wmX8_272 imX8_isLaw seX8_isLaw lkX8_isLaw k0_174 rc8 (Nat.le_of_ble_eq_true rfl) ((x_X8_isLaw ).mono (by omega)) ?_
  refine e_if_eq (tgt := 32) dX8_alike_5 (by decide) (fun c32 => ?_) (fun c32 => ?_)
  · rw [if_neg (bI_n c32)] at h
    refine e_iconst (x := (-1 : Int32)) dX8_alike_32 (by decide) ?_
    obtain rfl := Option.some.inj h
    exact e_iret dX8_alike_33 rfl rfl ⟨rfl, rfl, rfl⟩
  · rw [if_pos (bI_p c32)] at h
    refine e_aload_n dX8_alike_8 rfl ?_
    refine e_iload_n dX8_alike_9 rfl ?_
    refine c_VZ (M' := mX8_isDrop) [.int a2] dX8_alike_10 rfl wmX8_244 imX8_isDrop seX8_isDrop lkX8_isDrop k0_174 rc8 (Nat.le_of_ble_eq_true rfl) ((x_X8_isDrop ).mono (by omega)) ?_
    refine e_if_eq (tgt := 32) dX8_alike_13 (by decide) (fun c31 => ?_) (fun c31 => ?_)
    · rw [if_neg (bI_n c31)] at h
      refine e_iconst (x := (-1 : Int32)) dX8_alike_32 (by decide) ?_
      obtain rfl := Option.some.inj h
      exact e_iret dX8_alike_33 rfl rfl ⟨rfl, rfl, rfl⟩
    · rw [if_pos (bI_p c31)] at h
      refine e_aload_n dX8_alike_16 rfl ?_
      refine e_iload_n dX8_alike_17 rfl ?_
      refine c_VZ (M' := mX8_isDrop) [.int a3] dX8_alike_18 rfl wmX8_244 imX8_isDrop seX8_isDrop lkX8_isDrop k0_174 rc8 (Nat.le_of_ble_eq_true rfl) ((x_X8_isDrop ).mono (by omega)) ?_
      refine e_if_eq (tgt := 32) dX8_alike_21 (by decide) (fun c30 => ?_) (fun c30 => ?_)
      · rw [if_neg (bI_n c30)] at h
        refine e_iconst (x := (-1 : Int32)) dX8_alike_32 (by decide) ?_
        obtain rfl := Option.some.inj h
        exact e_iret dX8_alike_33 rfl rfl ⟨rfl, rfl, rfl⟩
      · rw [if_pos (bI_p c30)] at h
        refine e_iload dX8_alike_24 rfl ?_
        refine c_SZ (M' := mX8_areTicks) [.int a6] dX8_alike_26 rfl wmX8_381 stX8_areTicks lkX8_areTicks (Nat.le_of_ble_eq_true rfl) ((x_X8_areTicks ).mono (by omega)) ?_
        refine e_if_ne (tgt := 34) dX8_alike_29 (by decide) (fun c29 => ?_) (fun c29 => ?_)
        · rw [if_pos (bI_p c29)] at h
          refine e_aload_n dX8_alike_34 rfl ?_
          obtain ⟨p5, ep5, h⟩ := Option.bind_eq_some_iff.mp h
          refine c_VV (M' := mX8_putAside) [] dX8_alike_35 rfl wmX8_384 imX8_putAside seX8_putAside lkX8_putAside k0_174 rc8 (Nat.le_of_ble_eq_true rfl) ((x_X8_putAside  ep5).mono (by omega)) ?_
          refine e_aload_n dX8_alike_38 rfl ?_
          refine e_iconst (x := (1 : Int32)) dX8_alike_39 (by decide) ?_
          refine e_iload_n dX8_alike_40 rfl ?_
          refine e_ishl dX8_alike_41 ?_
          obtain ⟨p6, ep6, h⟩ := Option.bind_eq_some_iff.mp h
          refine c_VZ (M' := mX8_gather) [.int ((1 : Int32) <<< (a2 &&& 31))] dX8_alike_42 rfl wmX8_278 imX8_gather seX8_gather lkX8_gather k0_174 rc8 (Nat.le_of_ble_eq_true rfl) ((x_X8_gather  ep6).mono (by omega)) ?_
          refine e_pop dX8_alike_45 rfl ?_
          refine e_aload_n dX8_alike_46 rfl ?_
          refine e_iload_n dX8_alike_47 rfl ?_
          refine e_lload dX8_alike_48 rfl ?_
          refine e_iload dX8_alike_50 rfl ?_
          obtain ⟨p7, ep7, h⟩ := Option.bind_eq_some_iff.mp h
          refine c_VV (M' := mX8_tryOut) [.int a1, .long a4, .int a6] dX8_alike_52 rfl wmX8_387 imX8_tryOut seX8_tryOut lkX8_tryOut k0_174 rc8 (Nat.le_of_ble_eq_true rfl) ((x_X8_tryOut  ep7).mono (by omega)) ?_
          refine e_iconst (x := (0 : Int32)) dX8_alike_55 (by decide) ?_
          refine e_istore (lv' := [(7, .int (0 : Int32)), (0, .ref 174), (1, .int a1), (2, .int a2), (3, .int a3), (4, .long a4), (6, .int a6)]) dX8_alike_56 (by decide) rfl ?_
          refine e_sub [1, 2, 3, 4, 5, 6, 0] rfl ?_
          exact b_X8_alike_58  _ p7 a1 a2 a3 a4 a6 (0 : Int32) h
        · rw [if_neg (bI_n c29)] at h
          refine e_iconst (x := (-1 : Int32)) dX8_alike_32 (by decide) ?_
          obtain rfl := Option.some.inj h
          exact e_iret dX8_alike_33 rfl rfl ⟨rfl, rfl, rfl⟩
def f_X8_areDrops (v : rV) (a1 : Int32) : Bool := if a1 ≤ 0 then
  (false)
else
  (if (a1 >>> ((v.1 174 21) &&& 31)) = 0 then
  (true)
else
  (false))
set_option maxRecDepth 20000 in
theorem x_X8_areDrops {X : Nat × (Nat → Int32)} {v : rV} {a1 : Int32}  : EvM mX8_areDrops 1 0 0 [.ref 174, .int a1] (rZ X) v (rPZ X ((f_X8_areDrops v a1), v)) := by
  refine evm_of (by decide +kernel) (fun G => Nat.le_of_ble_eq_true rfl) ?_
  show Ev mX8_areDrops 1 0 0 0 [(0, .ref 174), (1, .int a1)] [] (rZ X) v _
  generalize h : f_X8_areDrops v a1 = r
  unfold f_X8_areDrops at h
  refine e_iload_n dX8_areDrops_0 rfl ?_
  refine e_if_le (tgt := 17) dX8_areDrops_1 (by decide) (fun c2 => ?_) (fun c2 => ?_)
  · rw [if_pos c2] at h
    refine e_iconst (x := (0 : Int32)) dX8_areDrops_17 (by decide) ?_
    subst h
    exact e_iret dX8_areDrops_18 rfl rfl ⟨rfl, rfl, rfl⟩
  · rw [if_neg c2] at h
    refine e_iload_n dX8_areDrops_4 rfl ?_
    refine e_aload_n dX8_areDrops_5 rfl ?_
    refine e_get (w := .int (v.1 174 21)) (j := 21) dX8_areDrops_6 k0_174 rc8 (by decide) wfX8_241 rfl ?_
    refine e_ishr dX8_areDrops_9 ?_
    refine e_if_ne (tgt := 17) dX8_areDrops_10 (by decide) (fun c1 => ?_) (fun c1 => ?_)
    · rw [if_neg c1] at h
      refine e_iconst (x := (0 : Int32)) dX8_areDrops_17 (by decide) ?_
      subst h
      exact e_iret dX8_areDrops_18 rfl rfl ⟨rfl, rfl, rfl⟩
    · rw [if_pos c1] at h
      refine e_iconst (x := (1 : Int32)) dX8_areDrops_13 (by decide) ?_
      refine e_goto (tgt := 18) dX8_areDrops_14 (by decide) ?_
      subst h
      exact e_iret dX8_areDrops_18 rfl rfl ⟨rfl, rfl, rfl⟩
def f_X8_here (v : rV)  : Option (Int32) := if (v.1 174 2) ≤ (v.1 174 3) then
  (some (-1 : Int32))
else
  (if ¬ (v.1 174 3) < 0 ∧ (v.1 174 3).toNatClampNeg < 160 then
  (some (v.1 175 ((v.1 174 3).toNatClampNeg)))
else none)
set_option maxRecDepth 20000 in
theorem x_X8_here {X : Nat × (Nat → Int32)} {v : rV} {r : Int32}   (h : f_X8_here v = some r) : EvM mX8_here 1 0 0 [.ref 174] (rZ X) v (rPI X (r, v)) := by
  refine evm_of (by decide +kernel) (fun G => Nat.le_of_ble_eq_true rfl) ?_
  show Ev mX8_here 1 0 0 0 [(0, .ref 174)] [] (rZ X) v _
  unfold f_X8_here at h
  refine e_aload_n dX8_here_0 rfl ?_
  refine e_get (w := .int (v.1 174 3)) (j := 3) dX8_here_1 k0_174 rc8 (by decide) wfX8_90 rfl ?_
  refine e_aload_n dX8_here_4 rfl ?_
  refine e_get (w := .int (v.1 174 2)) (j := 2) dX8_here_5 k0_174 rc8 (by decide) wfX8_87 rfl ?_
  refine e_icmp_ge (tgt := 23) dX8_here_8 (by decide) (fun c2 => ?_) (fun c2 => ?_)
  · rw [if_pos c2] at h
    refine e_iconst (x := (-1 : Int32)) dX8_here_23 (by decide) ?_
    obtain rfl := Option.some.inj h
    exact e_iret dX8_here_24 rfl rfl ⟨rfl, rfl, rfl⟩
  · rw [if_neg c2] at h
    refine e_aload_n dX8_here_11 rfl ?_
    refine e_get (w := .ref 175) (j := 1) dX8_here_12 k0_174 rc8 (by decide) wfX8_9 (g0_174_1) ?_
    refine e_aload_n dX8_here_15 rfl ?_
    refine e_get (w := .int (v.1 174 3)) (j := 3) dX8_here_16 k0_174 rc8 (by decide) wfX8_90 rfl ?_
    obtain ⟨c1, h⟩ := grd h
    refine e_ialdJ dX8_here_19 k0_175 rfl c1.2 c1.1 ?_
    refine e_goto (tgt := 24) dX8_here_20 (by decide) ?_
    obtain rfl := Option.some.inj h
    exact e_iret dX8_here_24 rfl rfl ⟨rfl, rfl, rfl⟩
def f_X8_look_0   : Nat → rV → Option (Int32 × rV)
  | 0, _ => none
  | n + 1, v => (f_X8_here v).bind fun p1 =>
  if p1 = (32 : Int32) then
  (vlet (rI v 174 3 ((v.1 174 3) + (1 : Int32))) fun v3 =>
  f_X8_look_0  n v3)
else
  ((f_X8_here v).bind fun p2 =>
  some (p2, v))
def f_X8_look (v : rV)  : Option (Int32 × rV) := f_X8_look_0  20000 v
set_option maxRecDepth 20000 in
theorem b_X8_look_0 {X : Nat × (Nat → Int32)} {r : Int32 × rV}   : ∀ (n : Nat) (v : rV)  , f_X8_look_0   n v  = some r → Ev mX8_look 2 0 0 0 [(0, .ref 174)] [] (rZ X) v (rPI X r) := by
  intro n
  induction n with
  | zero =>
    intros
    rename_i h
    cases h
  | succ n ih =>
    intro v h
    rw [f_X8_look_0] at h
    refine e_aload_n dX8_look_0 rfl ?_
    obtain ⟨p1, ep1, h⟩ := Option.bind_eq_some_iff.mp h
    refine c_VI (M' := mX8_here) [] dX8_look_1 rfl wmX8_93 imX8_here seX8_here lkX8_here k0_174 rc8 (Nat.le_of_ble_eq_true rfl) ((x_X8_here  ep1).mono (by omega)) ?_
    refine e_bipush (x := (32 : Int32)) dX8_look_4 (by decide) ?_
    refine e_icmp_ne (tgt := 22) dX8_look_6 (by decide) (fun c4 => ?_) (fun c4 => ?_)
    · rw [if_neg c4] at h
      refine e_aload_n dX8_look_22 rfl ?_
      obtain ⟨p2, ep2, h⟩ := Option.bind_eq_some_iff.mp h
      refine c_VI (M' := mX8_here) [] dX8_look_23 rfl wmX8_93 imX8_here seX8_here lkX8_here k0_174 rc8 (Nat.le_of_ble_eq_true rfl) ((x_X8_here  ep2).mono (by omega)) ?_
      obtain rfl := Option.some.inj h
      exact e_iret dX8_look_26 rfl rfl ⟨rfl, rfl, rfl⟩
    · rw [if_pos c4] at h
      refine e_aload_n dX8_look_9 rfl ?_
      refine e_dup dX8_look_10 rfl ?_
      refine e_get (w := .int (v.1 174 3)) (j := 3) dX8_look_11 k0_174 rc8 (by decide) wfX8_90 rfl ?_
      refine e_iconst (x := (1 : Int32)) dX8_look_14 (by decide) ?_
      refine e_iadd dX8_look_15 ?_
      refine e_putI (j := 3) dX8_look_16 k0_174 rc8 (by decide) wfX8_90 rfl rfl ?_
      obtain ⟨v3, ev3, h⟩ := vlet_ex h
      refine e_nameV ev3.symm ?_
      clear ev3
      refine e_goto (tgt := 0) dX8_look_19 (by decide) ?_
      exact ih v3 h
set_option maxRecDepth 20000 in
theorem x_X8_look {X : Nat × (Nat → Int32)} {v : rV} {r : Int32 × rV}   (h : f_X8_look v = some r) : EvM mX8_look 2 0 0 [.ref 174] (rZ X) v (rPI X r) := by
  refine evm_of (by decide +kernel) (fun G => Nat.le_of_ble_eq_true rfl) ?_
  show Ev mX8_look 2 0 0 0 [(0, .ref 174)] [] (rZ X) v _
  unfold f_X8_look at h
  exact b_X8_look_0  _ v h
def f_X8_bad_20   (v : rV) (s0 : Int32) : Option (rV) := vlet (rI v 174 4 s0) fun v1 =>
  some v1
def f_X8_bad (v : rV)  : Option (rV) := if (v.1 174 4) = (-1 : Int32) then
  (f_X8_bad_20  v (v.1 174 3))
else
  (f_X8_bad_20  v (v.1 174 4))
set_option maxRecDepth 20000 in
theorem b_X8_bad_20 {X : Nat × (Nat → Int32)} {r : rV} {v : rV}   {s0 : Int32}  (h : f_X8_bad_20  v s0 = some r) : Ev mX8_bad 1 0 0 20 [] [.int s0, .ref 174] (rZ X) v (rPV X r) := by
  unfold f_X8_bad_20 at h
  refine e_putI (j := 4) dX8_bad_20 k0_174 rc8 (by decide) wfX8_97 rfl rfl ?_
  obtain ⟨v1, ev1, h⟩ := vlet_ex h
  refine e_nameV ev1.symm ?_
  clear ev1
  obtain rfl := Option.some.inj h
  exact e_ret dX8_bad_23 rfl ⟨rfl, rfl, rfl⟩
set_option maxRecDepth 20000 in
theorem x_X8_bad {X : Nat × (Nat → Int32)} {v : rV} {r : rV}   (h : f_X8_bad v = some r) : EvM mX8_bad 1 0 0 [.ref 174] (rZ X) v (rPV X r) := by
  refine evm_of (by decide +kernel) (fun G => Nat.le_of_ble_eq_true rfl) ?_
  show Ev mX8_bad 1 0 0 0 [(0, .ref 174)] [] (rZ X) v _
  unfold f_X8_bad at h
  refine e_aload_n dX8_bad_0 rfl ?_
  refine e_aload_n dX8_bad_1 rfl ?_
  refine e_get (w := .int (v.1 174 4)) (j := 4) dX8_bad_2 k0_174 rc8 (by decide) wfX8_97 rfl ?_
  refine e_iconst (x := (-1 : Int32)) dX8_bad_5 (by decide) ?_
  refine e_icmp_ne (tgt := 16) dX8_bad_6 (by decide) (fun c2 => ?_) (fun c2 => ?_)
  · rw [if_neg c2] at h
    refine e_aload_n dX8_bad_16 rfl ?_
    refine e_get (w := .int (v.1 174 4)) (j := 4) dX8_bad_17 k0_174 rc8 (by decide) wfX8_97 rfl ?_
    refine e_sub [] rfl ?_
    exact b_X8_bad_20  h
  · rw [if_pos c2] at h
    refine e_aload_n dX8_bad_9 rfl ?_
    refine e_get (w := .int (v.1 174 3)) (j := 3) dX8_bad_10 k0_174 rc8 (by decide) wfX8_90 rfl ?_
    refine e_goto (tgt := 20) dX8_bad_13 (by decide) ?_
    refine e_sub [] rfl ?_
    exact b_X8_bad_20  h
def f_X8_atEnd (v : rV)  : Option (Int32 × rV) := if (v.1 174 4) = (-1 : Int32) then
  ((f_X8_look v).bind fun p1 =>
  if p1.1 = (-1 : Int32) then
  (some (p1.2.1 174 4, p1.2))
else
  ((f_X8_bad p1.2).bind fun p2 =>
  some (p2.1 174 4, p2)))
else
  (some (v.1 174 4, v))
set_option maxRecDepth 20000 in
theorem x_X8_atEnd {X : Nat × (Nat → Int32)} {v : rV} {r : Int32 × rV}   (h : f_X8_atEnd v = some r) : EvM mX8_atEnd 3 0 0 [.ref 174] (rZ X) v (rPI X r) := by
  refine evm_of (by decide +kernel) (fun G => Nat.le_of_ble_eq_true rfl) ?_
  show Ev mX8_atEnd 3 0 0 0 [(0, .ref 174)] [] (rZ X) v _
  unfold f_X8_atEnd at h
  refine e_aload_n dX8_atEnd_0 rfl ?_
  refine e_get (w := .int (v.1 174 4)) (j := 4) dX8_atEnd_1 k0_174 rc8 (by decide) wfX8_97 rfl ?_
  refine e_iconst (x := (-1 : Int32)) dX8_atEnd_4 (by decide) ?_
  refine e_icmp_ne (tgt := 20) dX8_atEnd_5 (by decide) (fun c4 => ?_) (fun c4 => ?_)
  · rw [if_neg c4] at h
    refine e_aload_n dX8_atEnd_20 rfl ?_
    refine e_get (w := .int (v.1 174 4)) (j := 4) dX8_atEnd_21 k0_174 rc8 (by decide) wfX8_97 rfl ?_
    obtain rfl := Option.some.inj h
    exact e_iret dX8_atEnd_24 rfl rfl ⟨rfl, rfl, rfl⟩
  · rw [if_pos c4] at h
    refine e_aload_n dX8_atEnd_8 rfl ?_
    obtain ⟨p1, ep1, h⟩ := Option.bind_eq_some_iff.mp h
    refine c_VI (M' := mX8_look) [] dX8_atEnd_9 rfl wmX8_113 imX8_look seX8_look lkX8_look k0_174 rc8 (Nat.le_of_ble_eq_true rfl) ((x_X8_look  ep1).mono (by omega)) ?_
    refine e_iconst (x := (-1 : Int32)) dX8_atEnd_12 (by decide) ?_
    refine e_icmp_eq (tgt := 20) dX8_atEnd_13 (by decide) (fun c3 => ?_) (fun c3 => ?_)
    · rw [if_pos c3] at h
      refine e_aload_n dX8_atEnd_20 rfl ?_
      refine e_get (w := .int (p1.2.1 174 4)) (j := 4) dX8_atEnd_21 k0_174 rc8 (by decide) wfX8_97 rfl ?_
      obtain rfl := Option.some.inj h
      exact e_iret dX8_atEnd_24 rfl rfl ⟨rfl, rfl, rfl⟩
    · rw [if_neg c3] at h
      refine e_aload_n dX8_atEnd_16 rfl ?_
      obtain ⟨p2, ep2, h⟩ := Option.bind_eq_some_iff.mp h
      refine c_VV (M' := mX8_bad) [] dX8_atEnd_17 rfl wmX8_110 imX8_bad seX8_bad lkX8_bad k0_174 rc8 (Nat.le_of_ble_eq_true rfl) ((x_X8_bad  ep2).mono (by omega)) ?_
      refine e_aload_n dX8_atEnd_20 rfl ?_
      refine e_get (w := .int (p2.1 174 4)) (j := 4) dX8_atEnd_21 k0_174 rc8 (by decide) wfX8_97 rfl ?_
      obtain rfl := Option.some.inj h
      exact e_iret dX8_atEnd_24 rfl rfl ⟨rfl, rfl, rfl⟩
def f_X8_isDigit (a0 : Int32) : Bool := if a0 < (48 : Int32) then
  (false)
else
  (if (57 : Int32) < a0 then
  (false)
else
  (true))
set_option maxRecDepth 20000 in
theorem x_X8_isDigit {X : Nat × (Nat → Int32)} {v : rV} {a0 : Int32}  : EvM mX8_isDigit 1 0 0 [.int a0] (rZ X) v (rPZ X ((f_X8_isDigit a0), v)) := by
  refine evm_of (by decide +kernel) (fun G => Nat.le_of_ble_eq_true rfl) ?_
  show Ev mX8_isDigit 1 0 0 0 [(0, .int a0)] [] (rZ X) v _
  generalize h : f_X8_isDigit a0 = r
  unfold f_X8_isDigit at h
  refine e_iload_n dX8_isDigit_0 rfl ?_
  refine e_bipush (x := (48 : Int32)) dX8_isDigit_1 (by decide) ?_
  refine e_icmp_lt (tgt := 16) dX8_isDigit_3 (by decide) (fun c2 => ?_) (fun c2 => ?_)
  · rw [if_pos c2] at h
    refine e_iconst (x := (0 : Int32)) dX8_isDigit_16 (by decide) ?_
    subst h
    exact e_iret dX8_isDigit_17 rfl rfl ⟨rfl, rfl, rfl⟩
  · rw [if_neg c2] at h
    refine e_iload_n dX8_isDigit_6 rfl ?_
    refine e_bipush (x := (57 : Int32)) dX8_isDigit_7 (by decide) ?_
    refine e_icmp_gt (tgt := 16) dX8_isDigit_9 (by decide) (fun c1 => ?_) (fun c1 => ?_)
    · rw [if_pos c1] at h
      refine e_iconst (x := (0 : Int32)) dX8_isDigit_16 (by decide) ?_
      subst h
      exact e_iret dX8_isDigit_17 rfl rfl ⟨rfl, rfl, rfl⟩
    · rw [if_neg c1] at h
      refine e_iconst (x := (1 : Int32)) dX8_isDigit_12 (by decide) ?_
      refine e_goto (tgt := 17) dX8_isDigit_13 (by decide) ?_
      subst h
      exact e_iret dX8_isDigit_17 rfl rfl ⟨rfl, rfl, rfl⟩
def f_X8_plainNumber_48   (v : rV) (a1 : Int32) : Option (Int32 × rV) := (f_X8_here v).bind fun p1 =>
  if (f_X8_isDigit p1) = true then
  ((f_X8_bad v).bind fun p3 =>
  some (a1, p3))
else
  (some (a1, v))
def f_X8_plainNumber_4   : Nat → rV → Int32 → Int32 → Option (Int32 × rV)
  | 0, _, _, _ => none
  | n + 1, v, a1, a2 => if (4 : Int32) ≤ a2 then
  (f_X8_plainNumber_48  v a1)
else
  ((f_X8_here v).bind fun p5 =>
  if (f_X8_isDigit p5) = true then
  ((f_X8_here v).bind fun p7 =>
  vlet ((((10 : Int32) * a1) + p7) - (48 : Int32) : Int32) fun x8 =>
  vlet (rI v 174 3 ((v.1 174 3) + (1 : Int32))) fun v9 =>
  vlet (a2 + (1 : Int32)) fun x10 =>
  f_X8_plainNumber_4  n v9 x8 x10)
else
  (f_X8_plainNumber_48  v a1))
def f_X8_plainNumber (v : rV)  : Option (Int32 × rV) := f_X8_plainNumber_4  20000 v (0 : Int32) (0 : Int32)
set_option maxRecDepth 20000 in
theorem b_X8_plainNumber_48 {X : Nat × (Nat → Int32)} {r : Int32 × rV} {v : rV}   {a1 : Int32}  (h : f_X8_plainNumber_48  v a1 = some r) : Ev mX8_plainNumber 2 0 0 48 [(0, .ref 174), (1, .int a1)] [] (rZ X) v (rPI X r) := by
  unfold f_X8_plainNumber_48 at h
  refine e_aload_n dX8_plainNumber_48 rfl ?_
  obtain ⟨p1, ep1, h⟩ := Option.bind_eq_some_iff.mp h
  refine c_VI (M' := mX8_here) [] dX8_plainNumber_49 rfl wmX8_93 imX8_here seX8_here lkX8_here k0_174 rc8 (Nat.le_of_ble_eq_true rfl) ((x_X8_here  ep1).mono (by omega)) ?_
  refine c_SZ (M' := mX8_isDigit) [.int p1] dX8_plainNumber_52 rfl wmX8_116 stX8_isDigit lkX8_isDigit (Nat.le_of_ble_eq_true rfl) ((x_X8_isDigit ).mono (by omega)) ?_
  refine e_if_eq (tgt := 62) dX8_plainNumber_55 (by decide) (fun c4 => ?_) (fun c4 => ?_)
  · rw [if_neg (bI_n c4)] at h
    refine e_iload_n dX8_plainNumber_62 rfl ?_
    obtain rfl := Option.some.inj h
    exact e_iret dX8_plainNumber_63 rfl rfl ⟨rfl, rfl, rfl⟩
  · rw [if_pos (bI_p c4)] at h
    refine e_aload_n dX8_plainNumber_58 rfl ?_
    obtain ⟨p3, ep3, h⟩ := Option.bind_eq_some_iff.mp h
    refine c_VV (M' := mX8_bad) [] dX8_plainNumber_59 rfl wmX8_110 imX8_bad seX8_bad lkX8_bad k0_174 rc8 (Nat.le_of_ble_eq_true rfl) ((x_X8_bad  ep3).mono (by omega)) ?_
    refine e_iload_n dX8_plainNumber_62 rfl ?_
    obtain rfl := Option.some.inj h
    exact e_iret dX8_plainNumber_63 rfl rfl ⟨rfl, rfl, rfl⟩
set_option maxRecDepth 20000 in
theorem b_X8_plainNumber_4 {X : Nat × (Nat → Int32)} {r : Int32 × rV}   : ∀ (n : Nat) (v : rV) (a1 : Int32) (a2 : Int32) , f_X8_plainNumber_4   n v a1 a2 = some r → Ev mX8_plainNumber 2 0 0 4 [(0, .ref 174), (1, .int a1), (2, .int a2)] [] (rZ X) v (rPI X r) := by
  intro n
  induction n with
  | zero =>
    intros
    rename_i h
    cases h
  | succ n ih =>
    intro v a1 a2 h
    rw [f_X8_plainNumber_4] at h
    refine e_iload_n dX8_plainNumber_4 rfl ?_
    refine e_iconst (x := (4 : Int32)) dX8_plainNumber_5 (by decide) ?_
    refine e_icmp_ge (tgt := 48) dX8_plainNumber_6 (by decide) (fun c12 => ?_) (fun c12 => ?_)
    · rw [if_pos c12] at h
      refine e_sub [0, 1] rfl ?_
      exact b_X8_plainNumber_48  h
    · rw [if_neg c12] at h
      refine e_aload_n dX8_plainNumber_9 rfl ?_
      obtain ⟨p5, ep5, h⟩ := Option.bind_eq_some_iff.mp h
      refine c_VI (M' := mX8_here) [] dX8_plainNumber_10 rfl wmX8_93 imX8_here seX8_here lkX8_here k0_174 rc8 (Nat.le_of_ble_eq_true rfl) ((x_X8_here  ep5).mono (by omega)) ?_
      refine c_SZ (M' := mX8_isDigit) [.int p5] dX8_plainNumber_13 rfl wmX8_116 stX8_isDigit lkX8_isDigit (Nat.le_of_ble_eq_true rfl) ((x_X8_isDigit ).mono (by omega)) ?_
      refine e_if_eq (tgt := 48) dX8_plainNumber_16 (by decide) (fun c11 => ?_) (fun c11 => ?_)
      · rw [if_neg (bI_n c11)] at h
        refine e_sub [0, 1] rfl ?_
        exact b_X8_plainNumber_48  h
      · rw [if_pos (bI_p c11)] at h
        refine e_bipush (x := (10 : Int32)) dX8_plainNumber_19 (by decide) ?_
        refine e_iload_n dX8_plainNumber_21 rfl ?_
        refine e_imul dX8_plainNumber_22 ?_
        refine e_aload_n dX8_plainNumber_23 rfl ?_
        obtain ⟨p7, ep7, h⟩ := Option.bind_eq_some_iff.mp h
        refine c_VI (M' := mX8_here) [] dX8_plainNumber_24 rfl wmX8_93 imX8_here seX8_here lkX8_here k0_174 rc8 (Nat.le_of_ble_eq_true rfl) ((x_X8_here  ep7).mono (by omega)) ?_
        refine e_iadd dX8_plainNumber_27 ?_
        refine e_bipush (x := (48 : Int32)) dX8_plainNumber_28 (by decide) ?_
        refine e_isub dX8_plainNumber_30 ?_
        obtain ⟨x8, ex8, h⟩ := vlet_ex h
        refine e_nameI ex8.symm ?_
        clear ex8
        refine e_istore_n (lv' := [(1, .int x8), (0, .ref 174), (2, .int a2)]) dX8_plainNumber_31 (by decide) rfl ?_
        refine e_aload_n dX8_plainNumber_32 rfl ?_
        refine e_dup dX8_plainNumber_33 rfl ?_
        refine e_get (w := .int (v.1 174 3)) (j := 3) dX8_plainNumber_34 k0_174 rc8 (by decide) wfX8_90 rfl ?_
        refine e_iconst (x := (1 : Int32)) dX8_plainNumber_37 (by decide) ?_
        refine e_iadd dX8_plainNumber_38 ?_
        refine e_putI (j := 3) dX8_plainNumber_39 k0_174 rc8 (by decide) wfX8_90 rfl rfl ?_
        obtain ⟨v9, ev9, h⟩ := vlet_ex h
        refine e_nameV ev9.symm ?_
        clear ev9
        obtain ⟨x10, ex10, h⟩ := vlet_ex h
        refine e_iinc (lv' := [(2, .int x10), (1, .int x8), (0, .ref 174)]) dX8_plainNumber_42 rfl (ex10.symm) (by decide) rfl ?_
        clear ex10
        refine e_goto (tgt := 4) dX8_plainNumber_45 (by decide) ?_
        refine e_sub [2, 1, 0] rfl ?_
        exact ih v9 x8 x10 h
set_option maxRecDepth 20000 in
theorem x_X8_plainNumber {X : Nat × (Nat → Int32)} {v : rV} {r : Int32 × rV}   (h : f_X8_plainNumber v = some r) : EvM mX8_plainNumber 2 0 0 [.ref 174] (rZ X) v (rPI X r) := by
  refine evm_of (by decide +kernel) (fun G => Nat.le_of_ble_eq_true rfl) ?_
  show Ev mX8_plainNumber 2 0 0 0 [(0, .ref 174)] [] (rZ X) v _
  unfold f_X8_plainNumber at h
  refine e_iconst (x := (0 : Int32)) dX8_plainNumber_0 (by decide) ?_
  refine e_istore_n (lv' := [(1, .int (0 : Int32)), (0, .ref 174)]) dX8_plainNumber_1 (by decide) rfl ?_
  refine e_iconst (x := (0 : Int32)) dX8_plainNumber_2 (by decide) ?_
  refine e_istore_n (lv' := [(2, .int (0 : Int32)), (1, .int (0 : Int32)), (0, .ref 174)]) dX8_plainNumber_3 (by decide) rfl ?_
  refine e_sub [2, 1, 0] rfl ?_
  exact b_X8_plainNumber_4  _ v (0 : Int32) (0 : Int32) h
def f_X8_put (v : rV) (a1 : Int32) (a2 : Int32) : Option (rV) := if ¬ (v.1 174 15) < 0 ∧ (v.1 174 15).toNatClampNeg < 9 then
  (if ¬ (((340 : Int32) * (v.1 174 15)) + (v.1 178 ((v.1 174 15).toNatClampNeg))) < 0 ∧ (((340 : Int32) * (v.1 174 15)) + (v.1 178 ((v.1 174 15).toNatClampNeg))).toNatClampNeg < 3060 then
  (vlet (rI v 176 ((((340 : Int32) * (v.1 174 15)) + (v.1 178 ((v.1 174 15).toNatClampNeg))).toNatClampNeg) a1) fun v3 =>
  if ¬ (v3.1 174 15) < 0 ∧ (v3.1 174 15).toNatClampNeg < 9 then
  (if ¬ (((340 : Int32) * (v3.1 174 15)) + (v3.1 178 ((v3.1 174 15).toNatClampNeg))) < 0 ∧ (((340 : Int32) * (v3.1 174 15)) + (v3.1 178 ((v3.1 174 15).toNatClampNeg))).toNatClampNeg < 3060 then
  (vlet (rI v3 177 ((((340 : Int32) * (v3.1 174 15)) + (v3.1 178 ((v3.1 174 15).toNatClampNeg))).toNatClampNeg) a2) fun v6 =>
  vlet (v6.1 174 15 : Int32) fun x7 =>
  if ¬ x7 < 0 ∧ x7.toNatClampNeg < 9 then
  (vlet (rI v6 178 x7.toNatClampNeg ((v6.1 178 x7.toNatClampNeg) + (1 : Int32))) fun v9 =>
  some v9)
else none)
else none)
else none)
else none)
else none
set_option maxRecDepth 20000 in
theorem x_X8_put {X : Nat × (Nat → Int32)} {v : rV} {r : rV} {a1 : Int32} {a2 : Int32}  (h : f_X8_put v a1 a2 = some r) : EvM mX8_put 1 0 0 [.ref 174, .int a1, .int a2] (rZ X) v (rPV X r) := by
  refine evm_of (by decide +kernel) (fun G => Nat.le_of_ble_eq_true rfl) ?_
  show Ev mX8_put 1 0 0 0 [(0, .ref 174), (1, .int a1), (2, .int a2)] [] (rZ X) v _
  unfold f_X8_put at h
  refine e_aload_n dX8_put_0 rfl ?_
  refine e_get (w := .ref 176) (j := 6) dX8_put_1 k0_174 rc8 (by decide) wfX8_13 (g0_174_6) ?_
  refine e_sipush (x := (340 : Int32)) dX8_put_4 (by decide) ?_
  refine e_aload_n dX8_put_7 rfl ?_
  refine e_get (w := .int (v.1 174 15)) (j := 15) dX8_put_8 k0_174 rc8 (by decide) wfX8_100 rfl ?_
  refine e_imul dX8_put_11 ?_
  refine e_aload_n dX8_put_12 rfl ?_
  refine e_get (w := .ref 178) (j := 8) dX8_put_13 k0_174 rc8 (by decide) wfX8_19 (g0_174_8) ?_
  refine e_aload_n dX8_put_16 rfl ?_
  refine e_get (w := .int (v.1 174 15)) (j := 15) dX8_put_17 k0_174 rc8 (by decide) wfX8_100 rfl ?_
  obtain ⟨c1, h⟩ := grd h
  refine e_ialdJ dX8_put_20 k0_178 rfl c1.2 c1.1 ?_
  refine e_iadd dX8_put_21 ?_
  refine e_iload_n dX8_put_22 rfl ?_
  obtain ⟨c2, h⟩ := grd h
  refine e_iastJ dX8_put_23 k0_176 rfl c2.2 c2.1 ?_
  obtain ⟨v3, ev3, h⟩ := vlet_ex h
  refine e_nameV ev3.symm ?_
  clear ev3
  refine e_aload_n dX8_put_24 rfl ?_
  refine e_get (w := .ref 177) (j := 7) dX8_put_25 k0_174 rc8 (by decide) wfX8_16 (g0_174_7) ?_
  refine e_sipush (x := (340 : Int32)) dX8_put_28 (by decide) ?_
  refine e_aload_n dX8_put_31 rfl ?_
  refine e_get (w := .int (v3.1 174 15)) (j := 15) dX8_put_32 k0_174 rc8 (by decide) wfX8_100 rfl ?_
  refine e_imul dX8_put_35 ?_
  refine e_aload_n dX8_put_36 rfl ?_
  refine e_get (w := .ref 178) (j := 8) dX8_put_37 k0_174 rc8 (by decide) wfX8_19 (g0_174_8) ?_
  refine e_aload_n dX8_put_40 rfl ?_
  refine e_get (w := .int (v3.1 174 15)) (j := 15) dX8_put_41 k0_174 rc8 (by decide) wfX8_100 rfl ?_
  obtain ⟨c4, h⟩ := grd h
  refine e_ialdJ dX8_put_44 k0_178 rfl c4.2 c4.1 ?_
  refine e_iadd dX8_put_45 ?_
  refine e_iload_n dX8_put_46 rfl ?_
  obtain ⟨c5, h⟩ := grd h
  refine e_iastJ dX8_put_47 k0_177 rfl c5.2 c5.1 ?_
  obtain ⟨v6, ev6, h⟩ := vlet_ex h
  refine e_nameV ev6.symm ?_
  clear ev6
  refine e_aload_n dX8_put_48 rfl ?_
  refine e_get (w := .ref 178) (j := 8) dX8_put_49 k0_174 rc8 (by decide) wfX8_19 (g0_174_8) ?_
  refine e_aload_n dX8_put_52 rfl ?_
  refine e_get (w := .int (v6.1 174 15)) (j := 15) dX8_put_53 k0_174 rc8 (by decide) wfX8_100 rfl ?_
  obtain ⟨x7, ex7, h⟩ := vlet_ex h
  refine e_nameI ex7.symm ?_
  clear ex7
  refine e_dup2 dX8_put_56 rfl rfl ?_
  obtain ⟨c8, h⟩ := grd h
  refine e_ialdJ dX8_put_57 k0_178 rfl c8.2 c8.1 ?_
  refine e_iconst (x := (1 : Int32)) dX8_put_58 (by decide) ?_
  refine e_iadd dX8_put_59 ?_
  refine e_iastJ dX8_put_60 k0_178 rfl (c8).2 (c8).1 ?_
  obtain ⟨v9, ev9, h⟩ := vlet_ex h
  refine e_nameV ev9.symm ?_
  clear ev9
  obtain rfl := Option.some.inj h
  exact e_ret dX8_put_61 rfl ⟨rfl, rfl, rfl⟩
def f_X8_letterOf (v : rV) (a1 : Int32) : Int32 := if (v.1 174 16) = 0 then
  (if a1 = (105 : Int32) then
  ((0 : Int32))
else
  (if a1 = (119 : Int32) then
  ((1 : Int32))
else
  (if a1 = (103 : Int32) then
  ((2 : Int32))
else
  (if a1 = (116 : Int32) then
  ((3 : Int32))
else
  (if a1 = (109 : Int32) then
  ((4 : Int32))
else
  (if a1 = (97 : Int32) then
  ((5 : Int32))
else
  (if a1 = (107 : Int32) then
  ((6 : Int32))
else
  ((-1 : Int32)))))))))
else
  (if a1 = (101 : Int32) then
  ((0 : Int32))
else
  (if a1 = (114 : Int32) then
  ((1 : Int32))
else
  (if a1 = (118 : Int32) then
  ((2 : Int32))
else
  (if a1 = (110 : Int32) then
  ((3 : Int32))
else
  (if a1 = (104 : Int32) then
  ((4 : Int32))
else
  (if a1 = (116 : Int32) then
  ((5 : Int32))
else
  ((-1 : Int32))))))))
set_option maxRecDepth 20000 in
theorem x_X8_letterOf {X : Nat × (Nat → Int32)} {v : rV} {a1 : Int32}  : EvM mX8_letterOf 1 0 0 [.ref 174, .int a1] (rZ X) v (rPI X ((f_X8_letterOf v a1), v)) := by
  refine evm_of (by decide +kernel) (fun G => Nat.le_of_ble_eq_true rfl) ?_
  show Ev mX8_letterOf 1 0 0 0 [(0, .ref 174), (1, .int a1)] [] (rZ X) v _
  generalize h : f_X8_letterOf v a1 = r
  unfold f_X8_letterOf at h
  refine e_aload_n dX8_letterOf_0 rfl ?_
  refine e_get (w := .int (v.1 174 16)) (j := 16) dX8_letterOf_1 k0_174 rc8 (by decide) wfX8_103 rfl ?_
  refine e_if_eq (tgt := 69) dX8_letterOf_4 (by decide) (fun c14 => ?_) (fun c14 => ?_)
  · rw [if_pos c14] at h
    refine e_iload_n dX8_letterOf_69 rfl ?_
    refine e_bipush (x := (105 : Int32)) dX8_letterOf_70 (by decide) ?_
    refine e_icmp_ne (tgt := 79) dX8_letterOf_72 (by decide) (fun c7 => ?_) (fun c7 => ?_)
    · rw [if_neg c7] at h
      refine e_iload_n dX8_letterOf_79 rfl ?_
      refine e_bipush (x := (119 : Int32)) dX8_letterOf_80 (by decide) ?_
      refine e_icmp_ne (tgt := 89) dX8_letterOf_82 (by decide) (fun c6 => ?_) (fun c6 => ?_)
      · rw [if_neg c6] at h
        refine e_iload_n dX8_letterOf_89 rfl ?_
        refine e_bipush (x := (103 : Int32)) dX8_letterOf_90 (by decide) ?_
        refine e_icmp_ne (tgt := 99) dX8_letterOf_92 (by decide) (fun c5 => ?_) (fun c5 => ?_)
        · rw [if_neg c5] at h
          refine e_iload_n dX8_letterOf_99 rfl ?_
          refine e_bipush (x := (116 : Int32)) dX8_letterOf_100 (by decide) ?_
          refine e_icmp_ne (tgt := 109) dX8_letterOf_102 (by decide) (fun c4 => ?_) (fun c4 => ?_)
          · rw [if_neg c4] at h
            refine e_iload_n dX8_letterOf_109 rfl ?_
            refine e_bipush (x := (109 : Int32)) dX8_letterOf_110 (by decide) ?_
            refine e_icmp_ne (tgt := 119) dX8_letterOf_112 (by decide) (fun c3 => ?_) (fun c3 => ?_)
            · rw [if_neg c3] at h
              refine e_iload_n dX8_letterOf_119 rfl ?_
              refine e_bipush (x := (97 : Int32)) dX8_letterOf_120 (by decide) ?_
              refine e_icmp_ne (tgt := 129) dX8_letterOf_122 (by decide) (fun c2 => ?_) (fun c2 => ?_)
              · rw [if_neg c2] at h
                refine e_iload_n dX8_letterOf_129 rfl ?_
                refine e_bipush (x := (107 : Int32)) dX8_letterOf_130 (by decide) ?_
                refine e_icmp_ne (tgt := 140) dX8_letterOf_132 (by decide) (fun c1 => ?_) (fun c1 => ?_)
                · rw [if_neg c1] at h
                  refine e_iconst (x := (-1 : Int32)) dX8_letterOf_140 (by decide) ?_
                  subst h
                  exact e_iret dX8_letterOf_141 rfl rfl ⟨rfl, rfl, rfl⟩
                · rw [if_pos c1] at h
                  refine e_bipush (x := (6 : Int32)) dX8_letterOf_135 (by decide) ?_
                  refine e_goto (tgt := 141) dX8_letterOf_137 (by decide) ?_
                  subst h
                  exact e_iret dX8_letterOf_141 rfl rfl ⟨rfl, rfl, rfl⟩
              · rw [if_pos c2] at h
                refine e_iconst (x := (5 : Int32)) dX8_letterOf_125 (by decide) ?_
                refine e_goto (tgt := 141) dX8_letterOf_126 (by decide) ?_
                subst h
                exact e_iret dX8_letterOf_141 rfl rfl ⟨rfl, rfl, rfl⟩
            · rw [if_pos c3] at h
              refine e_iconst (x := (4 : Int32)) dX8_letterOf_115 (by decide) ?_
              refine e_goto (tgt := 141) dX8_letterOf_116 (by decide) ?_
              subst h
              exact e_iret dX8_letterOf_141 rfl rfl ⟨rfl, rfl, rfl⟩
          · rw [if_pos c4] at h
            refine e_iconst (x := (3 : Int32)) dX8_letterOf_105 (by decide) ?_
            refine e_goto (tgt := 141) dX8_letterOf_106 (by decide) ?_
            subst h
            exact e_iret dX8_letterOf_141 rfl rfl ⟨rfl, rfl, rfl⟩
        · rw [if_pos c5] at h
          refine e_iconst (x := (2 : Int32)) dX8_letterOf_95 (by decide) ?_
          refine e_goto (tgt := 141) dX8_letterOf_96 (by decide) ?_
          subst h
          exact e_iret dX8_letterOf_141 rfl rfl ⟨rfl, rfl, rfl⟩
      · rw [if_pos c6] at h
        refine e_iconst (x := (1 : Int32)) dX8_letterOf_85 (by decide) ?_
        refine e_goto (tgt := 141) dX8_letterOf_86 (by decide) ?_
        subst h
        exact e_iret dX8_letterOf_141 rfl rfl ⟨rfl, rfl, rfl⟩
    · rw [if_pos c7] at h
      refine e_iconst (x := (0 : Int32)) dX8_letterOf_75 (by decide) ?_
      refine e_goto (tgt := 141) dX8_letterOf_76 (by decide) ?_
      subst h
      exact e_iret dX8_letterOf_141 rfl rfl ⟨rfl, rfl, rfl⟩
  · rw [if_neg c14] at h
    refine e_iload_n dX8_letterOf_7 rfl ?_
    refine e_bipush (x := (101 : Int32)) dX8_letterOf_8 (by decide) ?_
    refine e_icmp_ne (tgt := 17) dX8_letterOf_10 (by decide) (fun c13 => ?_) (fun c13 => ?_)
    · rw [if_neg c13] at h
      refine e_iload_n dX8_letterOf_17 rfl ?_
      refine e_bipush (x := (114 : Int32)) dX8_letterOf_18 (by decide) ?_
      refine e_icmp_ne (tgt := 27) dX8_letterOf_20 (by decide) (fun c12 => ?_) (fun c12 => ?_)
      · rw [if_neg c12] at h
        refine e_iload_n dX8_letterOf_27 rfl ?_
        refine e_bipush (x := (118 : Int32)) dX8_letterOf_28 (by decide) ?_
        refine e_icmp_ne (tgt := 37) dX8_letterOf_30 (by decide) (fun c11 => ?_) (fun c11 => ?_)
        · rw [if_neg c11] at h
          refine e_iload_n dX8_letterOf_37 rfl ?_
          refine e_bipush (x := (110 : Int32)) dX8_letterOf_38 (by decide) ?_
          refine e_icmp_ne (tgt := 47) dX8_letterOf_40 (by decide) (fun c10 => ?_) (fun c10 => ?_)
          · rw [if_neg c10] at h
            refine e_iload_n dX8_letterOf_47 rfl ?_
            refine e_bipush (x := (104 : Int32)) dX8_letterOf_48 (by decide) ?_
            refine e_icmp_ne (tgt := 57) dX8_letterOf_50 (by decide) (fun c9 => ?_) (fun c9 => ?_)
            · rw [if_neg c9] at h
              refine e_iload_n dX8_letterOf_57 rfl ?_
              refine e_bipush (x := (116 : Int32)) dX8_letterOf_58 (by decide) ?_
              refine e_icmp_ne (tgt := 67) dX8_letterOf_60 (by decide) (fun c8 => ?_) (fun c8 => ?_)
              · rw [if_neg c8] at h
                refine e_iconst (x := (-1 : Int32)) dX8_letterOf_67 (by decide) ?_
                subst h
                exact e_iret dX8_letterOf_68 rfl rfl ⟨rfl, rfl, rfl⟩
              · rw [if_pos c8] at h
                refine e_iconst (x := (5 : Int32)) dX8_letterOf_63 (by decide) ?_
                refine e_goto (tgt := 68) dX8_letterOf_64 (by decide) ?_
                subst h
                exact e_iret dX8_letterOf_68 rfl rfl ⟨rfl, rfl, rfl⟩
            · rw [if_pos c9] at h
              refine e_iconst (x := (4 : Int32)) dX8_letterOf_53 (by decide) ?_
              refine e_goto (tgt := 68) dX8_letterOf_54 (by decide) ?_
              subst h
              exact e_iret dX8_letterOf_68 rfl rfl ⟨rfl, rfl, rfl⟩
          · rw [if_pos c10] at h
            refine e_iconst (x := (3 : Int32)) dX8_letterOf_43 (by decide) ?_
            refine e_goto (tgt := 68) dX8_letterOf_44 (by decide) ?_
            subst h
            exact e_iret dX8_letterOf_68 rfl rfl ⟨rfl, rfl, rfl⟩
        · rw [if_pos c11] at h
          refine e_iconst (x := (2 : Int32)) dX8_letterOf_33 (by decide) ?_
          refine e_goto (tgt := 68) dX8_letterOf_34 (by decide) ?_
          subst h
          exact e_iret dX8_letterOf_68 rfl rfl ⟨rfl, rfl, rfl⟩
      · rw [if_pos c12] at h
        refine e_iconst (x := (1 : Int32)) dX8_letterOf_23 (by decide) ?_
        refine e_goto (tgt := 68) dX8_letterOf_24 (by decide) ?_
        subst h
        exact e_iret dX8_letterOf_68 rfl rfl ⟨rfl, rfl, rfl⟩
    · rw [if_pos c13] at h
      refine e_iconst (x := (0 : Int32)) dX8_letterOf_13 (by decide) ?_
      refine e_goto (tgt := 68) dX8_letterOf_14 (by decide) ?_
      subst h
      exact e_iret dX8_letterOf_68 rfl rfl ⟨rfl, rfl, rfl⟩
def f_X8_opens_13   (v : rV)  : Option (rV) := vlet (rI v 174 5 ((v.1 174 5) + (1 : Int32))) fun v1 =>
  vlet (rI v1 174 3 ((v1.1 174 3) + (1 : Int32))) fun v2 =>
  some v2
def f_X8_opens (v : rV)  : Option (rV) := if (v.1 174 5) = (6 : Int32) then
  ((f_X8_bad v).bind fun p3 =>
  f_X8_opens_13  p3)
else
  (f_X8_opens_13  v)
set_option maxRecDepth 20000 in
theorem b_X8_opens_13 {X : Nat × (Nat → Int32)} {r : rV} {v : rV}     (h : f_X8_opens_13  v  = some r) : Ev mX8_opens 2 0 0 13 [(0, .ref 174)] [] (rZ X) v (rPV X r) := by
  unfold f_X8_opens_13 at h
  refine e_aload_n dX8_opens_13 rfl ?_
  refine e_dup dX8_opens_14 rfl ?_
  refine e_get (w := .int (v.1 174 5)) (j := 5) dX8_opens_15 k0_174 rc8 (by decide) wfX8_107 rfl ?_
  refine e_iconst (x := (1 : Int32)) dX8_opens_18 (by decide) ?_
  refine e_iadd dX8_opens_19 ?_
  refine e_putI (j := 5) dX8_opens_20 k0_174 rc8 (by decide) wfX8_107 rfl rfl ?_
  obtain ⟨v1, ev1, h⟩ := vlet_ex h
  refine e_nameV ev1.symm ?_
  clear ev1
  refine e_aload_n dX8_opens_23 rfl ?_
  refine e_dup dX8_opens_24 rfl ?_
  refine e_get (w := .int (v1.1 174 3)) (j := 3) dX8_opens_25 k0_174 rc8 (by decide) wfX8_90 rfl ?_
  refine e_iconst (x := (1 : Int32)) dX8_opens_28 (by decide) ?_
  refine e_iadd dX8_opens_29 ?_
  refine e_putI (j := 3) dX8_opens_30 k0_174 rc8 (by decide) wfX8_90 rfl rfl ?_
  obtain ⟨v2, ev2, h⟩ := vlet_ex h
  refine e_nameV ev2.symm ?_
  clear ev2
  obtain rfl := Option.some.inj h
  exact e_ret dX8_opens_33 rfl ⟨rfl, rfl, rfl⟩
set_option maxRecDepth 20000 in
theorem x_X8_opens {X : Nat × (Nat → Int32)} {v : rV} {r : rV}   (h : f_X8_opens v = some r) : EvM mX8_opens 2 0 0 [.ref 174] (rZ X) v (rPV X r) := by
  refine evm_of (by decide +kernel) (fun G => Nat.le_of_ble_eq_true rfl) ?_
  show Ev mX8_opens 2 0 0 0 [(0, .ref 174)] [] (rZ X) v _
  unfold f_X8_opens at h
  refine e_aload_n dX8_opens_0 rfl ?_
  refine e_get (w := .int (v.1 174 5)) (j := 5) dX8_opens_1 k0_174 rc8 (by decide) wfX8_107 rfl ?_
  refine e_bipush (x := (6 : Int32)) dX8_opens_4 (by decide) ?_
  refine e_icmp_ne (tgt := 13) dX8_opens_6 (by decide) (fun c4 => ?_) (fun c4 => ?_)
  · rw [if_neg c4] at h
    exact b_X8_opens_13  h
  · rw [if_pos c4] at h
    refine e_aload_n dX8_opens_9 rfl ?_
    obtain ⟨p3, ep3, h⟩ := Option.bind_eq_some_iff.mp h
    refine c_VV (M' := mX8_bad) [] dX8_opens_10 rfl wmX8_110 imX8_bad seX8_bad lkX8_bad k0_174 rc8 (Nat.le_of_ble_eq_true rfl) ((x_X8_bad  ep3).mono (by omega)) ?_
    exact b_X8_opens_13  h
def f_X8_closes_20   (v : rV)  : Option (rV) := vlet (rI v 174 3 ((v.1 174 3) + (1 : Int32))) fun v1 =>
  vlet (rI v1 174 5 ((v1.1 174 5) - (1 : Int32))) fun v2 =>
  some v2
def f_X8_closes (v : rV) (a1 : Int32) : Option (rV) := if (v.1 174 4) = (-1 : Int32) then
  ((f_X8_look v).bind fun p3 =>
  if p3.1 = a1 then
  (f_X8_closes_20  p3.2)
else
  ((f_X8_bad p3.2).bind fun p4 =>
  f_X8_closes_20  p4))
else
  (f_X8_closes_20  v)
set_option maxRecDepth 20000 in
theorem b_X8_closes_20 {X : Nat × (Nat → Int32)} {r : rV} {v : rV}     (h : f_X8_closes_20  v  = some r) : Ev mX8_closes 3 0 0 20 [(0, .ref 174)] [] (rZ X) v (rPV X r) := by
  unfold f_X8_closes_20 at h
  refine e_aload_n dX8_closes_20 rfl ?_
  refine e_dup dX8_closes_21 rfl ?_
  refine e_get (w := .int (v.1 174 3)) (j := 3) dX8_closes_22 k0_174 rc8 (by decide) wfX8_90 rfl ?_
  refine e_iconst (x := (1 : Int32)) dX8_closes_25 (by decide) ?_
  refine e_iadd dX8_closes_26 ?_
  refine e_putI (j := 3) dX8_closes_27 k0_174 rc8 (by decide) wfX8_90 rfl rfl ?_
  obtain ⟨v1, ev1, h⟩ := vlet_ex h
  refine e_nameV ev1.symm ?_
  clear ev1
  refine e_aload_n dX8_closes_30 rfl ?_
  refine e_dup dX8_closes_31 rfl ?_
  refine e_get (w := .int (v1.1 174 5)) (j := 5) dX8_closes_32 k0_174 rc8 (by decide) wfX8_107 rfl ?_
  refine e_iconst (x := (1 : Int32)) dX8_closes_35 (by decide) ?_
  refine e_isub dX8_closes_36 ?_
  refine e_putI (j := 5) dX8_closes_37 k0_174 rc8 (by decide) wfX8_107 rfl rfl ?_
  obtain ⟨v2, ev2, h⟩ := vlet_ex h
  refine e_nameV ev2.symm ?_
  clear ev2
  obtain rfl := Option.some.inj h
  exact e_ret dX8_closes_40 rfl ⟨rfl, rfl, rfl⟩
set_option maxRecDepth 20000 in
theorem x_X8_closes {X : Nat × (Nat → Int32)} {v : rV} {r : rV} {a1 : Int32}  (h : f_X8_closes v a1 = some r) : EvM mX8_closes 3 0 0 [.ref 174, .int a1] (rZ X) v (rPV X r) := by
  refine evm_of (by decide +kernel) (fun G => Nat.le_of_ble_eq_true rfl) ?_
  show Ev mX8_closes 3 0 0 0 [(0, .ref 174), (1, .int a1)] [] (rZ X) v _
  unfold f_X8_closes at h
  refine e_aload_n dX8_closes_0 rfl ?_
  refine e_get (w := .int (v.1 174 4)) (j := 4) dX8_closes_1 k0_174 rc8 (by decide) wfX8_97 rfl ?_
  refine e_iconst (x := (-1 : Int32)) dX8_closes_4 (by decide) ?_
  refine e_icmp_ne (tgt := 20) dX8_closes_5 (by decide) (fun c6 => ?_) (fun c6 => ?_)
  · rw [if_neg c6] at h
    refine e_sub [0] rfl ?_
    exact b_X8_closes_20  h
  · rw [if_pos c6] at h
    refine e_aload_n dX8_closes_8 rfl ?_
    obtain ⟨p3, ep3, h⟩ := Option.bind_eq_some_iff.mp h
    refine c_VI (M' := mX8_look) [] dX8_closes_9 rfl wmX8_113 imX8_look seX8_look lkX8_look k0_174 rc8 (Nat.le_of_ble_eq_true rfl) ((x_X8_look  ep3).mono (by omega)) ?_
    refine e_iload_n dX8_closes_12 rfl ?_
    refine e_icmp_eq (tgt := 20) dX8_closes_13 (by decide) (fun c5 => ?_) (fun c5 => ?_)
    · rw [if_pos c5] at h
      refine e_sub [0] rfl ?_
      exact b_X8_closes_20  h
    · rw [if_neg c5] at h
      refine e_aload_n dX8_closes_16 rfl ?_
      obtain ⟨p4, ep4, h⟩ := Option.bind_eq_some_iff.mp h
      refine c_VV (M' := mX8_bad) [] dX8_closes_17 rfl wmX8_110 imX8_bad seX8_bad lkX8_bad k0_174 rc8 (Nat.le_of_ble_eq_true rfl) ((x_X8_bad  ep4).mono (by omega)) ?_
      refine e_sub [0] rfl ?_
      exact b_X8_closes_20  h
def f_X8_atom (R : rV → Option rV) (v : rV)  : Option (rV) := (f_X8_look v).bind fun p1 =>
  if (f_X8_isDigit p1.1) = true then
  ((f_X8_plainNumber p1.2).bind fun p14 =>
  (f_X8_put p14.2 (0 : Int32) p14.1).bind fun p15 =>
  some p15)
else
  (if (f_X8_letterOf p1.2 p1.1) = (-1 : Int32) then
  (if p1.1 = (91 : Int32) then
  ((f_X8_opens p1.2).bind fun p5 =>
  if (p5.1 174 4) = (-1 : Int32) then
  ((R p5).bind fun p6 =>
  (f_X8_closes p6 (93 : Int32)).bind fun p7 =>
  some p7)
else
  (some p5))
else
  ((f_X8_bad p1.2).bind fun p4 =>
  some p4))
else
  (vlet (rI p1.2 174 3 ((p1.2.1 174 3) + (1 : Int32))) fun v10 =>
  (f_X8_put v10 (1 : Int32) (f_X8_letterOf v10 p1.1)).bind fun p12 =>
  some p12))
set_option maxRecDepth 20000 in
theorem x_X8_atom {X : Nat × (Nat → Int32)} {v : rV} {r : rV} {R : rV → Option rV} {dR : Nat} (hdR : 10 ≤ dR) (hR : ∀ (v : rV) (r : rV), R v = some r → EvM mX8_sum dR 0 0 [.ref 174] (rZ X) v (rPV X r))   (h : f_X8_atom R v = some r) : EvM mX8_atom (dR + 1) 0 0 [.ref 174] (rZ X) v (rPV X r) := by
  refine evm_of (by decide +kernel) (fun G => Nat.le_of_ble_eq_true rfl) ?_
  show Ev mX8_atom (dR + 1) 0 0 0 [(0, .ref 174)] [] (rZ X) v _
  unfold f_X8_atom at h
  refine e_aload_n dX8_atom_0 rfl ?_
  obtain ⟨p1, ep1, h⟩ := Option.bind_eq_some_iff.mp h
  refine c_VI (M' := mX8_look) [] dX8_atom_1 rfl wmX8_113 imX8_look seX8_look lkX8_look k0_174 rc8 (Nat.le_of_ble_eq_true rfl) ((x_X8_look  ep1).mono (by omega)) ?_
  refine e_istore_n (lv' := [(1, .int p1.1), (0, .ref 174)]) dX8_atom_4 (by decide) rfl ?_
  refine e_iload_n dX8_atom_5 rfl ?_
  refine c_SZ (M' := mX8_isDigit) [.int p1.1] dX8_atom_6 rfl wmX8_116 stX8_isDigit lkX8_isDigit (Nat.le_of_ble_eq_true rfl) ((x_X8_isDigit ).mono (by omega)) ?_
  refine e_if_eq (tgt := 24) dX8_atom_9 (by decide) (fun c16 => ?_) (fun c16 => ?_)
  · rw [if_neg (bI_n c16)] at h
    refine e_aload_n dX8_atom_24 rfl ?_
    refine e_iload_n dX8_atom_25 rfl ?_
    refine c_VI (M' := mX8_letterOf) [.int p1.1] dX8_atom_26 rfl wmX8_127 imX8_letterOf seX8_letterOf lkX8_letterOf k0_174 rc8 (Nat.le_of_ble_eq_true rfl) ((x_X8_letterOf ).mono (by omega)) ?_
    refine e_iconst (x := (-1 : Int32)) dX8_atom_29 (by decide) ?_
    refine e_icmp_eq (tgt := 56) dX8_atom_30 (by decide) (fun c13 => ?_) (fun c13 => ?_)
    · rw [if_pos c13] at h
      refine e_iload_n dX8_atom_56 rfl ?_
      refine e_bipush (x := (91 : Int32)) dX8_atom_57 (by decide) ?_
      refine e_icmp_ne (tgt := 87) dX8_atom_59 (by decide) (fun c9 => ?_) (fun c9 => ?_)
      · rw [if_neg c9] at h
        refine e_aload_n dX8_atom_87 rfl ?_
        obtain ⟨p4, ep4, h⟩ := Option.bind_eq_some_iff.mp h
        refine c_VV (M' := mX8_bad) [] dX8_atom_88 rfl wmX8_110 imX8_bad seX8_bad lkX8_bad k0_174 rc8 (Nat.le_of_ble_eq_true rfl) ((x_X8_bad  ep4).mono (by omega)) ?_
        obtain rfl := Option.some.inj h
        exact e_ret dX8_atom_91 rfl ⟨rfl, rfl, rfl⟩
      · rw [if_pos c9] at h
        refine e_aload_n dX8_atom_62 rfl ?_
        obtain ⟨p5, ep5, h⟩ := Option.bind_eq_some_iff.mp h
        refine c_VV (M' := mX8_opens) [] dX8_atom_63 rfl wmX8_131 imX8_opens seX8_opens lkX8_opens k0_174 rc8 (Nat.le_of_ble_eq_true rfl) ((x_X8_opens  ep5).mono (by omega)) ?_
        refine e_aload_n dX8_atom_66 rfl ?_
        refine e_get (w := .int (p5.1 174 4)) (j := 4) dX8_atom_67 k0_174 rc8 (by decide) wfX8_97 rfl ?_
        refine e_iconst (x := (-1 : Int32)) dX8_atom_70 (by decide) ?_
        refine e_icmp_ne (tgt := 91) dX8_atom_71 (by decide) (fun c8 => ?_) (fun c8 => ?_)
        · rw [if_neg c8] at h
          obtain rfl := Option.some.inj h
          exact e_ret dX8_atom_91 rfl ⟨rfl, rfl, rfl⟩
        · rw [if_pos c8] at h
          refine e_aload_n dX8_atom_74 rfl ?_
          obtain ⟨p6, ep6, h⟩ := Option.bind_eq_some_iff.mp h
          refine c_VV (M' := mX8_sum) [] dX8_atom_75 rfl wmX8_134 imX8_sum seX8_sum lkX8_sum k0_174 rc8 (Nat.le_of_ble_eq_true rfl) ((hR _ _  ep6).mono (by omega)) ?_
          refine e_aload_n dX8_atom_78 rfl ?_
          refine e_bipush (x := (93 : Int32)) dX8_atom_79 (by decide) ?_
          obtain ⟨p7, ep7, h⟩ := Option.bind_eq_some_iff.mp h
          refine c_VV (M' := mX8_closes) [.int (93 : Int32)] dX8_atom_81 rfl wmX8_137 imX8_closes seX8_closes lkX8_closes k0_174 rc8 (Nat.le_of_ble_eq_true rfl) ((x_X8_closes  ep7).mono (by omega)) ?_
          refine e_goto (tgt := 91) dX8_atom_84 (by decide) ?_
          obtain rfl := Option.some.inj h
          exact e_ret dX8_atom_91 rfl ⟨rfl, rfl, rfl⟩
    · rw [if_neg c13] at h
      refine e_aload_n dX8_atom_33 rfl ?_
      refine e_dup dX8_atom_34 rfl ?_
      refine e_get (w := .int (p1.2.1 174 3)) (j := 3) dX8_atom_35 k0_174 rc8 (by decide) wfX8_90 rfl ?_
      refine e_iconst (x := (1 : Int32)) dX8_atom_38 (by decide) ?_
      refine e_iadd dX8_atom_39 ?_
      refine e_putI (j := 3) dX8_atom_40 k0_174 rc8 (by decide) wfX8_90 rfl rfl ?_
      obtain ⟨v10, ev10, h⟩ := vlet_ex h
      refine e_nameV ev10.symm ?_
      clear ev10
      refine e_aload_n dX8_atom_43 rfl ?_
      refine e_iconst (x := (1 : Int32)) dX8_atom_44 (by decide) ?_
      refine e_aload_n dX8_atom_45 rfl ?_
      refine e_iload_n dX8_atom_46 rfl ?_
      refine c_VI (M' := mX8_letterOf) [.int p1.1] dX8_atom_47 rfl wmX8_127 imX8_letterOf seX8_letterOf lkX8_letterOf k0_174 rc8 (Nat.le_of_ble_eq_true rfl) ((x_X8_letterOf ).mono (by omega)) ?_
      obtain ⟨p12, ep12, h⟩ := Option.bind_eq_some_iff.mp h
      refine c_VV (M' := mX8_put) [.int (1 : Int32), .int (f_X8_letterOf v10 p1.1)] dX8_atom_50 rfl wmX8_123 imX8_put seX8_put lkX8_put k0_174 rc8 (Nat.le_of_ble_eq_true rfl) ((x_X8_put  ep12).mono (by omega)) ?_
      refine e_goto (tgt := 91) dX8_atom_53 (by decide) ?_
      obtain rfl := Option.some.inj h
      exact e_ret dX8_atom_91 rfl ⟨rfl, rfl, rfl⟩
  · rw [if_pos (bI_p c16)] at h
    refine e_aload_n dX8_atom_12 rfl ?_
    refine e_iconst (x := (0 : Int32)) dX8_atom_13 (by decide) ?_
    refine e_aload_n dX8_atom_14 rfl ?_
    obtain ⟨p14, ep14, h⟩ := Option.bind_eq_some_iff.mp h
    refine c_VI (M' := mX8_plainNumber) [] dX8_atom_15 rfl wmX8_120 imX8_plainNumber seX8_plainNumber lkX8_plainNumber k0_174 rc8 (Nat.le_of_ble_eq_true rfl) ((x_X8_plainNumber  ep14).mono (by omega)) ?_
    obtain ⟨p15, ep15, h⟩ := Option.bind_eq_some_iff.mp h
    refine c_VV (M' := mX8_put) [.int (0 : Int32), .int p14.1] dX8_atom_18 rfl wmX8_123 imX8_put seX8_put lkX8_put k0_174 rc8 (Nat.le_of_ble_eq_true rfl) ((x_X8_put  ep15).mono (by omega)) ?_
    refine e_goto (tgt := 91) dX8_atom_21 (by decide) ?_
    obtain rfl := Option.some.inj h
    exact e_ret dX8_atom_91 rfl ⟨rfl, rfl, rfl⟩
def f_X8_term_79 (R : rV → Option rV)  (q21 : rV → Int32 → Option (rV)) (v : rV) (s0 : Int32) : Option (rV) := q21 v s0
def f_X8_term_59 (R : rV → Option rV)  (q21 : rV → Int32 → Option (rV)) (v : rV) (s0 : Int32) : Option (rV) := (f_X8_put v s0 (0 : Int32)).bind fun p4 =>
  if (p4.1 174 4) = (-1 : Int32) then
  ((f_X8_look p4).bind fun p5 =>
  f_X8_term_79 R q21 p5.2 p5.1)
else
  (f_X8_term_79 R q21 p4 (-1 : Int32))
def f_X8_term_33 (R : rV → Option rV)  (q21 : rV → Int32 → Option (rV)) (v : rV) (a1 : Int32) : Option (rV) := vlet (rI v 174 3 ((v.1 174 3) + (1 : Int32))) fun v2 =>
  (f_X8_atom R v2).bind fun p3 =>
  if a1 = (42 : Int32) then
  (f_X8_term_59 R q21 p3 (4 : Int32))
else
  (f_X8_term_59 R q21 p3 (5 : Int32))
def f_X8_term_21 (R : rV → Option rV)   : Nat → rV → Int32 → Option (rV)
  | 0, _, _ => none
  | n + 1, v, a1 => if a1 = (42 : Int32) then
  (f_X8_term_33 R (fun v a1 => f_X8_term_21 R  n v a1) v a1)
else
  (if a1 = (47 : Int32) then
  (f_X8_term_33 R (fun v a1 => f_X8_term_21 R  n v a1) v a1)
else
  (some v))
def f_X8_term_20 (R : rV → Option rV)   (v : rV) (s0 : Int32) : Option (rV) := f_X8_term_21 R  20000 v s0
def f_X8_term (R : rV → Option rV) (v : rV)  : Option (rV) := (f_X8_atom R v).bind fun p1 =>
  if (p1.1 174 4) = (-1 : Int32) then
  ((f_X8_look p1).bind fun p10 =>
  f_X8_term_20 R  p10.2 p10.1)
else
  (f_X8_term_20 R  p1 (-1 : Int32))
set_option maxRecDepth 20000 in
theorem b_X8_term_79 {X : Nat × (Nat → Int32)} {R : rV → Option rV} {dR : Nat} (hdR : 10 ≤ dR) (hR : ∀ (v : rV) (r : rV), R v = some r → EvM mX8_sum dR 0 0 [.ref 174] (rZ X) v (rPV X r)) {r : rV} {v : rV} {q21 : rV → Int32 → Option (rV)} (hq21 : ∀ (v : rV) (a1 : Int32) , q21 v a1 = some r → Ev mX8_term (dR + 2) 0 0 21 [(0, .ref 174), (1, .int a1)] [] (rZ X) v (rPV X r)) {s0 : Int32}  (h : f_X8_term_79 R q21 v s0 = some r) : Ev mX8_term (dR + 2) 0 0 79 [(0, .ref 174)] [.int s0] (rZ X) v (rPV X r) := by
  unfold f_X8_term_79 at h
  refine e_istore_n (lv' := [(1, .int s0), (0, .ref 174)]) dX8_term_79 (by decide) rfl ?_
  refine e_goto (tgt := 21) dX8_term_80 (by decide) ?_
  refine e_sub [1, 0] rfl ?_
  exact hq21 v s0 h
set_option maxRecDepth 20000 in
theorem b_X8_term_59 {X : Nat × (Nat → Int32)} {R : rV → Option rV} {dR : Nat} (hdR : 10 ≤ dR) (hR : ∀ (v : rV) (r : rV), R v = some r → EvM mX8_sum dR 0 0 [.ref 174] (rZ X) v (rPV X r)) {r : rV} {v : rV} {q21 : rV → Int32 → Option (rV)} (hq21 : ∀ (v : rV) (a1 : Int32) , q21 v a1 = some r → Ev mX8_term (dR + 2) 0 0 21 [(0, .ref 174), (1, .int a1)] [] (rZ X) v (rPV X r)) {s0 : Int32}  (h : f_X8_term_59 R q21 v s0 = some r) : Ev mX8_term (dR + 2) 0 0 59 [(0, .ref 174)] [.int s0, .ref 174] (rZ X) v (rPV X r) := by
  unfold f_X8_term_59 at h
  refine e_iconst (x := (0 : Int32)) dX8_term_59 (by decide) ?_
  obtain ⟨p4, ep4, h⟩ := Option.bind_eq_some_iff.mp h
  refine c_VV (M' := mX8_put) [.int s0, .int (0 : Int32)] dX8_term_60 rfl wmX8_123 imX8_put seX8_put lkX8_put k0_174 rc8 (Nat.le_of_ble_eq_true rfl) ((x_X8_put  ep4).mono (by omega)) ?_
  refine e_aload_n dX8_term_63 rfl ?_
  refine e_get (w := .int (p4.1 174 4)) (j := 4) dX8_term_64 k0_174 rc8 (by decide) wfX8_97 rfl ?_
  refine e_iconst (x := (-1 : Int32)) dX8_term_67 (by decide) ?_
  refine e_icmp_ne (tgt := 78) dX8_term_68 (by decide) (fun c6 => ?_) (fun c6 => ?_)
  · rw [if_neg c6] at h
    refine e_iconst (x := (-1 : Int32)) dX8_term_78 (by decide) ?_
    exact b_X8_term_79 hdR hR hq21 h
  · rw [if_pos c6] at h
    refine e_aload_n dX8_term_71 rfl ?_
    obtain ⟨p5, ep5, h⟩ := Option.bind_eq_some_iff.mp h
    refine c_VI (M' := mX8_look) [] dX8_term_72 rfl wmX8_113 imX8_look seX8_look lkX8_look k0_174 rc8 (Nat.le_of_ble_eq_true rfl) ((x_X8_look  ep5).mono (by omega)) ?_
    refine e_goto (tgt := 79) dX8_term_75 (by decide) ?_
    exact b_X8_term_79 hdR hR hq21 h
set_option maxRecDepth 20000 in
theorem b_X8_term_33 {X : Nat × (Nat → Int32)} {R : rV → Option rV} {dR : Nat} (hdR : 10 ≤ dR) (hR : ∀ (v : rV) (r : rV), R v = some r → EvM mX8_sum dR 0 0 [.ref 174] (rZ X) v (rPV X r)) {r : rV} {v : rV} {q21 : rV → Int32 → Option (rV)} (hq21 : ∀ (v : rV) (a1 : Int32) , q21 v a1 = some r → Ev mX8_term (dR + 2) 0 0 21 [(0, .ref 174), (1, .int a1)] [] (rZ X) v (rPV X r)) {a1 : Int32}  (h : f_X8_term_33 R q21 v a1 = some r) : Ev mX8_term (dR + 2) 0 0 33 [(0, .ref 174), (1, .int a1)] [] (rZ X) v (rPV X r) := by
  unfold f_X8_term_33 at h
  refine e_aload_n dX8_term_33 rfl ?_
  refine e_dup dX8_term_34 rfl ?_
  refine e_get (w := .int (v.1 174 3)) (j := 3) dX8_term_35 k0_174 rc8 (by decide) wfX8_90 rfl ?_
  refine e_iconst (x := (1 : Int32)) dX8_term_38 (by decide) ?_
  refine e_iadd dX8_term_39 ?_
  refine e_putI (j := 3) dX8_term_40 k0_174 rc8 (by decide) wfX8_90 rfl rfl ?_
  obtain ⟨v2, ev2, h⟩ := vlet_ex h
  refine e_nameV ev2.symm ?_
  clear ev2
  refine e_aload_n dX8_term_43 rfl ?_
  obtain ⟨p3, ep3, h⟩ := Option.bind_eq_some_iff.mp h
  refine c_VV (M' := mX8_atom) [] dX8_term_44 rfl wmX8_141 imX8_atom seX8_atom lkX8_atom k0_174 rc8 (Nat.le_of_ble_eq_true rfl) ((x_X8_atom hdR hR  ep3).mono (by omega)) ?_
  refine e_aload_n dX8_term_47 rfl ?_
  refine e_iload_n dX8_term_48 rfl ?_
  refine e_bipush (x := (42 : Int32)) dX8_term_49 (by decide) ?_
  refine e_icmp_ne (tgt := 58) dX8_term_51 (by decide) (fun c7 => ?_) (fun c7 => ?_)
  · rw [if_neg c7] at h
    refine e_iconst (x := (5 : Int32)) dX8_term_58 (by decide) ?_
    refine e_sub [0] rfl ?_
    exact b_X8_term_59 hdR hR hq21 h
  · rw [if_pos c7] at h
    refine e_iconst (x := (4 : Int32)) dX8_term_54 (by decide) ?_
    refine e_goto (tgt := 59) dX8_term_55 (by decide) ?_
    refine e_sub [0] rfl ?_
    exact b_X8_term_59 hdR hR hq21 h
set_option maxRecDepth 20000 in
theorem b_X8_term_21 {X : Nat × (Nat → Int32)} {R : rV → Option rV} {dR : Nat} (hdR : 10 ≤ dR) (hR : ∀ (v : rV) (r : rV), R v = some r → EvM mX8_sum dR 0 0 [.ref 174] (rZ X) v (rPV X r)) {r : rV}   : ∀ (n : Nat) (v : rV) (a1 : Int32) , f_X8_term_21 R   n v a1 = some r → Ev mX8_term (dR + 2) 0 0 21 [(0, .ref 174), (1, .int a1)] [] (rZ X) v (rPV X r) := by
  intro n
  induction n with
  | zero =>
    intros
    rename_i h
    cases h
  | succ n ih =>
    intro v a1 h
    rw [f_X8_term_21] at h
    refine e_iload_n dX8_term_21 rfl ?_
    refine e_bipush (x := (42 : Int32)) dX8_term_22 (by decide) ?_
    refine e_icmp_eq (tgt := 33) dX8_term_24 (by decide) (fun c9 => ?_) (fun c9 => ?_)
    · rw [if_pos c9] at h
      exact b_X8_term_33 hdR hR (fun v a1  hh => ih v a1  hh) h
    · rw [if_neg c9] at h
      refine e_iload_n dX8_term_27 rfl ?_
      refine e_bipush (x := (47 : Int32)) dX8_term_28 (by decide) ?_
      refine e_icmp_ne (tgt := 83) dX8_term_30 (by decide) (fun c8 => ?_) (fun c8 => ?_)
      · rw [if_neg c8] at h
        obtain rfl := Option.some.inj h
        exact e_ret dX8_term_83 rfl ⟨rfl, rfl, rfl⟩
      · rw [if_pos c8] at h
        exact b_X8_term_33 hdR hR (fun v a1  hh => ih v a1  hh) h
set_option maxRecDepth 20000 in
theorem b_X8_term_20 {X : Nat × (Nat → Int32)} {R : rV → Option rV} {dR : Nat} (hdR : 10 ≤ dR) (hR : ∀ (v : rV) (r : rV), R v = some r → EvM mX8_sum dR 0 0 [.ref 174] (rZ X) v (rPV X r)) {r : rV} {v : rV}   {s0 : Int32}  (h : f_X8_term_20 R  v s0 = some r) : Ev mX8_term (dR + 2) 0 0 20 [(0, .ref 174)] [.int s0] (rZ X) v (rPV X r) := by
  unfold f_X8_term_20 at h
  refine e_istore_n (lv' := [(1, .int s0), (0, .ref 174)]) dX8_term_20 (by decide) rfl ?_
  refine e_sub [1, 0] rfl ?_
  exact b_X8_term_21 hdR hR  _ v s0 h
set_option maxRecDepth 20000 in
theorem x_X8_term {X : Nat × (Nat → Int32)} {v : rV} {r : rV} {R : rV → Option rV} {dR : Nat} (hdR : 10 ≤ dR) (hR : ∀ (v : rV) (r : rV), R v = some r → EvM mX8_sum dR 0 0 [.ref 174] (rZ X) v (rPV X r))   (h : f_X8_term R v = some r) : EvM mX8_term (dR + 2) 0 0 [.ref 174] (rZ X) v (rPV X r) := by
  refine evm_of (by decide +kernel) (fun G => Nat.le_of_ble_eq_true rfl) ?_
  show Ev mX8_term (dR + 2) 0 0 0 [(0, .ref 174)] [] (rZ X) v _
  unfold f_X8_term at h
  refine e_aload_n dX8_term_0 rfl ?_
  obtain ⟨p1, ep1, h⟩ := Option.bind_eq_some_iff.mp h
  refine c_VV (M' := mX8_atom) [] dX8_term_1 rfl wmX8_141 imX8_atom seX8_atom lkX8_atom k0_174 rc8 (Nat.le_of_ble_eq_true rfl) ((x_X8_atom hdR hR  ep1).mono (by omega)) ?_
  refine e_aload_n dX8_term_4 rfl ?_
  refine e_get (w := .int (p1.1 174 4)) (j := 4) dX8_term_5 k0_174 rc8 (by decide) wfX8_97 rfl ?_
  refine e_iconst (x := (-1 : Int32)) dX8_term_8 (by decide) ?_
  refine e_icmp_ne (tgt := 19) dX8_term_9 (by decide) (fun c11 => ?_) (fun c11 => ?_)
  · rw [if_neg c11] at h
    refine e_iconst (x := (-1 : Int32)) dX8_term_19 (by decide) ?_
    exact b_X8_term_20 hdR hR  h
  · rw [if_pos c11] at h
    refine e_aload_n dX8_term_12 rfl ?_
    obtain ⟨p10, ep10, h⟩ := Option.bind_eq_some_iff.mp h
    refine c_VI (M' := mX8_look) [] dX8_term_13 rfl wmX8_113 imX8_look seX8_look lkX8_look k0_174 rc8 (Nat.le_of_ble_eq_true rfl) ((x_X8_look  ep10).mono (by omega)) ?_
    refine e_goto (tgt := 20) dX8_term_16 (by decide) ?_
    exact b_X8_term_20 hdR hR  h
def f_X8_sum_79 (R : rV → Option rV)  (q21 : rV → Int32 → Option (rV)) (v : rV) (s0 : Int32) : Option (rV) := q21 v s0
def f_X8_sum_59 (R : rV → Option rV)  (q21 : rV → Int32 → Option (rV)) (v : rV) (s0 : Int32) : Option (rV) := (f_X8_put v s0 (0 : Int32)).bind fun p4 =>
  if (p4.1 174 4) = (-1 : Int32) then
  ((f_X8_look p4).bind fun p5 =>
  f_X8_sum_79 R q21 p5.2 p5.1)
else
  (f_X8_sum_79 R q21 p4 (-1 : Int32))
def f_X8_sum_33 (R : rV → Option rV)  (q21 : rV → Int32 → Option (rV)) (v : rV) (a1 : Int32) : Option (rV) := vlet (rI v 174 3 ((v.1 174 3) + (1 : Int32))) fun v2 =>
  (f_X8_term R v2).bind fun p3 =>
  if a1 = (43 : Int32) then
  (f_X8_sum_59 R q21 p3 (2 : Int32))
else
  (f_X8_sum_59 R q21 p3 (3 : Int32))
def f_X8_sum_21 (R : rV → Option rV)   : Nat → rV → Int32 → Option (rV)
  | 0, _, _ => none
  | n + 1, v, a1 => if a1 = (43 : Int32) then
  (f_X8_sum_33 R (fun v a1 => f_X8_sum_21 R  n v a1) v a1)
else
  (if a1 = (45 : Int32) then
  (f_X8_sum_33 R (fun v a1 => f_X8_sum_21 R  n v a1) v a1)
else
  (some v))
def f_X8_sum_20 (R : rV → Option rV)   (v : rV) (s0 : Int32) : Option (rV) := f_X8_sum_21 R  20000 v s0
def f_X8_sum_B (R : rV → Option rV) (v : rV)  : Option (rV) := (f_X8_term R v).bind fun p1 =>
  if (p1.1 174 4) = (-1 : Int32) then
  ((f_X8_look p1).bind fun p10 =>
  f_X8_sum_20 R  p10.2 p10.1)
else
  (f_X8_sum_20 R  p1 (-1 : Int32))
set_option maxRecDepth 20000 in
theorem b_X8_sum_79 {X : Nat × (Nat → Int32)} {R : rV → Option rV} {dR : Nat} (hdR : 10 ≤ dR) (hR : ∀ (v : rV) (r : rV), R v = some r → EvM mX8_sum dR 0 0 [.ref 174] (rZ X) v (rPV X r)) {r : rV} {v : rV} {q21 : rV → Int32 → Option (rV)} (hq21 : ∀ (v : rV) (a1 : Int32) , q21 v a1 = some r → Ev mX8_sum (dR + 3) 0 0 21 [(0, .ref 174), (1, .int a1)] [] (rZ X) v (rPV X r)) {s0 : Int32}  (h : f_X8_sum_79 R q21 v s0 = some r) : Ev mX8_sum (dR + 3) 0 0 79 [(0, .ref 174)] [.int s0] (rZ X) v (rPV X r) := by
  unfold f_X8_sum_79 at h
  refine e_istore_n (lv' := [(1, .int s0), (0, .ref 174)]) dX8_sum_79 (by decide) rfl ?_
  refine e_goto (tgt := 21) dX8_sum_80 (by decide) ?_
  refine e_sub [1, 0] rfl ?_
  exact hq21 v s0 h
set_option maxRecDepth 20000 in
theorem b_X8_sum_59 {X : Nat × (Nat → Int32)} {R : rV → Option rV} {dR : Nat} (hdR : 10 ≤ dR) (hR : ∀ (v : rV) (r : rV), R v = some r → EvM mX8_sum dR 0 0 [.ref 174] (rZ X) v (rPV X r)) {r : rV} {v : rV} {q21 : rV → Int32 → Option (rV)} (hq21 : ∀ (v : rV) (a1 : Int32) , q21 v a1 = some r → Ev mX8_sum (dR + 3) 0 0 21 [(0, .ref 174), (1, .int a1)] [] (rZ X) v (rPV X r)) {s0 : Int32}  (h : f_X8_sum_59 R q21 v s0 = some r) : Ev mX8_sum (dR + 3) 0 0 59 [(0, .ref 174)] [.int s0, .ref 174] (rZ X) v (rPV X r) := by
  unfold f_X8_sum_59 at h
  refine e_iconst (x := (0 : Int32)) dX8_sum_59 (by decide) ?_
  obtain ⟨p4, ep4, h⟩ := Option.bind_eq_some_iff.mp h
  refine c_VV (M' := mX8_put) [.int s0, .int (0 : Int32)] dX8_sum_60 rfl wmX8_123 imX8_put seX8_put lkX8_put k0_174 rc8 (Nat.le_of_ble_eq_true rfl) ((x_X8_put  ep4).mono (by omega)) ?_
  refine e_aload_n dX8_sum_63 rfl ?_
  refine e_get (w := .int (p4.1 174 4)) (j := 4) dX8_sum_64 k0_174 rc8 (by decide) wfX8_97 rfl ?_
  refine e_iconst (x := (-1 : Int32)) dX8_sum_67 (by decide) ?_
  refine e_icmp_ne (tgt := 78) dX8_sum_68 (by decide) (fun c6 => ?_) (fun c6 => ?_)
  · rw [if_neg c6] at h
    refine e_iconst (x := (-1 : Int32)) dX8_sum_78 (by decide) ?_
    exact b_X8_sum_79 hdR hR hq21 h
  · rw [if_pos c6] at h
    refine e_aload_n dX8_sum_71 rfl ?_
    obtain ⟨p5, ep5, h⟩ := Option.bind_eq_some_iff.mp h
    refine c_VI (M' := mX8_look) [] dX8_sum_72 rfl wmX8_113 imX8_look seX8_look lkX8_look k0_174 rc8 (Nat.le_of_ble_eq_true rfl) ((x_X8_look  ep5).mono (by omega)) ?_
    refine e_goto (tgt := 79) dX8_sum_75 (by decide) ?_
    exact b_X8_sum_79 hdR hR hq21 h
set_option maxRecDepth 20000 in
theorem b_X8_sum_33 {X : Nat × (Nat → Int32)} {R : rV → Option rV} {dR : Nat} (hdR : 10 ≤ dR) (hR : ∀ (v : rV) (r : rV), R v = some r → EvM mX8_sum dR 0 0 [.ref 174] (rZ X) v (rPV X r)) {r : rV} {v : rV} {q21 : rV → Int32 → Option (rV)} (hq21 : ∀ (v : rV) (a1 : Int32) , q21 v a1 = some r → Ev mX8_sum (dR + 3) 0 0 21 [(0, .ref 174), (1, .int a1)] [] (rZ X) v (rPV X r)) {a1 : Int32}  (h : f_X8_sum_33 R q21 v a1 = some r) : Ev mX8_sum (dR + 3) 0 0 33 [(0, .ref 174), (1, .int a1)] [] (rZ X) v (rPV X r) := by
  unfold f_X8_sum_33 at h
  refine e_aload_n dX8_sum_33 rfl ?_
  refine e_dup dX8_sum_34 rfl ?_
  refine e_get (w := .int (v.1 174 3)) (j := 3) dX8_sum_35 k0_174 rc8 (by decide) wfX8_90 rfl ?_
  refine e_iconst (x := (1 : Int32)) dX8_sum_38 (by decide) ?_
  refine e_iadd dX8_sum_39 ?_
  refine e_putI (j := 3) dX8_sum_40 k0_174 rc8 (by decide) wfX8_90 rfl rfl ?_
  obtain ⟨v2, ev2, h⟩ := vlet_ex h
  refine e_nameV ev2.symm ?_
  clear ev2
  refine e_aload_n dX8_sum_43 rfl ?_
  obtain ⟨p3, ep3, h⟩ := Option.bind_eq_some_iff.mp h
  refine c_VV (M' := mX8_term) [] dX8_sum_44 rfl wmX8_144 imX8_term seX8_term lkX8_term k0_174 rc8 (Nat.le_of_ble_eq_true rfl) ((x_X8_term hdR hR  ep3).mono (by omega)) ?_
  refine e_aload_n dX8_sum_47 rfl ?_
  refine e_iload_n dX8_sum_48 rfl ?_
  refine e_bipush (x := (43 : Int32)) dX8_sum_49 (by decide) ?_
  refine e_icmp_ne (tgt := 58) dX8_sum_51 (by decide) (fun c7 => ?_) (fun c7 => ?_)
  · rw [if_neg c7] at h
    refine e_iconst (x := (3 : Int32)) dX8_sum_58 (by decide) ?_
    refine e_sub [0] rfl ?_
    exact b_X8_sum_59 hdR hR hq21 h
  · rw [if_pos c7] at h
    refine e_iconst (x := (2 : Int32)) dX8_sum_54 (by decide) ?_
    refine e_goto (tgt := 59) dX8_sum_55 (by decide) ?_
    refine e_sub [0] rfl ?_
    exact b_X8_sum_59 hdR hR hq21 h
set_option maxRecDepth 20000 in
theorem b_X8_sum_21 {X : Nat × (Nat → Int32)} {R : rV → Option rV} {dR : Nat} (hdR : 10 ≤ dR) (hR : ∀ (v : rV) (r : rV), R v = some r → EvM mX8_sum dR 0 0 [.ref 174] (rZ X) v (rPV X r)) {r : rV}   : ∀ (n : Nat) (v : rV) (a1 : Int32) , f_X8_sum_21 R   n v a1 = some r → Ev mX8_sum (dR + 3) 0 0 21 [(0, .ref 174), (1, .int a1)] [] (rZ X) v (rPV X r) := by
  intro n
  induction n with
  | zero =>
    intros
    rename_i h
    cases h
  | succ n ih =>
    intro v a1 h
    rw [f_X8_sum_21] at h
    refine e_iload_n dX8_sum_21 rfl ?_
    refine e_bipush (x := (43 : Int32)) dX8_sum_22 (by decide) ?_
    refine e_icmp_eq (tgt := 33) dX8_sum_24 (by decide) (fun c9 => ?_) (fun c9 => ?_)
    · rw [if_pos c9] at h
      exact b_X8_sum_33 hdR hR (fun v a1  hh => ih v a1  hh) h
    · rw [if_neg c9] at h
      refine e_iload_n dX8_sum_27 rfl ?_
      refine e_bipush (x := (45 : Int32)) dX8_sum_28 (by decide) ?_
      refine e_icmp_ne (tgt := 83) dX8_sum_30 (by decide) (fun c8 => ?_) (fun c8 => ?_)
      · rw [if_neg c8] at h
        obtain rfl := Option.some.inj h
        exact e_ret dX8_sum_83 rfl ⟨rfl, rfl, rfl⟩
      · rw [if_pos c8] at h
        exact b_X8_sum_33 hdR hR (fun v a1  hh => ih v a1  hh) h
set_option maxRecDepth 20000 in
theorem b_X8_sum_20 {X : Nat × (Nat → Int32)} {R : rV → Option rV} {dR : Nat} (hdR : 10 ≤ dR) (hR : ∀ (v : rV) (r : rV), R v = some r → EvM mX8_sum dR 0 0 [.ref 174] (rZ X) v (rPV X r)) {r : rV} {v : rV}   {s0 : Int32}  (h : f_X8_sum_20 R  v s0 = some r) : Ev mX8_sum (dR + 3) 0 0 20 [(0, .ref 174)] [.int s0] (rZ X) v (rPV X r) := by
  unfold f_X8_sum_20 at h
  refine e_istore_n (lv' := [(1, .int s0), (0, .ref 174)]) dX8_sum_20 (by decide) rfl ?_
  refine e_sub [1, 0] rfl ?_
  exact b_X8_sum_21 hdR hR  _ v s0 h
set_option maxRecDepth 20000 in
theorem x_X8_sum_B {X : Nat × (Nat → Int32)} {v : rV} {r : rV} {R : rV → Option rV} {dR : Nat} (hdR : 10 ≤ dR) (hR : ∀ (v : rV) (r : rV), R v = some r → EvM mX8_sum dR 0 0 [.ref 174] (rZ X) v (rPV X r))   (h : f_X8_sum_B R v = some r) : EvM mX8_sum (dR + 3) 0 0 [.ref 174] (rZ X) v (rPV X r) := by
  refine evm_of (by decide +kernel) (fun G => Nat.le_of_ble_eq_true rfl) ?_
  show Ev mX8_sum (dR + 3) 0 0 0 [(0, .ref 174)] [] (rZ X) v _
  unfold f_X8_sum_B at h
  refine e_aload_n dX8_sum_0 rfl ?_
  obtain ⟨p1, ep1, h⟩ := Option.bind_eq_some_iff.mp h
  refine c_VV (M' := mX8_term) [] dX8_sum_1 rfl wmX8_144 imX8_term seX8_term lkX8_term k0_174 rc8 (Nat.le_of_ble_eq_true rfl) ((x_X8_term hdR hR  ep1).mono (by omega)) ?_
  refine e_aload_n dX8_sum_4 rfl ?_
  refine e_get (w := .int (p1.1 174 4)) (j := 4) dX8_sum_5 k0_174 rc8 (by decide) wfX8_97 rfl ?_
  refine e_iconst (x := (-1 : Int32)) dX8_sum_8 (by decide) ?_
  refine e_icmp_ne (tgt := 19) dX8_sum_9 (by decide) (fun c11 => ?_) (fun c11 => ?_)
  · rw [if_neg c11] at h
    refine e_iconst (x := (-1 : Int32)) dX8_sum_19 (by decide) ?_
    exact b_X8_sum_20 hdR hR  h
  · rw [if_pos c11] at h
    refine e_aload_n dX8_sum_12 rfl ?_
    obtain ⟨p10, ep10, h⟩ := Option.bind_eq_some_iff.mp h
    refine c_VI (M' := mX8_look) [] dX8_sum_13 rfl wmX8_113 imX8_look seX8_look lkX8_look k0_174 rc8 (Nat.le_of_ble_eq_true rfl) ((x_X8_look  ep10).mono (by omega)) ?_
    refine e_goto (tgt := 20) dX8_sum_16 (by decide) ?_
    exact b_X8_sum_20 hdR hR  h
def f_X8_sum : Nat → rV → Option rV
  | 0, _ => none
  | n + 1, v => f_X8_sum_B (f_X8_sum n) v
theorem x_X8_sum {X : Nat × (Nat → Int32)} : ∀ (n : Nat) (v : rV) (r : rV), f_X8_sum n v = some r → EvM mX8_sum (10 + 3 * n) 0 0 [.ref 174] (rZ X) v (rPV X r) := by
  intro n
  induction n with
  | zero =>
    intros
    rename_i h
    cases h
  | succ n ih =>
    intro v  r h
    rw [f_X8_sum] at h
    exact (x_X8_sum_B (dR := 10 + 3 * n) (by omega) ih h).mono (by omega)
def f_X8_back_11   : Nat → rV → Int32 → Option (Int32 × rV)
  | 0, _, _ => none
  | n + 1, v, a1 => if (416 : Int32) ≤ a1 then
  (vlet (rL v 174 27 (v.2.1 174 29)) fun v1 =>
  some (v1.1 187 289, v1))
else
  (if ¬ a1 < 0 ∧ a1.toNatClampNeg < 416 then
  (vlet (rI v 187 a1.toNatClampNeg (v.1 189 a1.toNatClampNeg)) fun v3 =>
  vlet (a1 + (1 : Int32)) fun x4 =>
  f_X8_back_11  n v3 x4)
else none)
def f_X8_back (v : rV)  : Option (Int32 × rV) := if (v.1 174 30) = 0 then
  (some ((-1 : Int32), v))
else
  (f_X8_back_11  20000 v (0 : Int32))
set_option maxRecDepth 20000 in
theorem b_X8_back_11 {X : Nat × (Nat → Int32)} {r : Int32 × rV}   : ∀ (n : Nat) (v : rV) (a1 : Int32) , f_X8_back_11   n v a1 = some r → Ev mX8_back 1 0 0 11 [(0, .ref 174), (1, .int a1)] [] (rZ X) v (rPI X r) := by
  intro n
  induction n with
  | zero =>
    intros
    rename_i h
    cases h
  | succ n ih =>
    intro v a1 h
    rw [f_X8_back_11] at h
    refine e_iload_n dX8_back_11 rfl ?_
    refine e_sipush (x := (416 : Int32)) dX8_back_12 (by decide) ?_
    refine e_icmp_ge (tgt := 36) dX8_back_15 (by decide) (fun c5 => ?_) (fun c5 => ?_)
    · rw [if_pos c5] at h
      refine e_aload_n dX8_back_36 rfl ?_
      refine e_aload_n dX8_back_37 rfl ?_
      refine e_get (w := .long (v.2.1 174 29)) (j := 29) dX8_back_38 k0_174 rc8 (by decide) wfX8_417 rfl ?_
      refine e_putL (j := 27) dX8_back_41 k0_174 rc8 (by decide) wfX8_254 rfl rfl ?_
      obtain ⟨v1, ev1, h⟩ := vlet_ex h
      refine e_nameV ev1.symm ?_
      clear ev1
      refine e_aload_n dX8_back_44 rfl ?_
      refine e_get (w := .ref 187) (j := 24) dX8_back_45 k0_174 rc8 (by decide) wfX8_50 (g0_174_24) ?_
      refine e_sipush (x := (289 : Int32)) dX8_back_48 (by decide) ?_
      refine e_ialdJ dX8_back_51 k0_187 (j := 289) (by decide) (by decide) (by decide) ?_
      obtain rfl := Option.some.inj h
      exact e_iret dX8_back_52 rfl rfl ⟨rfl, rfl, rfl⟩
    · rw [if_neg c5] at h
      refine e_aload_n dX8_back_18 rfl ?_
      refine e_get (w := .ref 187) (j := 24) dX8_back_19 k0_174 rc8 (by decide) wfX8_50 (g0_174_24) ?_
      refine e_iload_n dX8_back_22 rfl ?_
      refine e_aload_n dX8_back_23 rfl ?_
      refine e_get (w := .ref 189) (j := 26) dX8_back_24 k0_174 rc8 (by decide) wfX8_56 (g0_174_26) ?_
      refine e_iload_n dX8_back_27 rfl ?_
      obtain ⟨c2, h⟩ := grd h
      refine e_ialdJ dX8_back_28 k0_189 rfl c2.2 c2.1 ?_
      refine e_iastJ dX8_back_29 k0_187 rfl (c2).2 (c2).1 ?_
      obtain ⟨v3, ev3, h⟩ := vlet_ex h
      refine e_nameV ev3.symm ?_
      clear ev3
      obtain ⟨x4, ex4, h⟩ := vlet_ex h
      refine e_iinc (lv' := [(1, .int x4), (0, .ref 174)]) dX8_back_30 rfl (ex4.symm) (by decide) rfl ?_
      clear ex4
      refine e_goto (tgt := 11) dX8_back_33 (by decide) ?_
      refine e_sub [1, 0] rfl ?_
      exact ih v3 x4 h
set_option maxRecDepth 20000 in
theorem x_X8_back {X : Nat × (Nat → Int32)} {v : rV} {r : Int32 × rV}   (h : f_X8_back v = some r) : EvM mX8_back 1 0 0 [.ref 174] (rZ X) v (rPI X r) := by
  refine evm_of (by decide +kernel) (fun G => Nat.le_of_ble_eq_true rfl) ?_
  show Ev mX8_back 1 0 0 0 [(0, .ref 174)] [] (rZ X) v _
  unfold f_X8_back at h
  refine e_aload_n dX8_back_0 rfl ?_
  refine e_get (w := .int (v.1 174 30)) (j := 30) dX8_back_1 k0_174 rc8 (by decide) wfX8_420 rfl ?_
  refine e_if_ne (tgt := 9) dX8_back_4 (by decide) (fun c6 => ?_) (fun c6 => ?_)
  · rw [if_neg c6] at h
    refine e_iconst (x := (0 : Int32)) dX8_back_9 (by decide) ?_
    refine e_istore_n (lv' := [(1, .int (0 : Int32)), (0, .ref 174)]) dX8_back_10 (by decide) rfl ?_
    refine e_sub [1, 0] rfl ?_
    exact b_X8_back_11  _ v (0 : Int32) h
  · rw [if_pos c6] at h
    refine e_iconst (x := (-1 : Int32)) dX8_back_7 (by decide) ?_
    obtain rfl := Option.some.inj h
    exact e_iret dX8_back_8 rfl rfl ⟨rfl, rfl, rfl⟩
def f_X8_isStain (v : rV) (a1 : Int32) : Bool := (f_X8_in a1 (0 : Int32) ((v.1 174 41) - (1 : Int32)))
set_option maxRecDepth 20000 in
theorem x_X8_isStain {X : Nat × (Nat → Int32)} {v : rV} {a1 : Int32}  : EvM mX8_isStain 2 0 0 [.ref 174, .int a1] (rZ X) v (rPZ X ((f_X8_isStain v a1), v)) := by
  refine evm_of (by decide +kernel) (fun G => Nat.le_of_ble_eq_true rfl) ?_
  show Ev mX8_isStain 2 0 0 0 [(0, .ref 174), (1, .int a1)] [] (rZ X) v _
  generalize h : f_X8_isStain v a1 = r
  unfold f_X8_isStain at h
  refine e_iload_n dX8_isStain_0 rfl ?_
  refine e_iconst (x := (0 : Int32)) dX8_isStain_1 (by decide) ?_
  refine e_aload_n dX8_isStain_2 rfl ?_
  refine e_get (w := .int (v.1 174 41)) (j := 41) dX8_isStain_3 k0_174 rc8 (by decide) wfX8_394 rfl ?_
  refine e_iconst (x := (1 : Int32)) dX8_isStain_6 (by decide) ?_
  refine e_isub dX8_isStain_7 ?_
  refine c_SZ (M' := mX8_in) [.int a1, .int (0 : Int32), .int ((v.1 174 41) - (1 : Int32))] dX8_isStain_8 rfl wmX8_216 stX8_in lkX8_in (Nat.le_of_ble_eq_true rfl) ((x_X8_in ).mono (by omega)) ?_
  subst h
  exact e_iret dX8_isStain_11 rfl (bI_z _) ⟨rfl, rfl, rfl⟩
def f_X8_blot_104 (v : rV) (q36 : Int32 → Int32 → Int32 → Int32 → Int32 → Int32 → Int32 → Int32 → Option (Int32)) (a1 : Int32) (a2 : Int32) (a3 : Int32) (a4 : Int32) (a5 : Int32) (a6 : Int32) (a8 : Int32) (s0 : Int32) : Option (Int32) := vlet (if a4 < a6 then a6 else a4 : Int32) fun x8 =>
  vlet (if a5 < s0 then s0 else a5 : Int32) fun x9 =>
  vlet (a8 + (1 : Int32)) fun x10 =>
  q36 a1 a2 a3 x8 x9 a6 s0 x10
def f_X8_blot_88 (v : rV) (q36 : Int32 → Int32 → Int32 → Int32 → Int32 → Int32 → Int32 → Int32 → Option (Int32)) (a1 : Int32) (a2 : Int32) (a3 : Int32) (a4 : Int32) (a5 : Int32) (a7 : Int32) (a8 : Int32) (a9 : Int32) (s0 : Int32) : Option (Int32) := if a9 ≤ 0 then
  (f_X8_blot_104 v q36 a1 a2 a3 a4 a5 s0 a8 (0 : Int32))
else
  (f_X8_blot_104 v q36 a1 a2 a3 a4 a5 s0 a8 (a7 + a9))
def f_X8_blot_73 (v : rV) (q36 : Int32 → Int32 → Int32 → Int32 → Int32 → Int32 → Int32 → Int32 → Option (Int32)) (a1 : Int32) (a2 : Int32) (a4 : Int32) (a5 : Int32) (a6 : Int32) (a7 : Int32) (a8 : Int32) (a9 : Int32) (s0 : Int32) (s1 : Int32) : Option (Int32) := vlet (s1 + s0 : Int32) fun x7 =>
  if a9 ≤ 0 then
  (f_X8_blot_88 v q36 a1 a2 x7 a4 a5 a7 a8 a9 (0 : Int32))
else
  (f_X8_blot_88 v q36 a1 a2 x7 a4 a5 a7 a8 a9 (a6 + (1 : Int32)))
def f_X8_blot_72 (v : rV) (q36 : Int32 → Int32 → Int32 → Int32 → Int32 → Int32 → Int32 → Int32 → Option (Int32)) (a1 : Int32) (a2 : Int32) (a4 : Int32) (a5 : Int32) (a6 : Int32) (a7 : Int32) (a8 : Int32) (a9 : Int32) (s0 : Int32) : Option (Int32) := f_X8_blot_73 v q36 a1 a2 a4 a5 a6 a7 a8 a9 (0 : Int32) s0
def f_X8_blot_36 (v : rV)  : Nat → Int32 → Int32 → Int32 → Int32 → Int32 → Int32 → Int32 → Int32 → Option (Int32)
  | 0, _, _, _, _, _, _, _, _ => none
  | n + 1, a1, a2, a3, a4, a5, a6, a7, a8 => if (24 : Int32) ≤ a8 then
  (if a2 = 0 then
  (some a3)
else
  (if a2 = (1 : Int32) then
  (some a4)
else
  (some a5)))
else
  (if ¬ (((24 : Int32) * a1) + a8) < 0 ∧ (((24 : Int32) * a1) + a8).toNatClampNeg < 144 then
  (vlet (v.1 195 ((((24 : Int32) * a1) + a8).toNatClampNeg) : Int32) fun x6 =>
  if x6 ≤ 0 then
  (f_X8_blot_72 v (fun a1 a2 a3 a4 a5 a6 a7 a8 => f_X8_blot_36 v n a1 a2 a3 a4 a5 a6 a7 a8) a1 a2 a4 a5 a6 a7 a8 x6 a3)
else
  (if a6 = 0 then
  (f_X8_blot_73 v (fun a1 a2 a3 a4 a5 a6 a7 a8 => f_X8_blot_36 v n a1 a2 a3 a4 a5 a6 a7 a8) a1 a2 a4 a5 a6 a7 a8 x6 (1 : Int32) a3)
else
  (f_X8_blot_72 v (fun a1 a2 a3 a4 a5 a6 a7 a8 => f_X8_blot_36 v n a1 a2 a3 a4 a5 a6 a7 a8) a1 a2 a4 a5 a6 a7 a8 x6 a3)))
else none)
def f_X8_blot (v : rV) (a1 : Int32) (a2 : Int32) : Option (Int32) := if (f_X8_isStain v a1) = true then
  (if (f_X8_in a2 (0 : Int32) (2 : Int32)) = true then
  (f_X8_blot_36 v 20000 a1 a2 (0 : Int32) (0 : Int32) (0 : Int32) (0 : Int32) (0 : Int32) (0 : Int32))
else
  (some (-1 : Int32)))
else
  (some (-1 : Int32))
set_option maxRecDepth 20000 in
theorem b_X8_blot_104 {X : Nat × (Nat → Int32)} {r : Int32} {v : rV} {q36 : Int32 → Int32 → Int32 → Int32 → Int32 → Int32 → Int32 → Int32 → Option (Int32)} (hq36 : ∀ (a1 : Int32) (a2 : Int32) (a3 : Int32) (a4 : Int32) (a5 : Int32) (a6 : Int32) (a7 : Int32) (a8 : Int32) , q36 a1 a2 a3 a4 a5 a6 a7 a8 = some r → Ev mX8_blot 3 0 0 36 [(0, .ref 174), (1, .int a1), (2, .int a2), (3, .int a3), (4, .int a4), (5, .int a5), (6, .int a6), (7, .int a7), (8, .int a8)] [] (rZ X) v (rPI X (r, v))) {a1 : Int32} {a2 : Int32} {a3 : Int32} {a4 : Int32} {a5 : Int32} {a6 : Int32} {a8 : Int32} {s0 : Int32}  (h : f_X8_blot_104 v q36 a1 a2 a3 a4 a5 a6 a8 s0 = some r) : Ev mX8_blot 3 0 0 104 [(0, .ref 174), (1, .int a1), (2, .int a2), (3, .int a3), (4, .int a4), (5, .int a5), (6, .int a6), (8, .int a8)] [.int s0] (rZ X) v (rPI X (r, v)) := by
  unfold f_X8_blot_104 at h
  refine e_istore (lv' := [(7, .int s0), (0, .ref 174), (1, .int a1), (2, .int a2), (3, .int a3), (4, .int a4), (5, .int a5), (6, .int a6), (8, .int a8)]) dX8_blot_104 (by decide) rfl ?_
  refine e_iload dX8_blot_106 rfl ?_
  refine e_iload dX8_blot_108 rfl ?_
  refine e_max dX8_blot_110 wmX8_300 wmst_max winimath wmcd_max (by omega) (Nat.le_of_ble_eq_true rfl) ?_
  obtain ⟨x8, ex8, h⟩ := vlet_ex h
  refine e_nameI ex8.symm ?_
  clear ex8
  refine e_istore (lv' := [(4, .int x8), (7, .int s0), (0, .ref 174), (1, .int a1), (2, .int a2), (3, .int a3), (5, .int a5), (6, .int a6), (8, .int a8)]) dX8_blot_113 (by decide) rfl ?_
  refine e_iload dX8_blot_115 rfl ?_
  refine e_iload dX8_blot_117 rfl ?_
  refine e_max dX8_blot_119 wmX8_300 wmst_max winimath wmcd_max (by omega) (Nat.le_of_ble_eq_true rfl) ?_
  obtain ⟨x9, ex9, h⟩ := vlet_ex h
  refine e_nameI ex9.symm ?_
  clear ex9
  refine e_istore (lv' := [(5, .int x9), (4, .int x8), (7, .int s0), (0, .ref 174), (1, .int a1), (2, .int a2), (3, .int a3), (6, .int a6), (8, .int a8)]) dX8_blot_122 (by decide) rfl ?_
  obtain ⟨x10, ex10, h⟩ := vlet_ex h
  refine e_iinc (lv' := [(8, .int x10), (5, .int x9), (4, .int x8), (7, .int s0), (0, .ref 174), (1, .int a1), (2, .int a2), (3, .int a3), (6, .int a6)]) dX8_blot_124 rfl (ex10.symm) (by decide) rfl ?_
  clear ex10
  refine e_goto (tgt := 36) dX8_blot_127 (by decide) ?_
  refine e_sub [4, 5, 6, 7, 2, 1, 8, 3, 0] rfl ?_
  exact hq36 a1 a2 a3 x8 x9 a6 s0 x10 h
set_option maxRecDepth 20000 in
theorem b_X8_blot_88 {X : Nat × (Nat → Int32)} {r : Int32} {v : rV} {q36 : Int32 → Int32 → Int32 → Int32 → Int32 → Int32 → Int32 → Int32 → Option (Int32)} (hq36 : ∀ (a1 : Int32) (a2 : Int32) (a3 : Int32) (a4 : Int32) (a5 : Int32) (a6 : Int32) (a7 : Int32) (a8 : Int32) , q36 a1 a2 a3 a4 a5 a6 a7 a8 = some r → Ev mX8_blot 3 0 0 36 [(0, .ref 174), (1, .int a1), (2, .int a2), (3, .int a3), (4, .int a4), (5, .int a5), (6, .int a6), (7, .int a7), (8, .int a8)] [] (rZ X) v (rPI X (r, v))) {a1 : Int32} {a2 : Int32} {a3 : Int32} {a4 : Int32} {a5 : Int32} {a7 : Int32} {a8 : Int32} {a9 : Int32} {s0 : Int32}  (h : f_X8_blot_88 v q36 a1 a2 a3 a4 a5 a7 a8 a9 s0 = some r) : Ev mX8_blot 3 0 0 88 [(0, .ref 174), (1, .int a1), (2, .int a2), (3, .int a3), (4, .int a4), (5, .int a5), (7, .int a7), (8, .int a8), (9, .int a9)] [.int s0] (rZ X) v (rPI X (r, v)) := by
  unfold f_X8_blot_88 at h
  refine e_istore (lv' := [(6, .int s0), (0, .ref 174), (1, .int a1), (2, .int a2), (3, .int a3), (4, .int a4), (5, .int a5), (7, .int a7), (8, .int a8), (9, .int a9)]) dX8_blot_88 (by decide) rfl ?_
  refine e_iload dX8_blot_90 rfl ?_
  refine e_if_le (tgt := 103) dX8_blot_92 (by decide) (fun c11 => ?_) (fun c11 => ?_)
  · rw [if_pos c11] at h
    refine e_iconst (x := (0 : Int32)) dX8_blot_103 (by decide) ?_
    refine e_sub [1, 2, 3, 4, 5, 6, 0, 8] rfl ?_
    exact b_X8_blot_104 hq36 h
  · rw [if_neg c11] at h
    refine e_iload dX8_blot_95 rfl ?_
    refine e_iload dX8_blot_97 rfl ?_
    refine e_iadd dX8_blot_99 ?_
    refine e_goto (tgt := 104) dX8_blot_100 (by decide) ?_
    refine e_sub [1, 2, 3, 4, 5, 6, 0, 8] rfl ?_
    exact b_X8_blot_104 hq36 h
set_option maxRecDepth 20000 in
theorem b_X8_blot_73 {X : Nat × (Nat → Int32)} {r : Int32} {v : rV} {q36 : Int32 → Int32 → Int32 → Int32 → Int32 → Int32 → Int32 → Int32 → Option (Int32)} (hq36 : ∀ (a1 : Int32) (a2 : Int32) (a3 : Int32) (a4 : Int32) (a5 : Int32) (a6 : Int32) (a7 : Int32) (a8 : Int32) , q36 a1 a2 a3 a4 a5 a6 a7 a8 = some r → Ev mX8_blot 3 0 0 36 [(0, .ref 174), (1, .int a1), (2, .int a2), (3, .int a3), (4, .int a4), (5, .int a5), (6, .int a6), (7, .int a7), (8, .int a8)] [] (rZ X) v (rPI X (r, v))) {a1 : Int32} {a2 : Int32} {a4 : Int32} {a5 : Int32} {a6 : Int32} {a7 : Int32} {a8 : Int32} {a9 : Int32} {s0 : Int32} {s1 : Int32}  (h : f_X8_blot_73 v q36 a1 a2 a4 a5 a6 a7 a8 a9 s0 s1 = some r) : Ev mX8_blot 3 0 0 73 [(0, .ref 174), (1, .int a1), (2, .int a2), (4, .int a4), (5, .int a5), (6, .int a6), (7, .int a7), (8, .int a8), (9, .int a9)] [.int s0, .int s1] (rZ X) v (rPI X (r, v)) := by
  unfold f_X8_blot_73 at h
  refine e_iadd dX8_blot_73 ?_
  obtain ⟨x7, ex7, h⟩ := vlet_ex h
  refine e_nameI ex7.symm ?_
  clear ex7
  refine e_istore_n (lv' := [(3, .int x7), (0, .ref 174), (1, .int a1), (2, .int a2), (4, .int a4), (5, .int a5), (6, .int a6), (7, .int a7), (8, .int a8), (9, .int a9)]) dX8_blot_74 (by decide) rfl ?_
  refine e_iload dX8_blot_75 rfl ?_
  refine e_if_le (tgt := 87) dX8_blot_77 (by decide) (fun c12 => ?_) (fun c12 => ?_)
  · rw [if_pos c12] at h
    refine e_iconst (x := (0 : Int32)) dX8_blot_87 (by decide) ?_
    refine e_sub [1, 2, 3, 0, 4, 5, 7, 8, 9] rfl ?_
    exact b_X8_blot_88 hq36 h
  · rw [if_neg c12] at h
    refine e_iload dX8_blot_80 rfl ?_
    refine e_iconst (x := (1 : Int32)) dX8_blot_82 (by decide) ?_
    refine e_iadd dX8_blot_83 ?_
    refine e_goto (tgt := 88) dX8_blot_84 (by decide) ?_
    refine e_sub [1, 2, 3, 0, 4, 5, 7, 8, 9] rfl ?_
    exact b_X8_blot_88 hq36 h
set_option maxRecDepth 20000 in
theorem b_X8_blot_72 {X : Nat × (Nat → Int32)} {r : Int32} {v : rV} {q36 : Int32 → Int32 → Int32 → Int32 → Int32 → Int32 → Int32 → Int32 → Option (Int32)} (hq36 : ∀ (a1 : Int32) (a2 : Int32) (a3 : Int32) (a4 : Int32) (a5 : Int32) (a6 : Int32) (a7 : Int32) (a8 : Int32) , q36 a1 a2 a3 a4 a5 a6 a7 a8 = some r → Ev mX8_blot 3 0 0 36 [(0, .ref 174), (1, .int a1), (2, .int a2), (3, .int a3), (4, .int a4), (5, .int a5), (6, .int a6), (7, .int a7), (8, .int a8)] [] (rZ X) v (rPI X (r, v))) {a1 : Int32} {a2 : Int32} {a4 : Int32} {a5 : Int32} {a6 : Int32} {a7 : Int32} {a8 : Int32} {a9 : Int32} {s0 : Int32}  (h : f_X8_blot_72 v q36 a1 a2 a4 a5 a6 a7 a8 a9 s0 = some r) : Ev mX8_blot 3 0 0 72 [(0, .ref 174), (1, .int a1), (2, .int a2), (4, .int a4), (5, .int a5), (6, .int a6), (7, .int a7), (8, .int a8), (9, .int a9)] [.int s0] (rZ X) v (rPI X (r, v)) := by
  unfold f_X8_blot_72 at h
  refine e_iconst (x := (0 : Int32)) dX8_blot_72 (by decide) ?_
  exact b_X8_blot_73 hq36 h
set_option maxRecDepth 20000 in
theorem b_X8_blot_36 {X : Nat × (Nat → Int32)} {r : Int32} {v : rV}   : ∀ (n : Nat) (a1 : Int32) (a2 : Int32) (a3 : Int32) (a4 : Int32) (a5 : Int32) (a6 : Int32) (a7 : Int32) (a8 : Int32) , f_X8_blot_36 v  n a1 a2 a3 a4 a5 a6 a7 a8 = some r → Ev mX8_blot 3 0 0 36 [(0, .ref 174), (1, .int a1), (2, .int a2), (3, .int a3), (4, .int a4), (5, .int a5), (6, .int a6), (7, .int a7), (8, .int a8)] [] (rZ X) v (rPI X (r, v)) := by
  intro n
  induction n with
  | zero =>
    intros
    rename_i h
    cases h
  | succ n ih =>
    intro a1 a2 a3 a4 a5 a6 a7 a8 h
    rw [f_X8_blot_36] at h
    refine e_iload dX8_blot_36 rfl ?_
    refine e_bipush (x := (24 : Int32)) dX8_blot_38 (by decide) ?_
    refine e_icmp_ge (tgt := 130) dX8_blot_40 (by decide) (fun c15 => ?_) (fun c15 => ?_)
    · rw [if_pos c15] at h
      refine e_iload_n dX8_blot_130 rfl ?_
      refine e_if_ne (tgt := 138) dX8_blot_131 (by decide) (fun c4 => ?_) (fun c4 => ?_)
      · rw [if_neg c4] at h
        refine e_iload_n dX8_blot_138 rfl ?_
        refine e_iconst (x := (1 : Int32)) dX8_blot_139 (by decide) ?_
        refine e_icmp_ne (tgt := 148) dX8_blot_140 (by decide) (fun c3 => ?_) (fun c3 => ?_)
        · rw [if_neg c3] at h
          refine e_iload dX8_blot_148 rfl ?_
          obtain rfl := Option.some.inj h
          exact e_iret dX8_blot_150 rfl rfl ⟨rfl, rfl, rfl⟩
        · rw [if_pos c3] at h
          refine e_iload dX8_blot_143 rfl ?_
          refine e_goto (tgt := 150) dX8_blot_145 (by decide) ?_
          obtain rfl := Option.some.inj h
          exact e_iret dX8_blot_150 rfl rfl ⟨rfl, rfl, rfl⟩
      · rw [if_pos c4] at h
        refine e_iload_n dX8_blot_134 rfl ?_
        refine e_goto (tgt := 150) dX8_blot_135 (by decide) ?_
        obtain rfl := Option.some.inj h
        exact e_iret dX8_blot_150 rfl rfl ⟨rfl, rfl, rfl⟩
    · rw [if_neg c15] at h
      refine e_aload_n dX8_blot_43 rfl ?_
      refine e_get (w := .ref 195) (j := 40) dX8_blot_44 k0_174 rc8 (by decide) wfX8_74 (g0_174_40) ?_
      refine e_bipush (x := (24 : Int32)) dX8_blot_47 (by decide) ?_
      refine e_iload_n dX8_blot_49 rfl ?_
      refine e_imul dX8_blot_50 ?_
      refine e_iload dX8_blot_51 rfl ?_
      refine e_iadd dX8_blot_53 ?_
      obtain ⟨c5, h⟩ := grd h
      refine e_ialdJ dX8_blot_54 k0_195 rfl c5.2 c5.1 ?_
      obtain ⟨x6, ex6, h⟩ := vlet_ex h
      refine e_nameI ex6.symm ?_
      clear ex6
      refine e_istore (lv' := [(9, .int x6), (0, .ref 174), (1, .int a1), (2, .int a2), (3, .int a3), (4, .int a4), (5, .int a5), (6, .int a6), (7, .int a7), (8, .int a8)]) dX8_blot_55 (by decide) rfl ?_
      refine e_iload_n dX8_blot_57 rfl ?_
      refine e_iload dX8_blot_58 rfl ?_
      refine e_if_le (tgt := 72) dX8_blot_60 (by decide) (fun c14 => ?_) (fun c14 => ?_)
      · rw [if_pos c14] at h
        refine e_sub [1, 2, 3, 5, 6, 7, 8, 9, 0] rfl ?_
        exact b_X8_blot_72 (fun a1 a2 a3 a4 a5 a6 a7 a8  hh => ih a1 a2 a3 a4 a5 a6 a7 a8  hh) h
      · rw [if_neg c14] at h
        refine e_iload dX8_blot_63 rfl ?_
        refine e_if_ne (tgt := 72) dX8_blot_65 (by decide) (fun c13 => ?_) (fun c13 => ?_)
        · rw [if_neg c13] at h
          refine e_sub [1, 2, 3, 5, 6, 7, 8, 9, 0] rfl ?_
          exact b_X8_blot_72 (fun a1 a2 a3 a4 a5 a6 a7 a8  hh => ih a1 a2 a3 a4 a5 a6 a7 a8  hh) h
        · rw [if_pos c13] at h
          refine e_iconst (x := (1 : Int32)) dX8_blot_68 (by decide) ?_
          refine e_goto (tgt := 73) dX8_blot_69 (by decide) ?_
          refine e_sub [1, 2, 3, 5, 6, 7, 8, 9, 0] rfl ?_
          exact b_X8_blot_73 (fun a1 a2 a3 a4 a5 a6 a7 a8  hh => ih a1 a2 a3 a4 a5 a6 a7 a8  hh) h
set_option maxRecDepth 20000 in
theorem x_X8_blot {X : Nat × (Nat → Int32)} {v : rV} {r : Int32} {a1 : Int32} {a2 : Int32}  (h : f_X8_blot v a1 a2 = some r) : EvM mX8_blot 3 0 0 [.ref 174, .int a1, .int a2] (rZ X) v (rPI X (r, v)) := by
  refine evm_of (by decide +kernel) (fun G => Nat.le_of_ble_eq_true rfl) ?_
  show Ev mX8_blot 3 0 0 0 [(0, .ref 174), (1, .int a1), (2, .int a2)] [] (rZ X) v _
  unfold f_X8_blot at h
  refine e_aload_n dX8_blot_0 rfl ?_
  refine e_iload_n dX8_blot_1 rfl ?_
  refine c_VZ (M' := mX8_isStain) [.int a1] dX8_blot_2 rfl wmX8_397 imX8_isStain seX8_isStain lkX8_isStain k0_174 rc8 (Nat.le_of_ble_eq_true rfl) ((x_X8_isStain ).mono (by omega)) ?_
  refine e_if_eq (tgt := 17) dX8_blot_5 (by decide) (fun c17 => ?_) (fun c17 => ?_)
  · rw [if_neg (bI_n c17)] at h
    refine e_iconst (x := (-1 : Int32)) dX8_blot_17 (by decide) ?_
    obtain rfl := Option.some.inj h
    exact e_iret dX8_blot_18 rfl rfl ⟨rfl, rfl, rfl⟩
  · rw [if_pos (bI_p c17)] at h
    refine e_iload_n dX8_blot_8 rfl ?_
    refine e_iconst (x := (0 : Int32)) dX8_blot_9 (by decide) ?_
    refine e_iconst (x := (2 : Int32)) dX8_blot_10 (by decide) ?_
    refine c_SZ (M' := mX8_in) [.int a2, .int (0 : Int32), .int (2 : Int32)] dX8_blot_11 rfl wmX8_216 stX8_in lkX8_in (Nat.le_of_ble_eq_true rfl) ((x_X8_in ).mono (by omega)) ?_
    refine e_if_ne (tgt := 19) dX8_blot_14 (by decide) (fun c16 => ?_) (fun c16 => ?_)
    · rw [if_pos (bI_p c16)] at h
      refine e_iconst (x := (0 : Int32)) dX8_blot_19 (by decide) ?_
      refine e_istore_n (lv' := [(3, .int (0 : Int32)), (0, .ref 174), (1, .int a1), (2, .int a2)]) dX8_blot_20 (by decide) rfl ?_
      refine e_iconst (x := (0 : Int32)) dX8_blot_21 (by decide) ?_
      refine e_istore (lv' := [(4, .int (0 : Int32)), (3, .int (0 : Int32)), (0, .ref 174), (1, .int a1), (2, .int a2)]) dX8_blot_22 (by decide) rfl ?_
      refine e_iconst (x := (0 : Int32)) dX8_blot_24 (by decide) ?_
      refine e_istore (lv' := [(5, .int (0 : Int32)), (4, .int (0 : Int32)), (3, .int (0 : Int32)), (0, .ref 174), (1, .int a1), (2, .int a2)]) dX8_blot_25 (by decide) rfl ?_
      refine e_iconst (x := (0 : Int32)) dX8_blot_27 (by decide) ?_
      refine e_istore (lv' := [(6, .int (0 : Int32)), (5, .int (0 : Int32)), (4, .int (0 : Int32)), (3, .int (0 : Int32)), (0, .ref 174), (1, .int a1), (2, .int a2)]) dX8_blot_28 (by decide) rfl ?_
      refine e_iconst (x := (0 : Int32)) dX8_blot_30 (by decide) ?_
      refine e_istore (lv' := [(7, .int (0 : Int32)), (6, .int (0 : Int32)), (5, .int (0 : Int32)), (4, .int (0 : Int32)), (3, .int (0 : Int32)), (0, .ref 174), (1, .int a1), (2, .int a2)]) dX8_blot_31 (by decide) rfl ?_
      refine e_iconst (x := (0 : Int32)) dX8_blot_33 (by decide) ?_
      refine e_istore (lv' := [(8, .int (0 : Int32)), (7, .int (0 : Int32)), (6, .int (0 : Int32)), (5, .int (0 : Int32)), (4, .int (0 : Int32)), (3, .int (0 : Int32)), (0, .ref 174), (1, .int a1), (2, .int a2)]) dX8_blot_34 (by decide) rfl ?_
      refine e_sub [6, 7, 8, 5, 4, 3, 2, 1, 0] rfl ?_
      exact b_X8_blot_36  _ a1 a2 (0 : Int32) (0 : Int32) (0 : Int32) (0 : Int32) (0 : Int32) (0 : Int32) h
    · rw [if_neg (bI_n c16)] at h
      refine e_iconst (x := (-1 : Int32)) dX8_blot_17 (by decide) ?_
      obtain rfl := Option.some.inj h
      exact e_iret dX8_blot_18 rfl rfl ⟨rfl, rfl, rfl⟩
def f_X8_body_80 (v : rV)  : Nat → Int32 → Int32 → Int32 → Option (Int32)
  | 0, _, _, _ => none
  | n + 1, a1, a3, a4 => if ¬ ((252 : Int32) + a1) < 0 ∧ ((252 : Int32) + a1).toNatClampNeg < 416 then
  (if (v.1 187 (((252 : Int32) + a1).toNatClampNeg)) < a4 then
  (some a3)
else
  (if ¬ ((0 : Int32) + a4) < 0 ∧ ((0 : Int32) + a4).toNatClampNeg < 416 then
  (vlet (a3 + (v.1 187 (((0 : Int32) + a4).toNatClampNeg)) : Int32) fun x7 =>
  vlet (a4 + (1 : Int32)) fun x8 =>
  f_X8_body_80 v n a1 x7 x8)
else none))
else none
def f_X8_body (v : rV) (a1 : Int32) (a2 : Int32) : Option (Int32) := if (f_X8_in a1 (0 : Int32) ((v.1 187 288) - (1 : Int32))) = true then
  (if (f_X8_in a2 (0 : Int32) (3 : Int32)) = true then
  (if a2 = (2 : Int32) then
  (if ¬ ((240 : Int32) + a1) < 0 ∧ ((240 : Int32) + a1).toNatClampNeg < 416 then
  (vlet (v.1 187 (((240 : Int32) + a1).toNatClampNeg) : Int32) fun x4 =>
  f_X8_body_80 v 20000 a1 (0 : Int32) x4)
else none)
else
  (if a2 = 0 then
  (if ¬ ((240 : Int32) + a1) < 0 ∧ ((240 : Int32) + a1).toNatClampNeg < 416 then
  (some (v.1 187 (((240 : Int32) + a1).toNatClampNeg)))
else none)
else
  (if a2 = (1 : Int32) then
  (if ¬ ((252 : Int32) + a1) < 0 ∧ ((252 : Int32) + a1).toNatClampNeg < 416 then
  (some (v.1 187 (((252 : Int32) + a1).toNatClampNeg)))
else none)
else
  (if ¬ ((276 : Int32) + a1) < 0 ∧ ((276 : Int32) + a1).toNatClampNeg < 416 then
  (some (v.1 187 (((276 : Int32) + a1).toNatClampNeg)))
else none))))
else
  (some (-1 : Int32)))
else
  (some (-1 : Int32))
set_option maxRecDepth 20000 in
theorem b_X8_body_80 {X : Nat × (Nat → Int32)} {r : Int32} {v : rV}   : ∀ (n : Nat) (a1 : Int32) (a3 : Int32) (a4 : Int32) , f_X8_body_80 v  n a1 a3 a4 = some r → Ev mX8_body 2 0 0 80 [(0, .ref 174), (1, .int a1), (3, .int a3), (4, .int a4)] [] (rZ X) v (rPI X (r, v)) := by
  intro n
  induction n with
  | zero =>
    intros
    rename_i h
    cases h
  | succ n ih =>
    intro a1 a3 a4 h
    rw [f_X8_body_80] at h
    refine e_iload dX8_body_80 rfl ?_
    refine e_aload_n dX8_body_82 rfl ?_
    refine e_get (w := .ref 187) (j := 24) dX8_body_83 k0_174 rc8 (by decide) wfX8_50 (g0_174_24) ?_
    refine e_sipush (x := (252 : Int32)) dX8_body_86 (by decide) ?_
    refine e_iload_n dX8_body_89 rfl ?_
    refine e_iadd dX8_body_90 ?_
    obtain ⟨c5, h⟩ := grd h
    refine e_ialdJ dX8_body_91 k0_187 rfl c5.2 c5.1 ?_
    refine e_icmp_gt (tgt := 113) dX8_body_92 (by decide) (fun c9 => ?_) (fun c9 => ?_)
    · rw [if_pos c9] at h
      refine e_iload_n dX8_body_113 rfl ?_
      obtain rfl := Option.some.inj h
      exact e_iret dX8_body_114 rfl rfl ⟨rfl, rfl, rfl⟩
    · rw [if_neg c9] at h
      refine e_iload_n dX8_body_95 rfl ?_
      refine e_aload_n dX8_body_96 rfl ?_
      refine e_get (w := .ref 187) (j := 24) dX8_body_97 k0_174 rc8 (by decide) wfX8_50 (g0_174_24) ?_
      refine e_iconst (x := (0 : Int32)) dX8_body_100 (by decide) ?_
      refine e_iload dX8_body_101 rfl ?_
      refine e_iadd dX8_body_103 ?_
      obtain ⟨c6, h⟩ := grd h
      refine e_ialdJ dX8_body_104 k0_187 rfl c6.2 c6.1 ?_
      refine e_iadd dX8_body_105 ?_
      obtain ⟨x7, ex7, h⟩ := vlet_ex h
      refine e_nameI ex7.symm ?_
      clear ex7
      refine e_istore_n (lv' := [(3, .int x7), (0, .ref 174), (1, .int a1), (4, .int a4)]) dX8_body_106 (by decide) rfl ?_
      obtain ⟨x8, ex8, h⟩ := vlet_ex h
      refine e_iinc (lv' := [(4, .int x8), (3, .int x7), (0, .ref 174), (1, .int a1)]) dX8_body_107 rfl (ex8.symm) (by decide) rfl ?_
      clear ex8
      refine e_goto (tgt := 80) dX8_body_110 (by decide) ?_
      refine e_sub [2, 3, 1, 0] rfl ?_
      exact ih a1 x7 x8 h
set_option maxRecDepth 20000 in
theorem x_X8_body {X : Nat × (Nat → Int32)} {v : rV} {r : Int32} {a1 : Int32} {a2 : Int32}  (h : f_X8_body v a1 a2 = some r) : EvM mX8_body 2 0 0 [.ref 174, .int a1, .int a2] (rZ X) v (rPI X (r, v)) := by
  refine evm_of (by decide +kernel) (fun G => Nat.le_of_ble_eq_true rfl) ?_
  show Ev mX8_body 2 0 0 0 [(0, .ref 174), (1, .int a1), (2, .int a2)] [] (rZ X) v _
  unfold f_X8_body at h
  refine e_iload_n dX8_body_0 rfl ?_
  refine e_iconst (x := (0 : Int32)) dX8_body_1 (by decide) ?_
  refine e_aload_n dX8_body_2 rfl ?_
  refine e_get (w := .ref 187) (j := 24) dX8_body_3 k0_174 rc8 (by decide) wfX8_50 (g0_174_24) ?_
  refine e_sipush (x := (288 : Int32)) dX8_body_6 (by decide) ?_
  refine e_ialdJ dX8_body_9 k0_187 (j := 288) (by decide) (by decide) (by decide) ?_
  refine e_iconst (x := (1 : Int32)) dX8_body_10 (by decide) ?_
  refine e_isub dX8_body_11 ?_
  refine c_SZ (M' := mX8_in) [.int a1, .int (0 : Int32), .int ((v.1 187 288) - (1 : Int32))] dX8_body_12 rfl wmX8_216 stX8_in lkX8_in (Nat.le_of_ble_eq_true rfl) ((x_X8_in ).mono (by omega)) ?_
  refine e_if_eq (tgt := 27) dX8_body_15 (by decide) (fun c17 => ?_) (fun c17 => ?_)
  · rw [if_neg (bI_n c17)] at h
    refine e_iconst (x := (-1 : Int32)) dX8_body_27 (by decide) ?_
    obtain rfl := Option.some.inj h
    exact e_iret dX8_body_28 rfl rfl ⟨rfl, rfl, rfl⟩
  · rw [if_pos (bI_p c17)] at h
    refine e_iload_n dX8_body_18 rfl ?_
    refine e_iconst (x := (0 : Int32)) dX8_body_19 (by decide) ?_
    refine e_iconst (x := (3 : Int32)) dX8_body_20 (by decide) ?_
    refine c_SZ (M' := mX8_in) [.int a2, .int (0 : Int32), .int (3 : Int32)] dX8_body_21 rfl wmX8_216 stX8_in lkX8_in (Nat.le_of_ble_eq_true rfl) ((x_X8_in ).mono (by omega)) ?_
    refine e_if_ne (tgt := 29) dX8_body_24 (by decide) (fun c16 => ?_) (fun c16 => ?_)
    · rw [if_pos (bI_p c16)] at h
      refine e_iload_n dX8_body_29 rfl ?_
      refine e_iconst (x := (2 : Int32)) dX8_body_30 (by decide) ?_
      refine e_icmp_eq (tgt := 66) dX8_body_31 (by decide) (fun c15 => ?_) (fun c15 => ?_)
      · rw [if_pos c15] at h
        refine e_iconst (x := (0 : Int32)) dX8_body_66 (by decide) ?_
        refine e_istore_n (lv' := [(3, .int (0 : Int32)), (0, .ref 174), (1, .int a1), (2, .int a2)]) dX8_body_67 (by decide) rfl ?_
        refine e_aload_n dX8_body_68 rfl ?_
        refine e_get (w := .ref 187) (j := 24) dX8_body_69 k0_174 rc8 (by decide) wfX8_50 (g0_174_24) ?_
        refine e_sipush (x := (240 : Int32)) dX8_body_72 (by decide) ?_
        refine e_iload_n dX8_body_75 rfl ?_
        refine e_iadd dX8_body_76 ?_
        obtain ⟨c3, h⟩ := grd h
        refine e_ialdJ dX8_body_77 k0_187 rfl c3.2 c3.1 ?_
        obtain ⟨x4, ex4, h⟩ := vlet_ex h
        refine e_nameI ex4.symm ?_
        clear ex4
        refine e_istore (lv' := [(4, .int x4), (3, .int (0 : Int32)), (0, .ref 174), (1, .int a1), (2, .int a2)]) dX8_body_78 (by decide) rfl ?_
        refine e_sub [2, 3, 1, 0] rfl ?_
        exact b_X8_body_80  _ a1 (0 : Int32) x4 h
      · rw [if_neg c15] at h
        refine e_aload_n dX8_body_34 rfl ?_
        refine e_get (w := .ref 187) (j := 24) dX8_body_35 k0_174 rc8 (by decide) wfX8_50 (g0_174_24) ?_
        refine e_iload_n dX8_body_38 rfl ?_
        refine e_if_ne (tgt := 48) dX8_body_39 (by decide) (fun c14 => ?_) (fun c14 => ?_)
        · rw [if_neg c14] at h
          refine e_iload_n dX8_body_48 rfl ?_
          refine e_iconst (x := (1 : Int32)) dX8_body_49 (by decide) ?_
          refine e_icmp_ne (tgt := 59) dX8_body_50 (by decide) (fun c12 => ?_) (fun c12 => ?_)
          · rw [if_neg c12] at h
            refine e_sipush (x := (276 : Int32)) dX8_body_59 (by decide) ?_
            refine e_iload_n dX8_body_62 rfl ?_
            refine e_iadd dX8_body_63 ?_
            obtain ⟨c10, h⟩ := grd h
            refine e_ialdJ dX8_body_64 k0_187 rfl c10.2 c10.1 ?_
            obtain rfl := Option.some.inj h
            exact e_iret dX8_body_65 rfl rfl ⟨rfl, rfl, rfl⟩
          · rw [if_pos c12] at h
            refine e_sipush (x := (252 : Int32)) dX8_body_53 (by decide) ?_
            refine e_goto (tgt := 62) dX8_body_56 (by decide) ?_
            refine e_iload_n dX8_body_62 rfl ?_
            refine e_iadd dX8_body_63 ?_
            obtain ⟨c11, h⟩ := grd h
            refine e_ialdJ dX8_body_64 k0_187 rfl c11.2 c11.1 ?_
            obtain rfl := Option.some.inj h
            exact e_iret dX8_body_65 rfl rfl ⟨rfl, rfl, rfl⟩
        · rw [if_pos c14] at h
          refine e_sipush (x := (240 : Int32)) dX8_body_42 (by decide) ?_
          refine e_goto (tgt := 62) dX8_body_45 (by decide) ?_
          refine e_iload_n dX8_body_62 rfl ?_
          refine e_iadd dX8_body_63 ?_
          obtain ⟨c13, h⟩ := grd h
          refine e_ialdJ dX8_body_64 k0_187 rfl c13.2 c13.1 ?_
          obtain rfl := Option.some.inj h
          exact e_iret dX8_body_65 rfl rfl ⟨rfl, rfl, rfl⟩
    · rw [if_neg (bI_n c16)] at h
      refine e_iconst (x := (-1 : Int32)) dX8_body_27 (by decide) ?_
      obtain rfl := Option.some.inj h
      exact e_iret dX8_body_28 rfl rfl ⟨rfl, rfl, rfl⟩
def f_X8_byteOf_45 (v : rV)  (a5 : Int32) (s0 : Int32) : Int32 := (s0 >>> (((24 : Int32) - ((8 : Int32) * (a5 - a5 / (4 : Int32) * (4 : Int32)))) &&& 31)) &&& (255 : Int32)
def f_X8_byteOf (v : rV) (a0 : Int32) (a1 : Int32) (a2 : Int32) (a3 : Int32) (a4 : Int32) (a5 : Int32) : Int32 := if (4 : Int32) ≤ a5 then
  (if (8 : Int32) ≤ a5 then
  (if (12 : Int32) ≤ a5 then
  (if (16 : Int32) ≤ a5 then
  (f_X8_byteOf_45 v a5 a4)
else
  (f_X8_byteOf_45 v a5 a3))
else
  (f_X8_byteOf_45 v a5 a2))
else
  (f_X8_byteOf_45 v a5 a1))
else
  (f_X8_byteOf_45 v a5 a0)
set_option maxRecDepth 20000 in
theorem b_X8_byteOf_45 {X : Nat × (Nat → Int32)} {r : Int32} {v : rV}   {a5 : Int32} {s0 : Int32}  (h : f_X8_byteOf_45 v  a5 s0 = r) : Ev mX8_byteOf 1 0 0 45 [(5, .int a5)] [.int s0] (rZ X) v (rPI X (r, v)) := by
  unfold f_X8_byteOf_45 at h
  refine e_istore (lv' := [(6, .int s0), (5, .int a5)]) dX8_byteOf_45 (by decide) rfl ?_
  refine e_iload dX8_byteOf_47 rfl ?_
  refine e_bipush (x := (24 : Int32)) dX8_byteOf_49 (by decide) ?_
  refine e_bipush (x := (8 : Int32)) dX8_byteOf_51 (by decide) ?_
  refine e_iload dX8_byteOf_53 rfl ?_
  refine e_iconst (x := (4 : Int32)) dX8_byteOf_55 (by decide) ?_
  refine e_irem dX8_byteOf_56 (by decide) ?_
  refine e_imul dX8_byteOf_57 ?_
  refine e_isub dX8_byteOf_58 ?_
  refine e_ishr dX8_byteOf_59 ?_
  refine e_sipush (x := (255 : Int32)) dX8_byteOf_60 (by decide) ?_
  refine e_iand dX8_byteOf_63 ?_
  subst h
  exact e_iret dX8_byteOf_64 rfl rfl ⟨rfl, rfl, rfl⟩
set_option maxRecDepth 20000 in
theorem x_X8_byteOf {X : Nat × (Nat → Int32)} {v : rV} {a0 : Int32} {a1 : Int32} {a2 : Int32} {a3 : Int32} {a4 : Int32} {a5 : Int32}  : EvM mX8_byteOf 1 0 0 [.int a0, .int a1, .int a2, .int a3, .int a4, .int a5] (rZ X) v (rPI X ((f_X8_byteOf v a0 a1 a2 a3 a4 a5), v)) := by
  refine evm_of (by decide +kernel) (fun G => Nat.le_of_ble_eq_true rfl) ?_
  show Ev mX8_byteOf 1 0 0 0 [(0, .int a0), (1, .int a1), (2, .int a2), (3, .int a3), (4, .int a4), (5, .int a5)] [] (rZ X) v _
  generalize h : f_X8_byteOf v a0 a1 a2 a3 a4 a5 = r
  unfold f_X8_byteOf at h
  refine e_iload dX8_byteOf_0 rfl ?_
  refine e_iconst (x := (4 : Int32)) dX8_byteOf_2 (by decide) ?_
  refine e_icmp_ge (tgt := 10) dX8_byteOf_3 (by decide) (fun c4 => ?_) (fun c4 => ?_)
  · rw [if_pos c4] at h
    refine e_iload dX8_byteOf_10 rfl ?_
    refine e_bipush (x := (8 : Int32)) dX8_byteOf_12 (by decide) ?_
    refine e_icmp_ge (tgt := 21) dX8_byteOf_14 (by decide) (fun c3 => ?_) (fun c3 => ?_)
    · rw [if_pos c3] at h
      refine e_iload dX8_byteOf_21 rfl ?_
      refine e_bipush (x := (12 : Int32)) dX8_byteOf_23 (by decide) ?_
      refine e_icmp_ge (tgt := 32) dX8_byteOf_25 (by decide) (fun c2 => ?_) (fun c2 => ?_)
      · rw [if_pos c2] at h
        refine e_iload dX8_byteOf_32 rfl ?_
        refine e_bipush (x := (16 : Int32)) dX8_byteOf_34 (by decide) ?_
        refine e_icmp_ge (tgt := 43) dX8_byteOf_36 (by decide) (fun c1 => ?_) (fun c1 => ?_)
        · rw [if_pos c1] at h
          refine e_iload dX8_byteOf_43 rfl ?_
          refine e_sub [5] rfl ?_
          exact b_X8_byteOf_45  h
        · rw [if_neg c1] at h
          refine e_iload_n dX8_byteOf_39 rfl ?_
          refine e_goto (tgt := 45) dX8_byteOf_40 (by decide) ?_
          refine e_sub [5] rfl ?_
          exact b_X8_byteOf_45  h
      · rw [if_neg c2] at h
        refine e_iload_n dX8_byteOf_28 rfl ?_
        refine e_goto (tgt := 45) dX8_byteOf_29 (by decide) ?_
        refine e_sub [5] rfl ?_
        exact b_X8_byteOf_45  h
    · rw [if_neg c3] at h
      refine e_iload_n dX8_byteOf_17 rfl ?_
      refine e_goto (tgt := 45) dX8_byteOf_18 (by decide) ?_
      refine e_sub [5] rfl ?_
      exact b_X8_byteOf_45  h
  · rw [if_neg c4] at h
    refine e_iload_n dX8_byteOf_6 rfl ?_
    refine e_goto (tgt := 45) dX8_byteOf_7 (by decide) ?_
    refine e_sub [5] rfl ?_
    exact b_X8_byteOf_45  h
def f_X8_came (v : rV) (a1 : Int32) : Option (Int32) := if (f_X8_in a1 (1 : Int32) (if (v.1 187 289) < (120 : Int32) then (v.1 187 289) else (120 : Int32))) = true then
  (if ¬ (((296 : Int32) + a1) - (1 : Int32)) < 0 ∧ (((296 : Int32) + a1) - (1 : Int32)).toNatClampNeg < 416 then
  (some (v.1 187 ((((296 : Int32) + a1) - (1 : Int32)).toNatClampNeg)))
else none)
else
  (some (-1 : Int32))
set_option maxRecDepth 20000 in
theorem x_X8_came {X : Nat × (Nat → Int32)} {v : rV} {r : Int32} {a1 : Int32}  (h : f_X8_came v a1 = some r) : EvM mX8_came 2 0 0 [.ref 174, .int a1] (rZ X) v (rPI X (r, v)) := by
  refine evm_of (by decide +kernel) (fun G => Nat.le_of_ble_eq_true rfl) ?_
  show Ev mX8_came 2 0 0 0 [(0, .ref 174), (1, .int a1)] [] (rZ X) v _
  unfold f_X8_came at h
  refine e_iload_n dX8_came_0 rfl ?_
  refine e_iconst (x := (1 : Int32)) dX8_came_1 (by decide) ?_
  refine e_bipush (x := (120 : Int32)) dX8_came_2 (by decide) ?_
  refine e_aload_n dX8_came_4 rfl ?_
  refine e_get (w := .ref 187) (j := 24) dX8_came_5 k0_174 rc8 (by decide) wfX8_50 (g0_174_24) ?_
  refine e_sipush (x := (289 : Int32)) dX8_came_8 (by decide) ?_
  refine e_ialdJ dX8_came_11 k0_187 (j := 289) (by decide) (by decide) (by decide) ?_
  refine e_min dX8_came_12 wmX8_261 wmst_min winimath wmcd_min (by omega) (Nat.le_of_ble_eq_true rfl) ?_
  refine c_SZ (M' := mX8_in) [.int a1, .int (1 : Int32), .int (if (v.1 187 289) < (120 : Int32) then (v.1 187 289) else (120 : Int32))] dX8_came_15 rfl wmX8_216 stX8_in lkX8_in (Nat.le_of_ble_eq_true rfl) ((x_X8_in ).mono (by omega)) ?_
  refine e_if_eq (tgt := 36) dX8_came_18 (by decide) (fun c3 => ?_) (fun c3 => ?_)
  · rw [if_neg (bI_n c3)] at h
    refine e_iconst (x := (-1 : Int32)) dX8_came_36 (by decide) ?_
    obtain rfl := Option.some.inj h
    exact e_iret dX8_came_37 rfl rfl ⟨rfl, rfl, rfl⟩
  · rw [if_pos (bI_p c3)] at h
    refine e_aload_n dX8_came_21 rfl ?_
    refine e_get (w := .ref 187) (j := 24) dX8_came_22 k0_174 rc8 (by decide) wfX8_50 (g0_174_24) ?_
    refine e_sipush (x := (296 : Int32)) dX8_came_25 (by decide) ?_
    refine e_iload_n dX8_came_28 rfl ?_
    refine e_iadd dX8_came_29 ?_
    refine e_iconst (x := (1 : Int32)) dX8_came_30 (by decide) ?_
    refine e_isub dX8_came_31 ?_
    obtain ⟨c2, h⟩ := grd h
    refine e_ialdJ dX8_came_32 k0_187 rfl c2.2 c2.1 ?_
    refine e_goto (tgt := 37) dX8_came_33 (by decide) ?_
    obtain rfl := Option.some.inj h
    exact e_iret dX8_came_37 rfl rfl ⟨rfl, rfl, rfl⟩
def f_X8_isSign (a0 : Int32) : Bool := if a0 = (61 : Int32) then
  (true)
else
  (if a0 = (60 : Int32) then
  (true)
else
  (if a0 = (62 : Int32) then
  (true)
else
  (false)))
set_option maxRecDepth 20000 in
theorem x_X8_isSign {X : Nat × (Nat → Int32)} {v : rV} {a0 : Int32}  : EvM mX8_isSign 1 0 0 [.int a0] (rZ X) v (rPZ X ((f_X8_isSign a0), v)) := by
  refine evm_of (by decide +kernel) (fun G => Nat.le_of_ble_eq_true rfl) ?_
  show Ev mX8_isSign 1 0 0 0 [(0, .int a0)] [] (rZ X) v _
  generalize h : f_X8_isSign a0 = r
  unfold f_X8_isSign at h
  refine e_iload_n dX8_isSign_0 rfl ?_
  refine e_bipush (x := (61 : Int32)) dX8_isSign_1 (by decide) ?_
  refine e_icmp_eq (tgt := 18) dX8_isSign_3 (by decide) (fun c3 => ?_) (fun c3 => ?_)
  · rw [if_pos c3] at h
    refine e_iconst (x := (1 : Int32)) dX8_isSign_18 (by decide) ?_
    refine e_goto (tgt := 23) dX8_isSign_19 (by decide) ?_
    subst h
    exact e_iret dX8_isSign_23 rfl rfl ⟨rfl, rfl, rfl⟩
  · rw [if_neg c3] at h
    refine e_iload_n dX8_isSign_6 rfl ?_
    refine e_bipush (x := (60 : Int32)) dX8_isSign_7 (by decide) ?_
    refine e_icmp_eq (tgt := 18) dX8_isSign_9 (by decide) (fun c2 => ?_) (fun c2 => ?_)
    · rw [if_pos c2] at h
      refine e_iconst (x := (1 : Int32)) dX8_isSign_18 (by decide) ?_
      refine e_goto (tgt := 23) dX8_isSign_19 (by decide) ?_
      subst h
      exact e_iret dX8_isSign_23 rfl rfl ⟨rfl, rfl, rfl⟩
    · rw [if_neg c2] at h
      refine e_iload_n dX8_isSign_12 rfl ?_
      refine e_bipush (x := (62 : Int32)) dX8_isSign_13 (by decide) ?_
      refine e_icmp_ne (tgt := 22) dX8_isSign_15 (by decide) (fun c1 => ?_) (fun c1 => ?_)
      · rw [if_neg c1] at h
        refine e_iconst (x := (0 : Int32)) dX8_isSign_22 (by decide) ?_
        subst h
        exact e_iret dX8_isSign_23 rfl rfl ⟨rfl, rfl, rfl⟩
      · rw [if_pos c1] at h
        refine e_iconst (x := (1 : Int32)) dX8_isSign_18 (by decide) ?_
        refine e_goto (tgt := 23) dX8_isSign_19 (by decide) ?_
        subst h
        exact e_iret dX8_isSign_23 rfl rfl ⟨rfl, rfl, rfl⟩
def f_X8_compare_68   (v : rV) (s0 : Int32) : Option (rV) := (f_X8_put v s0 (0 : Int32)).bind fun p4 =>
  some p4
def f_X8_compare_16   (v : rV) (s0 : Int32) : Option (rV) := if (f_X8_isSign s0) = true then
  (vlet (rI v 174 3 ((v.1 174 3) + (1 : Int32))) fun v2 =>
  (f_X8_sum 10 v2).bind fun p3 =>
  if s0 = (61 : Int32) then
  (f_X8_compare_68  p3 (6 : Int32))
else
  (if s0 = (60 : Int32) then
  (f_X8_compare_68  p3 (7 : Int32))
else
  (f_X8_compare_68  p3 (8 : Int32))))
else
  ((f_X8_bad v).bind fun p7 =>
  some p7)
def f_X8_compare (v : rV)  : Option (rV) := if (v.1 174 4) = (-1 : Int32) then
  ((f_X8_look v).bind fun p9 =>
  f_X8_compare_16  p9.2 p9.1)
else
  (f_X8_compare_16  v (-1 : Int32))
set_option maxRecDepth 20000 in
theorem b_X8_compare_68 {X : Nat × (Nat → Int32)} {r : rV} {v : rV}   {s0 : Int32}  (h : f_X8_compare_68  v s0 = some r) : Ev mX8_compare 41 0 0 68 [] [.int s0, .ref 174] (rZ X) v (rPV X r) := by
  unfold f_X8_compare_68 at h
  refine e_iconst (x := (0 : Int32)) dX8_compare_68 (by decide) ?_
  obtain ⟨p4, ep4, h⟩ := Option.bind_eq_some_iff.mp h
  refine c_VV (M' := mX8_put) [.int s0, .int (0 : Int32)] dX8_compare_69 rfl wmX8_123 imX8_put seX8_put lkX8_put k0_174 rc8 (Nat.le_of_ble_eq_true rfl) ((x_X8_put  ep4).mono (by omega)) ?_
  obtain rfl := Option.some.inj h
  exact e_ret dX8_compare_72 rfl ⟨rfl, rfl, rfl⟩
set_option maxRecDepth 20000 in
theorem b_X8_compare_16 {X : Nat × (Nat → Int32)} {r : rV} {v : rV}   {s0 : Int32}  (h : f_X8_compare_16  v s0 = some r) : Ev mX8_compare 41 0 0 16 [(0, .ref 174)] [.int s0] (rZ X) v (rPV X r) := by
  unfold f_X8_compare_16 at h
  refine e_istore_n (lv' := [(1, .int s0), (0, .ref 174)]) dX8_compare_16 (by decide) rfl ?_
  refine e_iload_n dX8_compare_17 rfl ?_
  refine c_SZ (M' := mX8_isSign) [.int s0] dX8_compare_18 rfl wmX8_147 stX8_isSign lkX8_isSign (Nat.le_of_ble_eq_true rfl) ((x_X8_isSign ).mono (by omega)) ?_
  refine e_if_ne (tgt := 29) dX8_compare_21 (by decide) (fun c8 => ?_) (fun c8 => ?_)
  · rw [if_pos (bI_p c8)] at h
    refine e_aload_n dX8_compare_29 rfl ?_
    refine e_dup dX8_compare_30 rfl ?_
    refine e_get (w := .int (v.1 174 3)) (j := 3) dX8_compare_31 k0_174 rc8 (by decide) wfX8_90 rfl ?_
    refine e_iconst (x := (1 : Int32)) dX8_compare_34 (by decide) ?_
    refine e_iadd dX8_compare_35 ?_
    refine e_putI (j := 3) dX8_compare_36 k0_174 rc8 (by decide) wfX8_90 rfl rfl ?_
    obtain ⟨v2, ev2, h⟩ := vlet_ex h
    refine e_nameV ev2.symm ?_
    clear ev2
    refine e_aload_n dX8_compare_39 rfl ?_
    obtain ⟨p3, ep3, h⟩ := Option.bind_eq_some_iff.mp h
    refine c_VV (M' := mX8_sum) [] dX8_compare_40 rfl wmX8_134 imX8_sum seX8_sum lkX8_sum k0_174 rc8 (Nat.le_of_ble_eq_true rfl) ((x_X8_sum 10 _ _  ep3).mono (by omega)) ?_
    refine e_aload_n dX8_compare_43 rfl ?_
    refine e_iload_n dX8_compare_44 rfl ?_
    refine e_bipush (x := (61 : Int32)) dX8_compare_45 (by decide) ?_
    refine e_icmp_ne (tgt := 55) dX8_compare_47 (by decide) (fun c6 => ?_) (fun c6 => ?_)
    · rw [if_neg c6] at h
      refine e_iload_n dX8_compare_55 rfl ?_
      refine e_bipush (x := (60 : Int32)) dX8_compare_56 (by decide) ?_
      refine e_icmp_ne (tgt := 66) dX8_compare_58 (by decide) (fun c5 => ?_) (fun c5 => ?_)
      · rw [if_neg c5] at h
        refine e_bipush (x := (8 : Int32)) dX8_compare_66 (by decide) ?_
        refine e_sub [] rfl ?_
        exact b_X8_compare_68  h
      · rw [if_pos c5] at h
        refine e_bipush (x := (7 : Int32)) dX8_compare_61 (by decide) ?_
        refine e_goto (tgt := 68) dX8_compare_63 (by decide) ?_
        refine e_sub [] rfl ?_
        exact b_X8_compare_68  h
    · rw [if_pos c6] at h
      refine e_bipush (x := (6 : Int32)) dX8_compare_50 (by decide) ?_
      refine e_goto (tgt := 68) dX8_compare_52 (by decide) ?_
      refine e_sub [] rfl ?_
      exact b_X8_compare_68  h
  · rw [if_neg (bI_n c8)] at h
    refine e_aload_n dX8_compare_24 rfl ?_
    obtain ⟨p7, ep7, h⟩ := Option.bind_eq_some_iff.mp h
    refine c_VV (M' := mX8_bad) [] dX8_compare_25 rfl wmX8_110 imX8_bad seX8_bad lkX8_bad k0_174 rc8 (Nat.le_of_ble_eq_true rfl) ((x_X8_bad  ep7).mono (by omega)) ?_
    obtain rfl := Option.some.inj h
    exact e_ret dX8_compare_28 rfl ⟨rfl, rfl, rfl⟩
set_option maxRecDepth 20000 in
theorem x_X8_compare {X : Nat × (Nat → Int32)} {v : rV} {r : rV}   (h : f_X8_compare v = some r) : EvM mX8_compare 41 0 0 [.ref 174] (rZ X) v (rPV X r) := by
  refine evm_of (by decide +kernel) (fun G => Nat.le_of_ble_eq_true rfl) ?_
  show Ev mX8_compare 41 0 0 0 [(0, .ref 174)] [] (rZ X) v _
  unfold f_X8_compare at h
  refine e_aload_n dX8_compare_0 rfl ?_
  refine e_get (w := .int (v.1 174 4)) (j := 4) dX8_compare_1 k0_174 rc8 (by decide) wfX8_97 rfl ?_
  refine e_iconst (x := (-1 : Int32)) dX8_compare_4 (by decide) ?_
  refine e_icmp_ne (tgt := 15) dX8_compare_5 (by decide) (fun c10 => ?_) (fun c10 => ?_)
  · rw [if_neg c10] at h
    refine e_iconst (x := (-1 : Int32)) dX8_compare_15 (by decide) ?_
    exact b_X8_compare_16  h
  · rw [if_pos c10] at h
    refine e_aload_n dX8_compare_8 rfl ?_
    obtain ⟨p9, ep9, h⟩ := Option.bind_eq_some_iff.mp h
    refine c_VI (M' := mX8_look) [] dX8_compare_9 rfl wmX8_113 imX8_look seX8_look lkX8_look k0_174 rc8 (Nat.le_of_ble_eq_true rfl) ((x_X8_look  ep9).mono (by omega)) ?_
    refine e_goto (tgt := 16) dX8_compare_12 (by decide) ?_
    exact b_X8_compare_16  h
def f_X8_goOnAnd_0 (R : rV → Option rV)   : Nat → rV → Option (rV)
  | 0, _ => none
  | n + 1, v => if (v.1 174 4) = (-1 : Int32) then
  ((f_X8_look v).bind fun p1 =>
  if p1.1 = (38 : Int32) then
  (vlet (rI p1.2 174 3 ((p1.2.1 174 3) + (1 : Int32))) fun v2 =>
  (R v2).bind fun p3 =>
  (f_X8_put p3 (10 : Int32) (0 : Int32)).bind fun p4 =>
  f_X8_goOnAnd_0 R  n p4)
else
  (some p1.2))
else
  (some v)
def f_X8_goOnAnd (R : rV → Option rV) (v : rV)  : Option (rV) := f_X8_goOnAnd_0 R  20000 v
set_option maxRecDepth 20000 in
theorem b_X8_goOnAnd_0 {X : Nat × (Nat → Int32)} {R : rV → Option rV} {dR : Nat} (hdR : 41 ≤ dR) (hR : ∀ (v : rV) (r : rV), R v = some r → EvM mX8_unit dR 0 0 [.ref 174] (rZ X) v (rPV X r)) {r : rV}   : ∀ (n : Nat) (v : rV)  , f_X8_goOnAnd_0 R   n v  = some r → Ev mX8_goOnAnd (dR + 1) 0 0 0 [(0, .ref 174)] [] (rZ X) v (rPV X r) := by
  intro n
  induction n with
  | zero =>
    intros
    rename_i h
    cases h
  | succ n ih =>
    intro v h
    rw [f_X8_goOnAnd_0] at h
    refine e_aload_n dX8_goOnAnd_0 rfl ?_
    refine e_get (w := .int (v.1 174 4)) (j := 4) dX8_goOnAnd_1 k0_174 rc8 (by decide) wfX8_97 rfl ?_
    refine e_iconst (x := (-1 : Int32)) dX8_goOnAnd_4 (by decide) ?_
    refine e_icmp_ne (tgt := 41) dX8_goOnAnd_5 (by decide) (fun c6 => ?_) (fun c6 => ?_)
    · rw [if_neg c6] at h
      obtain rfl := Option.some.inj h
      exact e_ret dX8_goOnAnd_41 rfl ⟨rfl, rfl, rfl⟩
    · rw [if_pos c6] at h
      refine e_aload_n dX8_goOnAnd_8 rfl ?_
      obtain ⟨p1, ep1, h⟩ := Option.bind_eq_some_iff.mp h
      refine c_VI (M' := mX8_look) [] dX8_goOnAnd_9 rfl wmX8_113 imX8_look seX8_look lkX8_look k0_174 rc8 (Nat.le_of_ble_eq_true rfl) ((x_X8_look  ep1).mono (by omega)) ?_
      refine e_bipush (x := (38 : Int32)) dX8_goOnAnd_12 (by decide) ?_
      refine e_icmp_ne (tgt := 41) dX8_goOnAnd_14 (by decide) (fun c5 => ?_) (fun c5 => ?_)
      · rw [if_neg c5] at h
        obtain rfl := Option.some.inj h
        exact e_ret dX8_goOnAnd_41 rfl ⟨rfl, rfl, rfl⟩
      · rw [if_pos c5] at h
        refine e_aload_n dX8_goOnAnd_17 rfl ?_
        refine e_dup dX8_goOnAnd_18 rfl ?_
        refine e_get (w := .int (p1.2.1 174 3)) (j := 3) dX8_goOnAnd_19 k0_174 rc8 (by decide) wfX8_90 rfl ?_
        refine e_iconst (x := (1 : Int32)) dX8_goOnAnd_22 (by decide) ?_
        refine e_iadd dX8_goOnAnd_23 ?_
        refine e_putI (j := 3) dX8_goOnAnd_24 k0_174 rc8 (by decide) wfX8_90 rfl rfl ?_
        obtain ⟨v2, ev2, h⟩ := vlet_ex h
        refine e_nameV ev2.symm ?_
        clear ev2
        refine e_aload_n dX8_goOnAnd_27 rfl ?_
        obtain ⟨p3, ep3, h⟩ := Option.bind_eq_some_iff.mp h
        refine c_VV (M' := mX8_unit) [] dX8_goOnAnd_28 rfl wmX8_150 imX8_unit seX8_unit lkX8_unit k0_174 rc8 (Nat.le_of_ble_eq_true rfl) ((hR _ _  ep3).mono (by omega)) ?_
        refine e_aload_n dX8_goOnAnd_31 rfl ?_
        refine e_bipush (x := (10 : Int32)) dX8_goOnAnd_32 (by decide) ?_
        refine e_iconst (x := (0 : Int32)) dX8_goOnAnd_34 (by decide) ?_
        obtain ⟨p4, ep4, h⟩ := Option.bind_eq_some_iff.mp h
        refine c_VV (M' := mX8_put) [.int (10 : Int32), .int (0 : Int32)] dX8_goOnAnd_35 rfl wmX8_123 imX8_put seX8_put lkX8_put k0_174 rc8 (Nat.le_of_ble_eq_true rfl) ((x_X8_put  ep4).mono (by omega)) ?_
        refine e_goto (tgt := 0) dX8_goOnAnd_38 (by decide) ?_
        exact ih p4 h
set_option maxRecDepth 20000 in
theorem x_X8_goOnAnd {X : Nat × (Nat → Int32)} {v : rV} {r : rV} {R : rV → Option rV} {dR : Nat} (hdR : 41 ≤ dR) (hR : ∀ (v : rV) (r : rV), R v = some r → EvM mX8_unit dR 0 0 [.ref 174] (rZ X) v (rPV X r))   (h : f_X8_goOnAnd R v = some r) : EvM mX8_goOnAnd (dR + 1) 0 0 [.ref 174] (rZ X) v (rPV X r) := by
  refine evm_of (by decide +kernel) (fun G => Nat.le_of_ble_eq_true rfl) ?_
  show Ev mX8_goOnAnd (dR + 1) 0 0 0 [(0, .ref 174)] [] (rZ X) v _
  unfold f_X8_goOnAnd at h
  exact b_X8_goOnAnd_0 hdR hR  _ v h
def f_X8_goOnOr_0 (R : rV → Option rV)   : Nat → rV → Option (rV)
  | 0, _ => none
  | n + 1, v => if (v.1 174 4) = (-1 : Int32) then
  ((f_X8_look v).bind fun p1 =>
  if p1.1 = (124 : Int32) then
  (vlet (rI p1.2 174 3 ((p1.2.1 174 3) + (1 : Int32))) fun v2 =>
  (R v2).bind fun p3 =>
  (f_X8_goOnAnd R p3).bind fun p4 =>
  (f_X8_put p4 (11 : Int32) (0 : Int32)).bind fun p5 =>
  f_X8_goOnOr_0 R  n p5)
else
  (some p1.2))
else
  (some v)
def f_X8_goOnOr (R : rV → Option rV) (v : rV)  : Option (rV) := f_X8_goOnOr_0 R  20000 v
set_option maxRecDepth 20000 in
theorem b_X8_goOnOr_0 {X : Nat × (Nat → Int32)} {R : rV → Option rV} {dR : Nat} (hdR : 41 ≤ dR) (hR : ∀ (v : rV) (r : rV), R v = some r → EvM mX8_unit dR 0 0 [.ref 174] (rZ X) v (rPV X r)) {r : rV}   : ∀ (n : Nat) (v : rV)  , f_X8_goOnOr_0 R   n v  = some r → Ev mX8_goOnOr (dR + 2) 0 0 0 [(0, .ref 174)] [] (rZ X) v (rPV X r) := by
  intro n
  induction n with
  | zero =>
    intros
    rename_i h
    cases h
  | succ n ih =>
    intro v h
    rw [f_X8_goOnOr_0] at h
    refine e_aload_n dX8_goOnOr_0 rfl ?_
    refine e_get (w := .int (v.1 174 4)) (j := 4) dX8_goOnOr_1 k0_174 rc8 (by decide) wfX8_97 rfl ?_
    refine e_iconst (x := (-1 : Int32)) dX8_goOnOr_4 (by decide) ?_
    refine e_icmp_ne (tgt := 45) dX8_goOnOr_5 (by decide) (fun c7 => ?_) (fun c7 => ?_)
    · rw [if_neg c7] at h
      obtain rfl := Option.some.inj h
      exact e_ret dX8_goOnOr_45 rfl ⟨rfl, rfl, rfl⟩
    · rw [if_pos c7] at h
      refine e_aload_n dX8_goOnOr_8 rfl ?_
      obtain ⟨p1, ep1, h⟩ := Option.bind_eq_some_iff.mp h
      refine c_VI (M' := mX8_look) [] dX8_goOnOr_9 rfl wmX8_113 imX8_look seX8_look lkX8_look k0_174 rc8 (Nat.le_of_ble_eq_true rfl) ((x_X8_look  ep1).mono (by omega)) ?_
      refine e_bipush (x := (124 : Int32)) dX8_goOnOr_12 (by decide) ?_
      refine e_icmp_ne (tgt := 45) dX8_goOnOr_14 (by decide) (fun c6 => ?_) (fun c6 => ?_)
      · rw [if_neg c6] at h
        obtain rfl := Option.some.inj h
        exact e_ret dX8_goOnOr_45 rfl ⟨rfl, rfl, rfl⟩
      · rw [if_pos c6] at h
        refine e_aload_n dX8_goOnOr_17 rfl ?_
        refine e_dup dX8_goOnOr_18 rfl ?_
        refine e_get (w := .int (p1.2.1 174 3)) (j := 3) dX8_goOnOr_19 k0_174 rc8 (by decide) wfX8_90 rfl ?_
        refine e_iconst (x := (1 : Int32)) dX8_goOnOr_22 (by decide) ?_
        refine e_iadd dX8_goOnOr_23 ?_
        refine e_putI (j := 3) dX8_goOnOr_24 k0_174 rc8 (by decide) wfX8_90 rfl rfl ?_
        obtain ⟨v2, ev2, h⟩ := vlet_ex h
        refine e_nameV ev2.symm ?_
        clear ev2
        refine e_aload_n dX8_goOnOr_27 rfl ?_
        obtain ⟨p3, ep3, h⟩ := Option.bind_eq_some_iff.mp h
        refine c_VV (M' := mX8_unit) [] dX8_goOnOr_28 rfl wmX8_150 imX8_unit seX8_unit lkX8_unit k0_174 rc8 (Nat.le_of_ble_eq_true rfl) ((hR _ _  ep3).mono (by omega)) ?_
        refine e_aload_n dX8_goOnOr_31 rfl ?_
        obtain ⟨p4, ep4, h⟩ := Option.bind_eq_some_iff.mp h
        refine c_VV (M' := mX8_goOnAnd) [] dX8_goOnOr_32 rfl wmX8_159 imX8_goOnAnd seX8_goOnAnd lkX8_goOnAnd k0_174 rc8 (Nat.le_of_ble_eq_true rfl) ((x_X8_goOnAnd hdR hR  ep4).mono (by omega)) ?_
        refine e_aload_n dX8_goOnOr_35 rfl ?_
        refine e_bipush (x := (11 : Int32)) dX8_goOnOr_36 (by decide) ?_
        refine e_iconst (x := (0 : Int32)) dX8_goOnOr_38 (by decide) ?_
        obtain ⟨p5, ep5, h⟩ := Option.bind_eq_some_iff.mp h
        refine c_VV (M' := mX8_put) [.int (11 : Int32), .int (0 : Int32)] dX8_goOnOr_39 rfl wmX8_123 imX8_put seX8_put lkX8_put k0_174 rc8 (Nat.le_of_ble_eq_true rfl) ((x_X8_put  ep5).mono (by omega)) ?_
        refine e_goto (tgt := 0) dX8_goOnOr_42 (by decide) ?_
        exact ih p5 h
set_option maxRecDepth 20000 in
theorem x_X8_goOnOr {X : Nat × (Nat → Int32)} {v : rV} {r : rV} {R : rV → Option rV} {dR : Nat} (hdR : 41 ≤ dR) (hR : ∀ (v : rV) (r : rV), R v = some r → EvM mX8_unit dR 0 0 [.ref 174] (rZ X) v (rPV X r))   (h : f_X8_goOnOr R v = some r) : EvM mX8_goOnOr (dR + 2) 0 0 [.ref 174] (rZ X) v (rPV X r) := by
  refine evm_of (by decide +kernel) (fun G => Nat.le_of_ble_eq_true rfl) ?_
  show Ev mX8_goOnOr (dR + 2) 0 0 0 [(0, .ref 174)] [] (rZ X) v _
  unfold f_X8_goOnOr at h
  exact b_X8_goOnOr_0 hdR hR  _ v h
def f_X8_condition (R : rV → Option rV) (v : rV)  : Option (rV) := (R v).bind fun p1 =>
  (f_X8_goOnAnd R p1).bind fun p2 =>
  (f_X8_goOnOr R p2).bind fun p3 =>
  some p3
set_option maxRecDepth 20000 in
theorem x_X8_condition {X : Nat × (Nat → Int32)} {v : rV} {r : rV} {R : rV → Option rV} {dR : Nat} (hdR : 41 ≤ dR) (hR : ∀ (v : rV) (r : rV), R v = some r → EvM mX8_unit dR 0 0 [.ref 174] (rZ X) v (rPV X r))   (h : f_X8_condition R v = some r) : EvM mX8_condition (dR + 3) 0 0 [.ref 174] (rZ X) v (rPV X r) := by
  refine evm_of (by decide +kernel) (fun G => Nat.le_of_ble_eq_true rfl) ?_
  show Ev mX8_condition (dR + 3) 0 0 0 [(0, .ref 174)] [] (rZ X) v _
  unfold f_X8_condition at h
  refine e_aload_n dX8_condition_0 rfl ?_
  obtain ⟨p1, ep1, h⟩ := Option.bind_eq_some_iff.mp h
  refine c_VV (M' := mX8_unit) [] dX8_condition_1 rfl wmX8_150 imX8_unit seX8_unit lkX8_unit k0_174 rc8 (Nat.le_of_ble_eq_true rfl) ((hR _ _  ep1).mono (by omega)) ?_
  refine e_aload_n dX8_condition_4 rfl ?_
  obtain ⟨p2, ep2, h⟩ := Option.bind_eq_some_iff.mp h
  refine c_VV (M' := mX8_goOnAnd) [] dX8_condition_5 rfl wmX8_159 imX8_goOnAnd seX8_goOnAnd lkX8_goOnAnd k0_174 rc8 (Nat.le_of_ble_eq_true rfl) ((x_X8_goOnAnd hdR hR  ep2).mono (by omega)) ?_
  refine e_aload_n dX8_condition_8 rfl ?_
  obtain ⟨p3, ep3, h⟩ := Option.bind_eq_some_iff.mp h
  refine c_VV (M' := mX8_goOnOr) [] dX8_condition_9 rfl wmX8_162 imX8_goOnOr seX8_goOnOr lkX8_goOnOr k0_174 rc8 (Nat.le_of_ble_eq_true rfl) ((x_X8_goOnOr hdR hR  ep3).mono (by omega)) ?_
  obtain rfl := Option.some.inj h
  exact e_ret dX8_condition_12 rfl ⟨rfl, rfl, rfl⟩
def f_X8_unit_B (R : rV → Option rV) (v : rV)  : Option (rV) := (f_X8_look v).bind fun p1 =>
  if p1.1 = (33 : Int32) then
  ((f_X8_opens p1.2).bind fun p10 =>
  if (p10.1 174 4) = (-1 : Int32) then
  ((R p10).bind fun p11 =>
  (f_X8_put p11 (9 : Int32) (0 : Int32)).bind fun p12 =>
  vlet (rI p12 174 5 ((p12.1 174 5) - (1 : Int32))) fun v13 =>
  some v13)
else
  (some p10))
else
  (if p1.1 = (40 : Int32) then
  ((f_X8_opens p1.2).bind fun p5 =>
  if (p5.1 174 4) = (-1 : Int32) then
  ((f_X8_condition R p5).bind fun p6 =>
  (f_X8_closes p6 (41 : Int32)).bind fun p7 =>
  some p7)
else
  (some p5))
else
  ((f_X8_sum 10 p1.2).bind fun p2 =>
  if (p2.1 174 4) = (-1 : Int32) then
  ((f_X8_compare p2).bind fun p3 =>
  some p3)
else
  (some p2)))
set_option maxRecDepth 20000 in
theorem x_X8_unit_B {X : Nat × (Nat → Int32)} {v : rV} {r : rV} {R : rV → Option rV} {dR : Nat} (hdR : 41 ≤ dR) (hR : ∀ (v : rV) (r : rV), R v = some r → EvM mX8_unit dR 0 0 [.ref 174] (rZ X) v (rPV X r))   (h : f_X8_unit_B R v = some r) : EvM mX8_unit (dR + 4) 0 0 [.ref 174] (rZ X) v (rPV X r) := by
  refine evm_of (by decide +kernel) (fun G => Nat.le_of_ble_eq_true rfl) ?_
  show Ev mX8_unit (dR + 4) 0 0 0 [(0, .ref 174)] [] (rZ X) v _
  unfold f_X8_unit_B at h
  refine e_aload_n dX8_unit_0 rfl ?_
  obtain ⟨p1, ep1, h⟩ := Option.bind_eq_some_iff.mp h
  refine c_VI (M' := mX8_look) [] dX8_unit_1 rfl wmX8_113 imX8_look seX8_look lkX8_look k0_174 rc8 (Nat.le_of_ble_eq_true rfl) ((x_X8_look  ep1).mono (by omega)) ?_
  refine e_istore_n (lv' := [(1, .int p1.1), (0, .ref 174)]) dX8_unit_4 (by decide) rfl ?_
  refine e_iload_n dX8_unit_5 rfl ?_
  refine e_bipush (x := (33 : Int32)) dX8_unit_6 (by decide) ?_
  refine e_icmp_ne (tgt := 47) dX8_unit_8 (by decide) (fun c15 => ?_) (fun c15 => ?_)
  · rw [if_neg c15] at h
    refine e_iload_n dX8_unit_47 rfl ?_
    refine e_bipush (x := (40 : Int32)) dX8_unit_48 (by decide) ?_
    refine e_icmp_ne (tgt := 78) dX8_unit_50 (by decide) (fun c9 => ?_) (fun c9 => ?_)
    · rw [if_neg c9] at h
      refine e_aload_n dX8_unit_78 rfl ?_
      obtain ⟨p2, ep2, h⟩ := Option.bind_eq_some_iff.mp h
      refine c_VV (M' := mX8_sum) [] dX8_unit_79 rfl wmX8_134 imX8_sum seX8_sum lkX8_sum k0_174 rc8 (Nat.le_of_ble_eq_true rfl) ((x_X8_sum 10 _ _  ep2).mono (by omega)) ?_
      refine e_aload_n dX8_unit_82 rfl ?_
      refine e_get (w := .int (p2.1 174 4)) (j := 4) dX8_unit_83 k0_174 rc8 (by decide) wfX8_97 rfl ?_
      refine e_iconst (x := (-1 : Int32)) dX8_unit_86 (by decide) ?_
      refine e_icmp_ne (tgt := 94) dX8_unit_87 (by decide) (fun c4 => ?_) (fun c4 => ?_)
      · rw [if_neg c4] at h
        obtain rfl := Option.some.inj h
        exact e_ret dX8_unit_94 rfl ⟨rfl, rfl, rfl⟩
      · rw [if_pos c4] at h
        refine e_aload_n dX8_unit_90 rfl ?_
        obtain ⟨p3, ep3, h⟩ := Option.bind_eq_some_iff.mp h
        refine c_VV (M' := mX8_compare) [] dX8_unit_91 rfl wmX8_156 imX8_compare seX8_compare lkX8_compare k0_174 rc8 (Nat.le_of_ble_eq_true rfl) ((x_X8_compare  ep3).mono (by omega)) ?_
        obtain rfl := Option.some.inj h
        exact e_ret dX8_unit_94 rfl ⟨rfl, rfl, rfl⟩
    · rw [if_pos c9] at h
      refine e_aload_n dX8_unit_53 rfl ?_
      obtain ⟨p5, ep5, h⟩ := Option.bind_eq_some_iff.mp h
      refine c_VV (M' := mX8_opens) [] dX8_unit_54 rfl wmX8_131 imX8_opens seX8_opens lkX8_opens k0_174 rc8 (Nat.le_of_ble_eq_true rfl) ((x_X8_opens  ep5).mono (by omega)) ?_
      refine e_aload_n dX8_unit_57 rfl ?_
      refine e_get (w := .int (p5.1 174 4)) (j := 4) dX8_unit_58 k0_174 rc8 (by decide) wfX8_97 rfl ?_
      refine e_iconst (x := (-1 : Int32)) dX8_unit_61 (by decide) ?_
      refine e_icmp_ne (tgt := 94) dX8_unit_62 (by decide) (fun c8 => ?_) (fun c8 => ?_)
      · rw [if_neg c8] at h
        obtain rfl := Option.some.inj h
        exact e_ret dX8_unit_94 rfl ⟨rfl, rfl, rfl⟩
      · rw [if_pos c8] at h
        refine e_aload_n dX8_unit_65 rfl ?_
        obtain ⟨p6, ep6, h⟩ := Option.bind_eq_some_iff.mp h
        refine c_VV (M' := mX8_condition) [] dX8_unit_66 rfl wmX8_153 imX8_condition seX8_condition lkX8_condition k0_174 rc8 (Nat.le_of_ble_eq_true rfl) ((x_X8_condition hdR hR  ep6).mono (by omega)) ?_
        refine e_aload_n dX8_unit_69 rfl ?_
        refine e_bipush (x := (41 : Int32)) dX8_unit_70 (by decide) ?_
        obtain ⟨p7, ep7, h⟩ := Option.bind_eq_some_iff.mp h
        refine c_VV (M' := mX8_closes) [.int (41 : Int32)] dX8_unit_72 rfl wmX8_137 imX8_closes seX8_closes lkX8_closes k0_174 rc8 (Nat.le_of_ble_eq_true rfl) ((x_X8_closes  ep7).mono (by omega)) ?_
        refine e_goto (tgt := 94) dX8_unit_75 (by decide) ?_
        obtain rfl := Option.some.inj h
        exact e_ret dX8_unit_94 rfl ⟨rfl, rfl, rfl⟩
  · rw [if_pos c15] at h
    refine e_aload_n dX8_unit_11 rfl ?_
    obtain ⟨p10, ep10, h⟩ := Option.bind_eq_some_iff.mp h
    refine c_VV (M' := mX8_opens) [] dX8_unit_12 rfl wmX8_131 imX8_opens seX8_opens lkX8_opens k0_174 rc8 (Nat.le_of_ble_eq_true rfl) ((x_X8_opens  ep10).mono (by omega)) ?_
    refine e_aload_n dX8_unit_15 rfl ?_
    refine e_get (w := .int (p10.1 174 4)) (j := 4) dX8_unit_16 k0_174 rc8 (by decide) wfX8_97 rfl ?_
    refine e_iconst (x := (-1 : Int32)) dX8_unit_19 (by decide) ?_
    refine e_icmp_ne (tgt := 94) dX8_unit_20 (by decide) (fun c14 => ?_) (fun c14 => ?_)
    · rw [if_neg c14] at h
      obtain rfl := Option.some.inj h
      exact e_ret dX8_unit_94 rfl ⟨rfl, rfl, rfl⟩
    · rw [if_pos c14] at h
      refine e_aload_n dX8_unit_23 rfl ?_
      obtain ⟨p11, ep11, h⟩ := Option.bind_eq_some_iff.mp h
      refine c_VV (M' := mX8_unit) [] dX8_unit_24 rfl wmX8_150 imX8_unit seX8_unit lkX8_unit k0_174 rc8 (Nat.le_of_ble_eq_true rfl) ((hR _ _  ep11).mono (by omega)) ?_
      refine e_aload_n dX8_unit_27 rfl ?_
      refine e_bipush (x := (9 : Int32)) dX8_unit_28 (by decide) ?_
      refine e_iconst (x := (0 : Int32)) dX8_unit_30 (by decide) ?_
      obtain ⟨p12, ep12, h⟩ := Option.bind_eq_some_iff.mp h
      refine c_VV (M' := mX8_put) [.int (9 : Int32), .int (0 : Int32)] dX8_unit_31 rfl wmX8_123 imX8_put seX8_put lkX8_put k0_174 rc8 (Nat.le_of_ble_eq_true rfl) ((x_X8_put  ep12).mono (by omega)) ?_
      refine e_aload_n dX8_unit_34 rfl ?_
      refine e_dup dX8_unit_35 rfl ?_
      refine e_get (w := .int (p12.1 174 5)) (j := 5) dX8_unit_36 k0_174 rc8 (by decide) wfX8_107 rfl ?_
      refine e_iconst (x := (1 : Int32)) dX8_unit_39 (by decide) ?_
      refine e_isub dX8_unit_40 ?_
      refine e_putI (j := 5) dX8_unit_41 k0_174 rc8 (by decide) wfX8_107 rfl rfl ?_
      obtain ⟨v13, ev13, h⟩ := vlet_ex h
      refine e_nameV ev13.symm ?_
      clear ev13
      refine e_goto (tgt := 94) dX8_unit_44 (by decide) ?_
      obtain rfl := Option.some.inj h
      exact e_ret dX8_unit_94 rfl ⟨rfl, rfl, rfl⟩
def f_X8_unit : Nat → rV → Option rV
  | 0, _ => none
  | n + 1, v => f_X8_unit_B (f_X8_unit n) v
theorem x_X8_unit {X : Nat × (Nat → Int32)} : ∀ (n : Nat) (v : rV) (r : rV), f_X8_unit n v = some r → EvM mX8_unit (41 + 4 * n) 0 0 [.ref 174] (rZ X) v (rPV X r) := by
  intro n
  induction n with
  | zero =>
    intros
    rename_i h
    cases h
  | succ n ih =>
    intro v  r h
    rw [f_X8_unit] at h
    exact (x_X8_unit_B (dR := 41 + 4 * n) (by omega) ih h).mono (by omega)
def f_X8_clause_250   (v : rV) (a1 : Int32) : Option (rV) := if ¬ (v.1 174 15) < 0 ∧ (v.1 174 15).toNatClampNeg < 9 then
  (if ¬ a1 < 0 ∧ a1.toNatClampNeg < 810 then
  (vlet (rI v 182 a1.toNatClampNeg (v.1 178 ((v.1 174 15).toNatClampNeg))) fun v14 =>
  vlet (v14.1 174 15 : Int32) fun x15 =>
  if ¬ x15 < 0 ∧ x15.toNatClampNeg < 9 then
  (vlet (rI v14 179 x15.toNatClampNeg ((v14.1 179 x15.toNatClampNeg) + (1 : Int32))) fun v17 =>
  some v17)
else none)
else none)
else none
def f_X8_clause_183   (v : rV) (a1 : Int32) (a2 : Int32) : Option (rV) := if ¬ a1 < 0 ∧ a1.toNatClampNeg < 810 then
  (vlet (rI v 181 a1.toNatClampNeg (v.1 180 a1.toNatClampNeg)) fun v11 =>
  if a2 = 0 then
  (f_X8_clause_250  v11 a1)
else
  (if (v11.1 174 4) = (-1 : Int32) then
  ((f_X8_look v11).bind fun p18 =>
  if p18.1 = (63 : Int32) then
  (vlet (rI p18.2 174 3 ((p18.2.1 174 3) + (1 : Int32))) fun v19 =>
  if ¬ (v19.1 174 15) < 0 ∧ (v19.1 174 15).toNatClampNeg < 9 then
  (vlet (rI v19 181 a1.toNatClampNeg (v19.1 178 ((v19.1 174 15).toNatClampNeg))) fun v21 =>
  (f_X8_sum 10 v21).bind fun p22 =>
  f_X8_clause_250  p22 a1)
else none)
else
  ((f_X8_bad p18.2).bind fun p23 =>
  some p23))
else
  (f_X8_clause_250  v11 a1)))
else none
def f_X8_clause_166   (v : rV) (a1 : Int32) (s0 : Int32) : Option (rV) := if s0 = 0 then
  (f_X8_clause_183  v a1 s0)
else
  ((f_X8_compare v).bind fun p27 =>
  (f_X8_goOnAnd (f_X8_unit 10) p27).bind fun p28 =>
  (f_X8_goOnOr (f_X8_unit 10) p28).bind fun p29 =>
  f_X8_clause_183  p29 a1 s0)
def f_X8_clause_165   (v : rV) (a1 : Int32) : Option (rV) := f_X8_clause_166  v a1 (0 : Int32)
def f_X8_clause_127   (v : rV) (a1 : Int32) (s0 : Int32) : Option (rV) := if s0 = 0 then
  ((f_X8_sum 10 v).bind fun p9 =>
  if (p9.1 174 4) = (-1 : Int32) then
  ((f_X8_look p9).bind fun p31 =>
  if (f_X8_isSign p31.1) = true then
  (f_X8_clause_166  p31.2 a1 (1 : Int32))
else
  (f_X8_clause_165  p31.2 a1))
else
  (f_X8_clause_165  p9 a1))
else
  ((f_X8_condition (f_X8_unit 10) v).bind fun p35 =>
  f_X8_clause_183  p35 a1 s0)
def f_X8_clause_122   (v : rV) (a1 : Int32) : Option (rV) := f_X8_clause_127  v a1 (1 : Int32)
def f_X8_clause_70   (v : rV) (a1 : Int32) : Option (rV) := vlet (rI v 174 3 ((v.1 174 3) + (1 : Int32))) fun v4 =>
  if (v4.1 174 4) = (-1 : Int32) then
  (if ¬ (v4.1 174 15) < 0 ∧ (v4.1 174 15).toNatClampNeg < 9 then
  (if ¬ a1 < 0 ∧ a1.toNatClampNeg < 810 then
  (vlet (rI v4 180 a1.toNatClampNeg (v4.1 178 ((v4.1 174 15).toNatClampNeg))) fun v7 =>
  (f_X8_look v7).bind fun p8 =>
  if p8.1 = (33 : Int32) then
  (f_X8_clause_122  p8.2 a1)
else
  ((f_X8_look p8.2).bind fun p37 =>
  if p37.1 = (40 : Int32) then
  (f_X8_clause_122  p37.2 a1)
else
  (f_X8_clause_127  p37.2 a1 (0 : Int32))))
else none)
else none)
else
  (some v4)
def f_X8_clause_39   (v : rV) (a1 : Int32) : Option (rV) := vlet (rI v 174 3 ((v.1 174 3) + (1 : Int32))) fun v3 =>
  if (v3.1 174 4) = (-1 : Int32) then
  ((f_X8_look v3).bind fun p41 =>
  if p41.1 = (58 : Int32) then
  (f_X8_clause_70  p41.2 a1)
else
  ((f_X8_bad p41.2).bind fun p42 =>
  f_X8_clause_70  p42 a1))
else
  (f_X8_clause_70  v3 a1)
def f_X8_clause (v : rV)  : Option (rV) := if ¬ (v.1 174 15) < 0 ∧ (v.1 174 15).toNatClampNeg < 9 then
  (vlet (((90 : Int32) * (v.1 174 15)) + (v.1 179 ((v.1 174 15).toNatClampNeg)) : Int32) fun x2 =>
  if (v.1 174 4) = (-1 : Int32) then
  ((f_X8_look v).bind fun p45 =>
  if p45.1 = (121 : Int32) then
  (f_X8_clause_39  p45.2 x2)
else
  ((f_X8_bad p45.2).bind fun p46 =>
  f_X8_clause_39  p46 x2))
else
  (f_X8_clause_39  v x2))
else none
set_option maxRecDepth 20000 in
theorem b_X8_clause_250 {X : Nat × (Nat → Int32)} {r : rV} {v : rV}   {a1 : Int32}  (h : f_X8_clause_250  v a1 = some r) : Ev mX8_clause 85 0 0 250 [(0, .ref 174), (1, .int a1)] [] (rZ X) v (rPV X r) := by
  unfold f_X8_clause_250 at h
  refine e_aload_n dX8_clause_250 rfl ?_
  refine e_get (w := .ref 182) (j := 12) dX8_clause_251 k0_174 rc8 (by decide) wfX8_31 (g0_174_12) ?_
  refine e_iload_n dX8_clause_254 rfl ?_
  refine e_aload_n dX8_clause_255 rfl ?_
  refine e_get (w := .ref 178) (j := 8) dX8_clause_256 k0_174 rc8 (by decide) wfX8_19 (g0_174_8) ?_
  refine e_aload_n dX8_clause_259 rfl ?_
  refine e_get (w := .int (v.1 174 15)) (j := 15) dX8_clause_260 k0_174 rc8 (by decide) wfX8_100 rfl ?_
  obtain ⟨c12, h⟩ := grd h
  refine e_ialdJ dX8_clause_263 k0_178 rfl c12.2 c12.1 ?_
  obtain ⟨c13, h⟩ := grd h
  refine e_iastJ dX8_clause_264 k0_182 rfl c13.2 c13.1 ?_
  obtain ⟨v14, ev14, h⟩ := vlet_ex h
  refine e_nameV ev14.symm ?_
  clear ev14
  refine e_aload_n dX8_clause_265 rfl ?_
  refine e_get (w := .ref 179) (j := 9) dX8_clause_266 k0_174 rc8 (by decide) wfX8_22 (g0_174_9) ?_
  refine e_aload_n dX8_clause_269 rfl ?_
  refine e_get (w := .int (v14.1 174 15)) (j := 15) dX8_clause_270 k0_174 rc8 (by decide) wfX8_100 rfl ?_
  obtain ⟨x15, ex15, h⟩ := vlet_ex h
  refine e_nameI ex15.symm ?_
  clear ex15
  refine e_dup2 dX8_clause_273 rfl rfl ?_
  obtain ⟨c16, h⟩ := grd h
  refine e_ialdJ dX8_clause_274 k0_179 rfl c16.2 c16.1 ?_
  refine e_iconst (x := (1 : Int32)) dX8_clause_275 (by decide) ?_
  refine e_iadd dX8_clause_276 ?_
  refine e_iastJ dX8_clause_277 k0_179 rfl (c16).2 (c16).1 ?_
  obtain ⟨v17, ev17, h⟩ := vlet_ex h
  refine e_nameV ev17.symm ?_
  clear ev17
  obtain rfl := Option.some.inj h
  exact e_ret dX8_clause_278 rfl ⟨rfl, rfl, rfl⟩
set_option maxRecDepth 20000 in
theorem b_X8_clause_183 {X : Nat × (Nat → Int32)} {r : rV} {v : rV}   {a1 : Int32} {a2 : Int32}  (h : f_X8_clause_183  v a1 a2 = some r) : Ev mX8_clause 85 0 0 183 [(0, .ref 174), (1, .int a1), (2, .int a2)] [] (rZ X) v (rPV X r) := by
  unfold f_X8_clause_183 at h
  refine e_aload_n dX8_clause_183 rfl ?_
  refine e_get (w := .ref 181) (j := 11) dX8_clause_184 k0_174 rc8 (by decide) wfX8_28 (g0_174_11) ?_
  refine e_iload_n dX8_clause_187 rfl ?_
  refine e_aload_n dX8_clause_188 rfl ?_
  refine e_get (w := .ref 180) (j := 10) dX8_clause_189 k0_174 rc8 (by decide) wfX8_25 (g0_174_10) ?_
  refine e_iload_n dX8_clause_192 rfl ?_
  obtain ⟨c10, h⟩ := grd h
  refine e_ialdJ dX8_clause_193 k0_180 rfl c10.2 c10.1 ?_
  refine e_iastJ dX8_clause_194 k0_181 rfl (c10).2 (c10).1 ?_
  obtain ⟨v11, ev11, h⟩ := vlet_ex h
  refine e_nameV ev11.symm ?_
  clear ev11
  refine e_iload_n dX8_clause_195 rfl ?_
  refine e_if_eq (tgt := 250) dX8_clause_196 (by decide) (fun c26 => ?_) (fun c26 => ?_)
  · rw [if_pos c26] at h
    refine e_sub [0, 1] rfl ?_
    exact b_X8_clause_250  h
  · rw [if_neg c26] at h
    refine e_aload_n dX8_clause_199 rfl ?_
    refine e_get (w := .int (v11.1 174 4)) (j := 4) dX8_clause_200 k0_174 rc8 (by decide) wfX8_97 rfl ?_
    refine e_iconst (x := (-1 : Int32)) dX8_clause_203 (by decide) ?_
    refine e_icmp_ne (tgt := 250) dX8_clause_204 (by decide) (fun c25 => ?_) (fun c25 => ?_)
    · rw [if_neg c25] at h
      refine e_sub [0, 1] rfl ?_
      exact b_X8_clause_250  h
    · rw [if_pos c25] at h
      refine e_aload_n dX8_clause_207 rfl ?_
      obtain ⟨p18, ep18, h⟩ := Option.bind_eq_some_iff.mp h
      refine c_VI (M' := mX8_look) [] dX8_clause_208 rfl wmX8_113 imX8_look seX8_look lkX8_look k0_174 rc8 (Nat.le_of_ble_eq_true rfl) ((x_X8_look  ep18).mono (by omega)) ?_
      refine e_bipush (x := (63 : Int32)) dX8_clause_211 (by decide) ?_
      refine e_icmp_eq (tgt := 221) dX8_clause_213 (by decide) (fun c24 => ?_) (fun c24 => ?_)
      · rw [if_pos c24] at h
        refine e_aload_n dX8_clause_221 rfl ?_
        refine e_dup dX8_clause_222 rfl ?_
        refine e_get (w := .int (p18.2.1 174 3)) (j := 3) dX8_clause_223 k0_174 rc8 (by decide) wfX8_90 rfl ?_
        refine e_iconst (x := (1 : Int32)) dX8_clause_226 (by decide) ?_
        refine e_iadd dX8_clause_227 ?_
        refine e_putI (j := 3) dX8_clause_228 k0_174 rc8 (by decide) wfX8_90 rfl rfl ?_
        obtain ⟨v19, ev19, h⟩ := vlet_ex h
        refine e_nameV ev19.symm ?_
        clear ev19
        refine e_aload_n dX8_clause_231 rfl ?_
        refine e_get (w := .ref 181) (j := 11) dX8_clause_232 k0_174 rc8 (by decide) wfX8_28 (g0_174_11) ?_
        refine e_iload_n dX8_clause_235 rfl ?_
        refine e_aload_n dX8_clause_236 rfl ?_
        refine e_get (w := .ref 178) (j := 8) dX8_clause_237 k0_174 rc8 (by decide) wfX8_19 (g0_174_8) ?_
        refine e_aload_n dX8_clause_240 rfl ?_
        refine e_get (w := .int (v19.1 174 15)) (j := 15) dX8_clause_241 k0_174 rc8 (by decide) wfX8_100 rfl ?_
        obtain ⟨c20, h⟩ := grd h
        refine e_ialdJ dX8_clause_244 k0_178 rfl c20.2 c20.1 ?_
        refine e_iastJ dX8_clause_245 k0_181 rfl (c10).2 (c10).1 ?_
        obtain ⟨v21, ev21, h⟩ := vlet_ex h
        refine e_nameV ev21.symm ?_
        clear ev21
        refine e_aload_n dX8_clause_246 rfl ?_
        obtain ⟨p22, ep22, h⟩ := Option.bind_eq_some_iff.mp h
        refine c_VV (M' := mX8_sum) [] dX8_clause_247 rfl wmX8_134 imX8_sum seX8_sum lkX8_sum k0_174 rc8 (Nat.le_of_ble_eq_true rfl) ((x_X8_sum 10 _ _  ep22).mono (by omega)) ?_
        refine e_sub [0, 1] rfl ?_
        exact b_X8_clause_250  h
      · rw [if_neg c24] at h
        refine e_aload_n dX8_clause_216 rfl ?_
        obtain ⟨p23, ep23, h⟩ := Option.bind_eq_some_iff.mp h
        refine c_VV (M' := mX8_bad) [] dX8_clause_217 rfl wmX8_110 imX8_bad seX8_bad lkX8_bad k0_174 rc8 (Nat.le_of_ble_eq_true rfl) ((x_X8_bad  ep23).mono (by omega)) ?_
        obtain rfl := Option.some.inj h
        exact e_ret dX8_clause_220 rfl ⟨rfl, rfl, rfl⟩
set_option maxRecDepth 20000 in
theorem b_X8_clause_166 {X : Nat × (Nat → Int32)} {r : rV} {v : rV}   {a1 : Int32} {s0 : Int32}  (h : f_X8_clause_166  v a1 s0 = some r) : Ev mX8_clause 85 0 0 166 [(0, .ref 174), (1, .int a1)] [.int s0] (rZ X) v (rPV X r) := by
  unfold f_X8_clause_166 at h
  refine e_istore_n (lv' := [(2, .int s0), (0, .ref 174), (1, .int a1)]) dX8_clause_166 (by decide) rfl ?_
  refine e_iload_n dX8_clause_167 rfl ?_
  refine e_if_eq (tgt := 183) dX8_clause_168 (by decide) (fun c30 => ?_) (fun c30 => ?_)
  · rw [if_pos c30] at h
    refine e_sub [1, 2, 0] rfl ?_
    exact b_X8_clause_183  h
  · rw [if_neg c30] at h
    refine e_aload_n dX8_clause_171 rfl ?_
    obtain ⟨p27, ep27, h⟩ := Option.bind_eq_some_iff.mp h
    refine c_VV (M' := mX8_compare) [] dX8_clause_172 rfl wmX8_156 imX8_compare seX8_compare lkX8_compare k0_174 rc8 (Nat.le_of_ble_eq_true rfl) ((x_X8_compare  ep27).mono (by omega)) ?_
    refine e_aload_n dX8_clause_175 rfl ?_
    obtain ⟨p28, ep28, h⟩ := Option.bind_eq_some_iff.mp h
    refine c_VV (M' := mX8_goOnAnd) [] dX8_clause_176 rfl wmX8_159 imX8_goOnAnd seX8_goOnAnd lkX8_goOnAnd k0_174 rc8 (Nat.le_of_ble_eq_true rfl) ((x_X8_goOnAnd (dR := 81) (by omega) (x_X8_unit 10)  ep28).mono (by omega)) ?_
    refine e_aload_n dX8_clause_179 rfl ?_
    obtain ⟨p29, ep29, h⟩ := Option.bind_eq_some_iff.mp h
    refine c_VV (M' := mX8_goOnOr) [] dX8_clause_180 rfl wmX8_162 imX8_goOnOr seX8_goOnOr lkX8_goOnOr k0_174 rc8 (Nat.le_of_ble_eq_true rfl) ((x_X8_goOnOr (dR := 81) (by omega) (x_X8_unit 10)  ep29).mono (by omega)) ?_
    refine e_sub [1, 2, 0] rfl ?_
    exact b_X8_clause_183  h
set_option maxRecDepth 20000 in
theorem b_X8_clause_165 {X : Nat × (Nat → Int32)} {r : rV} {v : rV}   {a1 : Int32}  (h : f_X8_clause_165  v a1 = some r) : Ev mX8_clause 85 0 0 165 [(0, .ref 174), (1, .int a1)] [] (rZ X) v (rPV X r) := by
  unfold f_X8_clause_165 at h
  refine e_iconst (x := (0 : Int32)) dX8_clause_165 (by decide) ?_
  exact b_X8_clause_166  h
set_option maxRecDepth 20000 in
theorem b_X8_clause_127 {X : Nat × (Nat → Int32)} {r : rV} {v : rV}   {a1 : Int32} {s0 : Int32}  (h : f_X8_clause_127  v a1 s0 = some r) : Ev mX8_clause 85 0 0 127 [(0, .ref 174), (1, .int a1)] [.int s0] (rZ X) v (rPV X r) := by
  unfold f_X8_clause_127 at h
  refine e_istore_n (lv' := [(2, .int s0), (0, .ref 174), (1, .int a1)]) dX8_clause_127 (by decide) rfl ?_
  refine e_iload_n dX8_clause_128 rfl ?_
  refine e_if_eq (tgt := 139) dX8_clause_129 (by decide) (fun c36 => ?_) (fun c36 => ?_)
  · rw [if_pos c36] at h
    refine e_aload_n dX8_clause_139 rfl ?_
    obtain ⟨p9, ep9, h⟩ := Option.bind_eq_some_iff.mp h
    refine c_VV (M' := mX8_sum) [] dX8_clause_140 rfl wmX8_134 imX8_sum seX8_sum lkX8_sum k0_174 rc8 (Nat.le_of_ble_eq_true rfl) ((x_X8_sum 10 _ _  ep9).mono (by omega)) ?_
    refine e_aload_n dX8_clause_143 rfl ?_
    refine e_get (w := .int (p9.1 174 4)) (j := 4) dX8_clause_144 k0_174 rc8 (by decide) wfX8_97 rfl ?_
    refine e_iconst (x := (-1 : Int32)) dX8_clause_147 (by decide) ?_
    refine e_icmp_ne (tgt := 165) dX8_clause_148 (by decide) (fun c34 => ?_) (fun c34 => ?_)
    · rw [if_neg c34] at h
      refine e_sub [1, 2] rfl ?_
      exact b_X8_clause_165  h
    · rw [if_pos c34] at h
      refine e_aload_n dX8_clause_151 rfl ?_
      obtain ⟨p31, ep31, h⟩ := Option.bind_eq_some_iff.mp h
      refine c_VI (M' := mX8_look) [] dX8_clause_152 rfl wmX8_113 imX8_look seX8_look lkX8_look k0_174 rc8 (Nat.le_of_ble_eq_true rfl) ((x_X8_look  ep31).mono (by omega)) ?_
      refine c_SZ (M' := mX8_isSign) [.int p31.1] dX8_clause_155 rfl wmX8_147 stX8_isSign lkX8_isSign (Nat.le_of_ble_eq_true rfl) ((x_X8_isSign ).mono (by omega)) ?_
      refine e_if_eq (tgt := 165) dX8_clause_158 (by decide) (fun c33 => ?_) (fun c33 => ?_)
      · rw [if_neg (bI_n c33)] at h
        refine e_sub [1, 2] rfl ?_
        exact b_X8_clause_165  h
      · rw [if_pos (bI_p c33)] at h
        refine e_iconst (x := (1 : Int32)) dX8_clause_161 (by decide) ?_
        refine e_goto (tgt := 166) dX8_clause_162 (by decide) ?_
        refine e_sub [1, 2] rfl ?_
        exact b_X8_clause_166  h
  · rw [if_neg c36] at h
    refine e_aload_n dX8_clause_132 rfl ?_
    obtain ⟨p35, ep35, h⟩ := Option.bind_eq_some_iff.mp h
    refine c_VV (M' := mX8_condition) [] dX8_clause_133 rfl wmX8_153 imX8_condition seX8_condition lkX8_condition k0_174 rc8 (Nat.le_of_ble_eq_true rfl) ((x_X8_condition (dR := 81) (by omega) (x_X8_unit 10)  ep35).mono (by omega)) ?_
    refine e_goto (tgt := 183) dX8_clause_136 (by decide) ?_
    refine e_sub [1, 2, 0] rfl ?_
    exact b_X8_clause_183  h
set_option maxRecDepth 20000 in
theorem b_X8_clause_122 {X : Nat × (Nat → Int32)} {r : rV} {v : rV}   {a1 : Int32}  (h : f_X8_clause_122  v a1 = some r) : Ev mX8_clause 85 0 0 122 [(0, .ref 174), (1, .int a1)] [] (rZ X) v (rPV X r) := by
  unfold f_X8_clause_122 at h
  refine e_iconst (x := (1 : Int32)) dX8_clause_122 (by decide) ?_
  refine e_goto (tgt := 127) dX8_clause_123 (by decide) ?_
  exact b_X8_clause_127  h
set_option maxRecDepth 20000 in
theorem b_X8_clause_70 {X : Nat × (Nat → Int32)} {r : rV} {v : rV}   {a1 : Int32}  (h : f_X8_clause_70  v a1 = some r) : Ev mX8_clause 85 0 0 70 [(0, .ref 174), (1, .int a1)] [] (rZ X) v (rPV X r) := by
  unfold f_X8_clause_70 at h
  refine e_aload_n dX8_clause_70 rfl ?_
  refine e_dup dX8_clause_71 rfl ?_
  refine e_get (w := .int (v.1 174 3)) (j := 3) dX8_clause_72 k0_174 rc8 (by decide) wfX8_90 rfl ?_
  refine e_iconst (x := (1 : Int32)) dX8_clause_75 (by decide) ?_
  refine e_iadd dX8_clause_76 ?_
  refine e_putI (j := 3) dX8_clause_77 k0_174 rc8 (by decide) wfX8_90 rfl rfl ?_
  obtain ⟨v4, ev4, h⟩ := vlet_ex h
  refine e_nameV ev4.symm ?_
  clear ev4
  refine e_aload_n dX8_clause_80 rfl ?_
  refine e_get (w := .int (v4.1 174 4)) (j := 4) dX8_clause_81 k0_174 rc8 (by decide) wfX8_97 rfl ?_
  refine e_iconst (x := (-1 : Int32)) dX8_clause_84 (by decide) ?_
  refine e_icmp_eq (tgt := 89) dX8_clause_85 (by decide) (fun c40 => ?_) (fun c40 => ?_)
  · rw [if_pos c40] at h
    refine e_aload_n dX8_clause_89 rfl ?_
    refine e_get (w := .ref 180) (j := 10) dX8_clause_90 k0_174 rc8 (by decide) wfX8_25 (g0_174_10) ?_
    refine e_iload_n dX8_clause_93 rfl ?_
    refine e_aload_n dX8_clause_94 rfl ?_
    refine e_get (w := .ref 178) (j := 8) dX8_clause_95 k0_174 rc8 (by decide) wfX8_19 (g0_174_8) ?_
    refine e_aload_n dX8_clause_98 rfl ?_
    refine e_get (w := .int (v4.1 174 15)) (j := 15) dX8_clause_99 k0_174 rc8 (by decide) wfX8_100 rfl ?_
    obtain ⟨c5, h⟩ := grd h
    refine e_ialdJ dX8_clause_102 k0_178 rfl c5.2 c5.1 ?_
    obtain ⟨c6, h⟩ := grd h
    refine e_iastJ dX8_clause_103 k0_180 rfl c6.2 c6.1 ?_
    obtain ⟨v7, ev7, h⟩ := vlet_ex h
    refine e_nameV ev7.symm ?_
    clear ev7
    refine e_aload_n dX8_clause_104 rfl ?_
    obtain ⟨p8, ep8, h⟩ := Option.bind_eq_some_iff.mp h
    refine c_VI (M' := mX8_look) [] dX8_clause_105 rfl wmX8_113 imX8_look seX8_look lkX8_look k0_174 rc8 (Nat.le_of_ble_eq_true rfl) ((x_X8_look  ep8).mono (by omega)) ?_
    refine e_bipush (x := (33 : Int32)) dX8_clause_108 (by decide) ?_
    refine e_icmp_eq (tgt := 122) dX8_clause_110 (by decide) (fun c39 => ?_) (fun c39 => ?_)
    · rw [if_pos c39] at h
      exact b_X8_clause_122  h
    · rw [if_neg c39] at h
      refine e_aload_n dX8_clause_113 rfl ?_
      obtain ⟨p37, ep37, h⟩ := Option.bind_eq_some_iff.mp h
      refine c_VI (M' := mX8_look) [] dX8_clause_114 rfl wmX8_113 imX8_look seX8_look lkX8_look k0_174 rc8 (Nat.le_of_ble_eq_true rfl) ((x_X8_look  ep37).mono (by omega)) ?_
      refine e_bipush (x := (40 : Int32)) dX8_clause_117 (by decide) ?_
      refine e_icmp_ne (tgt := 126) dX8_clause_119 (by decide) (fun c38 => ?_) (fun c38 => ?_)
      · rw [if_neg c38] at h
        refine e_iconst (x := (0 : Int32)) dX8_clause_126 (by decide) ?_
        exact b_X8_clause_127  h
      · rw [if_pos c38] at h
        exact b_X8_clause_122  h
  · rw [if_neg c40] at h
    obtain rfl := Option.some.inj h
    exact e_ret dX8_clause_88 rfl ⟨rfl, rfl, rfl⟩
set_option maxRecDepth 20000 in
theorem b_X8_clause_39 {X : Nat × (Nat → Int32)} {r : rV} {v : rV}   {a1 : Int32}  (h : f_X8_clause_39  v a1 = some r) : Ev mX8_clause 85 0 0 39 [(0, .ref 174), (1, .int a1)] [] (rZ X) v (rPV X r) := by
  unfold f_X8_clause_39 at h
  refine e_aload_n dX8_clause_39 rfl ?_
  refine e_dup dX8_clause_40 rfl ?_
  refine e_get (w := .int (v.1 174 3)) (j := 3) dX8_clause_41 k0_174 rc8 (by decide) wfX8_90 rfl ?_
  refine e_iconst (x := (1 : Int32)) dX8_clause_44 (by decide) ?_
  refine e_iadd dX8_clause_45 ?_
  refine e_putI (j := 3) dX8_clause_46 k0_174 rc8 (by decide) wfX8_90 rfl rfl ?_
  obtain ⟨v3, ev3, h⟩ := vlet_ex h
  refine e_nameV ev3.symm ?_
  clear ev3
  refine e_aload_n dX8_clause_49 rfl ?_
  refine e_get (w := .int (v3.1 174 4)) (j := 4) dX8_clause_50 k0_174 rc8 (by decide) wfX8_97 rfl ?_
  refine e_iconst (x := (-1 : Int32)) dX8_clause_53 (by decide) ?_
  refine e_icmp_ne (tgt := 70) dX8_clause_54 (by decide) (fun c44 => ?_) (fun c44 => ?_)
  · rw [if_neg c44] at h
    exact b_X8_clause_70  h
  · rw [if_pos c44] at h
    refine e_aload_n dX8_clause_57 rfl ?_
    obtain ⟨p41, ep41, h⟩ := Option.bind_eq_some_iff.mp h
    refine c_VI (M' := mX8_look) [] dX8_clause_58 rfl wmX8_113 imX8_look seX8_look lkX8_look k0_174 rc8 (Nat.le_of_ble_eq_true rfl) ((x_X8_look  ep41).mono (by omega)) ?_
    refine e_bipush (x := (58 : Int32)) dX8_clause_61 (by decide) ?_
    refine e_icmp_eq (tgt := 70) dX8_clause_63 (by decide) (fun c43 => ?_) (fun c43 => ?_)
    · rw [if_pos c43] at h
      exact b_X8_clause_70  h
    · rw [if_neg c43] at h
      refine e_aload_n dX8_clause_66 rfl ?_
      obtain ⟨p42, ep42, h⟩ := Option.bind_eq_some_iff.mp h
      refine c_VV (M' := mX8_bad) [] dX8_clause_67 rfl wmX8_110 imX8_bad seX8_bad lkX8_bad k0_174 rc8 (Nat.le_of_ble_eq_true rfl) ((x_X8_bad  ep42).mono (by omega)) ?_
      exact b_X8_clause_70  h
set_option maxRecDepth 20000 in
theorem x_X8_clause {X : Nat × (Nat → Int32)} {v : rV} {r : rV}   (h : f_X8_clause v = some r) : EvM mX8_clause 85 0 0 [.ref 174] (rZ X) v (rPV X r) := by
  refine evm_of (by decide +kernel) (fun G => Nat.le_of_ble_eq_true rfl) ?_
  show Ev mX8_clause 85 0 0 0 [(0, .ref 174)] [] (rZ X) v _
  unfold f_X8_clause at h
  refine e_bipush (x := (90 : Int32)) dX8_clause_0 (by decide) ?_
  refine e_aload_n dX8_clause_2 rfl ?_
  refine e_get (w := .int (v.1 174 15)) (j := 15) dX8_clause_3 k0_174 rc8 (by decide) wfX8_100 rfl ?_
  refine e_imul dX8_clause_6 ?_
  refine e_aload_n dX8_clause_7 rfl ?_
  refine e_get (w := .ref 179) (j := 9) dX8_clause_8 k0_174 rc8 (by decide) wfX8_22 (g0_174_9) ?_
  refine e_aload_n dX8_clause_11 rfl ?_
  refine e_get (w := .int (v.1 174 15)) (j := 15) dX8_clause_12 k0_174 rc8 (by decide) wfX8_100 rfl ?_
  obtain ⟨c1, h⟩ := grd h
  refine e_ialdJ dX8_clause_15 k0_179 rfl c1.2 c1.1 ?_
  refine e_iadd dX8_clause_16 ?_
  obtain ⟨x2, ex2, h⟩ := vlet_ex h
  refine e_nameI ex2.symm ?_
  clear ex2
  refine e_istore_n (lv' := [(1, .int x2), (0, .ref 174)]) dX8_clause_17 (by decide) rfl ?_
  refine e_aload_n dX8_clause_18 rfl ?_
  refine e_get (w := .int (v.1 174 4)) (j := 4) dX8_clause_19 k0_174 rc8 (by decide) wfX8_97 rfl ?_
  refine e_iconst (x := (-1 : Int32)) dX8_clause_22 (by decide) ?_
  refine e_icmp_ne (tgt := 39) dX8_clause_23 (by decide) (fun c48 => ?_) (fun c48 => ?_)
  · rw [if_neg c48] at h
    refine e_sub [1, 0] rfl ?_
    exact b_X8_clause_39  h
  · rw [if_pos c48] at h
    refine e_aload_n dX8_clause_26 rfl ?_
    obtain ⟨p45, ep45, h⟩ := Option.bind_eq_some_iff.mp h
    refine c_VI (M' := mX8_look) [] dX8_clause_27 rfl wmX8_113 imX8_look seX8_look lkX8_look k0_174 rc8 (Nat.le_of_ble_eq_true rfl) ((x_X8_look  ep45).mono (by omega)) ?_
    refine e_bipush (x := (121 : Int32)) dX8_clause_30 (by decide) ?_
    refine e_icmp_eq (tgt := 39) dX8_clause_32 (by decide) (fun c47 => ?_) (fun c47 => ?_)
    · rw [if_pos c47] at h
      refine e_sub [1, 0] rfl ?_
      exact b_X8_clause_39  h
    · rw [if_neg c47] at h
      refine e_aload_n dX8_clause_35 rfl ?_
      obtain ⟨p46, ep46, h⟩ := Option.bind_eq_some_iff.mp h
      refine c_VV (M' := mX8_bad) [] dX8_clause_36 rfl wmX8_110 imX8_bad seX8_bad lkX8_bad k0_174 rc8 (Nat.le_of_ble_eq_true rfl) ((x_X8_bad  ep46).mono (by omega)) ?_
      refine e_sub [1, 0] rfl ?_
      exact b_X8_clause_39  h
def f_X8_copies (v : rV) (a1 : Int32) (a2 : Int32) : Option (Int32) := if ¬ (((12 : Int32) * a1) + (1 : Int32)) < 0 ∧ (((12 : Int32) * a1) + (1 : Int32)).toNatClampNeg < 156 then
  (if ((v.1 185 ((((12 : Int32) * a1) + (1 : Int32)).toNatClampNeg)) + a2) = 0 then none else
  some (((24 : Int32) + a2) / ((v.1 185 ((((12 : Int32) * a1) + (1 : Int32)).toNatClampNeg)) + a2)))
else none
set_option maxRecDepth 20000 in
theorem x_X8_copies {X : Nat × (Nat → Int32)} {v : rV} {r : Int32} {a1 : Int32} {a2 : Int32}  (h : f_X8_copies v a1 a2 = some r) : EvM mX8_copies 1 0 0 [.ref 174, .int a1, .int a2] (rZ X) v (rPI X (r, v)) := by
  refine evm_of (by decide +kernel) (fun G => Nat.le_of_ble_eq_true rfl) ?_
  show Ev mX8_copies 1 0 0 0 [(0, .ref 174), (1, .int a1), (2, .int a2)] [] (rZ X) v _
  unfold f_X8_copies at h
  refine e_bipush (x := (24 : Int32)) dX8_copies_0 (by decide) ?_
  refine e_iload_n dX8_copies_2 rfl ?_
  refine e_iadd dX8_copies_3 ?_
  refine e_aload_n dX8_copies_4 rfl ?_
  refine e_get (w := .ref 185) (j := 19) dX8_copies_5 k0_174 rc8 (by decide) wfX8_40 (g0_174_19) ?_
  refine e_bipush (x := (12 : Int32)) dX8_copies_8 (by decide) ?_
  refine e_iload_n dX8_copies_10 rfl ?_
  refine e_imul dX8_copies_11 ?_
  refine e_iconst (x := (1 : Int32)) dX8_copies_12 (by decide) ?_
  refine e_iadd dX8_copies_13 ?_
  obtain ⟨c1, h⟩ := grd h
  refine e_ialdJ dX8_copies_14 k0_185 rfl c1.2 c1.1 ?_
  refine e_iload_n dX8_copies_15 rfl ?_
  refine e_iadd dX8_copies_16 ?_
  obtain ⟨c2, h⟩ := grdn h
  refine e_idiv dX8_copies_17 c2 ?_
  obtain rfl := Option.some.inj h
  exact e_iret dX8_copies_18 rfl rfl ⟨rfl, rfl, rfl⟩
def f_X8_count (v : rV) (a1 : Int32) : Int32 := if a1 = (0 : Int32) then
  (v.1 174 13)
else
  (if a1 = (1 : Int32) then
  (v.1 174 14)
else
  (if a1 = (2 : Int32) then
  (v.1 174 21)
else
  (if a1 = (3 : Int32) then
  (v.1 174 41)
else
  (if a1 = (4 : Int32) then
  (v.1 174 2)
else
  (if a1 = (5 : Int32) then
  (v.1 174 23)
else
  ((-1 : Int32)))))))
set_option maxRecDepth 20000 in
theorem x_X8_count {X : Nat × (Nat → Int32)} {v : rV} {a1 : Int32}  : EvM mX8_count 1 0 0 [.ref 174, .int a1] (rZ X) v (rPI X ((f_X8_count v a1), v)) := by
  refine evm_of (by decide +kernel) (fun G => Nat.le_of_ble_eq_true rfl) ?_
  show Ev mX8_count 1 0 0 0 [(0, .ref 174), (1, .int a1)] [] (rZ X) v _
  generalize h : f_X8_count v a1 = r
  unfold f_X8_count at h
  refine e_iload_n dX8_count_0 rfl ?_
  by_cases c1 : a1 = (0 : Int32)
  · rw [if_pos c1] at h
    refine e_tabIn (off := 39) (tgt := 40) dX8_count_1 (by rw [c1]; decide) (by rw [c1]; decide) (by rw [c1]; rfl) (by decide) ?_
    refine e_aload_n dX8_count_40 rfl ?_
    refine e_get (w := .int (v.1 174 13)) (j := 13) dX8_count_41 k0_174 rc8 (by decide) wfX8_235 rfl ?_
    subst h
    exact e_iret dX8_count_44 rfl rfl ⟨rfl, rfl, rfl⟩
  · rw [if_neg c1] at h
    have nc1 := tab_ne c1 (k := 0) (by decide)
    by_cases c2 : a1 = (1 : Int32)
    · rw [if_pos c2] at h
      refine e_tabIn (off := 44) (tgt := 45) dX8_count_1 (by rw [c2]; decide) (by rw [c2]; decide) (by rw [c2]; rfl) (by decide) ?_
      refine e_aload_n dX8_count_45 rfl ?_
      refine e_get (w := .int (v.1 174 14)) (j := 14) dX8_count_46 k0_174 rc8 (by decide) wfX8_238 rfl ?_
      subst h
      exact e_iret dX8_count_49 rfl rfl ⟨rfl, rfl, rfl⟩
    · rw [if_neg c2] at h
      have nc2 := tab_ne c2 (k := 1) (by decide)
      by_cases c3 : a1 = (2 : Int32)
      · rw [if_pos c3] at h
        refine e_tabIn (off := 49) (tgt := 50) dX8_count_1 (by rw [c3]; decide) (by rw [c3]; decide) (by rw [c3]; rfl) (by decide) ?_
        refine e_aload_n dX8_count_50 rfl ?_
        refine e_get (w := .int (v.1 174 21)) (j := 21) dX8_count_51 k0_174 rc8 (by decide) wfX8_241 rfl ?_
        subst h
        exact e_iret dX8_count_54 rfl rfl ⟨rfl, rfl, rfl⟩
      · rw [if_neg c3] at h
        have nc3 := tab_ne c3 (k := 2) (by decide)
        by_cases c4 : a1 = (3 : Int32)
        · rw [if_pos c4] at h
          refine e_tabIn (off := 54) (tgt := 55) dX8_count_1 (by rw [c4]; decide) (by rw [c4]; decide) (by rw [c4]; rfl) (by decide) ?_
          refine e_aload_n dX8_count_55 rfl ?_
          refine e_get (w := .int (v.1 174 41)) (j := 41) dX8_count_56 k0_174 rc8 (by decide) wfX8_394 rfl ?_
          subst h
          exact e_iret dX8_count_59 rfl rfl ⟨rfl, rfl, rfl⟩
        · rw [if_neg c4] at h
          have nc4 := tab_ne c4 (k := 3) (by decide)
          by_cases c5 : a1 = (4 : Int32)
          · rw [if_pos c5] at h
            refine e_tabIn (off := 59) (tgt := 60) dX8_count_1 (by rw [c5]; decide) (by rw [c5]; decide) (by rw [c5]; rfl) (by decide) ?_
            refine e_aload_n dX8_count_60 rfl ?_
            refine e_get (w := .int (v.1 174 2)) (j := 2) dX8_count_61 k0_174 rc8 (by decide) wfX8_87 rfl ?_
            subst h
            exact e_iret dX8_count_64 rfl rfl ⟨rfl, rfl, rfl⟩
          · rw [if_neg c5] at h
            have nc5 := tab_ne c5 (k := 4) (by decide)
            by_cases c6 : a1 = (5 : Int32)
            · rw [if_pos c6] at h
              refine e_tabIn (off := 64) (tgt := 65) dX8_count_1 (by rw [c6]; decide) (by rw [c6]; decide) (by rw [c6]; rfl) (by decide) ?_
              refine e_aload_n dX8_count_65 rfl ?_
              refine e_get (w := .int (v.1 174 23)) (j := 23) dX8_count_66 k0_174 rc8 (by decide) wfX8_46 rfl ?_
              subst h
              exact e_iret dX8_count_69 rfl rfl ⟨rfl, rfl, rfl⟩
            · rw [if_neg c6] at h
              have nc6 := tab_ne c6 (k := 5) (by decide)
              refine e_tabOut (tgt := 70) dX8_count_1 (by omega) (by decide) ?_
              refine e_iconst (x := (-1 : Int32)) dX8_count_70 (by decide) ?_
              subst h
              exact e_iret dX8_count_71 rfl rfl ⟨rfl, rfl, rfl⟩
def f_X8_evenOf_8   : Nat → rV → Int32 → Int32 → Int32 → Int64 → Int32 → Int32 → Option (Int32 × rV)
  | 0, _, _, _, _, _, _, _ => none
  | n + 1, v, a1, a2, a3, a4, a6, a7 => (f_X8_copies v a2 a3).bind fun p2 =>
  if p2 ≤ a7 then
  ((f_X8_tryOut v a1 a4 a6).bind fun p3 =>
  (f_X8_even p3).bind fun p4 =>
  some (p4, p3))
else
  (if ¬ (((12 : Int32) * a2) + (1 : Int32)) < 0 ∧ (((12 : Int32) * a2) + (1 : Int32)).toNatClampNeg < 156 then
  ((f_X8_addPiece v (a7 * ((v.1 185 ((((12 : Int32) * a2) + (1 : Int32)).toNatClampNeg)) + a3)) (v.1 185 ((((12 : Int32) * a2) + (1 : Int32)).toNatClampNeg)) a2).bind fun p6 =>
  vlet (a7 + (1 : Int32)) fun x7 =>
  f_X8_evenOf_8  n p6 a1 a2 a3 a4 a6 x7)
else none)
def f_X8_evenOf (v : rV) (a1 : Int32) (a2 : Int32) (a3 : Int32) (a4 : Int64) (a6 : Int32) : Option (Int32 × rV) := vlet (rI v 174 34 (0 : Int32)) fun v1 =>
  f_X8_evenOf_8  20000 v1 a1 a2 a3 a4 a6 (0 : Int32)
set_option maxRecDepth 20000 in
theorem b_X8_evenOf_8 {X : Nat × (Nat → Int32)} {r : Int32 × rV}   : ∀ (n : Nat) (v : rV) (a1 : Int32) (a2 : Int32) (a3 : Int32) (a4 : Int64) (a6 : Int32) (a7 : Int32) , f_X8_evenOf_8   n v a1 a2 a3 a4 a6 a7 = some r → Ev mX8_evenOf 10 0 0 8 [(0, .ref 174), (1, .int a1), (2, .int a2), (3, .int a3), (4, .long a4), (6, .int a6), (7, .int a7)] [] (rZ X) v (rPI X r) := by
  intro n
  induction n with
  | zero =>
    intros
    rename_i h
    cases h
  | succ n ih =>
    intro v a1 a2 a3 a4 a6 a7 h
    rw [f_X8_evenOf_8] at h
    refine e_iload dX8_evenOf_8 rfl ?_
    refine e_aload_n dX8_evenOf_10 rfl ?_
    refine e_iload_n dX8_evenOf_11 rfl ?_
    refine e_iload_n dX8_evenOf_12 rfl ?_
    obtain ⟨p2, ep2, h⟩ := Option.bind_eq_some_iff.mp h
    refine c_VI (M' := mX8_copies) [.int a2, .int a3] dX8_evenOf_13 rfl wmX8_411 imX8_copies seX8_copies lkX8_copies k0_174 rc8 (Nat.le_of_ble_eq_true rfl) ((x_X8_copies  ep2).mono (by omega)) ?_
    refine e_icmp_ge (tgt := 57) dX8_evenOf_16 (by decide) (fun c8 => ?_) (fun c8 => ?_)
    · rw [if_pos c8] at h
      refine e_aload_n dX8_evenOf_57 rfl ?_
      refine e_iload_n dX8_evenOf_58 rfl ?_
      refine e_lload dX8_evenOf_59 rfl ?_
      refine e_iload dX8_evenOf_61 rfl ?_
      obtain ⟨p3, ep3, h⟩ := Option.bind_eq_some_iff.mp h
      refine c_VV (M' := mX8_tryOut) [.int a1, .long a4, .int a6] dX8_evenOf_63 rfl wmX8_387 imX8_tryOut seX8_tryOut lkX8_tryOut k0_174 rc8 (Nat.le_of_ble_eq_true rfl) ((x_X8_tryOut  ep3).mono (by omega)) ?_
      refine e_aload_n dX8_evenOf_66 rfl ?_
      obtain ⟨p4, ep4, h⟩ := Option.bind_eq_some_iff.mp h
      refine c_VI (M' := mX8_even) [] dX8_evenOf_67 rfl wmX8_366 imX8_even seX8_even lkX8_even k0_174 rc8 (Nat.le_of_ble_eq_true rfl) ((x_X8_even  ep4).mono (by omega)) ?_
      obtain rfl := Option.some.inj h
      exact e_iret dX8_evenOf_70 rfl rfl ⟨rfl, rfl, rfl⟩
    · rw [if_neg c8] at h
      refine e_aload_n dX8_evenOf_19 rfl ?_
      refine e_iload dX8_evenOf_20 rfl ?_
      refine e_aload_n dX8_evenOf_22 rfl ?_
      refine e_get (w := .ref 185) (j := 19) dX8_evenOf_23 k0_174 rc8 (by decide) wfX8_40 (g0_174_19) ?_
      refine e_bipush (x := (12 : Int32)) dX8_evenOf_26 (by decide) ?_
      refine e_iload_n dX8_evenOf_28 rfl ?_
      refine e_imul dX8_evenOf_29 ?_
      refine e_iconst (x := (1 : Int32)) dX8_evenOf_30 (by decide) ?_
      refine e_iadd dX8_evenOf_31 ?_
      obtain ⟨c5, h⟩ := grd h
      refine e_ialdJ dX8_evenOf_32 k0_185 rfl c5.2 c5.1 ?_
      refine e_iload_n dX8_evenOf_33 rfl ?_
      refine e_iadd dX8_evenOf_34 ?_
      refine e_imul dX8_evenOf_35 ?_
      refine e_aload_n dX8_evenOf_36 rfl ?_
      refine e_get (w := .ref 185) (j := 19) dX8_evenOf_37 k0_174 rc8 (by decide) wfX8_40 (g0_174_19) ?_
      refine e_bipush (x := (12 : Int32)) dX8_evenOf_40 (by decide) ?_
      refine e_iload_n dX8_evenOf_42 rfl ?_
      refine e_imul dX8_evenOf_43 ?_
      refine e_iconst (x := (1 : Int32)) dX8_evenOf_44 (by decide) ?_
      refine e_iadd dX8_evenOf_45 ?_
      refine e_ialdJ dX8_evenOf_46 k0_185 rfl (c5).2 (c5).1 ?_
      refine e_iload_n dX8_evenOf_47 rfl ?_
      obtain ⟨p6, ep6, h⟩ := Option.bind_eq_some_iff.mp h
      refine c_VV (M' := mX8_addPiece) [.int (a7 * ((v.1 185 ((((12 : Int32) * a2) + (1 : Int32)).toNatClampNeg)) + a3)), .int (v.1 185 ((((12 : Int32) * a2) + (1 : Int32)).toNatClampNeg)), .int a2] dX8_evenOf_48 rfl wmX8_250 imX8_addPiece seX8_addPiece lkX8_addPiece k0_174 rc8 (Nat.le_of_ble_eq_true rfl) ((x_X8_addPiece  ep6).mono (by omega)) ?_
      obtain ⟨x7, ex7, h⟩ := vlet_ex h
      refine e_iinc (lv' := [(7, .int x7), (0, .ref 174), (1, .int a1), (2, .int a2), (3, .int a3), (4, .long a4), (6, .int a6)]) dX8_evenOf_51 rfl (ex7.symm) (by decide) rfl ?_
      clear ex7
      refine e_goto (tgt := 8) dX8_evenOf_54 (by decide) ?_
      refine e_sub [1, 2, 3, 4, 5, 6, 0] rfl ?_
      exact ih p6 a1 a2 a3 a4 a6 x7 h
set_option maxRecDepth 20000 in
theorem x_X8_evenOf {X : Nat × (Nat → Int32)} {v : rV} {r : Int32 × rV} {a1 : Int32} {a2 : Int32} {a3 : Int32} {a4 : Int64} {a6 : Int32}  (h : f_X8_evenOf v a1 a2 a3 a4 a6 = some r) : EvM mX8_evenOf 10 0 0 [.ref 174, .int a1, .int a2, .int a3, .long a4, .int a6] (rZ X) v (rPI X r) := by
  refine evm_of (by decide +kernel) (fun G => Nat.le_of_ble_eq_true rfl) ?_
  show Ev mX8_evenOf 10 0 0 0 [(0, .ref 174), (1, .int a1), (2, .int a2), (3, .int a3), (4, .long a4), (6, .int a6)] [] (rZ X) v _
  unfold f_X8_evenOf at h
  refine e_aload_n dX8_evenOf_0 rfl ?_
  refine e_iconst (x := (0 : Int32)) dX8_evenOf_1 (by decide) ?_
  refine e_putI (j := 34) dX8_evenOf_2 k0_174 rc8 (by decide) wfX8_247 rfl rfl ?_
  obtain ⟨v1, ev1, h⟩ := vlet_ex h
  refine e_nameV ev1.symm ?_
  clear ev1
  refine e_iconst (x := (0 : Int32)) dX8_evenOf_5 (by decide) ?_
  refine e_istore (lv' := [(7, .int (0 : Int32)), (0, .ref 174), (1, .int a1), (2, .int a2), (3, .int a3), (4, .long a4), (6, .int a6)]) dX8_evenOf_6 (by decide) rfl ?_
  refine e_sub [1, 2, 3, 4, 5, 6, 0] rfl ?_
  exact b_X8_evenOf_8  _ v1 a1 a2 a3 a4 a6 (0 : Int32) h
def f_X8_dots_80  (q39 : rV → Int32 → Int32 → Int64 → Int32 → Int32 → Int32 → Int32 → Option (Int32 × rV)) (v : rV) (a1 : Int32) (a2 : Int32) (a3 : Int64) (a5 : Int32) (a6 : Int32) (a7 : Int32) (a8 : Int32) : Option (Int32 × rV) := vlet (a8 + (1 : Int32)) fun x7 =>
  q39 v a1 a2 a3 a5 a6 a7 x7
def f_X8_dots_72  (q39 : rV → Int32 → Int32 → Int64 → Int32 → Int32 → Int32 → Int32 → Option (Int32 × rV)) (v : rV) (a1 : Int32) (a2 : Int32) (a3 : Int64) (a5 : Int32) (a8 : Int32) (a9 : Int32) : Option (Int32 × rV) := f_X8_dots_80 q39 v a1 a2 a3 a5 a8 a9 a8
def f_X8_dots_39   : Nat → rV → Int32 → Int32 → Int64 → Int32 → Int32 → Int32 → Int32 → Option (Int32 × rV)
  | 0, _, _, _, _, _, _, _, _ => none
  | n + 1, v, a1, a2, a3, a5, a6, a7, a8 => if (9 : Int32) < a8 then
  ((f_X8_takeBack v).bind fun p5 =>
  some (a6, p5))
else
  ((f_X8_evenOf v a1 a2 a8 a3 a5).bind fun p6 =>
  if a6 = (-1 : Int32) then
  (f_X8_dots_72 (fun v a1 a2 a3 a5 a6 a7 a8 => f_X8_dots_39  n v a1 a2 a3 a5 a6 a7 a8) p6.2 a1 a2 a3 a5 a8 p6.1)
else
  (if a7 ≤ p6.1 then
  (f_X8_dots_80 (fun v a1 a2 a3 a5 a6 a7 a8 => f_X8_dots_39  n v a1 a2 a3 a5 a6 a7 a8) p6.2 a1 a2 a3 a5 a6 a7 a8)
else
  (f_X8_dots_72 (fun v a1 a2 a3 a5 a6 a7 a8 => f_X8_dots_39  n v a1 a2 a3 a5 a6 a7 a8) p6.2 a1 a2 a3 a5 a8 p6.1)))
def f_X8_dots (v : rV) (a1 : Int32) (a2 : Int32) (a3 : Int64) (a5 : Int32) : Option (Int32 × rV) := if (f_X8_isLaw v a1) = true then
  (if (f_X8_isDrop v a2) = true then
  (if (f_X8_areTicks a5) = true then
  ((f_X8_putAside v).bind fun p4 =>
  f_X8_dots_39  20000 p4 a1 a2 a3 a5 (-1 : Int32) (0 : Int32) (0 : Int32))
else
  (some ((-1 : Int32), v)))
else
  (some ((-1 : Int32), v)))
else
  (some ((-1 : Int32), v))
set_option maxRecDepth 20000 in
theorem b_X8_dots_80 {X : Nat × (Nat → Int32)} {r : Int32 × rV} {v : rV} {q39 : rV → Int32 → Int32 → Int64 → Int32 → Int32 → Int32 → Int32 → Option (Int32 × rV)} (hq39 : ∀ (v : rV) (a1 : Int32) (a2 : Int32) (a3 : Int64) (a5 : Int32) (a6 : Int32) (a7 : Int32) (a8 : Int32) , q39 v a1 a2 a3 a5 a6 a7 a8 = some r → Ev mX8_dots 11 0 0 39 [(0, .ref 174), (1, .int a1), (2, .int a2), (3, .long a3), (5, .int a5), (6, .int a6), (7, .int a7), (8, .int a8)] [] (rZ X) v (rPI X r)) {a1 : Int32} {a2 : Int32} {a3 : Int64} {a5 : Int32} {a6 : Int32} {a7 : Int32} {a8 : Int32}  (h : f_X8_dots_80 q39 v a1 a2 a3 a5 a6 a7 a8 = some r) : Ev mX8_dots 11 0 0 80 [(0, .ref 174), (1, .int a1), (2, .int a2), (3, .long a3), (5, .int a5), (6, .int a6), (7, .int a7), (8, .int a8)] [] (rZ X) v (rPI X r) := by
  unfold f_X8_dots_80 at h
  obtain ⟨x7, ex7, h⟩ := vlet_ex h
  refine e_iinc (lv' := [(8, .int x7), (0, .ref 174), (1, .int a1), (2, .int a2), (3, .long a3), (5, .int a5), (6, .int a6), (7, .int a7)]) dX8_dots_80 rfl (ex7.symm) (by decide) rfl ?_
  clear ex7
  refine e_goto (tgt := 39) dX8_dots_83 (by decide) ?_
  refine e_sub [1, 2, 3, 4, 5, 6, 7, 0] rfl ?_
  exact hq39 v a1 a2 a3 a5 a6 a7 x7 h
set_option maxRecDepth 20000 in
theorem b_X8_dots_72 {X : Nat × (Nat → Int32)} {r : Int32 × rV} {v : rV} {q39 : rV → Int32 → Int32 → Int64 → Int32 → Int32 → Int32 → Int32 → Option (Int32 × rV)} (hq39 : ∀ (v : rV) (a1 : Int32) (a2 : Int32) (a3 : Int64) (a5 : Int32) (a6 : Int32) (a7 : Int32) (a8 : Int32) , q39 v a1 a2 a3 a5 a6 a7 a8 = some r → Ev mX8_dots 11 0 0 39 [(0, .ref 174), (1, .int a1), (2, .int a2), (3, .long a3), (5, .int a5), (6, .int a6), (7, .int a7), (8, .int a8)] [] (rZ X) v (rPI X r)) {a1 : Int32} {a2 : Int32} {a3 : Int64} {a5 : Int32} {a8 : Int32} {a9 : Int32}  (h : f_X8_dots_72 q39 v a1 a2 a3 a5 a8 a9 = some r) : Ev mX8_dots 11 0 0 72 [(0, .ref 174), (1, .int a1), (2, .int a2), (3, .long a3), (5, .int a5), (8, .int a8), (9, .int a9)] [] (rZ X) v (rPI X r) := by
  unfold f_X8_dots_72 at h
  refine e_iload dX8_dots_72 rfl ?_
  refine e_istore (lv' := [(6, .int a8), (0, .ref 174), (1, .int a1), (2, .int a2), (3, .long a3), (5, .int a5), (8, .int a8), (9, .int a9)]) dX8_dots_74 (by decide) rfl ?_
  refine e_iload dX8_dots_76 rfl ?_
  refine e_istore (lv' := [(7, .int a9), (6, .int a8), (0, .ref 174), (1, .int a1), (2, .int a2), (3, .long a3), (5, .int a5), (8, .int a8), (9, .int a9)]) dX8_dots_78 (by decide) rfl ?_
  refine e_sub [2, 3, 4, 5, 6, 1, 0, 7] rfl ?_
  exact b_X8_dots_80 hq39 h
set_option maxRecDepth 20000 in
theorem b_X8_dots_39 {X : Nat × (Nat → Int32)} {r : Int32 × rV}   : ∀ (n : Nat) (v : rV) (a1 : Int32) (a2 : Int32) (a3 : Int64) (a5 : Int32) (a6 : Int32) (a7 : Int32) (a8 : Int32) , f_X8_dots_39   n v a1 a2 a3 a5 a6 a7 a8 = some r → Ev mX8_dots 11 0 0 39 [(0, .ref 174), (1, .int a1), (2, .int a2), (3, .long a3), (5, .int a5), (6, .int a6), (7, .int a7), (8, .int a8)] [] (rZ X) v (rPI X r) := by
  intro n
  induction n with
  | zero =>
    intros
    rename_i h
    cases h
  | succ n ih =>
    intro v a1 a2 a3 a5 a6 a7 a8 h
    rw [f_X8_dots_39] at h
    refine e_iload dX8_dots_39 rfl ?_
    refine e_bipush (x := (9 : Int32)) dX8_dots_41 (by decide) ?_
    refine e_icmp_gt (tgt := 86) dX8_dots_43 (by decide) (fun c10 => ?_) (fun c10 => ?_)
    · rw [if_pos c10] at h
      refine e_aload_n dX8_dots_86 rfl ?_
      obtain ⟨p5, ep5, h⟩ := Option.bind_eq_some_iff.mp h
      refine c_VV (M' := mX8_takeBack) [] dX8_dots_87 rfl wmX8_391 imX8_takeBack seX8_takeBack lkX8_takeBack k0_174 rc8 (Nat.le_of_ble_eq_true rfl) ((x_X8_takeBack  ep5).mono (by omega)) ?_
      refine e_iload dX8_dots_90 rfl ?_
      obtain rfl := Option.some.inj h
      exact e_iret dX8_dots_92 rfl rfl ⟨rfl, rfl, rfl⟩
    · rw [if_neg c10] at h
      refine e_aload_n dX8_dots_46 rfl ?_
      refine e_iload_n dX8_dots_47 rfl ?_
      refine e_iload_n dX8_dots_48 rfl ?_
      refine e_iload dX8_dots_49 rfl ?_
      refine e_lload_n dX8_dots_51 rfl ?_
      refine e_iload dX8_dots_52 rfl ?_
      obtain ⟨p6, ep6, h⟩ := Option.bind_eq_some_iff.mp h
      refine c_VI (M' := mX8_evenOf) [.int a1, .int a2, .int a8, .long a3, .int a5] dX8_dots_54 rfl wmX8_414 imX8_evenOf seX8_evenOf lkX8_evenOf k0_174 rc8 (Nat.le_of_ble_eq_true rfl) ((x_X8_evenOf  ep6).mono (by omega)) ?_
      refine e_istore (lv' := [(9, .int p6.1), (0, .ref 174), (1, .int a1), (2, .int a2), (3, .long a3), (5, .int a5), (6, .int a6), (7, .int a7), (8, .int a8)]) dX8_dots_57 (by decide) rfl ?_
      refine e_iload dX8_dots_59 rfl ?_
      refine e_iconst (x := (-1 : Int32)) dX8_dots_61 (by decide) ?_
      refine e_icmp_eq (tgt := 72) dX8_dots_62 (by decide) (fun c9 => ?_) (fun c9 => ?_)
      · rw [if_pos c9] at h
        refine e_sub [1, 2, 3, 4, 5, 8, 0] rfl ?_
        exact b_X8_dots_72 (fun v a1 a2 a3 a5 a6 a7 a8  hh => ih v a1 a2 a3 a5 a6 a7 a8  hh) h
      · rw [if_neg c9] at h
        refine e_iload dX8_dots_65 rfl ?_
        refine e_iload dX8_dots_67 rfl ?_
        refine e_icmp_ge (tgt := 80) dX8_dots_69 (by decide) (fun c8 => ?_) (fun c8 => ?_)
        · rw [if_pos c8] at h
          refine e_sub [1, 2, 3, 4, 5, 6, 7, 8] rfl ?_
          exact b_X8_dots_80 (fun v a1 a2 a3 a5 a6 a7 a8  hh => ih v a1 a2 a3 a5 a6 a7 a8  hh) h
        · rw [if_neg c8] at h
          refine e_sub [1, 2, 3, 4, 5, 8, 0] rfl ?_
          exact b_X8_dots_72 (fun v a1 a2 a3 a5 a6 a7 a8  hh => ih v a1 a2 a3 a5 a6 a7 a8  hh) h
set_option maxRecDepth 20000 in
theorem x_X8_dots {X : Nat × (Nat → Int32)} {v : rV} {r : Int32 × rV} {a1 : Int32} {a2 : Int32} {a3 : Int64} {a5 : Int32}  (h : f_X8_dots v a1 a2 a3 a5 = some r) : EvM mX8_dots 11 0 0 [.ref 174, .int a1, .int a2, .long a3, .int a5] (rZ X) v (rPI X r) := by
  refine evm_of (by decide +kernel) (fun G => Nat.le_of_ble_eq_true rfl) ?_
  show Ev mX8_dots 11 0 0 0 [(0, .ref 174), (1, .int a1), (2, .int a2), (3, .long a3), (5, .int a5)] [] (rZ X) v _
  unfold f_X8_dots at h
  refine e_aload_n dX8_dots_0 rfl ?_
  refine e_iload_n dX8_dots_1 rfl ?_
  refine c_VZ (M' := mX8_isLaw) [.int a1] dX8_dots_2 rfl wmX8_272 imX8_isLaw seX8_isLaw lkX8_isLaw k0_174 rc8 (Nat.le_of_ble_eq_true rfl) ((x_X8_isLaw ).mono (by omega)) ?_
  refine e_if_eq (tgt := 24) dX8_dots_5 (by decide) (fun c13 => ?_) (fun c13 => ?_)
  · rw [if_neg (bI_n c13)] at h
    refine e_iconst (x := (-1 : Int32)) dX8_dots_24 (by decide) ?_
    obtain rfl := Option.some.inj h
    exact e_iret dX8_dots_25 rfl rfl ⟨rfl, rfl, rfl⟩
  · rw [if_pos (bI_p c13)] at h
    refine e_aload_n dX8_dots_8 rfl ?_
    refine e_iload_n dX8_dots_9 rfl ?_
    refine c_VZ (M' := mX8_isDrop) [.int a2] dX8_dots_10 rfl wmX8_244 imX8_isDrop seX8_isDrop lkX8_isDrop k0_174 rc8 (Nat.le_of_ble_eq_true rfl) ((x_X8_isDrop ).mono (by omega)) ?_
    refine e_if_eq (tgt := 24) dX8_dots_13 (by decide) (fun c12 => ?_) (fun c12 => ?_)
    · rw [if_neg (bI_n c12)] at h
      refine e_iconst (x := (-1 : Int32)) dX8_dots_24 (by decide) ?_
      obtain rfl := Option.some.inj h
      exact e_iret dX8_dots_25 rfl rfl ⟨rfl, rfl, rfl⟩
    · rw [if_pos (bI_p c12)] at h
      refine e_iload dX8_dots_16 rfl ?_
      refine c_SZ (M' := mX8_areTicks) [.int a5] dX8_dots_18 rfl wmX8_381 stX8_areTicks lkX8_areTicks (Nat.le_of_ble_eq_true rfl) ((x_X8_areTicks ).mono (by omega)) ?_
      refine e_if_ne (tgt := 26) dX8_dots_21 (by decide) (fun c11 => ?_) (fun c11 => ?_)
      · rw [if_pos (bI_p c11)] at h
        refine e_aload_n dX8_dots_26 rfl ?_
        obtain ⟨p4, ep4, h⟩ := Option.bind_eq_some_iff.mp h
        refine c_VV (M' := mX8_putAside) [] dX8_dots_27 rfl wmX8_384 imX8_putAside seX8_putAside lkX8_putAside k0_174 rc8 (Nat.le_of_ble_eq_true rfl) ((x_X8_putAside  ep4).mono (by omega)) ?_
        refine e_iconst (x := (-1 : Int32)) dX8_dots_30 (by decide) ?_
        refine e_istore (lv' := [(6, .int (-1 : Int32)), (0, .ref 174), (1, .int a1), (2, .int a2), (3, .long a3), (5, .int a5)]) dX8_dots_31 (by decide) rfl ?_
        refine e_iconst (x := (0 : Int32)) dX8_dots_33 (by decide) ?_
        refine e_istore (lv' := [(7, .int (0 : Int32)), (6, .int (-1 : Int32)), (0, .ref 174), (1, .int a1), (2, .int a2), (3, .long a3), (5, .int a5)]) dX8_dots_34 (by decide) rfl ?_
        refine e_iconst (x := (0 : Int32)) dX8_dots_36 (by decide) ?_
        refine e_istore (lv' := [(8, .int (0 : Int32)), (7, .int (0 : Int32)), (6, .int (-1 : Int32)), (0, .ref 174), (1, .int a1), (2, .int a2), (3, .long a3), (5, .int a5)]) dX8_dots_37 (by decide) rfl ?_
        refine e_sub [3, 4, 5, 6, 7, 2, 1, 0] rfl ?_
        exact b_X8_dots_39  _ p4 a1 a2 a3 a5 (-1 : Int32) (0 : Int32) (0 : Int32) h
      · rw [if_neg (bI_n c11)] at h
        refine e_iconst (x := (-1 : Int32)) dX8_dots_24 (by decide) ?_
        obtain rfl := Option.some.inj h
        exact e_iret dX8_dots_25 rfl rfl ⟨rfl, rfl, rfl⟩
def f_X8_drop_24   (v : rV) (a1 : Int32) (a2 : Int32) (s0 : Int32) : Option (Int32 × rV) := vlet (rI v 174 0 s0) fun v2 =>
  if (v2.1 174 0) = (1 : Int32) then
  (some ((0 : Int32), v2))
else
  (if ¬ (((12 : Int32) * a1) + a2) < 0 ∧ (((12 : Int32) * a1) + a2).toNatClampNeg < 156 then
  (some (v2.1 185 ((((12 : Int32) * a1) + a2).toNatClampNeg), v2))
else none)
def f_X8_drop_23   (v : rV) (a1 : Int32) (a2 : Int32) : Option (Int32 × rV) := f_X8_drop_24  v a1 a2 (1 : Int32)
def f_X8_drop (v : rV) (a1 : Int32) (a2 : Int32) : Option (Int32 × rV) := if (f_X8_isDrop v a1) = true then
  (if (f_X8_in a2 (0 : Int32) (11 : Int32)) = true then
  (f_X8_drop_24  v a1 a2 (0 : Int32))
else
  (f_X8_drop_23  v a1 a2))
else
  (f_X8_drop_23  v a1 a2)
set_option maxRecDepth 20000 in
theorem b_X8_drop_24 {X : Nat × (Nat → Int32)} {r : Int32 × rV} {v : rV}   {a1 : Int32} {a2 : Int32} {s0 : Int32}  (h : f_X8_drop_24  v a1 a2 s0 = some r) : Ev mX8_drop 3 0 0 24 [(0, .ref 174), (1, .int a1), (2, .int a2)] [.int s0, .ref 174] (rZ X) v (rPI X r) := by
  unfold f_X8_drop_24 at h
  refine e_putI (j := 0) dX8_drop_24 k0_174 rc8 (by decide) wfX8_80 rfl rfl ?_
  obtain ⟨v2, ev2, h⟩ := vlet_ex h
  refine e_nameV ev2.symm ?_
  clear ev2
  refine e_aload_n dX8_drop_27 rfl ?_
  refine e_get (w := .int (v2.1 174 0)) (j := 0) dX8_drop_28 k0_174 rc8 (by decide) wfX8_80 rfl ?_
  refine e_iconst (x := (1 : Int32)) dX8_drop_31 (by decide) ?_
  refine e_icmp_ne (tgt := 39) dX8_drop_32 (by decide) (fun c4 => ?_) (fun c4 => ?_)
  · rw [if_neg c4] at h
    refine e_aload_n dX8_drop_39 rfl ?_
    refine e_get (w := .ref 185) (j := 19) dX8_drop_40 k0_174 rc8 (by decide) wfX8_40 (g0_174_19) ?_
    refine e_bipush (x := (12 : Int32)) dX8_drop_43 (by decide) ?_
    refine e_iload_n dX8_drop_45 rfl ?_
    refine e_imul dX8_drop_46 ?_
    refine e_iload_n dX8_drop_47 rfl ?_
    refine e_iadd dX8_drop_48 ?_
    obtain ⟨c3, h⟩ := grd h
    refine e_ialdJ dX8_drop_49 k0_185 rfl c3.2 c3.1 ?_
    obtain rfl := Option.some.inj h
    exact e_iret dX8_drop_50 rfl rfl ⟨rfl, rfl, rfl⟩
  · rw [if_pos c4] at h
    refine e_iconst (x := (0 : Int32)) dX8_drop_35 (by decide) ?_
    refine e_goto (tgt := 50) dX8_drop_36 (by decide) ?_
    obtain rfl := Option.some.inj h
    exact e_iret dX8_drop_50 rfl rfl ⟨rfl, rfl, rfl⟩
set_option maxRecDepth 20000 in
theorem b_X8_drop_23 {X : Nat × (Nat → Int32)} {r : Int32 × rV} {v : rV}   {a1 : Int32} {a2 : Int32}  (h : f_X8_drop_23  v a1 a2 = some r) : Ev mX8_drop 3 0 0 23 [(0, .ref 174), (1, .int a1), (2, .int a2)] [.ref 174] (rZ X) v (rPI X r) := by
  unfold f_X8_drop_23 at h
  refine e_iconst (x := (1 : Int32)) dX8_drop_23 (by decide) ?_
  exact b_X8_drop_24  h
set_option maxRecDepth 20000 in
theorem x_X8_drop {X : Nat × (Nat → Int32)} {v : rV} {r : Int32 × rV} {a1 : Int32} {a2 : Int32}  (h : f_X8_drop v a1 a2 = some r) : EvM mX8_drop 3 0 0 [.ref 174, .int a1, .int a2] (rZ X) v (rPI X r) := by
  refine evm_of (by decide +kernel) (fun G => Nat.le_of_ble_eq_true rfl) ?_
  show Ev mX8_drop 3 0 0 0 [(0, .ref 174), (1, .int a1), (2, .int a2)] [] (rZ X) v _
  unfold f_X8_drop at h
  refine e_aload_n dX8_drop_0 rfl ?_
  refine e_aload_n dX8_drop_1 rfl ?_
  refine e_iload_n dX8_drop_2 rfl ?_
  refine c_VZ (M' := mX8_isDrop) [.int a1] dX8_drop_3 rfl wmX8_244 imX8_isDrop seX8_isDrop lkX8_isDrop k0_174 rc8 (Nat.le_of_ble_eq_true rfl) ((x_X8_isDrop ).mono (by omega)) ?_
  refine e_if_eq (tgt := 23) dX8_drop_6 (by decide) (fun c7 => ?_) (fun c7 => ?_)
  · rw [if_neg (bI_n c7)] at h
    exact b_X8_drop_23  h
  · rw [if_pos (bI_p c7)] at h
    refine e_iload_n dX8_drop_9 rfl ?_
    refine e_iconst (x := (0 : Int32)) dX8_drop_10 (by decide) ?_
    refine e_bipush (x := (11 : Int32)) dX8_drop_11 (by decide) ?_
    refine c_SZ (M' := mX8_in) [.int a2, .int (0 : Int32), .int (11 : Int32)] dX8_drop_13 rfl wmX8_216 stX8_in lkX8_in (Nat.le_of_ble_eq_true rfl) ((x_X8_in ).mono (by omega)) ?_
    refine e_if_eq (tgt := 23) dX8_drop_16 (by decide) (fun c6 => ?_) (fun c6 => ?_)
    · rw [if_neg (bI_n c6)] at h
      exact b_X8_drop_23  h
    · rw [if_pos (bI_p c6)] at h
      refine e_iconst (x := (0 : Int32)) dX8_drop_19 (by decide) ?_
      refine e_goto (tgt := 24) dX8_drop_20 (by decide) ?_
      exact b_X8_drop_24  h
def f_X8_dropLetter (a0 : Int32) : Int32 := if a0 = (120 : Int32) then
  ((0 : Int32))
else
  (if a0 = (107 : Int32) then
  ((1 : Int32))
else
  (if a0 = (119 : Int32) then
  ((2 : Int32))
else
  (if a0 = (103 : Int32) then
  ((3 : Int32))
else
  (if a0 = (108 : Int32) then
  ((4 : Int32))
else
  (if a0 = (109 : Int32) then
  ((5 : Int32))
else
  (if a0 = (97 : Int32) then
  ((6 : Int32))
else
  (if a0 = (112 : Int32) then
  ((7 : Int32))
else
  (if a0 = (99 : Int32) then
  ((8 : Int32))
else
  (if a0 = (101 : Int32) then
  ((9 : Int32))
else
  (if a0 = (106 : Int32) then
  ((10 : Int32))
else
  (if a0 = (115 : Int32) then
  ((11 : Int32))
else
  ((-1 : Int32)))))))))))))
set_option maxRecDepth 20000 in
theorem x_X8_dropLetter {X : Nat × (Nat → Int32)} {v : rV} {a0 : Int32}  : EvM mX8_dropLetter 1 0 0 [.int a0] (rZ X) v (rPI X ((f_X8_dropLetter a0), v)) := by
  refine evm_of (by decide +kernel) (fun G => Nat.le_of_ble_eq_true rfl) ?_
  show Ev mX8_dropLetter 1 0 0 0 [(0, .int a0)] [] (rZ X) v _
  generalize h : f_X8_dropLetter a0 = r
  unfold f_X8_dropLetter at h
  refine e_iload_n dX8_dropLetter_0 rfl ?_
  refine e_bipush (x := (120 : Int32)) dX8_dropLetter_1 (by decide) ?_
  refine e_icmp_ne (tgt := 10) dX8_dropLetter_3 (by decide) (fun c12 => ?_) (fun c12 => ?_)
  · rw [if_neg c12] at h
    refine e_iload_n dX8_dropLetter_10 rfl ?_
    refine e_bipush (x := (107 : Int32)) dX8_dropLetter_11 (by decide) ?_
    refine e_icmp_ne (tgt := 20) dX8_dropLetter_13 (by decide) (fun c11 => ?_) (fun c11 => ?_)
    · rw [if_neg c11] at h
      refine e_iload_n dX8_dropLetter_20 rfl ?_
      refine e_bipush (x := (119 : Int32)) dX8_dropLetter_21 (by decide) ?_
      refine e_icmp_ne (tgt := 30) dX8_dropLetter_23 (by decide) (fun c10 => ?_) (fun c10 => ?_)
      · rw [if_neg c10] at h
        refine e_iload_n dX8_dropLetter_30 rfl ?_
        refine e_bipush (x := (103 : Int32)) dX8_dropLetter_31 (by decide) ?_
        refine e_icmp_ne (tgt := 40) dX8_dropLetter_33 (by decide) (fun c9 => ?_) (fun c9 => ?_)
        · rw [if_neg c9] at h
          refine e_iload_n dX8_dropLetter_40 rfl ?_
          refine e_bipush (x := (108 : Int32)) dX8_dropLetter_41 (by decide) ?_
          refine e_icmp_ne (tgt := 50) dX8_dropLetter_43 (by decide) (fun c8 => ?_) (fun c8 => ?_)
          · rw [if_neg c8] at h
            refine e_iload_n dX8_dropLetter_50 rfl ?_
            refine e_bipush (x := (109 : Int32)) dX8_dropLetter_51 (by decide) ?_
            refine e_icmp_ne (tgt := 60) dX8_dropLetter_53 (by decide) (fun c7 => ?_) (fun c7 => ?_)
            · rw [if_neg c7] at h
              refine e_iload_n dX8_dropLetter_60 rfl ?_
              refine e_bipush (x := (97 : Int32)) dX8_dropLetter_61 (by decide) ?_
              refine e_icmp_ne (tgt := 71) dX8_dropLetter_63 (by decide) (fun c6 => ?_) (fun c6 => ?_)
              · rw [if_neg c6] at h
                refine e_iload_n dX8_dropLetter_71 rfl ?_
                refine e_bipush (x := (112 : Int32)) dX8_dropLetter_72 (by decide) ?_
                refine e_icmp_ne (tgt := 82) dX8_dropLetter_74 (by decide) (fun c5 => ?_) (fun c5 => ?_)
                · rw [if_neg c5] at h
                  refine e_iload_n dX8_dropLetter_82 rfl ?_
                  refine e_bipush (x := (99 : Int32)) dX8_dropLetter_83 (by decide) ?_
                  refine e_icmp_ne (tgt := 93) dX8_dropLetter_85 (by decide) (fun c4 => ?_) (fun c4 => ?_)
                  · rw [if_neg c4] at h
                    refine e_iload_n dX8_dropLetter_93 rfl ?_
                    refine e_bipush (x := (101 : Int32)) dX8_dropLetter_94 (by decide) ?_
                    refine e_icmp_ne (tgt := 104) dX8_dropLetter_96 (by decide) (fun c3 => ?_) (fun c3 => ?_)
                    · rw [if_neg c3] at h
                      refine e_iload_n dX8_dropLetter_104 rfl ?_
                      refine e_bipush (x := (106 : Int32)) dX8_dropLetter_105 (by decide) ?_
                      refine e_icmp_ne (tgt := 115) dX8_dropLetter_107 (by decide) (fun c2 => ?_) (fun c2 => ?_)
                      · rw [if_neg c2] at h
                        refine e_iload_n dX8_dropLetter_115 rfl ?_
                        refine e_bipush (x := (115 : Int32)) dX8_dropLetter_116 (by decide) ?_
                        refine e_icmp_ne (tgt := 126) dX8_dropLetter_118 (by decide) (fun c1 => ?_) (fun c1 => ?_)
                        · rw [if_neg c1] at h
                          refine e_iconst (x := (-1 : Int32)) dX8_dropLetter_126 (by decide) ?_
                          subst h
                          exact e_iret dX8_dropLetter_127 rfl rfl ⟨rfl, rfl, rfl⟩
                        · rw [if_pos c1] at h
                          refine e_bipush (x := (11 : Int32)) dX8_dropLetter_121 (by decide) ?_
                          refine e_goto (tgt := 127) dX8_dropLetter_123 (by decide) ?_
                          subst h
                          exact e_iret dX8_dropLetter_127 rfl rfl ⟨rfl, rfl, rfl⟩
                      · rw [if_pos c2] at h
                        refine e_bipush (x := (10 : Int32)) dX8_dropLetter_110 (by decide) ?_
                        refine e_goto (tgt := 127) dX8_dropLetter_112 (by decide) ?_
                        subst h
                        exact e_iret dX8_dropLetter_127 rfl rfl ⟨rfl, rfl, rfl⟩
                    · rw [if_pos c3] at h
                      refine e_bipush (x := (9 : Int32)) dX8_dropLetter_99 (by decide) ?_
                      refine e_goto (tgt := 127) dX8_dropLetter_101 (by decide) ?_
                      subst h
                      exact e_iret dX8_dropLetter_127 rfl rfl ⟨rfl, rfl, rfl⟩
                  · rw [if_pos c4] at h
                    refine e_bipush (x := (8 : Int32)) dX8_dropLetter_88 (by decide) ?_
                    refine e_goto (tgt := 127) dX8_dropLetter_90 (by decide) ?_
                    subst h
                    exact e_iret dX8_dropLetter_127 rfl rfl ⟨rfl, rfl, rfl⟩
                · rw [if_pos c5] at h
                  refine e_bipush (x := (7 : Int32)) dX8_dropLetter_77 (by decide) ?_
                  refine e_goto (tgt := 127) dX8_dropLetter_79 (by decide) ?_
                  subst h
                  exact e_iret dX8_dropLetter_127 rfl rfl ⟨rfl, rfl, rfl⟩
              · rw [if_pos c6] at h
                refine e_bipush (x := (6 : Int32)) dX8_dropLetter_66 (by decide) ?_
                refine e_goto (tgt := 127) dX8_dropLetter_68 (by decide) ?_
                subst h
                exact e_iret dX8_dropLetter_127 rfl rfl ⟨rfl, rfl, rfl⟩
            · rw [if_pos c7] at h
              refine e_iconst (x := (5 : Int32)) dX8_dropLetter_56 (by decide) ?_
              refine e_goto (tgt := 127) dX8_dropLetter_57 (by decide) ?_
              subst h
              exact e_iret dX8_dropLetter_127 rfl rfl ⟨rfl, rfl, rfl⟩
          · rw [if_pos c8] at h
            refine e_iconst (x := (4 : Int32)) dX8_dropLetter_46 (by decide) ?_
            refine e_goto (tgt := 127) dX8_dropLetter_47 (by decide) ?_
            subst h
            exact e_iret dX8_dropLetter_127 rfl rfl ⟨rfl, rfl, rfl⟩
        · rw [if_pos c9] at h
          refine e_iconst (x := (3 : Int32)) dX8_dropLetter_36 (by decide) ?_
          refine e_goto (tgt := 127) dX8_dropLetter_37 (by decide) ?_
          subst h
          exact e_iret dX8_dropLetter_127 rfl rfl ⟨rfl, rfl, rfl⟩
      · rw [if_pos c10] at h
        refine e_iconst (x := (2 : Int32)) dX8_dropLetter_26 (by decide) ?_
        refine e_goto (tgt := 127) dX8_dropLetter_27 (by decide) ?_
        subst h
        exact e_iret dX8_dropLetter_127 rfl rfl ⟨rfl, rfl, rfl⟩
    · rw [if_pos c11] at h
      refine e_iconst (x := (1 : Int32)) dX8_dropLetter_16 (by decide) ?_
      refine e_goto (tgt := 127) dX8_dropLetter_17 (by decide) ?_
      subst h
      exact e_iret dX8_dropLetter_127 rfl rfl ⟨rfl, rfl, rfl⟩
  · rw [if_pos c12] at h
    refine e_iconst (x := (0 : Int32)) dX8_dropLetter_6 (by decide) ?_
    refine e_goto (tgt := 127) dX8_dropLetter_7 (by decide) ?_
    subst h
    exact e_iret dX8_dropLetter_127 rfl rfl ⟨rfl, rfl, rfl⟩
def f_X8_dry_62   (v : rV) (s0 : Int32) : Option (Int32 × rV) := (f_X8_takeBack v).bind fun p7 =>
  some (s0, p7)
def f_X8_dry (v : rV) (a1 : Int32) (a2 : Int32) (a3 : Int64) : Option (Int32 × rV) := if (f_X8_isLaw v a1) = true then
  (if (f_X8_isDrop v a2) = true then
  ((f_X8_putAside v).bind fun p3 =>
  (f_X8_gather p3 ((1 : Int32) <<< (a2 &&& 31))).bind fun p4 =>
  (f_X8_begin p4.2 a1 a3).bind fun p5 =>
  (f_X8_run p5 (200 : Int32)).bind fun p6 =>
  if (p6.2.1 187 288) = 0 then
  (f_X8_dry_62  p6.2 p6.1)
else
  (f_X8_dry_62  p6.2 (-1 : Int32)))
else
  (some ((-1 : Int32), v)))
else
  (some ((-1 : Int32), v))
set_option maxRecDepth 20000 in
theorem b_X8_dry_62 {X : Nat × (Nat → Int32)} {r : Int32 × rV} {v : rV}   {s0 : Int32}  (h : f_X8_dry_62  v s0 = some r) : Ev mX8_dry 9 0 0 62 [(0, .ref 174)] [.int s0] (rZ X) v (rPI X r) := by
  unfold f_X8_dry_62 at h
  refine e_istore (lv' := [(6, .int s0), (0, .ref 174)]) dX8_dry_62 (by decide) rfl ?_
  refine e_aload_n dX8_dry_64 rfl ?_
  obtain ⟨p7, ep7, h⟩ := Option.bind_eq_some_iff.mp h
  refine c_VV (M' := mX8_takeBack) [] dX8_dry_65 rfl wmX8_391 imX8_takeBack seX8_takeBack lkX8_takeBack k0_174 rc8 (Nat.le_of_ble_eq_true rfl) ((x_X8_takeBack  ep7).mono (by omega)) ?_
  refine e_iload dX8_dry_68 rfl ?_
  obtain rfl := Option.some.inj h
  exact e_iret dX8_dry_70 rfl rfl ⟨rfl, rfl, rfl⟩
set_option maxRecDepth 20000 in
theorem x_X8_dry {X : Nat × (Nat → Int32)} {v : rV} {r : Int32 × rV} {a1 : Int32} {a2 : Int32} {a3 : Int64}  (h : f_X8_dry v a1 a2 a3 = some r) : EvM mX8_dry 9 0 0 [.ref 174, .int a1, .int a2, .long a3] (rZ X) v (rPI X r) := by
  refine evm_of (by decide +kernel) (fun G => Nat.le_of_ble_eq_true rfl) ?_
  show Ev mX8_dry 9 0 0 0 [(0, .ref 174), (1, .int a1), (2, .int a2), (3, .long a3)] [] (rZ X) v _
  unfold f_X8_dry at h
  refine e_aload_n dX8_dry_0 rfl ?_
  refine e_iload_n dX8_dry_1 rfl ?_
  refine c_VZ (M' := mX8_isLaw) [.int a1] dX8_dry_2 rfl wmX8_272 imX8_isLaw seX8_isLaw lkX8_isLaw k0_174 rc8 (Nat.le_of_ble_eq_true rfl) ((x_X8_isLaw ).mono (by omega)) ?_
  refine e_if_eq (tgt := 16) dX8_dry_5 (by decide) (fun c10 => ?_) (fun c10 => ?_)
  · rw [if_neg (bI_n c10)] at h
    refine e_iconst (x := (-1 : Int32)) dX8_dry_16 (by decide) ?_
    obtain rfl := Option.some.inj h
    exact e_iret dX8_dry_17 rfl rfl ⟨rfl, rfl, rfl⟩
  · rw [if_pos (bI_p c10)] at h
    refine e_aload_n dX8_dry_8 rfl ?_
    refine e_iload_n dX8_dry_9 rfl ?_
    refine c_VZ (M' := mX8_isDrop) [.int a2] dX8_dry_10 rfl wmX8_244 imX8_isDrop seX8_isDrop lkX8_isDrop k0_174 rc8 (Nat.le_of_ble_eq_true rfl) ((x_X8_isDrop ).mono (by omega)) ?_
    refine e_if_ne (tgt := 18) dX8_dry_13 (by decide) (fun c9 => ?_) (fun c9 => ?_)
    · rw [if_pos (bI_p c9)] at h
      refine e_aload_n dX8_dry_18 rfl ?_
      obtain ⟨p3, ep3, h⟩ := Option.bind_eq_some_iff.mp h
      refine c_VV (M' := mX8_putAside) [] dX8_dry_19 rfl wmX8_384 imX8_putAside seX8_putAside lkX8_putAside k0_174 rc8 (Nat.le_of_ble_eq_true rfl) ((x_X8_putAside  ep3).mono (by omega)) ?_
      refine e_aload_n dX8_dry_22 rfl ?_
      refine e_iconst (x := (1 : Int32)) dX8_dry_23 (by decide) ?_
      refine e_iload_n dX8_dry_24 rfl ?_
      refine e_ishl dX8_dry_25 ?_
      obtain ⟨p4, ep4, h⟩ := Option.bind_eq_some_iff.mp h
      refine c_VZ (M' := mX8_gather) [.int ((1 : Int32) <<< (a2 &&& 31))] dX8_dry_26 rfl wmX8_278 imX8_gather seX8_gather lkX8_gather k0_174 rc8 (Nat.le_of_ble_eq_true rfl) ((x_X8_gather  ep4).mono (by omega)) ?_
      refine e_pop dX8_dry_29 rfl ?_
      refine e_aload_n dX8_dry_30 rfl ?_
      refine e_iload_n dX8_dry_31 rfl ?_
      refine e_lload_n dX8_dry_32 rfl ?_
      obtain ⟨p5, ep5, h⟩ := Option.bind_eq_some_iff.mp h
      refine c_VV (M' := mX8_begin) [.int a1, .long a3] dX8_dry_33 rfl wmX8_281 imX8_begin seX8_begin lkX8_begin k0_174 rc8 (Nat.le_of_ble_eq_true rfl) ((x_X8_begin  ep5).mono (by omega)) ?_
      refine e_aload_n dX8_dry_36 rfl ?_
      refine e_sipush (x := (200 : Int32)) dX8_dry_37 (by decide) ?_
      obtain ⟨p6, ep6, h⟩ := Option.bind_eq_some_iff.mp h
      refine c_VI (M' := mX8_run) [.int (200 : Int32)] dX8_dry_40 rfl wmX8_350 imX8_run seX8_run lkX8_run k0_174 rc8 (Nat.le_of_ble_eq_true rfl) ((x_X8_run  ep6).mono (by omega)) ?_
      refine e_istore (lv' := [(5, .int p6.1), (0, .ref 174), (1, .int a1), (2, .int a2), (3, .long a3)]) dX8_dry_43 (by decide) rfl ?_
      refine e_aload_n dX8_dry_45 rfl ?_
      refine e_get (w := .ref 187) (j := 24) dX8_dry_46 k0_174 rc8 (by decide) wfX8_50 (g0_174_24) ?_
      refine e_sipush (x := (288 : Int32)) dX8_dry_49 (by decide) ?_
      refine e_ialdJ dX8_dry_52 k0_187 (j := 288) (by decide) (by decide) (by decide) ?_
      refine e_if_ne (tgt := 61) dX8_dry_53 (by decide) (fun c8 => ?_) (fun c8 => ?_)
      · rw [if_neg c8] at h
        refine e_iconst (x := (-1 : Int32)) dX8_dry_61 (by decide) ?_
        refine e_sub [1] rfl ?_
        exact b_X8_dry_62  h
      · rw [if_pos c8] at h
        refine e_iload dX8_dry_56 rfl ?_
        refine e_goto (tgt := 62) dX8_dry_58 (by decide) ?_
        refine e_sub [1] rfl ?_
        exact b_X8_dry_62  h
    · rw [if_neg (bI_n c9)] at h
      refine e_iconst (x := (-1 : Int32)) dX8_dry_16 (by decide) ?_
      obtain rfl := Option.some.inj h
      exact e_iret dX8_dry_17 rfl rfl ⟨rfl, rfl, rfl⟩
def f_X8_end (v : rV) (a1 : Int32) : Option (Bool × rV) := if a1 < 0 then
  (some (false, v))
else
  (if a1 ≤ (v.1 174 2) then
  (vlet (rI v 174 2 a1) fun v1 =>
  some (true, v1))
else
  (some (false, v)))
set_option maxRecDepth 20000 in
theorem x_X8_end {X : Nat × (Nat → Int32)} {v : rV} {r : Bool × rV} {a1 : Int32}  (h : f_X8_end v a1 = some r) : EvM mX8_end 1 0 0 [.ref 174, .int a1] (rZ X) v (rPZ X r) := by
  refine evm_of (by decide +kernel) (fun G => Nat.le_of_ble_eq_true rfl) ?_
  show Ev mX8_end 1 0 0 0 [(0, .ref 174), (1, .int a1)] [] (rZ X) v _
  unfold f_X8_end at h
  refine e_iload_n dX8_end_0 rfl ?_
  refine e_if_lt (tgt := 12) dX8_end_1 (by decide) (fun c3 => ?_) (fun c3 => ?_)
  · rw [if_pos c3] at h
    refine e_iconst (x := (0 : Int32)) dX8_end_12 (by decide) ?_
    obtain rfl := Option.some.inj h
    exact e_iret dX8_end_13 rfl rfl ⟨rfl, rfl, rfl⟩
  · rw [if_neg c3] at h
    refine e_iload_n dX8_end_4 rfl ?_
    refine e_aload_n dX8_end_5 rfl ?_
    refine e_get (w := .int (v.1 174 2)) (j := 2) dX8_end_6 k0_174 rc8 (by decide) wfX8_87 rfl ?_
    refine e_icmp_le (tgt := 14) dX8_end_9 (by decide) (fun c2 => ?_) (fun c2 => ?_)
    · rw [if_pos c2] at h
      refine e_aload_n dX8_end_14 rfl ?_
      refine e_iload_n dX8_end_15 rfl ?_
      refine e_putI (j := 2) dX8_end_16 k0_174 rc8 (by decide) wfX8_87 rfl rfl ?_
      obtain ⟨v1, ev1, h⟩ := vlet_ex h
      refine e_nameV ev1.symm ?_
      clear ev1
      refine e_iconst (x := (1 : Int32)) dX8_end_19 (by decide) ?_
      obtain rfl := Option.some.inj h
      exact e_iret dX8_end_20 rfl rfl ⟨rfl, rfl, rfl⟩
    · rw [if_neg c2] at h
      refine e_iconst (x := (0 : Int32)) dX8_end_12 (by decide) ?_
      obtain rfl := Option.some.inj h
      exact e_iret dX8_end_13 rfl rfl ⟨rfl, rfl, rfl⟩
def f_X8_open (v : rV) (a1 : Int32) (a2 : Int32) : Option (rV) := vlet (rI v 174 15 a1) fun v1 =>
  if a2 = 0 ∨ a2 = 1 then vlet (rI v1 174 16 a2) fun v2 =>
  vlet (rI v2 174 3 (0 : Int32)) fun v3 =>
  vlet (rI v3 174 4 (-1 : Int32)) fun v4 =>
  vlet (rI v4 174 5 (0 : Int32)) fun v5 =>
  if ¬ a1 < 0 ∧ a1.toNatClampNeg < 9 then
  (vlet (rI v5 178 a1.toNatClampNeg (0 : Int32)) fun v7 =>
  vlet (rI v7 179 a1.toNatClampNeg (0 : Int32)) fun v8 =>
  some v8)
else none
 else none
set_option maxRecDepth 20000 in
theorem x_X8_open {X : Nat × (Nat → Int32)} {v : rV} {r : rV} {a1 : Int32} {a2 : Int32}  (h : f_X8_open v a1 a2 = some r) : EvM mX8_open 1 0 0 [.ref 174, .int a1, .int a2] (rZ X) v (rPV X r) := by
  refine evm_of (by decide +kernel) (fun G => Nat.le_of_ble_eq_true rfl) ?_
  show Ev mX8_open 1 0 0 0 [(0, .ref 174), (1, .int a1), (2, .int a2)] [] (rZ X) v _
  unfold f_X8_open at h
  refine e_aload_n dX8_open_0 rfl ?_
  refine e_iload_n dX8_open_1 rfl ?_
  refine e_putI (j := 15) dX8_open_2 k0_174 rc8 (by decide) wfX8_100 rfl rfl ?_
  obtain ⟨v1, ev1, h⟩ := vlet_ex h
  refine e_nameV ev1.symm ?_
  clear ev1
  refine e_aload_n dX8_open_5 rfl ?_
  refine e_iload_n dX8_open_6 rfl ?_
  obtain ⟨c9, h⟩ := grd h
  refine e_putZ (j := 16) dX8_open_7 k0_174 rc8 (by decide) wfX8_103 rfl rfl c9 ?_
  obtain ⟨v2, ev2, h⟩ := vlet_ex h
  refine e_nameV ev2.symm ?_
  clear ev2
  refine e_aload_n dX8_open_10 rfl ?_
  refine e_iconst (x := (0 : Int32)) dX8_open_11 (by decide) ?_
  refine e_putI (j := 3) dX8_open_12 k0_174 rc8 (by decide) wfX8_90 rfl rfl ?_
  obtain ⟨v3, ev3, h⟩ := vlet_ex h
  refine e_nameV ev3.symm ?_
  clear ev3
  refine e_aload_n dX8_open_15 rfl ?_
  refine e_iconst (x := (-1 : Int32)) dX8_open_16 (by decide) ?_
  refine e_putI (j := 4) dX8_open_17 k0_174 rc8 (by decide) wfX8_97 rfl rfl ?_
  obtain ⟨v4, ev4, h⟩ := vlet_ex h
  refine e_nameV ev4.symm ?_
  clear ev4
  refine e_aload_n dX8_open_20 rfl ?_
  refine e_iconst (x := (0 : Int32)) dX8_open_21 (by decide) ?_
  refine e_putI (j := 5) dX8_open_22 k0_174 rc8 (by decide) wfX8_107 rfl rfl ?_
  obtain ⟨v5, ev5, h⟩ := vlet_ex h
  refine e_nameV ev5.symm ?_
  clear ev5
  refine e_aload_n dX8_open_25 rfl ?_
  refine e_get (w := .ref 178) (j := 8) dX8_open_26 k0_174 rc8 (by decide) wfX8_19 (g0_174_8) ?_
  refine e_iload_n dX8_open_29 rfl ?_
  refine e_iconst (x := (0 : Int32)) dX8_open_30 (by decide) ?_
  obtain ⟨c6, h⟩ := grd h
  refine e_iastJ dX8_open_31 k0_178 rfl c6.2 c6.1 ?_
  obtain ⟨v7, ev7, h⟩ := vlet_ex h
  refine e_nameV ev7.symm ?_
  clear ev7
  refine e_aload_n dX8_open_32 rfl ?_
  refine e_get (w := .ref 179) (j := 9) dX8_open_33 k0_174 rc8 (by decide) wfX8_22 (g0_174_9) ?_
  refine e_iload_n dX8_open_36 rfl ?_
  refine e_iconst (x := (0 : Int32)) dX8_open_37 (by decide) ?_
  refine e_iastJ dX8_open_38 k0_179 rfl (c6).2 (c6).1 ?_
  obtain ⟨v8, ev8, h⟩ := vlet_ex h
  refine e_nameV ev8.symm ?_
  clear ev8
  obtain rfl := Option.some.inj h
  exact e_ret dX8_open_39 rfl ⟨rfl, rfl, rfl⟩
def f_X8_readLaw_44   (v : rV)  : Option (Int32 × rV) := (f_X8_atEnd v).bind fun p3 =>
  some (p3.1, p3.2)
def f_X8_readLaw_10   : Nat → rV → Option (Int32 × rV)
  | 0, _ => none
  | n + 1, v => if (v.1 174 4) = (-1 : Int32) then
  ((f_X8_look v).bind fun p4 =>
  if p4.1 = (59 : Int32) then
  (vlet (rI p4.2 174 3 ((p4.2.1 174 3) + (1 : Int32))) fun v5 =>
  (f_X8_clause v5).bind fun p6 =>
  f_X8_readLaw_10  n p6)
else
  (f_X8_readLaw_44  p4.2))
else
  (f_X8_readLaw_44  v)
def f_X8_readLaw (v : rV) (a1 : Int32) : Option (Int32 × rV) := (f_X8_open v a1 (0 : Int32)).bind fun p1 =>
  (f_X8_clause p1).bind fun p2 =>
  f_X8_readLaw_10  20000 p2
set_option maxRecDepth 20000 in
theorem b_X8_readLaw_44 {X : Nat × (Nat → Int32)} {r : Int32 × rV} {v : rV}     (h : f_X8_readLaw_44  v  = some r) : Ev mX8_readLaw 86 0 0 44 [(0, .ref 174)] [] (rZ X) v (rPI X r) := by
  unfold f_X8_readLaw_44 at h
  refine e_aload_n dX8_readLaw_44 rfl ?_
  obtain ⟨p3, ep3, h⟩ := Option.bind_eq_some_iff.mp h
  refine c_VI (M' := mX8_atEnd) [] dX8_readLaw_45 rfl wmX8_172 imX8_atEnd seX8_atEnd lkX8_atEnd k0_174 rc8 (Nat.le_of_ble_eq_true rfl) ((x_X8_atEnd  ep3).mono (by omega)) ?_
  obtain rfl := Option.some.inj h
  exact e_iret dX8_readLaw_48 rfl rfl ⟨rfl, rfl, rfl⟩
set_option maxRecDepth 20000 in
theorem b_X8_readLaw_10 {X : Nat × (Nat → Int32)} {r : Int32 × rV}   : ∀ (n : Nat) (v : rV)  , f_X8_readLaw_10   n v  = some r → Ev mX8_readLaw 86 0 0 10 [(0, .ref 174)] [] (rZ X) v (rPI X r) := by
  intro n
  induction n with
  | zero =>
    intros
    rename_i h
    cases h
  | succ n ih =>
    intro v h
    rw [f_X8_readLaw_10] at h
    refine e_aload_n dX8_readLaw_10 rfl ?_
    refine e_get (w := .int (v.1 174 4)) (j := 4) dX8_readLaw_11 k0_174 rc8 (by decide) wfX8_97 rfl ?_
    refine e_iconst (x := (-1 : Int32)) dX8_readLaw_14 (by decide) ?_
    refine e_icmp_ne (tgt := 44) dX8_readLaw_15 (by decide) (fun c8 => ?_) (fun c8 => ?_)
    · rw [if_neg c8] at h
      exact b_X8_readLaw_44  h
    · rw [if_pos c8] at h
      refine e_aload_n dX8_readLaw_18 rfl ?_
      obtain ⟨p4, ep4, h⟩ := Option.bind_eq_some_iff.mp h
      refine c_VI (M' := mX8_look) [] dX8_readLaw_19 rfl wmX8_113 imX8_look seX8_look lkX8_look k0_174 rc8 (Nat.le_of_ble_eq_true rfl) ((x_X8_look  ep4).mono (by omega)) ?_
      refine e_bipush (x := (59 : Int32)) dX8_readLaw_22 (by decide) ?_
      refine e_icmp_ne (tgt := 44) dX8_readLaw_24 (by decide) (fun c7 => ?_) (fun c7 => ?_)
      · rw [if_neg c7] at h
        exact b_X8_readLaw_44  h
      · rw [if_pos c7] at h
        refine e_aload_n dX8_readLaw_27 rfl ?_
        refine e_dup dX8_readLaw_28 rfl ?_
        refine e_get (w := .int (p4.2.1 174 3)) (j := 3) dX8_readLaw_29 k0_174 rc8 (by decide) wfX8_90 rfl ?_
        refine e_iconst (x := (1 : Int32)) dX8_readLaw_32 (by decide) ?_
        refine e_iadd dX8_readLaw_33 ?_
        refine e_putI (j := 3) dX8_readLaw_34 k0_174 rc8 (by decide) wfX8_90 rfl rfl ?_
        obtain ⟨v5, ev5, h⟩ := vlet_ex h
        refine e_nameV ev5.symm ?_
        clear ev5
        refine e_aload_n dX8_readLaw_37 rfl ?_
        obtain ⟨p6, ep6, h⟩ := Option.bind_eq_some_iff.mp h
        refine c_VV (M' := mX8_clause) [] dX8_readLaw_38 rfl wmX8_169 imX8_clause seX8_clause lkX8_clause k0_174 rc8 (Nat.le_of_ble_eq_true rfl) ((x_X8_clause  ep6).mono (by omega)) ?_
        refine e_goto (tgt := 10) dX8_readLaw_41 (by decide) ?_
        exact ih p6 h
set_option maxRecDepth 20000 in
theorem x_X8_readLaw {X : Nat × (Nat → Int32)} {v : rV} {r : Int32 × rV} {a1 : Int32}  (h : f_X8_readLaw v a1 = some r) : EvM mX8_readLaw 86 0 0 [.ref 174, .int a1] (rZ X) v (rPI X r) := by
  refine evm_of (by decide +kernel) (fun G => Nat.le_of_ble_eq_true rfl) ?_
  show Ev mX8_readLaw 86 0 0 0 [(0, .ref 174), (1, .int a1)] [] (rZ X) v _
  unfold f_X8_readLaw at h
  refine e_aload_n dX8_readLaw_0 rfl ?_
  refine e_iload_n dX8_readLaw_1 rfl ?_
  refine e_iconst (x := (0 : Int32)) dX8_readLaw_2 (by decide) ?_
  obtain ⟨p1, ep1, h⟩ := Option.bind_eq_some_iff.mp h
  refine c_VV (M' := mX8_open) [.int a1, .int (0 : Int32)] dX8_readLaw_3 rfl wmX8_165 imX8_open seX8_open lkX8_open k0_174 rc8 (Nat.le_of_ble_eq_true rfl) ((x_X8_open  ep1).mono (by omega)) ?_
  refine e_aload_n dX8_readLaw_6 rfl ?_
  obtain ⟨p2, ep2, h⟩ := Option.bind_eq_some_iff.mp h
  refine c_VV (M' := mX8_clause) [] dX8_readLaw_7 rfl wmX8_169 imX8_clause seX8_clause lkX8_clause k0_174 rc8 (Nat.le_of_ble_eq_true rfl) ((x_X8_clause  ep2).mono (by omega)) ?_
  refine e_sub [0] rfl ?_
  exact b_X8_readLaw_10  _ p2 h
def f_X8_readWant (v : rV) (a1 : Int32) : Option (Int32 × rV) := (f_X8_open v a1 (1 : Int32)).bind fun p1 =>
  (f_X8_condition (f_X8_unit 10) p1).bind fun p2 =>
  (f_X8_atEnd p2).bind fun p3 =>
  some (p3.1, p3.2)
set_option maxRecDepth 20000 in
theorem x_X8_readWant {X : Nat × (Nat → Int32)} {v : rV} {r : Int32 × rV} {a1 : Int32}  (h : f_X8_readWant v a1 = some r) : EvM mX8_readWant 85 0 0 [.ref 174, .int a1] (rZ X) v (rPI X r) := by
  refine evm_of (by decide +kernel) (fun G => Nat.le_of_ble_eq_true rfl) ?_
  show Ev mX8_readWant 85 0 0 0 [(0, .ref 174), (1, .int a1)] [] (rZ X) v _
  unfold f_X8_readWant at h
  refine e_aload_n dX8_readWant_0 rfl ?_
  refine e_iload_n dX8_readWant_1 rfl ?_
  refine e_iconst (x := (1 : Int32)) dX8_readWant_2 (by decide) ?_
  obtain ⟨p1, ep1, h⟩ := Option.bind_eq_some_iff.mp h
  refine c_VV (M' := mX8_open) [.int a1, .int (1 : Int32)] dX8_readWant_3 rfl wmX8_165 imX8_open seX8_open lkX8_open k0_174 rc8 (Nat.le_of_ble_eq_true rfl) ((x_X8_open  ep1).mono (by omega)) ?_
  refine e_aload_n dX8_readWant_6 rfl ?_
  obtain ⟨p2, ep2, h⟩ := Option.bind_eq_some_iff.mp h
  refine c_VV (M' := mX8_condition) [] dX8_readWant_7 rfl wmX8_153 imX8_condition seX8_condition lkX8_condition k0_174 rc8 (Nat.le_of_ble_eq_true rfl) ((x_X8_condition (dR := 81) (by omega) (x_X8_unit 10)  ep2).mono (by omega)) ?_
  refine e_aload_n dX8_readWant_10 rfl ?_
  obtain ⟨p3, ep3, h⟩ := Option.bind_eq_some_iff.mp h
  refine c_VI (M' := mX8_atEnd) [] dX8_readWant_11 rfl wmX8_172 imX8_atEnd seX8_atEnd lkX8_atEnd k0_174 rc8 (Nat.le_of_ble_eq_true rfl) ((x_X8_atEnd  ep3).mono (by omega)) ?_
  obtain rfl := Option.some.inj h
  exact e_iret dX8_readWant_14 rfl rfl ⟨rfl, rfl, rfl⟩
def f_X8_usual (a0 : Int32) : Int32 := if a0 = (1 : Int32) then
  ((8 : Int32))
else
  (if a0 = (2 : Int32) then
  ((300 : Int32))
else
  (if a0 = (8 : Int32) then
  ((5 : Int32))
else
  (if a0 = (10 : Int32) then
  ((1 : Int32))
else
  ((0 : Int32)))))
set_option maxRecDepth 20000 in
theorem x_X8_usual {X : Nat × (Nat → Int32)} {v : rV} {a0 : Int32}  : EvM mX8_usual 1 0 0 [.int a0] (rZ X) v (rPI X ((f_X8_usual a0), v)) := by
  refine evm_of (by decide +kernel) (fun G => Nat.le_of_ble_eq_true rfl) ?_
  show Ev mX8_usual 1 0 0 0 [(0, .int a0)] [] (rZ X) v _
  generalize h : f_X8_usual a0 = r
  unfold f_X8_usual at h
  refine e_iload_n dX8_usual_0 rfl ?_
  refine e_iconst (x := (1 : Int32)) dX8_usual_1 (by decide) ?_
  refine e_icmp_ne (tgt := 10) dX8_usual_2 (by decide) (fun c4 => ?_) (fun c4 => ?_)
  · rw [if_neg c4] at h
    refine e_iload_n dX8_usual_10 rfl ?_
    refine e_iconst (x := (2 : Int32)) dX8_usual_11 (by decide) ?_
    refine e_icmp_ne (tgt := 21) dX8_usual_12 (by decide) (fun c3 => ?_) (fun c3 => ?_)
    · rw [if_neg c3] at h
      refine e_iload_n dX8_usual_21 rfl ?_
      refine e_bipush (x := (8 : Int32)) dX8_usual_22 (by decide) ?_
      refine e_icmp_ne (tgt := 31) dX8_usual_24 (by decide) (fun c2 => ?_) (fun c2 => ?_)
      · rw [if_neg c2] at h
        refine e_iload_n dX8_usual_31 rfl ?_
        refine e_bipush (x := (10 : Int32)) dX8_usual_32 (by decide) ?_
        refine e_icmp_ne (tgt := 41) dX8_usual_34 (by decide) (fun c1 => ?_) (fun c1 => ?_)
        · rw [if_neg c1] at h
          refine e_iconst (x := (0 : Int32)) dX8_usual_41 (by decide) ?_
          subst h
          exact e_iret dX8_usual_42 rfl rfl ⟨rfl, rfl, rfl⟩
        · rw [if_pos c1] at h
          refine e_iconst (x := (1 : Int32)) dX8_usual_37 (by decide) ?_
          refine e_goto (tgt := 42) dX8_usual_38 (by decide) ?_
          subst h
          exact e_iret dX8_usual_42 rfl rfl ⟨rfl, rfl, rfl⟩
      · rw [if_pos c2] at h
        refine e_iconst (x := (5 : Int32)) dX8_usual_27 (by decide) ?_
        refine e_goto (tgt := 42) dX8_usual_28 (by decide) ?_
        subst h
        exact e_iret dX8_usual_42 rfl rfl ⟨rfl, rfl, rfl⟩
    · rw [if_pos c3] at h
      refine e_sipush (x := (300 : Int32)) dX8_usual_15 (by decide) ?_
      refine e_goto (tgt := 42) dX8_usual_18 (by decide) ?_
      subst h
      exact e_iret dX8_usual_42 rfl rfl ⟨rfl, rfl, rfl⟩
  · rw [if_pos c4] at h
    refine e_bipush (x := (8 : Int32)) dX8_usual_5 (by decide) ?_
    refine e_goto (tgt := 42) dX8_usual_7 (by decide) ?_
    subst h
    exact e_iret dX8_usual_42 rfl rfl ⟨rfl, rfl, rfl⟩
def f_X8_lowest (a0 : Int32) : Int32 := if a0 = (1 : Int32) then
  ((2 : Int32))
else
  (if a0 = (2 : Int32) then
  ((1 : Int32))
else
  (if a0 = (8 : Int32) then
  ((1 : Int32))
else
  (if a0 = (10 : Int32) then
  ((1 : Int32))
else
  ((0 : Int32)))))
set_option maxRecDepth 20000 in
theorem x_X8_lowest {X : Nat × (Nat → Int32)} {v : rV} {a0 : Int32}  : EvM mX8_lowest 1 0 0 [.int a0] (rZ X) v (rPI X ((f_X8_lowest a0), v)) := by
  refine evm_of (by decide +kernel) (fun G => Nat.le_of_ble_eq_true rfl) ?_
  show Ev mX8_lowest 1 0 0 0 [(0, .int a0)] [] (rZ X) v _
  generalize h : f_X8_lowest a0 = r
  unfold f_X8_lowest at h
  refine e_iload_n dX8_lowest_0 rfl ?_
  refine e_iconst (x := (1 : Int32)) dX8_lowest_1 (by decide) ?_
  refine e_icmp_ne (tgt := 9) dX8_lowest_2 (by decide) (fun c4 => ?_) (fun c4 => ?_)
  · rw [if_neg c4] at h
    refine e_iload_n dX8_lowest_9 rfl ?_
    refine e_iconst (x := (2 : Int32)) dX8_lowest_10 (by decide) ?_
    refine e_icmp_eq (tgt := 26) dX8_lowest_11 (by decide) (fun c3 => ?_) (fun c3 => ?_)
    · rw [if_pos c3] at h
      refine e_iconst (x := (1 : Int32)) dX8_lowest_26 (by decide) ?_
      refine e_goto (tgt := 31) dX8_lowest_27 (by decide) ?_
      subst h
      exact e_iret dX8_lowest_31 rfl rfl ⟨rfl, rfl, rfl⟩
    · rw [if_neg c3] at h
      refine e_iload_n dX8_lowest_14 rfl ?_
      refine e_bipush (x := (8 : Int32)) dX8_lowest_15 (by decide) ?_
      refine e_icmp_eq (tgt := 26) dX8_lowest_17 (by decide) (fun c2 => ?_) (fun c2 => ?_)
      · rw [if_pos c2] at h
        refine e_iconst (x := (1 : Int32)) dX8_lowest_26 (by decide) ?_
        refine e_goto (tgt := 31) dX8_lowest_27 (by decide) ?_
        subst h
        exact e_iret dX8_lowest_31 rfl rfl ⟨rfl, rfl, rfl⟩
      · rw [if_neg c2] at h
        refine e_iload_n dX8_lowest_20 rfl ?_
        refine e_bipush (x := (10 : Int32)) dX8_lowest_21 (by decide) ?_
        refine e_icmp_ne (tgt := 30) dX8_lowest_23 (by decide) (fun c1 => ?_) (fun c1 => ?_)
        · rw [if_neg c1] at h
          refine e_iconst (x := (0 : Int32)) dX8_lowest_30 (by decide) ?_
          subst h
          exact e_iret dX8_lowest_31 rfl rfl ⟨rfl, rfl, rfl⟩
        · rw [if_pos c1] at h
          refine e_iconst (x := (1 : Int32)) dX8_lowest_26 (by decide) ?_
          refine e_goto (tgt := 31) dX8_lowest_27 (by decide) ?_
          subst h
          exact e_iret dX8_lowest_31 rfl rfl ⟨rfl, rfl, rfl⟩
  · rw [if_pos c4] at h
    refine e_iconst (x := (2 : Int32)) dX8_lowest_5 (by decide) ?_
    refine e_goto (tgt := 31) dX8_lowest_6 (by decide) ?_
    subst h
    exact e_iret dX8_lowest_31 rfl rfl ⟨rfl, rfl, rfl⟩
def f_X8_highest (a0 : Int32) : Int32 := if a0 = 0 then
  ((23 : Int32))
else
  (if a0 = (1 : Int32) then
  ((24 : Int32))
else
  (if a0 = (2 : Int32) then
  ((999 : Int32))
else
  (if a0 = (3 : Int32) then
  ((999 : Int32))
else
  (if a0 = (4 : Int32) then
  ((999 : Int32))
else
  (if a0 = (7 : Int32) then
  ((100 : Int32))
else
  (if a0 = (10 : Int32) then
  ((9 : Int32))
else
  (if a0 = (11 : Int32) then
  ((9 : Int32))
else
  ((99 : Int32)))))))))
set_option maxRecDepth 20000 in
theorem x_X8_highest {X : Nat × (Nat → Int32)} {v : rV} {a0 : Int32}  : EvM mX8_highest 1 0 0 [.int a0] (rZ X) v (rPI X ((f_X8_highest a0), v)) := by
  refine evm_of (by decide +kernel) (fun G => Nat.le_of_ble_eq_true rfl) ?_
  show Ev mX8_highest 1 0 0 0 [(0, .int a0)] [] (rZ X) v _
  generalize h : f_X8_highest a0 = r
  unfold f_X8_highest at h
  refine e_iload_n dX8_highest_0 rfl ?_
  refine e_if_ne (tgt := 9) dX8_highest_1 (by decide) (fun c8 => ?_) (fun c8 => ?_)
  · rw [if_neg c8] at h
    refine e_iload_n dX8_highest_9 rfl ?_
    refine e_iconst (x := (1 : Int32)) dX8_highest_10 (by decide) ?_
    refine e_icmp_ne (tgt := 19) dX8_highest_11 (by decide) (fun c7 => ?_) (fun c7 => ?_)
    · rw [if_neg c7] at h
      refine e_iload_n dX8_highest_19 rfl ?_
      refine e_iconst (x := (2 : Int32)) dX8_highest_20 (by decide) ?_
      refine e_icmp_eq (tgt := 34) dX8_highest_21 (by decide) (fun c6 => ?_) (fun c6 => ?_)
      · rw [if_pos c6] at h
        refine e_sipush (x := (999 : Int32)) dX8_highest_34 (by decide) ?_
        refine e_goto (tgt := 70) dX8_highest_37 (by decide) ?_
        subst h
        exact e_iret dX8_highest_70 rfl rfl ⟨rfl, rfl, rfl⟩
      · rw [if_neg c6] at h
        refine e_iload_n dX8_highest_24 rfl ?_
        refine e_iconst (x := (3 : Int32)) dX8_highest_25 (by decide) ?_
        refine e_icmp_eq (tgt := 34) dX8_highest_26 (by decide) (fun c5 => ?_) (fun c5 => ?_)
        · rw [if_pos c5] at h
          refine e_sipush (x := (999 : Int32)) dX8_highest_34 (by decide) ?_
          refine e_goto (tgt := 70) dX8_highest_37 (by decide) ?_
          subst h
          exact e_iret dX8_highest_70 rfl rfl ⟨rfl, rfl, rfl⟩
        · rw [if_neg c5] at h
          refine e_iload_n dX8_highest_29 rfl ?_
          refine e_iconst (x := (4 : Int32)) dX8_highest_30 (by decide) ?_
          refine e_icmp_ne (tgt := 40) dX8_highest_31 (by decide) (fun c4 => ?_) (fun c4 => ?_)
          · rw [if_neg c4] at h
            refine e_iload_n dX8_highest_40 rfl ?_
            refine e_bipush (x := (7 : Int32)) dX8_highest_41 (by decide) ?_
            refine e_icmp_ne (tgt := 51) dX8_highest_43 (by decide) (fun c3 => ?_) (fun c3 => ?_)
            · rw [if_neg c3] at h
              refine e_iload_n dX8_highest_51 rfl ?_
              refine e_bipush (x := (10 : Int32)) dX8_highest_52 (by decide) ?_
              refine e_icmp_eq (tgt := 63) dX8_highest_54 (by decide) (fun c2 => ?_) (fun c2 => ?_)
              · rw [if_pos c2] at h
                refine e_bipush (x := (9 : Int32)) dX8_highest_63 (by decide) ?_
                refine e_goto (tgt := 70) dX8_highest_65 (by decide) ?_
                subst h
                exact e_iret dX8_highest_70 rfl rfl ⟨rfl, rfl, rfl⟩
              · rw [if_neg c2] at h
                refine e_iload_n dX8_highest_57 rfl ?_
                refine e_bipush (x := (11 : Int32)) dX8_highest_58 (by decide) ?_
                refine e_icmp_ne (tgt := 68) dX8_highest_60 (by decide) (fun c1 => ?_) (fun c1 => ?_)
                · rw [if_neg c1] at h
                  refine e_bipush (x := (99 : Int32)) dX8_highest_68 (by decide) ?_
                  subst h
                  exact e_iret dX8_highest_70 rfl rfl ⟨rfl, rfl, rfl⟩
                · rw [if_pos c1] at h
                  refine e_bipush (x := (9 : Int32)) dX8_highest_63 (by decide) ?_
                  refine e_goto (tgt := 70) dX8_highest_65 (by decide) ?_
                  subst h
                  exact e_iret dX8_highest_70 rfl rfl ⟨rfl, rfl, rfl⟩
            · rw [if_pos c3] at h
              refine e_bipush (x := (100 : Int32)) dX8_highest_46 (by decide) ?_
              refine e_goto (tgt := 70) dX8_highest_48 (by decide) ?_
              subst h
              exact e_iret dX8_highest_70 rfl rfl ⟨rfl, rfl, rfl⟩
          · rw [if_pos c4] at h
            refine e_sipush (x := (999 : Int32)) dX8_highest_34 (by decide) ?_
            refine e_goto (tgt := 70) dX8_highest_37 (by decide) ?_
            subst h
            exact e_iret dX8_highest_70 rfl rfl ⟨rfl, rfl, rfl⟩
    · rw [if_pos c7] at h
      refine e_bipush (x := (24 : Int32)) dX8_highest_14 (by decide) ?_
      refine e_goto (tgt := 70) dX8_highest_16 (by decide) ?_
      subst h
      exact e_iret dX8_highest_70 rfl rfl ⟨rfl, rfl, rfl⟩
  · rw [if_pos c8] at h
    refine e_bipush (x := (23 : Int32)) dX8_highest_4 (by decide) ?_
    refine e_goto (tgt := 70) dX8_highest_6 (by decide) ?_
    subst h
    exact e_iret dX8_highest_70 rfl rfl ⟨rfl, rfl, rfl⟩
def f_X8_item_36   (v : rV)  : Option (rV) := (f_X8_bad v).bind fun p1 =>
  some p1
def f_X8_item_120   (v : rV) (a1 : Int32) (a2 : Int32) (a3 : Int32) : Option (rV) := if ¬ (((12 : Int32) * a1) + a2) < 0 ∧ (((12 : Int32) * a1) + a2).toNatClampNeg < 156 then
  (vlet (rI v 185 ((((12 : Int32) * a1) + a2).toNatClampNeg) a3) fun v9 =>
  some v9)
else none
def f_X8_item_19   (v : rV) (a1 : Int32) (s0 : Int32) : Option (rV) := if s0 = (-1 : Int32) then
  (f_X8_item_36  v)
else
  (if (f_X8_has (v.1 174 22) s0) = true then
  (f_X8_item_36  v)
else
  (vlet (rI v 174 22 ((v.1 174 22) ||| ((1 : Int32) <<< (s0 &&& 31)))) fun v3 =>
  vlet (rI v3 174 3 ((v3.1 174 3) + (1 : Int32))) fun v4 =>
  (f_X8_look v4).bind fun p5 =>
  if (f_X8_isDigit p5.1) = true then
  ((f_X8_plainNumber p5.2).bind fun p7 =>
  if (p7.2.1 174 4) = (-1 : Int32) then
  (if (f_X8_in p7.1 (f_X8_lowest s0) (f_X8_highest s0)) = true then
  (f_X8_item_120  p7.2 a1 s0 p7.1)
else
  (vlet (rI p7.2 174 3 ((p7.2.1 174 3) - (1 : Int32))) fun v13 =>
  (f_X8_bad v13).bind fun p14 =>
  f_X8_item_120  p14 a1 s0 p7.1))
else
  (f_X8_item_120  p7.2 a1 s0 p7.1))
else
  ((f_X8_bad p5.2).bind fun p17 =>
  some p17)))
def f_X8_item (v : rV) (a1 : Int32) : Option (rV) := if (v.1 174 4) = (-1 : Int32) then
  ((f_X8_look v).bind fun p21 =>
  f_X8_item_19  p21.2 a1 (f_X8_dropLetter p21.1))
else
  (f_X8_item_19  v a1 (-1 : Int32))
set_option maxRecDepth 20000 in
theorem b_X8_item_36 {X : Nat × (Nat → Int32)} {r : rV} {v : rV}     (h : f_X8_item_36  v  = some r) : Ev mX8_item 3 0 0 36 [(0, .ref 174)] [] (rZ X) v (rPV X r) := by
  unfold f_X8_item_36 at h
  refine e_aload_n dX8_item_36 rfl ?_
  obtain ⟨p1, ep1, h⟩ := Option.bind_eq_some_iff.mp h
  refine c_VV (M' := mX8_bad) [] dX8_item_37 rfl wmX8_110 imX8_bad seX8_bad lkX8_bad k0_174 rc8 (Nat.le_of_ble_eq_true rfl) ((x_X8_bad  ep1).mono (by omega)) ?_
  obtain rfl := Option.some.inj h
  exact e_ret dX8_item_40 rfl ⟨rfl, rfl, rfl⟩
set_option maxRecDepth 20000 in
theorem b_X8_item_120 {X : Nat × (Nat → Int32)} {r : rV} {v : rV}   {a1 : Int32} {a2 : Int32} {a3 : Int32}  (h : f_X8_item_120  v a1 a2 a3 = some r) : Ev mX8_item 3 0 0 120 [(0, .ref 174), (1, .int a1), (2, .int a2), (3, .int a3)] [] (rZ X) v (rPV X r) := by
  unfold f_X8_item_120 at h
  refine e_aload_n dX8_item_120 rfl ?_
  refine e_get (w := .ref 185) (j := 19) dX8_item_121 k0_174 rc8 (by decide) wfX8_40 (g0_174_19) ?_
  refine e_bipush (x := (12 : Int32)) dX8_item_124 (by decide) ?_
  refine e_iload_n dX8_item_126 rfl ?_
  refine e_imul dX8_item_127 ?_
  refine e_iload_n dX8_item_128 rfl ?_
  refine e_iadd dX8_item_129 ?_
  refine e_iload_n dX8_item_130 rfl ?_
  obtain ⟨c8, h⟩ := grd h
  refine e_iastJ dX8_item_131 k0_185 rfl c8.2 c8.1 ?_
  obtain ⟨v9, ev9, h⟩ := vlet_ex h
  refine e_nameV ev9.symm ?_
  clear ev9
  obtain rfl := Option.some.inj h
  exact e_ret dX8_item_132 rfl ⟨rfl, rfl, rfl⟩
set_option maxRecDepth 20000 in
theorem b_X8_item_19 {X : Nat × (Nat → Int32)} {r : rV} {v : rV}   {a1 : Int32} {s0 : Int32}  (h : f_X8_item_19  v a1 s0 = some r) : Ev mX8_item 3 0 0 19 [(0, .ref 174), (1, .int a1)] [.int s0] (rZ X) v (rPV X r) := by
  unfold f_X8_item_19 at h
  refine e_istore_n (lv' := [(2, .int s0), (0, .ref 174), (1, .int a1)]) dX8_item_19 (by decide) rfl ?_
  refine e_iload_n dX8_item_20 rfl ?_
  refine e_iconst (x := (-1 : Int32)) dX8_item_21 (by decide) ?_
  refine e_icmp_eq (tgt := 36) dX8_item_22 (by decide) (fun c20 => ?_) (fun c20 => ?_)
  · rw [if_pos c20] at h
    refine e_sub [1] rfl ?_
    exact b_X8_item_36  h
  · rw [if_neg c20] at h
    refine e_aload_n dX8_item_25 rfl ?_
    refine e_get (w := .int (v.1 174 22)) (j := 22) dX8_item_26 k0_174 rc8 (by decide) wfX8_203 rfl ?_
    refine e_iload_n dX8_item_29 rfl ?_
    refine c_SZ (M' := mX8_has) [.int (v.1 174 22), .int s0] dX8_item_30 rfl wmX8_206 stX8_has lkX8_has (Nat.le_of_ble_eq_true rfl) ((x_X8_has ).mono (by omega)) ?_
    refine e_if_eq (tgt := 41) dX8_item_33 (by decide) (fun c19 => ?_) (fun c19 => ?_)
    · rw [if_neg (bI_n c19)] at h
      refine e_aload_n dX8_item_41 rfl ?_
      refine e_dup dX8_item_42 rfl ?_
      refine e_get (w := .int (v.1 174 22)) (j := 22) dX8_item_43 k0_174 rc8 (by decide) wfX8_203 rfl ?_
      refine e_iconst (x := (1 : Int32)) dX8_item_46 (by decide) ?_
      refine e_iload_n dX8_item_47 rfl ?_
      refine e_ishl dX8_item_48 ?_
      refine e_ior dX8_item_49 ?_
      refine e_putI (j := 22) dX8_item_50 k0_174 rc8 (by decide) wfX8_203 rfl rfl ?_
      obtain ⟨v3, ev3, h⟩ := vlet_ex h
      refine e_nameV ev3.symm ?_
      clear ev3
      refine e_aload_n dX8_item_53 rfl ?_
      refine e_dup dX8_item_54 rfl ?_
      refine e_get (w := .int (v3.1 174 3)) (j := 3) dX8_item_55 k0_174 rc8 (by decide) wfX8_90 rfl ?_
      refine e_iconst (x := (1 : Int32)) dX8_item_58 (by decide) ?_
      refine e_iadd dX8_item_59 ?_
      refine e_putI (j := 3) dX8_item_60 k0_174 rc8 (by decide) wfX8_90 rfl rfl ?_
      obtain ⟨v4, ev4, h⟩ := vlet_ex h
      refine e_nameV ev4.symm ?_
      clear ev4
      refine e_aload_n dX8_item_63 rfl ?_
      obtain ⟨p5, ep5, h⟩ := Option.bind_eq_some_iff.mp h
      refine c_VI (M' := mX8_look) [] dX8_item_64 rfl wmX8_113 imX8_look seX8_look lkX8_look k0_174 rc8 (Nat.le_of_ble_eq_true rfl) ((x_X8_look  ep5).mono (by omega)) ?_
      refine c_SZ (M' := mX8_isDigit) [.int p5.1] dX8_item_67 rfl wmX8_116 stX8_isDigit lkX8_isDigit (Nat.le_of_ble_eq_true rfl) ((x_X8_isDigit ).mono (by omega)) ?_
      refine e_if_ne (tgt := 78) dX8_item_70 (by decide) (fun c18 => ?_) (fun c18 => ?_)
      · rw [if_pos (bI_p c18)] at h
        refine e_aload_n dX8_item_78 rfl ?_
        obtain ⟨p7, ep7, h⟩ := Option.bind_eq_some_iff.mp h
        refine c_VI (M' := mX8_plainNumber) [] dX8_item_79 rfl wmX8_120 imX8_plainNumber seX8_plainNumber lkX8_plainNumber k0_174 rc8 (Nat.le_of_ble_eq_true rfl) ((x_X8_plainNumber  ep7).mono (by omega)) ?_
        refine e_istore_n (lv' := [(3, .int p7.1), (2, .int s0), (0, .ref 174), (1, .int a1)]) dX8_item_82 (by decide) rfl ?_
        refine e_aload_n dX8_item_83 rfl ?_
        refine e_get (w := .int (p7.2.1 174 4)) (j := 4) dX8_item_84 k0_174 rc8 (by decide) wfX8_97 rfl ?_
        refine e_iconst (x := (-1 : Int32)) dX8_item_87 (by decide) ?_
        refine e_icmp_ne (tgt := 120) dX8_item_88 (by decide) (fun c16 => ?_) (fun c16 => ?_)
        · rw [if_neg c16] at h
          refine e_sub [2, 3, 1, 0] rfl ?_
          exact b_X8_item_120  h
        · rw [if_pos c16] at h
          refine e_iload_n dX8_item_91 rfl ?_
          refine e_iload_n dX8_item_92 rfl ?_
          refine c_SI (M' := mX8_lowest) [.int s0] dX8_item_93 rfl wmX8_210 stX8_lowest lkX8_lowest (Nat.le_of_ble_eq_true rfl) ((x_X8_lowest ).mono (by omega)) ?_
          refine e_iload_n dX8_item_96 rfl ?_
          refine c_SI (M' := mX8_highest) [.int s0] dX8_item_97 rfl wmX8_213 stX8_highest lkX8_highest (Nat.le_of_ble_eq_true rfl) ((x_X8_highest ).mono (by omega)) ?_
          refine c_SZ (M' := mX8_in) [.int p7.1, .int (f_X8_lowest s0), .int (f_X8_highest s0)] dX8_item_100 rfl wmX8_216 stX8_in lkX8_in (Nat.le_of_ble_eq_true rfl) ((x_X8_in ).mono (by omega)) ?_
          refine e_if_ne (tgt := 120) dX8_item_103 (by decide) (fun c15 => ?_) (fun c15 => ?_)
          · rw [if_pos (bI_p c15)] at h
            refine e_sub [2, 3, 1, 0] rfl ?_
            exact b_X8_item_120  h
          · rw [if_neg (bI_n c15)] at h
            refine e_aload_n dX8_item_106 rfl ?_
            refine e_dup dX8_item_107 rfl ?_
            refine e_get (w := .int (p7.2.1 174 3)) (j := 3) dX8_item_108 k0_174 rc8 (by decide) wfX8_90 rfl ?_
            refine e_iconst (x := (1 : Int32)) dX8_item_111 (by decide) ?_
            refine e_isub dX8_item_112 ?_
            refine e_putI (j := 3) dX8_item_113 k0_174 rc8 (by decide) wfX8_90 rfl rfl ?_
            obtain ⟨v13, ev13, h⟩ := vlet_ex h
            refine e_nameV ev13.symm ?_
            clear ev13
            refine e_aload_n dX8_item_116 rfl ?_
            obtain ⟨p14, ep14, h⟩ := Option.bind_eq_some_iff.mp h
            refine c_VV (M' := mX8_bad) [] dX8_item_117 rfl wmX8_110 imX8_bad seX8_bad lkX8_bad k0_174 rc8 (Nat.le_of_ble_eq_true rfl) ((x_X8_bad  ep14).mono (by omega)) ?_
            refine e_sub [2, 3, 1, 0] rfl ?_
            exact b_X8_item_120  h
      · rw [if_neg (bI_n c18)] at h
        refine e_aload_n dX8_item_73 rfl ?_
        obtain ⟨p17, ep17, h⟩ := Option.bind_eq_some_iff.mp h
        refine c_VV (M' := mX8_bad) [] dX8_item_74 rfl wmX8_110 imX8_bad seX8_bad lkX8_bad k0_174 rc8 (Nat.le_of_ble_eq_true rfl) ((x_X8_bad  ep17).mono (by omega)) ?_
        obtain rfl := Option.some.inj h
        exact e_ret dX8_item_77 rfl ⟨rfl, rfl, rfl⟩
    · rw [if_pos (bI_p c19)] at h
      refine e_sub [1] rfl ?_
      exact b_X8_item_36  h
set_option maxRecDepth 20000 in
theorem x_X8_item {X : Nat × (Nat → Int32)} {v : rV} {r : rV} {a1 : Int32}  (h : f_X8_item v a1 = some r) : EvM mX8_item 3 0 0 [.ref 174, .int a1] (rZ X) v (rPV X r) := by
  refine evm_of (by decide +kernel) (fun G => Nat.le_of_ble_eq_true rfl) ?_
  show Ev mX8_item 3 0 0 0 [(0, .ref 174), (1, .int a1)] [] (rZ X) v _
  unfold f_X8_item at h
  refine e_aload_n dX8_item_0 rfl ?_
  refine e_get (w := .int (v.1 174 4)) (j := 4) dX8_item_1 k0_174 rc8 (by decide) wfX8_97 rfl ?_
  refine e_iconst (x := (-1 : Int32)) dX8_item_4 (by decide) ?_
  refine e_icmp_ne (tgt := 18) dX8_item_5 (by decide) (fun c23 => ?_) (fun c23 => ?_)
  · rw [if_neg c23] at h
    refine e_iconst (x := (-1 : Int32)) dX8_item_18 (by decide) ?_
    exact b_X8_item_19  h
  · rw [if_pos c23] at h
    refine e_aload_n dX8_item_8 rfl ?_
    obtain ⟨p21, ep21, h⟩ := Option.bind_eq_some_iff.mp h
    refine c_VI (M' := mX8_look) [] dX8_item_9 rfl wmX8_113 imX8_look seX8_look lkX8_look k0_174 rc8 (Nat.le_of_ble_eq_true rfl) ((x_X8_look  ep21).mono (by omega)) ?_
    refine c_SI (M' := mX8_dropLetter) [.int p21.1] dX8_item_12 rfl wmX8_200 stX8_dropLetter lkX8_dropLetter (Nat.le_of_ble_eq_true rfl) ((x_X8_dropLetter ).mono (by omega)) ?_
    refine e_goto (tgt := 19) dX8_item_15 (by decide) ?_
    exact b_X8_item_19  h
def f_X8_readDrop_84   (v : rV) (a1 : Int32) : Option (Int32 × rV) := (f_X8_atEnd v).bind fun p5 =>
  if p5.1 = (-1 : Int32) then
  (if ¬ (((12 : Int32) * a1) + (0 : Int32)) < 0 ∧ (((12 : Int32) * a1) + (0 : Int32)).toNatClampNeg < 156 then
  (if ¬ (((12 : Int32) * a1) + (1 : Int32)) < 0 ∧ (((12 : Int32) * a1) + (1 : Int32)).toNatClampNeg < 156 then
  (if ((p5.2.1 185 ((((12 : Int32) * a1) + (0 : Int32)).toNatClampNeg)) + (p5.2.1 185 ((((12 : Int32) * a1) + (1 : Int32)).toNatClampNeg))) ≤ (24 : Int32) then
  (some (p5.2.1 174 4, p5.2))
else
  (vlet (rI p5.2 174 4 (p5.2.1 174 2)) fun v8 =>
  some (v8.1 174 4, v8)))
else none)
else none)
else
  (some (p5.2.1 174 4, p5.2))
def f_X8_readDrop_49   : Nat → rV → Int32 → Option (Int32 × rV)
  | 0, _, _ => none
  | n + 1, v, a1 => if (v.1 174 4) = (-1 : Int32) then
  ((f_X8_look v).bind fun p11 =>
  if p11.1 = (44 : Int32) then
  (vlet (rI p11.2 174 3 ((p11.2.1 174 3) + (1 : Int32))) fun v12 =>
  (f_X8_item v12 a1).bind fun p13 =>
  f_X8_readDrop_49  n p13 a1)
else
  (f_X8_readDrop_84  p11.2 a1))
else
  (f_X8_readDrop_84  v a1)
def f_X8_readDrop_17   : Nat → rV → Int32 → Int32 → Option (Int32 × rV)
  | 0, _, _, _ => none
  | n + 1, v, a1, a2 => if (12 : Int32) ≤ a2 then
  ((f_X8_item v a1).bind fun p4 =>
  f_X8_readDrop_49  20000 p4 a1)
else
  (if ¬ (((12 : Int32) * a1) + a2) < 0 ∧ (((12 : Int32) * a1) + a2).toNatClampNeg < 156 then
  (vlet (rI v 185 ((((12 : Int32) * a1) + a2).toNatClampNeg) (f_X8_usual a2)) fun v18 =>
  vlet (a2 + (1 : Int32)) fun x19 =>
  f_X8_readDrop_17  n v18 a1 x19)
else none)
def f_X8_readDrop (v : rV) (a1 : Int32) : Option (Int32 × rV) := vlet (rI v 174 3 (0 : Int32)) fun v1 =>
  vlet (rI v1 174 4 (-1 : Int32)) fun v2 =>
  vlet (rI v2 174 22 (0 : Int32)) fun v3 =>
  f_X8_readDrop_17  20000 v3 a1 (0 : Int32)
set_option maxRecDepth 20000 in
theorem b_X8_readDrop_84 {X : Nat × (Nat → Int32)} {r : Int32 × rV} {v : rV}   {a1 : Int32}  (h : f_X8_readDrop_84  v a1 = some r) : Ev mX8_readDrop 4 0 0 84 [(0, .ref 174), (1, .int a1)] [] (rZ X) v (rPI X r) := by
  unfold f_X8_readDrop_84 at h
  refine e_aload_n dX8_readDrop_84 rfl ?_
  obtain ⟨p5, ep5, h⟩ := Option.bind_eq_some_iff.mp h
  refine c_VI (M' := mX8_atEnd) [] dX8_readDrop_85 rfl wmX8_172 imX8_atEnd seX8_atEnd lkX8_atEnd k0_174 rc8 (Nat.le_of_ble_eq_true rfl) ((x_X8_atEnd  ep5).mono (by omega)) ?_
  refine e_iconst (x := (-1 : Int32)) dX8_readDrop_88 (by decide) ?_
  refine e_icmp_ne (tgt := 128) dX8_readDrop_89 (by decide) (fun c10 => ?_) (fun c10 => ?_)
  · rw [if_neg c10] at h
    refine e_aload_n dX8_readDrop_128 rfl ?_
    refine e_get (w := .int (p5.2.1 174 4)) (j := 4) dX8_readDrop_129 k0_174 rc8 (by decide) wfX8_97 rfl ?_
    obtain rfl := Option.some.inj h
    exact e_iret dX8_readDrop_132 rfl rfl ⟨rfl, rfl, rfl⟩
  · rw [if_pos c10] at h
    refine e_aload_n dX8_readDrop_92 rfl ?_
    refine e_get (w := .ref 185) (j := 19) dX8_readDrop_93 k0_174 rc8 (by decide) wfX8_40 (g0_174_19) ?_
    refine e_bipush (x := (12 : Int32)) dX8_readDrop_96 (by decide) ?_
    refine e_iload_n dX8_readDrop_98 rfl ?_
    refine e_imul dX8_readDrop_99 ?_
    refine e_iconst (x := (0 : Int32)) dX8_readDrop_100 (by decide) ?_
    refine e_iadd dX8_readDrop_101 ?_
    obtain ⟨c6, h⟩ := grd h
    refine e_ialdJ dX8_readDrop_102 k0_185 rfl c6.2 c6.1 ?_
    refine e_aload_n dX8_readDrop_103 rfl ?_
    refine e_get (w := .ref 185) (j := 19) dX8_readDrop_104 k0_174 rc8 (by decide) wfX8_40 (g0_174_19) ?_
    refine e_bipush (x := (12 : Int32)) dX8_readDrop_107 (by decide) ?_
    refine e_iload_n dX8_readDrop_109 rfl ?_
    refine e_imul dX8_readDrop_110 ?_
    refine e_iconst (x := (1 : Int32)) dX8_readDrop_111 (by decide) ?_
    refine e_iadd dX8_readDrop_112 ?_
    obtain ⟨c7, h⟩ := grd h
    refine e_ialdJ dX8_readDrop_113 k0_185 rfl c7.2 c7.1 ?_
    refine e_iadd dX8_readDrop_114 ?_
    refine e_bipush (x := (24 : Int32)) dX8_readDrop_115 (by decide) ?_
    refine e_icmp_le (tgt := 128) dX8_readDrop_117 (by decide) (fun c9 => ?_) (fun c9 => ?_)
    · rw [if_pos c9] at h
      refine e_aload_n dX8_readDrop_128 rfl ?_
      refine e_get (w := .int (p5.2.1 174 4)) (j := 4) dX8_readDrop_129 k0_174 rc8 (by decide) wfX8_97 rfl ?_
      obtain rfl := Option.some.inj h
      exact e_iret dX8_readDrop_132 rfl rfl ⟨rfl, rfl, rfl⟩
    · rw [if_neg c9] at h
      refine e_aload_n dX8_readDrop_120 rfl ?_
      refine e_aload_n dX8_readDrop_121 rfl ?_
      refine e_get (w := .int (p5.2.1 174 2)) (j := 2) dX8_readDrop_122 k0_174 rc8 (by decide) wfX8_87 rfl ?_
      refine e_putI (j := 4) dX8_readDrop_125 k0_174 rc8 (by decide) wfX8_97 rfl rfl ?_
      obtain ⟨v8, ev8, h⟩ := vlet_ex h
      refine e_nameV ev8.symm ?_
      clear ev8
      refine e_aload_n dX8_readDrop_128 rfl ?_
      refine e_get (w := .int (v8.1 174 4)) (j := 4) dX8_readDrop_129 k0_174 rc8 (by decide) wfX8_97 rfl ?_
      obtain rfl := Option.some.inj h
      exact e_iret dX8_readDrop_132 rfl rfl ⟨rfl, rfl, rfl⟩
set_option maxRecDepth 20000 in
theorem b_X8_readDrop_49 {X : Nat × (Nat → Int32)} {r : Int32 × rV}   : ∀ (n : Nat) (v : rV) (a1 : Int32) , f_X8_readDrop_49   n v a1 = some r → Ev mX8_readDrop 4 0 0 49 [(0, .ref 174), (1, .int a1)] [] (rZ X) v (rPI X r) := by
  intro n
  induction n with
  | zero =>
    intros
    rename_i h
    cases h
  | succ n ih =>
    intro v a1 h
    rw [f_X8_readDrop_49] at h
    refine e_aload_n dX8_readDrop_49 rfl ?_
    refine e_get (w := .int (v.1 174 4)) (j := 4) dX8_readDrop_50 k0_174 rc8 (by decide) wfX8_97 rfl ?_
    refine e_iconst (x := (-1 : Int32)) dX8_readDrop_53 (by decide) ?_
    refine e_icmp_ne (tgt := 84) dX8_readDrop_54 (by decide) (fun c15 => ?_) (fun c15 => ?_)
    · rw [if_neg c15] at h
      exact b_X8_readDrop_84  h
    · rw [if_pos c15] at h
      refine e_aload_n dX8_readDrop_57 rfl ?_
      obtain ⟨p11, ep11, h⟩ := Option.bind_eq_some_iff.mp h
      refine c_VI (M' := mX8_look) [] dX8_readDrop_58 rfl wmX8_113 imX8_look seX8_look lkX8_look k0_174 rc8 (Nat.le_of_ble_eq_true rfl) ((x_X8_look  ep11).mono (by omega)) ?_
      refine e_bipush (x := (44 : Int32)) dX8_readDrop_61 (by decide) ?_
      refine e_icmp_ne (tgt := 84) dX8_readDrop_63 (by decide) (fun c14 => ?_) (fun c14 => ?_)
      · rw [if_neg c14] at h
        exact b_X8_readDrop_84  h
      · rw [if_pos c14] at h
        refine e_aload_n dX8_readDrop_66 rfl ?_
        refine e_dup dX8_readDrop_67 rfl ?_
        refine e_get (w := .int (p11.2.1 174 3)) (j := 3) dX8_readDrop_68 k0_174 rc8 (by decide) wfX8_90 rfl ?_
        refine e_iconst (x := (1 : Int32)) dX8_readDrop_71 (by decide) ?_
        refine e_iadd dX8_readDrop_72 ?_
        refine e_putI (j := 3) dX8_readDrop_73 k0_174 rc8 (by decide) wfX8_90 rfl rfl ?_
        obtain ⟨v12, ev12, h⟩ := vlet_ex h
        refine e_nameV ev12.symm ?_
        clear ev12
        refine e_aload_n dX8_readDrop_76 rfl ?_
        refine e_iload_n dX8_readDrop_77 rfl ?_
        obtain ⟨p13, ep13, h⟩ := Option.bind_eq_some_iff.mp h
        refine c_VV (M' := mX8_item) [.int a1] dX8_readDrop_78 rfl wmX8_223 imX8_item seX8_item lkX8_item k0_174 rc8 (Nat.le_of_ble_eq_true rfl) ((x_X8_item  ep13).mono (by omega)) ?_
        refine e_goto (tgt := 49) dX8_readDrop_81 (by decide) ?_
        exact ih p13 a1 h
set_option maxRecDepth 20000 in
theorem b_X8_readDrop_17 {X : Nat × (Nat → Int32)} {r : Int32 × rV}   : ∀ (n : Nat) (v : rV) (a1 : Int32) (a2 : Int32) , f_X8_readDrop_17   n v a1 a2 = some r → Ev mX8_readDrop 4 0 0 17 [(0, .ref 174), (1, .int a1), (2, .int a2)] [] (rZ X) v (rPI X r) := by
  intro n
  induction n with
  | zero =>
    intros
    rename_i h
    cases h
  | succ n ih =>
    intro v a1 a2 h
    rw [f_X8_readDrop_17] at h
    refine e_iload_n dX8_readDrop_17 rfl ?_
    refine e_bipush (x := (12 : Int32)) dX8_readDrop_18 (by decide) ?_
    refine e_icmp_ge (tgt := 44) dX8_readDrop_20 (by decide) (fun c20 => ?_) (fun c20 => ?_)
    · rw [if_pos c20] at h
      refine e_aload_n dX8_readDrop_44 rfl ?_
      refine e_iload_n dX8_readDrop_45 rfl ?_
      obtain ⟨p4, ep4, h⟩ := Option.bind_eq_some_iff.mp h
      refine c_VV (M' := mX8_item) [.int a1] dX8_readDrop_46 rfl wmX8_223 imX8_item seX8_item lkX8_item k0_174 rc8 (Nat.le_of_ble_eq_true rfl) ((x_X8_item  ep4).mono (by omega)) ?_
      refine e_sub [0, 1] rfl ?_
      exact b_X8_readDrop_49  _ p4 a1 h
    · rw [if_neg c20] at h
      refine e_aload_n dX8_readDrop_23 rfl ?_
      refine e_get (w := .ref 185) (j := 19) dX8_readDrop_24 k0_174 rc8 (by decide) wfX8_40 (g0_174_19) ?_
      refine e_bipush (x := (12 : Int32)) dX8_readDrop_27 (by decide) ?_
      refine e_iload_n dX8_readDrop_29 rfl ?_
      refine e_imul dX8_readDrop_30 ?_
      refine e_iload_n dX8_readDrop_31 rfl ?_
      refine e_iadd dX8_readDrop_32 ?_
      refine e_iload_n dX8_readDrop_33 rfl ?_
      refine c_SI (M' := mX8_usual) [.int a2] dX8_readDrop_34 rfl wmX8_220 stX8_usual lkX8_usual (Nat.le_of_ble_eq_true rfl) ((x_X8_usual ).mono (by omega)) ?_
      obtain ⟨c17, h⟩ := grd h
      refine e_iastJ dX8_readDrop_37 k0_185 rfl c17.2 c17.1 ?_
      obtain ⟨v18, ev18, h⟩ := vlet_ex h
      refine e_nameV ev18.symm ?_
      clear ev18
      obtain ⟨x19, ex19, h⟩ := vlet_ex h
      refine e_iinc (lv' := [(2, .int x19), (0, .ref 174), (1, .int a1)]) dX8_readDrop_38 rfl (ex19.symm) (by decide) rfl ?_
      clear ex19
      refine e_goto (tgt := 17) dX8_readDrop_41 (by decide) ?_
      refine e_sub [1, 2, 0] rfl ?_
      exact ih v18 a1 x19 h
set_option maxRecDepth 20000 in
theorem x_X8_readDrop {X : Nat × (Nat → Int32)} {v : rV} {r : Int32 × rV} {a1 : Int32}  (h : f_X8_readDrop v a1 = some r) : EvM mX8_readDrop 4 0 0 [.ref 174, .int a1] (rZ X) v (rPI X r) := by
  refine evm_of (by decide +kernel) (fun G => Nat.le_of_ble_eq_true rfl) ?_
  show Ev mX8_readDrop 4 0 0 0 [(0, .ref 174), (1, .int a1)] [] (rZ X) v _
  unfold f_X8_readDrop at h
  refine e_aload_n dX8_readDrop_0 rfl ?_
  refine e_iconst (x := (0 : Int32)) dX8_readDrop_1 (by decide) ?_
  refine e_putI (j := 3) dX8_readDrop_2 k0_174 rc8 (by decide) wfX8_90 rfl rfl ?_
  obtain ⟨v1, ev1, h⟩ := vlet_ex h
  refine e_nameV ev1.symm ?_
  clear ev1
  refine e_aload_n dX8_readDrop_5 rfl ?_
  refine e_iconst (x := (-1 : Int32)) dX8_readDrop_6 (by decide) ?_
  refine e_putI (j := 4) dX8_readDrop_7 k0_174 rc8 (by decide) wfX8_97 rfl rfl ?_
  obtain ⟨v2, ev2, h⟩ := vlet_ex h
  refine e_nameV ev2.symm ?_
  clear ev2
  refine e_aload_n dX8_readDrop_10 rfl ?_
  refine e_iconst (x := (0 : Int32)) dX8_readDrop_11 (by decide) ?_
  refine e_putI (j := 22) dX8_readDrop_12 k0_174 rc8 (by decide) wfX8_203 rfl rfl ?_
  obtain ⟨v3, ev3, h⟩ := vlet_ex h
  refine e_nameV ev3.symm ?_
  clear ev3
  refine e_iconst (x := (0 : Int32)) dX8_readDrop_15 (by decide) ?_
  refine e_istore_n (lv' := [(2, .int (0 : Int32)), (0, .ref 174), (1, .int a1)]) dX8_readDrop_16 (by decide) rfl ?_
  refine e_sub [1, 2, 0] rfl ?_
  exact b_X8_readDrop_17  _ v3 a1 (0 : Int32) h
def f_X8_fault (v : rV) (a1 : Int32) : Option (Int32 × rV) := if a1 = 0 then
  ((f_X8_readLaw v (8 : Int32)).bind fun p5 =>
  some (p5.1, p5.2))
else
  (if a1 = (1 : Int32) then
  ((f_X8_readWant v (8 : Int32)).bind fun p3 =>
  some (p3.1, p3.2))
else
  (if a1 = (2 : Int32) then
  ((f_X8_readDrop v (12 : Int32)).bind fun p1 =>
  some (p1.1, p1.2))
else
  (some ((-2 : Int32), v))))
set_option maxRecDepth 20000 in
theorem x_X8_fault {X : Nat × (Nat → Int32)} {v : rV} {r : Int32 × rV} {a1 : Int32}  (h : f_X8_fault v a1 = some r) : EvM mX8_fault 87 0 0 [.ref 174, .int a1] (rZ X) v (rPI X r) := by
  refine evm_of (by decide +kernel) (fun G => Nat.le_of_ble_eq_true rfl) ?_
  show Ev mX8_fault 87 0 0 0 [(0, .ref 174), (1, .int a1)] [] (rZ X) v _
  unfold f_X8_fault at h
  refine e_iload_n dX8_fault_0 rfl ?_
  refine e_if_ne (tgt := 13) dX8_fault_1 (by decide) (fun c6 => ?_) (fun c6 => ?_)
  · rw [if_neg c6] at h
    refine e_iload_n dX8_fault_13 rfl ?_
    refine e_iconst (x := (1 : Int32)) dX8_fault_14 (by decide) ?_
    refine e_icmp_ne (tgt := 27) dX8_fault_15 (by decide) (fun c4 => ?_) (fun c4 => ?_)
    · rw [if_neg c4] at h
      refine e_iload_n dX8_fault_27 rfl ?_
      refine e_iconst (x := (2 : Int32)) dX8_fault_28 (by decide) ?_
      refine e_icmp_ne (tgt := 41) dX8_fault_29 (by decide) (fun c2 => ?_) (fun c2 => ?_)
      · rw [if_neg c2] at h
        refine e_bipush (x := (-2 : Int32)) dX8_fault_41 (by decide) ?_
        obtain rfl := Option.some.inj h
        exact e_iret dX8_fault_43 rfl rfl ⟨rfl, rfl, rfl⟩
      · rw [if_pos c2] at h
        refine e_aload_n dX8_fault_32 rfl ?_
        refine e_bipush (x := (12 : Int32)) dX8_fault_33 (by decide) ?_
        obtain ⟨p1, ep1, h⟩ := Option.bind_eq_some_iff.mp h
        refine c_VI (M' := mX8_readDrop) [.int (12 : Int32)] dX8_fault_35 rfl wmX8_232 imX8_readDrop seX8_readDrop lkX8_readDrop k0_174 rc8 (Nat.le_of_ble_eq_true rfl) ((x_X8_readDrop  ep1).mono (by omega)) ?_
        refine e_goto (tgt := 43) dX8_fault_38 (by decide) ?_
        obtain rfl := Option.some.inj h
        exact e_iret dX8_fault_43 rfl rfl ⟨rfl, rfl, rfl⟩
    · rw [if_pos c4] at h
      refine e_aload_n dX8_fault_18 rfl ?_
      refine e_bipush (x := (8 : Int32)) dX8_fault_19 (by decide) ?_
      obtain ⟨p3, ep3, h⟩ := Option.bind_eq_some_iff.mp h
      refine c_VI (M' := mX8_readWant) [.int (8 : Int32)] dX8_fault_21 rfl wmX8_229 imX8_readWant seX8_readWant lkX8_readWant k0_174 rc8 (Nat.le_of_ble_eq_true rfl) ((x_X8_readWant  ep3).mono (by omega)) ?_
      refine e_goto (tgt := 43) dX8_fault_24 (by decide) ?_
      obtain rfl := Option.some.inj h
      exact e_iret dX8_fault_43 rfl rfl ⟨rfl, rfl, rfl⟩
  · rw [if_pos c6] at h
    refine e_aload_n dX8_fault_4 rfl ?_
    refine e_bipush (x := (8 : Int32)) dX8_fault_5 (by decide) ?_
    obtain ⟨p5, ep5, h⟩ := Option.bind_eq_some_iff.mp h
    refine c_VI (M' := mX8_readLaw) [.int (8 : Int32)] dX8_fault_7 rfl wmX8_226 imX8_readLaw seX8_readLaw lkX8_readLaw k0_174 rc8 (Nat.le_of_ble_eq_true rfl) ((x_X8_readLaw  ep5).mono (by omega)) ?_
    refine e_goto (tgt := 43) dX8_fault_10 (by decide) ?_
    obtain rfl := Option.some.inj h
    exact e_iret dX8_fault_43 rfl rfl ⟨rfl, rfl, rfl⟩
def f_X8_feed_109  (q62 : rV → Int32 → Int32 → Int32 → Int32 → Int32 → Int32 → Option (Int32 × rV)) (v : rV) (a1 : Int32) (a2 : Int32) (a3 : Int32) (a4 : Int32) (a5 : Int32) (a7 : Int32) : Option (Int32 × rV) := vlet (a7 + (1 : Int32)) fun x3 =>
  q62 v a1 a2 a3 a4 a5 x3
def f_X8_feed_62   : Nat → rV → Int32 → Int32 → Int32 → Int32 → Int32 → Int32 → Option (Int32 × rV)
  | 0, _, _, _, _, _, _, _ => none
  | n + 1, v, a1, a2, a3, a4, a5, a7 => if (20 : Int32) ≤ a7 then
  (some (v.1 174 2, v))
else
  (vlet (f_X8_byteOf v a1 a2 a3 a4 a5 a7 : Int32) fun x2 =>
  if x2 = 0 then
  (f_X8_feed_109 (fun v a1 a2 a3 a4 a5 a7 => f_X8_feed_62  n v a1 a2 a3 a4 a5 a7) v a1 a2 a3 a4 a5 a7)
else
  (if ¬ (v.1 174 2) < 0 ∧ (v.1 174 2).toNatClampNeg < 160 then
  (vlet (rI v 175 ((v.1 174 2).toNatClampNeg) x2) fun v5 =>
  vlet (rI v5 174 2 ((v5.1 174 2) + (1 : Int32))) fun v6 =>
  f_X8_feed_109 (fun v a1 a2 a3 a4 a5 a7 => f_X8_feed_62  n v a1 a2 a3 a4 a5 a7) v6 a1 a2 a3 a4 a5 a7)
else none))
def f_X8_feed_35  (q6 : rV → Int32 → Int32 → Int32 → Int32 → Int32 → Int32 → Int32 → Option (Int32 × rV)) (v : rV) (a1 : Int32) (a2 : Int32) (a3 : Int32) (a4 : Int32) (a5 : Int32) (a7 : Int32) (s0 : Int32) (s1 : Int32) : Option (Int32 × rV) := vlet (s1 + s0 : Int32) fun x11 =>
  vlet (a7 + (1 : Int32)) fun x12 =>
  q6 v a1 a2 a3 a4 a5 x11 x12
def f_X8_feed_6   : Nat → rV → Int32 → Int32 → Int32 → Int32 → Int32 → Int32 → Int32 → Option (Int32 × rV)
  | 0, _, _, _, _, _, _, _, _ => none
  | n + 1, v, a1, a2, a3, a4, a5, a6, a7 => if (20 : Int32) ≤ a7 then
  (if ((v.1 174 2) + a6) ≤ (160 : Int32) then
  (f_X8_feed_62  20000 v a1 a2 a3 a4 a5 (0 : Int32))
else
  (some ((-1 : Int32), v)))
else
  (if (f_X8_byteOf v a1 a2 a3 a4 a5 a7) = 0 then
  (f_X8_feed_35 (fun v a1 a2 a3 a4 a5 a6 a7 => f_X8_feed_6  n v a1 a2 a3 a4 a5 a6 a7) v a1 a2 a3 a4 a5 a7 (0 : Int32) a6)
else
  (f_X8_feed_35 (fun v a1 a2 a3 a4 a5 a6 a7 => f_X8_feed_6  n v a1 a2 a3 a4 a5 a6 a7) v a1 a2 a3 a4 a5 a7 (1 : Int32) a6))
def f_X8_feed (v : rV) (a1 : Int32) (a2 : Int32) (a3 : Int32) (a4 : Int32) (a5 : Int32) : Option (Int32 × rV) := f_X8_feed_6  20000 v a1 a2 a3 a4 a5 (0 : Int32) (0 : Int32)
set_option maxRecDepth 20000 in
theorem b_X8_feed_109 {X : Nat × (Nat → Int32)} {r : Int32 × rV} {v : rV} {q62 : rV → Int32 → Int32 → Int32 → Int32 → Int32 → Int32 → Option (Int32 × rV)} (hq62 : ∀ (v : rV) (a1 : Int32) (a2 : Int32) (a3 : Int32) (a4 : Int32) (a5 : Int32) (a7 : Int32) , q62 v a1 a2 a3 a4 a5 a7 = some r → Ev mX8_feed 2 0 0 62 [(0, .ref 174), (1, .int a1), (2, .int a2), (3, .int a3), (4, .int a4), (5, .int a5), (7, .int a7)] [] (rZ X) v (rPI X r)) {a1 : Int32} {a2 : Int32} {a3 : Int32} {a4 : Int32} {a5 : Int32} {a7 : Int32}  (h : f_X8_feed_109 q62 v a1 a2 a3 a4 a5 a7 = some r) : Ev mX8_feed 2 0 0 109 [(0, .ref 174), (1, .int a1), (2, .int a2), (3, .int a3), (4, .int a4), (5, .int a5), (7, .int a7)] [] (rZ X) v (rPI X r) := by
  unfold f_X8_feed_109 at h
  obtain ⟨x3, ex3, h⟩ := vlet_ex h
  refine e_iinc (lv' := [(7, .int x3), (0, .ref 174), (1, .int a1), (2, .int a2), (3, .int a3), (4, .int a4), (5, .int a5)]) dX8_feed_109 rfl (ex3.symm) (by decide) rfl ?_
  clear ex3
  refine e_goto (tgt := 62) dX8_feed_112 (by decide) ?_
  refine e_sub [1, 2, 3, 4, 5, 6, 0] rfl ?_
  exact hq62 v a1 a2 a3 a4 a5 x3 h
set_option maxRecDepth 20000 in
theorem b_X8_feed_62 {X : Nat × (Nat → Int32)} {r : Int32 × rV}   : ∀ (n : Nat) (v : rV) (a1 : Int32) (a2 : Int32) (a3 : Int32) (a4 : Int32) (a5 : Int32) (a7 : Int32) , f_X8_feed_62   n v a1 a2 a3 a4 a5 a7 = some r → Ev mX8_feed 2 0 0 62 [(0, .ref 174), (1, .int a1), (2, .int a2), (3, .int a3), (4, .int a4), (5, .int a5), (7, .int a7)] [] (rZ X) v (rPI X r) := by
  intro n
  induction n with
  | zero =>
    intros
    rename_i h
    cases h
  | succ n ih =>
    intro v a1 a2 a3 a4 a5 a7 h
    rw [f_X8_feed_62] at h
    refine e_iload dX8_feed_62 rfl ?_
    refine e_bipush (x := (20 : Int32)) dX8_feed_64 (by decide) ?_
    refine e_icmp_ge (tgt := 115) dX8_feed_66 (by decide) (fun c8 => ?_) (fun c8 => ?_)
    · rw [if_pos c8] at h
      refine e_aload_n dX8_feed_115 rfl ?_
      refine e_get (w := .int (v.1 174 2)) (j := 2) dX8_feed_116 k0_174 rc8 (by decide) wfX8_87 rfl ?_
      obtain rfl := Option.some.inj h
      exact e_iret dX8_feed_119 rfl rfl ⟨rfl, rfl, rfl⟩
    · rw [if_neg c8] at h
      refine e_iload_n dX8_feed_69 rfl ?_
      refine e_iload_n dX8_feed_70 rfl ?_
      refine e_iload_n dX8_feed_71 rfl ?_
      refine e_iload dX8_feed_72 rfl ?_
      refine e_iload dX8_feed_74 rfl ?_
      refine e_iload dX8_feed_76 rfl ?_
      refine c_SI (M' := mX8_byteOf) [.int a1, .int a2, .int a3, .int a4, .int a5, .int a7] dX8_feed_78 rfl wmX8_83 stX8_byteOf lkX8_byteOf (Nat.le_of_ble_eq_true rfl) ((x_X8_byteOf ).mono (by omega)) ?_
      obtain ⟨x2, ex2, h⟩ := vlet_ex h
      refine e_nameI ex2.symm ?_
      clear ex2
      refine e_istore (lv' := [(8, .int x2), (0, .ref 174), (1, .int a1), (2, .int a2), (3, .int a3), (4, .int a4), (5, .int a5), (7, .int a7)]) dX8_feed_81 (by decide) rfl ?_
      refine e_iload dX8_feed_83 rfl ?_
      refine e_if_eq (tgt := 109) dX8_feed_85 (by decide) (fun c7 => ?_) (fun c7 => ?_)
      · rw [if_pos c7] at h
        refine e_sub [1, 2, 3, 4, 5, 6, 7] rfl ?_
        exact b_X8_feed_109 (fun v a1 a2 a3 a4 a5 a7  hh => ih v a1 a2 a3 a4 a5 a7  hh) h
      · rw [if_neg c7] at h
        refine e_aload_n dX8_feed_88 rfl ?_
        refine e_get (w := .ref 175) (j := 1) dX8_feed_89 k0_174 rc8 (by decide) wfX8_9 (g0_174_1) ?_
        refine e_aload_n dX8_feed_92 rfl ?_
        refine e_get (w := .int (v.1 174 2)) (j := 2) dX8_feed_93 k0_174 rc8 (by decide) wfX8_87 rfl ?_
        refine e_iload dX8_feed_96 rfl ?_
        obtain ⟨c4, h⟩ := grd h
        refine e_iastJ dX8_feed_98 k0_175 rfl c4.2 c4.1 ?_
        obtain ⟨v5, ev5, h⟩ := vlet_ex h
        refine e_nameV ev5.symm ?_
        clear ev5
        refine e_aload_n dX8_feed_99 rfl ?_
        refine e_dup dX8_feed_100 rfl ?_
        refine e_get (w := .int (v5.1 174 2)) (j := 2) dX8_feed_101 k0_174 rc8 (by decide) wfX8_87 rfl ?_
        refine e_iconst (x := (1 : Int32)) dX8_feed_104 (by decide) ?_
        refine e_iadd dX8_feed_105 ?_
        refine e_putI (j := 2) dX8_feed_106 k0_174 rc8 (by decide) wfX8_87 rfl rfl ?_
        obtain ⟨v6, ev6, h⟩ := vlet_ex h
        refine e_nameV ev6.symm ?_
        clear ev6
        refine e_sub [1, 2, 3, 4, 5, 6, 7] rfl ?_
        exact b_X8_feed_109 (fun v a1 a2 a3 a4 a5 a7  hh => ih v a1 a2 a3 a4 a5 a7  hh) h
set_option maxRecDepth 20000 in
theorem b_X8_feed_35 {X : Nat × (Nat → Int32)} {r : Int32 × rV} {v : rV} {q6 : rV → Int32 → Int32 → Int32 → Int32 → Int32 → Int32 → Int32 → Option (Int32 × rV)} (hq6 : ∀ (v : rV) (a1 : Int32) (a2 : Int32) (a3 : Int32) (a4 : Int32) (a5 : Int32) (a6 : Int32) (a7 : Int32) , q6 v a1 a2 a3 a4 a5 a6 a7 = some r → Ev mX8_feed 2 0 0 6 [(0, .ref 174), (1, .int a1), (2, .int a2), (3, .int a3), (4, .int a4), (5, .int a5), (6, .int a6), (7, .int a7)] [] (rZ X) v (rPI X r)) {a1 : Int32} {a2 : Int32} {a3 : Int32} {a4 : Int32} {a5 : Int32} {a7 : Int32} {s0 : Int32} {s1 : Int32}  (h : f_X8_feed_35 q6 v a1 a2 a3 a4 a5 a7 s0 s1 = some r) : Ev mX8_feed 2 0 0 35 [(0, .ref 174), (1, .int a1), (2, .int a2), (3, .int a3), (4, .int a4), (5, .int a5), (7, .int a7)] [.int s0, .int s1] (rZ X) v (rPI X r) := by
  unfold f_X8_feed_35 at h
  refine e_iadd dX8_feed_35 ?_
  obtain ⟨x11, ex11, h⟩ := vlet_ex h
  refine e_nameI ex11.symm ?_
  clear ex11
  refine e_istore (lv' := [(6, .int x11), (0, .ref 174), (1, .int a1), (2, .int a2), (3, .int a3), (4, .int a4), (5, .int a5), (7, .int a7)]) dX8_feed_36 (by decide) rfl ?_
  obtain ⟨x12, ex12, h⟩ := vlet_ex h
  refine e_iinc (lv' := [(7, .int x12), (6, .int x11), (0, .ref 174), (1, .int a1), (2, .int a2), (3, .int a3), (4, .int a4), (5, .int a5)]) dX8_feed_38 rfl (ex12.symm) (by decide) rfl ?_
  clear ex12
  refine e_goto (tgt := 6) dX8_feed_41 (by decide) ?_
  refine e_sub [2, 3, 4, 5, 6, 7, 1, 0] rfl ?_
  exact hq6 v a1 a2 a3 a4 a5 x11 x12 h
set_option maxRecDepth 20000 in
theorem b_X8_feed_6 {X : Nat × (Nat → Int32)} {r : Int32 × rV}   : ∀ (n : Nat) (v : rV) (a1 : Int32) (a2 : Int32) (a3 : Int32) (a4 : Int32) (a5 : Int32) (a6 : Int32) (a7 : Int32) , f_X8_feed_6   n v a1 a2 a3 a4 a5 a6 a7 = some r → Ev mX8_feed 2 0 0 6 [(0, .ref 174), (1, .int a1), (2, .int a2), (3, .int a3), (4, .int a4), (5, .int a5), (6, .int a6), (7, .int a7)] [] (rZ X) v (rPI X r) := by
  intro n
  induction n with
  | zero =>
    intros
    rename_i h
    cases h
  | succ n ih =>
    intro v a1 a2 a3 a4 a5 a6 a7 h
    rw [f_X8_feed_6] at h
    refine e_iload dX8_feed_6 rfl ?_
    refine e_bipush (x := (20 : Int32)) dX8_feed_8 (by decide) ?_
    refine e_icmp_ge (tgt := 44) dX8_feed_10 (by decide) (fun c14 => ?_) (fun c14 => ?_)
    · rw [if_pos c14] at h
      refine e_aload_n dX8_feed_44 rfl ?_
      refine e_get (w := .int (v.1 174 2)) (j := 2) dX8_feed_45 k0_174 rc8 (by decide) wfX8_87 rfl ?_
      refine e_iload dX8_feed_48 rfl ?_
      refine e_iadd dX8_feed_50 ?_
      refine e_sipush (x := (160 : Int32)) dX8_feed_51 (by decide) ?_
      refine e_icmp_le (tgt := 59) dX8_feed_54 (by decide) (fun c9 => ?_) (fun c9 => ?_)
      · rw [if_pos c9] at h
        refine e_iconst (x := (0 : Int32)) dX8_feed_59 (by decide) ?_
        refine e_istore (lv' := [(7, .int (0 : Int32)), (0, .ref 174), (1, .int a1), (2, .int a2), (3, .int a3), (4, .int a4), (5, .int a5), (6, .int a6)]) dX8_feed_60 (by decide) rfl ?_
        refine e_sub [1, 2, 3, 4, 5, 6, 0] rfl ?_
        exact b_X8_feed_62  _ v a1 a2 a3 a4 a5 (0 : Int32) h
      · rw [if_neg c9] at h
        refine e_iconst (x := (-1 : Int32)) dX8_feed_57 (by decide) ?_
        obtain rfl := Option.some.inj h
        exact e_iret dX8_feed_58 rfl rfl ⟨rfl, rfl, rfl⟩
    · rw [if_neg c14] at h
      refine e_iload dX8_feed_13 rfl ?_
      refine e_iload_n dX8_feed_15 rfl ?_
      refine e_iload_n dX8_feed_16 rfl ?_
      refine e_iload_n dX8_feed_17 rfl ?_
      refine e_iload dX8_feed_18 rfl ?_
      refine e_iload dX8_feed_20 rfl ?_
      refine e_iload dX8_feed_22 rfl ?_
      refine c_SI (M' := mX8_byteOf) [.int a1, .int a2, .int a3, .int a4, .int a5, .int a7] dX8_feed_24 rfl wmX8_83 stX8_byteOf lkX8_byteOf (Nat.le_of_ble_eq_true rfl) ((x_X8_byteOf ).mono (by omega)) ?_
      refine e_if_eq (tgt := 34) dX8_feed_27 (by decide) (fun c13 => ?_) (fun c13 => ?_)
      · rw [if_pos c13] at h
        refine e_iconst (x := (0 : Int32)) dX8_feed_34 (by decide) ?_
        refine e_sub [0, 1, 2, 3, 4, 5, 7] rfl ?_
        exact b_X8_feed_35 (fun v a1 a2 a3 a4 a5 a6 a7  hh => ih v a1 a2 a3 a4 a5 a6 a7  hh) h
      · rw [if_neg c13] at h
        refine e_iconst (x := (1 : Int32)) dX8_feed_30 (by decide) ?_
        refine e_goto (tgt := 35) dX8_feed_31 (by decide) ?_
        refine e_sub [0, 1, 2, 3, 4, 5, 7] rfl ?_
        exact b_X8_feed_35 (fun v a1 a2 a3 a4 a5 a6 a7  hh => ih v a1 a2 a3 a4 a5 a6 a7  hh) h
set_option maxRecDepth 20000 in
theorem x_X8_feed {X : Nat × (Nat → Int32)} {v : rV} {r : Int32 × rV} {a1 : Int32} {a2 : Int32} {a3 : Int32} {a4 : Int32} {a5 : Int32}  (h : f_X8_feed v a1 a2 a3 a4 a5 = some r) : EvM mX8_feed 2 0 0 [.ref 174, .int a1, .int a2, .int a3, .int a4, .int a5] (rZ X) v (rPI X r) := by
  refine evm_of (by decide +kernel) (fun G => Nat.le_of_ble_eq_true rfl) ?_
  show Ev mX8_feed 2 0 0 0 [(0, .ref 174), (1, .int a1), (2, .int a2), (3, .int a3), (4, .int a4), (5, .int a5)] [] (rZ X) v _
  unfold f_X8_feed at h
  refine e_iconst (x := (0 : Int32)) dX8_feed_0 (by decide) ?_
  refine e_istore (lv' := [(6, .int (0 : Int32)), (0, .ref 174), (1, .int a1), (2, .int a2), (3, .int a3), (4, .int a4), (5, .int a5)]) dX8_feed_1 (by decide) rfl ?_
  refine e_iconst (x := (0 : Int32)) dX8_feed_3 (by decide) ?_
  refine e_istore (lv' := [(7, .int (0 : Int32)), (6, .int (0 : Int32)), (0, .ref 174), (1, .int a1), (2, .int a2), (3, .int a3), (4, .int a4), (5, .int a5)]) dX8_feed_4 (by decide) rfl ?_
  refine e_sub [2, 3, 4, 5, 6, 7, 1, 0] rfl ?_
  exact b_X8_feed_6  _ v a1 a2 a3 a4 a5 (0 : Int32) (0 : Int32) h
def f_X8_flow (v : rV) (a1 : Int32) : Option (Int32) := if (f_X8_isCell a1) = true then
  (if ¬ ((168 : Int32) + a1) < 0 ∧ ((168 : Int32) + a1).toNatClampNeg < 416 then
  (some (v.1 187 (((168 : Int32) + a1).toNatClampNeg)))
else none)
else
  (some (-100000 : Int32))
set_option maxRecDepth 20000 in
theorem x_X8_flow {X : Nat × (Nat → Int32)} {v : rV} {r : Int32} {a1 : Int32}  (h : f_X8_flow v a1 = some r) : EvM mX8_flow 3 0 0 [.ref 174, .int a1] (rZ X) v (rPI X (r, v)) := by
  refine evm_of (by decide +kernel) (fun G => Nat.le_of_ble_eq_true rfl) ?_
  show Ev mX8_flow 3 0 0 0 [(0, .ref 174), (1, .int a1)] [] (rZ X) v _
  unfold f_X8_flow at h
  refine e_iload_n dX8_flow_0 rfl ?_
  refine c_SZ (M' := mX8_isCell) [.int a1] dX8_flow_1 rfl wmX8_353 stX8_isCell lkX8_isCell (Nat.le_of_ble_eq_true rfl) ((x_X8_isCell ).mono (by omega)) ?_
  refine e_if_eq (tgt := 20) dX8_flow_4 (by decide) (fun c3 => ?_) (fun c3 => ?_)
  · rw [if_neg (bI_n c3)] at h
    refine e_ldcw dX8_flow_20 wcX8_356 ?_
    obtain rfl := Option.some.inj h
    exact e_iret dX8_flow_23 rfl rfl ⟨rfl, rfl, rfl⟩
  · rw [if_pos (bI_p c3)] at h
    refine e_aload_n dX8_flow_7 rfl ?_
    refine e_get (w := .ref 187) (j := 24) dX8_flow_8 k0_174 rc8 (by decide) wfX8_50 (g0_174_24) ?_
    refine e_sipush (x := (168 : Int32)) dX8_flow_11 (by decide) ?_
    refine e_iload_n dX8_flow_14 rfl ?_
    refine e_iadd dX8_flow_15 ?_
    obtain ⟨c2, h⟩ := grd h
    refine e_ialdJ dX8_flow_16 k0_187 rfl c2.2 c2.1 ?_
    refine e_goto (tgt := 23) dX8_flow_17 (by decide) ?_
    obtain rfl := Option.some.inj h
    exact e_iret dX8_flow_23 rfl rfl ⟨rfl, rfl, rfl⟩
def f_X8_free (v : rV) (a1 : Int32) (a2 : Int32) : Option (Int32) := if (f_X8_isCell a1) = true then
  (if (f_X8_in a2 (0 : Int32) (1 : Int32)) = true then
  (if ¬ (((24 : Int32) + ((24 : Int32) * a2)) + a1) < 0 ∧ (((24 : Int32) + ((24 : Int32) * a2)) + a1).toNatClampNeg < 416 then
  (some (v.1 187 ((((24 : Int32) + ((24 : Int32) * a2)) + a1).toNatClampNeg)))
else none)
else
  (some (-1 : Int32)))
else
  (some (-1 : Int32))
set_option maxRecDepth 20000 in
theorem x_X8_free {X : Nat × (Nat → Int32)} {v : rV} {r : Int32} {a1 : Int32} {a2 : Int32}  (h : f_X8_free v a1 a2 = some r) : EvM mX8_free 3 0 0 [.ref 174, .int a1, .int a2] (rZ X) v (rPI X (r, v)) := by
  refine evm_of (by decide +kernel) (fun G => Nat.le_of_ble_eq_true rfl) ?_
  show Ev mX8_free 3 0 0 0 [(0, .ref 174), (1, .int a1), (2, .int a2)] [] (rZ X) v _
  unfold f_X8_free at h
  refine e_iload_n dX8_free_0 rfl ?_
  refine c_SZ (M' := mX8_isCell) [.int a1] dX8_free_1 rfl wmX8_353 stX8_isCell lkX8_isCell (Nat.le_of_ble_eq_true rfl) ((x_X8_isCell ).mono (by omega)) ?_
  refine e_if_eq (tgt := 33) dX8_free_4 (by decide) (fun c5 => ?_) (fun c5 => ?_)
  · rw [if_neg (bI_n c5)] at h
    refine e_iconst (x := (-1 : Int32)) dX8_free_33 (by decide) ?_
    obtain rfl := Option.some.inj h
    exact e_iret dX8_free_34 rfl rfl ⟨rfl, rfl, rfl⟩
  · rw [if_pos (bI_p c5)] at h
    refine e_iload_n dX8_free_7 rfl ?_
    refine e_iconst (x := (0 : Int32)) dX8_free_8 (by decide) ?_
    refine e_iconst (x := (1 : Int32)) dX8_free_9 (by decide) ?_
    refine c_SZ (M' := mX8_in) [.int a2, .int (0 : Int32), .int (1 : Int32)] dX8_free_10 rfl wmX8_216 stX8_in lkX8_in (Nat.le_of_ble_eq_true rfl) ((x_X8_in ).mono (by omega)) ?_
    refine e_if_eq (tgt := 33) dX8_free_13 (by decide) (fun c4 => ?_) (fun c4 => ?_)
    · rw [if_neg (bI_n c4)] at h
      refine e_iconst (x := (-1 : Int32)) dX8_free_33 (by decide) ?_
      obtain rfl := Option.some.inj h
      exact e_iret dX8_free_34 rfl rfl ⟨rfl, rfl, rfl⟩
    · rw [if_pos (bI_p c4)] at h
      refine e_aload_n dX8_free_16 rfl ?_
      refine e_get (w := .ref 187) (j := 24) dX8_free_17 k0_174 rc8 (by decide) wfX8_50 (g0_174_24) ?_
      refine e_bipush (x := (24 : Int32)) dX8_free_20 (by decide) ?_
      refine e_bipush (x := (24 : Int32)) dX8_free_22 (by decide) ?_
      refine e_iload_n dX8_free_24 rfl ?_
      refine e_imul dX8_free_25 ?_
      refine e_iadd dX8_free_26 ?_
      refine e_iload_n dX8_free_27 rfl ?_
      refine e_iadd dX8_free_28 ?_
      obtain ⟨c3, h⟩ := grd h
      refine e_ialdJ dX8_free_29 k0_187 rfl c3.2 c3.1 ?_
      refine e_goto (tgt := 34) dX8_free_30 (by decide) ?_
      obtain rfl := Option.some.inj h
      exact e_iret dX8_free_34 rfl rfl ⟨rfl, rfl, rfl⟩
def f_X8_grain (v : rV) (a1 : Int32) (a2 : Int32) (a3 : Int32) : Option (Bool × rV) := if (f_X8_isStain v a1) = true then
  (if (f_X8_isCell a2) = true then
  (if (f_X8_in a3 (0 : Int32) (9999 : Int32)) = true then
  (if ¬ (((24 : Int32) * a1) + a2) < 0 ∧ (((24 : Int32) * a1) + a2).toNatClampNeg < 144 then
  (vlet (rI v 195 ((((24 : Int32) * a1) + a2).toNatClampNeg) a3) fun v5 =>
  some (true, v5))
else none)
else
  (some (false, v)))
else
  (some (false, v)))
else
  (some (false, v))
set_option maxRecDepth 20000 in
theorem x_X8_grain {X : Nat × (Nat → Int32)} {v : rV} {r : Bool × rV} {a1 : Int32} {a2 : Int32} {a3 : Int32}  (h : f_X8_grain v a1 a2 a3 = some r) : EvM mX8_grain 3 0 0 [.ref 174, .int a1, .int a2, .int a3] (rZ X) v (rPZ X r) := by
  refine evm_of (by decide +kernel) (fun G => Nat.le_of_ble_eq_true rfl) ?_
  show Ev mX8_grain 3 0 0 0 [(0, .ref 174), (1, .int a1), (2, .int a2), (3, .int a3)] [] (rZ X) v _
  unfold f_X8_grain at h
  refine e_aload_n dX8_grain_0 rfl ?_
  refine e_iload_n dX8_grain_1 rfl ?_
  refine c_VZ (M' := mX8_isStain) [.int a1] dX8_grain_2 rfl wmX8_397 imX8_isStain seX8_isStain lkX8_isStain k0_174 rc8 (Nat.le_of_ble_eq_true rfl) ((x_X8_isStain ).mono (by omega)) ?_
  refine e_if_eq (tgt := 26) dX8_grain_5 (by decide) (fun c8 => ?_) (fun c8 => ?_)
  · rw [if_neg (bI_n c8)] at h
    refine e_iconst (x := (0 : Int32)) dX8_grain_26 (by decide) ?_
    obtain rfl := Option.some.inj h
    exact e_iret dX8_grain_27 rfl rfl ⟨rfl, rfl, rfl⟩
  · rw [if_pos (bI_p c8)] at h
    refine e_iload_n dX8_grain_8 rfl ?_
    refine c_SZ (M' := mX8_isCell) [.int a2] dX8_grain_9 rfl wmX8_353 stX8_isCell lkX8_isCell (Nat.le_of_ble_eq_true rfl) ((x_X8_isCell ).mono (by omega)) ?_
    refine e_if_eq (tgt := 26) dX8_grain_12 (by decide) (fun c7 => ?_) (fun c7 => ?_)
    · rw [if_neg (bI_n c7)] at h
      refine e_iconst (x := (0 : Int32)) dX8_grain_26 (by decide) ?_
      obtain rfl := Option.some.inj h
      exact e_iret dX8_grain_27 rfl rfl ⟨rfl, rfl, rfl⟩
    · rw [if_pos (bI_p c7)] at h
      refine e_iload_n dX8_grain_15 rfl ?_
      refine e_iconst (x := (0 : Int32)) dX8_grain_16 (by decide) ?_
      refine e_sipush (x := (9999 : Int32)) dX8_grain_17 (by decide) ?_
      refine c_SZ (M' := mX8_in) [.int a3, .int (0 : Int32), .int (9999 : Int32)] dX8_grain_20 rfl wmX8_216 stX8_in lkX8_in (Nat.le_of_ble_eq_true rfl) ((x_X8_in ).mono (by omega)) ?_
      refine e_if_ne (tgt := 28) dX8_grain_23 (by decide) (fun c6 => ?_) (fun c6 => ?_)
      · rw [if_pos (bI_p c6)] at h
        refine e_aload_n dX8_grain_28 rfl ?_
        refine e_get (w := .ref 195) (j := 40) dX8_grain_29 k0_174 rc8 (by decide) wfX8_74 (g0_174_40) ?_
        refine e_bipush (x := (24 : Int32)) dX8_grain_32 (by decide) ?_
        refine e_iload_n dX8_grain_34 rfl ?_
        refine e_imul dX8_grain_35 ?_
        refine e_iload_n dX8_grain_36 rfl ?_
        refine e_iadd dX8_grain_37 ?_
        refine e_iload_n dX8_grain_38 rfl ?_
        obtain ⟨c4, h⟩ := grd h
        refine e_iastJ dX8_grain_39 k0_195 rfl c4.2 c4.1 ?_
        obtain ⟨v5, ev5, h⟩ := vlet_ex h
        refine e_nameV ev5.symm ?_
        clear ev5
        refine e_iconst (x := (1 : Int32)) dX8_grain_40 (by decide) ?_
        obtain rfl := Option.some.inj h
        exact e_iret dX8_grain_41 rfl rfl ⟨rfl, rfl, rfl⟩
      · rw [if_neg (bI_n c6)] at h
        refine e_iconst (x := (0 : Int32)) dX8_grain_26 (by decide) ?_
        obtain rfl := Option.some.inj h
        exact e_iret dX8_grain_27 rfl rfl ⟨rfl, rfl, rfl⟩
def f_X8_heap (v : rV) (a1 : Int32) (a2 : Int32) : Option (Int32) := if (f_X8_isCell a1) = true then
  (if (f_X8_in a2 (0 : Int32) (1 : Int32)) = true then
  (if a2 = 0 then
  (if ¬ ((120 : Int32) + a1) < 0 ∧ ((120 : Int32) + a1).toNatClampNeg < 416 then
  (some (v.1 187 (((120 : Int32) + a1).toNatClampNeg)))
else none)
else
  (if ¬ ((144 : Int32) + a1) < 0 ∧ ((144 : Int32) + a1).toNatClampNeg < 416 then
  (some (v.1 187 (((144 : Int32) + a1).toNatClampNeg)))
else none))
else
  (some (-1 : Int32)))
else
  (some (-1 : Int32))
set_option maxRecDepth 20000 in
theorem x_X8_heap {X : Nat × (Nat → Int32)} {v : rV} {r : Int32} {a1 : Int32} {a2 : Int32}  (h : f_X8_heap v a1 a2 = some r) : EvM mX8_heap 3 0 0 [.ref 174, .int a1, .int a2] (rZ X) v (rPI X (r, v)) := by
  refine evm_of (by decide +kernel) (fun G => Nat.le_of_ble_eq_true rfl) ?_
  show Ev mX8_heap 3 0 0 0 [(0, .ref 174), (1, .int a1), (2, .int a2)] [] (rZ X) v _
  unfold f_X8_heap at h
  refine e_iload_n dX8_heap_0 rfl ?_
  refine c_SZ (M' := mX8_isCell) [.int a1] dX8_heap_1 rfl wmX8_353 stX8_isCell lkX8_isCell (Nat.le_of_ble_eq_true rfl) ((x_X8_isCell ).mono (by omega)) ?_
  refine e_if_eq (tgt := 38) dX8_heap_4 (by decide) (fun c7 => ?_) (fun c7 => ?_)
  · rw [if_neg (bI_n c7)] at h
    refine e_iconst (x := (-1 : Int32)) dX8_heap_38 (by decide) ?_
    obtain rfl := Option.some.inj h
    exact e_iret dX8_heap_39 rfl rfl ⟨rfl, rfl, rfl⟩
  · rw [if_pos (bI_p c7)] at h
    refine e_iload_n dX8_heap_7 rfl ?_
    refine e_iconst (x := (0 : Int32)) dX8_heap_8 (by decide) ?_
    refine e_iconst (x := (1 : Int32)) dX8_heap_9 (by decide) ?_
    refine c_SZ (M' := mX8_in) [.int a2, .int (0 : Int32), .int (1 : Int32)] dX8_heap_10 rfl wmX8_216 stX8_in lkX8_in (Nat.le_of_ble_eq_true rfl) ((x_X8_in ).mono (by omega)) ?_
    refine e_if_eq (tgt := 38) dX8_heap_13 (by decide) (fun c6 => ?_) (fun c6 => ?_)
    · rw [if_neg (bI_n c6)] at h
      refine e_iconst (x := (-1 : Int32)) dX8_heap_38 (by decide) ?_
      obtain rfl := Option.some.inj h
      exact e_iret dX8_heap_39 rfl rfl ⟨rfl, rfl, rfl⟩
    · rw [if_pos (bI_p c6)] at h
      refine e_aload_n dX8_heap_16 rfl ?_
      refine e_get (w := .ref 187) (j := 24) dX8_heap_17 k0_174 rc8 (by decide) wfX8_50 (g0_174_24) ?_
      refine e_iload_n dX8_heap_20 rfl ?_
      refine e_if_ne (tgt := 29) dX8_heap_21 (by decide) (fun c5 => ?_) (fun c5 => ?_)
      · rw [if_neg c5] at h
        refine e_sipush (x := (144 : Int32)) dX8_heap_29 (by decide) ?_
        refine e_iload_n dX8_heap_32 rfl ?_
        refine e_iadd dX8_heap_33 ?_
        obtain ⟨c3, h⟩ := grd h
        refine e_ialdJ dX8_heap_34 k0_187 rfl c3.2 c3.1 ?_
        refine e_goto (tgt := 39) dX8_heap_35 (by decide) ?_
        obtain rfl := Option.some.inj h
        exact e_iret dX8_heap_39 rfl rfl ⟨rfl, rfl, rfl⟩
      · rw [if_pos c5] at h
        refine e_bipush (x := (120 : Int32)) dX8_heap_24 (by decide) ?_
        refine e_goto (tgt := 32) dX8_heap_26 (by decide) ?_
        refine e_iload_n dX8_heap_32 rfl ?_
        refine e_iadd dX8_heap_33 ?_
        obtain ⟨c4, h⟩ := grd h
        refine e_ialdJ dX8_heap_34 k0_187 rfl c4.2 c4.1 ?_
        refine e_goto (tgt := 39) dX8_heap_35 (by decide) ?_
        obtain rfl := Option.some.inj h
        exact e_iret dX8_heap_39 rfl rfl ⟨rfl, rfl, rfl⟩
def f_X8_image_2   : Nat → rV → Int32 → Option (Int32 × rV)
  | 0, _, _ => none
  | n + 1, v, a1 => if (416 : Int32) ≤ a1 then
  (vlet (rL v 174 29 (v.2.1 174 27)) fun v1 =>
  vlet (rI v1 174 30 (1 : Int32)) fun v2 =>
  some (v2.1 187 289, v2))
else
  (if ¬ a1 < 0 ∧ a1.toNatClampNeg < 416 then
  (vlet (rI v 189 a1.toNatClampNeg (v.1 187 a1.toNatClampNeg)) fun v4 =>
  vlet (a1 + (1 : Int32)) fun x5 =>
  f_X8_image_2  n v4 x5)
else none)
def f_X8_image (v : rV)  : Option (Int32 × rV) := f_X8_image_2  20000 v (0 : Int32)
set_option maxRecDepth 20000 in
theorem b_X8_image_2 {X : Nat × (Nat → Int32)} {r : Int32 × rV}   : ∀ (n : Nat) (v : rV) (a1 : Int32) , f_X8_image_2   n v a1 = some r → Ev mX8_image 1 0 0 2 [(0, .ref 174), (1, .int a1)] [] (rZ X) v (rPI X r) := by
  intro n
  induction n with
  | zero =>
    intros
    rename_i h
    cases h
  | succ n ih =>
    intro v a1 h
    rw [f_X8_image_2] at h
    refine e_iload_n dX8_image_2 rfl ?_
    refine e_sipush (x := (416 : Int32)) dX8_image_3 (by decide) ?_
    refine e_icmp_ge (tgt := 27) dX8_image_6 (by decide) (fun c6 => ?_) (fun c6 => ?_)
    · rw [if_pos c6] at h
      refine e_aload_n dX8_image_27 rfl ?_
      refine e_aload_n dX8_image_28 rfl ?_
      refine e_get (w := .long (v.2.1 174 27)) (j := 27) dX8_image_29 k0_174 rc8 (by decide) wfX8_254 rfl ?_
      refine e_putL (j := 29) dX8_image_32 k0_174 rc8 (by decide) wfX8_417 rfl rfl ?_
      obtain ⟨v1, ev1, h⟩ := vlet_ex h
      refine e_nameV ev1.symm ?_
      clear ev1
      refine e_aload_n dX8_image_35 rfl ?_
      refine e_iconst (x := (1 : Int32)) dX8_image_36 (by decide) ?_
      refine e_putZ (j := 30) dX8_image_37 k0_174 rc8 (by decide) wfX8_420 rfl rfl (by decide) ?_
      obtain ⟨v2, ev2, h⟩ := vlet_ex h
      refine e_nameV ev2.symm ?_
      clear ev2
      refine e_aload_n dX8_image_40 rfl ?_
      refine e_get (w := .ref 187) (j := 24) dX8_image_41 k0_174 rc8 (by decide) wfX8_50 (g0_174_24) ?_
      refine e_sipush (x := (289 : Int32)) dX8_image_44 (by decide) ?_
      refine e_ialdJ dX8_image_47 k0_187 (j := 289) (by decide) (by decide) (by decide) ?_
      obtain rfl := Option.some.inj h
      exact e_iret dX8_image_48 rfl rfl ⟨rfl, rfl, rfl⟩
    · rw [if_neg c6] at h
      refine e_aload_n dX8_image_9 rfl ?_
      refine e_get (w := .ref 189) (j := 26) dX8_image_10 k0_174 rc8 (by decide) wfX8_56 (g0_174_26) ?_
      refine e_iload_n dX8_image_13 rfl ?_
      refine e_aload_n dX8_image_14 rfl ?_
      refine e_get (w := .ref 187) (j := 24) dX8_image_15 k0_174 rc8 (by decide) wfX8_50 (g0_174_24) ?_
      refine e_iload_n dX8_image_18 rfl ?_
      obtain ⟨c3, h⟩ := grd h
      refine e_ialdJ dX8_image_19 k0_187 rfl c3.2 c3.1 ?_
      refine e_iastJ dX8_image_20 k0_189 rfl (c3).2 (c3).1 ?_
      obtain ⟨v4, ev4, h⟩ := vlet_ex h
      refine e_nameV ev4.symm ?_
      clear ev4
      obtain ⟨x5, ex5, h⟩ := vlet_ex h
      refine e_iinc (lv' := [(1, .int x5), (0, .ref 174)]) dX8_image_21 rfl (ex5.symm) (by decide) rfl ?_
      clear ex5
      refine e_goto (tgt := 2) dX8_image_24 (by decide) ?_
      refine e_sub [1, 0] rfl ?_
      exact ih v4 x5 h
set_option maxRecDepth 20000 in
theorem x_X8_image {X : Nat × (Nat → Int32)} {v : rV} {r : Int32 × rV}   (h : f_X8_image v = some r) : EvM mX8_image 1 0 0 [.ref 174] (rZ X) v (rPI X r) := by
  refine evm_of (by decide +kernel) (fun G => Nat.le_of_ble_eq_true rfl) ?_
  show Ev mX8_image 1 0 0 0 [(0, .ref 174)] [] (rZ X) v _
  unfold f_X8_image at h
  refine e_iconst (x := (0 : Int32)) dX8_image_0 (by decide) ?_
  refine e_istore_n (lv' := [(1, .int (0 : Int32)), (0, .ref 174)]) dX8_image_1 (by decide) rfl ?_
  refine e_sub [1, 0] rfl ?_
  exact b_X8_image_2  _ v (0 : Int32) h
def f_X8_isLetter (a0 : Int32) : Bool := if (f_X8_in a0 (3 : Int32) (9 : Int32)) = true then
  (if a0 = (8 : Int32) then
  (false)
else
  (true))
else
  (false)
set_option maxRecDepth 20000 in
theorem x_X8_isLetter {X : Nat × (Nat → Int32)} {v : rV} {a0 : Int32}  : EvM mX8_isLetter 2 0 0 [.int a0] (rZ X) v (rPZ X ((f_X8_isLetter a0), v)) := by
  refine evm_of (by decide +kernel) (fun G => Nat.le_of_ble_eq_true rfl) ?_
  show Ev mX8_isLetter 2 0 0 0 [(0, .int a0)] [] (rZ X) v _
  generalize h : f_X8_isLetter a0 = r
  unfold f_X8_isLetter at h
  refine e_iload_n dX8_isLetter_0 rfl ?_
  refine e_iconst (x := (3 : Int32)) dX8_isLetter_1 (by decide) ?_
  refine e_bipush (x := (9 : Int32)) dX8_isLetter_2 (by decide) ?_
  refine c_SZ (M' := mX8_in) [.int a0, .int (3 : Int32), .int (9 : Int32)] dX8_isLetter_4 rfl wmX8_216 stX8_in lkX8_in (Nat.le_of_ble_eq_true rfl) ((x_X8_in ).mono (by omega)) ?_
  refine e_if_eq (tgt := 20) dX8_isLetter_7 (by decide) (fun c3 => ?_) (fun c3 => ?_)
  · rw [if_neg (bI_n c3)] at h
    refine e_iconst (x := (0 : Int32)) dX8_isLetter_20 (by decide) ?_
    subst h
    exact e_iret dX8_isLetter_21 rfl rfl ⟨rfl, rfl, rfl⟩
  · rw [if_pos (bI_p c3)] at h
    refine e_iload_n dX8_isLetter_10 rfl ?_
    refine e_bipush (x := (8 : Int32)) dX8_isLetter_11 (by decide) ?_
    refine e_icmp_eq (tgt := 20) dX8_isLetter_13 (by decide) (fun c2 => ?_) (fun c2 => ?_)
    · rw [if_pos c2] at h
      refine e_iconst (x := (0 : Int32)) dX8_isLetter_20 (by decide) ?_
      subst h
      exact e_iret dX8_isLetter_21 rfl rfl ⟨rfl, rfl, rfl⟩
    · rw [if_neg c2] at h
      refine e_iconst (x := (1 : Int32)) dX8_isLetter_16 (by decide) ?_
      refine e_goto (tgt := 21) dX8_isLetter_17 (by decide) ?_
      subst h
      exact e_iret dX8_isLetter_21 rfl rfl ⟨rfl, rfl, rfl⟩
def f_X8_isMet_2   : Nat → rV → Int32 → Int32 → Option (Bool × rV)
  | 0, _, _, _ => none
  | n + 1, v, a1, a2 => if (6 : Int32) ≤ a2 then
  (vlet ((4 : Int32) + a1 : Int32) fun x1 =>
  if ¬ x1 < 0 ∧ x1.toNatClampNeg < 9 then
  ((f_X8_workOut v x1 (0 : Int32) (v.1 178 x1.toNatClampNeg)).bind fun p3 =>
  if p3.1 = 0 then
  (some (false, p3.2))
else
  (some (true, p3.2)))
else none)
else
  ((f_X8_about v a2).bind fun p5 =>
  if ¬ a2 < 0 ∧ a2.toNatClampNeg < 7 then
  (vlet (rI v 183 a2.toNatClampNeg p5) fun v7 =>
  vlet (a2 + (1 : Int32)) fun x8 =>
  f_X8_isMet_2  n v7 a1 x8)
else none)
def f_X8_isMet (v : rV) (a1 : Int32) : Option (Bool × rV) := f_X8_isMet_2  20000 v a1 (0 : Int32)
set_option maxRecDepth 20000 in
theorem b_X8_isMet_2 {X : Nat × (Nat → Int32)} {r : Bool × rV}   : ∀ (n : Nat) (v : rV) (a1 : Int32) (a2 : Int32) , f_X8_isMet_2   n v a1 a2 = some r → Ev mX8_isMet 6 0 0 2 [(0, .ref 174), (1, .int a1), (2, .int a2)] [] (rZ X) v (rPZ X r) := by
  intro n
  induction n with
  | zero =>
    intros
    rename_i h
    cases h
  | succ n ih =>
    intro v a1 a2 h
    rw [f_X8_isMet_2] at h
    refine e_iload_n dX8_isMet_2 rfl ?_
    refine e_bipush (x := (6 : Int32)) dX8_isMet_3 (by decide) ?_
    refine e_icmp_ge (tgt := 25) dX8_isMet_5 (by decide) (fun c9 => ?_) (fun c9 => ?_)
    · rw [if_pos c9] at h
      refine e_iconst (x := (4 : Int32)) dX8_isMet_25 (by decide) ?_
      refine e_iload_n dX8_isMet_26 rfl ?_
      refine e_iadd dX8_isMet_27 ?_
      obtain ⟨x1, ex1, h⟩ := vlet_ex h
      refine e_nameI ex1.symm ?_
      clear ex1
      refine e_istore_n (lv' := [(2, .int x1), (0, .ref 174), (1, .int a1)]) dX8_isMet_28 (by decide) rfl ?_
      refine e_aload_n dX8_isMet_29 rfl ?_
      refine e_iload_n dX8_isMet_30 rfl ?_
      refine e_iconst (x := (0 : Int32)) dX8_isMet_31 (by decide) ?_
      refine e_aload_n dX8_isMet_32 rfl ?_
      refine e_get (w := .ref 178) (j := 8) dX8_isMet_33 k0_174 rc8 (by decide) wfX8_19 (g0_174_8) ?_
      refine e_iload_n dX8_isMet_36 rfl ?_
      obtain ⟨c2, h⟩ := grd h
      refine e_ialdJ dX8_isMet_37 k0_178 rfl c2.2 c2.1 ?_
      obtain ⟨p3, ep3, h⟩ := Option.bind_eq_some_iff.mp h
      refine c_VI (M' := mX8_workOut) [.int x1, .int (0 : Int32), .int (v.1 178 x1.toNatClampNeg)] dX8_isMet_38 rfl wmX8_196 imX8_workOut seX8_workOut lkX8_workOut k0_174 rc8 (Nat.le_of_ble_eq_true rfl) ((x_X8_workOut  ep3).mono (by omega)) ?_
      refine e_if_eq (tgt := 48) dX8_isMet_41 (by decide) (fun c4 => ?_) (fun c4 => ?_)
      · rw [if_pos c4] at h
        refine e_iconst (x := (0 : Int32)) dX8_isMet_48 (by decide) ?_
        obtain rfl := Option.some.inj h
        exact e_iret dX8_isMet_49 rfl rfl ⟨rfl, rfl, rfl⟩
      · rw [if_neg c4] at h
        refine e_iconst (x := (1 : Int32)) dX8_isMet_44 (by decide) ?_
        refine e_goto (tgt := 49) dX8_isMet_45 (by decide) ?_
        obtain rfl := Option.some.inj h
        exact e_iret dX8_isMet_49 rfl rfl ⟨rfl, rfl, rfl⟩
    · rw [if_neg c9] at h
      refine e_aload_n dX8_isMet_8 rfl ?_
      refine e_get (w := .ref 183) (j := 17) dX8_isMet_9 k0_174 rc8 (by decide) wfX8_34 (g0_174_17) ?_
      refine e_iload_n dX8_isMet_12 rfl ?_
      refine e_aload_n dX8_isMet_13 rfl ?_
      refine e_iload_n dX8_isMet_14 rfl ?_
      obtain ⟨p5, ep5, h⟩ := Option.bind_eq_some_iff.mp h
      refine c_VI (M' := mX8_about) [.int a2] dX8_isMet_15 rfl wmX8_372 imX8_about seX8_about lkX8_about k0_174 rc8 (Nat.le_of_ble_eq_true rfl) ((x_X8_about  ep5).mono (by omega)) ?_
      obtain ⟨c6, h⟩ := grd h
      refine e_iastJ dX8_isMet_18 k0_183 rfl c6.2 c6.1 ?_
      obtain ⟨v7, ev7, h⟩ := vlet_ex h
      refine e_nameV ev7.symm ?_
      clear ev7
      obtain ⟨x8, ex8, h⟩ := vlet_ex h
      refine e_iinc (lv' := [(2, .int x8), (0, .ref 174), (1, .int a1)]) dX8_isMet_19 rfl (ex8.symm) (by decide) rfl ?_
      clear ex8
      refine e_goto (tgt := 2) dX8_isMet_22 (by decide) ?_
      refine e_sub [1, 2, 0] rfl ?_
      exact ih v7 a1 x8 h
set_option maxRecDepth 20000 in
theorem x_X8_isMet {X : Nat × (Nat → Int32)} {v : rV} {r : Bool × rV} {a1 : Int32}  (h : f_X8_isMet v a1 = some r) : EvM mX8_isMet 6 0 0 [.ref 174, .int a1] (rZ X) v (rPZ X r) := by
  refine evm_of (by decide +kernel) (fun G => Nat.le_of_ble_eq_true rfl) ?_
  show Ev mX8_isMet 6 0 0 0 [(0, .ref 174), (1, .int a1)] [] (rZ X) v _
  unfold f_X8_isMet at h
  refine e_iconst (x := (0 : Int32)) dX8_isMet_0 (by decide) ?_
  refine e_istore_n (lv' := [(2, .int (0 : Int32)), (0, .ref 174), (1, .int a1)]) dX8_isMet_1 (by decide) rfl ?_
  refine e_sub [1, 2, 0] rfl ?_
  exact b_X8_isMet_2  _ v a1 (0 : Int32) h
def f_X8_isRead_2 (v : rV)  : Nat → Int32 → Int32 → Int32 → Option (Bool)
  | 0, _, _, _ => none
  | n + 1, a1, a2, a3 => if (24 : Int32) ≤ a3 then
  (some true)
else
  ((f_X8_laidIn v a3).bind fun p1 =>
  if ¬ (((24 : Int32) * a1) + a3) < 0 ∧ (((24 : Int32) * a1) + a3).toNatClampNeg < 144 then
  (if (if 0 ≤ (p1 - (v.1 195 ((((24 : Int32) * a1) + a3).toNatClampNeg))) then (p1 - (v.1 195 ((((24 : Int32) * a1) + a3).toNatClampNeg))) else 0 - (p1 - (v.1 195 ((((24 : Int32) * a1) + a3).toNatClampNeg)))) ≤ a2 then
  (vlet (a3 + (1 : Int32)) fun x3 =>
  f_X8_isRead_2 v n a1 a2 x3)
else
  (some false))
else none)
def f_X8_isRead (v : rV) (a1 : Int32) (a2 : Int32) : Option (Bool) := f_X8_isRead_2 v 20000 a1 a2 (0 : Int32)
set_option maxRecDepth 20000 in
theorem b_X8_isRead_2 {X : Nat × (Nat → Int32)} {r : Bool} {v : rV}   : ∀ (n : Nat) (a1 : Int32) (a2 : Int32) (a3 : Int32) , f_X8_isRead_2 v  n a1 a2 a3 = some r → Ev mX8_isRead 4 0 0 2 [(0, .ref 174), (1, .int a1), (2, .int a2), (3, .int a3)] [] (rZ X) v (rPZ X (r, v)) := by
  intro n
  induction n with
  | zero =>
    intros
    rename_i h
    cases h
  | succ n ih =>
    intro a1 a2 a3 h
    rw [f_X8_isRead_2] at h
    refine e_iload_n dX8_isRead_2 rfl ?_
    refine e_bipush (x := (24 : Int32)) dX8_isRead_3 (by decide) ?_
    refine e_icmp_ge (tgt := 40) dX8_isRead_5 (by decide) (fun c5 => ?_) (fun c5 => ?_)
    · rw [if_pos c5] at h
      refine e_iconst (x := (1 : Int32)) dX8_isRead_40 (by decide) ?_
      obtain rfl := Option.some.inj h
      exact e_iret dX8_isRead_41 rfl rfl ⟨rfl, rfl, rfl⟩
    · rw [if_neg c5] at h
      refine e_aload_n dX8_isRead_8 rfl ?_
      refine e_iload_n dX8_isRead_9 rfl ?_
      obtain ⟨p1, ep1, h⟩ := Option.bind_eq_some_iff.mp h
      refine c_VI (M' := mX8_laidIn) [.int a3] dX8_isRead_10 rfl wmX8_357 imX8_laidIn seX8_laidIn lkX8_laidIn k0_174 rc8 (Nat.le_of_ble_eq_true rfl) ((x_X8_laidIn  ep1).mono (by omega)) ?_
      refine e_aload_n dX8_isRead_13 rfl ?_
      refine e_get (w := .ref 195) (j := 40) dX8_isRead_14 k0_174 rc8 (by decide) wfX8_74 (g0_174_40) ?_
      refine e_bipush (x := (24 : Int32)) dX8_isRead_17 (by decide) ?_
      refine e_iload_n dX8_isRead_19 rfl ?_
      refine e_imul dX8_isRead_20 ?_
      refine e_iload_n dX8_isRead_21 rfl ?_
      refine e_iadd dX8_isRead_22 ?_
      obtain ⟨c2, h⟩ := grd h
      refine e_ialdJ dX8_isRead_23 k0_195 rfl c2.2 c2.1 ?_
      refine e_isub dX8_isRead_24 ?_
      refine e_abs dX8_isRead_25 wmX8_308 wmst_abs winimath wmcd_abs (by omega) (Nat.le_of_ble_eq_true rfl) ?_
      refine e_iload_n dX8_isRead_28 rfl ?_
      refine e_icmp_le (tgt := 34) dX8_isRead_29 (by decide) (fun c4 => ?_) (fun c4 => ?_)
      · rw [if_pos c4] at h
        obtain ⟨x3, ex3, h⟩ := vlet_ex h
        refine e_iinc (lv' := [(3, .int x3), (0, .ref 174), (1, .int a1), (2, .int a2)]) dX8_isRead_34 rfl (ex3.symm) (by decide) rfl ?_
        clear ex3
        refine e_goto (tgt := 2) dX8_isRead_37 (by decide) ?_
        refine e_sub [1, 2, 3, 0] rfl ?_
        exact ih a1 a2 x3 h
      · rw [if_neg c4] at h
        refine e_iconst (x := (0 : Int32)) dX8_isRead_32 (by decide) ?_
        obtain rfl := Option.some.inj h
        exact e_iret dX8_isRead_33 rfl rfl ⟨rfl, rfl, rfl⟩
set_option maxRecDepth 20000 in
theorem x_X8_isRead {X : Nat × (Nat → Int32)} {v : rV} {r : Bool} {a1 : Int32} {a2 : Int32}  (h : f_X8_isRead v a1 a2 = some r) : EvM mX8_isRead 4 0 0 [.ref 174, .int a1, .int a2] (rZ X) v (rPZ X (r, v)) := by
  refine evm_of (by decide +kernel) (fun G => Nat.le_of_ble_eq_true rfl) ?_
  show Ev mX8_isRead 4 0 0 0 [(0, .ref 174), (1, .int a1), (2, .int a2)] [] (rZ X) v _
  unfold f_X8_isRead at h
  refine e_iconst (x := (0 : Int32)) dX8_isRead_0 (by decide) ?_
  refine e_istore_n (lv' := [(3, .int (0 : Int32)), (0, .ref 174), (1, .int a1), (2, .int a2)]) dX8_isRead_1 (by decide) rfl ?_
  refine e_sub [1, 2, 3, 0] rfl ?_
  exact b_X8_isRead_2  _ a1 a2 (0 : Int32) h
def f_X8_join_28   : Nat → rV → Int32 → Int32 → Int32 → Int32 → Option (Int32 × rV)
  | 0, _, _, _, _, _ => none
  | n + 1, v, a1, a2, a3, a4 => if (24 : Int32) ≤ a4 then
  (some (a3, v))
else
  (vlet (((24 : Int32) * a1) + a4 : Int32) fun x3 =>
  if ¬ x3 < 0 ∧ x3.toNatClampNeg < 144 then
  (if ¬ (((24 : Int32) * a2) + a4) < 0 ∧ (((24 : Int32) * a2) + a4).toNatClampNeg < 144 then
  (vlet (rI v 195 x3.toNatClampNeg (if ((v.1 195 x3.toNatClampNeg) + (v.1 195 ((((24 : Int32) * a2) + a4).toNatClampNeg))) < (9999 : Int32) then ((v.1 195 x3.toNatClampNeg) + (v.1 195 ((((24 : Int32) * a2) + a4).toNatClampNeg))) else (9999 : Int32))) fun v6 =>
  vlet (a3 + (v6.1 195 x3.toNatClampNeg) : Int32) fun x7 =>
  vlet (a4 + (1 : Int32)) fun x8 =>
  f_X8_join_28  n v6 a1 a2 x7 x8)
else none)
else none)
def f_X8_join (v : rV) (a1 : Int32) (a2 : Int32) : Option (Int32 × rV) := if (f_X8_isStain v a1) = true then
  (if (f_X8_isStain v a2) = true then
  (if a1 = a2 then
  (some ((-1 : Int32), v))
else
  (f_X8_join_28  20000 v a1 a2 (0 : Int32) (0 : Int32)))
else
  (some ((-1 : Int32), v)))
else
  (some ((-1 : Int32), v))
set_option maxRecDepth 20000 in
theorem b_X8_join_28 {X : Nat × (Nat → Int32)} {r : Int32 × rV}   : ∀ (n : Nat) (v : rV) (a1 : Int32) (a2 : Int32) (a3 : Int32) (a4 : Int32) , f_X8_join_28   n v a1 a2 a3 a4 = some r → Ev mX8_join 3 0 0 28 [(0, .ref 174), (1, .int a1), (2, .int a2), (3, .int a3), (4, .int a4)] [] (rZ X) v (rPI X r) := by
  intro n
  induction n with
  | zero =>
    intros
    rename_i h
    cases h
  | succ n ih =>
    intro v a1 a2 a3 a4 h
    rw [f_X8_join_28] at h
    refine e_iload dX8_join_28 rfl ?_
    refine e_bipush (x := (24 : Int32)) dX8_join_30 (by decide) ?_
    refine e_icmp_ge (tgt := 93) dX8_join_32 (by decide) (fun c9 => ?_) (fun c9 => ?_)
    · rw [if_pos c9] at h
      refine e_iload_n dX8_join_93 rfl ?_
      obtain rfl := Option.some.inj h
      exact e_iret dX8_join_94 rfl rfl ⟨rfl, rfl, rfl⟩
    · rw [if_neg c9] at h
      refine e_bipush (x := (24 : Int32)) dX8_join_35 (by decide) ?_
      refine e_iload_n dX8_join_37 rfl ?_
      refine e_imul dX8_join_38 ?_
      refine e_iload dX8_join_39 rfl ?_
      refine e_iadd dX8_join_41 ?_
      obtain ⟨x3, ex3, h⟩ := vlet_ex h
      refine e_nameI ex3.symm ?_
      clear ex3
      refine e_istore (lv' := [(5, .int x3), (0, .ref 174), (1, .int a1), (2, .int a2), (3, .int a3), (4, .int a4)]) dX8_join_42 (by decide) rfl ?_
      refine e_aload_n dX8_join_44 rfl ?_
      refine e_get (w := .ref 195) (j := 40) dX8_join_45 k0_174 rc8 (by decide) wfX8_74 (g0_174_40) ?_
      refine e_iload dX8_join_48 rfl ?_
      refine e_sipush (x := (9999 : Int32)) dX8_join_50 (by decide) ?_
      refine e_aload_n dX8_join_53 rfl ?_
      refine e_get (w := .ref 195) (j := 40) dX8_join_54 k0_174 rc8 (by decide) wfX8_74 (g0_174_40) ?_
      refine e_iload dX8_join_57 rfl ?_
      obtain ⟨c4, h⟩ := grd h
      refine e_ialdJ dX8_join_59 k0_195 rfl c4.2 c4.1 ?_
      refine e_aload_n dX8_join_60 rfl ?_
      refine e_get (w := .ref 195) (j := 40) dX8_join_61 k0_174 rc8 (by decide) wfX8_74 (g0_174_40) ?_
      refine e_bipush (x := (24 : Int32)) dX8_join_64 (by decide) ?_
      refine e_iload_n dX8_join_66 rfl ?_
      refine e_imul dX8_join_67 ?_
      refine e_iload dX8_join_68 rfl ?_
      refine e_iadd dX8_join_70 ?_
      obtain ⟨c5, h⟩ := grd h
      refine e_ialdJ dX8_join_71 k0_195 rfl c5.2 c5.1 ?_
      refine e_iadd dX8_join_72 ?_
      refine e_min dX8_join_73 wmX8_261 wmst_min winimath wmcd_min (by omega) (Nat.le_of_ble_eq_true rfl) ?_
      refine e_iastJ dX8_join_76 k0_195 rfl (c4).2 (c4).1 ?_
      obtain ⟨v6, ev6, h⟩ := vlet_ex h
      refine e_nameV ev6.symm ?_
      clear ev6
      refine e_iload_n dX8_join_77 rfl ?_
      refine e_aload_n dX8_join_78 rfl ?_
      refine e_get (w := .ref 195) (j := 40) dX8_join_79 k0_174 rc8 (by decide) wfX8_74 (g0_174_40) ?_
      refine e_iload dX8_join_82 rfl ?_
      refine e_ialdJ dX8_join_84 k0_195 rfl (c4).2 (c4).1 ?_
      refine e_iadd dX8_join_85 ?_
      obtain ⟨x7, ex7, h⟩ := vlet_ex h
      refine e_nameI ex7.symm ?_
      clear ex7
      refine e_istore_n (lv' := [(3, .int x7), (5, .int x3), (0, .ref 174), (1, .int a1), (2, .int a2), (4, .int a4)]) dX8_join_86 (by decide) rfl ?_
      obtain ⟨x8, ex8, h⟩ := vlet_ex h
      refine e_iinc (lv' := [(4, .int x8), (3, .int x7), (5, .int x3), (0, .ref 174), (1, .int a1), (2, .int a2)]) dX8_join_87 rfl (ex8.symm) (by decide) rfl ?_
      clear ex8
      refine e_goto (tgt := 28) dX8_join_90 (by decide) ?_
      refine e_sub [3, 4, 5, 1, 0] rfl ?_
      exact ih v6 a1 a2 x7 x8 h
set_option maxRecDepth 20000 in
theorem x_X8_join {X : Nat × (Nat → Int32)} {v : rV} {r : Int32 × rV} {a1 : Int32} {a2 : Int32}  (h : f_X8_join v a1 a2 = some r) : EvM mX8_join 3 0 0 [.ref 174, .int a1, .int a2] (rZ X) v (rPI X r) := by
  refine evm_of (by decide +kernel) (fun G => Nat.le_of_ble_eq_true rfl) ?_
  show Ev mX8_join 3 0 0 0 [(0, .ref 174), (1, .int a1), (2, .int a2)] [] (rZ X) v _
  unfold f_X8_join at h
  refine e_aload_n dX8_join_0 rfl ?_
  refine e_iload_n dX8_join_1 rfl ?_
  refine c_VZ (M' := mX8_isStain) [.int a1] dX8_join_2 rfl wmX8_397 imX8_isStain seX8_isStain lkX8_isStain k0_174 rc8 (Nat.le_of_ble_eq_true rfl) ((x_X8_isStain ).mono (by omega)) ?_
  refine e_if_eq (tgt := 21) dX8_join_5 (by decide) (fun c12 => ?_) (fun c12 => ?_)
  · rw [if_neg (bI_n c12)] at h
    refine e_iconst (x := (-1 : Int32)) dX8_join_21 (by decide) ?_
    obtain rfl := Option.some.inj h
    exact e_iret dX8_join_22 rfl rfl ⟨rfl, rfl, rfl⟩
  · rw [if_pos (bI_p c12)] at h
    refine e_aload_n dX8_join_8 rfl ?_
    refine e_iload_n dX8_join_9 rfl ?_
    refine c_VZ (M' := mX8_isStain) [.int a2] dX8_join_10 rfl wmX8_397 imX8_isStain seX8_isStain lkX8_isStain k0_174 rc8 (Nat.le_of_ble_eq_true rfl) ((x_X8_isStain ).mono (by omega)) ?_
    refine e_if_eq (tgt := 21) dX8_join_13 (by decide) (fun c11 => ?_) (fun c11 => ?_)
    · rw [if_neg (bI_n c11)] at h
      refine e_iconst (x := (-1 : Int32)) dX8_join_21 (by decide) ?_
      obtain rfl := Option.some.inj h
      exact e_iret dX8_join_22 rfl rfl ⟨rfl, rfl, rfl⟩
    · rw [if_pos (bI_p c11)] at h
      refine e_iload_n dX8_join_16 rfl ?_
      refine e_iload_n dX8_join_17 rfl ?_
      refine e_icmp_ne (tgt := 23) dX8_join_18 (by decide) (fun c10 => ?_) (fun c10 => ?_)
      · rw [if_neg c10] at h
        refine e_iconst (x := (0 : Int32)) dX8_join_23 (by decide) ?_
        refine e_istore_n (lv' := [(3, .int (0 : Int32)), (0, .ref 174), (1, .int a1), (2, .int a2)]) dX8_join_24 (by decide) rfl ?_
        refine e_iconst (x := (0 : Int32)) dX8_join_25 (by decide) ?_
        refine e_istore (lv' := [(4, .int (0 : Int32)), (3, .int (0 : Int32)), (0, .ref 174), (1, .int a1), (2, .int a2)]) dX8_join_26 (by decide) rfl ?_
        refine e_sub [2, 3, 4, 1, 0] rfl ?_
        exact b_X8_join_28  _ v a1 a2 (0 : Int32) (0 : Int32) h
      · rw [if_pos c10] at h
        refine e_iconst (x := (-1 : Int32)) dX8_join_21 (by decide) ?_
        obtain rfl := Option.some.inj h
        exact e_iret dX8_join_22 rfl rfl ⟨rfl, rfl, rfl⟩
def f_X8_least_146   (v : rV) (a2 : Int32) (a3 : Int32) (a8 : Int32) (a9 : Int32) : Option (Int32 × rV) := if ¬ (((12 : Int32) * a2) + a3) < 0 ∧ (((12 : Int32) * a2) + a3).toNatClampNeg < 156 then
  (vlet (rI v 185 ((((12 : Int32) * a2) + a3).toNatClampNeg) a8) fun v10 =>
  (f_X8_takeBack v10).bind fun p11 =>
  some (a9, p11))
else none
def f_X8_least_138  (q80 : rV → Int32 → Int32 → Int32 → Int32 → Int64 → Int32 → Int32 → Int32 → Int32 → Option (Int32 × rV)) (v : rV) (a1 : Int32) (a2 : Int32) (a3 : Int32) (a4 : Int32) (a5 : Int64) (a7 : Int32) (a8 : Int32) (a10 : Int32) (s0 : Int32) : Option (Int32 × rV) := vlet (a10 + (1 : Int32)) fun x17 =>
  q80 v a1 a2 a3 a4 a5 a7 a8 s0 x17
def f_X8_least_80   : Nat → rV → Int32 → Int32 → Int32 → Int32 → Int64 → Int32 → Int32 → Int32 → Int32 → Option (Int32 × rV)
  | 0, _, _, _, _, _, _, _, _, _, _ => none
  | n + 1, v, a1, a2, a3, a4, a5, a7, a8, a9, a10 => if (60 : Int32) < a10 then
  (f_X8_least_146  v a2 a3 a8 a9)
else
  (if a9 = (-1 : Int32) then
  (if ¬ (((12 : Int32) * a2) + a3) < 0 ∧ (((12 : Int32) * a2) + a3).toNatClampNeg < 156 then
  (vlet (rI v 185 ((((12 : Int32) * a2) + a3).toNatClampNeg) a10) fun v13 =>
  (f_X8_gather v13 ((1 : Int32) <<< (a2 &&& 31))).bind fun p14 =>
  (f_X8_tryOut p14.2 a1 a5 a7).bind fun p15 =>
  (f_X8_isMet p15 a4).bind fun p16 =>
  if p16.1 = true then
  (f_X8_least_138 (fun v a1 a2 a3 a4 a5 a7 a8 a9 a10 => f_X8_least_80  n v a1 a2 a3 a4 a5 a7 a8 a9 a10) p16.2 a1 a2 a3 a4 a5 a7 a8 a10 a10)
else
  (f_X8_least_138 (fun v a1 a2 a3 a4 a5 a7 a8 a9 a10 => f_X8_least_80  n v a1 a2 a3 a4 a5 a7 a8 a9 a10) p16.2 a1 a2 a3 a4 a5 a7 a8 a10 (-1 : Int32)))
else none)
else
  (f_X8_least_146  v a2 a3 a8 a9))
def f_X8_least (v : rV) (a1 : Int32) (a2 : Int32) (a3 : Int32) (a4 : Int32) (a5 : Int64) (a7 : Int32) : Option (Int32 × rV) := if (f_X8_isLaw v a1) = true then
  (if (f_X8_isDrop v a2) = true then
  (if (f_X8_in a3 (3 : Int32) (9 : Int32)) = true then
  (if a3 = (8 : Int32) then
  (some ((-1 : Int32), v))
else
  (if (f_X8_in a4 (0 : Int32) ((v.1 174 14) - (1 : Int32))) = true then
  (if (f_X8_areTicks a7) = true then
  (if ¬ (((12 : Int32) * a2) + a3) < 0 ∧ (((12 : Int32) * a2) + a3).toNatClampNeg < 156 then
  (vlet (v.1 185 ((((12 : Int32) * a2) + a3).toNatClampNeg) : Int32) fun x7 =>
  (f_X8_putAside v).bind fun p8 =>
  f_X8_least_80  20000 p8 a1 a2 a3 a4 a5 a7 x7 (-1 : Int32) (0 : Int32))
else none)
else
  (some ((-1 : Int32), v)))
else
  (some ((-1 : Int32), v))))
else
  (some ((-1 : Int32), v)))
else
  (some ((-1 : Int32), v)))
else
  (some ((-1 : Int32), v))
set_option maxRecDepth 20000 in
theorem b_X8_least_146 {X : Nat × (Nat → Int32)} {r : Int32 × rV} {v : rV}   {a2 : Int32} {a3 : Int32} {a8 : Int32} {a9 : Int32}  (h : f_X8_least_146  v a2 a3 a8 a9 = some r) : Ev mX8_least 10 0 0 146 [(0, .ref 174), (2, .int a2), (3, .int a3), (8, .int a8), (9, .int a9)] [] (rZ X) v (rPI X r) := by
  unfold f_X8_least_146 at h
  refine e_aload_n dX8_least_146 rfl ?_
  refine e_get (w := .ref 185) (j := 19) dX8_least_147 k0_174 rc8 (by decide) wfX8_40 (g0_174_19) ?_
  refine e_bipush (x := (12 : Int32)) dX8_least_150 (by decide) ?_
  refine e_iload_n dX8_least_152 rfl ?_
  refine e_imul dX8_least_153 ?_
  refine e_iload_n dX8_least_154 rfl ?_
  refine e_iadd dX8_least_155 ?_
  refine e_iload dX8_least_156 rfl ?_
  obtain ⟨c9, h⟩ := grd h
  refine e_iastJ dX8_least_158 k0_185 rfl c9.2 c9.1 ?_
  obtain ⟨v10, ev10, h⟩ := vlet_ex h
  refine e_nameV ev10.symm ?_
  clear ev10
  refine e_aload_n dX8_least_159 rfl ?_
  obtain ⟨p11, ep11, h⟩ := Option.bind_eq_some_iff.mp h
  refine c_VV (M' := mX8_takeBack) [] dX8_least_160 rfl wmX8_391 imX8_takeBack seX8_takeBack lkX8_takeBack k0_174 rc8 (Nat.le_of_ble_eq_true rfl) ((x_X8_takeBack  ep11).mono (by omega)) ?_
  refine e_iload dX8_least_163 rfl ?_
  obtain rfl := Option.some.inj h
  exact e_iret dX8_least_165 rfl rfl ⟨rfl, rfl, rfl⟩
set_option maxRecDepth 20000 in
theorem b_X8_least_138 {X : Nat × (Nat → Int32)} {r : Int32 × rV} {v : rV} {q80 : rV → Int32 → Int32 → Int32 → Int32 → Int64 → Int32 → Int32 → Int32 → Int32 → Option (Int32 × rV)} (hq80 : ∀ (v : rV) (a1 : Int32) (a2 : Int32) (a3 : Int32) (a4 : Int32) (a5 : Int64) (a7 : Int32) (a8 : Int32) (a9 : Int32) (a10 : Int32) , q80 v a1 a2 a3 a4 a5 a7 a8 a9 a10 = some r → Ev mX8_least 10 0 0 80 [(0, .ref 174), (1, .int a1), (2, .int a2), (3, .int a3), (4, .int a4), (5, .long a5), (7, .int a7), (8, .int a8), (9, .int a9), (10, .int a10)] [] (rZ X) v (rPI X r)) {a1 : Int32} {a2 : Int32} {a3 : Int32} {a4 : Int32} {a5 : Int64} {a7 : Int32} {a8 : Int32} {a10 : Int32} {s0 : Int32}  (h : f_X8_least_138 q80 v a1 a2 a3 a4 a5 a7 a8 a10 s0 = some r) : Ev mX8_least 10 0 0 138 [(0, .ref 174), (1, .int a1), (2, .int a2), (3, .int a3), (4, .int a4), (5, .long a5), (7, .int a7), (8, .int a8), (10, .int a10)] [.int s0] (rZ X) v (rPI X r) := by
  unfold f_X8_least_138 at h
  refine e_istore (lv' := [(9, .int s0), (0, .ref 174), (1, .int a1), (2, .int a2), (3, .int a3), (4, .int a4), (5, .long a5), (7, .int a7), (8, .int a8), (10, .int a10)]) dX8_least_138 (by decide) rfl ?_
  obtain ⟨x17, ex17, h⟩ := vlet_ex h
  refine e_iinc (lv' := [(10, .int x17), (9, .int s0), (0, .ref 174), (1, .int a1), (2, .int a2), (3, .int a3), (4, .int a4), (5, .long a5), (7, .int a7), (8, .int a8)]) dX8_least_140 rfl (ex17.symm) (by decide) rfl ?_
  clear ex17
  refine e_goto (tgt := 80) dX8_least_143 (by decide) ?_
  refine e_sub [2, 3, 4, 5, 6, 7, 8, 9, 1, 0] rfl ?_
  exact hq80 v a1 a2 a3 a4 a5 a7 a8 s0 x17 h
set_option maxRecDepth 20000 in
theorem b_X8_least_80 {X : Nat × (Nat → Int32)} {r : Int32 × rV}   : ∀ (n : Nat) (v : rV) (a1 : Int32) (a2 : Int32) (a3 : Int32) (a4 : Int32) (a5 : Int64) (a7 : Int32) (a8 : Int32) (a9 : Int32) (a10 : Int32) , f_X8_least_80   n v a1 a2 a3 a4 a5 a7 a8 a9 a10 = some r → Ev mX8_least 10 0 0 80 [(0, .ref 174), (1, .int a1), (2, .int a2), (3, .int a3), (4, .int a4), (5, .long a5), (7, .int a7), (8, .int a8), (9, .int a9), (10, .int a10)] [] (rZ X) v (rPI X r) := by
  intro n
  induction n with
  | zero =>
    intros
    rename_i h
    cases h
  | succ n ih =>
    intro v a1 a2 a3 a4 a5 a7 a8 a9 a10 h
    rw [f_X8_least_80] at h
    refine e_iload dX8_least_80 rfl ?_
    refine e_bipush (x := (60 : Int32)) dX8_least_82 (by decide) ?_
    refine e_icmp_gt (tgt := 146) dX8_least_84 (by decide) (fun c20 => ?_) (fun c20 => ?_)
    · rw [if_pos c20] at h
      refine e_sub [0, 2, 3, 7, 8] rfl ?_
      exact b_X8_least_146  h
    · rw [if_neg c20] at h
      refine e_iload dX8_least_87 rfl ?_
      refine e_iconst (x := (-1 : Int32)) dX8_least_89 (by decide) ?_
      refine e_icmp_ne (tgt := 146) dX8_least_90 (by decide) (fun c19 => ?_) (fun c19 => ?_)
      · rw [if_neg c19] at h
        refine e_sub [0, 2, 3, 7, 8] rfl ?_
        exact b_X8_least_146  h
      · rw [if_pos c19] at h
        refine e_aload_n dX8_least_93 rfl ?_
        refine e_get (w := .ref 185) (j := 19) dX8_least_94 k0_174 rc8 (by decide) wfX8_40 (g0_174_19) ?_
        refine e_bipush (x := (12 : Int32)) dX8_least_97 (by decide) ?_
        refine e_iload_n dX8_least_99 rfl ?_
        refine e_imul dX8_least_100 ?_
        refine e_iload_n dX8_least_101 rfl ?_
        refine e_iadd dX8_least_102 ?_
        refine e_iload dX8_least_103 rfl ?_
        obtain ⟨c12, h⟩ := grd h
        refine e_iastJ dX8_least_105 k0_185 rfl c12.2 c12.1 ?_
        obtain ⟨v13, ev13, h⟩ := vlet_ex h
        refine e_nameV ev13.symm ?_
        clear ev13
        refine e_aload_n dX8_least_106 rfl ?_
        refine e_iconst (x := (1 : Int32)) dX8_least_107 (by decide) ?_
        refine e_iload_n dX8_least_108 rfl ?_
        refine e_ishl dX8_least_109 ?_
        obtain ⟨p14, ep14, h⟩ := Option.bind_eq_some_iff.mp h
        refine c_VZ (M' := mX8_gather) [.int ((1 : Int32) <<< (a2 &&& 31))] dX8_least_110 rfl wmX8_278 imX8_gather seX8_gather lkX8_gather k0_174 rc8 (Nat.le_of_ble_eq_true rfl) ((x_X8_gather  ep14).mono (by omega)) ?_
        refine e_pop dX8_least_113 rfl ?_
        refine e_aload_n dX8_least_114 rfl ?_
        refine e_iload_n dX8_least_115 rfl ?_
        refine e_lload dX8_least_116 rfl ?_
        refine e_iload dX8_least_118 rfl ?_
        obtain ⟨p15, ep15, h⟩ := Option.bind_eq_some_iff.mp h
        refine c_VV (M' := mX8_tryOut) [.int a1, .long a5, .int a7] dX8_least_120 rfl wmX8_387 imX8_tryOut seX8_tryOut lkX8_tryOut k0_174 rc8 (Nat.le_of_ble_eq_true rfl) ((x_X8_tryOut  ep15).mono (by omega)) ?_
        refine e_aload_n dX8_least_123 rfl ?_
        refine e_iload dX8_least_124 rfl ?_
        obtain ⟨p16, ep16, h⟩ := Option.bind_eq_some_iff.mp h
        refine c_VZ (M' := mX8_isMet) [.int a4] dX8_least_126 rfl wmX8_375 imX8_isMet seX8_isMet lkX8_isMet k0_174 rc8 (Nat.le_of_ble_eq_true rfl) ((x_X8_isMet  ep16).mono (by omega)) ?_
        refine e_if_eq (tgt := 137) dX8_least_129 (by decide) (fun c18 => ?_) (fun c18 => ?_)
        · rw [if_neg (bI_n c18)] at h
          refine e_iconst (x := (-1 : Int32)) dX8_least_137 (by decide) ?_
          refine e_sub [0, 1, 2, 3, 4, 5, 6, 7, 9] rfl ?_
          exact b_X8_least_138 (fun v a1 a2 a3 a4 a5 a7 a8 a9 a10  hh => ih v a1 a2 a3 a4 a5 a7 a8 a9 a10  hh) h
        · rw [if_pos (bI_p c18)] at h
          refine e_iload dX8_least_132 rfl ?_
          refine e_goto (tgt := 138) dX8_least_134 (by decide) ?_
          refine e_sub [0, 1, 2, 3, 4, 5, 6, 7, 9] rfl ?_
          exact b_X8_least_138 (fun v a1 a2 a3 a4 a5 a7 a8 a9 a10  hh => ih v a1 a2 a3 a4 a5 a7 a8 a9 a10  hh) h
set_option maxRecDepth 20000 in
theorem x_X8_least {X : Nat × (Nat → Int32)} {v : rV} {r : Int32 × rV} {a1 : Int32} {a2 : Int32} {a3 : Int32} {a4 : Int32} {a5 : Int64} {a7 : Int32}  (h : f_X8_least v a1 a2 a3 a4 a5 a7 = some r) : EvM mX8_least 10 0 0 [.ref 174, .int a1, .int a2, .int a3, .int a4, .long a5, .int a7] (rZ X) v (rPI X r) := by
  refine evm_of (by decide +kernel) (fun G => Nat.le_of_ble_eq_true rfl) ?_
  show Ev mX8_least 10 0 0 0 [(0, .ref 174), (1, .int a1), (2, .int a2), (3, .int a3), (4, .int a4), (5, .long a5), (7, .int a7)] [] (rZ X) v _
  unfold f_X8_least at h
  refine e_aload_n dX8_least_0 rfl ?_
  refine e_iload_n dX8_least_1 rfl ?_
  refine c_VZ (M' := mX8_isLaw) [.int a1] dX8_least_2 rfl wmX8_272 imX8_isLaw seX8_isLaw lkX8_isLaw k0_174 rc8 (Nat.le_of_ble_eq_true rfl) ((x_X8_isLaw ).mono (by omega)) ?_
  refine e_if_eq (tgt := 55) dX8_least_5 (by decide) (fun c26 => ?_) (fun c26 => ?_)
  · rw [if_neg (bI_n c26)] at h
    refine e_iconst (x := (-1 : Int32)) dX8_least_55 (by decide) ?_
    obtain rfl := Option.some.inj h
    exact e_iret dX8_least_56 rfl rfl ⟨rfl, rfl, rfl⟩
  · rw [if_pos (bI_p c26)] at h
    refine e_aload_n dX8_least_8 rfl ?_
    refine e_iload_n dX8_least_9 rfl ?_
    refine c_VZ (M' := mX8_isDrop) [.int a2] dX8_least_10 rfl wmX8_244 imX8_isDrop seX8_isDrop lkX8_isDrop k0_174 rc8 (Nat.le_of_ble_eq_true rfl) ((x_X8_isDrop ).mono (by omega)) ?_
    refine e_if_eq (tgt := 55) dX8_least_13 (by decide) (fun c25 => ?_) (fun c25 => ?_)
    · rw [if_neg (bI_n c25)] at h
      refine e_iconst (x := (-1 : Int32)) dX8_least_55 (by decide) ?_
      obtain rfl := Option.some.inj h
      exact e_iret dX8_least_56 rfl rfl ⟨rfl, rfl, rfl⟩
    · rw [if_pos (bI_p c25)] at h
      refine e_iload_n dX8_least_16 rfl ?_
      refine e_iconst (x := (3 : Int32)) dX8_least_17 (by decide) ?_
      refine e_bipush (x := (9 : Int32)) dX8_least_18 (by decide) ?_
      refine c_SZ (M' := mX8_in) [.int a3, .int (3 : Int32), .int (9 : Int32)] dX8_least_20 rfl wmX8_216 stX8_in lkX8_in (Nat.le_of_ble_eq_true rfl) ((x_X8_in ).mono (by omega)) ?_
      refine e_if_eq (tgt := 55) dX8_least_23 (by decide) (fun c24 => ?_) (fun c24 => ?_)
      · rw [if_neg (bI_n c24)] at h
        refine e_iconst (x := (-1 : Int32)) dX8_least_55 (by decide) ?_
        obtain rfl := Option.some.inj h
        exact e_iret dX8_least_56 rfl rfl ⟨rfl, rfl, rfl⟩
      · rw [if_pos (bI_p c24)] at h
        refine e_iload_n dX8_least_26 rfl ?_
        refine e_bipush (x := (8 : Int32)) dX8_least_27 (by decide) ?_
        refine e_icmp_eq (tgt := 55) dX8_least_29 (by decide) (fun c23 => ?_) (fun c23 => ?_)
        · rw [if_pos c23] at h
          refine e_iconst (x := (-1 : Int32)) dX8_least_55 (by decide) ?_
          obtain rfl := Option.some.inj h
          exact e_iret dX8_least_56 rfl rfl ⟨rfl, rfl, rfl⟩
        · rw [if_neg c23] at h
          refine e_iload dX8_least_32 rfl ?_
          refine e_iconst (x := (0 : Int32)) dX8_least_34 (by decide) ?_
          refine e_aload_n dX8_least_35 rfl ?_
          refine e_get (w := .int (v.1 174 14)) (j := 14) dX8_least_36 k0_174 rc8 (by decide) wfX8_238 rfl ?_
          refine e_iconst (x := (1 : Int32)) dX8_least_39 (by decide) ?_
          refine e_isub dX8_least_40 ?_
          refine c_SZ (M' := mX8_in) [.int a4, .int (0 : Int32), .int ((v.1 174 14) - (1 : Int32))] dX8_least_41 rfl wmX8_216 stX8_in lkX8_in (Nat.le_of_ble_eq_true rfl) ((x_X8_in ).mono (by omega)) ?_
          refine e_if_eq (tgt := 55) dX8_least_44 (by decide) (fun c22 => ?_) (fun c22 => ?_)
          · rw [if_neg (bI_n c22)] at h
            refine e_iconst (x := (-1 : Int32)) dX8_least_55 (by decide) ?_
            obtain rfl := Option.some.inj h
            exact e_iret dX8_least_56 rfl rfl ⟨rfl, rfl, rfl⟩
          · rw [if_pos (bI_p c22)] at h
            refine e_iload dX8_least_47 rfl ?_
            refine c_SZ (M' := mX8_areTicks) [.int a7] dX8_least_49 rfl wmX8_381 stX8_areTicks lkX8_areTicks (Nat.le_of_ble_eq_true rfl) ((x_X8_areTicks ).mono (by omega)) ?_
            refine e_if_ne (tgt := 57) dX8_least_52 (by decide) (fun c21 => ?_) (fun c21 => ?_)
            · rw [if_pos (bI_p c21)] at h
              refine e_aload_n dX8_least_57 rfl ?_
              refine e_get (w := .ref 185) (j := 19) dX8_least_58 k0_174 rc8 (by decide) wfX8_40 (g0_174_19) ?_
              refine e_bipush (x := (12 : Int32)) dX8_least_61 (by decide) ?_
              refine e_iload_n dX8_least_63 rfl ?_
              refine e_imul dX8_least_64 ?_
              refine e_iload_n dX8_least_65 rfl ?_
              refine e_iadd dX8_least_66 ?_
              obtain ⟨c6, h⟩ := grd h
              refine e_ialdJ dX8_least_67 k0_185 rfl c6.2 c6.1 ?_
              obtain ⟨x7, ex7, h⟩ := vlet_ex h
              refine e_nameI ex7.symm ?_
              clear ex7
              refine e_istore (lv' := [(8, .int x7), (0, .ref 174), (1, .int a1), (2, .int a2), (3, .int a3), (4, .int a4), (5, .long a5), (7, .int a7)]) dX8_least_68 (by decide) rfl ?_
              refine e_aload_n dX8_least_70 rfl ?_
              obtain ⟨p8, ep8, h⟩ := Option.bind_eq_some_iff.mp h
              refine c_VV (M' := mX8_putAside) [] dX8_least_71 rfl wmX8_384 imX8_putAside seX8_putAside lkX8_putAside k0_174 rc8 (Nat.le_of_ble_eq_true rfl) ((x_X8_putAside  ep8).mono (by omega)) ?_
              refine e_iconst (x := (-1 : Int32)) dX8_least_74 (by decide) ?_
              refine e_istore (lv' := [(9, .int (-1 : Int32)), (8, .int x7), (0, .ref 174), (1, .int a1), (2, .int a2), (3, .int a3), (4, .int a4), (5, .long a5), (7, .int a7)]) dX8_least_75 (by decide) rfl ?_
              refine e_iconst (x := (0 : Int32)) dX8_least_77 (by decide) ?_
              refine e_istore (lv' := [(10, .int (0 : Int32)), (9, .int (-1 : Int32)), (8, .int x7), (0, .ref 174), (1, .int a1), (2, .int a2), (3, .int a3), (4, .int a4), (5, .long a5), (7, .int a7)]) dX8_least_78 (by decide) rfl ?_
              refine e_sub [3, 4, 5, 6, 7, 8, 9, 2, 1, 0] rfl ?_
              exact b_X8_least_80  _ p8 a1 a2 a3 a4 a5 a7 x7 (-1 : Int32) (0 : Int32) h
            · rw [if_neg (bI_n c21)] at h
              refine e_iconst (x := (-1 : Int32)) dX8_least_55 (by decide) ?_
              obtain rfl := Option.some.inj h
              exact e_iret dX8_least_56 rfl rfl ⟨rfl, rfl, rfl⟩
def f_X8_lies (v : rV) (a1 : Int32) (a2 : Int32) : Option (Int32) := if (f_X8_isCell a1) = true then
  (if (f_X8_in a2 (0 : Int32) (1 : Int32)) = true then
  (if ¬ (((72 : Int32) + ((24 : Int32) * a2)) + a1) < 0 ∧ (((72 : Int32) + ((24 : Int32) * a2)) + a1).toNatClampNeg < 416 then
  (some (v.1 187 ((((72 : Int32) + ((24 : Int32) * a2)) + a1).toNatClampNeg)))
else none)
else
  (some (-1 : Int32)))
else
  (some (-1 : Int32))
set_option maxRecDepth 20000 in
theorem x_X8_lies {X : Nat × (Nat → Int32)} {v : rV} {r : Int32} {a1 : Int32} {a2 : Int32}  (h : f_X8_lies v a1 a2 = some r) : EvM mX8_lies 3 0 0 [.ref 174, .int a1, .int a2] (rZ X) v (rPI X (r, v)) := by
  refine evm_of (by decide +kernel) (fun G => Nat.le_of_ble_eq_true rfl) ?_
  show Ev mX8_lies 3 0 0 0 [(0, .ref 174), (1, .int a1), (2, .int a2)] [] (rZ X) v _
  unfold f_X8_lies at h
  refine e_iload_n dX8_lies_0 rfl ?_
  refine c_SZ (M' := mX8_isCell) [.int a1] dX8_lies_1 rfl wmX8_353 stX8_isCell lkX8_isCell (Nat.le_of_ble_eq_true rfl) ((x_X8_isCell ).mono (by omega)) ?_
  refine e_if_eq (tgt := 33) dX8_lies_4 (by decide) (fun c5 => ?_) (fun c5 => ?_)
  · rw [if_neg (bI_n c5)] at h
    refine e_iconst (x := (-1 : Int32)) dX8_lies_33 (by decide) ?_
    obtain rfl := Option.some.inj h
    exact e_iret dX8_lies_34 rfl rfl ⟨rfl, rfl, rfl⟩
  · rw [if_pos (bI_p c5)] at h
    refine e_iload_n dX8_lies_7 rfl ?_
    refine e_iconst (x := (0 : Int32)) dX8_lies_8 (by decide) ?_
    refine e_iconst (x := (1 : Int32)) dX8_lies_9 (by decide) ?_
    refine c_SZ (M' := mX8_in) [.int a2, .int (0 : Int32), .int (1 : Int32)] dX8_lies_10 rfl wmX8_216 stX8_in lkX8_in (Nat.le_of_ble_eq_true rfl) ((x_X8_in ).mono (by omega)) ?_
    refine e_if_eq (tgt := 33) dX8_lies_13 (by decide) (fun c4 => ?_) (fun c4 => ?_)
    · rw [if_neg (bI_n c4)] at h
      refine e_iconst (x := (-1 : Int32)) dX8_lies_33 (by decide) ?_
      obtain rfl := Option.some.inj h
      exact e_iret dX8_lies_34 rfl rfl ⟨rfl, rfl, rfl⟩
    · rw [if_pos (bI_p c4)] at h
      refine e_aload_n dX8_lies_16 rfl ?_
      refine e_get (w := .ref 187) (j := 24) dX8_lies_17 k0_174 rc8 (by decide) wfX8_50 (g0_174_24) ?_
      refine e_bipush (x := (72 : Int32)) dX8_lies_20 (by decide) ?_
      refine e_bipush (x := (24 : Int32)) dX8_lies_22 (by decide) ?_
      refine e_iload_n dX8_lies_24 rfl ?_
      refine e_imul dX8_lies_25 ?_
      refine e_iadd dX8_lies_26 ?_
      refine e_iload_n dX8_lies_27 rfl ?_
      refine e_iadd dX8_lies_28 ?_
      obtain ⟨c3, h⟩ := grd h
      refine e_ialdJ dX8_lies_29 k0_187 rfl c3.2 c3.1 ?_
      refine e_goto (tgt := 34) dX8_lies_30 (by decide) ?_
      obtain rfl := Option.some.inj h
      exact e_iret dX8_lies_34 rfl rfl ⟨rfl, rfl, rfl⟩
def f_X8_line_172  (q106 : rV → Int32 → Int32 → Int32 → Int32 → Int32 → Int32 → Int64 → Int32 → Int32 → Int32 → Int32 → Int32 → Option (Int32 × rV)) (v : rV) (a1 : Int32) (a2 : Int32) (a3 : Int32) (a4 : Int32) (a5 : Int32) (a6 : Int32) (a7 : Int64) (a9 : Int32) (a10 : Int32) (a12 : Int32) (a13 : Int32) (s0 : Int32) (s1 : Int32) : Option (Int32 × rV) := vlet (s1 ||| s0 : Int32) fun x16 =>
  vlet (a13 + (10 : Int32)) fun x17 =>
  q106 v a1 a2 a3 a4 a5 a6 a7 a9 a10 x16 a12 x17
def f_X8_line_121  (q106 : rV → Int32 → Int32 → Int32 → Int32 → Int32 → Int32 → Int64 → Int32 → Int32 → Int32 → Int32 → Int32 → Option (Int32 × rV)) (v : rV) (a1 : Int32) (a2 : Int32) (a3 : Int32) (a4 : Int32) (a5 : Int32) (a6 : Int32) (a7 : Int64) (a9 : Int32) (a10 : Int32) (a11 : Int32) (a12 : Int32) (a13 : Int32) (s0 : Int32) (s1 : Int32) : Option (Int32 × rV) := if s0 < s1 then
  (if ¬ (((12 : Int32) * a2) + a3) < 0 ∧ (((12 : Int32) * a2) + a3).toNatClampNeg < 156 then
  (vlet (rI v 185 ((((12 : Int32) * a2) + a3).toNatClampNeg) a10) fun v11 =>
  if a5 = (-1 : Int32) then
  (some (a11, v11))
else
  (some (a12, v11)))
else none)
else
  (if ¬ (((12 : Int32) * a2) + a3) < 0 ∧ (((12 : Int32) * a2) + a3).toNatClampNeg < 156 then
  (vlet (rI v 185 ((((12 : Int32) * a2) + a3).toNatClampNeg) a13) fun v14 =>
  (f_X8_least v14 a1 a2 a4 a6 a7 a9).bind fun p15 =>
  if p15.1 = (-1 : Int32) then
  (f_X8_line_172 q106 p15.2 a1 a2 a3 a4 a5 a6 a7 a9 a10 p15.1 a13 (0 : Int32) a11)
else
  (f_X8_line_172 q106 p15.2 a1 a2 a3 a4 a5 a6 a7 a9 a10 p15.1 a13 ((1 : Int32) <<< ((a13 / (10 : Int32)) &&& 31)) a11))
else none)
def f_X8_line_106   : Nat → rV → Int32 → Int32 → Int32 → Int32 → Int32 → Int32 → Int64 → Int32 → Int32 → Int32 → Int32 → Int32 → Option (Int32 × rV)
  | 0, _, _, _, _, _, _, _, _, _, _, _, _, _ => none
  | n + 1, v, a1, a2, a3, a4, a5, a6, a7, a9, a10, a11, a12, a13 => if a5 = (-1 : Int32) then
  (f_X8_line_121 (fun v a1 a2 a3 a4 a5 a6 a7 a9 a10 a11 a12 a13 => f_X8_line_106  n v a1 a2 a3 a4 a5 a6 a7 a9 a10 a11 a12 a13) v a1 a2 a3 a4 a5 a6 a7 a9 a10 a11 a12 a13 (60 : Int32) a13)
else
  (f_X8_line_121 (fun v a1 a2 a3 a4 a5 a6 a7 a9 a10 a11 a12 a13 => f_X8_line_106  n v a1 a2 a3 a4 a5 a6 a7 a9 a10 a11 a12 a13) v a1 a2 a3 a4 a5 a6 a7 a9 a10 a11 a12 a13 a5 a13)
def f_X8_line_104   (v : rV) (a1 : Int32) (a2 : Int32) (a3 : Int32) (a4 : Int32) (a5 : Int32) (a6 : Int32) (a7 : Int64) (a9 : Int32) (a10 : Int32) (a11 : Int32) (a12 : Int32) (s0 : Int32) : Option (Int32 × rV) := f_X8_line_106  20000 v a1 a2 a3 a4 a5 a6 a7 a9 a10 a11 a12 s0
def f_X8_line (v : rV) (a1 : Int32) (a2 : Int32) (a3 : Int32) (a4 : Int32) (a5 : Int32) (a6 : Int32) (a7 : Int64) (a9 : Int32) : Option (Int32 × rV) := if (f_X8_isDrop v a2) = true then
  (if (f_X8_isLetter a3) = true then
  (if (f_X8_isLetter a4) = true then
  (if a3 = a4 then
  (some ((-1 : Int32), v))
else
  (if (f_X8_in a5 (-1 : Int32) (60 : Int32)) = true then
  (if (f_X8_isLaw v a1) = true then
  (if (f_X8_in a6 (0 : Int32) ((v.1 174 14) - (1 : Int32))) = true then
  (if (f_X8_areTicks a9) = true then
  (if ¬ (((12 : Int32) * a2) + a3) < 0 ∧ (((12 : Int32) * a2) + a3).toNatClampNeg < 156 then
  (vlet (v.1 185 ((((12 : Int32) * a2) + a3).toNatClampNeg) : Int32) fun x9 =>
  if a5 = (-1 : Int32) then
  (f_X8_line_104  v a1 a2 a3 a4 a5 a6 a7 a9 x9 (0 : Int32) (-1 : Int32) (0 : Int32))
else
  (f_X8_line_104  v a1 a2 a3 a4 a5 a6 a7 a9 x9 (0 : Int32) (-1 : Int32) a5))
else none)
else
  (some ((-1 : Int32), v)))
else
  (some ((-1 : Int32), v)))
else
  (some ((-1 : Int32), v)))
else
  (some ((-1 : Int32), v))))
else
  (some ((-1 : Int32), v)))
else
  (some ((-1 : Int32), v)))
else
  (some ((-1 : Int32), v))
set_option maxRecDepth 20000 in
theorem b_X8_line_172 {X : Nat × (Nat → Int32)} {r : Int32 × rV} {v : rV} {q106 : rV → Int32 → Int32 → Int32 → Int32 → Int32 → Int32 → Int64 → Int32 → Int32 → Int32 → Int32 → Int32 → Option (Int32 × rV)} (hq106 : ∀ (v : rV) (a1 : Int32) (a2 : Int32) (a3 : Int32) (a4 : Int32) (a5 : Int32) (a6 : Int32) (a7 : Int64) (a9 : Int32) (a10 : Int32) (a11 : Int32) (a12 : Int32) (a13 : Int32) , q106 v a1 a2 a3 a4 a5 a6 a7 a9 a10 a11 a12 a13 = some r → Ev mX8_line 11 0 0 106 [(0, .ref 174), (1, .int a1), (2, .int a2), (3, .int a3), (4, .int a4), (5, .int a5), (6, .int a6), (7, .long a7), (9, .int a9), (10, .int a10), (11, .int a11), (12, .int a12), (13, .int a13)] [] (rZ X) v (rPI X r)) {a1 : Int32} {a2 : Int32} {a3 : Int32} {a4 : Int32} {a5 : Int32} {a6 : Int32} {a7 : Int64} {a9 : Int32} {a10 : Int32} {a12 : Int32} {a13 : Int32} {s0 : Int32} {s1 : Int32}  (h : f_X8_line_172 q106 v a1 a2 a3 a4 a5 a6 a7 a9 a10 a12 a13 s0 s1 = some r) : Ev mX8_line 11 0 0 172 [(0, .ref 174), (1, .int a1), (2, .int a2), (3, .int a3), (4, .int a4), (5, .int a5), (6, .int a6), (7, .long a7), (9, .int a9), (10, .int a10), (12, .int a12), (13, .int a13)] [.int s0, .int s1] (rZ X) v (rPI X r) := by
  unfold f_X8_line_172 at h
  refine e_ior dX8_line_172 ?_
  obtain ⟨x16, ex16, h⟩ := vlet_ex h
  refine e_nameI ex16.symm ?_
  clear ex16
  refine e_istore (lv' := [(11, .int x16), (0, .ref 174), (1, .int a1), (2, .int a2), (3, .int a3), (4, .int a4), (5, .int a5), (6, .int a6), (7, .long a7), (9, .int a9), (10, .int a10), (12, .int a12), (13, .int a13)]) dX8_line_173 (by decide) rfl ?_
  obtain ⟨x17, ex17, h⟩ := vlet_ex h
  refine e_iinc (lv' := [(13, .int x17), (11, .int x16), (0, .ref 174), (1, .int a1), (2, .int a2), (3, .int a3), (4, .int a4), (5, .int a5), (6, .int a6), (7, .long a7), (9, .int a9), (10, .int a10), (12, .int a12)]) dX8_line_175 rfl (ex17.symm) (by decide) rfl ?_
  clear ex17
  refine e_goto (tgt := 106) dX8_line_178 (by decide) ?_
  refine e_sub [2, 3, 4, 5, 6, 7, 8, 9, 10, 11, 1, 12, 0] rfl ?_
  exact hq106 v a1 a2 a3 a4 a5 a6 a7 a9 a10 x16 a12 x17 h
set_option maxRecDepth 20000 in
theorem b_X8_line_121 {X : Nat × (Nat → Int32)} {r : Int32 × rV} {v : rV} {q106 : rV → Int32 → Int32 → Int32 → Int32 → Int32 → Int32 → Int64 → Int32 → Int32 → Int32 → Int32 → Int32 → Option (Int32 × rV)} (hq106 : ∀ (v : rV) (a1 : Int32) (a2 : Int32) (a3 : Int32) (a4 : Int32) (a5 : Int32) (a6 : Int32) (a7 : Int64) (a9 : Int32) (a10 : Int32) (a11 : Int32) (a12 : Int32) (a13 : Int32) , q106 v a1 a2 a3 a4 a5 a6 a7 a9 a10 a11 a12 a13 = some r → Ev mX8_line 11 0 0 106 [(0, .ref 174), (1, .int a1), (2, .int a2), (3, .int a3), (4, .int a4), (5, .int a5), (6, .int a6), (7, .long a7), (9, .int a9), (10, .int a10), (11, .int a11), (12, .int a12), (13, .int a13)] [] (rZ X) v (rPI X r)) {a1 : Int32} {a2 : Int32} {a3 : Int32} {a4 : Int32} {a5 : Int32} {a6 : Int32} {a7 : Int64} {a9 : Int32} {a10 : Int32} {a11 : Int32} {a12 : Int32} {a13 : Int32} {s0 : Int32} {s1 : Int32}  (h : f_X8_line_121 q106 v a1 a2 a3 a4 a5 a6 a7 a9 a10 a11 a12 a13 s0 s1 = some r) : Ev mX8_line 11 0 0 121 [(0, .ref 174), (1, .int a1), (2, .int a2), (3, .int a3), (4, .int a4), (5, .int a5), (6, .int a6), (7, .long a7), (9, .int a9), (10, .int a10), (11, .int a11), (12, .int a12), (13, .int a13)] [.int s0, .int s1] (rZ X) v (rPI X r) := by
  unfold f_X8_line_121 at h
  refine e_icmp_gt (tgt := 181) dX8_line_121 (by decide) (fun c19 => ?_) (fun c19 => ?_)
  · rw [if_pos c19] at h
    refine e_aload_n dX8_line_181 rfl ?_
    refine e_get (w := .ref 185) (j := 19) dX8_line_182 k0_174 rc8 (by decide) wfX8_40 (g0_174_19) ?_
    refine e_bipush (x := (12 : Int32)) dX8_line_185 (by decide) ?_
    refine e_iload_n dX8_line_187 rfl ?_
    refine e_imul dX8_line_188 ?_
    refine e_iload_n dX8_line_189 rfl ?_
    refine e_iadd dX8_line_190 ?_
    refine e_iload dX8_line_191 rfl ?_
    obtain ⟨c10, h⟩ := grd h
    refine e_iastJ dX8_line_193 k0_185 rfl c10.2 c10.1 ?_
    obtain ⟨v11, ev11, h⟩ := vlet_ex h
    refine e_nameV ev11.symm ?_
    clear ev11
    refine e_iload dX8_line_194 rfl ?_
    refine e_iconst (x := (-1 : Int32)) dX8_line_196 (by decide) ?_
    refine e_icmp_ne (tgt := 205) dX8_line_197 (by decide) (fun c12 => ?_) (fun c12 => ?_)
    · rw [if_neg c12] at h
      refine e_iload dX8_line_205 rfl ?_
      obtain rfl := Option.some.inj h
      exact e_iret dX8_line_207 rfl rfl ⟨rfl, rfl, rfl⟩
    · rw [if_pos c12] at h
      refine e_iload dX8_line_200 rfl ?_
      refine e_goto (tgt := 207) dX8_line_202 (by decide) ?_
      obtain rfl := Option.some.inj h
      exact e_iret dX8_line_207 rfl rfl ⟨rfl, rfl, rfl⟩
  · rw [if_neg c19] at h
    refine e_aload_n dX8_line_124 rfl ?_
    refine e_get (w := .ref 185) (j := 19) dX8_line_125 k0_174 rc8 (by decide) wfX8_40 (g0_174_19) ?_
    refine e_bipush (x := (12 : Int32)) dX8_line_128 (by decide) ?_
    refine e_iload_n dX8_line_130 rfl ?_
    refine e_imul dX8_line_131 ?_
    refine e_iload_n dX8_line_132 rfl ?_
    refine e_iadd dX8_line_133 ?_
    refine e_iload dX8_line_134 rfl ?_
    obtain ⟨c13, h⟩ := grd h
    refine e_iastJ dX8_line_136 k0_185 rfl c13.2 c13.1 ?_
    obtain ⟨v14, ev14, h⟩ := vlet_ex h
    refine e_nameV ev14.symm ?_
    clear ev14
    refine e_aload_n dX8_line_137 rfl ?_
    refine e_iload_n dX8_line_138 rfl ?_
    refine e_iload_n dX8_line_139 rfl ?_
    refine e_iload dX8_line_140 rfl ?_
    refine e_iload dX8_line_142 rfl ?_
    refine e_lload dX8_line_144 rfl ?_
    refine e_iload dX8_line_146 rfl ?_
    obtain ⟨p15, ep15, h⟩ := Option.bind_eq_some_iff.mp h
    refine c_VI (M' := mX8_least) [.int a1, .int a2, .int a4, .int a6, .long a7, .int a9] dX8_line_148 rfl wmX8_426 imX8_least seX8_least lkX8_least k0_174 rc8 (Nat.le_of_ble_eq_true rfl) ((x_X8_least  ep15).mono (by omega)) ?_
    refine e_istore (lv' := [(12, .int p15.1), (0, .ref 174), (1, .int a1), (2, .int a2), (3, .int a3), (4, .int a4), (5, .int a5), (6, .int a6), (7, .long a7), (9, .int a9), (10, .int a10), (11, .int a11), (13, .int a13)]) dX8_line_151 (by decide) rfl ?_
    refine e_iload dX8_line_153 rfl ?_
    refine e_iload dX8_line_155 rfl ?_
    refine e_iconst (x := (-1 : Int32)) dX8_line_157 (by decide) ?_
    refine e_icmp_eq (tgt := 171) dX8_line_158 (by decide) (fun c18 => ?_) (fun c18 => ?_)
    · rw [if_pos c18] at h
      refine e_iconst (x := (0 : Int32)) dX8_line_171 (by decide) ?_
      refine e_sub [1, 2, 3, 4, 5, 6, 7, 8, 9, 10, 0, 12] rfl ?_
      exact b_X8_line_172 hq106 h
    · rw [if_neg c18] at h
      refine e_iconst (x := (1 : Int32)) dX8_line_161 (by decide) ?_
      refine e_iload dX8_line_162 rfl ?_
      refine e_bipush (x := (10 : Int32)) dX8_line_164 (by decide) ?_
      refine e_idiv dX8_line_166 (by decide) ?_
      refine e_ishl dX8_line_167 ?_
      refine e_goto (tgt := 172) dX8_line_168 (by decide) ?_
      refine e_sub [1, 2, 3, 4, 5, 6, 7, 8, 9, 10, 0, 12] rfl ?_
      exact b_X8_line_172 hq106 h
set_option maxRecDepth 20000 in
theorem b_X8_line_106 {X : Nat × (Nat → Int32)} {r : Int32 × rV}   : ∀ (n : Nat) (v : rV) (a1 : Int32) (a2 : Int32) (a3 : Int32) (a4 : Int32) (a5 : Int32) (a6 : Int32) (a7 : Int64) (a9 : Int32) (a10 : Int32) (a11 : Int32) (a12 : Int32) (a13 : Int32) , f_X8_line_106   n v a1 a2 a3 a4 a5 a6 a7 a9 a10 a11 a12 a13 = some r → Ev mX8_line 11 0 0 106 [(0, .ref 174), (1, .int a1), (2, .int a2), (3, .int a3), (4, .int a4), (5, .int a5), (6, .int a6), (7, .long a7), (9, .int a9), (10, .int a10), (11, .int a11), (12, .int a12), (13, .int a13)] [] (rZ X) v (rPI X r) := by
  intro n
  induction n with
  | zero =>
    intros
    rename_i h
    cases h
  | succ n ih =>
    intro v a1 a2 a3 a4 a5 a6 a7 a9 a10 a11 a12 a13 h
    rw [f_X8_line_106] at h
    refine e_iload dX8_line_106 rfl ?_
    refine e_iload dX8_line_108 rfl ?_
    refine e_iconst (x := (-1 : Int32)) dX8_line_110 (by decide) ?_
    refine e_icmp_ne (tgt := 119) dX8_line_111 (by decide) (fun c20 => ?_) (fun c20 => ?_)
    · rw [if_neg c20] at h
      refine e_iload dX8_line_119 rfl ?_
      exact b_X8_line_121 (fun v a1 a2 a3 a4 a5 a6 a7 a9 a10 a11 a12 a13  hh => ih v a1 a2 a3 a4 a5 a6 a7 a9 a10 a11 a12 a13  hh) h
    · rw [if_pos c20] at h
      refine e_bipush (x := (60 : Int32)) dX8_line_114 (by decide) ?_
      refine e_goto (tgt := 121) dX8_line_116 (by decide) ?_
      exact b_X8_line_121 (fun v a1 a2 a3 a4 a5 a6 a7 a9 a10 a11 a12 a13  hh => ih v a1 a2 a3 a4 a5 a6 a7 a9 a10 a11 a12 a13  hh) h
set_option maxRecDepth 20000 in
theorem b_X8_line_104 {X : Nat × (Nat → Int32)} {r : Int32 × rV} {v : rV}   {a1 : Int32} {a2 : Int32} {a3 : Int32} {a4 : Int32} {a5 : Int32} {a6 : Int32} {a7 : Int64} {a9 : Int32} {a10 : Int32} {a11 : Int32} {a12 : Int32} {s0 : Int32}  (h : f_X8_line_104  v a1 a2 a3 a4 a5 a6 a7 a9 a10 a11 a12 s0 = some r) : Ev mX8_line 11 0 0 104 [(0, .ref 174), (1, .int a1), (2, .int a2), (3, .int a3), (4, .int a4), (5, .int a5), (6, .int a6), (7, .long a7), (9, .int a9), (10, .int a10), (11, .int a11), (12, .int a12)] [.int s0] (rZ X) v (rPI X r) := by
  unfold f_X8_line_104 at h
  refine e_istore (lv' := [(13, .int s0), (0, .ref 174), (1, .int a1), (2, .int a2), (3, .int a3), (4, .int a4), (5, .int a5), (6, .int a6), (7, .long a7), (9, .int a9), (10, .int a10), (11, .int a11), (12, .int a12)]) dX8_line_104 (by decide) rfl ?_
  refine e_sub [1, 2, 3, 4, 5, 6, 7, 8, 9, 10, 11, 12, 0] rfl ?_
  exact b_X8_line_106  _ v a1 a2 a3 a4 a5 a6 a7 a9 a10 a11 a12 s0 h
set_option maxRecDepth 20000 in
theorem x_X8_line {X : Nat × (Nat → Int32)} {v : rV} {r : Int32 × rV} {a1 : Int32} {a2 : Int32} {a3 : Int32} {a4 : Int32} {a5 : Int32} {a6 : Int32} {a7 : Int64} {a9 : Int32}  (h : f_X8_line v a1 a2 a3 a4 a5 a6 a7 a9 = some r) : EvM mX8_line 11 0 0 [.ref 174, .int a1, .int a2, .int a3, .int a4, .int a5, .int a6, .long a7, .int a9] (rZ X) v (rPI X r) := by
  refine evm_of (by decide +kernel) (fun G => Nat.le_of_ble_eq_true rfl) ?_
  show Ev mX8_line 11 0 0 0 [(0, .ref 174), (1, .int a1), (2, .int a2), (3, .int a3), (4, .int a4), (5, .int a5), (6, .int a6), (7, .long a7), (9, .int a9)] [] (rZ X) v _
  unfold f_X8_line at h
  refine e_aload_n dX8_line_0 rfl ?_
  refine e_iload_n dX8_line_1 rfl ?_
  refine c_VZ (M' := mX8_isDrop) [.int a2] dX8_line_2 rfl wmX8_244 imX8_isDrop seX8_isDrop lkX8_isDrop k0_174 rc8 (Nat.le_of_ble_eq_true rfl) ((x_X8_isDrop ).mono (by omega)) ?_
  refine e_if_eq (tgt := 71) dX8_line_5 (by decide) (fun c29 => ?_) (fun c29 => ?_)
  · rw [if_neg (bI_n c29)] at h
    refine e_iconst (x := (-1 : Int32)) dX8_line_71 (by decide) ?_
    obtain rfl := Option.some.inj h
    exact e_iret dX8_line_72 rfl rfl ⟨rfl, rfl, rfl⟩
  · rw [if_pos (bI_p c29)] at h
    refine e_iload_n dX8_line_8 rfl ?_
    refine c_SZ (M' := mX8_isLetter) [.int a3] dX8_line_9 rfl wmX8_423 stX8_isLetter lkX8_isLetter (Nat.le_of_ble_eq_true rfl) ((x_X8_isLetter ).mono (by omega)) ?_
    refine e_if_eq (tgt := 71) dX8_line_12 (by decide) (fun c28 => ?_) (fun c28 => ?_)
    · rw [if_neg (bI_n c28)] at h
      refine e_iconst (x := (-1 : Int32)) dX8_line_71 (by decide) ?_
      obtain rfl := Option.some.inj h
      exact e_iret dX8_line_72 rfl rfl ⟨rfl, rfl, rfl⟩
    · rw [if_pos (bI_p c28)] at h
      refine e_iload dX8_line_15 rfl ?_
      refine c_SZ (M' := mX8_isLetter) [.int a4] dX8_line_17 rfl wmX8_423 stX8_isLetter lkX8_isLetter (Nat.le_of_ble_eq_true rfl) ((x_X8_isLetter ).mono (by omega)) ?_
      refine e_if_eq (tgt := 71) dX8_line_20 (by decide) (fun c27 => ?_) (fun c27 => ?_)
      · rw [if_neg (bI_n c27)] at h
        refine e_iconst (x := (-1 : Int32)) dX8_line_71 (by decide) ?_
        obtain rfl := Option.some.inj h
        exact e_iret dX8_line_72 rfl rfl ⟨rfl, rfl, rfl⟩
      · rw [if_pos (bI_p c27)] at h
        refine e_iload_n dX8_line_23 rfl ?_
        refine e_iload dX8_line_24 rfl ?_
        refine e_icmp_eq (tgt := 71) dX8_line_26 (by decide) (fun c26 => ?_) (fun c26 => ?_)
        · rw [if_pos c26] at h
          refine e_iconst (x := (-1 : Int32)) dX8_line_71 (by decide) ?_
          obtain rfl := Option.some.inj h
          exact e_iret dX8_line_72 rfl rfl ⟨rfl, rfl, rfl⟩
        · rw [if_neg c26] at h
          refine e_iload dX8_line_29 rfl ?_
          refine e_iconst (x := (-1 : Int32)) dX8_line_31 (by decide) ?_
          refine e_bipush (x := (60 : Int32)) dX8_line_32 (by decide) ?_
          refine c_SZ (M' := mX8_in) [.int a5, .int (-1 : Int32), .int (60 : Int32)] dX8_line_34 rfl wmX8_216 stX8_in lkX8_in (Nat.le_of_ble_eq_true rfl) ((x_X8_in ).mono (by omega)) ?_
          refine e_if_eq (tgt := 71) dX8_line_37 (by decide) (fun c25 => ?_) (fun c25 => ?_)
          · rw [if_neg (bI_n c25)] at h
            refine e_iconst (x := (-1 : Int32)) dX8_line_71 (by decide) ?_
            obtain rfl := Option.some.inj h
            exact e_iret dX8_line_72 rfl rfl ⟨rfl, rfl, rfl⟩
          · rw [if_pos (bI_p c25)] at h
            refine e_aload_n dX8_line_40 rfl ?_
            refine e_iload_n dX8_line_41 rfl ?_
            refine c_VZ (M' := mX8_isLaw) [.int a1] dX8_line_42 rfl wmX8_272 imX8_isLaw seX8_isLaw lkX8_isLaw k0_174 rc8 (Nat.le_of_ble_eq_true rfl) ((x_X8_isLaw ).mono (by omega)) ?_
            refine e_if_eq (tgt := 71) dX8_line_45 (by decide) (fun c24 => ?_) (fun c24 => ?_)
            · rw [if_neg (bI_n c24)] at h
              refine e_iconst (x := (-1 : Int32)) dX8_line_71 (by decide) ?_
              obtain rfl := Option.some.inj h
              exact e_iret dX8_line_72 rfl rfl ⟨rfl, rfl, rfl⟩
            · rw [if_pos (bI_p c24)] at h
              refine e_iload dX8_line_48 rfl ?_
              refine e_iconst (x := (0 : Int32)) dX8_line_50 (by decide) ?_
              refine e_aload_n dX8_line_51 rfl ?_
              refine e_get (w := .int (v.1 174 14)) (j := 14) dX8_line_52 k0_174 rc8 (by decide) wfX8_238 rfl ?_
              refine e_iconst (x := (1 : Int32)) dX8_line_55 (by decide) ?_
              refine e_isub dX8_line_56 ?_
              refine c_SZ (M' := mX8_in) [.int a6, .int (0 : Int32), .int ((v.1 174 14) - (1 : Int32))] dX8_line_57 rfl wmX8_216 stX8_in lkX8_in (Nat.le_of_ble_eq_true rfl) ((x_X8_in ).mono (by omega)) ?_
              refine e_if_eq (tgt := 71) dX8_line_60 (by decide) (fun c23 => ?_) (fun c23 => ?_)
              · rw [if_neg (bI_n c23)] at h
                refine e_iconst (x := (-1 : Int32)) dX8_line_71 (by decide) ?_
                obtain rfl := Option.some.inj h
                exact e_iret dX8_line_72 rfl rfl ⟨rfl, rfl, rfl⟩
              · rw [if_pos (bI_p c23)] at h
                refine e_iload dX8_line_63 rfl ?_
                refine c_SZ (M' := mX8_areTicks) [.int a9] dX8_line_65 rfl wmX8_381 stX8_areTicks lkX8_areTicks (Nat.le_of_ble_eq_true rfl) ((x_X8_areTicks ).mono (by omega)) ?_
                refine e_if_ne (tgt := 73) dX8_line_68 (by decide) (fun c22 => ?_) (fun c22 => ?_)
                · rw [if_pos (bI_p c22)] at h
                  refine e_aload_n dX8_line_73 rfl ?_
                  refine e_get (w := .ref 185) (j := 19) dX8_line_74 k0_174 rc8 (by decide) wfX8_40 (g0_174_19) ?_
                  refine e_bipush (x := (12 : Int32)) dX8_line_77 (by decide) ?_
                  refine e_iload_n dX8_line_79 rfl ?_
                  refine e_imul dX8_line_80 ?_
                  refine e_iload_n dX8_line_81 rfl ?_
                  refine e_iadd dX8_line_82 ?_
                  obtain ⟨c8, h⟩ := grd h
                  refine e_ialdJ dX8_line_83 k0_185 rfl c8.2 c8.1 ?_
                  obtain ⟨x9, ex9, h⟩ := vlet_ex h
                  refine e_nameI ex9.symm ?_
                  clear ex9
                  refine e_istore (lv' := [(10, .int x9), (0, .ref 174), (1, .int a1), (2, .int a2), (3, .int a3), (4, .int a4), (5, .int a5), (6, .int a6), (7, .long a7), (9, .int a9)]) dX8_line_84 (by decide) rfl ?_
                  refine e_iconst (x := (0 : Int32)) dX8_line_86 (by decide) ?_
                  refine e_istore (lv' := [(11, .int (0 : Int32)), (10, .int x9), (0, .ref 174), (1, .int a1), (2, .int a2), (3, .int a3), (4, .int a4), (5, .int a5), (6, .int a6), (7, .long a7), (9, .int a9)]) dX8_line_87 (by decide) rfl ?_
                  refine e_iconst (x := (-1 : Int32)) dX8_line_89 (by decide) ?_
                  refine e_istore (lv' := [(12, .int (-1 : Int32)), (11, .int (0 : Int32)), (10, .int x9), (0, .ref 174), (1, .int a1), (2, .int a2), (3, .int a3), (4, .int a4), (5, .int a5), (6, .int a6), (7, .long a7), (9, .int a9)]) dX8_line_90 (by decide) rfl ?_
                  refine e_iload dX8_line_92 rfl ?_
                  refine e_iconst (x := (-1 : Int32)) dX8_line_94 (by decide) ?_
                  refine e_icmp_ne (tgt := 102) dX8_line_95 (by decide) (fun c21 => ?_) (fun c21 => ?_)
                  · rw [if_neg c21] at h
                    refine e_iload dX8_line_102 rfl ?_
                    refine e_sub [3, 4, 5, 6, 7, 8, 9, 10, 11, 2, 1, 0] rfl ?_
                    exact b_X8_line_104  h
                  · rw [if_pos c21] at h
                    refine e_iconst (x := (0 : Int32)) dX8_line_98 (by decide) ?_
                    refine e_goto (tgt := 104) dX8_line_99 (by decide) ?_
                    refine e_sub [3, 4, 5, 6, 7, 8, 9, 10, 11, 2, 1, 0] rfl ?_
                    exact b_X8_line_104  h
                · rw [if_neg (bI_n c22)] at h
                  refine e_iconst (x := (-1 : Int32)) dX8_line_71 (by decide) ?_
                  obtain rfl := Option.some.inj h
                  exact e_iret dX8_line_72 rfl rfl ⟨rfl, rfl, rfl⟩
def f_X8_luck_104  (q61 : rV → Int32 → Int32 → Int32 → Int64 → Int32 → Int32 → Int32 → Int32 → Option (Int32 × rV)) (v : rV) (a1 : Int32) (a2 : Int32) (a3 : Int32) (a4 : Int64) (a6 : Int32) (a7 : Int32) (a9 : Int32) (s0 : Int32) (s1 : Int32) : Option (Int32 × rV) := vlet (s1 + s0 : Int32) fun x11 =>
  vlet (a9 + (1 : Int32)) fun x12 =>
  q61 v a1 a2 a3 a4 a6 a7 x11 x12
def f_X8_luck_61   : Nat → rV → Int32 → Int32 → Int32 → Int64 → Int32 → Int32 → Int32 → Int32 → Option (Int32 × rV)
  | 0, _, _, _, _, _, _, _, _, _ => none
  | n + 1, v, a1, a2, a3, a4, a6, a7, a8, a9 => if a6 ≤ a9 then
  ((f_X8_takeBack v).bind fun p7 =>
  some (a8, p7))
else
  ((f_X8_gather v ((1 : Int32) <<< (a2 &&& 31))).bind fun p8 =>
  (f_X8_tryOut p8.2 a1 (a4 + a9.toInt64) a7).bind fun p9 =>
  (f_X8_isMet p9 a3).bind fun p10 =>
  if p10.1 = true then
  (f_X8_luck_104 (fun v a1 a2 a3 a4 a6 a7 a8 a9 => f_X8_luck_61  n v a1 a2 a3 a4 a6 a7 a8 a9) p10.2 a1 a2 a3 a4 a6 a7 a9 (1 : Int32) a8)
else
  (f_X8_luck_104 (fun v a1 a2 a3 a4 a6 a7 a8 a9 => f_X8_luck_61  n v a1 a2 a3 a4 a6 a7 a8 a9) p10.2 a1 a2 a3 a4 a6 a7 a9 (0 : Int32) a8))
def f_X8_luck (v : rV) (a1 : Int32) (a2 : Int32) (a3 : Int32) (a4 : Int64) (a6 : Int32) (a7 : Int32) : Option (Int32 × rV) := if (f_X8_isLaw v a1) = true then
  (if (f_X8_isDrop v a2) = true then
  (if (f_X8_in a3 (0 : Int32) ((v.1 174 14) - (1 : Int32))) = true then
  (if (f_X8_in a6 (1 : Int32) (20 : Int32)) = true then
  (if (f_X8_areTicks a7) = true then
  ((f_X8_putAside v).bind fun p6 =>
  f_X8_luck_61  20000 p6 a1 a2 a3 a4 a6 a7 (0 : Int32) (0 : Int32))
else
  (some ((-1 : Int32), v)))
else
  (some ((-1 : Int32), v)))
else
  (some ((-1 : Int32), v)))
else
  (some ((-1 : Int32), v)))
else
  (some ((-1 : Int32), v))
set_option maxRecDepth 20000 in
theorem b_X8_luck_104 {X : Nat × (Nat → Int32)} {r : Int32 × rV} {v : rV} {q61 : rV → Int32 → Int32 → Int32 → Int64 → Int32 → Int32 → Int32 → Int32 → Option (Int32 × rV)} (hq61 : ∀ (v : rV) (a1 : Int32) (a2 : Int32) (a3 : Int32) (a4 : Int64) (a6 : Int32) (a7 : Int32) (a8 : Int32) (a9 : Int32) , q61 v a1 a2 a3 a4 a6 a7 a8 a9 = some r → Ev mX8_luck 10 0 0 61 [(0, .ref 174), (1, .int a1), (2, .int a2), (3, .int a3), (4, .long a4), (6, .int a6), (7, .int a7), (8, .int a8), (9, .int a9)] [] (rZ X) v (rPI X r)) {a1 : Int32} {a2 : Int32} {a3 : Int32} {a4 : Int64} {a6 : Int32} {a7 : Int32} {a9 : Int32} {s0 : Int32} {s1 : Int32}  (h : f_X8_luck_104 q61 v a1 a2 a3 a4 a6 a7 a9 s0 s1 = some r) : Ev mX8_luck 10 0 0 104 [(0, .ref 174), (1, .int a1), (2, .int a2), (3, .int a3), (4, .long a4), (6, .int a6), (7, .int a7), (9, .int a9)] [.int s0, .int s1] (rZ X) v (rPI X r) := by
  unfold f_X8_luck_104 at h
  refine e_iadd dX8_luck_104 ?_
  obtain ⟨x11, ex11, h⟩ := vlet_ex h
  refine e_nameI ex11.symm ?_
  clear ex11
  refine e_istore (lv' := [(8, .int x11), (0, .ref 174), (1, .int a1), (2, .int a2), (3, .int a3), (4, .long a4), (6, .int a6), (7, .int a7), (9, .int a9)]) dX8_luck_105 (by decide) rfl ?_
  obtain ⟨x12, ex12, h⟩ := vlet_ex h
  refine e_iinc (lv' := [(9, .int x12), (8, .int x11), (0, .ref 174), (1, .int a1), (2, .int a2), (3, .int a3), (4, .long a4), (6, .int a6), (7, .int a7)]) dX8_luck_107 rfl (ex12.symm) (by decide) rfl ?_
  clear ex12
  refine e_goto (tgt := 61) dX8_luck_110 (by decide) ?_
  refine e_sub [2, 3, 4, 5, 6, 7, 8, 1, 0] rfl ?_
  exact hq61 v a1 a2 a3 a4 a6 a7 x11 x12 h
set_option maxRecDepth 20000 in
theorem b_X8_luck_61 {X : Nat × (Nat → Int32)} {r : Int32 × rV}   : ∀ (n : Nat) (v : rV) (a1 : Int32) (a2 : Int32) (a3 : Int32) (a4 : Int64) (a6 : Int32) (a7 : Int32) (a8 : Int32) (a9 : Int32) , f_X8_luck_61   n v a1 a2 a3 a4 a6 a7 a8 a9 = some r → Ev mX8_luck 10 0 0 61 [(0, .ref 174), (1, .int a1), (2, .int a2), (3, .int a3), (4, .long a4), (6, .int a6), (7, .int a7), (8, .int a8), (9, .int a9)] [] (rZ X) v (rPI X r) := by
  intro n
  induction n with
  | zero =>
    intros
    rename_i h
    cases h
  | succ n ih =>
    intro v a1 a2 a3 a4 a6 a7 a8 a9 h
    rw [f_X8_luck_61] at h
    refine e_iload dX8_luck_61 rfl ?_
    refine e_iload dX8_luck_63 rfl ?_
    refine e_icmp_ge (tgt := 113) dX8_luck_65 (by decide) (fun c14 => ?_) (fun c14 => ?_)
    · rw [if_pos c14] at h
      refine e_aload_n dX8_luck_113 rfl ?_
      obtain ⟨p7, ep7, h⟩ := Option.bind_eq_some_iff.mp h
      refine c_VV (M' := mX8_takeBack) [] dX8_luck_114 rfl wmX8_391 imX8_takeBack seX8_takeBack lkX8_takeBack k0_174 rc8 (Nat.le_of_ble_eq_true rfl) ((x_X8_takeBack  ep7).mono (by omega)) ?_
      refine e_iload dX8_luck_117 rfl ?_
      obtain rfl := Option.some.inj h
      exact e_iret dX8_luck_119 rfl rfl ⟨rfl, rfl, rfl⟩
    · rw [if_neg c14] at h
      refine e_aload_n dX8_luck_68 rfl ?_
      refine e_iconst (x := (1 : Int32)) dX8_luck_69 (by decide) ?_
      refine e_iload_n dX8_luck_70 rfl ?_
      refine e_ishl dX8_luck_71 ?_
      obtain ⟨p8, ep8, h⟩ := Option.bind_eq_some_iff.mp h
      refine c_VZ (M' := mX8_gather) [.int ((1 : Int32) <<< (a2 &&& 31))] dX8_luck_72 rfl wmX8_278 imX8_gather seX8_gather lkX8_gather k0_174 rc8 (Nat.le_of_ble_eq_true rfl) ((x_X8_gather  ep8).mono (by omega)) ?_
      refine e_pop dX8_luck_75 rfl ?_
      refine e_aload_n dX8_luck_76 rfl ?_
      refine e_iload_n dX8_luck_77 rfl ?_
      refine e_lload dX8_luck_78 rfl ?_
      refine e_iload dX8_luck_80 rfl ?_
      refine e_i2l dX8_luck_82 ?_
      refine e_ladd dX8_luck_83 ?_
      refine e_iload dX8_luck_84 rfl ?_
      obtain ⟨p9, ep9, h⟩ := Option.bind_eq_some_iff.mp h
      refine c_VV (M' := mX8_tryOut) [.int a1, .long (a4 + a9.toInt64), .int a7] dX8_luck_86 rfl wmX8_387 imX8_tryOut seX8_tryOut lkX8_tryOut k0_174 rc8 (Nat.le_of_ble_eq_true rfl) ((x_X8_tryOut  ep9).mono (by omega)) ?_
      refine e_iload dX8_luck_89 rfl ?_
      refine e_aload_n dX8_luck_91 rfl ?_
      refine e_iload_n dX8_luck_92 rfl ?_
      obtain ⟨p10, ep10, h⟩ := Option.bind_eq_some_iff.mp h
      refine c_VZ (M' := mX8_isMet) [.int a3] dX8_luck_93 rfl wmX8_375 imX8_isMet seX8_isMet lkX8_isMet k0_174 rc8 (Nat.le_of_ble_eq_true rfl) ((x_X8_isMet  ep10).mono (by omega)) ?_
      refine e_if_eq (tgt := 103) dX8_luck_96 (by decide) (fun c13 => ?_) (fun c13 => ?_)
      · rw [if_neg (bI_n c13)] at h
        refine e_iconst (x := (0 : Int32)) dX8_luck_103 (by decide) ?_
        refine e_sub [0, 1, 2, 3, 4, 5, 6, 8] rfl ?_
        exact b_X8_luck_104 (fun v a1 a2 a3 a4 a6 a7 a8 a9  hh => ih v a1 a2 a3 a4 a6 a7 a8 a9  hh) h
      · rw [if_pos (bI_p c13)] at h
        refine e_iconst (x := (1 : Int32)) dX8_luck_99 (by decide) ?_
        refine e_goto (tgt := 104) dX8_luck_100 (by decide) ?_
        refine e_sub [0, 1, 2, 3, 4, 5, 6, 8] rfl ?_
        exact b_X8_luck_104 (fun v a1 a2 a3 a4 a6 a7 a8 a9  hh => ih v a1 a2 a3 a4 a6 a7 a8 a9  hh) h
set_option maxRecDepth 20000 in
theorem x_X8_luck {X : Nat × (Nat → Int32)} {v : rV} {r : Int32 × rV} {a1 : Int32} {a2 : Int32} {a3 : Int32} {a4 : Int64} {a6 : Int32} {a7 : Int32}  (h : f_X8_luck v a1 a2 a3 a4 a6 a7 = some r) : EvM mX8_luck 10 0 0 [.ref 174, .int a1, .int a2, .int a3, .long a4, .int a6, .int a7] (rZ X) v (rPI X r) := by
  refine evm_of (by decide +kernel) (fun G => Nat.le_of_ble_eq_true rfl) ?_
  show Ev mX8_luck 10 0 0 0 [(0, .ref 174), (1, .int a1), (2, .int a2), (3, .int a3), (4, .long a4), (6, .int a6), (7, .int a7)] [] (rZ X) v _
  unfold f_X8_luck at h
  refine e_aload_n dX8_luck_0 rfl ?_
  refine e_iload_n dX8_luck_1 rfl ?_
  refine c_VZ (M' := mX8_isLaw) [.int a1] dX8_luck_2 rfl wmX8_272 imX8_isLaw seX8_isLaw lkX8_isLaw k0_174 rc8 (Nat.le_of_ble_eq_true rfl) ((x_X8_isLaw ).mono (by omega)) ?_
  refine e_if_eq (tgt := 49) dX8_luck_5 (by decide) (fun c19 => ?_) (fun c19 => ?_)
  · rw [if_neg (bI_n c19)] at h
    refine e_iconst (x := (-1 : Int32)) dX8_luck_49 (by decide) ?_
    obtain rfl := Option.some.inj h
    exact e_iret dX8_luck_50 rfl rfl ⟨rfl, rfl, rfl⟩
  · rw [if_pos (bI_p c19)] at h
    refine e_aload_n dX8_luck_8 rfl ?_
    refine e_iload_n dX8_luck_9 rfl ?_
    refine c_VZ (M' := mX8_isDrop) [.int a2] dX8_luck_10 rfl wmX8_244 imX8_isDrop seX8_isDrop lkX8_isDrop k0_174 rc8 (Nat.le_of_ble_eq_true rfl) ((x_X8_isDrop ).mono (by omega)) ?_
    refine e_if_eq (tgt := 49) dX8_luck_13 (by decide) (fun c18 => ?_) (fun c18 => ?_)
    · rw [if_neg (bI_n c18)] at h
      refine e_iconst (x := (-1 : Int32)) dX8_luck_49 (by decide) ?_
      obtain rfl := Option.some.inj h
      exact e_iret dX8_luck_50 rfl rfl ⟨rfl, rfl, rfl⟩
    · rw [if_pos (bI_p c18)] at h
      refine e_iload_n dX8_luck_16 rfl ?_
      refine e_iconst (x := (0 : Int32)) dX8_luck_17 (by decide) ?_
      refine e_aload_n dX8_luck_18 rfl ?_
      refine e_get (w := .int (v.1 174 14)) (j := 14) dX8_luck_19 k0_174 rc8 (by decide) wfX8_238 rfl ?_
      refine e_iconst (x := (1 : Int32)) dX8_luck_22 (by decide) ?_
      refine e_isub dX8_luck_23 ?_
      refine c_SZ (M' := mX8_in) [.int a3, .int (0 : Int32), .int ((v.1 174 14) - (1 : Int32))] dX8_luck_24 rfl wmX8_216 stX8_in lkX8_in (Nat.le_of_ble_eq_true rfl) ((x_X8_in ).mono (by omega)) ?_
      refine e_if_eq (tgt := 49) dX8_luck_27 (by decide) (fun c17 => ?_) (fun c17 => ?_)
      · rw [if_neg (bI_n c17)] at h
        refine e_iconst (x := (-1 : Int32)) dX8_luck_49 (by decide) ?_
        obtain rfl := Option.some.inj h
        exact e_iret dX8_luck_50 rfl rfl ⟨rfl, rfl, rfl⟩
      · rw [if_pos (bI_p c17)] at h
        refine e_iload dX8_luck_30 rfl ?_
        refine e_iconst (x := (1 : Int32)) dX8_luck_32 (by decide) ?_
        refine e_bipush (x := (20 : Int32)) dX8_luck_33 (by decide) ?_
        refine c_SZ (M' := mX8_in) [.int a6, .int (1 : Int32), .int (20 : Int32)] dX8_luck_35 rfl wmX8_216 stX8_in lkX8_in (Nat.le_of_ble_eq_true rfl) ((x_X8_in ).mono (by omega)) ?_
        refine e_if_eq (tgt := 49) dX8_luck_38 (by decide) (fun c16 => ?_) (fun c16 => ?_)
        · rw [if_neg (bI_n c16)] at h
          refine e_iconst (x := (-1 : Int32)) dX8_luck_49 (by decide) ?_
          obtain rfl := Option.some.inj h
          exact e_iret dX8_luck_50 rfl rfl ⟨rfl, rfl, rfl⟩
        · rw [if_pos (bI_p c16)] at h
          refine e_iload dX8_luck_41 rfl ?_
          refine c_SZ (M' := mX8_areTicks) [.int a7] dX8_luck_43 rfl wmX8_381 stX8_areTicks lkX8_areTicks (Nat.le_of_ble_eq_true rfl) ((x_X8_areTicks ).mono (by omega)) ?_
          refine e_if_ne (tgt := 51) dX8_luck_46 (by decide) (fun c15 => ?_) (fun c15 => ?_)
          · rw [if_pos (bI_p c15)] at h
            refine e_aload_n dX8_luck_51 rfl ?_
            obtain ⟨p6, ep6, h⟩ := Option.bind_eq_some_iff.mp h
            refine c_VV (M' := mX8_putAside) [] dX8_luck_52 rfl wmX8_384 imX8_putAside seX8_putAside lkX8_putAside k0_174 rc8 (Nat.le_of_ble_eq_true rfl) ((x_X8_putAside  ep6).mono (by omega)) ?_
            refine e_iconst (x := (0 : Int32)) dX8_luck_55 (by decide) ?_
            refine e_istore (lv' := [(8, .int (0 : Int32)), (0, .ref 174), (1, .int a1), (2, .int a2), (3, .int a3), (4, .long a4), (6, .int a6), (7, .int a7)]) dX8_luck_56 (by decide) rfl ?_
            refine e_iconst (x := (0 : Int32)) dX8_luck_58 (by decide) ?_
            refine e_istore (lv' := [(9, .int (0 : Int32)), (8, .int (0 : Int32)), (0, .ref 174), (1, .int a1), (2, .int a2), (3, .int a3), (4, .long a4), (6, .int a6), (7, .int a7)]) dX8_luck_59 (by decide) rfl ?_
            refine e_sub [2, 3, 4, 5, 6, 7, 8, 1, 0] rfl ?_
            exact b_X8_luck_61  _ p6 a1 a2 a3 a4 a6 a7 (0 : Int32) (0 : Int32) h
          · rw [if_neg (bI_n c15)] at h
            refine e_iconst (x := (-1 : Int32)) dX8_luck_49 (by decide) ?_
            obtain rfl := Option.some.inj h
            exact e_iret dX8_luck_50 rfl rfl ⟨rfl, rfl, rfl⟩
def f_X8_met (v : rV) (a1 : Int32) : Option (Int32 × rV) := if (f_X8_in a1 (0 : Int32) ((v.1 174 14) - (1 : Int32))) = true then
  ((f_X8_isMet v a1).bind fun p2 =>
  if p2.1 = true then
  (some ((1 : Int32), p2.2))
else
  (some ((0 : Int32), p2.2)))
else
  (some ((-1 : Int32), v))
set_option maxRecDepth 20000 in
theorem x_X8_met {X : Nat × (Nat → Int32)} {v : rV} {r : Int32 × rV} {a1 : Int32}  (h : f_X8_met v a1 = some r) : EvM mX8_met 7 0 0 [.ref 174, .int a1] (rZ X) v (rPI X r) := by
  refine evm_of (by decide +kernel) (fun G => Nat.le_of_ble_eq_true rfl) ?_
  show Ev mX8_met 7 0 0 0 [(0, .ref 174), (1, .int a1)] [] (rZ X) v _
  unfold f_X8_met at h
  refine e_iload_n dX8_met_0 rfl ?_
  refine e_iconst (x := (0 : Int32)) dX8_met_1 (by decide) ?_
  refine e_aload_n dX8_met_2 rfl ?_
  refine e_get (w := .int (v.1 174 14)) (j := 14) dX8_met_3 k0_174 rc8 (by decide) wfX8_238 rfl ?_
  refine e_iconst (x := (1 : Int32)) dX8_met_6 (by decide) ?_
  refine e_isub dX8_met_7 ?_
  refine c_SZ (M' := mX8_in) [.int a1, .int (0 : Int32), .int ((v.1 174 14) - (1 : Int32))] dX8_met_8 rfl wmX8_216 stX8_in lkX8_in (Nat.le_of_ble_eq_true rfl) ((x_X8_in ).mono (by omega)) ?_
  refine e_if_eq (tgt := 30) dX8_met_11 (by decide) (fun c4 => ?_) (fun c4 => ?_)
  · rw [if_neg (bI_n c4)] at h
    refine e_iconst (x := (-1 : Int32)) dX8_met_30 (by decide) ?_
    obtain rfl := Option.some.inj h
    exact e_iret dX8_met_31 rfl rfl ⟨rfl, rfl, rfl⟩
  · rw [if_pos (bI_p c4)] at h
    refine e_aload_n dX8_met_14 rfl ?_
    refine e_iload_n dX8_met_15 rfl ?_
    obtain ⟨p2, ep2, h⟩ := Option.bind_eq_some_iff.mp h
    refine c_VZ (M' := mX8_isMet) [.int a1] dX8_met_16 rfl wmX8_375 imX8_isMet seX8_isMet lkX8_isMet k0_174 rc8 (Nat.le_of_ble_eq_true rfl) ((x_X8_isMet  ep2).mono (by omega)) ?_
    refine e_if_eq (tgt := 26) dX8_met_19 (by decide) (fun c3 => ?_) (fun c3 => ?_)
    · rw [if_neg (bI_n c3)] at h
      refine e_iconst (x := (0 : Int32)) dX8_met_26 (by decide) ?_
      refine e_goto (tgt := 31) dX8_met_27 (by decide) ?_
      obtain rfl := Option.some.inj h
      exact e_iret dX8_met_31 rfl rfl ⟨rfl, rfl, rfl⟩
    · rw [if_pos (bI_p c3)] at h
      refine e_iconst (x := (1 : Int32)) dX8_met_22 (by decide) ?_
      refine e_goto (tgt := 31) dX8_met_23 (by decide) ?_
      obtain rfl := Option.some.inj h
      exact e_iret dX8_met_31 rfl rfl ⟨rfl, rfl, rfl⟩
def f_X8_middle_65 (v : rV)  : Nat → Int32 → Int32 → Int32 → Int32 → Int32 → Option (Int32)
  | 0, _, _, _, _, _ => none
  | n + 1, a1, a2, a3, a4, a5 => if (24 : Int32) ≤ a5 then
  (if a1 = 0 then
  (if a2 = 0 then none else
  some (a3 / a2))
else
  (some a4))
else
  ((f_X8_laidIn v a5).bind fun p4 =>
  if a2 = 0 then none else
  vlet (a4 + (p4 * (if 0 ≤ (a5 - ((a3 / a2) / (10 : Int32))) then (a5 - ((a3 / a2) / (10 : Int32))) else 0 - (a5 - ((a3 / a2) / (10 : Int32))))) : Int32) fun x5 =>
  vlet (a5 + (1 : Int32)) fun x6 =>
  f_X8_middle_65 v n a1 a2 a3 x5 x6)
def f_X8_middle_7 (v : rV)  : Nat → Int32 → Int32 → Int32 → Int32 → Option (Int32)
  | 0, _, _, _, _ => none
  | n + 1, a1, a2, a3, a4 => if (24 : Int32) ≤ a4 then
  (if a2 = 0 then
  (some (-1 : Int32))
else
  (if (f_X8_in a1 (0 : Int32) (1 : Int32)) = true then
  (f_X8_middle_65 v 20000 a1 a2 a3 (0 : Int32) (0 : Int32))
else
  (some (-1 : Int32))))
else
  ((f_X8_laidIn v a4).bind fun p11 =>
  vlet (a2 + p11 : Int32) fun x12 =>
  (f_X8_laidIn v a4).bind fun p13 =>
  vlet (a3 + (((10 : Int32) * a4) * p13) : Int32) fun x14 =>
  vlet (a4 + (1 : Int32)) fun x15 =>
  f_X8_middle_7 v n a1 x12 x14 x15)
def f_X8_middle (v : rV) (a1 : Int32) : Option (Int32) := f_X8_middle_7 v 20000 a1 (0 : Int32) (0 : Int32) (0 : Int32)
set_option maxRecDepth 20000 in
theorem b_X8_middle_65 {X : Nat × (Nat → Int32)} {r : Int32} {v : rV}   : ∀ (n : Nat) (a1 : Int32) (a2 : Int32) (a3 : Int32) (a4 : Int32) (a5 : Int32) , f_X8_middle_65 v  n a1 a2 a3 a4 a5 = some r → Ev mX8_middle 4 0 0 65 [(0, .ref 174), (1, .int a1), (2, .int a2), (3, .int a3), (4, .int a4), (5, .int a5)] [] (rZ X) v (rPI X (r, v)) := by
  intro n
  induction n with
  | zero =>
    intros
    rename_i h
    cases h
  | succ n ih =>
    intro a1 a2 a3 a4 a5 h
    rw [f_X8_middle_65] at h
    refine e_iload dX8_middle_65 rfl ?_
    refine e_bipush (x := (24 : Int32)) dX8_middle_67 (by decide) ?_
    refine e_icmp_ge (tgt := 102) dX8_middle_69 (by decide) (fun c8 => ?_) (fun c8 => ?_)
    · rw [if_pos c8] at h
      refine e_iload_n dX8_middle_102 rfl ?_
      refine e_if_ne (tgt := 112) dX8_middle_103 (by decide) (fun c3 => ?_) (fun c3 => ?_)
      · rw [if_neg c3] at h
        refine e_iload dX8_middle_112 rfl ?_
        obtain rfl := Option.some.inj h
        exact e_iret dX8_middle_114 rfl rfl ⟨rfl, rfl, rfl⟩
      · rw [if_pos c3] at h
        refine e_iload_n dX8_middle_106 rfl ?_
        refine e_iload_n dX8_middle_107 rfl ?_
        obtain ⟨c2, h⟩ := grdn h
        refine e_idiv dX8_middle_108 c2 ?_
        refine e_goto (tgt := 114) dX8_middle_109 (by decide) ?_
        obtain rfl := Option.some.inj h
        exact e_iret dX8_middle_114 rfl rfl ⟨rfl, rfl, rfl⟩
    · rw [if_neg c8] at h
      refine e_iload dX8_middle_72 rfl ?_
      refine e_aload_n dX8_middle_74 rfl ?_
      refine e_iload dX8_middle_75 rfl ?_
      obtain ⟨p4, ep4, h⟩ := Option.bind_eq_some_iff.mp h
      refine c_VI (M' := mX8_laidIn) [.int a5] dX8_middle_77 rfl wmX8_357 imX8_laidIn seX8_laidIn lkX8_laidIn k0_174 rc8 (Nat.le_of_ble_eq_true rfl) ((x_X8_laidIn  ep4).mono (by omega)) ?_
      refine e_iload dX8_middle_80 rfl ?_
      refine e_iload_n dX8_middle_82 rfl ?_
      refine e_iload_n dX8_middle_83 rfl ?_
      obtain ⟨c7, h⟩ := grdn h
      refine e_idiv dX8_middle_84 c7 ?_
      refine e_bipush (x := (10 : Int32)) dX8_middle_85 (by decide) ?_
      refine e_idiv dX8_middle_87 (by decide) ?_
      refine e_isub dX8_middle_88 ?_
      refine e_abs dX8_middle_89 wmX8_308 wmst_abs winimath wmcd_abs (by omega) (Nat.le_of_ble_eq_true rfl) ?_
      refine e_imul dX8_middle_92 ?_
      refine e_iadd dX8_middle_93 ?_
      obtain ⟨x5, ex5, h⟩ := vlet_ex h
      refine e_nameI ex5.symm ?_
      clear ex5
      refine e_istore (lv' := [(4, .int x5), (0, .ref 174), (1, .int a1), (2, .int a2), (3, .int a3), (5, .int a5)]) dX8_middle_94 (by decide) rfl ?_
      obtain ⟨x6, ex6, h⟩ := vlet_ex h
      refine e_iinc (lv' := [(5, .int x6), (4, .int x5), (0, .ref 174), (1, .int a1), (2, .int a2), (3, .int a3)]) dX8_middle_96 rfl (ex6.symm) (by decide) rfl ?_
      clear ex6
      refine e_goto (tgt := 65) dX8_middle_99 (by decide) ?_
      refine e_sub [2, 3, 4, 5, 1, 0] rfl ?_
      exact ih a1 a2 a3 x5 x6 h
set_option maxRecDepth 20000 in
theorem b_X8_middle_7 {X : Nat × (Nat → Int32)} {r : Int32} {v : rV}   : ∀ (n : Nat) (a1 : Int32) (a2 : Int32) (a3 : Int32) (a4 : Int32) , f_X8_middle_7 v  n a1 a2 a3 a4 = some r → Ev mX8_middle 4 0 0 7 [(0, .ref 174), (1, .int a1), (2, .int a2), (3, .int a3), (4, .int a4)] [] (rZ X) v (rPI X (r, v)) := by
  intro n
  induction n with
  | zero =>
    intros
    rename_i h
    cases h
  | succ n ih =>
    intro a1 a2 a3 a4 h
    rw [f_X8_middle_7] at h
    refine e_iload dX8_middle_7 rfl ?_
    refine e_bipush (x := (24 : Int32)) dX8_middle_9 (by decide) ?_
    refine e_icmp_ge (tgt := 44) dX8_middle_11 (by decide) (fun c16 => ?_) (fun c16 => ?_)
    · rw [if_pos c16] at h
      refine e_iload_n dX8_middle_44 rfl ?_
      refine e_if_eq (tgt := 57) dX8_middle_45 (by decide) (fun c10 => ?_) (fun c10 => ?_)
      · rw [if_pos c10] at h
        refine e_iconst (x := (-1 : Int32)) dX8_middle_57 (by decide) ?_
        obtain rfl := Option.some.inj h
        exact e_iret dX8_middle_58 rfl rfl ⟨rfl, rfl, rfl⟩
      · rw [if_neg c10] at h
        refine e_iload_n dX8_middle_48 rfl ?_
        refine e_iconst (x := (0 : Int32)) dX8_middle_49 (by decide) ?_
        refine e_iconst (x := (1 : Int32)) dX8_middle_50 (by decide) ?_
        refine c_SZ (M' := mX8_in) [.int a1, .int (0 : Int32), .int (1 : Int32)] dX8_middle_51 rfl wmX8_216 stX8_in lkX8_in (Nat.le_of_ble_eq_true rfl) ((x_X8_in ).mono (by omega)) ?_
        refine e_if_ne (tgt := 59) dX8_middle_54 (by decide) (fun c9 => ?_) (fun c9 => ?_)
        · rw [if_pos (bI_p c9)] at h
          refine e_iconst (x := (0 : Int32)) dX8_middle_59 (by decide) ?_
          refine e_istore (lv' := [(4, .int (0 : Int32)), (0, .ref 174), (1, .int a1), (2, .int a2), (3, .int a3)]) dX8_middle_60 (by decide) rfl ?_
          refine e_iconst (x := (0 : Int32)) dX8_middle_62 (by decide) ?_
          refine e_istore (lv' := [(5, .int (0 : Int32)), (4, .int (0 : Int32)), (0, .ref 174), (1, .int a1), (2, .int a2), (3, .int a3)]) dX8_middle_63 (by decide) rfl ?_
          refine e_sub [2, 3, 4, 5, 1, 0] rfl ?_
          exact b_X8_middle_65  _ a1 a2 a3 (0 : Int32) (0 : Int32) h
        · rw [if_neg (bI_n c9)] at h
          refine e_iconst (x := (-1 : Int32)) dX8_middle_57 (by decide) ?_
          obtain rfl := Option.some.inj h
          exact e_iret dX8_middle_58 rfl rfl ⟨rfl, rfl, rfl⟩
    · rw [if_neg c16] at h
      refine e_iload_n dX8_middle_14 rfl ?_
      refine e_aload_n dX8_middle_15 rfl ?_
      refine e_iload dX8_middle_16 rfl ?_
      obtain ⟨p11, ep11, h⟩ := Option.bind_eq_some_iff.mp h
      refine c_VI (M' := mX8_laidIn) [.int a4] dX8_middle_18 rfl wmX8_357 imX8_laidIn seX8_laidIn lkX8_laidIn k0_174 rc8 (Nat.le_of_ble_eq_true rfl) ((x_X8_laidIn  ep11).mono (by omega)) ?_
      refine e_iadd dX8_middle_21 ?_
      obtain ⟨x12, ex12, h⟩ := vlet_ex h
      refine e_nameI ex12.symm ?_
      clear ex12
      refine e_istore_n (lv' := [(2, .int x12), (0, .ref 174), (1, .int a1), (3, .int a3), (4, .int a4)]) dX8_middle_22 (by decide) rfl ?_
      refine e_iload_n dX8_middle_23 rfl ?_
      refine e_bipush (x := (10 : Int32)) dX8_middle_24 (by decide) ?_
      refine e_iload dX8_middle_26 rfl ?_
      refine e_imul dX8_middle_28 ?_
      refine e_aload_n dX8_middle_29 rfl ?_
      refine e_iload dX8_middle_30 rfl ?_
      obtain ⟨p13, ep13, h⟩ := Option.bind_eq_some_iff.mp h
      refine c_VI (M' := mX8_laidIn) [.int a4] dX8_middle_32 rfl wmX8_357 imX8_laidIn seX8_laidIn lkX8_laidIn k0_174 rc8 (Nat.le_of_ble_eq_true rfl) ((x_X8_laidIn  ep13).mono (by omega)) ?_
      refine e_imul dX8_middle_35 ?_
      refine e_iadd dX8_middle_36 ?_
      obtain ⟨x14, ex14, h⟩ := vlet_ex h
      refine e_nameI ex14.symm ?_
      clear ex14
      refine e_istore_n (lv' := [(3, .int x14), (2, .int x12), (0, .ref 174), (1, .int a1), (4, .int a4)]) dX8_middle_37 (by decide) rfl ?_
      obtain ⟨x15, ex15, h⟩ := vlet_ex h
      refine e_iinc (lv' := [(4, .int x15), (3, .int x14), (2, .int x12), (0, .ref 174), (1, .int a1)]) dX8_middle_38 rfl (ex15.symm) (by decide) rfl ?_
      clear ex15
      refine e_goto (tgt := 7) dX8_middle_41 (by decide) ?_
      refine e_sub [3, 4, 2, 1, 0] rfl ?_
      exact ih a1 x12 x14 x15 h
set_option maxRecDepth 20000 in
theorem x_X8_middle {X : Nat × (Nat → Int32)} {v : rV} {r : Int32} {a1 : Int32}  (h : f_X8_middle v a1 = some r) : EvM mX8_middle 4 0 0 [.ref 174, .int a1] (rZ X) v (rPI X (r, v)) := by
  refine evm_of (by decide +kernel) (fun G => Nat.le_of_ble_eq_true rfl) ?_
  show Ev mX8_middle 4 0 0 0 [(0, .ref 174), (1, .int a1)] [] (rZ X) v _
  unfold f_X8_middle at h
  refine e_iconst (x := (0 : Int32)) dX8_middle_0 (by decide) ?_
  refine e_istore_n (lv' := [(2, .int (0 : Int32)), (0, .ref 174), (1, .int a1)]) dX8_middle_1 (by decide) rfl ?_
  refine e_iconst (x := (0 : Int32)) dX8_middle_2 (by decide) ?_
  refine e_istore_n (lv' := [(3, .int (0 : Int32)), (2, .int (0 : Int32)), (0, .ref 174), (1, .int a1)]) dX8_middle_3 (by decide) rfl ?_
  refine e_iconst (x := (0 : Int32)) dX8_middle_4 (by decide) ?_
  refine e_istore (lv' := [(4, .int (0 : Int32)), (3, .int (0 : Int32)), (2, .int (0 : Int32)), (0, .ref 174), (1, .int a1)]) dX8_middle_5 (by decide) rfl ?_
  refine e_sub [3, 4, 2, 1, 0] rfl ?_
  exact b_X8_middle_7  _ a1 (0 : Int32) (0 : Int32) (0 : Int32) h
def f_X8_nearestTick_105  (q21 : rV → Int32 → Int32 → Int32 → Option (Int32 × rV)) (v : rV) (a1 : Int32) (a6 : Int32) (a7 : Int32) : Option (Int32 × rV) := vlet (a7 + (1 : Int32)) fun x5 =>
  q21 v a1 a6 x5
def f_X8_nearestTick_95  (q21 : rV → Int32 → Int32 → Int32 → Option (Int32 × rV)) (v : rV) (a1 : Int32) (a7 : Int32) (a8 : Int32) : Option (Int32 × rV) := vlet (rI v 174 43 a8) fun v4 =>
  f_X8_nearestTick_105 q21 v4 a1 a7 a7
def f_X8_nearestTick_40  (q21 : rV → Int32 → Int32 → Int32 → Option (Int32 × rV)) : Nat → rV → Int32 → Int32 → Int32 → Int32 → Int32 → Option (Int32 × rV)
  | 0, _, _, _, _, _, _ => none
  | n + 1, v, a1, a6, a7, a8, a9 => if (24 : Int32) ≤ a9 then
  (if a6 = (-1 : Int32) then
  (f_X8_nearestTick_95 q21 v a1 a7 a8)
else
  (if (v.1 174 43) ≤ a8 then
  (f_X8_nearestTick_105 q21 v a1 a6 a7)
else
  (f_X8_nearestTick_95 q21 v a1 a7 a8)))
else
  ((f_X8_laidIn v a9).bind fun p8 =>
  if ¬ (((24 : Int32) * a1) + a9) < 0 ∧ (((24 : Int32) * a1) + a9).toNatClampNeg < 144 then
  (vlet (a8 + (if 0 ≤ (p8 - (v.1 195 ((((24 : Int32) * a1) + a9).toNatClampNeg))) then (p8 - (v.1 195 ((((24 : Int32) * a1) + a9).toNatClampNeg))) else 0 - (p8 - (v.1 195 ((((24 : Int32) * a1) + a9).toNatClampNeg)))) : Int32) fun x10 =>
  vlet (a9 + (1 : Int32)) fun x11 =>
  f_X8_nearestTick_40 q21 n v a1 a6 a7 x10 x11)
else none)
def f_X8_nearestTick_21   : Nat → rV → Int32 → Int32 → Int32 → Option (Int32 × rV)
  | 0, _, _, _, _ => none
  | n + 1, v, a1, a6, a7 => if (60 : Int32) < a7 then
  (some (a6, v))
else
  ((f_X8_run v (1 : Int32)).bind fun p3 =>
  f_X8_nearestTick_40 (fun v a1 a6 a7 => f_X8_nearestTick_21  n v a1 a6 a7) 20000 p3.2 a1 a6 a7 (0 : Int32) (0 : Int32))
def f_X8_nearestTick (v : rV) (a1 : Int32) (a2 : Int32) (a3 : Int32) (a4 : Int64) : Option (Int32 × rV) := (f_X8_gather v ((1 : Int32) <<< (a3 &&& 31))).bind fun p1 =>
  (f_X8_begin p1.2 a2 a4).bind fun p2 =>
  f_X8_nearestTick_21  20000 p2 a1 (-1 : Int32) (1 : Int32)
set_option maxRecDepth 20000 in
theorem b_X8_nearestTick_105 {X : Nat × (Nat → Int32)} {r : Int32 × rV} {v : rV} {q21 : rV → Int32 → Int32 → Int32 → Option (Int32 × rV)} (hq21 : ∀ (v : rV) (a1 : Int32) (a6 : Int32) (a7 : Int32) , q21 v a1 a6 a7 = some r → Ev mX8_nearestTick 9 0 0 21 [(0, .ref 174), (1, .int a1), (6, .int a6), (7, .int a7)] [] (rZ X) v (rPI X r)) {a1 : Int32} {a6 : Int32} {a7 : Int32}  (h : f_X8_nearestTick_105 q21 v a1 a6 a7 = some r) : Ev mX8_nearestTick 9 0 0 105 [(0, .ref 174), (1, .int a1), (6, .int a6), (7, .int a7)] [] (rZ X) v (rPI X r) := by
  unfold f_X8_nearestTick_105 at h
  obtain ⟨x5, ex5, h⟩ := vlet_ex h
  refine e_iinc (lv' := [(7, .int x5), (0, .ref 174), (1, .int a1), (6, .int a6)]) dX8_nearestTick_105 rfl (ex5.symm) (by decide) rfl ?_
  clear ex5
  refine e_goto (tgt := 21) dX8_nearestTick_108 (by decide) ?_
  refine e_sub [1, 2, 3, 0] rfl ?_
  exact hq21 v a1 a6 x5 h
set_option maxRecDepth 20000 in
theorem b_X8_nearestTick_95 {X : Nat × (Nat → Int32)} {r : Int32 × rV} {v : rV} {q21 : rV → Int32 → Int32 → Int32 → Option (Int32 × rV)} (hq21 : ∀ (v : rV) (a1 : Int32) (a6 : Int32) (a7 : Int32) , q21 v a1 a6 a7 = some r → Ev mX8_nearestTick 9 0 0 21 [(0, .ref 174), (1, .int a1), (6, .int a6), (7, .int a7)] [] (rZ X) v (rPI X r)) {a1 : Int32} {a7 : Int32} {a8 : Int32}  (h : f_X8_nearestTick_95 q21 v a1 a7 a8 = some r) : Ev mX8_nearestTick 9 0 0 95 [(0, .ref 174), (1, .int a1), (7, .int a7), (8, .int a8)] [] (rZ X) v (rPI X r) := by
  unfold f_X8_nearestTick_95 at h
  refine e_iload dX8_nearestTick_95 rfl ?_
  refine e_istore (lv' := [(6, .int a7), (0, .ref 174), (1, .int a1), (7, .int a7), (8, .int a8)]) dX8_nearestTick_97 (by decide) rfl ?_
  refine e_aload_n dX8_nearestTick_99 rfl ?_
  refine e_iload dX8_nearestTick_100 rfl ?_
  refine e_putI (j := 43) dX8_nearestTick_102 k0_174 rc8 (by decide) wfX8_430 rfl rfl ?_
  obtain ⟨v4, ev4, h⟩ := vlet_ex h
  refine e_nameV ev4.symm ?_
  clear ev4
  refine e_sub [1, 2, 0, 3] rfl ?_
  exact b_X8_nearestTick_105 hq21 h
set_option maxRecDepth 20000 in
theorem b_X8_nearestTick_40 {X : Nat × (Nat → Int32)} {r : Int32 × rV} {q21 : rV → Int32 → Int32 → Int32 → Option (Int32 × rV)} (hq21 : ∀ (v : rV) (a1 : Int32) (a6 : Int32) (a7 : Int32) , q21 v a1 a6 a7 = some r → Ev mX8_nearestTick 9 0 0 21 [(0, .ref 174), (1, .int a1), (6, .int a6), (7, .int a7)] [] (rZ X) v (rPI X r)) : ∀ (n : Nat) (v : rV) (a1 : Int32) (a6 : Int32) (a7 : Int32) (a8 : Int32) (a9 : Int32) , f_X8_nearestTick_40  q21 n v a1 a6 a7 a8 a9 = some r → Ev mX8_nearestTick 9 0 0 40 [(0, .ref 174), (1, .int a1), (6, .int a6), (7, .int a7), (8, .int a8), (9, .int a9)] [] (rZ X) v (rPI X r) := by
  intro n
  induction n with
  | zero =>
    intros
    rename_i h
    cases h
  | succ n ih =>
    intro v a1 a6 a7 a8 a9 h
    rw [f_X8_nearestTick_40] at h
    refine e_iload dX8_nearestTick_40 rfl ?_
    refine e_bipush (x := (24 : Int32)) dX8_nearestTick_42 (by decide) ?_
    refine e_icmp_ge (tgt := 80) dX8_nearestTick_44 (by decide) (fun c12 => ?_) (fun c12 => ?_)
    · rw [if_pos c12] at h
      refine e_iload dX8_nearestTick_80 rfl ?_
      refine e_iconst (x := (-1 : Int32)) dX8_nearestTick_82 (by decide) ?_
      refine e_icmp_eq (tgt := 95) dX8_nearestTick_83 (by decide) (fun c7 => ?_) (fun c7 => ?_)
      · rw [if_pos c7] at h
        refine e_sub [0, 1, 3, 4] rfl ?_
        exact b_X8_nearestTick_95 hq21 h
      · rw [if_neg c7] at h
        refine e_iload dX8_nearestTick_86 rfl ?_
        refine e_aload_n dX8_nearestTick_88 rfl ?_
        refine e_get (w := .int (v.1 174 43)) (j := 43) dX8_nearestTick_89 k0_174 rc8 (by decide) wfX8_430 rfl ?_
        refine e_icmp_ge (tgt := 105) dX8_nearestTick_92 (by decide) (fun c6 => ?_) (fun c6 => ?_)
        · rw [if_pos c6] at h
          refine e_sub [0, 1, 2, 3] rfl ?_
          exact b_X8_nearestTick_105 hq21 h
        · rw [if_neg c6] at h
          refine e_sub [0, 1, 3, 4] rfl ?_
          exact b_X8_nearestTick_95 hq21 h
    · rw [if_neg c12] at h
      refine e_iload dX8_nearestTick_47 rfl ?_
      refine e_aload_n dX8_nearestTick_49 rfl ?_
      refine e_iload dX8_nearestTick_50 rfl ?_
      obtain ⟨p8, ep8, h⟩ := Option.bind_eq_some_iff.mp h
      refine c_VI (M' := mX8_laidIn) [.int a9] dX8_nearestTick_52 rfl wmX8_357 imX8_laidIn seX8_laidIn lkX8_laidIn k0_174 rc8 (Nat.le_of_ble_eq_true rfl) ((x_X8_laidIn  ep8).mono (by omega)) ?_
      refine e_aload_n dX8_nearestTick_55 rfl ?_
      refine e_get (w := .ref 195) (j := 40) dX8_nearestTick_56 k0_174 rc8 (by decide) wfX8_74 (g0_174_40) ?_
      refine e_bipush (x := (24 : Int32)) dX8_nearestTick_59 (by decide) ?_
      refine e_iload_n dX8_nearestTick_61 rfl ?_
      refine e_imul dX8_nearestTick_62 ?_
      refine e_iload dX8_nearestTick_63 rfl ?_
      refine e_iadd dX8_nearestTick_65 ?_
      obtain ⟨c9, h⟩ := grd h
      refine e_ialdJ dX8_nearestTick_66 k0_195 rfl c9.2 c9.1 ?_
      refine e_isub dX8_nearestTick_67 ?_
      refine e_abs dX8_nearestTick_68 wmX8_308 wmst_abs winimath wmcd_abs (by omega) (Nat.le_of_ble_eq_true rfl) ?_
      refine e_iadd dX8_nearestTick_71 ?_
      obtain ⟨x10, ex10, h⟩ := vlet_ex h
      refine e_nameI ex10.symm ?_
      clear ex10
      refine e_istore (lv' := [(8, .int x10), (0, .ref 174), (1, .int a1), (6, .int a6), (7, .int a7), (9, .int a9)]) dX8_nearestTick_72 (by decide) rfl ?_
      obtain ⟨x11, ex11, h⟩ := vlet_ex h
      refine e_iinc (lv' := [(9, .int x11), (8, .int x10), (0, .ref 174), (1, .int a1), (6, .int a6), (7, .int a7)]) dX8_nearestTick_74 rfl (ex11.symm) (by decide) rfl ?_
      clear ex11
      refine e_goto (tgt := 40) dX8_nearestTick_77 (by decide) ?_
      refine e_sub [2, 3, 4, 5, 1, 0] rfl ?_
      exact ih v a1 a6 a7 x10 x11 h
set_option maxRecDepth 20000 in
theorem b_X8_nearestTick_21 {X : Nat × (Nat → Int32)} {r : Int32 × rV}   : ∀ (n : Nat) (v : rV) (a1 : Int32) (a6 : Int32) (a7 : Int32) , f_X8_nearestTick_21   n v a1 a6 a7 = some r → Ev mX8_nearestTick 9 0 0 21 [(0, .ref 174), (1, .int a1), (6, .int a6), (7, .int a7)] [] (rZ X) v (rPI X r) := by
  intro n
  induction n with
  | zero =>
    intros
    rename_i h
    cases h
  | succ n ih =>
    intro v a1 a6 a7 h
    rw [f_X8_nearestTick_21] at h
    refine e_iload dX8_nearestTick_21 rfl ?_
    refine e_bipush (x := (60 : Int32)) dX8_nearestTick_23 (by decide) ?_
    refine e_icmp_gt (tgt := 111) dX8_nearestTick_25 (by decide) (fun c13 => ?_) (fun c13 => ?_)
    · rw [if_pos c13] at h
      refine e_iload dX8_nearestTick_111 rfl ?_
      obtain rfl := Option.some.inj h
      exact e_iret dX8_nearestTick_113 rfl rfl ⟨rfl, rfl, rfl⟩
    · rw [if_neg c13] at h
      refine e_aload_n dX8_nearestTick_28 rfl ?_
      refine e_iconst (x := (1 : Int32)) dX8_nearestTick_29 (by decide) ?_
      obtain ⟨p3, ep3, h⟩ := Option.bind_eq_some_iff.mp h
      refine c_VI (M' := mX8_run) [.int (1 : Int32)] dX8_nearestTick_30 rfl wmX8_350 imX8_run seX8_run lkX8_run k0_174 rc8 (Nat.le_of_ble_eq_true rfl) ((x_X8_run  ep3).mono (by omega)) ?_
      refine e_pop dX8_nearestTick_33 rfl ?_
      refine e_iconst (x := (0 : Int32)) dX8_nearestTick_34 (by decide) ?_
      refine e_istore (lv' := [(8, .int (0 : Int32)), (0, .ref 174), (1, .int a1), (6, .int a6), (7, .int a7)]) dX8_nearestTick_35 (by decide) rfl ?_
      refine e_iconst (x := (0 : Int32)) dX8_nearestTick_37 (by decide) ?_
      refine e_istore (lv' := [(9, .int (0 : Int32)), (8, .int (0 : Int32)), (0, .ref 174), (1, .int a1), (6, .int a6), (7, .int a7)]) dX8_nearestTick_38 (by decide) rfl ?_
      refine e_sub [2, 3, 4, 5, 1, 0] rfl ?_
      exact b_X8_nearestTick_40 (fun v a1 a6 a7  hh => ih v a1 a6 a7  hh) _ p3.2 a1 a6 a7 (0 : Int32) (0 : Int32) h
set_option maxRecDepth 20000 in
theorem x_X8_nearestTick {X : Nat × (Nat → Int32)} {v : rV} {r : Int32 × rV} {a1 : Int32} {a2 : Int32} {a3 : Int32} {a4 : Int64}  (h : f_X8_nearestTick v a1 a2 a3 a4 = some r) : EvM mX8_nearestTick 9 0 0 [.ref 174, .int a1, .int a2, .int a3, .long a4] (rZ X) v (rPI X r) := by
  refine evm_of (by decide +kernel) (fun G => Nat.le_of_ble_eq_true rfl) ?_
  show Ev mX8_nearestTick 9 0 0 0 [(0, .ref 174), (1, .int a1), (2, .int a2), (3, .int a3), (4, .long a4)] [] (rZ X) v _
  unfold f_X8_nearestTick at h
  refine e_aload_n dX8_nearestTick_0 rfl ?_
  refine e_iconst (x := (1 : Int32)) dX8_nearestTick_1 (by decide) ?_
  refine e_iload_n dX8_nearestTick_2 rfl ?_
  refine e_ishl dX8_nearestTick_3 ?_
  obtain ⟨p1, ep1, h⟩ := Option.bind_eq_some_iff.mp h
  refine c_VZ (M' := mX8_gather) [.int ((1 : Int32) <<< (a3 &&& 31))] dX8_nearestTick_4 rfl wmX8_278 imX8_gather seX8_gather lkX8_gather k0_174 rc8 (Nat.le_of_ble_eq_true rfl) ((x_X8_gather  ep1).mono (by omega)) ?_
  refine e_pop dX8_nearestTick_7 rfl ?_
  refine e_aload_n dX8_nearestTick_8 rfl ?_
  refine e_iload_n dX8_nearestTick_9 rfl ?_
  refine e_lload dX8_nearestTick_10 rfl ?_
  obtain ⟨p2, ep2, h⟩ := Option.bind_eq_some_iff.mp h
  refine c_VV (M' := mX8_begin) [.int a2, .long a4] dX8_nearestTick_12 rfl wmX8_281 imX8_begin seX8_begin lkX8_begin k0_174 rc8 (Nat.le_of_ble_eq_true rfl) ((x_X8_begin  ep2).mono (by omega)) ?_
  refine e_iconst (x := (-1 : Int32)) dX8_nearestTick_15 (by decide) ?_
  refine e_istore (lv' := [(6, .int (-1 : Int32)), (0, .ref 174), (1, .int a1), (2, .int a2), (3, .int a3), (4, .long a4)]) dX8_nearestTick_16 (by decide) rfl ?_
  refine e_iconst (x := (1 : Int32)) dX8_nearestTick_18 (by decide) ?_
  refine e_istore (lv' := [(7, .int (1 : Int32)), (6, .int (-1 : Int32)), (0, .ref 174), (1, .int a1), (2, .int a2), (3, .int a3), (4, .long a4)]) dX8_nearestTick_19 (by decide) rfl ?_
  refine e_sub [2, 3, 1, 0] rfl ?_
  exact b_X8_nearestTick_21  _ p2 a1 (-1 : Int32) (1 : Int32) h
def f_X8_partsOf_61   : Nat → rV → Int32 → Int32 → Option (Int32 × rV)
  | 0, _, _, _ => none
  | n + 1, v, a7, a8 => if (24 : Int32) ≤ a8 then
  (some (a7, v))
else
  (if ¬ a8 < 0 ∧ a8.toNatClampNeg < 24 then
  ((f_X8_laidIn v a8).bind fun p5 =>
  vlet (a7 + (if 0 ≤ ((v.1 196 a8.toNatClampNeg) - p5) then ((v.1 196 a8.toNatClampNeg) - p5) else 0 - ((v.1 196 a8.toNatClampNeg) - p5)) : Int32) fun x6 =>
  vlet (a8 + (1 : Int32)) fun x7 =>
  f_X8_partsOf_61  n v x6 x7)
else none)
def f_X8_partsOf_20   : Nat → rV → Int32 → Int64 → Int32 → Int32 → Option (Int32 × rV)
  | 0, _, _, _, _, _ => none
  | n + 1, v, a2, a4, a6, a7 => if (24 : Int32) ≤ a7 then
  ((f_X8_tryOut v a2 a4 a6).bind fun p3 =>
  f_X8_partsOf_61  20000 p3 (0 : Int32) (0 : Int32))
else
  ((f_X8_laidIn v a7).bind fun p9 =>
  if ¬ a7 < 0 ∧ a7.toNatClampNeg < 24 then
  (vlet (rI v 196 a7.toNatClampNeg p9) fun v11 =>
  vlet (a7 + (1 : Int32)) fun x12 =>
  f_X8_partsOf_20  n v11 a2 a4 a6 x12)
else none)
def f_X8_partsOf (v : rV) (a1 : Int32) (a2 : Int32) (a3 : Int32) (a4 : Int64) (a6 : Int32) : Option (Int32 × rV) := (f_X8_gather v ((1 : Int32) <<< (a3 &&& 31))).bind fun p1 =>
  (f_X8_tryOut p1.2 a1 a4 a6).bind fun p2 =>
  f_X8_partsOf_20  20000 p2 a2 a4 a6 (0 : Int32)
set_option maxRecDepth 20000 in
theorem b_X8_partsOf_61 {X : Nat × (Nat → Int32)} {r : Int32 × rV}   : ∀ (n : Nat) (v : rV) (a7 : Int32) (a8 : Int32) , f_X8_partsOf_61   n v a7 a8 = some r → Ev mX8_partsOf 10 0 0 61 [(0, .ref 174), (7, .int a7), (8, .int a8)] [] (rZ X) v (rPI X r) := by
  intro n
  induction n with
  | zero =>
    intros
    rename_i h
    cases h
  | succ n ih =>
    intro v a7 a8 h
    rw [f_X8_partsOf_61] at h
    refine e_iload dX8_partsOf_61 rfl ?_
    refine e_bipush (x := (24 : Int32)) dX8_partsOf_63 (by decide) ?_
    refine e_icmp_ge (tgt := 96) dX8_partsOf_65 (by decide) (fun c8 => ?_) (fun c8 => ?_)
    · rw [if_pos c8] at h
      refine e_iload dX8_partsOf_96 rfl ?_
      obtain rfl := Option.some.inj h
      exact e_iret dX8_partsOf_98 rfl rfl ⟨rfl, rfl, rfl⟩
    · rw [if_neg c8] at h
      refine e_iload dX8_partsOf_68 rfl ?_
      refine e_aload_n dX8_partsOf_70 rfl ?_
      refine e_get (w := .ref 196) (j := 42) dX8_partsOf_71 k0_174 rc8 (by decide) wfX8_77 (g0_174_42) ?_
      refine e_iload dX8_partsOf_74 rfl ?_
      obtain ⟨c4, h⟩ := grd h
      refine e_ialdJ dX8_partsOf_76 k0_196 rfl c4.2 c4.1 ?_
      refine e_aload_n dX8_partsOf_77 rfl ?_
      refine e_iload dX8_partsOf_78 rfl ?_
      obtain ⟨p5, ep5, h⟩ := Option.bind_eq_some_iff.mp h
      refine c_VI (M' := mX8_laidIn) [.int a8] dX8_partsOf_80 rfl wmX8_357 imX8_laidIn seX8_laidIn lkX8_laidIn k0_174 rc8 (Nat.le_of_ble_eq_true rfl) ((x_X8_laidIn  ep5).mono (by omega)) ?_
      refine e_isub dX8_partsOf_83 ?_
      refine e_abs dX8_partsOf_84 wmX8_308 wmst_abs winimath wmcd_abs (by omega) (Nat.le_of_ble_eq_true rfl) ?_
      refine e_iadd dX8_partsOf_87 ?_
      obtain ⟨x6, ex6, h⟩ := vlet_ex h
      refine e_nameI ex6.symm ?_
      clear ex6
      refine e_istore (lv' := [(7, .int x6), (0, .ref 174), (8, .int a8)]) dX8_partsOf_88 (by decide) rfl ?_
      obtain ⟨x7, ex7, h⟩ := vlet_ex h
      refine e_iinc (lv' := [(8, .int x7), (7, .int x6), (0, .ref 174)]) dX8_partsOf_90 rfl (ex7.symm) (by decide) rfl ?_
      clear ex7
      refine e_goto (tgt := 61) dX8_partsOf_93 (by decide) ?_
      refine e_sub [2, 1, 0] rfl ?_
      exact ih v x6 x7 h
set_option maxRecDepth 20000 in
theorem b_X8_partsOf_20 {X : Nat × (Nat → Int32)} {r : Int32 × rV}   : ∀ (n : Nat) (v : rV) (a2 : Int32) (a4 : Int64) (a6 : Int32) (a7 : Int32) , f_X8_partsOf_20   n v a2 a4 a6 a7 = some r → Ev mX8_partsOf 10 0 0 20 [(0, .ref 174), (2, .int a2), (4, .long a4), (6, .int a6), (7, .int a7)] [] (rZ X) v (rPI X r) := by
  intro n
  induction n with
  | zero =>
    intros
    rename_i h
    cases h
  | succ n ih =>
    intro v a2 a4 a6 a7 h
    rw [f_X8_partsOf_20] at h
    refine e_iload dX8_partsOf_20 rfl ?_
    refine e_bipush (x := (24 : Int32)) dX8_partsOf_22 (by decide) ?_
    refine e_icmp_ge (tgt := 46) dX8_partsOf_24 (by decide) (fun c13 => ?_) (fun c13 => ?_)
    · rw [if_pos c13] at h
      refine e_aload_n dX8_partsOf_46 rfl ?_
      refine e_iload_n dX8_partsOf_47 rfl ?_
      refine e_lload dX8_partsOf_48 rfl ?_
      refine e_iload dX8_partsOf_50 rfl ?_
      obtain ⟨p3, ep3, h⟩ := Option.bind_eq_some_iff.mp h
      refine c_VV (M' := mX8_tryOut) [.int a2, .long a4, .int a6] dX8_partsOf_52 rfl wmX8_387 imX8_tryOut seX8_tryOut lkX8_tryOut k0_174 rc8 (Nat.le_of_ble_eq_true rfl) ((x_X8_tryOut  ep3).mono (by omega)) ?_
      refine e_iconst (x := (0 : Int32)) dX8_partsOf_55 (by decide) ?_
      refine e_istore (lv' := [(7, .int (0 : Int32)), (0, .ref 174), (2, .int a2), (4, .long a4), (6, .int a6)]) dX8_partsOf_56 (by decide) rfl ?_
      refine e_iconst (x := (0 : Int32)) dX8_partsOf_58 (by decide) ?_
      refine e_istore (lv' := [(8, .int (0 : Int32)), (7, .int (0 : Int32)), (0, .ref 174), (2, .int a2), (4, .long a4), (6, .int a6)]) dX8_partsOf_59 (by decide) rfl ?_
      refine e_sub [2, 1, 0] rfl ?_
      exact b_X8_partsOf_61  _ p3 (0 : Int32) (0 : Int32) h
    · rw [if_neg c13] at h
      refine e_aload_n dX8_partsOf_27 rfl ?_
      refine e_get (w := .ref 196) (j := 42) dX8_partsOf_28 k0_174 rc8 (by decide) wfX8_77 (g0_174_42) ?_
      refine e_iload dX8_partsOf_31 rfl ?_
      refine e_aload_n dX8_partsOf_33 rfl ?_
      refine e_iload dX8_partsOf_34 rfl ?_
      obtain ⟨p9, ep9, h⟩ := Option.bind_eq_some_iff.mp h
      refine c_VI (M' := mX8_laidIn) [.int a7] dX8_partsOf_36 rfl wmX8_357 imX8_laidIn seX8_laidIn lkX8_laidIn k0_174 rc8 (Nat.le_of_ble_eq_true rfl) ((x_X8_laidIn  ep9).mono (by omega)) ?_
      obtain ⟨c10, h⟩ := grd h
      refine e_iastJ dX8_partsOf_39 k0_196 rfl c10.2 c10.1 ?_
      obtain ⟨v11, ev11, h⟩ := vlet_ex h
      refine e_nameV ev11.symm ?_
      clear ev11
      obtain ⟨x12, ex12, h⟩ := vlet_ex h
      refine e_iinc (lv' := [(7, .int x12), (0, .ref 174), (2, .int a2), (4, .long a4), (6, .int a6)]) dX8_partsOf_40 rfl (ex12.symm) (by decide) rfl ?_
      clear ex12
      refine e_goto (tgt := 20) dX8_partsOf_43 (by decide) ?_
      refine e_sub [1, 2, 3, 4, 0] rfl ?_
      exact ih v11 a2 a4 a6 x12 h
set_option maxRecDepth 20000 in
theorem x_X8_partsOf {X : Nat × (Nat → Int32)} {v : rV} {r : Int32 × rV} {a1 : Int32} {a2 : Int32} {a3 : Int32} {a4 : Int64} {a6 : Int32}  (h : f_X8_partsOf v a1 a2 a3 a4 a6 = some r) : EvM mX8_partsOf 10 0 0 [.ref 174, .int a1, .int a2, .int a3, .long a4, .int a6] (rZ X) v (rPI X r) := by
  refine evm_of (by decide +kernel) (fun G => Nat.le_of_ble_eq_true rfl) ?_
  show Ev mX8_partsOf 10 0 0 0 [(0, .ref 174), (1, .int a1), (2, .int a2), (3, .int a3), (4, .long a4), (6, .int a6)] [] (rZ X) v _
  unfold f_X8_partsOf at h
  refine e_aload_n dX8_partsOf_0 rfl ?_
  refine e_iconst (x := (1 : Int32)) dX8_partsOf_1 (by decide) ?_
  refine e_iload_n dX8_partsOf_2 rfl ?_
  refine e_ishl dX8_partsOf_3 ?_
  obtain ⟨p1, ep1, h⟩ := Option.bind_eq_some_iff.mp h
  refine c_VZ (M' := mX8_gather) [.int ((1 : Int32) <<< (a3 &&& 31))] dX8_partsOf_4 rfl wmX8_278 imX8_gather seX8_gather lkX8_gather k0_174 rc8 (Nat.le_of_ble_eq_true rfl) ((x_X8_gather  ep1).mono (by omega)) ?_
  refine e_pop dX8_partsOf_7 rfl ?_
  refine e_aload_n dX8_partsOf_8 rfl ?_
  refine e_iload_n dX8_partsOf_9 rfl ?_
  refine e_lload dX8_partsOf_10 rfl ?_
  refine e_iload dX8_partsOf_12 rfl ?_
  obtain ⟨p2, ep2, h⟩ := Option.bind_eq_some_iff.mp h
  refine c_VV (M' := mX8_tryOut) [.int a1, .long a4, .int a6] dX8_partsOf_14 rfl wmX8_387 imX8_tryOut seX8_tryOut lkX8_tryOut k0_174 rc8 (Nat.le_of_ble_eq_true rfl) ((x_X8_tryOut  ep2).mono (by omega)) ?_
  refine e_iconst (x := (0 : Int32)) dX8_partsOf_17 (by decide) ?_
  refine e_istore (lv' := [(7, .int (0 : Int32)), (0, .ref 174), (1, .int a1), (2, .int a2), (3, .int a3), (4, .long a4), (6, .int a6)]) dX8_partsOf_18 (by decide) rfl ?_
  refine e_sub [1, 3, 5, 6, 0] rfl ?_
  exact b_X8_partsOf_20  _ p2 a2 a4 a6 (0 : Int32) h
def f_X8_next_97  (q47 : rV → Int32 → Int32 → Int32 → Int64 → Int32 → Int32 → Int32 → Int32 → Option (Int32 × rV)) (v : rV) (a1 : Int32) (a2 : Int32) (a3 : Int32) (a4 : Int64) (a6 : Int32) (a8 : Int32) (a9 : Int32) (a10 : Int32) (s0 : Int32) : Option (Int32 × rV) := vlet (if a8 < a10 then a10 else a8 : Int32) fun x8 =>
  vlet (a9 + (1 : Int32)) fun x9 =>
  q47 v a1 a2 a3 a4 a6 s0 x8 x9
def f_X8_next_81  (q47 : rV → Int32 → Int32 → Int32 → Int64 → Int32 → Int32 → Int32 → Int32 → Option (Int32 × rV)) (v : rV) (a1 : Int32) (a2 : Int32) (a3 : Int32) (a4 : Int64) (a6 : Int32) (a7 : Int32) (a8 : Int32) (a9 : Int32) (s0 : Int32) : Option (Int32 × rV) := if s0 ≤ a8 then
  (f_X8_next_97 q47 v a1 a2 a3 a4 a6 a8 a9 s0 a7)
else
  (f_X8_next_97 q47 v a1 a2 a3 a4 a6 a8 a9 s0 a9)
def f_X8_next_47   : Nat → rV → Int32 → Int32 → Int32 → Int64 → Int32 → Int32 → Int32 → Int32 → Option (Int32 × rV)
  | 0, _, _, _, _, _, _, _, _, _ => none
  | n + 1, v, a1, a2, a3, a4, a6, a7, a8, a9 => if (v.1 174 21) ≤ a9 then
  ((f_X8_takeBack v).bind fun p6 =>
  some (a7, p6))
else
  (if (f_X8_has a3 a9) = true then
  ((f_X8_partsOf v a1 a2 a9 a4 a6).bind fun p11 =>
  f_X8_next_81 (fun v a1 a2 a3 a4 a6 a7 a8 a9 => f_X8_next_47  n v a1 a2 a3 a4 a6 a7 a8 a9) p11.2 a1 a2 a3 a4 a6 a7 a8 a9 p11.1)
else
  (f_X8_next_81 (fun v a1 a2 a3 a4 a6 a7 a8 a9 => f_X8_next_47  n v a1 a2 a3 a4 a6 a7 a8 a9) v a1 a2 a3 a4 a6 a7 a8 a9 (-1 : Int32)))
def f_X8_next (v : rV) (a1 : Int32) (a2 : Int32) (a3 : Int32) (a4 : Int64) (a6 : Int32) : Option (Int32 × rV) := if (f_X8_isLaw v a1) = true then
  (if (f_X8_isLaw v a2) = true then
  (if (f_X8_areDrops v a3) = true then
  (if (f_X8_areTicks a6) = true then
  ((f_X8_putAside v).bind fun p5 =>
  f_X8_next_47  20000 p5 a1 a2 a3 a4 a6 (-1 : Int32) (-1 : Int32) (0 : Int32))
else
  (some ((-1 : Int32), v)))
else
  (some ((-1 : Int32), v)))
else
  (some ((-1 : Int32), v)))
else
  (some ((-1 : Int32), v))
set_option maxRecDepth 20000 in
theorem b_X8_next_97 {X : Nat × (Nat → Int32)} {r : Int32 × rV} {v : rV} {q47 : rV → Int32 → Int32 → Int32 → Int64 → Int32 → Int32 → Int32 → Int32 → Option (Int32 × rV)} (hq47 : ∀ (v : rV) (a1 : Int32) (a2 : Int32) (a3 : Int32) (a4 : Int64) (a6 : Int32) (a7 : Int32) (a8 : Int32) (a9 : Int32) , q47 v a1 a2 a3 a4 a6 a7 a8 a9 = some r → Ev mX8_next 11 0 0 47 [(0, .ref 174), (1, .int a1), (2, .int a2), (3, .int a3), (4, .long a4), (6, .int a6), (7, .int a7), (8, .int a8), (9, .int a9)] [] (rZ X) v (rPI X r)) {a1 : Int32} {a2 : Int32} {a3 : Int32} {a4 : Int64} {a6 : Int32} {a8 : Int32} {a9 : Int32} {a10 : Int32} {s0 : Int32}  (h : f_X8_next_97 q47 v a1 a2 a3 a4 a6 a8 a9 a10 s0 = some r) : Ev mX8_next 11 0 0 97 [(0, .ref 174), (1, .int a1), (2, .int a2), (3, .int a3), (4, .long a4), (6, .int a6), (8, .int a8), (9, .int a9), (10, .int a10)] [.int s0] (rZ X) v (rPI X r) := by
  unfold f_X8_next_97 at h
  refine e_istore (lv' := [(7, .int s0), (0, .ref 174), (1, .int a1), (2, .int a2), (3, .int a3), (4, .long a4), (6, .int a6), (8, .int a8), (9, .int a9), (10, .int a10)]) dX8_next_97 (by decide) rfl ?_
  refine e_iload dX8_next_99 rfl ?_
  refine e_iload dX8_next_101 rfl ?_
  refine e_max dX8_next_103 wmX8_300 wmst_max winimath wmcd_max (by omega) (Nat.le_of_ble_eq_true rfl) ?_
  obtain ⟨x8, ex8, h⟩ := vlet_ex h
  refine e_nameI ex8.symm ?_
  clear ex8
  refine e_istore (lv' := [(8, .int x8), (7, .int s0), (0, .ref 174), (1, .int a1), (2, .int a2), (3, .int a3), (4, .long a4), (6, .int a6), (9, .int a9), (10, .int a10)]) dX8_next_106 (by decide) rfl ?_
  obtain ⟨x9, ex9, h⟩ := vlet_ex h
  refine e_iinc (lv' := [(9, .int x9), (8, .int x8), (7, .int s0), (0, .ref 174), (1, .int a1), (2, .int a2), (3, .int a3), (4, .long a4), (6, .int a6), (10, .int a10)]) dX8_next_108 rfl (ex9.symm) (by decide) rfl ?_
  clear ex9
  refine e_goto (tgt := 47) dX8_next_111 (by decide) ?_
  refine e_sub [3, 4, 5, 6, 7, 8, 2, 1, 0] rfl ?_
  exact hq47 v a1 a2 a3 a4 a6 s0 x8 x9 h
set_option maxRecDepth 20000 in
theorem b_X8_next_81 {X : Nat × (Nat → Int32)} {r : Int32 × rV} {v : rV} {q47 : rV → Int32 → Int32 → Int32 → Int64 → Int32 → Int32 → Int32 → Int32 → Option (Int32 × rV)} (hq47 : ∀ (v : rV) (a1 : Int32) (a2 : Int32) (a3 : Int32) (a4 : Int64) (a6 : Int32) (a7 : Int32) (a8 : Int32) (a9 : Int32) , q47 v a1 a2 a3 a4 a6 a7 a8 a9 = some r → Ev mX8_next 11 0 0 47 [(0, .ref 174), (1, .int a1), (2, .int a2), (3, .int a3), (4, .long a4), (6, .int a6), (7, .int a7), (8, .int a8), (9, .int a9)] [] (rZ X) v (rPI X r)) {a1 : Int32} {a2 : Int32} {a3 : Int32} {a4 : Int64} {a6 : Int32} {a7 : Int32} {a8 : Int32} {a9 : Int32} {s0 : Int32}  (h : f_X8_next_81 q47 v a1 a2 a3 a4 a6 a7 a8 a9 s0 = some r) : Ev mX8_next 11 0 0 81 [(0, .ref 174), (1, .int a1), (2, .int a2), (3, .int a3), (4, .long a4), (6, .int a6), (7, .int a7), (8, .int a8), (9, .int a9)] [.int s0] (rZ X) v (rPI X r) := by
  unfold f_X8_next_81 at h
  refine e_istore (lv' := [(10, .int s0), (0, .ref 174), (1, .int a1), (2, .int a2), (3, .int a3), (4, .long a4), (6, .int a6), (7, .int a7), (8, .int a8), (9, .int a9)]) dX8_next_81 (by decide) rfl ?_
  refine e_iload dX8_next_83 rfl ?_
  refine e_iload dX8_next_85 rfl ?_
  refine e_icmp_le (tgt := 95) dX8_next_87 (by decide) (fun c10 => ?_) (fun c10 => ?_)
  · rw [if_pos c10] at h
    refine e_iload dX8_next_95 rfl ?_
    refine e_sub [1, 2, 3, 4, 5, 6, 8, 9, 0] rfl ?_
    exact b_X8_next_97 hq47 h
  · rw [if_neg c10] at h
    refine e_iload dX8_next_90 rfl ?_
    refine e_goto (tgt := 97) dX8_next_92 (by decide) ?_
    refine e_sub [1, 2, 3, 4, 5, 6, 8, 9, 0] rfl ?_
    exact b_X8_next_97 hq47 h
set_option maxRecDepth 20000 in
theorem b_X8_next_47 {X : Nat × (Nat → Int32)} {r : Int32 × rV}   : ∀ (n : Nat) (v : rV) (a1 : Int32) (a2 : Int32) (a3 : Int32) (a4 : Int64) (a6 : Int32) (a7 : Int32) (a8 : Int32) (a9 : Int32) , f_X8_next_47   n v a1 a2 a3 a4 a6 a7 a8 a9 = some r → Ev mX8_next 11 0 0 47 [(0, .ref 174), (1, .int a1), (2, .int a2), (3, .int a3), (4, .long a4), (6, .int a6), (7, .int a7), (8, .int a8), (9, .int a9)] [] (rZ X) v (rPI X r) := by
  intro n
  induction n with
  | zero =>
    intros
    rename_i h
    cases h
  | succ n ih =>
    intro v a1 a2 a3 a4 a6 a7 a8 a9 h
    rw [f_X8_next_47] at h
    refine e_iload dX8_next_47 rfl ?_
    refine e_aload_n dX8_next_49 rfl ?_
    refine e_get (w := .int (v.1 174 21)) (j := 21) dX8_next_50 k0_174 rc8 (by decide) wfX8_241 rfl ?_
    refine e_icmp_ge (tgt := 114) dX8_next_53 (by decide) (fun c13 => ?_) (fun c13 => ?_)
    · rw [if_pos c13] at h
      refine e_aload_n dX8_next_114 rfl ?_
      obtain ⟨p6, ep6, h⟩ := Option.bind_eq_some_iff.mp h
      refine c_VV (M' := mX8_takeBack) [] dX8_next_115 rfl wmX8_391 imX8_takeBack seX8_takeBack lkX8_takeBack k0_174 rc8 (Nat.le_of_ble_eq_true rfl) ((x_X8_takeBack  ep6).mono (by omega)) ?_
      refine e_iload dX8_next_118 rfl ?_
      obtain rfl := Option.some.inj h
      exact e_iret dX8_next_120 rfl rfl ⟨rfl, rfl, rfl⟩
    · rw [if_neg c13] at h
      refine e_iload_n dX8_next_56 rfl ?_
      refine e_iload dX8_next_57 rfl ?_
      refine c_SZ (M' := mX8_has) [.int a3, .int a9] dX8_next_59 rfl wmX8_206 stX8_has lkX8_has (Nat.le_of_ble_eq_true rfl) ((x_X8_has ).mono (by omega)) ?_
      refine e_if_eq (tgt := 80) dX8_next_62 (by decide) (fun c12 => ?_) (fun c12 => ?_)
      · rw [if_neg (bI_n c12)] at h
        refine e_iconst (x := (-1 : Int32)) dX8_next_80 (by decide) ?_
        exact b_X8_next_81 (fun v a1 a2 a3 a4 a6 a7 a8 a9  hh => ih v a1 a2 a3 a4 a6 a7 a8 a9  hh) h
      · rw [if_pos (bI_p c12)] at h
        refine e_aload_n dX8_next_65 rfl ?_
        refine e_iload_n dX8_next_66 rfl ?_
        refine e_iload_n dX8_next_67 rfl ?_
        refine e_iload dX8_next_68 rfl ?_
        refine e_lload dX8_next_70 rfl ?_
        refine e_iload dX8_next_72 rfl ?_
        obtain ⟨p11, ep11, h⟩ := Option.bind_eq_some_iff.mp h
        refine c_VI (M' := mX8_partsOf) [.int a1, .int a2, .int a9, .long a4, .int a6] dX8_next_74 rfl wmX8_407 imX8_partsOf seX8_partsOf lkX8_partsOf k0_174 rc8 (Nat.le_of_ble_eq_true rfl) ((x_X8_partsOf  ep11).mono (by omega)) ?_
        refine e_goto (tgt := 81) dX8_next_77 (by decide) ?_
        exact b_X8_next_81 (fun v a1 a2 a3 a4 a6 a7 a8 a9  hh => ih v a1 a2 a3 a4 a6 a7 a8 a9  hh) h
set_option maxRecDepth 20000 in
theorem x_X8_next {X : Nat × (Nat → Int32)} {v : rV} {r : Int32 × rV} {a1 : Int32} {a2 : Int32} {a3 : Int32} {a4 : Int64} {a6 : Int32}  (h : f_X8_next v a1 a2 a3 a4 a6 = some r) : EvM mX8_next 11 0 0 [.ref 174, .int a1, .int a2, .int a3, .long a4, .int a6] (rZ X) v (rPI X r) := by
  refine evm_of (by decide +kernel) (fun G => Nat.le_of_ble_eq_true rfl) ?_
  show Ev mX8_next 11 0 0 0 [(0, .ref 174), (1, .int a1), (2, .int a2), (3, .int a3), (4, .long a4), (6, .int a6)] [] (rZ X) v _
  unfold f_X8_next at h
  refine e_aload_n dX8_next_0 rfl ?_
  refine e_iload_n dX8_next_1 rfl ?_
  refine c_VZ (M' := mX8_isLaw) [.int a1] dX8_next_2 rfl wmX8_272 imX8_isLaw seX8_isLaw lkX8_isLaw k0_174 rc8 (Nat.le_of_ble_eq_true rfl) ((x_X8_isLaw ).mono (by omega)) ?_
  refine e_if_eq (tgt := 32) dX8_next_5 (by decide) (fun c17 => ?_) (fun c17 => ?_)
  · rw [if_neg (bI_n c17)] at h
    refine e_iconst (x := (-1 : Int32)) dX8_next_32 (by decide) ?_
    obtain rfl := Option.some.inj h
    exact e_iret dX8_next_33 rfl rfl ⟨rfl, rfl, rfl⟩
  · rw [if_pos (bI_p c17)] at h
    refine e_aload_n dX8_next_8 rfl ?_
    refine e_iload_n dX8_next_9 rfl ?_
    refine c_VZ (M' := mX8_isLaw) [.int a2] dX8_next_10 rfl wmX8_272 imX8_isLaw seX8_isLaw lkX8_isLaw k0_174 rc8 (Nat.le_of_ble_eq_true rfl) ((x_X8_isLaw ).mono (by omega)) ?_
    refine e_if_eq (tgt := 32) dX8_next_13 (by decide) (fun c16 => ?_) (fun c16 => ?_)
    · rw [if_neg (bI_n c16)] at h
      refine e_iconst (x := (-1 : Int32)) dX8_next_32 (by decide) ?_
      obtain rfl := Option.some.inj h
      exact e_iret dX8_next_33 rfl rfl ⟨rfl, rfl, rfl⟩
    · rw [if_pos (bI_p c16)] at h
      refine e_aload_n dX8_next_16 rfl ?_
      refine e_iload_n dX8_next_17 rfl ?_
      refine c_VZ (M' := mX8_areDrops) [.int a3] dX8_next_18 rfl wmX8_275 imX8_areDrops seX8_areDrops lkX8_areDrops k0_174 rc8 (Nat.le_of_ble_eq_true rfl) ((x_X8_areDrops ).mono (by omega)) ?_
      refine e_if_eq (tgt := 32) dX8_next_21 (by decide) (fun c15 => ?_) (fun c15 => ?_)
      · rw [if_neg (bI_n c15)] at h
        refine e_iconst (x := (-1 : Int32)) dX8_next_32 (by decide) ?_
        obtain rfl := Option.some.inj h
        exact e_iret dX8_next_33 rfl rfl ⟨rfl, rfl, rfl⟩
      · rw [if_pos (bI_p c15)] at h
        refine e_iload dX8_next_24 rfl ?_
        refine c_SZ (M' := mX8_areTicks) [.int a6] dX8_next_26 rfl wmX8_381 stX8_areTicks lkX8_areTicks (Nat.le_of_ble_eq_true rfl) ((x_X8_areTicks ).mono (by omega)) ?_
        refine e_if_ne (tgt := 34) dX8_next_29 (by decide) (fun c14 => ?_) (fun c14 => ?_)
        · rw [if_pos (bI_p c14)] at h
          refine e_aload_n dX8_next_34 rfl ?_
          obtain ⟨p5, ep5, h⟩ := Option.bind_eq_some_iff.mp h
          refine c_VV (M' := mX8_putAside) [] dX8_next_35 rfl wmX8_384 imX8_putAside seX8_putAside lkX8_putAside k0_174 rc8 (Nat.le_of_ble_eq_true rfl) ((x_X8_putAside  ep5).mono (by omega)) ?_
          refine e_iconst (x := (-1 : Int32)) dX8_next_38 (by decide) ?_
          refine e_istore (lv' := [(7, .int (-1 : Int32)), (0, .ref 174), (1, .int a1), (2, .int a2), (3, .int a3), (4, .long a4), (6, .int a6)]) dX8_next_39 (by decide) rfl ?_
          refine e_iconst (x := (-1 : Int32)) dX8_next_41 (by decide) ?_
          refine e_istore (lv' := [(8, .int (-1 : Int32)), (7, .int (-1 : Int32)), (0, .ref 174), (1, .int a1), (2, .int a2), (3, .int a3), (4, .long a4), (6, .int a6)]) dX8_next_42 (by decide) rfl ?_
          refine e_iconst (x := (0 : Int32)) dX8_next_44 (by decide) ?_
          refine e_istore (lv' := [(9, .int (0 : Int32)), (8, .int (-1 : Int32)), (7, .int (-1 : Int32)), (0, .ref 174), (1, .int a1), (2, .int a2), (3, .int a3), (4, .long a4), (6, .int a6)]) dX8_next_45 (by decide) rfl ?_
          refine e_sub [3, 4, 5, 6, 7, 8, 2, 1, 0] rfl ?_
          exact b_X8_next_47  _ p5 a1 a2 a3 a4 a6 (-1 : Int32) (-1 : Int32) (0 : Int32) h
        · rw [if_neg (bI_n c14)] at h
          refine e_iconst (x := (-1 : Int32)) dX8_next_32 (by decide) ?_
          obtain rfl := Option.some.inj h
          exact e_iret dX8_next_33 rfl rfl ⟨rfl, rfl, rfl⟩
def f_X8_read_118  (q59 : rV → Int32 → Int32 → Int32 → Int64 → Int32 → Int32 → Int32 → Int32 → Option (Int32 × rV)) (v : rV) (a1 : Int32) (a2 : Int32) (a3 : Int32) (a4 : Int64) (a6 : Int32) (a7 : Int32) (a8 : Int32) (a9 : Int32) : Option (Int32 × rV) := vlet (a9 + (1 : Int32)) fun x8 =>
  q59 v a1 a2 a3 a4 a6 a7 a8 x8
def f_X8_read_115  (q59 : rV → Int32 → Int32 → Int32 → Int64 → Int32 → Int32 → Int32 → Int32 → Option (Int32 × rV)) (v : rV) (a1 : Int32) (a2 : Int32) (a3 : Int32) (a4 : Int64) (a6 : Int32) (a7 : Int32) (a9 : Int32) (s0 : Int32) (s1 : Int32) : Option (Int32 × rV) := vlet (s1 ||| s0 : Int32) fun x12 =>
  f_X8_read_118 q59 v a1 a2 a3 a4 a6 a7 x12 a9
def f_X8_read_59   : Nat → rV → Int32 → Int32 → Int32 → Int64 → Int32 → Int32 → Int32 → Int32 → Option (Int32 × rV)
  | 0, _, _, _, _, _, _, _, _, _ => none
  | n + 1, v, a1, a2, a3, a4, a6, a7, a8, a9 => if (v.1 174 21) ≤ a9 then
  ((f_X8_takeBack v).bind fun p6 =>
  some (a8, p6))
else
  (if (f_X8_has a3 a9) = true then
  ((f_X8_gather v ((1 : Int32) <<< (a9 &&& 31))).bind fun p9 =>
  (f_X8_tryOut p9.2 a2 a4 a6).bind fun p10 =>
  (f_X8_isRead p10 a1 a7).bind fun p11 =>
  if p11 = true then
  (f_X8_read_115 (fun v a1 a2 a3 a4 a6 a7 a8 a9 => f_X8_read_59  n v a1 a2 a3 a4 a6 a7 a8 a9) p10 a1 a2 a3 a4 a6 a7 a9 ((1 : Int32) <<< (a9 &&& 31)) a8)
else
  (f_X8_read_115 (fun v a1 a2 a3 a4 a6 a7 a8 a9 => f_X8_read_59  n v a1 a2 a3 a4 a6 a7 a8 a9) p10 a1 a2 a3 a4 a6 a7 a9 (0 : Int32) a8))
else
  (f_X8_read_118 (fun v a1 a2 a3 a4 a6 a7 a8 a9 => f_X8_read_59  n v a1 a2 a3 a4 a6 a7 a8 a9) v a1 a2 a3 a4 a6 a7 a8 a9))
def f_X8_read_28   (v : rV) (a1 : Int32) (a2 : Int32) (a3 : Int32) (a4 : Int64) (a6 : Int32) (a7 : Int32) : Option (Int32 × rV) := if (f_X8_areTicks a6) = true then
  (if (f_X8_in a7 (0 : Int32) (99 : Int32)) = true then
  ((f_X8_putAside v).bind fun p5 =>
  f_X8_read_59  20000 p5 a1 a2 a3 a4 a6 a7 (0 : Int32) (0 : Int32))
else
  (some ((-1 : Int32), v)))
else
  (some ((-1 : Int32), v))
def f_X8_read (v : rV) (a1 : Int32) (a2 : Int32) (a3 : Int32) (a4 : Int64) (a6 : Int32) (a7 : Int32) : Option (Int32 × rV) := if (f_X8_isStain v a1) = true then
  (if (f_X8_isLaw v a2) = true then
  (if a3 = 0 then
  (f_X8_read_28  v a1 a2 a3 a4 a6 a7)
else
  (if (f_X8_areDrops v a3) = true then
  (f_X8_read_28  v a1 a2 a3 a4 a6 a7)
else
  (some ((-1 : Int32), v))))
else
  (some ((-1 : Int32), v)))
else
  (some ((-1 : Int32), v))
set_option maxRecDepth 20000 in
theorem b_X8_read_118 {X : Nat × (Nat → Int32)} {r : Int32 × rV} {v : rV} {q59 : rV → Int32 → Int32 → Int32 → Int64 → Int32 → Int32 → Int32 → Int32 → Option (Int32 × rV)} (hq59 : ∀ (v : rV) (a1 : Int32) (a2 : Int32) (a3 : Int32) (a4 : Int64) (a6 : Int32) (a7 : Int32) (a8 : Int32) (a9 : Int32) , q59 v a1 a2 a3 a4 a6 a7 a8 a9 = some r → Ev mX8_read 10 0 0 59 [(0, .ref 174), (1, .int a1), (2, .int a2), (3, .int a3), (4, .long a4), (6, .int a6), (7, .int a7), (8, .int a8), (9, .int a9)] [] (rZ X) v (rPI X r)) {a1 : Int32} {a2 : Int32} {a3 : Int32} {a4 : Int64} {a6 : Int32} {a7 : Int32} {a8 : Int32} {a9 : Int32}  (h : f_X8_read_118 q59 v a1 a2 a3 a4 a6 a7 a8 a9 = some r) : Ev mX8_read 10 0 0 118 [(0, .ref 174), (1, .int a1), (2, .int a2), (3, .int a3), (4, .long a4), (6, .int a6), (7, .int a7), (8, .int a8), (9, .int a9)] [] (rZ X) v (rPI X r) := by
  unfold f_X8_read_118 at h
  obtain ⟨x8, ex8, h⟩ := vlet_ex h
  refine e_iinc (lv' := [(9, .int x8), (0, .ref 174), (1, .int a1), (2, .int a2), (3, .int a3), (4, .long a4), (6, .int a6), (7, .int a7), (8, .int a8)]) dX8_read_118 rfl (ex8.symm) (by decide) rfl ?_
  clear ex8
  refine e_goto (tgt := 59) dX8_read_121 (by decide) ?_
  refine e_sub [1, 2, 3, 4, 5, 6, 7, 8, 0] rfl ?_
  exact hq59 v a1 a2 a3 a4 a6 a7 a8 x8 h
set_option maxRecDepth 20000 in
theorem b_X8_read_115 {X : Nat × (Nat → Int32)} {r : Int32 × rV} {v : rV} {q59 : rV → Int32 → Int32 → Int32 → Int64 → Int32 → Int32 → Int32 → Int32 → Option (Int32 × rV)} (hq59 : ∀ (v : rV) (a1 : Int32) (a2 : Int32) (a3 : Int32) (a4 : Int64) (a6 : Int32) (a7 : Int32) (a8 : Int32) (a9 : Int32) , q59 v a1 a2 a3 a4 a6 a7 a8 a9 = some r → Ev mX8_read 10 0 0 59 [(0, .ref 174), (1, .int a1), (2, .int a2), (3, .int a3), (4, .long a4), (6, .int a6), (7, .int a7), (8, .int a8), (9, .int a9)] [] (rZ X) v (rPI X r)) {a1 : Int32} {a2 : Int32} {a3 : Int32} {a4 : Int64} {a6 : Int32} {a7 : Int32} {a9 : Int32} {s0 : Int32} {s1 : Int32}  (h : f_X8_read_115 q59 v a1 a2 a3 a4 a6 a7 a9 s0 s1 = some r) : Ev mX8_read 10 0 0 115 [(0, .ref 174), (1, .int a1), (2, .int a2), (3, .int a3), (4, .long a4), (6, .int a6), (7, .int a7), (9, .int a9)] [.int s0, .int s1] (rZ X) v (rPI X r) := by
  unfold f_X8_read_115 at h
  refine e_ior dX8_read_115 ?_
  obtain ⟨x12, ex12, h⟩ := vlet_ex h
  refine e_nameI ex12.symm ?_
  clear ex12
  refine e_istore (lv' := [(8, .int x12), (0, .ref 174), (1, .int a1), (2, .int a2), (3, .int a3), (4, .long a4), (6, .int a6), (7, .int a7), (9, .int a9)]) dX8_read_116 (by decide) rfl ?_
  refine e_sub [1, 2, 3, 4, 5, 6, 7, 0, 8] rfl ?_
  exact b_X8_read_118 hq59 h
set_option maxRecDepth 20000 in
theorem b_X8_read_59 {X : Nat × (Nat → Int32)} {r : Int32 × rV}   : ∀ (n : Nat) (v : rV) (a1 : Int32) (a2 : Int32) (a3 : Int32) (a4 : Int64) (a6 : Int32) (a7 : Int32) (a8 : Int32) (a9 : Int32) , f_X8_read_59   n v a1 a2 a3 a4 a6 a7 a8 a9 = some r → Ev mX8_read 10 0 0 59 [(0, .ref 174), (1, .int a1), (2, .int a2), (3, .int a3), (4, .long a4), (6, .int a6), (7, .int a7), (8, .int a8), (9, .int a9)] [] (rZ X) v (rPI X r) := by
  intro n
  induction n with
  | zero =>
    intros
    rename_i h
    cases h
  | succ n ih =>
    intro v a1 a2 a3 a4 a6 a7 a8 a9 h
    rw [f_X8_read_59] at h
    refine e_iload dX8_read_59 rfl ?_
    refine e_aload_n dX8_read_61 rfl ?_
    refine e_get (w := .int (v.1 174 21)) (j := 21) dX8_read_62 k0_174 rc8 (by decide) wfX8_241 rfl ?_
    refine e_icmp_ge (tgt := 124) dX8_read_65 (by decide) (fun c15 => ?_) (fun c15 => ?_)
    · rw [if_pos c15] at h
      refine e_aload_n dX8_read_124 rfl ?_
      obtain ⟨p6, ep6, h⟩ := Option.bind_eq_some_iff.mp h
      refine c_VV (M' := mX8_takeBack) [] dX8_read_125 rfl wmX8_391 imX8_takeBack seX8_takeBack lkX8_takeBack k0_174 rc8 (Nat.le_of_ble_eq_true rfl) ((x_X8_takeBack  ep6).mono (by omega)) ?_
      refine e_iload dX8_read_128 rfl ?_
      obtain rfl := Option.some.inj h
      exact e_iret dX8_read_130 rfl rfl ⟨rfl, rfl, rfl⟩
    · rw [if_neg c15] at h
      refine e_iload_n dX8_read_68 rfl ?_
      refine e_iload dX8_read_69 rfl ?_
      refine c_SZ (M' := mX8_has) [.int a3, .int a9] dX8_read_71 rfl wmX8_206 stX8_has lkX8_has (Nat.le_of_ble_eq_true rfl) ((x_X8_has ).mono (by omega)) ?_
      refine e_if_eq (tgt := 118) dX8_read_74 (by decide) (fun c14 => ?_) (fun c14 => ?_)
      · rw [if_neg (bI_n c14)] at h
        exact b_X8_read_118 (fun v a1 a2 a3 a4 a6 a7 a8 a9  hh => ih v a1 a2 a3 a4 a6 a7 a8 a9  hh) h
      · rw [if_pos (bI_p c14)] at h
        refine e_aload_n dX8_read_77 rfl ?_
        refine e_iconst (x := (1 : Int32)) dX8_read_78 (by decide) ?_
        refine e_iload dX8_read_79 rfl ?_
        refine e_ishl dX8_read_81 ?_
        obtain ⟨p9, ep9, h⟩ := Option.bind_eq_some_iff.mp h
        refine c_VZ (M' := mX8_gather) [.int ((1 : Int32) <<< (a9 &&& 31))] dX8_read_82 rfl wmX8_278 imX8_gather seX8_gather lkX8_gather k0_174 rc8 (Nat.le_of_ble_eq_true rfl) ((x_X8_gather  ep9).mono (by omega)) ?_
        refine e_pop dX8_read_85 rfl ?_
        refine e_aload_n dX8_read_86 rfl ?_
        refine e_iload_n dX8_read_87 rfl ?_
        refine e_lload dX8_read_88 rfl ?_
        refine e_iload dX8_read_90 rfl ?_
        obtain ⟨p10, ep10, h⟩ := Option.bind_eq_some_iff.mp h
        refine c_VV (M' := mX8_tryOut) [.int a2, .long a4, .int a6] dX8_read_92 rfl wmX8_387 imX8_tryOut seX8_tryOut lkX8_tryOut k0_174 rc8 (Nat.le_of_ble_eq_true rfl) ((x_X8_tryOut  ep10).mono (by omega)) ?_
        refine e_iload dX8_read_95 rfl ?_
        refine e_aload_n dX8_read_97 rfl ?_
        refine e_iload_n dX8_read_98 rfl ?_
        refine e_iload dX8_read_99 rfl ?_
        obtain ⟨p11, ep11, h⟩ := Option.bind_eq_some_iff.mp h
        refine c_VZ (M' := mX8_isRead) [.int a1, .int a7] dX8_read_101 rfl wmX8_400 imX8_isRead seX8_isRead lkX8_isRead k0_174 rc8 (Nat.le_of_ble_eq_true rfl) ((x_X8_isRead  ep11).mono (by omega)) ?_
        refine e_if_eq (tgt := 114) dX8_read_104 (by decide) (fun c13 => ?_) (fun c13 => ?_)
        · rw [if_neg (bI_n c13)] at h
          refine e_iconst (x := (0 : Int32)) dX8_read_114 (by decide) ?_
          refine e_sub [0, 1, 2, 3, 4, 5, 6, 8] rfl ?_
          exact b_X8_read_115 (fun v a1 a2 a3 a4 a6 a7 a8 a9  hh => ih v a1 a2 a3 a4 a6 a7 a8 a9  hh) h
        · rw [if_pos (bI_p c13)] at h
          refine e_iconst (x := (1 : Int32)) dX8_read_107 (by decide) ?_
          refine e_iload dX8_read_108 rfl ?_
          refine e_ishl dX8_read_110 ?_
          refine e_goto (tgt := 115) dX8_read_111 (by decide) ?_
          refine e_sub [0, 1, 2, 3, 4, 5, 6, 8] rfl ?_
          exact b_X8_read_115 (fun v a1 a2 a3 a4 a6 a7 a8 a9  hh => ih v a1 a2 a3 a4 a6 a7 a8 a9  hh) h
set_option maxRecDepth 20000 in
theorem b_X8_read_28 {X : Nat × (Nat → Int32)} {r : Int32 × rV} {v : rV}   {a1 : Int32} {a2 : Int32} {a3 : Int32} {a4 : Int64} {a6 : Int32} {a7 : Int32}  (h : f_X8_read_28  v a1 a2 a3 a4 a6 a7 = some r) : Ev mX8_read 10 0 0 28 [(0, .ref 174), (1, .int a1), (2, .int a2), (3, .int a3), (4, .long a4), (6, .int a6), (7, .int a7)] [] (rZ X) v (rPI X r) := by
  unfold f_X8_read_28 at h
  refine e_iload dX8_read_28 rfl ?_
  refine c_SZ (M' := mX8_areTicks) [.int a6] dX8_read_30 rfl wmX8_381 stX8_areTicks lkX8_areTicks (Nat.le_of_ble_eq_true rfl) ((x_X8_areTicks ).mono (by omega)) ?_
  refine e_if_eq (tgt := 47) dX8_read_33 (by decide) (fun c17 => ?_) (fun c17 => ?_)
  · rw [if_neg (bI_n c17)] at h
    refine e_iconst (x := (-1 : Int32)) dX8_read_47 (by decide) ?_
    obtain rfl := Option.some.inj h
    exact e_iret dX8_read_48 rfl rfl ⟨rfl, rfl, rfl⟩
  · rw [if_pos (bI_p c17)] at h
    refine e_iload dX8_read_36 rfl ?_
    refine e_iconst (x := (0 : Int32)) dX8_read_38 (by decide) ?_
    refine e_bipush (x := (99 : Int32)) dX8_read_39 (by decide) ?_
    refine c_SZ (M' := mX8_in) [.int a7, .int (0 : Int32), .int (99 : Int32)] dX8_read_41 rfl wmX8_216 stX8_in lkX8_in (Nat.le_of_ble_eq_true rfl) ((x_X8_in ).mono (by omega)) ?_
    refine e_if_ne (tgt := 49) dX8_read_44 (by decide) (fun c16 => ?_) (fun c16 => ?_)
    · rw [if_pos (bI_p c16)] at h
      refine e_aload_n dX8_read_49 rfl ?_
      obtain ⟨p5, ep5, h⟩ := Option.bind_eq_some_iff.mp h
      refine c_VV (M' := mX8_putAside) [] dX8_read_50 rfl wmX8_384 imX8_putAside seX8_putAside lkX8_putAside k0_174 rc8 (Nat.le_of_ble_eq_true rfl) ((x_X8_putAside  ep5).mono (by omega)) ?_
      refine e_iconst (x := (0 : Int32)) dX8_read_53 (by decide) ?_
      refine e_istore (lv' := [(8, .int (0 : Int32)), (0, .ref 174), (1, .int a1), (2, .int a2), (3, .int a3), (4, .long a4), (6, .int a6), (7, .int a7)]) dX8_read_54 (by decide) rfl ?_
      refine e_iconst (x := (0 : Int32)) dX8_read_56 (by decide) ?_
      refine e_istore (lv' := [(9, .int (0 : Int32)), (8, .int (0 : Int32)), (0, .ref 174), (1, .int a1), (2, .int a2), (3, .int a3), (4, .long a4), (6, .int a6), (7, .int a7)]) dX8_read_57 (by decide) rfl ?_
      refine e_sub [2, 3, 4, 5, 6, 7, 8, 1, 0] rfl ?_
      exact b_X8_read_59  _ p5 a1 a2 a3 a4 a6 a7 (0 : Int32) (0 : Int32) h
    · rw [if_neg (bI_n c16)] at h
      refine e_iconst (x := (-1 : Int32)) dX8_read_47 (by decide) ?_
      obtain rfl := Option.some.inj h
      exact e_iret dX8_read_48 rfl rfl ⟨rfl, rfl, rfl⟩
set_option maxRecDepth 20000 in
theorem x_X8_read {X : Nat × (Nat → Int32)} {v : rV} {r : Int32 × rV} {a1 : Int32} {a2 : Int32} {a3 : Int32} {a4 : Int64} {a6 : Int32} {a7 : Int32}  (h : f_X8_read v a1 a2 a3 a4 a6 a7 = some r) : EvM mX8_read 10 0 0 [.ref 174, .int a1, .int a2, .int a3, .long a4, .int a6, .int a7] (rZ X) v (rPI X r) := by
  refine evm_of (by decide +kernel) (fun G => Nat.le_of_ble_eq_true rfl) ?_
  show Ev mX8_read 10 0 0 0 [(0, .ref 174), (1, .int a1), (2, .int a2), (3, .int a3), (4, .long a4), (6, .int a6), (7, .int a7)] [] (rZ X) v _
  unfold f_X8_read at h
  refine e_aload_n dX8_read_0 rfl ?_
  refine e_iload_n dX8_read_1 rfl ?_
  refine c_VZ (M' := mX8_isStain) [.int a1] dX8_read_2 rfl wmX8_397 imX8_isStain seX8_isStain lkX8_isStain k0_174 rc8 (Nat.le_of_ble_eq_true rfl) ((x_X8_isStain ).mono (by omega)) ?_
  refine e_if_eq (tgt := 47) dX8_read_5 (by decide) (fun c22 => ?_) (fun c22 => ?_)
  · rw [if_neg (bI_n c22)] at h
    refine e_iconst (x := (-1 : Int32)) dX8_read_47 (by decide) ?_
    obtain rfl := Option.some.inj h
    exact e_iret dX8_read_48 rfl rfl ⟨rfl, rfl, rfl⟩
  · rw [if_pos (bI_p c22)] at h
    refine e_aload_n dX8_read_8 rfl ?_
    refine e_iload_n dX8_read_9 rfl ?_
    refine c_VZ (M' := mX8_isLaw) [.int a2] dX8_read_10 rfl wmX8_272 imX8_isLaw seX8_isLaw lkX8_isLaw k0_174 rc8 (Nat.le_of_ble_eq_true rfl) ((x_X8_isLaw ).mono (by omega)) ?_
    refine e_if_eq (tgt := 47) dX8_read_13 (by decide) (fun c21 => ?_) (fun c21 => ?_)
    · rw [if_neg (bI_n c21)] at h
      refine e_iconst (x := (-1 : Int32)) dX8_read_47 (by decide) ?_
      obtain rfl := Option.some.inj h
      exact e_iret dX8_read_48 rfl rfl ⟨rfl, rfl, rfl⟩
    · rw [if_pos (bI_p c21)] at h
      refine e_iload_n dX8_read_16 rfl ?_
      refine e_if_eq (tgt := 28) dX8_read_17 (by decide) (fun c20 => ?_) (fun c20 => ?_)
      · rw [if_pos c20] at h
        exact b_X8_read_28  h
      · rw [if_neg c20] at h
        refine e_aload_n dX8_read_20 rfl ?_
        refine e_iload_n dX8_read_21 rfl ?_
        refine c_VZ (M' := mX8_areDrops) [.int a3] dX8_read_22 rfl wmX8_275 imX8_areDrops seX8_areDrops lkX8_areDrops k0_174 rc8 (Nat.le_of_ble_eq_true rfl) ((x_X8_areDrops ).mono (by omega)) ?_
        refine e_if_eq (tgt := 47) dX8_read_25 (by decide) (fun c19 => ?_) (fun c19 => ?_)
        · rw [if_neg (bI_n c19)] at h
          refine e_iconst (x := (-1 : Int32)) dX8_read_47 (by decide) ?_
          obtain rfl := Option.some.inj h
          exact e_iret dX8_read_48 rfl rfl ⟨rfl, rfl, rfl⟩
        · rw [if_pos (bI_p c19)] at h
          exact b_X8_read_28  h
def f_X8_odds_61  (q29 : rV → Int32 → Int32 → Int32 → Option (Int32 × rV)) (v : rV) (a8 : Int32) (a10 : Int32) (s0 : Int32) (s1 : Int32) : Option (Int32 × rV) := vlet (s1 + s0 : Int32) fun x3 =>
  vlet (a10 + (1 : Int32)) fun x4 =>
  q29 v a8 x3 x4
def f_X8_odds_29   : Nat → rV → Int32 → Int32 → Int32 → Option (Int32 × rV)
  | 0, _, _, _, _ => none
  | n + 1, v, a8, a9, a10 => if (v.1 174 21) ≤ a10 then
  (some (a9, v))
else
  (if (f_X8_has a8 a10) = true then
  (if ¬ a10 < 0 ∧ a10.toNatClampNeg < 12 then
  (f_X8_odds_61 (fun v a8 a9 a10 => f_X8_odds_29  n v a8 a9 a10) v a8 a10 (v.1 186 a10.toNatClampNeg) a9)
else none)
else
  (f_X8_odds_61 (fun v a8 a9 a10 => f_X8_odds_29  n v a8 a9 a10) v a8 a10 (0 : Int32) a9))
def f_X8_odds (v : rV) (a1 : Int32) (a2 : Int32) (a3 : Int32) (a4 : Int64) (a6 : Int32) (a7 : Int32) : Option (Int32 × rV) := (f_X8_read v a1 a2 a3 a4 a6 a7).bind fun p1 =>
  if p1.1 = (-1 : Int32) then
  (some ((-1 : Int32), p1.2))
else
  (f_X8_odds_29  20000 p1.2 p1.1 (0 : Int32) (0 : Int32))
set_option maxRecDepth 20000 in
theorem b_X8_odds_61 {X : Nat × (Nat → Int32)} {r : Int32 × rV} {v : rV} {q29 : rV → Int32 → Int32 → Int32 → Option (Int32 × rV)} (hq29 : ∀ (v : rV) (a8 : Int32) (a9 : Int32) (a10 : Int32) , q29 v a8 a9 a10 = some r → Ev mX8_odds 11 0 0 29 [(0, .ref 174), (8, .int a8), (9, .int a9), (10, .int a10)] [] (rZ X) v (rPI X r)) {a8 : Int32} {a10 : Int32} {s0 : Int32} {s1 : Int32}  (h : f_X8_odds_61 q29 v a8 a10 s0 s1 = some r) : Ev mX8_odds 11 0 0 61 [(0, .ref 174), (8, .int a8), (10, .int a10)] [.int s0, .int s1] (rZ X) v (rPI X r) := by
  unfold f_X8_odds_61 at h
  refine e_iadd dX8_odds_61 ?_
  obtain ⟨x3, ex3, h⟩ := vlet_ex h
  refine e_nameI ex3.symm ?_
  clear ex3
  refine e_istore (lv' := [(9, .int x3), (0, .ref 174), (8, .int a8), (10, .int a10)]) dX8_odds_62 (by decide) rfl ?_
  obtain ⟨x4, ex4, h⟩ := vlet_ex h
  refine e_iinc (lv' := [(10, .int x4), (9, .int x3), (0, .ref 174), (8, .int a8)]) dX8_odds_64 rfl (ex4.symm) (by decide) rfl ?_
  clear ex4
  refine e_goto (tgt := 29) dX8_odds_67 (by decide) ?_
  refine e_sub [2, 3, 1, 0] rfl ?_
  exact hq29 v a8 x3 x4 h
set_option maxRecDepth 20000 in
theorem b_X8_odds_29 {X : Nat × (Nat → Int32)} {r : Int32 × rV}   : ∀ (n : Nat) (v : rV) (a8 : Int32) (a9 : Int32) (a10 : Int32) , f_X8_odds_29   n v a8 a9 a10 = some r → Ev mX8_odds 11 0 0 29 [(0, .ref 174), (8, .int a8), (9, .int a9), (10, .int a10)] [] (rZ X) v (rPI X r) := by
  intro n
  induction n with
  | zero =>
    intros
    rename_i h
    cases h
  | succ n ih =>
    intro v a8 a9 a10 h
    rw [f_X8_odds_29] at h
    refine e_iload dX8_odds_29 rfl ?_
    refine e_aload_n dX8_odds_31 rfl ?_
    refine e_get (w := .int (v.1 174 21)) (j := 21) dX8_odds_32 k0_174 rc8 (by decide) wfX8_241 rfl ?_
    refine e_icmp_ge (tgt := 70) dX8_odds_35 (by decide) (fun c7 => ?_) (fun c7 => ?_)
    · rw [if_pos c7] at h
      refine e_iload dX8_odds_70 rfl ?_
      obtain rfl := Option.some.inj h
      exact e_iret dX8_odds_72 rfl rfl ⟨rfl, rfl, rfl⟩
    · rw [if_neg c7] at h
      refine e_iload dX8_odds_38 rfl ?_
      refine e_iload dX8_odds_40 rfl ?_
      refine e_iload dX8_odds_42 rfl ?_
      refine c_SZ (M' := mX8_has) [.int a8, .int a10] dX8_odds_44 rfl wmX8_206 stX8_has lkX8_has (Nat.le_of_ble_eq_true rfl) ((x_X8_has ).mono (by omega)) ?_
      refine e_if_eq (tgt := 60) dX8_odds_47 (by decide) (fun c6 => ?_) (fun c6 => ?_)
      · rw [if_neg (bI_n c6)] at h
        refine e_iconst (x := (0 : Int32)) dX8_odds_60 (by decide) ?_
        refine e_sub [0, 1, 3] rfl ?_
        exact b_X8_odds_61 (fun v a8 a9 a10  hh => ih v a8 a9 a10  hh) h
      · rw [if_pos (bI_p c6)] at h
        refine e_aload_n dX8_odds_50 rfl ?_
        refine e_get (w := .ref 186) (j := 20) dX8_odds_51 k0_174 rc8 (by decide) wfX8_43 (g0_174_20) ?_
        refine e_iload dX8_odds_54 rfl ?_
        obtain ⟨c5, h⟩ := grd h
        refine e_ialdJ dX8_odds_56 k0_186 rfl c5.2 c5.1 ?_
        refine e_goto (tgt := 61) dX8_odds_57 (by decide) ?_
        refine e_sub [0, 1, 3] rfl ?_
        exact b_X8_odds_61 (fun v a8 a9 a10  hh => ih v a8 a9 a10  hh) h
set_option maxRecDepth 20000 in
theorem x_X8_odds {X : Nat × (Nat → Int32)} {v : rV} {r : Int32 × rV} {a1 : Int32} {a2 : Int32} {a3 : Int32} {a4 : Int64} {a6 : Int32} {a7 : Int32}  (h : f_X8_odds v a1 a2 a3 a4 a6 a7 = some r) : EvM mX8_odds 11 0 0 [.ref 174, .int a1, .int a2, .int a3, .long a4, .int a6, .int a7] (rZ X) v (rPI X r) := by
  refine evm_of (by decide +kernel) (fun G => Nat.le_of_ble_eq_true rfl) ?_
  show Ev mX8_odds 11 0 0 0 [(0, .ref 174), (1, .int a1), (2, .int a2), (3, .int a3), (4, .long a4), (6, .int a6), (7, .int a7)] [] (rZ X) v _
  unfold f_X8_odds at h
  refine e_aload_n dX8_odds_0 rfl ?_
  refine e_iload_n dX8_odds_1 rfl ?_
  refine e_iload_n dX8_odds_2 rfl ?_
  refine e_iload_n dX8_odds_3 rfl ?_
  refine e_lload dX8_odds_4 rfl ?_
  refine e_iload dX8_odds_6 rfl ?_
  refine e_iload dX8_odds_8 rfl ?_
  obtain ⟨p1, ep1, h⟩ := Option.bind_eq_some_iff.mp h
  refine c_VI (M' := mX8_read) [.int a1, .int a2, .int a3, .long a4, .int a6, .int a7] dX8_odds_10 rfl wmX8_403 imX8_read seX8_read lkX8_read k0_174 rc8 (Nat.le_of_ble_eq_true rfl) ((x_X8_read  ep1).mono (by omega)) ?_
  refine e_istore (lv' := [(8, .int p1.1), (0, .ref 174), (1, .int a1), (2, .int a2), (3, .int a3), (4, .long a4), (6, .int a6), (7, .int a7)]) dX8_odds_13 (by decide) rfl ?_
  refine e_iload dX8_odds_15 rfl ?_
  refine e_iconst (x := (-1 : Int32)) dX8_odds_17 (by decide) ?_
  refine e_icmp_ne (tgt := 23) dX8_odds_18 (by decide) (fun c8 => ?_) (fun c8 => ?_)
  · rw [if_neg c8] at h
    refine e_iconst (x := (0 : Int32)) dX8_odds_23 (by decide) ?_
    refine e_istore (lv' := [(9, .int (0 : Int32)), (8, .int p1.1), (0, .ref 174), (1, .int a1), (2, .int a2), (3, .int a3), (4, .long a4), (6, .int a6), (7, .int a7)]) dX8_odds_24 (by decide) rfl ?_
    refine e_iconst (x := (0 : Int32)) dX8_odds_26 (by decide) ?_
    refine e_istore (lv' := [(10, .int (0 : Int32)), (9, .int (0 : Int32)), (8, .int p1.1), (0, .ref 174), (1, .int a1), (2, .int a2), (3, .int a3), (4, .long a4), (6, .int a6), (7, .int a7)]) dX8_odds_27 (by decide) rfl ?_
    refine e_sub [3, 2, 1, 0] rfl ?_
    exact b_X8_odds_29  _ p1.2 p1.1 (0 : Int32) (0 : Int32) h
  · rw [if_pos c8] at h
    refine e_iconst (x := (-1 : Int32)) dX8_odds_21 (by decide) ?_
    obtain rfl := Option.some.inj h
    exact e_iret dX8_odds_22 rfl rfl ⟨rfl, rfl, rfl⟩
def f_X8_pace (v : rV) (a1 : Int32) : Option (Bool × rV) := if (f_X8_in a1 (0 : Int32) (99 : Int32)) = true then
  (vlet (rI v 174 23 a1) fun v2 =>
  some (true, v2))
else
  (some (false, v))
set_option maxRecDepth 20000 in
theorem x_X8_pace {X : Nat × (Nat → Int32)} {v : rV} {r : Bool × rV} {a1 : Int32}  (h : f_X8_pace v a1 = some r) : EvM mX8_pace 2 0 0 [.ref 174, .int a1] (rZ X) v (rPZ X r) := by
  refine evm_of (by decide +kernel) (fun G => Nat.le_of_ble_eq_true rfl) ?_
  show Ev mX8_pace 2 0 0 0 [(0, .ref 174), (1, .int a1)] [] (rZ X) v _
  unfold f_X8_pace at h
  refine e_iload_n dX8_pace_0 rfl ?_
  refine e_iconst (x := (0 : Int32)) dX8_pace_1 (by decide) ?_
  refine e_bipush (x := (99 : Int32)) dX8_pace_2 (by decide) ?_
  refine c_SZ (M' := mX8_in) [.int a1, .int (0 : Int32), .int (99 : Int32)] dX8_pace_4 rfl wmX8_216 stX8_in lkX8_in (Nat.le_of_ble_eq_true rfl) ((x_X8_in ).mono (by omega)) ?_
  refine e_if_ne (tgt := 12) dX8_pace_7 (by decide) (fun c3 => ?_) (fun c3 => ?_)
  · rw [if_pos (bI_p c3)] at h
    refine e_aload_n dX8_pace_12 rfl ?_
    refine e_iload_n dX8_pace_13 rfl ?_
    refine e_putI (j := 23) dX8_pace_14 k0_174 rc8 (by decide) wfX8_46 rfl rfl ?_
    obtain ⟨v2, ev2, h⟩ := vlet_ex h
    refine e_nameV ev2.symm ?_
    clear ev2
    refine e_iconst (x := (1 : Int32)) dX8_pace_17 (by decide) ?_
    obtain rfl := Option.some.inj h
    exact e_iret dX8_pace_18 rfl rfl ⟨rfl, rfl, rfl⟩
  · rw [if_neg (bI_n c3)] at h
    refine e_iconst (x := (0 : Int32)) dX8_pace_10 (by decide) ?_
    obtain rfl := Option.some.inj h
    exact e_iret dX8_pace_11 rfl rfl ⟨rfl, rfl, rfl⟩
def f_X8_parts (v : rV) (a1 : Int32) (a2 : Int32) (a3 : Int32) (a4 : Int64) (a6 : Int32) : Option (Int32 × rV) := if (f_X8_isLaw v a1) = true then
  (if (f_X8_isLaw v a2) = true then
  (if (f_X8_isDrop v a3) = true then
  (if (f_X8_areTicks a6) = true then
  ((f_X8_putAside v).bind fun p5 =>
  (f_X8_partsOf p5 a1 a2 a3 a4 a6).bind fun p6 =>
  (f_X8_takeBack p6.2).bind fun p7 =>
  some (p6.1, p7))
else
  (some ((-1 : Int32), v)))
else
  (some ((-1 : Int32), v)))
else
  (some ((-1 : Int32), v)))
else
  (some ((-1 : Int32), v))
set_option maxRecDepth 20000 in
theorem x_X8_parts {X : Nat × (Nat → Int32)} {v : rV} {r : Int32 × rV} {a1 : Int32} {a2 : Int32} {a3 : Int32} {a4 : Int64} {a6 : Int32}  (h : f_X8_parts v a1 a2 a3 a4 a6 = some r) : EvM mX8_parts 11 0 0 [.ref 174, .int a1, .int a2, .int a3, .long a4, .int a6] (rZ X) v (rPI X r) := by
  refine evm_of (by decide +kernel) (fun G => Nat.le_of_ble_eq_true rfl) ?_
  show Ev mX8_parts 11 0 0 0 [(0, .ref 174), (1, .int a1), (2, .int a2), (3, .int a3), (4, .long a4), (6, .int a6)] [] (rZ X) v _
  unfold f_X8_parts at h
  refine e_aload_n dX8_parts_0 rfl ?_
  refine e_iload_n dX8_parts_1 rfl ?_
  refine c_VZ (M' := mX8_isLaw) [.int a1] dX8_parts_2 rfl wmX8_272 imX8_isLaw seX8_isLaw lkX8_isLaw k0_174 rc8 (Nat.le_of_ble_eq_true rfl) ((x_X8_isLaw ).mono (by omega)) ?_
  refine e_if_eq (tgt := 32) dX8_parts_5 (by decide) (fun c11 => ?_) (fun c11 => ?_)
  · rw [if_neg (bI_n c11)] at h
    refine e_iconst (x := (-1 : Int32)) dX8_parts_32 (by decide) ?_
    obtain rfl := Option.some.inj h
    exact e_iret dX8_parts_33 rfl rfl ⟨rfl, rfl, rfl⟩
  · rw [if_pos (bI_p c11)] at h
    refine e_aload_n dX8_parts_8 rfl ?_
    refine e_iload_n dX8_parts_9 rfl ?_
    refine c_VZ (M' := mX8_isLaw) [.int a2] dX8_parts_10 rfl wmX8_272 imX8_isLaw seX8_isLaw lkX8_isLaw k0_174 rc8 (Nat.le_of_ble_eq_true rfl) ((x_X8_isLaw ).mono (by omega)) ?_
    refine e_if_eq (tgt := 32) dX8_parts_13 (by decide) (fun c10 => ?_) (fun c10 => ?_)
    · rw [if_neg (bI_n c10)] at h
      refine e_iconst (x := (-1 : Int32)) dX8_parts_32 (by decide) ?_
      obtain rfl := Option.some.inj h
      exact e_iret dX8_parts_33 rfl rfl ⟨rfl, rfl, rfl⟩
    · rw [if_pos (bI_p c10)] at h
      refine e_aload_n dX8_parts_16 rfl ?_
      refine e_iload_n dX8_parts_17 rfl ?_
      refine c_VZ (M' := mX8_isDrop) [.int a3] dX8_parts_18 rfl wmX8_244 imX8_isDrop seX8_isDrop lkX8_isDrop k0_174 rc8 (Nat.le_of_ble_eq_true rfl) ((x_X8_isDrop ).mono (by omega)) ?_
      refine e_if_eq (tgt := 32) dX8_parts_21 (by decide) (fun c9 => ?_) (fun c9 => ?_)
      · rw [if_neg (bI_n c9)] at h
        refine e_iconst (x := (-1 : Int32)) dX8_parts_32 (by decide) ?_
        obtain rfl := Option.some.inj h
        exact e_iret dX8_parts_33 rfl rfl ⟨rfl, rfl, rfl⟩
      · rw [if_pos (bI_p c9)] at h
        refine e_iload dX8_parts_24 rfl ?_
        refine c_SZ (M' := mX8_areTicks) [.int a6] dX8_parts_26 rfl wmX8_381 stX8_areTicks lkX8_areTicks (Nat.le_of_ble_eq_true rfl) ((x_X8_areTicks ).mono (by omega)) ?_
        refine e_if_ne (tgt := 34) dX8_parts_29 (by decide) (fun c8 => ?_) (fun c8 => ?_)
        · rw [if_pos (bI_p c8)] at h
          refine e_aload_n dX8_parts_34 rfl ?_
          obtain ⟨p5, ep5, h⟩ := Option.bind_eq_some_iff.mp h
          refine c_VV (M' := mX8_putAside) [] dX8_parts_35 rfl wmX8_384 imX8_putAside seX8_putAside lkX8_putAside k0_174 rc8 (Nat.le_of_ble_eq_true rfl) ((x_X8_putAside  ep5).mono (by omega)) ?_
          refine e_aload_n dX8_parts_38 rfl ?_
          refine e_iload_n dX8_parts_39 rfl ?_
          refine e_iload_n dX8_parts_40 rfl ?_
          refine e_iload_n dX8_parts_41 rfl ?_
          refine e_lload dX8_parts_42 rfl ?_
          refine e_iload dX8_parts_44 rfl ?_
          obtain ⟨p6, ep6, h⟩ := Option.bind_eq_some_iff.mp h
          refine c_VI (M' := mX8_partsOf) [.int a1, .int a2, .int a3, .long a4, .int a6] dX8_parts_46 rfl wmX8_407 imX8_partsOf seX8_partsOf lkX8_partsOf k0_174 rc8 (Nat.le_of_ble_eq_true rfl) ((x_X8_partsOf  ep6).mono (by omega)) ?_
          refine e_istore (lv' := [(7, .int p6.1), (0, .ref 174), (1, .int a1), (2, .int a2), (3, .int a3), (4, .long a4), (6, .int a6)]) dX8_parts_49 (by decide) rfl ?_
          refine e_aload_n dX8_parts_51 rfl ?_
          obtain ⟨p7, ep7, h⟩ := Option.bind_eq_some_iff.mp h
          refine c_VV (M' := mX8_takeBack) [] dX8_parts_52 rfl wmX8_391 imX8_takeBack seX8_takeBack lkX8_takeBack k0_174 rc8 (Nat.le_of_ble_eq_true rfl) ((x_X8_takeBack  ep7).mono (by omega)) ?_
          refine e_iload dX8_parts_55 rfl ?_
          obtain rfl := Option.some.inj h
          exact e_iret dX8_parts_57 rfl rfl ⟨rfl, rfl, rfl⟩
        · rw [if_neg (bI_n c8)] at h
          refine e_iconst (x := (-1 : Int32)) dX8_parts_32 (by decide) ?_
          obtain rfl := Option.some.inj h
          exact e_iret dX8_parts_33 rfl rfl ⟨rfl, rfl, rfl⟩
def f_X8_print_14   : Nat → rV → Int32 → Int32 → Int32 → Option (Int32 × rV)
  | 0, _, _, _, _ => none
  | n + 1, v, a1, a2, a3 => if (24 : Int32) ≤ a3 then
  (some (a2, v))
else
  ((f_X8_laidIn v a3).bind fun p2 =>
  if ¬ (((24 : Int32) * a1) + a3) < 0 ∧ (((24 : Int32) * a1) + a3).toNatClampNeg < 144 then
  (vlet (rI v 195 ((((24 : Int32) * a1) + a3).toNatClampNeg) p2) fun v4 =>
  (f_X8_laidIn v4 a3).bind fun p5 =>
  vlet (a2 + p5 : Int32) fun x6 =>
  vlet (a3 + (1 : Int32)) fun x7 =>
  f_X8_print_14  n v4 a1 x6 x7)
else none)
def f_X8_print (v : rV) (a1 : Int32) : Option (Int32 × rV) := if (f_X8_isStain v a1) = true then
  (f_X8_print_14  20000 v a1 (0 : Int32) (0 : Int32))
else
  (some ((-1 : Int32), v))
set_option maxRecDepth 20000 in
theorem b_X8_print_14 {X : Nat × (Nat → Int32)} {r : Int32 × rV}   : ∀ (n : Nat) (v : rV) (a1 : Int32) (a2 : Int32) (a3 : Int32) , f_X8_print_14   n v a1 a2 a3 = some r → Ev mX8_print 4 0 0 14 [(0, .ref 174), (1, .int a1), (2, .int a2), (3, .int a3)] [] (rZ X) v (rPI X r) := by
  intro n
  induction n with
  | zero =>
    intros
    rename_i h
    cases h
  | succ n ih =>
    intro v a1 a2 a3 h
    rw [f_X8_print_14] at h
    refine e_iload_n dX8_print_14 rfl ?_
    refine e_bipush (x := (24 : Int32)) dX8_print_15 (by decide) ?_
    refine e_icmp_ge (tgt := 50) dX8_print_17 (by decide) (fun c8 => ?_) (fun c8 => ?_)
    · rw [if_pos c8] at h
      refine e_iload_n dX8_print_50 rfl ?_
      obtain rfl := Option.some.inj h
      exact e_iret dX8_print_51 rfl rfl ⟨rfl, rfl, rfl⟩
    · rw [if_neg c8] at h
      refine e_aload_n dX8_print_20 rfl ?_
      refine e_get (w := .ref 195) (j := 40) dX8_print_21 k0_174 rc8 (by decide) wfX8_74 (g0_174_40) ?_
      refine e_bipush (x := (24 : Int32)) dX8_print_24 (by decide) ?_
      refine e_iload_n dX8_print_26 rfl ?_
      refine e_imul dX8_print_27 ?_
      refine e_iload_n dX8_print_28 rfl ?_
      refine e_iadd dX8_print_29 ?_
      refine e_aload_n dX8_print_30 rfl ?_
      refine e_iload_n dX8_print_31 rfl ?_
      obtain ⟨p2, ep2, h⟩ := Option.bind_eq_some_iff.mp h
      refine c_VI (M' := mX8_laidIn) [.int a3] dX8_print_32 rfl wmX8_357 imX8_laidIn seX8_laidIn lkX8_laidIn k0_174 rc8 (Nat.le_of_ble_eq_true rfl) ((x_X8_laidIn  ep2).mono (by omega)) ?_
      obtain ⟨c3, h⟩ := grd h
      refine e_iastJ dX8_print_35 k0_195 rfl c3.2 c3.1 ?_
      obtain ⟨v4, ev4, h⟩ := vlet_ex h
      refine e_nameV ev4.symm ?_
      clear ev4
      refine e_iload_n dX8_print_36 rfl ?_
      refine e_aload_n dX8_print_37 rfl ?_
      refine e_iload_n dX8_print_38 rfl ?_
      obtain ⟨p5, ep5, h⟩ := Option.bind_eq_some_iff.mp h
      refine c_VI (M' := mX8_laidIn) [.int a3] dX8_print_39 rfl wmX8_357 imX8_laidIn seX8_laidIn lkX8_laidIn k0_174 rc8 (Nat.le_of_ble_eq_true rfl) ((x_X8_laidIn  ep5).mono (by omega)) ?_
      refine e_iadd dX8_print_42 ?_
      obtain ⟨x6, ex6, h⟩ := vlet_ex h
      refine e_nameI ex6.symm ?_
      clear ex6
      refine e_istore_n (lv' := [(2, .int x6), (0, .ref 174), (1, .int a1), (3, .int a3)]) dX8_print_43 (by decide) rfl ?_
      obtain ⟨x7, ex7, h⟩ := vlet_ex h
      refine e_iinc (lv' := [(3, .int x7), (2, .int x6), (0, .ref 174), (1, .int a1)]) dX8_print_44 rfl (ex7.symm) (by decide) rfl ?_
      clear ex7
      refine e_goto (tgt := 14) dX8_print_47 (by decide) ?_
      refine e_sub [2, 3, 1, 0] rfl ?_
      exact ih v4 a1 x6 x7 h
set_option maxRecDepth 20000 in
theorem x_X8_print {X : Nat × (Nat → Int32)} {v : rV} {r : Int32 × rV} {a1 : Int32}  (h : f_X8_print v a1 = some r) : EvM mX8_print 4 0 0 [.ref 174, .int a1] (rZ X) v (rPI X r) := by
  refine evm_of (by decide +kernel) (fun G => Nat.le_of_ble_eq_true rfl) ?_
  show Ev mX8_print 4 0 0 0 [(0, .ref 174), (1, .int a1)] [] (rZ X) v _
  unfold f_X8_print at h
  refine e_aload_n dX8_print_0 rfl ?_
  refine e_iload_n dX8_print_1 rfl ?_
  refine c_VZ (M' := mX8_isStain) [.int a1] dX8_print_2 rfl wmX8_397 imX8_isStain seX8_isStain lkX8_isStain k0_174 rc8 (Nat.le_of_ble_eq_true rfl) ((x_X8_isStain ).mono (by omega)) ?_
  refine e_if_ne (tgt := 10) dX8_print_5 (by decide) (fun c9 => ?_) (fun c9 => ?_)
  · rw [if_pos (bI_p c9)] at h
    refine e_iconst (x := (0 : Int32)) dX8_print_10 (by decide) ?_
    refine e_istore_n (lv' := [(2, .int (0 : Int32)), (0, .ref 174), (1, .int a1)]) dX8_print_11 (by decide) rfl ?_
    refine e_iconst (x := (0 : Int32)) dX8_print_12 (by decide) ?_
    refine e_istore_n (lv' := [(3, .int (0 : Int32)), (2, .int (0 : Int32)), (0, .ref 174), (1, .int a1)]) dX8_print_13 (by decide) rfl ?_
    refine e_sub [2, 3, 1, 0] rfl ?_
    exact b_X8_print_14  _ v a1 (0 : Int32) (0 : Int32) h
  · rw [if_neg (bI_n c9)] at h
    refine e_iconst (x := (-1 : Int32)) dX8_print_8 (by decide) ?_
    obtain rfl := Option.some.inj h
    exact e_iret dX8_print_9 rfl rfl ⟨rfl, rfl, rfl⟩
def f_X8_printed (v : rV) (a1 : Int32) (a2 : Int32) (a3 : Int32) (a4 : Int64) (a6 : Int32) (a7 : Int32) : Option (Int32 × rV) := if (f_X8_isLaw v a1) = true then
  (if (f_X8_isDrop v a2) = true then
  (if (f_X8_in a3 (0 : Int32) (9 : Int32)) = true then
  (if (f_X8_areTicks a6) = true then
  (if (f_X8_in a7 (0 : Int32) (1 : Int32)) = true then
  (if a7 = (1 : Int32) then
  ((f_X8_copies v a2 a3).bind fun p9 =>
  some (p9, v))
else
  ((f_X8_putAside v).bind fun p6 =>
  (f_X8_evenOf p6 a1 a2 a3 a4 a6).bind fun p7 =>
  (f_X8_takeBack p7.2).bind fun p8 =>
  some (p7.1, p8)))
else
  (some ((-1 : Int32), v)))
else
  (some ((-1 : Int32), v)))
else
  (some ((-1 : Int32), v)))
else
  (some ((-1 : Int32), v)))
else
  (some ((-1 : Int32), v))
set_option maxRecDepth 20000 in
theorem x_X8_printed {X : Nat × (Nat → Int32)} {v : rV} {r : Int32 × rV} {a1 : Int32} {a2 : Int32} {a3 : Int32} {a4 : Int64} {a6 : Int32} {a7 : Int32}  (h : f_X8_printed v a1 a2 a3 a4 a6 a7 = some r) : EvM mX8_printed 11 0 0 [.ref 174, .int a1, .int a2, .int a3, .long a4, .int a6, .int a7] (rZ X) v (rPI X r) := by
  refine evm_of (by decide +kernel) (fun G => Nat.le_of_ble_eq_true rfl) ?_
  show Ev mX8_printed 11 0 0 0 [(0, .ref 174), (1, .int a1), (2, .int a2), (3, .int a3), (4, .long a4), (6, .int a6), (7, .int a7)] [] (rZ X) v _
  unfold f_X8_printed at h
  refine e_aload_n dX8_printed_0 rfl ?_
  refine e_iload_n dX8_printed_1 rfl ?_
  refine c_VZ (M' := mX8_isLaw) [.int a1] dX8_printed_2 rfl wmX8_272 imX8_isLaw seX8_isLaw lkX8_isLaw k0_174 rc8 (Nat.le_of_ble_eq_true rfl) ((x_X8_isLaw ).mono (by omega)) ?_
  refine e_if_eq (tgt := 44) dX8_printed_5 (by decide) (fun c15 => ?_) (fun c15 => ?_)
  · rw [if_neg (bI_n c15)] at h
    refine e_iconst (x := (-1 : Int32)) dX8_printed_44 (by decide) ?_
    obtain rfl := Option.some.inj h
    exact e_iret dX8_printed_45 rfl rfl ⟨rfl, rfl, rfl⟩
  · rw [if_pos (bI_p c15)] at h
    refine e_aload_n dX8_printed_8 rfl ?_
    refine e_iload_n dX8_printed_9 rfl ?_
    refine c_VZ (M' := mX8_isDrop) [.int a2] dX8_printed_10 rfl wmX8_244 imX8_isDrop seX8_isDrop lkX8_isDrop k0_174 rc8 (Nat.le_of_ble_eq_true rfl) ((x_X8_isDrop ).mono (by omega)) ?_
    refine e_if_eq (tgt := 44) dX8_printed_13 (by decide) (fun c14 => ?_) (fun c14 => ?_)
    · rw [if_neg (bI_n c14)] at h
      refine e_iconst (x := (-1 : Int32)) dX8_printed_44 (by decide) ?_
      obtain rfl := Option.some.inj h
      exact e_iret dX8_printed_45 rfl rfl ⟨rfl, rfl, rfl⟩
    · rw [if_pos (bI_p c14)] at h
      refine e_iload_n dX8_printed_16 rfl ?_
      refine e_iconst (x := (0 : Int32)) dX8_printed_17 (by decide) ?_
      refine e_bipush (x := (9 : Int32)) dX8_printed_18 (by decide) ?_
      refine c_SZ (M' := mX8_in) [.int a3, .int (0 : Int32), .int (9 : Int32)] dX8_printed_20 rfl wmX8_216 stX8_in lkX8_in (Nat.le_of_ble_eq_true rfl) ((x_X8_in ).mono (by omega)) ?_
      refine e_if_eq (tgt := 44) dX8_printed_23 (by decide) (fun c13 => ?_) (fun c13 => ?_)
      · rw [if_neg (bI_n c13)] at h
        refine e_iconst (x := (-1 : Int32)) dX8_printed_44 (by decide) ?_
        obtain rfl := Option.some.inj h
        exact e_iret dX8_printed_45 rfl rfl ⟨rfl, rfl, rfl⟩
      · rw [if_pos (bI_p c13)] at h
        refine e_iload dX8_printed_26 rfl ?_
        refine c_SZ (M' := mX8_areTicks) [.int a6] dX8_printed_28 rfl wmX8_381 stX8_areTicks lkX8_areTicks (Nat.le_of_ble_eq_true rfl) ((x_X8_areTicks ).mono (by omega)) ?_
        refine e_if_eq (tgt := 44) dX8_printed_31 (by decide) (fun c12 => ?_) (fun c12 => ?_)
        · rw [if_neg (bI_n c12)] at h
          refine e_iconst (x := (-1 : Int32)) dX8_printed_44 (by decide) ?_
          obtain rfl := Option.some.inj h
          exact e_iret dX8_printed_45 rfl rfl ⟨rfl, rfl, rfl⟩
        · rw [if_pos (bI_p c12)] at h
          refine e_iload dX8_printed_34 rfl ?_
          refine e_iconst (x := (0 : Int32)) dX8_printed_36 (by decide) ?_
          refine e_iconst (x := (1 : Int32)) dX8_printed_37 (by decide) ?_
          refine c_SZ (M' := mX8_in) [.int a7, .int (0 : Int32), .int (1 : Int32)] dX8_printed_38 rfl wmX8_216 stX8_in lkX8_in (Nat.le_of_ble_eq_true rfl) ((x_X8_in ).mono (by omega)) ?_
          refine e_if_ne (tgt := 46) dX8_printed_41 (by decide) (fun c11 => ?_) (fun c11 => ?_)
          · rw [if_pos (bI_p c11)] at h
            refine e_iload dX8_printed_46 rfl ?_
            refine e_iconst (x := (1 : Int32)) dX8_printed_48 (by decide) ?_
            refine e_icmp_ne (tgt := 59) dX8_printed_49 (by decide) (fun c10 => ?_) (fun c10 => ?_)
            · rw [if_neg c10] at h
              refine e_aload_n dX8_printed_59 rfl ?_
              obtain ⟨p6, ep6, h⟩ := Option.bind_eq_some_iff.mp h
              refine c_VV (M' := mX8_putAside) [] dX8_printed_60 rfl wmX8_384 imX8_putAside seX8_putAside lkX8_putAside k0_174 rc8 (Nat.le_of_ble_eq_true rfl) ((x_X8_putAside  ep6).mono (by omega)) ?_
              refine e_aload_n dX8_printed_63 rfl ?_
              refine e_iload_n dX8_printed_64 rfl ?_
              refine e_iload_n dX8_printed_65 rfl ?_
              refine e_iload_n dX8_printed_66 rfl ?_
              refine e_lload dX8_printed_67 rfl ?_
              refine e_iload dX8_printed_69 rfl ?_
              obtain ⟨p7, ep7, h⟩ := Option.bind_eq_some_iff.mp h
              refine c_VI (M' := mX8_evenOf) [.int a1, .int a2, .int a3, .long a4, .int a6] dX8_printed_71 rfl wmX8_414 imX8_evenOf seX8_evenOf lkX8_evenOf k0_174 rc8 (Nat.le_of_ble_eq_true rfl) ((x_X8_evenOf  ep7).mono (by omega)) ?_
              refine e_istore (lv' := [(8, .int p7.1), (0, .ref 174), (1, .int a1), (2, .int a2), (3, .int a3), (4, .long a4), (6, .int a6), (7, .int a7)]) dX8_printed_74 (by decide) rfl ?_
              refine e_aload_n dX8_printed_76 rfl ?_
              obtain ⟨p8, ep8, h⟩ := Option.bind_eq_some_iff.mp h
              refine c_VV (M' := mX8_takeBack) [] dX8_printed_77 rfl wmX8_391 imX8_takeBack seX8_takeBack lkX8_takeBack k0_174 rc8 (Nat.le_of_ble_eq_true rfl) ((x_X8_takeBack  ep8).mono (by omega)) ?_
              refine e_iload dX8_printed_80 rfl ?_
              obtain rfl := Option.some.inj h
              exact e_iret dX8_printed_82 rfl rfl ⟨rfl, rfl, rfl⟩
            · rw [if_pos c10] at h
              refine e_aload_n dX8_printed_52 rfl ?_
              refine e_iload_n dX8_printed_53 rfl ?_
              refine e_iload_n dX8_printed_54 rfl ?_
              obtain ⟨p9, ep9, h⟩ := Option.bind_eq_some_iff.mp h
              refine c_VI (M' := mX8_copies) [.int a2, .int a3] dX8_printed_55 rfl wmX8_411 imX8_copies seX8_copies lkX8_copies k0_174 rc8 (Nat.le_of_ble_eq_true rfl) ((x_X8_copies  ep9).mono (by omega)) ?_
              obtain rfl := Option.some.inj h
              exact e_iret dX8_printed_58 rfl rfl ⟨rfl, rfl, rfl⟩
          · rw [if_neg (bI_n c11)] at h
            refine e_iconst (x := (-1 : Int32)) dX8_printed_44 (by decide) ?_
            obtain rfl := Option.some.inj h
            exact e_iret dX8_printed_45 rfl rfl ⟨rfl, rfl, rfl⟩
def f_X8_rush (v : rV) (a1 : Int32) : Int32 := if (v.1 187 292) = 0 then
  ((-1 : Int32))
else
  (if (f_X8_in a1 (0 : Int32) (1 : Int32)) = true then
  (if a1 = 0 then
  (v.1 187 291)
else
  (v.1 187 292))
else
  ((-1 : Int32)))
set_option maxRecDepth 20000 in
theorem x_X8_rush {X : Nat × (Nat → Int32)} {v : rV} {a1 : Int32}  : EvM mX8_rush 2 0 0 [.ref 174, .int a1] (rZ X) v (rPI X ((f_X8_rush v a1), v)) := by
  refine evm_of (by decide +kernel) (fun G => Nat.le_of_ble_eq_true rfl) ?_
  show Ev mX8_rush 2 0 0 0 [(0, .ref 174), (1, .int a1)] [] (rZ X) v _
  generalize h : f_X8_rush v a1 = r
  unfold f_X8_rush at h
  refine e_aload_n dX8_rush_0 rfl ?_
  refine e_get (w := .ref 187) (j := 24) dX8_rush_1 k0_174 rc8 (by decide) wfX8_50 (g0_174_24) ?_
  refine e_sipush (x := (292 : Int32)) dX8_rush_4 (by decide) ?_
  refine e_ialdJ dX8_rush_7 k0_187 (j := 292) (by decide) (by decide) (by decide) ?_
  refine e_if_eq (tgt := 20) dX8_rush_8 (by decide) (fun c4 => ?_) (fun c4 => ?_)
  · rw [if_pos c4] at h
    refine e_iconst (x := (-1 : Int32)) dX8_rush_20 (by decide) ?_
    refine e_goto (tgt := 47) dX8_rush_21 (by decide) ?_
    subst h
    exact e_iret dX8_rush_47 rfl rfl ⟨rfl, rfl, rfl⟩
  · rw [if_neg c4] at h
    refine e_iload_n dX8_rush_11 rfl ?_
    refine e_iconst (x := (0 : Int32)) dX8_rush_12 (by decide) ?_
    refine e_iconst (x := (1 : Int32)) dX8_rush_13 (by decide) ?_
    refine c_SZ (M' := mX8_in) [.int a1, .int (0 : Int32), .int (1 : Int32)] dX8_rush_14 rfl wmX8_216 stX8_in lkX8_in (Nat.le_of_ble_eq_true rfl) ((x_X8_in ).mono (by omega)) ?_
    refine e_if_ne (tgt := 24) dX8_rush_17 (by decide) (fun c3 => ?_) (fun c3 => ?_)
    · rw [if_pos (bI_p c3)] at h
      refine e_iload_n dX8_rush_24 rfl ?_
      refine e_if_ne (tgt := 39) dX8_rush_25 (by decide) (fun c2 => ?_) (fun c2 => ?_)
      · rw [if_neg c2] at h
        refine e_aload_n dX8_rush_39 rfl ?_
        refine e_get (w := .ref 187) (j := 24) dX8_rush_40 k0_174 rc8 (by decide) wfX8_50 (g0_174_24) ?_
        refine e_sipush (x := (292 : Int32)) dX8_rush_43 (by decide) ?_
        refine e_ialdJ dX8_rush_46 k0_187 (j := 292) (by decide) (by decide) (by decide) ?_
        subst h
        exact e_iret dX8_rush_47 rfl rfl ⟨rfl, rfl, rfl⟩
      · rw [if_pos c2] at h
        refine e_aload_n dX8_rush_28 rfl ?_
        refine e_get (w := .ref 187) (j := 24) dX8_rush_29 k0_174 rc8 (by decide) wfX8_50 (g0_174_24) ?_
        refine e_sipush (x := (291 : Int32)) dX8_rush_32 (by decide) ?_
        refine e_ialdJ dX8_rush_35 k0_187 (j := 291) (by decide) (by decide) (by decide) ?_
        refine e_goto (tgt := 47) dX8_rush_36 (by decide) ?_
        subst h
        exact e_iret dX8_rush_47 rfl rfl ⟨rfl, rfl, rfl⟩
    · rw [if_neg (bI_n c3)] at h
      refine e_iconst (x := (-1 : Int32)) dX8_rush_20 (by decide) ?_
      refine e_goto (tgt := 47) dX8_rush_21 (by decide) ?_
      subst h
      exact e_iret dX8_rush_47 rfl rfl ⟨rfl, rfl, rfl⟩
def f_X8_saved_93  (q39 : rV → Int32 → Int32 → Int32 → Int64 → Int32 → Int32 → Int32 → Option (Int32 × rV)) (v : rV) (a1 : Int32) (a2 : Int32) (a3 : Int32) (a4 : Int64) (a6 : Int32) (a7 : Int32) (a8 : Int32) : Option (Int32 × rV) := vlet (a8 + (1 : Int32)) fun x7 =>
  q39 v a1 a2 a3 a4 a6 a7 x7
def f_X8_saved_83  (q39 : rV → Int32 → Int32 → Int32 → Int64 → Int32 → Int32 → Int32 → Option (Int32 × rV)) (v : rV) (a1 : Int32) (a2 : Int32) (a3 : Int32) (a4 : Int64) (a8 : Int32) : Option (Int32 × rV) := vlet (v.1 174 43 : Int32) fun x9 =>
  f_X8_saved_93 q39 v a1 a2 a3 a4 a8 x9 a8
def f_X8_saved_39   : Nat → rV → Int32 → Int32 → Int32 → Int64 → Int32 → Int32 → Int32 → Option (Int32 × rV)
  | 0, _, _, _, _, _, _, _, _ => none
  | n + 1, v, a1, a2, a3, a4, a6, a7, a8 => if (v.1 174 21) ≤ a8 then
  ((f_X8_takeBack v).bind fun p5 =>
  some (a6, p5))
else
  (if (f_X8_has a3 a8) = true then
  ((f_X8_nearestTick v a1 a2 a8 a4).bind fun p8 =>
  if a6 = (-1 : Int32) then
  (f_X8_saved_83 (fun v a1 a2 a3 a4 a6 a7 a8 => f_X8_saved_39  n v a1 a2 a3 a4 a6 a7 a8) p8.2 a1 a2 a3 a4 a8)
else
  (if a7 ≤ (p8.2.1 174 43) then
  (f_X8_saved_93 (fun v a1 a2 a3 a4 a6 a7 a8 => f_X8_saved_39  n v a1 a2 a3 a4 a6 a7 a8) p8.2 a1 a2 a3 a4 a6 a7 a8)
else
  (f_X8_saved_83 (fun v a1 a2 a3 a4 a6 a7 a8 => f_X8_saved_39  n v a1 a2 a3 a4 a6 a7 a8) p8.2 a1 a2 a3 a4 a8)))
else
  (f_X8_saved_93 (fun v a1 a2 a3 a4 a6 a7 a8 => f_X8_saved_39  n v a1 a2 a3 a4 a6 a7 a8) v a1 a2 a3 a4 a6 a7 a8))
def f_X8_saved (v : rV) (a1 : Int32) (a2 : Int32) (a3 : Int32) (a4 : Int64) : Option (Int32 × rV) := if (f_X8_isStain v a1) = true then
  (if (f_X8_isLaw v a2) = true then
  (if (f_X8_areDrops v a3) = true then
  ((f_X8_putAside v).bind fun p4 =>
  f_X8_saved_39  20000 p4 a1 a2 a3 a4 (-1 : Int32) (0 : Int32) (0 : Int32))
else
  (some ((-1 : Int32), v)))
else
  (some ((-1 : Int32), v)))
else
  (some ((-1 : Int32), v))
set_option maxRecDepth 20000 in
theorem b_X8_saved_93 {X : Nat × (Nat → Int32)} {r : Int32 × rV} {v : rV} {q39 : rV → Int32 → Int32 → Int32 → Int64 → Int32 → Int32 → Int32 → Option (Int32 × rV)} (hq39 : ∀ (v : rV) (a1 : Int32) (a2 : Int32) (a3 : Int32) (a4 : Int64) (a6 : Int32) (a7 : Int32) (a8 : Int32) , q39 v a1 a2 a3 a4 a6 a7 a8 = some r → Ev mX8_saved 10 0 0 39 [(0, .ref 174), (1, .int a1), (2, .int a2), (3, .int a3), (4, .long a4), (6, .int a6), (7, .int a7), (8, .int a8)] [] (rZ X) v (rPI X r)) {a1 : Int32} {a2 : Int32} {a3 : Int32} {a4 : Int64} {a6 : Int32} {a7 : Int32} {a8 : Int32}  (h : f_X8_saved_93 q39 v a1 a2 a3 a4 a6 a7 a8 = some r) : Ev mX8_saved 10 0 0 93 [(0, .ref 174), (1, .int a1), (2, .int a2), (3, .int a3), (4, .long a4), (6, .int a6), (7, .int a7), (8, .int a8)] [] (rZ X) v (rPI X r) := by
  unfold f_X8_saved_93 at h
  obtain ⟨x7, ex7, h⟩ := vlet_ex h
  refine e_iinc (lv' := [(8, .int x7), (0, .ref 174), (1, .int a1), (2, .int a2), (3, .int a3), (4, .long a4), (6, .int a6), (7, .int a7)]) dX8_saved_93 rfl (ex7.symm) (by decide) rfl ?_
  clear ex7
  refine e_goto (tgt := 39) dX8_saved_96 (by decide) ?_
  refine e_sub [1, 2, 3, 4, 5, 6, 7, 0] rfl ?_
  exact hq39 v a1 a2 a3 a4 a6 a7 x7 h
set_option maxRecDepth 20000 in
theorem b_X8_saved_83 {X : Nat × (Nat → Int32)} {r : Int32 × rV} {v : rV} {q39 : rV → Int32 → Int32 → Int32 → Int64 → Int32 → Int32 → Int32 → Option (Int32 × rV)} (hq39 : ∀ (v : rV) (a1 : Int32) (a2 : Int32) (a3 : Int32) (a4 : Int64) (a6 : Int32) (a7 : Int32) (a8 : Int32) , q39 v a1 a2 a3 a4 a6 a7 a8 = some r → Ev mX8_saved 10 0 0 39 [(0, .ref 174), (1, .int a1), (2, .int a2), (3, .int a3), (4, .long a4), (6, .int a6), (7, .int a7), (8, .int a8)] [] (rZ X) v (rPI X r)) {a1 : Int32} {a2 : Int32} {a3 : Int32} {a4 : Int64} {a8 : Int32}  (h : f_X8_saved_83 q39 v a1 a2 a3 a4 a8 = some r) : Ev mX8_saved 10 0 0 83 [(0, .ref 174), (1, .int a1), (2, .int a2), (3, .int a3), (4, .long a4), (8, .int a8)] [] (rZ X) v (rPI X r) := by
  unfold f_X8_saved_83 at h
  refine e_iload dX8_saved_83 rfl ?_
  refine e_istore (lv' := [(6, .int a8), (0, .ref 174), (1, .int a1), (2, .int a2), (3, .int a3), (4, .long a4), (8, .int a8)]) dX8_saved_85 (by decide) rfl ?_
  refine e_aload_n dX8_saved_87 rfl ?_
  refine e_get (w := .int (v.1 174 43)) (j := 43) dX8_saved_88 k0_174 rc8 (by decide) wfX8_430 rfl ?_
  obtain ⟨x9, ex9, h⟩ := vlet_ex h
  refine e_nameI ex9.symm ?_
  clear ex9
  refine e_istore (lv' := [(7, .int x9), (6, .int a8), (0, .ref 174), (1, .int a1), (2, .int a2), (3, .int a3), (4, .long a4), (8, .int a8)]) dX8_saved_91 (by decide) rfl ?_
  refine e_sub [2, 3, 4, 5, 6, 1, 0, 7] rfl ?_
  exact b_X8_saved_93 hq39 h
set_option maxRecDepth 20000 in
theorem b_X8_saved_39 {X : Nat × (Nat → Int32)} {r : Int32 × rV}   : ∀ (n : Nat) (v : rV) (a1 : Int32) (a2 : Int32) (a3 : Int32) (a4 : Int64) (a6 : Int32) (a7 : Int32) (a8 : Int32) , f_X8_saved_39   n v a1 a2 a3 a4 a6 a7 a8 = some r → Ev mX8_saved 10 0 0 39 [(0, .ref 174), (1, .int a1), (2, .int a2), (3, .int a3), (4, .long a4), (6, .int a6), (7, .int a7), (8, .int a8)] [] (rZ X) v (rPI X r) := by
  intro n
  induction n with
  | zero =>
    intros
    rename_i h
    cases h
  | succ n ih =>
    intro v a1 a2 a3 a4 a6 a7 a8 h
    rw [f_X8_saved_39] at h
    refine e_iload dX8_saved_39 rfl ?_
    refine e_aload_n dX8_saved_41 rfl ?_
    refine e_get (w := .int (v.1 174 21)) (j := 21) dX8_saved_42 k0_174 rc8 (by decide) wfX8_241 rfl ?_
    refine e_icmp_ge (tgt := 99) dX8_saved_45 (by decide) (fun c13 => ?_) (fun c13 => ?_)
    · rw [if_pos c13] at h
      refine e_aload_n dX8_saved_99 rfl ?_
      obtain ⟨p5, ep5, h⟩ := Option.bind_eq_some_iff.mp h
      refine c_VV (M' := mX8_takeBack) [] dX8_saved_100 rfl wmX8_391 imX8_takeBack seX8_takeBack lkX8_takeBack k0_174 rc8 (Nat.le_of_ble_eq_true rfl) ((x_X8_takeBack  ep5).mono (by omega)) ?_
      refine e_iload dX8_saved_103 rfl ?_
      obtain rfl := Option.some.inj h
      exact e_iret dX8_saved_105 rfl rfl ⟨rfl, rfl, rfl⟩
    · rw [if_neg c13] at h
      refine e_iload_n dX8_saved_48 rfl ?_
      refine e_iload dX8_saved_49 rfl ?_
      refine c_SZ (M' := mX8_has) [.int a3, .int a8] dX8_saved_51 rfl wmX8_206 stX8_has lkX8_has (Nat.le_of_ble_eq_true rfl) ((x_X8_has ).mono (by omega)) ?_
      refine e_if_eq (tgt := 93) dX8_saved_54 (by decide) (fun c12 => ?_) (fun c12 => ?_)
      · rw [if_neg (bI_n c12)] at h
        exact b_X8_saved_93 (fun v a1 a2 a3 a4 a6 a7 a8  hh => ih v a1 a2 a3 a4 a6 a7 a8  hh) h
      · rw [if_pos (bI_p c12)] at h
        refine e_aload_n dX8_saved_57 rfl ?_
        refine e_iload_n dX8_saved_58 rfl ?_
        refine e_iload_n dX8_saved_59 rfl ?_
        refine e_iload dX8_saved_60 rfl ?_
        refine e_lload dX8_saved_62 rfl ?_
        obtain ⟨p8, ep8, h⟩ := Option.bind_eq_some_iff.mp h
        refine c_VI (M' := mX8_nearestTick) [.int a1, .int a2, .int a8, .long a4] dX8_saved_64 rfl wmX8_433 imX8_nearestTick seX8_nearestTick lkX8_nearestTick k0_174 rc8 (Nat.le_of_ble_eq_true rfl) ((x_X8_nearestTick  ep8).mono (by omega)) ?_
        refine e_pop dX8_saved_67 rfl ?_
        refine e_iload dX8_saved_68 rfl ?_
        refine e_iconst (x := (-1 : Int32)) dX8_saved_70 (by decide) ?_
        refine e_icmp_eq (tgt := 83) dX8_saved_71 (by decide) (fun c11 => ?_) (fun c11 => ?_)
        · rw [if_pos c11] at h
          refine e_sub [0, 1, 2, 3, 4, 7] rfl ?_
          exact b_X8_saved_83 (fun v a1 a2 a3 a4 a6 a7 a8  hh => ih v a1 a2 a3 a4 a6 a7 a8  hh) h
        · rw [if_neg c11] at h
          refine e_aload_n dX8_saved_74 rfl ?_
          refine e_get (w := .int (p8.2.1 174 43)) (j := 43) dX8_saved_75 k0_174 rc8 (by decide) wfX8_430 rfl ?_
          refine e_iload dX8_saved_78 rfl ?_
          refine e_icmp_ge (tgt := 93) dX8_saved_80 (by decide) (fun c10 => ?_) (fun c10 => ?_)
          · rw [if_pos c10] at h
            exact b_X8_saved_93 (fun v a1 a2 a3 a4 a6 a7 a8  hh => ih v a1 a2 a3 a4 a6 a7 a8  hh) h
          · rw [if_neg c10] at h
            refine e_sub [0, 1, 2, 3, 4, 7] rfl ?_
            exact b_X8_saved_83 (fun v a1 a2 a3 a4 a6 a7 a8  hh => ih v a1 a2 a3 a4 a6 a7 a8  hh) h
set_option maxRecDepth 20000 in
theorem x_X8_saved {X : Nat × (Nat → Int32)} {v : rV} {r : Int32 × rV} {a1 : Int32} {a2 : Int32} {a3 : Int32} {a4 : Int64}  (h : f_X8_saved v a1 a2 a3 a4 = some r) : EvM mX8_saved 10 0 0 [.ref 174, .int a1, .int a2, .int a3, .long a4] (rZ X) v (rPI X r) := by
  refine evm_of (by decide +kernel) (fun G => Nat.le_of_ble_eq_true rfl) ?_
  show Ev mX8_saved 10 0 0 0 [(0, .ref 174), (1, .int a1), (2, .int a2), (3, .int a3), (4, .long a4)] [] (rZ X) v _
  unfold f_X8_saved at h
  refine e_aload_n dX8_saved_0 rfl ?_
  refine e_iload_n dX8_saved_1 rfl ?_
  refine c_VZ (M' := mX8_isStain) [.int a1] dX8_saved_2 rfl wmX8_397 imX8_isStain seX8_isStain lkX8_isStain k0_174 rc8 (Nat.le_of_ble_eq_true rfl) ((x_X8_isStain ).mono (by omega)) ?_
  refine e_if_eq (tgt := 24) dX8_saved_5 (by decide) (fun c16 => ?_) (fun c16 => ?_)
  · rw [if_neg (bI_n c16)] at h
    refine e_iconst (x := (-1 : Int32)) dX8_saved_24 (by decide) ?_
    obtain rfl := Option.some.inj h
    exact e_iret dX8_saved_25 rfl rfl ⟨rfl, rfl, rfl⟩
  · rw [if_pos (bI_p c16)] at h
    refine e_aload_n dX8_saved_8 rfl ?_
    refine e_iload_n dX8_saved_9 rfl ?_
    refine c_VZ (M' := mX8_isLaw) [.int a2] dX8_saved_10 rfl wmX8_272 imX8_isLaw seX8_isLaw lkX8_isLaw k0_174 rc8 (Nat.le_of_ble_eq_true rfl) ((x_X8_isLaw ).mono (by omega)) ?_
    refine e_if_eq (tgt := 24) dX8_saved_13 (by decide) (fun c15 => ?_) (fun c15 => ?_)
    · rw [if_neg (bI_n c15)] at h
      refine e_iconst (x := (-1 : Int32)) dX8_saved_24 (by decide) ?_
      obtain rfl := Option.some.inj h
      exact e_iret dX8_saved_25 rfl rfl ⟨rfl, rfl, rfl⟩
    · rw [if_pos (bI_p c15)] at h
      refine e_aload_n dX8_saved_16 rfl ?_
      refine e_iload_n dX8_saved_17 rfl ?_
      refine c_VZ (M' := mX8_areDrops) [.int a3] dX8_saved_18 rfl wmX8_275 imX8_areDrops seX8_areDrops lkX8_areDrops k0_174 rc8 (Nat.le_of_ble_eq_true rfl) ((x_X8_areDrops ).mono (by omega)) ?_
      refine e_if_ne (tgt := 26) dX8_saved_21 (by decide) (fun c14 => ?_) (fun c14 => ?_)
      · rw [if_pos (bI_p c14)] at h
        refine e_aload_n dX8_saved_26 rfl ?_
        obtain ⟨p4, ep4, h⟩ := Option.bind_eq_some_iff.mp h
        refine c_VV (M' := mX8_putAside) [] dX8_saved_27 rfl wmX8_384 imX8_putAside seX8_putAside lkX8_putAside k0_174 rc8 (Nat.le_of_ble_eq_true rfl) ((x_X8_putAside  ep4).mono (by omega)) ?_
        refine e_iconst (x := (-1 : Int32)) dX8_saved_30 (by decide) ?_
        refine e_istore (lv' := [(6, .int (-1 : Int32)), (0, .ref 174), (1, .int a1), (2, .int a2), (3, .int a3), (4, .long a4)]) dX8_saved_31 (by decide) rfl ?_
        refine e_iconst (x := (0 : Int32)) dX8_saved_33 (by decide) ?_
        refine e_istore (lv' := [(7, .int (0 : Int32)), (6, .int (-1 : Int32)), (0, .ref 174), (1, .int a1), (2, .int a2), (3, .int a3), (4, .long a4)]) dX8_saved_34 (by decide) rfl ?_
        refine e_iconst (x := (0 : Int32)) dX8_saved_36 (by decide) ?_
        refine e_istore (lv' := [(8, .int (0 : Int32)), (7, .int (0 : Int32)), (6, .int (-1 : Int32)), (0, .ref 174), (1, .int a1), (2, .int a2), (3, .int a3), (4, .long a4)]) dX8_saved_37 (by decide) rfl ?_
        refine e_sub [3, 4, 5, 6, 7, 2, 1, 0] rfl ?_
        exact b_X8_saved_39  _ p4 a1 a2 a3 a4 (-1 : Int32) (0 : Int32) (0 : Int32) h
      · rw [if_neg (bI_n c14)] at h
        refine e_iconst (x := (-1 : Int32)) dX8_saved_24 (by decide) ?_
        obtain rfl := Option.some.inj h
        exact e_iret dX8_saved_25 rfl rfl ⟨rfl, rfl, rfl⟩
def f_X8_speed (v : rV)  : Int32 := v.1 187 293
set_option maxRecDepth 20000 in
theorem x_X8_speed {X : Nat × (Nat → Int32)} {v : rV}   : EvM mX8_speed 1 0 0 [.ref 174] (rZ X) v (rPI X ((f_X8_speed v), v)) := by
  refine evm_of (by decide +kernel) (fun G => Nat.le_of_ble_eq_true rfl) ?_
  show Ev mX8_speed 1 0 0 0 [(0, .ref 174)] [] (rZ X) v _
  generalize h : f_X8_speed v = r
  unfold f_X8_speed at h
  refine e_aload_n dX8_speed_0 rfl ?_
  refine e_get (w := .ref 187) (j := 24) dX8_speed_1 k0_174 rc8 (by decide) wfX8_50 (g0_174_24) ?_
  refine e_sipush (x := (293 : Int32)) dX8_speed_4 (by decide) ?_
  refine e_ialdJ dX8_speed_7 k0_187 (j := 293) (by decide) (by decide) (by decide) ?_
  subst h
  exact e_iret dX8_speed_8 rfl rfl ⟨rfl, rfl, rfl⟩
def f_X8_stain (v : rV)  : Option (Int32 × rV) := if (v.1 174 41) = (6 : Int32) then
  (some ((-1 : Int32), v))
else
  (vlet (rI v 174 41 ((v.1 174 41) + (1 : Int32))) fun v1 =>
  some ((v1.1 174 41) - (1 : Int32), v1))
set_option maxRecDepth 20000 in
theorem x_X8_stain {X : Nat × (Nat → Int32)} {v : rV} {r : Int32 × rV}   (h : f_X8_stain v = some r) : EvM mX8_stain 1 0 0 [.ref 174] (rZ X) v (rPI X r) := by
  refine evm_of (by decide +kernel) (fun G => Nat.le_of_ble_eq_true rfl) ?_
  show Ev mX8_stain 1 0 0 0 [(0, .ref 174)] [] (rZ X) v _
  unfold f_X8_stain at h
  refine e_aload_n dX8_stain_0 rfl ?_
  refine e_get (w := .int (v.1 174 41)) (j := 41) dX8_stain_1 k0_174 rc8 (by decide) wfX8_394 rfl ?_
  refine e_bipush (x := (6 : Int32)) dX8_stain_4 (by decide) ?_
  refine e_icmp_ne (tgt := 11) dX8_stain_6 (by decide) (fun c2 => ?_) (fun c2 => ?_)
  · rw [if_neg c2] at h
    refine e_aload_n dX8_stain_11 rfl ?_
    refine e_dup dX8_stain_12 rfl ?_
    refine e_get (w := .int (v.1 174 41)) (j := 41) dX8_stain_13 k0_174 rc8 (by decide) wfX8_394 rfl ?_
    refine e_iconst (x := (1 : Int32)) dX8_stain_16 (by decide) ?_
    refine e_iadd dX8_stain_17 ?_
    refine e_putI (j := 41) dX8_stain_18 k0_174 rc8 (by decide) wfX8_394 rfl rfl ?_
    obtain ⟨v1, ev1, h⟩ := vlet_ex h
    refine e_nameV ev1.symm ?_
    clear ev1
    refine e_aload_n dX8_stain_21 rfl ?_
    refine e_get (w := .int (v1.1 174 41)) (j := 41) dX8_stain_22 k0_174 rc8 (by decide) wfX8_394 rfl ?_
    refine e_iconst (x := (1 : Int32)) dX8_stain_25 (by decide) ?_
    refine e_isub dX8_stain_26 ?_
    obtain rfl := Option.some.inj h
    exact e_iret dX8_stain_27 rfl rfl ⟨rfl, rfl, rfl⟩
  · rw [if_pos c2] at h
    refine e_iconst (x := (-1 : Int32)) dX8_stain_9 (by decide) ?_
    obtain rfl := Option.some.inj h
    exact e_iret dX8_stain_10 rfl rfl ⟨rfl, rfl, rfl⟩
def f_X8_start (v : rV) (a1 : Int32) (a2 : Int32) (a3 : Int64) : Option (Int32 × rV) := if (f_X8_isLaw v a1) = true then
  (if (f_X8_areDrops v a2) = true then
  ((f_X8_gather v a2).bind fun p3 =>
  if p3.1 = true then
  ((f_X8_begin p3.2 a1 a3).bind fun p4 =>
  some (p4.1 187 288, p4))
else
  (some ((-1 : Int32), p3.2)))
else
  (some ((-1 : Int32), v)))
else
  (some ((-1 : Int32), v))
set_option maxRecDepth 20000 in
theorem x_X8_start {X : Nat × (Nat → Int32)} {v : rV} {r : Int32 × rV} {a1 : Int32} {a2 : Int32} {a3 : Int64}  (h : f_X8_start v a1 a2 a3 = some r) : EvM mX8_start 5 0 0 [.ref 174, .int a1, .int a2, .long a3] (rZ X) v (rPI X r) := by
  refine evm_of (by decide +kernel) (fun G => Nat.le_of_ble_eq_true rfl) ?_
  show Ev mX8_start 5 0 0 0 [(0, .ref 174), (1, .int a1), (2, .int a2), (3, .long a3)] [] (rZ X) v _
  unfold f_X8_start at h
  refine e_aload_n dX8_start_0 rfl ?_
  refine e_iload_n dX8_start_1 rfl ?_
  refine c_VZ (M' := mX8_isLaw) [.int a1] dX8_start_2 rfl wmX8_272 imX8_isLaw seX8_isLaw lkX8_isLaw k0_174 rc8 (Nat.le_of_ble_eq_true rfl) ((x_X8_isLaw ).mono (by omega)) ?_
  refine e_if_eq (tgt := 24) dX8_start_5 (by decide) (fun c7 => ?_) (fun c7 => ?_)
  · rw [if_neg (bI_n c7)] at h
    refine e_iconst (x := (-1 : Int32)) dX8_start_24 (by decide) ?_
    obtain rfl := Option.some.inj h
    exact e_iret dX8_start_25 rfl rfl ⟨rfl, rfl, rfl⟩
  · rw [if_pos (bI_p c7)] at h
    refine e_aload_n dX8_start_8 rfl ?_
    refine e_iload_n dX8_start_9 rfl ?_
    refine c_VZ (M' := mX8_areDrops) [.int a2] dX8_start_10 rfl wmX8_275 imX8_areDrops seX8_areDrops lkX8_areDrops k0_174 rc8 (Nat.le_of_ble_eq_true rfl) ((x_X8_areDrops ).mono (by omega)) ?_
    refine e_if_eq (tgt := 24) dX8_start_13 (by decide) (fun c6 => ?_) (fun c6 => ?_)
    · rw [if_neg (bI_n c6)] at h
      refine e_iconst (x := (-1 : Int32)) dX8_start_24 (by decide) ?_
      obtain rfl := Option.some.inj h
      exact e_iret dX8_start_25 rfl rfl ⟨rfl, rfl, rfl⟩
    · rw [if_pos (bI_p c6)] at h
      refine e_aload_n dX8_start_16 rfl ?_
      refine e_iload_n dX8_start_17 rfl ?_
      obtain ⟨p3, ep3, h⟩ := Option.bind_eq_some_iff.mp h
      refine c_VZ (M' := mX8_gather) [.int a2] dX8_start_18 rfl wmX8_278 imX8_gather seX8_gather lkX8_gather k0_174 rc8 (Nat.le_of_ble_eq_true rfl) ((x_X8_gather  ep3).mono (by omega)) ?_
      refine e_if_ne (tgt := 26) dX8_start_21 (by decide) (fun c5 => ?_) (fun c5 => ?_)
      · rw [if_pos (bI_p c5)] at h
        refine e_aload_n dX8_start_26 rfl ?_
        refine e_iload_n dX8_start_27 rfl ?_
        refine e_lload_n dX8_start_28 rfl ?_
        obtain ⟨p4, ep4, h⟩ := Option.bind_eq_some_iff.mp h
        refine c_VV (M' := mX8_begin) [.int a1, .long a3] dX8_start_29 rfl wmX8_281 imX8_begin seX8_begin lkX8_begin k0_174 rc8 (Nat.le_of_ble_eq_true rfl) ((x_X8_begin  ep4).mono (by omega)) ?_
        refine e_aload_n dX8_start_32 rfl ?_
        refine e_get (w := .ref 187) (j := 24) dX8_start_33 k0_174 rc8 (by decide) wfX8_50 (g0_174_24) ?_
        refine e_sipush (x := (288 : Int32)) dX8_start_36 (by decide) ?_
        refine e_ialdJ dX8_start_39 k0_187 (j := 288) (by decide) (by decide) (by decide) ?_
        obtain rfl := Option.some.inj h
        exact e_iret dX8_start_40 rfl rfl ⟨rfl, rfl, rfl⟩
      · rw [if_neg (bI_n c5)] at h
        refine e_iconst (x := (-1 : Int32)) dX8_start_24 (by decide) ?_
        obtain rfl := Option.some.inj h
        exact e_iret dX8_start_25 rfl rfl ⟨rfl, rfl, rfl⟩
def f_X8_steps (v : rV) (a1 : Int32) (a2 : Int32) (a3 : Int32) (a4 : Int64) (a6 : Int32) : Option (Int32 × rV) := if (f_X8_isStain v a1) = true then
  (if (f_X8_isLaw v a2) = true then
  (if (f_X8_isDrop v a3) = true then
  (if (f_X8_in a6 (0 : Int32) (1 : Int32)) = true then
  ((f_X8_putAside v).bind fun p5 =>
  (f_X8_nearestTick p5 a1 a2 a3 a4).bind fun p6 =>
  (f_X8_takeBack p6.2).bind fun p7 =>
  if a6 = 0 then
  (some (p6.1, p7))
else
  (some (p7.1 174 43, p7)))
else
  (some ((-1 : Int32), v)))
else
  (some ((-1 : Int32), v)))
else
  (some ((-1 : Int32), v)))
else
  (some ((-1 : Int32), v))
set_option maxRecDepth 20000 in
theorem x_X8_steps {X : Nat × (Nat → Int32)} {v : rV} {r : Int32 × rV} {a1 : Int32} {a2 : Int32} {a3 : Int32} {a4 : Int64} {a6 : Int32}  (h : f_X8_steps v a1 a2 a3 a4 a6 = some r) : EvM mX8_steps 10 0 0 [.ref 174, .int a1, .int a2, .int a3, .long a4, .int a6] (rZ X) v (rPI X r) := by
  refine evm_of (by decide +kernel) (fun G => Nat.le_of_ble_eq_true rfl) ?_
  show Ev mX8_steps 10 0 0 0 [(0, .ref 174), (1, .int a1), (2, .int a2), (3, .int a3), (4, .long a4), (6, .int a6)] [] (rZ X) v _
  unfold f_X8_steps at h
  refine e_aload_n dX8_steps_0 rfl ?_
  refine e_iload_n dX8_steps_1 rfl ?_
  refine c_VZ (M' := mX8_isStain) [.int a1] dX8_steps_2 rfl wmX8_397 imX8_isStain seX8_isStain lkX8_isStain k0_174 rc8 (Nat.le_of_ble_eq_true rfl) ((x_X8_isStain ).mono (by omega)) ?_
  refine e_if_eq (tgt := 34) dX8_steps_5 (by decide) (fun c12 => ?_) (fun c12 => ?_)
  · rw [if_neg (bI_n c12)] at h
    refine e_iconst (x := (-1 : Int32)) dX8_steps_34 (by decide) ?_
    obtain rfl := Option.some.inj h
    exact e_iret dX8_steps_35 rfl rfl ⟨rfl, rfl, rfl⟩
  · rw [if_pos (bI_p c12)] at h
    refine e_aload_n dX8_steps_8 rfl ?_
    refine e_iload_n dX8_steps_9 rfl ?_
    refine c_VZ (M' := mX8_isLaw) [.int a2] dX8_steps_10 rfl wmX8_272 imX8_isLaw seX8_isLaw lkX8_isLaw k0_174 rc8 (Nat.le_of_ble_eq_true rfl) ((x_X8_isLaw ).mono (by omega)) ?_
    refine e_if_eq (tgt := 34) dX8_steps_13 (by decide) (fun c11 => ?_) (fun c11 => ?_)
    · rw [if_neg (bI_n c11)] at h
      refine e_iconst (x := (-1 : Int32)) dX8_steps_34 (by decide) ?_
      obtain rfl := Option.some.inj h
      exact e_iret dX8_steps_35 rfl rfl ⟨rfl, rfl, rfl⟩
    · rw [if_pos (bI_p c11)] at h
      refine e_aload_n dX8_steps_16 rfl ?_
      refine e_iload_n dX8_steps_17 rfl ?_
      refine c_VZ (M' := mX8_isDrop) [.int a3] dX8_steps_18 rfl wmX8_244 imX8_isDrop seX8_isDrop lkX8_isDrop k0_174 rc8 (Nat.le_of_ble_eq_true rfl) ((x_X8_isDrop ).mono (by omega)) ?_
      refine e_if_eq (tgt := 34) dX8_steps_21 (by decide) (fun c10 => ?_) (fun c10 => ?_)
      · rw [if_neg (bI_n c10)] at h
        refine e_iconst (x := (-1 : Int32)) dX8_steps_34 (by decide) ?_
        obtain rfl := Option.some.inj h
        exact e_iret dX8_steps_35 rfl rfl ⟨rfl, rfl, rfl⟩
      · rw [if_pos (bI_p c10)] at h
        refine e_iload dX8_steps_24 rfl ?_
        refine e_iconst (x := (0 : Int32)) dX8_steps_26 (by decide) ?_
        refine e_iconst (x := (1 : Int32)) dX8_steps_27 (by decide) ?_
        refine c_SZ (M' := mX8_in) [.int a6, .int (0 : Int32), .int (1 : Int32)] dX8_steps_28 rfl wmX8_216 stX8_in lkX8_in (Nat.le_of_ble_eq_true rfl) ((x_X8_in ).mono (by omega)) ?_
        refine e_if_ne (tgt := 36) dX8_steps_31 (by decide) (fun c9 => ?_) (fun c9 => ?_)
        · rw [if_pos (bI_p c9)] at h
          refine e_aload_n dX8_steps_36 rfl ?_
          obtain ⟨p5, ep5, h⟩ := Option.bind_eq_some_iff.mp h
          refine c_VV (M' := mX8_putAside) [] dX8_steps_37 rfl wmX8_384 imX8_putAside seX8_putAside lkX8_putAside k0_174 rc8 (Nat.le_of_ble_eq_true rfl) ((x_X8_putAside  ep5).mono (by omega)) ?_
          refine e_aload_n dX8_steps_40 rfl ?_
          refine e_iload_n dX8_steps_41 rfl ?_
          refine e_iload_n dX8_steps_42 rfl ?_
          refine e_iload_n dX8_steps_43 rfl ?_
          refine e_lload dX8_steps_44 rfl ?_
          obtain ⟨p6, ep6, h⟩ := Option.bind_eq_some_iff.mp h
          refine c_VI (M' := mX8_nearestTick) [.int a1, .int a2, .int a3, .long a4] dX8_steps_46 rfl wmX8_433 imX8_nearestTick seX8_nearestTick lkX8_nearestTick k0_174 rc8 (Nat.le_of_ble_eq_true rfl) ((x_X8_nearestTick  ep6).mono (by omega)) ?_
          refine e_istore (lv' := [(7, .int p6.1), (0, .ref 174), (1, .int a1), (2, .int a2), (3, .int a3), (4, .long a4), (6, .int a6)]) dX8_steps_49 (by decide) rfl ?_
          refine e_aload_n dX8_steps_51 rfl ?_
          obtain ⟨p7, ep7, h⟩ := Option.bind_eq_some_iff.mp h
          refine c_VV (M' := mX8_takeBack) [] dX8_steps_52 rfl wmX8_391 imX8_takeBack seX8_takeBack lkX8_takeBack k0_174 rc8 (Nat.le_of_ble_eq_true rfl) ((x_X8_takeBack  ep7).mono (by omega)) ?_
          refine e_iload dX8_steps_55 rfl ?_
          refine e_if_ne (tgt := 65) dX8_steps_57 (by decide) (fun c8 => ?_) (fun c8 => ?_)
          · rw [if_neg c8] at h
            refine e_aload_n dX8_steps_65 rfl ?_
            refine e_get (w := .int (p7.1 174 43)) (j := 43) dX8_steps_66 k0_174 rc8 (by decide) wfX8_430 rfl ?_
            obtain rfl := Option.some.inj h
            exact e_iret dX8_steps_69 rfl rfl ⟨rfl, rfl, rfl⟩
          · rw [if_pos c8] at h
            refine e_iload dX8_steps_60 rfl ?_
            refine e_goto (tgt := 69) dX8_steps_62 (by decide) ?_
            obtain rfl := Option.some.inj h
            exact e_iret dX8_steps_69 rfl rfl ⟨rfl, rfl, rfl⟩
        · rw [if_neg (bI_n c9)] at h
          refine e_iconst (x := (-1 : Int32)) dX8_steps_34 (by decide) ?_
          obtain rfl := Option.some.inj h
          exact e_iret dX8_steps_35 rfl rfl ⟨rfl, rfl, rfl⟩
def f_X8_text_95   (v : rV) (a1 : Int32) : Option (Int32 × rV) := if a1 = (2 : Int32) then
  (if (12 : Int32) ≤ (v.1 174 21) then
  (some ((-1 : Int32), v))
else
  ((f_X8_readDrop v (v.1 174 21)).bind fun p1 =>
  if p1.1 = (-1 : Int32) then
  (vlet (rI p1.2 174 2 (0 : Int32)) fun v2 =>
  if ¬ (v2.1 174 21) < 0 ∧ (v2.1 174 21).toNatClampNeg < 12 then
  (vlet (rI v2 186 ((v2.1 174 21).toNatClampNeg) (1 : Int32)) fun v4 =>
  vlet (rI v4 174 21 ((v4.1 174 21) + (1 : Int32))) fun v5 =>
  some ((v5.1 174 21) - (1 : Int32), v5))
else none)
else
  (some ((-1 : Int32), p1.2))))
else
  (some ((-1 : Int32), v))
def f_X8_text_46   (v : rV) (a1 : Int32) : Option (Int32 × rV) := if a1 = (1 : Int32) then
  (if (4 : Int32) ≤ (v.1 174 14) then
  (f_X8_text_95  v a1)
else
  ((f_X8_readWant v ((4 : Int32) + (v.1 174 14))).bind fun p9 =>
  if p9.1 = (-1 : Int32) then
  (vlet (rI p9.2 174 2 (0 : Int32)) fun v10 =>
  vlet (rI v10 174 14 ((v10.1 174 14) + (1 : Int32))) fun v11 =>
  some ((v11.1 174 14) - (1 : Int32), v11))
else
  (f_X8_text_95  p9.2 a1)))
else
  (f_X8_text_95  v a1)
def f_X8_text (v : rV) (a1 : Int32) : Option (Int32 × rV) := if a1 = 0 then
  (if (4 : Int32) ≤ (v.1 174 13) then
  (f_X8_text_46  v a1)
else
  ((f_X8_readLaw v (v.1 174 13)).bind fun p15 =>
  if p15.1 = (-1 : Int32) then
  (vlet (rI p15.2 174 2 (0 : Int32)) fun v16 =>
  vlet (rI v16 174 13 ((v16.1 174 13) + (1 : Int32))) fun v17 =>
  some ((v17.1 174 13) - (1 : Int32), v17))
else
  (f_X8_text_46  p15.2 a1)))
else
  (f_X8_text_46  v a1)
set_option maxRecDepth 20000 in
theorem b_X8_text_95 {X : Nat × (Nat → Int32)} {r : Int32 × rV} {v : rV}   {a1 : Int32}  (h : f_X8_text_95  v a1 = some r) : Ev mX8_text 87 0 0 95 [(0, .ref 174), (1, .int a1)] [] (rZ X) v (rPI X r) := by
  unfold f_X8_text_95 at h
  refine e_iload_n dX8_text_95 rfl ?_
  refine e_iconst (x := (2 : Int32)) dX8_text_96 (by decide) ?_
  refine e_icmp_ne (tgt := 153) dX8_text_97 (by decide) (fun c8 => ?_) (fun c8 => ?_)
  · rw [if_neg c8] at h
    refine e_iconst (x := (-1 : Int32)) dX8_text_153 (by decide) ?_
    obtain rfl := Option.some.inj h
    exact e_iret dX8_text_154 rfl rfl ⟨rfl, rfl, rfl⟩
  · rw [if_pos c8] at h
    refine e_aload_n dX8_text_100 rfl ?_
    refine e_get (w := .int (v.1 174 21)) (j := 21) dX8_text_101 k0_174 rc8 (by decide) wfX8_241 rfl ?_
    refine e_bipush (x := (12 : Int32)) dX8_text_104 (by decide) ?_
    refine e_icmp_ge (tgt := 153) dX8_text_106 (by decide) (fun c7 => ?_) (fun c7 => ?_)
    · rw [if_pos c7] at h
      refine e_iconst (x := (-1 : Int32)) dX8_text_153 (by decide) ?_
      obtain rfl := Option.some.inj h
      exact e_iret dX8_text_154 rfl rfl ⟨rfl, rfl, rfl⟩
    · rw [if_neg c7] at h
      refine e_aload_n dX8_text_109 rfl ?_
      refine e_aload_n dX8_text_110 rfl ?_
      refine e_get (w := .int (v.1 174 21)) (j := 21) dX8_text_111 k0_174 rc8 (by decide) wfX8_241 rfl ?_
      obtain ⟨p1, ep1, h⟩ := Option.bind_eq_some_iff.mp h
      refine c_VI (M' := mX8_readDrop) [.int (v.1 174 21)] dX8_text_114 rfl wmX8_232 imX8_readDrop seX8_readDrop lkX8_readDrop k0_174 rc8 (Nat.le_of_ble_eq_true rfl) ((x_X8_readDrop  ep1).mono (by omega)) ?_
      refine e_iconst (x := (-1 : Int32)) dX8_text_117 (by decide) ?_
      refine e_icmp_ne (tgt := 153) dX8_text_118 (by decide) (fun c6 => ?_) (fun c6 => ?_)
      · rw [if_neg c6] at h
        refine e_iconst (x := (-1 : Int32)) dX8_text_153 (by decide) ?_
        obtain rfl := Option.some.inj h
        exact e_iret dX8_text_154 rfl rfl ⟨rfl, rfl, rfl⟩
      · rw [if_pos c6] at h
        refine e_aload_n dX8_text_121 rfl ?_
        refine e_iconst (x := (0 : Int32)) dX8_text_122 (by decide) ?_
        refine e_putI (j := 2) dX8_text_123 k0_174 rc8 (by decide) wfX8_87 rfl rfl ?_
        obtain ⟨v2, ev2, h⟩ := vlet_ex h
        refine e_nameV ev2.symm ?_
        clear ev2
        refine e_aload_n dX8_text_126 rfl ?_
        refine e_get (w := .ref 186) (j := 20) dX8_text_127 k0_174 rc8 (by decide) wfX8_43 (g0_174_20) ?_
        refine e_aload_n dX8_text_130 rfl ?_
        refine e_get (w := .int (v2.1 174 21)) (j := 21) dX8_text_131 k0_174 rc8 (by decide) wfX8_241 rfl ?_
        refine e_iconst (x := (1 : Int32)) dX8_text_134 (by decide) ?_
        obtain ⟨c3, h⟩ := grd h
        refine e_iastJ dX8_text_135 k0_186 rfl c3.2 c3.1 ?_
        obtain ⟨v4, ev4, h⟩ := vlet_ex h
        refine e_nameV ev4.symm ?_
        clear ev4
        refine e_aload_n dX8_text_136 rfl ?_
        refine e_dup dX8_text_137 rfl ?_
        refine e_get (w := .int (v4.1 174 21)) (j := 21) dX8_text_138 k0_174 rc8 (by decide) wfX8_241 rfl ?_
        refine e_iconst (x := (1 : Int32)) dX8_text_141 (by decide) ?_
        refine e_iadd dX8_text_142 ?_
        refine e_putI (j := 21) dX8_text_143 k0_174 rc8 (by decide) wfX8_241 rfl rfl ?_
        obtain ⟨v5, ev5, h⟩ := vlet_ex h
        refine e_nameV ev5.symm ?_
        clear ev5
        refine e_aload_n dX8_text_146 rfl ?_
        refine e_get (w := .int (v5.1 174 21)) (j := 21) dX8_text_147 k0_174 rc8 (by decide) wfX8_241 rfl ?_
        refine e_iconst (x := (1 : Int32)) dX8_text_150 (by decide) ?_
        refine e_isub dX8_text_151 ?_
        obtain rfl := Option.some.inj h
        exact e_iret dX8_text_152 rfl rfl ⟨rfl, rfl, rfl⟩
set_option maxRecDepth 20000 in
theorem b_X8_text_46 {X : Nat × (Nat → Int32)} {r : Int32 × rV} {v : rV}   {a1 : Int32}  (h : f_X8_text_46  v a1 = some r) : Ev mX8_text 87 0 0 46 [(0, .ref 174), (1, .int a1)] [] (rZ X) v (rPI X r) := by
  unfold f_X8_text_46 at h
  refine e_iload_n dX8_text_46 rfl ?_
  refine e_iconst (x := (1 : Int32)) dX8_text_47 (by decide) ?_
  refine e_icmp_ne (tgt := 95) dX8_text_48 (by decide) (fun c14 => ?_) (fun c14 => ?_)
  · rw [if_neg c14] at h
    exact b_X8_text_95  h
  · rw [if_pos c14] at h
    refine e_aload_n dX8_text_51 rfl ?_
    refine e_get (w := .int (v.1 174 14)) (j := 14) dX8_text_52 k0_174 rc8 (by decide) wfX8_238 rfl ?_
    refine e_iconst (x := (4 : Int32)) dX8_text_55 (by decide) ?_
    refine e_icmp_ge (tgt := 95) dX8_text_56 (by decide) (fun c13 => ?_) (fun c13 => ?_)
    · rw [if_pos c13] at h
      exact b_X8_text_95  h
    · rw [if_neg c13] at h
      refine e_aload_n dX8_text_59 rfl ?_
      refine e_iconst (x := (4 : Int32)) dX8_text_60 (by decide) ?_
      refine e_aload_n dX8_text_61 rfl ?_
      refine e_get (w := .int (v.1 174 14)) (j := 14) dX8_text_62 k0_174 rc8 (by decide) wfX8_238 rfl ?_
      refine e_iadd dX8_text_65 ?_
      obtain ⟨p9, ep9, h⟩ := Option.bind_eq_some_iff.mp h
      refine c_VI (M' := mX8_readWant) [.int ((4 : Int32) + (v.1 174 14))] dX8_text_66 rfl wmX8_229 imX8_readWant seX8_readWant lkX8_readWant k0_174 rc8 (Nat.le_of_ble_eq_true rfl) ((x_X8_readWant  ep9).mono (by omega)) ?_
      refine e_iconst (x := (-1 : Int32)) dX8_text_69 (by decide) ?_
      refine e_icmp_ne (tgt := 95) dX8_text_70 (by decide) (fun c12 => ?_) (fun c12 => ?_)
      · rw [if_neg c12] at h
        exact b_X8_text_95  h
      · rw [if_pos c12] at h
        refine e_aload_n dX8_text_73 rfl ?_
        refine e_iconst (x := (0 : Int32)) dX8_text_74 (by decide) ?_
        refine e_putI (j := 2) dX8_text_75 k0_174 rc8 (by decide) wfX8_87 rfl rfl ?_
        obtain ⟨v10, ev10, h⟩ := vlet_ex h
        refine e_nameV ev10.symm ?_
        clear ev10
        refine e_aload_n dX8_text_78 rfl ?_
        refine e_dup dX8_text_79 rfl ?_
        refine e_get (w := .int (v10.1 174 14)) (j := 14) dX8_text_80 k0_174 rc8 (by decide) wfX8_238 rfl ?_
        refine e_iconst (x := (1 : Int32)) dX8_text_83 (by decide) ?_
        refine e_iadd dX8_text_84 ?_
        refine e_putI (j := 14) dX8_text_85 k0_174 rc8 (by decide) wfX8_238 rfl rfl ?_
        obtain ⟨v11, ev11, h⟩ := vlet_ex h
        refine e_nameV ev11.symm ?_
        clear ev11
        refine e_aload_n dX8_text_88 rfl ?_
        refine e_get (w := .int (v11.1 174 14)) (j := 14) dX8_text_89 k0_174 rc8 (by decide) wfX8_238 rfl ?_
        refine e_iconst (x := (1 : Int32)) dX8_text_92 (by decide) ?_
        refine e_isub dX8_text_93 ?_
        obtain rfl := Option.some.inj h
        exact e_iret dX8_text_94 rfl rfl ⟨rfl, rfl, rfl⟩
set_option maxRecDepth 20000 in
theorem x_X8_text {X : Nat × (Nat → Int32)} {v : rV} {r : Int32 × rV} {a1 : Int32}  (h : f_X8_text v a1 = some r) : EvM mX8_text 87 0 0 [.ref 174, .int a1] (rZ X) v (rPI X r) := by
  refine evm_of (by decide +kernel) (fun G => Nat.le_of_ble_eq_true rfl) ?_
  show Ev mX8_text 87 0 0 0 [(0, .ref 174), (1, .int a1)] [] (rZ X) v _
  unfold f_X8_text at h
  refine e_iload_n dX8_text_0 rfl ?_
  refine e_if_ne (tgt := 46) dX8_text_1 (by decide) (fun c20 => ?_) (fun c20 => ?_)
  · rw [if_neg c20] at h
    exact b_X8_text_46  h
  · rw [if_pos c20] at h
    refine e_aload_n dX8_text_4 rfl ?_
    refine e_get (w := .int (v.1 174 13)) (j := 13) dX8_text_5 k0_174 rc8 (by decide) wfX8_235 rfl ?_
    refine e_iconst (x := (4 : Int32)) dX8_text_8 (by decide) ?_
    refine e_icmp_ge (tgt := 46) dX8_text_9 (by decide) (fun c19 => ?_) (fun c19 => ?_)
    · rw [if_pos c19] at h
      exact b_X8_text_46  h
    · rw [if_neg c19] at h
      refine e_aload_n dX8_text_12 rfl ?_
      refine e_aload_n dX8_text_13 rfl ?_
      refine e_get (w := .int (v.1 174 13)) (j := 13) dX8_text_14 k0_174 rc8 (by decide) wfX8_235 rfl ?_
      obtain ⟨p15, ep15, h⟩ := Option.bind_eq_some_iff.mp h
      refine c_VI (M' := mX8_readLaw) [.int (v.1 174 13)] dX8_text_17 rfl wmX8_226 imX8_readLaw seX8_readLaw lkX8_readLaw k0_174 rc8 (Nat.le_of_ble_eq_true rfl) ((x_X8_readLaw  ep15).mono (by omega)) ?_
      refine e_iconst (x := (-1 : Int32)) dX8_text_20 (by decide) ?_
      refine e_icmp_ne (tgt := 46) dX8_text_21 (by decide) (fun c18 => ?_) (fun c18 => ?_)
      · rw [if_neg c18] at h
        exact b_X8_text_46  h
      · rw [if_pos c18] at h
        refine e_aload_n dX8_text_24 rfl ?_
        refine e_iconst (x := (0 : Int32)) dX8_text_25 (by decide) ?_
        refine e_putI (j := 2) dX8_text_26 k0_174 rc8 (by decide) wfX8_87 rfl rfl ?_
        obtain ⟨v16, ev16, h⟩ := vlet_ex h
        refine e_nameV ev16.symm ?_
        clear ev16
        refine e_aload_n dX8_text_29 rfl ?_
        refine e_dup dX8_text_30 rfl ?_
        refine e_get (w := .int (v16.1 174 13)) (j := 13) dX8_text_31 k0_174 rc8 (by decide) wfX8_235 rfl ?_
        refine e_iconst (x := (1 : Int32)) dX8_text_34 (by decide) ?_
        refine e_iadd dX8_text_35 ?_
        refine e_putI (j := 13) dX8_text_36 k0_174 rc8 (by decide) wfX8_235 rfl rfl ?_
        obtain ⟨v17, ev17, h⟩ := vlet_ex h
        refine e_nameV ev17.symm ?_
        clear ev17
        refine e_aload_n dX8_text_39 rfl ?_
        refine e_get (w := .int (v17.1 174 13)) (j := 13) dX8_text_40 k0_174 rc8 (by decide) wfX8_235 rfl ?_
        refine e_iconst (x := (1 : Int32)) dX8_text_43 (by decide) ?_
        refine e_isub dX8_text_44 ?_
        obtain rfl := Option.some.inj h
        exact e_iret dX8_text_45 rfl rfl ⟨rfl, rfl, rfl⟩
def f_X8_thrown (v : rV)  : Int32 := v.1 174 0
set_option maxRecDepth 20000 in
theorem x_X8_thrown {X : Nat × (Nat → Int32)} {v : rV}   : EvM mX8_thrown 1 0 0 [.ref 174] (rZ X) v (rPI X ((f_X8_thrown v), v)) := by
  refine evm_of (by decide +kernel) (fun G => Nat.le_of_ble_eq_true rfl) ?_
  show Ev mX8_thrown 1 0 0 0 [(0, .ref 174)] [] (rZ X) v _
  generalize h : f_X8_thrown v = r
  unfold f_X8_thrown at h
  refine e_aload_n dX8_thrown_0 rfl ?_
  refine e_get (w := .int (v.1 174 0)) (j := 0) dX8_thrown_1 k0_174 rc8 (by decide) wfX8_80 rfl ?_
  subst h
  exact e_iret dX8_thrown_4 rfl rfl ⟨rfl, rfl, rfl⟩
def f_X8_tick (v : rV) (a1 : Int32) : Option (Int32 × rV) := if (v.1 187 295) = (1 : Int32) then
  (if (f_X8_in a1 (1 : Int32) (60 : Int32)) = true then
  ((f_X8_run v a1).bind fun p2 =>
  some (p2.1, p2.2))
else
  (some ((-1 : Int32), v)))
else
  (some ((-1 : Int32), v))
set_option maxRecDepth 20000 in
theorem x_X8_tick {X : Nat × (Nat → Int32)} {v : rV} {r : Int32 × rV} {a1 : Int32}  (h : f_X8_tick v a1 = some r) : EvM mX8_tick 9 0 0 [.ref 174, .int a1] (rZ X) v (rPI X r) := by
  refine evm_of (by decide +kernel) (fun G => Nat.le_of_ble_eq_true rfl) ?_
  show Ev mX8_tick 9 0 0 0 [(0, .ref 174), (1, .int a1)] [] (rZ X) v _
  unfold f_X8_tick at h
  refine e_aload_n dX8_tick_0 rfl ?_
  refine e_get (w := .ref 187) (j := 24) dX8_tick_1 k0_174 rc8 (by decide) wfX8_50 (g0_174_24) ?_
  refine e_sipush (x := (295 : Int32)) dX8_tick_4 (by decide) ?_
  refine e_ialdJ dX8_tick_7 k0_187 (j := 295) (by decide) (by decide) (by decide) ?_
  refine e_iconst (x := (1 : Int32)) dX8_tick_8 (by decide) ?_
  refine e_icmp_ne (tgt := 30) dX8_tick_9 (by decide) (fun c4 => ?_) (fun c4 => ?_)
  · rw [if_neg c4] at h
    refine e_iconst (x := (-1 : Int32)) dX8_tick_30 (by decide) ?_
    obtain rfl := Option.some.inj h
    exact e_iret dX8_tick_31 rfl rfl ⟨rfl, rfl, rfl⟩
  · rw [if_pos c4] at h
    refine e_iload_n dX8_tick_12 rfl ?_
    refine e_iconst (x := (1 : Int32)) dX8_tick_13 (by decide) ?_
    refine e_bipush (x := (60 : Int32)) dX8_tick_14 (by decide) ?_
    refine c_SZ (M' := mX8_in) [.int a1, .int (1 : Int32), .int (60 : Int32)] dX8_tick_16 rfl wmX8_216 stX8_in lkX8_in (Nat.le_of_ble_eq_true rfl) ((x_X8_in ).mono (by omega)) ?_
    refine e_if_eq (tgt := 30) dX8_tick_19 (by decide) (fun c3 => ?_) (fun c3 => ?_)
    · rw [if_neg (bI_n c3)] at h
      refine e_iconst (x := (-1 : Int32)) dX8_tick_30 (by decide) ?_
      obtain rfl := Option.some.inj h
      exact e_iret dX8_tick_31 rfl rfl ⟨rfl, rfl, rfl⟩
    · rw [if_pos (bI_p c3)] at h
      refine e_aload_n dX8_tick_22 rfl ?_
      refine e_iload_n dX8_tick_23 rfl ?_
      obtain ⟨p2, ep2, h⟩ := Option.bind_eq_some_iff.mp h
      refine c_VI (M' := mX8_run) [.int a1] dX8_tick_24 rfl wmX8_350 imX8_run seX8_run lkX8_run k0_174 rc8 (Nat.le_of_ble_eq_true rfl) ((x_X8_run  ep2).mono (by omega)) ?_
      refine e_goto (tgt := 31) dX8_tick_27 (by decide) ?_
      obtain rfl := Option.some.inj h
      exact e_iret dX8_tick_31 rfl rfl ⟨rfl, rfl, rfl⟩
def f_X8_tried_82   (v : rV) (s0 : Int32) : Option (Int32 × rV) := (f_X8_takeBack v).bind fun p9 =>
  some (s0, p9)
def f_X8_tried (v : rV) (a1 : Int32) (a2 : Int32) (a3 : Int64) (a5 : Int32) (a6 : Int32) : Option (Int32 × rV) := if (f_X8_isLaw v a1) = true then
  (if (f_X8_areDrops v a2) = true then
  ((f_X8_gather v a2).bind fun p3 =>
  if p3.1 = true then
  (if (f_X8_areTicks a5) = true then
  (if (f_X8_in a6 (0 : Int32) (32 : Int32)) = true then
  ((f_X8_putAside p3.2).bind fun p6 =>
  (f_X8_tryOut p6 a1 a3 a5).bind fun p7 =>
  if a6 ≤ (8 : Int32) then
  ((f_X8_about p7 a6).bind fun p8 =>
  f_X8_tried_82  p7 p8)
else
  ((f_X8_laidIn p7 (a6 - (9 : Int32))).bind fun p10 =>
  f_X8_tried_82  p7 p10))
else
  (some ((-1 : Int32), p3.2)))
else
  (some ((-1 : Int32), p3.2)))
else
  (some ((-1 : Int32), p3.2)))
else
  (some ((-1 : Int32), v)))
else
  (some ((-1 : Int32), v))
set_option maxRecDepth 20000 in
theorem b_X8_tried_82 {X : Nat × (Nat → Int32)} {r : Int32 × rV} {v : rV}   {s0 : Int32}  (h : f_X8_tried_82  v s0 = some r) : Ev mX8_tried 10 0 0 82 [(0, .ref 174)] [.int s0] (rZ X) v (rPI X r) := by
  unfold f_X8_tried_82 at h
  refine e_istore (lv' := [(7, .int s0), (0, .ref 174)]) dX8_tried_82 (by decide) rfl ?_
  refine e_aload_n dX8_tried_84 rfl ?_
  obtain ⟨p9, ep9, h⟩ := Option.bind_eq_some_iff.mp h
  refine c_VV (M' := mX8_takeBack) [] dX8_tried_85 rfl wmX8_391 imX8_takeBack seX8_takeBack lkX8_takeBack k0_174 rc8 (Nat.le_of_ble_eq_true rfl) ((x_X8_takeBack  ep9).mono (by omega)) ?_
  refine e_iload dX8_tried_88 rfl ?_
  obtain rfl := Option.some.inj h
  exact e_iret dX8_tried_90 rfl rfl ⟨rfl, rfl, rfl⟩
set_option maxRecDepth 20000 in
theorem x_X8_tried {X : Nat × (Nat → Int32)} {v : rV} {r : Int32 × rV} {a1 : Int32} {a2 : Int32} {a3 : Int64} {a5 : Int32} {a6 : Int32}  (h : f_X8_tried v a1 a2 a3 a5 a6 = some r) : EvM mX8_tried 10 0 0 [.ref 174, .int a1, .int a2, .long a3, .int a5, .int a6] (rZ X) v (rPI X r) := by
  refine evm_of (by decide +kernel) (fun G => Nat.le_of_ble_eq_true rfl) ?_
  show Ev mX8_tried 10 0 0 0 [(0, .ref 174), (1, .int a1), (2, .int a2), (3, .long a3), (5, .int a5), (6, .int a6)] [] (rZ X) v _
  unfold f_X8_tried at h
  refine e_aload_n dX8_tried_0 rfl ?_
  refine e_iload_n dX8_tried_1 rfl ?_
  refine c_VZ (M' := mX8_isLaw) [.int a1] dX8_tried_2 rfl wmX8_272 imX8_isLaw seX8_isLaw lkX8_isLaw k0_174 rc8 (Nat.le_of_ble_eq_true rfl) ((x_X8_isLaw ).mono (by omega)) ?_
  refine e_if_eq (tgt := 43) dX8_tried_5 (by decide) (fun c16 => ?_) (fun c16 => ?_)
  · rw [if_neg (bI_n c16)] at h
    refine e_iconst (x := (-1 : Int32)) dX8_tried_43 (by decide) ?_
    obtain rfl := Option.some.inj h
    exact e_iret dX8_tried_44 rfl rfl ⟨rfl, rfl, rfl⟩
  · rw [if_pos (bI_p c16)] at h
    refine e_aload_n dX8_tried_8 rfl ?_
    refine e_iload_n dX8_tried_9 rfl ?_
    refine c_VZ (M' := mX8_areDrops) [.int a2] dX8_tried_10 rfl wmX8_275 imX8_areDrops seX8_areDrops lkX8_areDrops k0_174 rc8 (Nat.le_of_ble_eq_true rfl) ((x_X8_areDrops ).mono (by omega)) ?_
    refine e_if_eq (tgt := 43) dX8_tried_13 (by decide) (fun c15 => ?_) (fun c15 => ?_)
    · rw [if_neg (bI_n c15)] at h
      refine e_iconst (x := (-1 : Int32)) dX8_tried_43 (by decide) ?_
      obtain rfl := Option.some.inj h
      exact e_iret dX8_tried_44 rfl rfl ⟨rfl, rfl, rfl⟩
    · rw [if_pos (bI_p c15)] at h
      refine e_aload_n dX8_tried_16 rfl ?_
      refine e_iload_n dX8_tried_17 rfl ?_
      obtain ⟨p3, ep3, h⟩ := Option.bind_eq_some_iff.mp h
      refine c_VZ (M' := mX8_gather) [.int a2] dX8_tried_18 rfl wmX8_278 imX8_gather seX8_gather lkX8_gather k0_174 rc8 (Nat.le_of_ble_eq_true rfl) ((x_X8_gather  ep3).mono (by omega)) ?_
      refine e_if_eq (tgt := 43) dX8_tried_21 (by decide) (fun c14 => ?_) (fun c14 => ?_)
      · rw [if_neg (bI_n c14)] at h
        refine e_iconst (x := (-1 : Int32)) dX8_tried_43 (by decide) ?_
        obtain rfl := Option.some.inj h
        exact e_iret dX8_tried_44 rfl rfl ⟨rfl, rfl, rfl⟩
      · rw [if_pos (bI_p c14)] at h
        refine e_iload dX8_tried_24 rfl ?_
        refine c_SZ (M' := mX8_areTicks) [.int a5] dX8_tried_26 rfl wmX8_381 stX8_areTicks lkX8_areTicks (Nat.le_of_ble_eq_true rfl) ((x_X8_areTicks ).mono (by omega)) ?_
        refine e_if_eq (tgt := 43) dX8_tried_29 (by decide) (fun c13 => ?_) (fun c13 => ?_)
        · rw [if_neg (bI_n c13)] at h
          refine e_iconst (x := (-1 : Int32)) dX8_tried_43 (by decide) ?_
          obtain rfl := Option.some.inj h
          exact e_iret dX8_tried_44 rfl rfl ⟨rfl, rfl, rfl⟩
        · rw [if_pos (bI_p c13)] at h
          refine e_iload dX8_tried_32 rfl ?_
          refine e_iconst (x := (0 : Int32)) dX8_tried_34 (by decide) ?_
          refine e_bipush (x := (32 : Int32)) dX8_tried_35 (by decide) ?_
          refine c_SZ (M' := mX8_in) [.int a6, .int (0 : Int32), .int (32 : Int32)] dX8_tried_37 rfl wmX8_216 stX8_in lkX8_in (Nat.le_of_ble_eq_true rfl) ((x_X8_in ).mono (by omega)) ?_
          refine e_if_ne (tgt := 45) dX8_tried_40 (by decide) (fun c12 => ?_) (fun c12 => ?_)
          · rw [if_pos (bI_p c12)] at h
            refine e_aload_n dX8_tried_45 rfl ?_
            obtain ⟨p6, ep6, h⟩ := Option.bind_eq_some_iff.mp h
            refine c_VV (M' := mX8_putAside) [] dX8_tried_46 rfl wmX8_384 imX8_putAside seX8_putAside lkX8_putAside k0_174 rc8 (Nat.le_of_ble_eq_true rfl) ((x_X8_putAside  ep6).mono (by omega)) ?_
            refine e_aload_n dX8_tried_49 rfl ?_
            refine e_iload_n dX8_tried_50 rfl ?_
            refine e_lload_n dX8_tried_51 rfl ?_
            refine e_iload dX8_tried_52 rfl ?_
            obtain ⟨p7, ep7, h⟩ := Option.bind_eq_some_iff.mp h
            refine c_VV (M' := mX8_tryOut) [.int a1, .long a3, .int a5] dX8_tried_54 rfl wmX8_387 imX8_tryOut seX8_tryOut lkX8_tryOut k0_174 rc8 (Nat.le_of_ble_eq_true rfl) ((x_X8_tryOut  ep7).mono (by omega)) ?_
            refine e_iload dX8_tried_57 rfl ?_
            refine e_bipush (x := (8 : Int32)) dX8_tried_59 (by decide) ?_
            refine e_icmp_le (tgt := 76) dX8_tried_61 (by decide) (fun c11 => ?_) (fun c11 => ?_)
            · rw [if_pos c11] at h
              refine e_aload_n dX8_tried_76 rfl ?_
              refine e_iload dX8_tried_77 rfl ?_
              obtain ⟨p8, ep8, h⟩ := Option.bind_eq_some_iff.mp h
              refine c_VI (M' := mX8_about) [.int a6] dX8_tried_79 rfl wmX8_372 imX8_about seX8_about lkX8_about k0_174 rc8 (Nat.le_of_ble_eq_true rfl) ((x_X8_about  ep8).mono (by omega)) ?_
              refine e_sub [0] rfl ?_
              exact b_X8_tried_82  h
            · rw [if_neg c11] at h
              refine e_aload_n dX8_tried_64 rfl ?_
              refine e_iload dX8_tried_65 rfl ?_
              refine e_bipush (x := (9 : Int32)) dX8_tried_67 (by decide) ?_
              refine e_isub dX8_tried_69 ?_
              obtain ⟨p10, ep10, h⟩ := Option.bind_eq_some_iff.mp h
              refine c_VI (M' := mX8_laidIn) [.int (a6 - (9 : Int32))] dX8_tried_70 rfl wmX8_357 imX8_laidIn seX8_laidIn lkX8_laidIn k0_174 rc8 (Nat.le_of_ble_eq_true rfl) ((x_X8_laidIn  ep10).mono (by omega)) ?_
              refine e_goto (tgt := 82) dX8_tried_73 (by decide) ?_
              refine e_sub [0] rfl ?_
              exact b_X8_tried_82  h
          · rw [if_neg (bI_n c12)] at h
            refine e_iconst (x := (-1 : Int32)) dX8_tried_43 (by decide) ?_
            obtain rfl := Option.some.inj h
            exact e_iret dX8_tried_44 rfl rfl ⟨rfl, rfl, rfl⟩
def f_X8_turned_68 (v : rV) (q23 : Int32 → Int32 → Int32 → Int32 → Option (Int32)) (a1 : Int32) (a2 : Int32) (a4 : Int32) (s0 : Int32) (s1 : Int32) : Option (Int32) := vlet (s1 + s0 : Int32) fun x5 =>
  vlet (a4 + (1 : Int32)) fun x6 =>
  q23 a1 a2 x5 x6
def f_X8_turned_23 (v : rV)  : Nat → Int32 → Int32 → Int32 → Int32 → Option (Int32)
  | 0, _, _, _, _ => none
  | n + 1, a1, a2, a3, a4 => if (24 : Int32) ≤ a4 then
  (some a3)
else
  (if ¬ (((24 : Int32) * a1) + a4) < 0 ∧ (((24 : Int32) * a1) + a4).toNatClampNeg < 144 then
  (if ¬ (((((24 : Int32) * a2) + (24 : Int32)) - (1 : Int32)) - a4) < 0 ∧ (((((24 : Int32) * a2) + (24 : Int32)) - (1 : Int32)) - a4).toNatClampNeg < 144 then
  (if (v.1 195 ((((24 : Int32) * a1) + a4).toNatClampNeg)) = (v.1 195 ((((((24 : Int32) * a2) + (24 : Int32)) - (1 : Int32)) - a4).toNatClampNeg)) then
  (f_X8_turned_68 v (fun a1 a2 a3 a4 => f_X8_turned_23 v n a1 a2 a3 a4) a1 a2 a4 (0 : Int32) a3)
else
  (f_X8_turned_68 v (fun a1 a2 a3 a4 => f_X8_turned_23 v n a1 a2 a3 a4) a1 a2 a4 (1 : Int32) a3))
else none)
else none)
def f_X8_turned (v : rV) (a1 : Int32) (a2 : Int32) : Option (Int32) := if (f_X8_isStain v a1) = true then
  (if (f_X8_isStain v a2) = true then
  (f_X8_turned_23 v 20000 a1 a2 (0 : Int32) (0 : Int32))
else
  (some (-1 : Int32)))
else
  (some (-1 : Int32))
set_option maxRecDepth 20000 in
theorem b_X8_turned_68 {X : Nat × (Nat → Int32)} {r : Int32} {v : rV} {q23 : Int32 → Int32 → Int32 → Int32 → Option (Int32)} (hq23 : ∀ (a1 : Int32) (a2 : Int32) (a3 : Int32) (a4 : Int32) , q23 a1 a2 a3 a4 = some r → Ev mX8_turned 3 0 0 23 [(0, .ref 174), (1, .int a1), (2, .int a2), (3, .int a3), (4, .int a4)] [] (rZ X) v (rPI X (r, v))) {a1 : Int32} {a2 : Int32} {a4 : Int32} {s0 : Int32} {s1 : Int32}  (h : f_X8_turned_68 v q23 a1 a2 a4 s0 s1 = some r) : Ev mX8_turned 3 0 0 68 [(0, .ref 174), (1, .int a1), (2, .int a2), (4, .int a4)] [.int s0, .int s1] (rZ X) v (rPI X (r, v)) := by
  unfold f_X8_turned_68 at h
  refine e_iadd dX8_turned_68 ?_
  obtain ⟨x5, ex5, h⟩ := vlet_ex h
  refine e_nameI ex5.symm ?_
  clear ex5
  refine e_istore_n (lv' := [(3, .int x5), (0, .ref 174), (1, .int a1), (2, .int a2), (4, .int a4)]) dX8_turned_69 (by decide) rfl ?_
  obtain ⟨x6, ex6, h⟩ := vlet_ex h
  refine e_iinc (lv' := [(4, .int x6), (3, .int x5), (0, .ref 174), (1, .int a1), (2, .int a2)]) dX8_turned_70 rfl (ex6.symm) (by decide) rfl ?_
  clear ex6
  refine e_goto (tgt := 23) dX8_turned_73 (by decide) ?_
  refine e_sub [2, 3, 4, 1, 0] rfl ?_
  exact hq23 a1 a2 x5 x6 h
set_option maxRecDepth 20000 in
theorem b_X8_turned_23 {X : Nat × (Nat → Int32)} {r : Int32} {v : rV}   : ∀ (n : Nat) (a1 : Int32) (a2 : Int32) (a3 : Int32) (a4 : Int32) , f_X8_turned_23 v  n a1 a2 a3 a4 = some r → Ev mX8_turned 3 0 0 23 [(0, .ref 174), (1, .int a1), (2, .int a2), (3, .int a3), (4, .int a4)] [] (rZ X) v (rPI X (r, v)) := by
  intro n
  induction n with
  | zero =>
    intros
    rename_i h
    cases h
  | succ n ih =>
    intro a1 a2 a3 a4 h
    rw [f_X8_turned_23] at h
    refine e_iload dX8_turned_23 rfl ?_
    refine e_bipush (x := (24 : Int32)) dX8_turned_25 (by decide) ?_
    refine e_icmp_ge (tgt := 76) dX8_turned_27 (by decide) (fun c8 => ?_) (fun c8 => ?_)
    · rw [if_pos c8] at h
      refine e_iload_n dX8_turned_76 rfl ?_
      obtain rfl := Option.some.inj h
      exact e_iret dX8_turned_77 rfl rfl ⟨rfl, rfl, rfl⟩
    · rw [if_neg c8] at h
      refine e_iload_n dX8_turned_30 rfl ?_
      refine e_aload_n dX8_turned_31 rfl ?_
      refine e_get (w := .ref 195) (j := 40) dX8_turned_32 k0_174 rc8 (by decide) wfX8_74 (g0_174_40) ?_
      refine e_bipush (x := (24 : Int32)) dX8_turned_35 (by decide) ?_
      refine e_iload_n dX8_turned_37 rfl ?_
      refine e_imul dX8_turned_38 ?_
      refine e_iload dX8_turned_39 rfl ?_
      refine e_iadd dX8_turned_41 ?_
      obtain ⟨c3, h⟩ := grd h
      refine e_ialdJ dX8_turned_42 k0_195 rfl c3.2 c3.1 ?_
      refine e_aload_n dX8_turned_43 rfl ?_
      refine e_get (w := .ref 195) (j := 40) dX8_turned_44 k0_174 rc8 (by decide) wfX8_74 (g0_174_40) ?_
      refine e_bipush (x := (24 : Int32)) dX8_turned_47 (by decide) ?_
      refine e_iload_n dX8_turned_49 rfl ?_
      refine e_imul dX8_turned_50 ?_
      refine e_bipush (x := (24 : Int32)) dX8_turned_51 (by decide) ?_
      refine e_iadd dX8_turned_53 ?_
      refine e_iconst (x := (1 : Int32)) dX8_turned_54 (by decide) ?_
      refine e_isub dX8_turned_55 ?_
      refine e_iload dX8_turned_56 rfl ?_
      refine e_isub dX8_turned_58 ?_
      obtain ⟨c4, h⟩ := grd h
      refine e_ialdJ dX8_turned_59 k0_195 rfl c4.2 c4.1 ?_
      refine e_icmp_eq (tgt := 67) dX8_turned_60 (by decide) (fun c7 => ?_) (fun c7 => ?_)
      · rw [if_pos c7] at h
        refine e_iconst (x := (0 : Int32)) dX8_turned_67 (by decide) ?_
        refine e_sub [0, 1, 2, 4] rfl ?_
        exact b_X8_turned_68 (fun a1 a2 a3 a4  hh => ih a1 a2 a3 a4  hh) h
      · rw [if_neg c7] at h
        refine e_iconst (x := (1 : Int32)) dX8_turned_63 (by decide) ?_
        refine e_goto (tgt := 68) dX8_turned_64 (by decide) ?_
        refine e_sub [0, 1, 2, 4] rfl ?_
        exact b_X8_turned_68 (fun a1 a2 a3 a4  hh => ih a1 a2 a3 a4  hh) h
set_option maxRecDepth 20000 in
theorem x_X8_turned {X : Nat × (Nat → Int32)} {v : rV} {r : Int32} {a1 : Int32} {a2 : Int32}  (h : f_X8_turned v a1 a2 = some r) : EvM mX8_turned 3 0 0 [.ref 174, .int a1, .int a2] (rZ X) v (rPI X (r, v)) := by
  refine evm_of (by decide +kernel) (fun G => Nat.le_of_ble_eq_true rfl) ?_
  show Ev mX8_turned 3 0 0 0 [(0, .ref 174), (1, .int a1), (2, .int a2)] [] (rZ X) v _
  unfold f_X8_turned at h
  refine e_aload_n dX8_turned_0 rfl ?_
  refine e_iload_n dX8_turned_1 rfl ?_
  refine c_VZ (M' := mX8_isStain) [.int a1] dX8_turned_2 rfl wmX8_397 imX8_isStain seX8_isStain lkX8_isStain k0_174 rc8 (Nat.le_of_ble_eq_true rfl) ((x_X8_isStain ).mono (by omega)) ?_
  refine e_if_eq (tgt := 16) dX8_turned_5 (by decide) (fun c10 => ?_) (fun c10 => ?_)
  · rw [if_neg (bI_n c10)] at h
    refine e_iconst (x := (-1 : Int32)) dX8_turned_16 (by decide) ?_
    obtain rfl := Option.some.inj h
    exact e_iret dX8_turned_17 rfl rfl ⟨rfl, rfl, rfl⟩
  · rw [if_pos (bI_p c10)] at h
    refine e_aload_n dX8_turned_8 rfl ?_
    refine e_iload_n dX8_turned_9 rfl ?_
    refine c_VZ (M' := mX8_isStain) [.int a2] dX8_turned_10 rfl wmX8_397 imX8_isStain seX8_isStain lkX8_isStain k0_174 rc8 (Nat.le_of_ble_eq_true rfl) ((x_X8_isStain ).mono (by omega)) ?_
    refine e_if_ne (tgt := 18) dX8_turned_13 (by decide) (fun c9 => ?_) (fun c9 => ?_)
    · rw [if_pos (bI_p c9)] at h
      refine e_iconst (x := (0 : Int32)) dX8_turned_18 (by decide) ?_
      refine e_istore_n (lv' := [(3, .int (0 : Int32)), (0, .ref 174), (1, .int a1), (2, .int a2)]) dX8_turned_19 (by decide) rfl ?_
      refine e_iconst (x := (0 : Int32)) dX8_turned_20 (by decide) ?_
      refine e_istore (lv' := [(4, .int (0 : Int32)), (3, .int (0 : Int32)), (0, .ref 174), (1, .int a1), (2, .int a2)]) dX8_turned_21 (by decide) rfl ?_
      refine e_sub [2, 3, 4, 1, 0] rfl ?_
      exact b_X8_turned_23  _ a1 a2 (0 : Int32) (0 : Int32) h
    · rw [if_neg (bI_n c9)] at h
      refine e_iconst (x := (-1 : Int32)) dX8_turned_16 (by decide) ?_
      obtain rfl := Option.some.inj h
      exact e_iret dX8_turned_17 rfl rfl ⟨rfl, rfl, rfl⟩
def f_X8_water (v : rV) (a1 : Int32) : Option (Int32) := if (f_X8_isCell a1) = true then
  (if ¬ ((0 : Int32) + a1) < 0 ∧ ((0 : Int32) + a1).toNatClampNeg < 416 then
  (some (v.1 187 (((0 : Int32) + a1).toNatClampNeg)))
else none)
else
  (some (-1 : Int32))
set_option maxRecDepth 20000 in
theorem x_X8_water {X : Nat × (Nat → Int32)} {v : rV} {r : Int32} {a1 : Int32}  (h : f_X8_water v a1 = some r) : EvM mX8_water 3 0 0 [.ref 174, .int a1] (rZ X) v (rPI X (r, v)) := by
  refine evm_of (by decide +kernel) (fun G => Nat.le_of_ble_eq_true rfl) ?_
  show Ev mX8_water 3 0 0 0 [(0, .ref 174), (1, .int a1)] [] (rZ X) v _
  unfold f_X8_water at h
  refine e_iload_n dX8_water_0 rfl ?_
  refine c_SZ (M' := mX8_isCell) [.int a1] dX8_water_1 rfl wmX8_353 stX8_isCell lkX8_isCell (Nat.le_of_ble_eq_true rfl) ((x_X8_isCell ).mono (by omega)) ?_
  refine e_if_eq (tgt := 18) dX8_water_4 (by decide) (fun c3 => ?_) (fun c3 => ?_)
  · rw [if_neg (bI_n c3)] at h
    refine e_iconst (x := (-1 : Int32)) dX8_water_18 (by decide) ?_
    obtain rfl := Option.some.inj h
    exact e_iret dX8_water_19 rfl rfl ⟨rfl, rfl, rfl⟩
  · rw [if_pos (bI_p c3)] at h
    refine e_aload_n dX8_water_7 rfl ?_
    refine e_get (w := .ref 187) (j := 24) dX8_water_8 k0_174 rc8 (by decide) wfX8_50 (g0_174_24) ?_
    refine e_iconst (x := (0 : Int32)) dX8_water_11 (by decide) ?_
    refine e_iload_n dX8_water_12 rfl ?_
    refine e_iadd dX8_water_13 ?_
    obtain ⟨c2, h⟩ := grd h
    refine e_ialdJ dX8_water_14 k0_187 rfl c2.2 c2.1 ?_
    refine e_goto (tgt := 19) dX8_water_15 (by decide) ?_
    obtain rfl := Option.some.inj h
    exact e_iret dX8_water_19 rfl rfl ⟨rfl, rfl, rfl⟩
def f_X8_weigh (v : rV) (a1 : Int32) (a2 : Int32) : Option (Bool × rV) := if (f_X8_isDrop v a1) = true then
  (if (f_X8_in a2 (1 : Int32) (9 : Int32)) = true then
  (if ¬ a1 < 0 ∧ a1.toNatClampNeg < 12 then
  (vlet (rI v 186 a1.toNatClampNeg a2) fun v4 =>
  some (true, v4))
else none)
else
  (some (false, v)))
else
  (some (false, v))
set_option maxRecDepth 20000 in
theorem x_X8_weigh {X : Nat × (Nat → Int32)} {v : rV} {r : Bool × rV} {a1 : Int32} {a2 : Int32}  (h : f_X8_weigh v a1 a2 = some r) : EvM mX8_weigh 3 0 0 [.ref 174, .int a1, .int a2] (rZ X) v (rPZ X r) := by
  refine evm_of (by decide +kernel) (fun G => Nat.le_of_ble_eq_true rfl) ?_
  show Ev mX8_weigh 3 0 0 0 [(0, .ref 174), (1, .int a1), (2, .int a2)] [] (rZ X) v _
  unfold f_X8_weigh at h
  refine e_aload_n dX8_weigh_0 rfl ?_
  refine e_iload_n dX8_weigh_1 rfl ?_
  refine c_VZ (M' := mX8_isDrop) [.int a1] dX8_weigh_2 rfl wmX8_244 imX8_isDrop seX8_isDrop lkX8_isDrop k0_174 rc8 (Nat.le_of_ble_eq_true rfl) ((x_X8_isDrop ).mono (by omega)) ?_
  refine e_if_eq (tgt := 18) dX8_weigh_5 (by decide) (fun c6 => ?_) (fun c6 => ?_)
  · rw [if_neg (bI_n c6)] at h
    refine e_iconst (x := (0 : Int32)) dX8_weigh_18 (by decide) ?_
    obtain rfl := Option.some.inj h
    exact e_iret dX8_weigh_19 rfl rfl ⟨rfl, rfl, rfl⟩
  · rw [if_pos (bI_p c6)] at h
    refine e_iload_n dX8_weigh_8 rfl ?_
    refine e_iconst (x := (1 : Int32)) dX8_weigh_9 (by decide) ?_
    refine e_bipush (x := (9 : Int32)) dX8_weigh_10 (by decide) ?_
    refine c_SZ (M' := mX8_in) [.int a2, .int (1 : Int32), .int (9 : Int32)] dX8_weigh_12 rfl wmX8_216 stX8_in lkX8_in (Nat.le_of_ble_eq_true rfl) ((x_X8_in ).mono (by omega)) ?_
    refine e_if_ne (tgt := 20) dX8_weigh_15 (by decide) (fun c5 => ?_) (fun c5 => ?_)
    · rw [if_pos (bI_p c5)] at h
      refine e_aload_n dX8_weigh_20 rfl ?_
      refine e_get (w := .ref 186) (j := 20) dX8_weigh_21 k0_174 rc8 (by decide) wfX8_43 (g0_174_20) ?_
      refine e_iload_n dX8_weigh_24 rfl ?_
      refine e_iload_n dX8_weigh_25 rfl ?_
      obtain ⟨c3, h⟩ := grd h
      refine e_iastJ dX8_weigh_26 k0_186 rfl c3.2 c3.1 ?_
      obtain ⟨v4, ev4, h⟩ := vlet_ex h
      refine e_nameV ev4.symm ?_
      clear ev4
      refine e_iconst (x := (1 : Int32)) dX8_weigh_27 (by decide) ?_
      obtain rfl := Option.some.inj h
      exact e_iret dX8_weigh_28 rfl rfl ⟨rfl, rfl, rfl⟩
    · rw [if_neg (bI_n c5)] at h
      refine e_iconst (x := (0 : Int32)) dX8_weigh_18 (by decide) ?_
      obtain rfl := Option.some.inj h
      exact e_iret dX8_weigh_19 rfl rfl ⟨rfl, rfl, rfl⟩
