/-! methods as functions over the numbered heap: 18.fnR -/
def f_X1_nextByte_43   (v : rV)  : Option (Int32 × rV) := (f_X6_byteAt v (v.1 7 3)).bind fun p1 =>
  some (p1, v)
def f_X1_nextByte_0   : Nat → rV → Option (Int32 × rV)
  | 0, _ => none
  | n + 1, v => if (v.1 1 1) ≤ (v.1 7 3) then
  (f_X1_nextByte_43  v)
else
  ((f_X6_byteAt v (v.1 7 3)).bind fun p2 =>
  if p2 = (32 : Int32) then
  (vlet (rI v 7 3 ((v.1 7 3) + (1 : Int32))) fun v3 =>
  f_X1_nextByte_0  n v3)
else
  (f_X1_nextByte_43  v))
def f_X1_nextByte (v : rV)  : Option (Int32 × rV) := f_X1_nextByte_0  20000 v
set_option maxRecDepth 20000 in
theorem b_X1_nextByte_43 {X : Nat × (Nat → Int32)} {r : Int32 × rV} {v : rV}     (h : f_X1_nextByte_43  v  = some r) : Ev mX1_nextByte 2 0 0 43 [(0, .ref 7)] [] (rZ X) v (rPI X r) := by
  unfold f_X1_nextByte_43 at h
  refine e_aload_n dX1_nextByte_43 rfl ?_
  refine e_get (w := .ref 1) (j := 0) dX1_nextByte_44 k0_7 rc1 (by decide) wfX1_15 (g0_7_0) ?_
  refine e_aload_n dX1_nextByte_47 rfl ?_
  refine e_get (w := .int (v.1 7 3)) (j := 3) dX1_nextByte_48 k0_7 rc1 (by decide) wfX1_19 rfl ?_
  obtain ⟨p1, ep1, h⟩ := Option.bind_eq_some_iff.mp h
  refine c_VI (M' := mX6_byteAt) [.int (v.1 7 3)] dX1_nextByte_51 rfl wmX1_48 imX6_byteAt seX6_byteAt lkX6_byteAt k0_1 rc6 (Nat.le_of_ble_eq_true rfl) ((x_X6_byteAt  ep1).mono (by decide)) ?_
  obtain rfl := Option.some.inj h
  exact e_iret dX1_nextByte_54 rfl rfl ⟨rfl, rfl, rfl⟩
set_option maxRecDepth 20000 in
theorem b_X1_nextByte_0 {X : Nat × (Nat → Int32)} {r : Int32 × rV}   : ∀ (n : Nat) (v : rV)  , f_X1_nextByte_0   n v  = some r → Ev mX1_nextByte 2 0 0 0 [(0, .ref 7)] [] (rZ X) v (rPI X r) := by
  intro n
  induction n with
  | zero =>
    intros
    rename_i h
    cases h
  | succ n ih =>
    intro v h
    rw [f_X1_nextByte_0] at h
    refine e_aload_n dX1_nextByte_0 rfl ?_
    refine e_get (w := .int (v.1 7 3)) (j := 3) dX1_nextByte_1 k0_7 rc1 (by decide) wfX1_19 rfl ?_
    refine e_aload_n dX1_nextByte_4 rfl ?_
    refine e_get (w := .ref 1) (j := 0) dX1_nextByte_5 k0_7 rc1 (by decide) wfX1_15 (g0_7_0) ?_
    refine e_get (w := .int (v.1 1 1)) (j := 1) dX1_nextByte_8 k0_1 rc6 (by decide) wfX1_43 rfl ?_
    refine e_icmp_ge (tgt := 43) dX1_nextByte_11 (by decide) (fun c5 => ?_) (fun c5 => ?_)
    · rw [if_pos c5] at h
      exact b_X1_nextByte_43  h
    · rw [if_neg c5] at h
      refine e_aload_n dX1_nextByte_14 rfl ?_
      refine e_get (w := .ref 1) (j := 0) dX1_nextByte_15 k0_7 rc1 (by decide) wfX1_15 (g0_7_0) ?_
      refine e_aload_n dX1_nextByte_18 rfl ?_
      refine e_get (w := .int (v.1 7 3)) (j := 3) dX1_nextByte_19 k0_7 rc1 (by decide) wfX1_19 rfl ?_
      obtain ⟨p2, ep2, h⟩ := Option.bind_eq_some_iff.mp h
      refine c_VI (M' := mX6_byteAt) [.int (v.1 7 3)] dX1_nextByte_22 rfl wmX1_48 imX6_byteAt seX6_byteAt lkX6_byteAt k0_1 rc6 (Nat.le_of_ble_eq_true rfl) ((x_X6_byteAt  ep2).mono (by decide)) ?_
      refine e_bipush (x := (32 : Int32)) dX1_nextByte_25 (by decide) ?_
      refine e_icmp_ne (tgt := 43) dX1_nextByte_27 (by decide) (fun c4 => ?_) (fun c4 => ?_)
      · rw [if_neg c4] at h
        exact b_X1_nextByte_43  h
      · rw [if_pos c4] at h
        refine e_aload_n dX1_nextByte_30 rfl ?_
        refine e_dup dX1_nextByte_31 rfl ?_
        refine e_get (w := .int (v.1 7 3)) (j := 3) dX1_nextByte_32 k0_7 rc1 (by decide) wfX1_19 rfl ?_
        refine e_iconst (x := (1 : Int32)) dX1_nextByte_35 (by decide) ?_
        refine e_iadd dX1_nextByte_36 ?_
        refine e_putI (j := 3) dX1_nextByte_37 k0_7 rc1 (by decide) wfX1_19 rfl rfl ?_
        obtain ⟨v3, ev3, h⟩ := vlet_ex h
        refine e_nameV ev3.symm ?_
        clear ev3
        refine e_goto (tgt := 0) dX1_nextByte_40 (by decide) ?_
        exact ih v3 h
set_option maxRecDepth 20000 in
theorem x_X1_nextByte {X : Nat × (Nat → Int32)} {v : rV} {r : Int32 × rV}   (h : f_X1_nextByte v = some r) : EvM mX1_nextByte 2 0 0 [.ref 7] (rZ X) v (rPI X r) := by
  refine evm_of (by decide +kernel) (fun G => Nat.le_of_ble_eq_true rfl) ?_
  show Ev mX1_nextByte 2 0 0 0 [(0, .ref 7)] [] (rZ X) v _
  unfold f_X1_nextByte at h
  exact b_X1_nextByte_0  _ v h
def f_X1_readNumber_107   (v : rV)  : Option (Bool × rV) := vlet (rI v 7 3 ((v.1 7 3) - (1 : Int32))) fun v3 =>
  some (false, v3)
def f_X1_readNumber_89   (v : rV) (a1 : Int32) (a2 : Int32) : Option (Bool × rV) := if ¬ a1 < 0 ∧ a1.toNatClampNeg < 12 then
  (if a2 < ((rtb.getD 0 []).getD a1.toNatClampNeg 0) then
  (f_X1_readNumber_107  v)
else
  (if a2 ≤ ((rtb.getD 1 []).getD a1.toNatClampNeg 0) then
  (vlet (rI v 8 a1.toNatClampNeg a2) fun v4 =>
  some (true, v4))
else
  (f_X1_readNumber_107  v)))
else none
def f_X1_readNumber_69   (v : rV) (a1 : Int32) (a2 : Int32) (a3 : Int32) (a4 : Int32) : Option (Bool × rV) := if a3 = 0 then
  (some (false, v))
else
  (if a4 < (48 : Int32) then
  (f_X1_readNumber_89  v a1 a2)
else
  (if (57 : Int32) < a4 then
  (f_X1_readNumber_89  v a1 a2)
else
  (some (false, v))))
def f_X1_readNumber_10   : Nat → rV → Int32 → Int32 → Int32 → Int32 → Option (Bool × rV)
  | 0, _, _, _, _, _ => none
  | n + 1, v, a1, a2, a3, a4 => if (4 : Int32) ≤ a3 then
  (f_X1_readNumber_69  v a1 a2 a3 a4)
else
  (if a4 < (48 : Int32) then
  (f_X1_readNumber_69  v a1 a2 a3 a4)
else
  (if (57 : Int32) < a4 then
  (f_X1_readNumber_69  v a1 a2 a3 a4)
else
  (vlet (((a2 * (10 : Int32)) + a4) - (48 : Int32) : Int32) fun x10 =>
  vlet (a3 + (1 : Int32)) fun x11 =>
  vlet (rI v 7 3 ((v.1 7 3) + (1 : Int32))) fun v12 =>
  (f_X6_byteAt v12 (v12.1 7 3)).bind fun p13 =>
  f_X1_readNumber_10  n v12 a1 x10 x11 p13)))
def f_X1_readNumber (v : rV) (a1 : Int32) : Option (Bool × rV) := (f_X1_nextByte v).bind fun p1 =>
  f_X1_readNumber_10  20000 p1.2 a1 (0 : Int32) (0 : Int32) p1.1
set_option maxRecDepth 20000 in
theorem b_X1_readNumber_107 {X : Nat × (Nat → Int32)} {r : Bool × rV} {v : rV}     (h : f_X1_readNumber_107  v  = some r) : Ev mX1_readNumber 3 0 0 107 [(0, .ref 7)] [] (rZ X) v (rPZ X r) := by
  unfold f_X1_readNumber_107 at h
  refine e_aload_n dX1_readNumber_107 rfl ?_
  refine e_dup dX1_readNumber_108 rfl ?_
  refine e_get (w := .int (v.1 7 3)) (j := 3) dX1_readNumber_109 k0_7 rc1 (by decide) wfX1_19 rfl ?_
  refine e_iconst (x := (1 : Int32)) dX1_readNumber_112 (by decide) ?_
  refine e_isub dX1_readNumber_113 ?_
  refine e_putI (j := 3) dX1_readNumber_114 k0_7 rc1 (by decide) wfX1_19 rfl rfl ?_
  obtain ⟨v3, ev3, h⟩ := vlet_ex h
  refine e_nameV ev3.symm ?_
  clear ev3
  refine e_iconst (x := (0 : Int32)) dX1_readNumber_117 (by decide) ?_
  obtain rfl := Option.some.inj h
  exact e_iret dX1_readNumber_118 rfl rfl ⟨rfl, rfl, rfl⟩
set_option maxRecDepth 20000 in
theorem b_X1_readNumber_89 {X : Nat × (Nat → Int32)} {r : Bool × rV} {v : rV}   {a1 : Int32} {a2 : Int32}  (h : f_X1_readNumber_89  v a1 a2 = some r) : Ev mX1_readNumber 3 0 0 89 [(0, .ref 7), (1, .int a1), (2, .int a2)] [] (rZ X) v (rPZ X r) := by
  unfold f_X1_readNumber_89 at h
  refine e_iload_n dX1_readNumber_89 rfl ?_
  refine e_gst0 dX1_readNumber_90 wfX1_67 ?_
  refine e_iload_n dX1_readNumber_93 rfl ?_
  obtain ⟨c2, h⟩ := grd h
  refine e_tld (i := 0) (by decide) dX1_readNumber_94 rfl c2.2 c2.1 ?_
  refine e_icmp_lt (tgt := 107) dX1_readNumber_95 (by decide) (fun c6 => ?_) (fun c6 => ?_)
  · rw [if_pos c6] at h
    refine e_sub [0] rfl ?_
    exact b_X1_readNumber_107  h
  · rw [if_neg c6] at h
    refine e_iload_n dX1_readNumber_98 rfl ?_
    refine e_gst1 dX1_readNumber_99 wfX1_70 ?_
    refine e_iload_n dX1_readNumber_102 rfl ?_
    refine e_tld (i := 1) (by decide) dX1_readNumber_103 rfl (c2).2 (c2).1 ?_
    refine e_icmp_le (tgt := 119) dX1_readNumber_104 (by decide) (fun c5 => ?_) (fun c5 => ?_)
    · rw [if_pos c5] at h
      refine e_aload_n dX1_readNumber_119 rfl ?_
      refine e_get (w := .ref 8) (j := 1) dX1_readNumber_120 k0_7 rc1 (by decide) wfX1_9 (g0_7_1) ?_
      refine e_iload_n dX1_readNumber_123 rfl ?_
      refine e_iload_n dX1_readNumber_124 rfl ?_
      refine e_iastJ dX1_readNumber_125 k0_8 rfl (c2).2 (c2).1 ?_
      obtain ⟨v4, ev4, h⟩ := vlet_ex h
      refine e_nameV ev4.symm ?_
      clear ev4
      refine e_iconst (x := (1 : Int32)) dX1_readNumber_126 (by decide) ?_
      obtain rfl := Option.some.inj h
      exact e_iret dX1_readNumber_127 rfl rfl ⟨rfl, rfl, rfl⟩
    · rw [if_neg c5] at h
      refine e_sub [0] rfl ?_
      exact b_X1_readNumber_107  h
set_option maxRecDepth 20000 in
theorem b_X1_readNumber_69 {X : Nat × (Nat → Int32)} {r : Bool × rV} {v : rV}   {a1 : Int32} {a2 : Int32} {a3 : Int32} {a4 : Int32}  (h : f_X1_readNumber_69  v a1 a2 a3 a4 = some r) : Ev mX1_readNumber 3 0 0 69 [(0, .ref 7), (1, .int a1), (2, .int a2), (3, .int a3), (4, .int a4)] [] (rZ X) v (rPZ X r) := by
  unfold f_X1_readNumber_69 at h
  refine e_iload_n dX1_readNumber_69 rfl ?_
  refine e_if_eq (tgt := 87) dX1_readNumber_70 (by decide) (fun c9 => ?_) (fun c9 => ?_)
  · rw [if_pos c9] at h
    refine e_iconst (x := (0 : Int32)) dX1_readNumber_87 (by decide) ?_
    obtain rfl := Option.some.inj h
    exact e_iret dX1_readNumber_88 rfl rfl ⟨rfl, rfl, rfl⟩
  · rw [if_neg c9] at h
    refine e_iload dX1_readNumber_73 rfl ?_
    refine e_bipush (x := (48 : Int32)) dX1_readNumber_75 (by decide) ?_
    refine e_icmp_lt (tgt := 89) dX1_readNumber_77 (by decide) (fun c8 => ?_) (fun c8 => ?_)
    · rw [if_pos c8] at h
      refine e_sub [0, 1, 2] rfl ?_
      exact b_X1_readNumber_89  h
    · rw [if_neg c8] at h
      refine e_iload dX1_readNumber_80 rfl ?_
      refine e_bipush (x := (57 : Int32)) dX1_readNumber_82 (by decide) ?_
      refine e_icmp_gt (tgt := 89) dX1_readNumber_84 (by decide) (fun c7 => ?_) (fun c7 => ?_)
      · rw [if_pos c7] at h
        refine e_sub [0, 1, 2] rfl ?_
        exact b_X1_readNumber_89  h
      · rw [if_neg c7] at h
        refine e_iconst (x := (0 : Int32)) dX1_readNumber_87 (by decide) ?_
        obtain rfl := Option.some.inj h
        exact e_iret dX1_readNumber_88 rfl rfl ⟨rfl, rfl, rfl⟩
set_option maxRecDepth 20000 in
theorem b_X1_readNumber_10 {X : Nat × (Nat → Int32)} {r : Bool × rV}   : ∀ (n : Nat) (v : rV) (a1 : Int32) (a2 : Int32) (a3 : Int32) (a4 : Int32) , f_X1_readNumber_10   n v a1 a2 a3 a4 = some r → Ev mX1_readNumber 3 0 0 10 [(0, .ref 7), (1, .int a1), (2, .int a2), (3, .int a3), (4, .int a4)] [] (rZ X) v (rPZ X r) := by
  intro n
  induction n with
  | zero =>
    intros
    rename_i h
    cases h
  | succ n ih =>
    intro v a1 a2 a3 a4 h
    rw [f_X1_readNumber_10] at h
    refine e_iload_n dX1_readNumber_10 rfl ?_
    refine e_iconst (x := (4 : Int32)) dX1_readNumber_11 (by decide) ?_
    refine e_icmp_ge (tgt := 69) dX1_readNumber_12 (by decide) (fun c16 => ?_) (fun c16 => ?_)
    · rw [if_pos c16] at h
      exact b_X1_readNumber_69  h
    · rw [if_neg c16] at h
      refine e_iload dX1_readNumber_15 rfl ?_
      refine e_bipush (x := (48 : Int32)) dX1_readNumber_17 (by decide) ?_
      refine e_icmp_lt (tgt := 69) dX1_readNumber_19 (by decide) (fun c15 => ?_) (fun c15 => ?_)
      · rw [if_pos c15] at h
        exact b_X1_readNumber_69  h
      · rw [if_neg c15] at h
        refine e_iload dX1_readNumber_22 rfl ?_
        refine e_bipush (x := (57 : Int32)) dX1_readNumber_24 (by decide) ?_
        refine e_icmp_gt (tgt := 69) dX1_readNumber_26 (by decide) (fun c14 => ?_) (fun c14 => ?_)
        · rw [if_pos c14] at h
          exact b_X1_readNumber_69  h
        · rw [if_neg c14] at h
          refine e_iload_n dX1_readNumber_29 rfl ?_
          refine e_bipush (x := (10 : Int32)) dX1_readNumber_30 (by decide) ?_
          refine e_imul dX1_readNumber_32 ?_
          refine e_iload dX1_readNumber_33 rfl ?_
          refine e_iadd dX1_readNumber_35 ?_
          refine e_bipush (x := (48 : Int32)) dX1_readNumber_36 (by decide) ?_
          refine e_isub dX1_readNumber_38 ?_
          obtain ⟨x10, ex10, h⟩ := vlet_ex h
          refine e_nameI ex10.symm ?_
          clear ex10
          refine e_istore_n (lv' := [(2, .int x10), (0, .ref 7), (1, .int a1), (3, .int a3), (4, .int a4)]) dX1_readNumber_39 (by decide) rfl ?_
          obtain ⟨x11, ex11, h⟩ := vlet_ex h
          refine e_iinc (lv' := [(3, .int x11), (2, .int x10), (0, .ref 7), (1, .int a1), (4, .int a4)]) dX1_readNumber_40 rfl (ex11.symm) (by decide) rfl ?_
          clear ex11
          refine e_aload_n dX1_readNumber_43 rfl ?_
          refine e_dup dX1_readNumber_44 rfl ?_
          refine e_get (w := .int (v.1 7 3)) (j := 3) dX1_readNumber_45 k0_7 rc1 (by decide) wfX1_19 rfl ?_
          refine e_iconst (x := (1 : Int32)) dX1_readNumber_48 (by decide) ?_
          refine e_iadd dX1_readNumber_49 ?_
          refine e_putI (j := 3) dX1_readNumber_50 k0_7 rc1 (by decide) wfX1_19 rfl rfl ?_
          obtain ⟨v12, ev12, h⟩ := vlet_ex h
          refine e_nameV ev12.symm ?_
          clear ev12
          refine e_aload_n dX1_readNumber_53 rfl ?_
          refine e_get (w := .ref 1) (j := 0) dX1_readNumber_54 k0_7 rc1 (by decide) wfX1_15 (g0_7_0) ?_
          refine e_aload_n dX1_readNumber_57 rfl ?_
          refine e_get (w := .int (v12.1 7 3)) (j := 3) dX1_readNumber_58 k0_7 rc1 (by decide) wfX1_19 rfl ?_
          obtain ⟨p13, ep13, h⟩ := Option.bind_eq_some_iff.mp h
          refine c_VI (M' := mX6_byteAt) [.int (v12.1 7 3)] dX1_readNumber_61 rfl wmX1_48 imX6_byteAt seX6_byteAt lkX6_byteAt k0_1 rc6 (Nat.le_of_ble_eq_true rfl) ((x_X6_byteAt  ep13).mono (by decide)) ?_
          refine e_istore (lv' := [(4, .int p13), (3, .int x11), (2, .int x10), (0, .ref 7), (1, .int a1)]) dX1_readNumber_64 (by decide) rfl ?_
          refine e_goto (tgt := 10) dX1_readNumber_66 (by decide) ?_
          refine e_sub [3, 4, 2, 1, 0] rfl ?_
          exact ih v12 a1 x10 x11 p13 h
set_option maxRecDepth 20000 in
theorem x_X1_readNumber {X : Nat × (Nat → Int32)} {v : rV} {r : Bool × rV} {a1 : Int32}  (h : f_X1_readNumber v a1 = some r) : EvM mX1_readNumber 3 0 0 [.ref 7, .int a1] (rZ X) v (rPZ X r) := by
  refine evm_of (by decide +kernel) (fun G => Nat.le_of_ble_eq_true rfl) ?_
  show Ev mX1_readNumber 3 0 0 0 [(0, .ref 7), (1, .int a1)] [] (rZ X) v _
  unfold f_X1_readNumber at h
  refine e_iconst (x := (0 : Int32)) dX1_readNumber_0 (by decide) ?_
  refine e_istore_n (lv' := [(2, .int (0 : Int32)), (0, .ref 7), (1, .int a1)]) dX1_readNumber_1 (by decide) rfl ?_
  refine e_iconst (x := (0 : Int32)) dX1_readNumber_2 (by decide) ?_
  refine e_istore_n (lv' := [(3, .int (0 : Int32)), (2, .int (0 : Int32)), (0, .ref 7), (1, .int a1)]) dX1_readNumber_3 (by decide) rfl ?_
  refine e_aload_n dX1_readNumber_4 rfl ?_
  obtain ⟨p1, ep1, h⟩ := Option.bind_eq_some_iff.mp h
  refine c_VI (M' := mX1_nextByte) [] dX1_readNumber_5 rfl wmX1_39 imX1_nextByte seX1_nextByte lkX1_nextByte k0_7 rc1 (Nat.le_of_ble_eq_true rfl) ((x_X1_nextByte  ep1).mono (by decide)) ?_
  refine e_istore (lv' := [(4, .int p1.1), (3, .int (0 : Int32)), (2, .int (0 : Int32)), (0, .ref 7), (1, .int a1)]) dX1_readNumber_8 (by decide) rfl ?_
  refine e_sub [3, 4, 2, 1, 0] rfl ?_
  exact b_X1_readNumber_10  _ p1.2 a1 (0 : Int32) (0 : Int32) p1.1 h
def f_X1_readItem_21   (v : rV) (s0 : Int32) : Option (Bool × rV) := if s0 < 0 then
  (some (false, v))
else
  (if (12 : Int32) ≤ s0 then
  (some (false, v))
else
  (if (f_X7_has (v.1 7 2) s0) = true then
  (some (false, v))
else
  (vlet (rI v 7 2 ((v.1 7 2) ||| ((1 : Int32) <<< (s0 &&& 31)))) fun v3 =>
  vlet (rI v3 7 3 ((v3.1 7 3) + (1 : Int32))) fun v4 =>
  (f_X1_readNumber v4 s0).bind fun p5 =>
  some (p5.1, p5.2))))
def f_X1_readItem (v : rV)  : Option (Bool × rV) := (f_X1_nextByte v).bind fun p1 =>
  if p1.1 = (-1 : Int32) then
  (f_X1_readItem_21  p1.2 (-1 : Int32))
else
  (f_X1_readItem_21  p1.2 (sidx 2 ((p1.1.toUInt32 % 65536).toInt32)))
set_option maxRecDepth 20000 in
theorem b_X1_readItem_21 {X : Nat × (Nat → Int32)} {r : Bool × rV} {v : rV}   {s0 : Int32}  (h : f_X1_readItem_21  v s0 = some r) : Ev mX1_readItem 10 0 0 21 [(0, .ref 7)] [.int s0] (rZ X) v (rPZ X r) := by
  unfold f_X1_readItem_21 at h
  refine e_istore_n (lv' := [(2, .int s0), (0, .ref 7)]) dX1_readItem_21 (by decide) rfl ?_
  refine e_iload_n dX1_readItem_22 rfl ?_
  refine e_if_lt (tgt := 43) dX1_readItem_23 (by decide) (fun c8 => ?_) (fun c8 => ?_)
  · rw [if_pos c8] at h
    refine e_iconst (x := (0 : Int32)) dX1_readItem_43 (by decide) ?_
    obtain rfl := Option.some.inj h
    exact e_iret dX1_readItem_44 rfl rfl ⟨rfl, rfl, rfl⟩
  · rw [if_neg c8] at h
    refine e_iload_n dX1_readItem_26 rfl ?_
    refine e_bipush (x := (12 : Int32)) dX1_readItem_27 (by decide) ?_
    refine e_icmp_ge (tgt := 43) dX1_readItem_29 (by decide) (fun c7 => ?_) (fun c7 => ?_)
    · rw [if_pos c7] at h
      refine e_iconst (x := (0 : Int32)) dX1_readItem_43 (by decide) ?_
      obtain rfl := Option.some.inj h
      exact e_iret dX1_readItem_44 rfl rfl ⟨rfl, rfl, rfl⟩
    · rw [if_neg c7] at h
      refine e_aload_n dX1_readItem_32 rfl ?_
      refine e_get (w := .int (v.1 7 2)) (j := 2) dX1_readItem_33 k0_7 rc1 (by decide) wfX1_23 rfl ?_
      refine e_iload_n dX1_readItem_36 rfl ?_
      refine c_SNZ (M' := mX7_has) [.int (v.1 7 2), .int s0] dX1_readItem_37 rfl wmX1_59 stX7_has lkX7_has (Nat.le_of_ble_eq_true rfl) ((x_X7_has ).mono (by decide)) ?_
      refine e_if_eq (tgt := 45) dX1_readItem_40 (by decide) (fun c6 => ?_) (fun c6 => ?_)
      · rw [if_neg (bI_n c6)] at h
        refine e_aload_n dX1_readItem_45 rfl ?_
        refine e_dup dX1_readItem_46 rfl ?_
        refine e_get (w := .int (v.1 7 2)) (j := 2) dX1_readItem_47 k0_7 rc1 (by decide) wfX1_23 rfl ?_
        refine e_iconst (x := (1 : Int32)) dX1_readItem_50 (by decide) ?_
        refine e_iload_n dX1_readItem_51 rfl ?_
        refine e_ishl dX1_readItem_52 ?_
        refine e_ior dX1_readItem_53 ?_
        refine e_putI (j := 2) dX1_readItem_54 k0_7 rc1 (by decide) wfX1_23 rfl rfl ?_
        obtain ⟨v3, ev3, h⟩ := vlet_ex h
        refine e_nameV ev3.symm ?_
        clear ev3
        refine e_aload_n dX1_readItem_57 rfl ?_
        refine e_dup dX1_readItem_58 rfl ?_
        refine e_get (w := .int (v3.1 7 3)) (j := 3) dX1_readItem_59 k0_7 rc1 (by decide) wfX1_19 rfl ?_
        refine e_iconst (x := (1 : Int32)) dX1_readItem_62 (by decide) ?_
        refine e_iadd dX1_readItem_63 ?_
        refine e_putI (j := 3) dX1_readItem_64 k0_7 rc1 (by decide) wfX1_19 rfl rfl ?_
        obtain ⟨v4, ev4, h⟩ := vlet_ex h
        refine e_nameV ev4.symm ?_
        clear ev4
        refine e_aload_n dX1_readItem_67 rfl ?_
        refine e_iload_n dX1_readItem_68 rfl ?_
        obtain ⟨p5, ep5, h⟩ := Option.bind_eq_some_iff.mp h
        refine c_VZ (M' := mX1_readNumber) [.int s0] dX1_readItem_69 rfl wmX1_63 imX1_readNumber seX1_readNumber lkX1_readNumber k0_7 rc1 (Nat.le_of_ble_eq_true rfl) ((x_X1_readNumber  ep5).mono (by decide)) ?_
        obtain rfl := Option.some.inj h
        exact e_iret dX1_readItem_72 rfl (bI_z _) ⟨rfl, rfl, rfl⟩
      · rw [if_pos (bI_p c6)] at h
        refine e_iconst (x := (0 : Int32)) dX1_readItem_43 (by decide) ?_
        obtain rfl := Option.some.inj h
        exact e_iret dX1_readItem_44 rfl rfl ⟨rfl, rfl, rfl⟩
set_option maxRecDepth 20000 in
theorem x_X1_readItem {X : Nat × (Nat → Int32)} {v : rV} {r : Bool × rV}   (h : f_X1_readItem v = some r) : EvM mX1_readItem 10 0 0 [.ref 7] (rZ X) v (rPZ X r) := by
  refine evm_of (by decide +kernel) (fun G => Nat.le_of_ble_eq_true rfl) ?_
  show Ev mX1_readItem 10 0 0 0 [(0, .ref 7)] [] (rZ X) v _
  unfold f_X1_readItem at h
  refine e_aload_n dX1_readItem_0 rfl ?_
  obtain ⟨p1, ep1, h⟩ := Option.bind_eq_some_iff.mp h
  refine c_VI (M' := mX1_nextByte) [] dX1_readItem_1 rfl wmX1_39 imX1_nextByte seX1_nextByte lkX1_nextByte k0_7 rc1 (Nat.le_of_ble_eq_true rfl) ((x_X1_nextByte  ep1).mono (by decide)) ?_
  refine e_istore_n (lv' := [(1, .int p1.1), (0, .ref 7)]) dX1_readItem_4 (by decide) rfl ?_
  refine e_iload_n dX1_readItem_5 rfl ?_
  refine e_iconst (x := (-1 : Int32)) dX1_readItem_6 (by decide) ?_
  refine e_icmp_ne (tgt := 14) dX1_readItem_7 (by decide) (fun c9 => ?_) (fun c9 => ?_)
  · rw [if_neg c9] at h
    refine e_ldcS4 dX1_readItem_14 rfl ?_
    refine e_iload_n dX1_readItem_16 rfl ?_
    refine e_i2c dX1_readItem_17 ?_
    refine e_indexOf (i := 2) (by decide) dX1_readItem_18 wmX1_54 (by decide) (Nat.le_of_ble_eq_true rfl) ?_
    refine e_sub [1] rfl ?_
    exact b_X1_readItem_21  h
  · rw [if_pos c9] at h
    refine e_iconst (x := (-1 : Int32)) dX1_readItem_10 (by decide) ?_
    refine e_goto (tgt := 21) dX1_readItem_11 (by decide) ?_
    refine e_sub [1] rfl ?_
    exact b_X1_readItem_21  h
def f_X1_faultOfDrop_71   (v : rV) (a1 : Int32) : Option (Int32 × rV) := if a1 = 0 then
  (some (v.1 7 3, v))
else
  ((f_X1_nextByte v).bind fun p6 =>
  if p6.1 = (-1 : Int32) then
  (if ((p6.2.1 8 0) + (p6.2.1 8 1)) ≤ (24 : Int32) then
  (some ((-1 : Int32), p6.2))
else
  (some (p6.2.1 1 1, p6.2)))
else
  (some (p6.2.1 7 3, p6.2)))
def f_X1_faultOfDrop_31   : Nat → rV → Int32 → Int32 → Option (Int32 × rV)
  | 0, _, _, _ => none
  | n + 1, v, a1, a2 => if (12 : Int32) ≤ a2 then
  (f_X1_faultOfDrop_71  v a1)
else
  (if a1 = 0 then
  (f_X1_faultOfDrop_71  v a1)
else
  ((f_X1_nextByte v).bind fun p10 =>
  if p10.1 = (44 : Int32) then
  (vlet (rI p10.2 7 3 ((p10.2.1 7 3) + (1 : Int32))) fun v11 =>
  (f_X1_readItem v11).bind fun p12 =>
  vlet (bI p12.1 : Int32) fun x13 =>
  vlet (a2 + (1 : Int32)) fun x14 =>
  f_X1_faultOfDrop_31  n p12.2 x13 x14)
else
  (f_X1_faultOfDrop_71  p10.2 a1)))
def f_X1_faultOfDrop (v : rV)  : Option (Int32 × rV) := vlet (rI v 7 3 (0 : Int32)) fun v1 =>
  vlet (rI v1 7 2 (0 : Int32)) fun v2 =>
  vlet (rCt v2 8 (fun j => (rtb.getD 2 []).getD j 0) 0 0 12) fun v3 =>
  (f_X1_readItem v3).bind fun p4 =>
  vlet (bI p4.1 : Int32) fun x5 =>
  f_X1_faultOfDrop_31  20000 p4.2 x5 (0 : Int32)
set_option maxRecDepth 20000 in
theorem b_X1_faultOfDrop_71 {X : Nat × (Nat → Int32)} {r : Int32 × rV} {v : rV}   {a1 : Int32}  (h : f_X1_faultOfDrop_71  v a1 = some r) : Ev mX1_faultOfDrop 11 0 0 71 [(0, .ref 7), (1, .int a1)] [] (rZ X) v (rPI X r) := by
  unfold f_X1_faultOfDrop_71 at h
  refine e_iload_n dX1_faultOfDrop_71 rfl ?_
  refine e_if_eq (tgt := 83) dX1_faultOfDrop_72 (by decide) (fun c9 => ?_) (fun c9 => ?_)
  · rw [if_pos c9] at h
    refine e_aload_n dX1_faultOfDrop_83 rfl ?_
    refine e_get (w := .int (v.1 7 3)) (j := 3) dX1_faultOfDrop_84 k0_7 rc1 (by decide) wfX1_19 rfl ?_
    obtain rfl := Option.some.inj h
    exact e_iret dX1_faultOfDrop_87 rfl rfl ⟨rfl, rfl, rfl⟩
  · rw [if_neg c9] at h
    refine e_aload_n dX1_faultOfDrop_75 rfl ?_
    obtain ⟨p6, ep6, h⟩ := Option.bind_eq_some_iff.mp h
    refine c_VI (M' := mX1_nextByte) [] dX1_faultOfDrop_76 rfl wmX1_39 imX1_nextByte seX1_nextByte lkX1_nextByte k0_7 rc1 (Nat.le_of_ble_eq_true rfl) ((x_X1_nextByte  ep6).mono (by decide)) ?_
    refine e_iconst (x := (-1 : Int32)) dX1_faultOfDrop_79 (by decide) ?_
    refine e_icmp_eq (tgt := 88) dX1_faultOfDrop_80 (by decide) (fun c8 => ?_) (fun c8 => ?_)
    · rw [if_pos c8] at h
      refine e_aload_n dX1_faultOfDrop_88 rfl ?_
      refine e_get (w := .ref 8) (j := 1) dX1_faultOfDrop_89 k0_7 rc1 (by decide) wfX1_9 (g0_7_1) ?_
      refine e_iconst (x := (0 : Int32)) dX1_faultOfDrop_92 (by decide) ?_
      refine e_ialdJ dX1_faultOfDrop_93 k0_8 (j := 0) (by decide) (by decide) (by decide) ?_
      refine e_aload_n dX1_faultOfDrop_94 rfl ?_
      refine e_get (w := .ref 8) (j := 1) dX1_faultOfDrop_95 k0_7 rc1 (by decide) wfX1_9 (g0_7_1) ?_
      refine e_iconst (x := (1 : Int32)) dX1_faultOfDrop_98 (by decide) ?_
      refine e_ialdJ dX1_faultOfDrop_99 k0_8 (j := 1) (by decide) (by decide) (by decide) ?_
      refine e_iadd dX1_faultOfDrop_100 ?_
      refine e_bipush (x := (24 : Int32)) dX1_faultOfDrop_101 (by decide) ?_
      refine e_icmp_le (tgt := 116) dX1_faultOfDrop_103 (by decide) (fun c7 => ?_) (fun c7 => ?_)
      · rw [if_pos c7] at h
        refine e_iconst (x := (-1 : Int32)) dX1_faultOfDrop_116 (by decide) ?_
        obtain rfl := Option.some.inj h
        exact e_iret dX1_faultOfDrop_117 rfl rfl ⟨rfl, rfl, rfl⟩
      · rw [if_neg c7] at h
        refine e_aload_n dX1_faultOfDrop_106 rfl ?_
        refine e_get (w := .ref 1) (j := 0) dX1_faultOfDrop_107 k0_7 rc1 (by decide) wfX1_15 (g0_7_0) ?_
        refine e_get (w := .int (p6.2.1 1 1)) (j := 1) dX1_faultOfDrop_110 k0_1 rc6 (by decide) wfX1_43 rfl ?_
        refine e_goto (tgt := 117) dX1_faultOfDrop_113 (by decide) ?_
        obtain rfl := Option.some.inj h
        exact e_iret dX1_faultOfDrop_117 rfl rfl ⟨rfl, rfl, rfl⟩
    · rw [if_neg c8] at h
      refine e_aload_n dX1_faultOfDrop_83 rfl ?_
      refine e_get (w := .int (p6.2.1 7 3)) (j := 3) dX1_faultOfDrop_84 k0_7 rc1 (by decide) wfX1_19 rfl ?_
      obtain rfl := Option.some.inj h
      exact e_iret dX1_faultOfDrop_87 rfl rfl ⟨rfl, rfl, rfl⟩
set_option maxRecDepth 20000 in
theorem b_X1_faultOfDrop_31 {X : Nat × (Nat → Int32)} {r : Int32 × rV}   : ∀ (n : Nat) (v : rV) (a1 : Int32) (a2 : Int32) , f_X1_faultOfDrop_31   n v a1 a2 = some r → Ev mX1_faultOfDrop 11 0 0 31 [(0, .ref 7), (1, .int a1), (2, .int a2)] [] (rZ X) v (rPI X r) := by
  intro n
  induction n with
  | zero =>
    intros
    rename_i h
    cases h
  | succ n ih =>
    intro v a1 a2 h
    rw [f_X1_faultOfDrop_31] at h
    refine e_iload_n dX1_faultOfDrop_31 rfl ?_
    refine e_bipush (x := (12 : Int32)) dX1_faultOfDrop_32 (by decide) ?_
    refine e_icmp_ge (tgt := 71) dX1_faultOfDrop_34 (by decide) (fun c17 => ?_) (fun c17 => ?_)
    · rw [if_pos c17] at h
      refine e_sub [0, 1] rfl ?_
      exact b_X1_faultOfDrop_71  h
    · rw [if_neg c17] at h
      refine e_iload_n dX1_faultOfDrop_37 rfl ?_
      refine e_if_eq (tgt := 71) dX1_faultOfDrop_38 (by decide) (fun c16 => ?_) (fun c16 => ?_)
      · rw [if_pos c16] at h
        refine e_sub [0, 1] rfl ?_
        exact b_X1_faultOfDrop_71  h
      · rw [if_neg c16] at h
        refine e_aload_n dX1_faultOfDrop_41 rfl ?_
        obtain ⟨p10, ep10, h⟩ := Option.bind_eq_some_iff.mp h
        refine c_VI (M' := mX1_nextByte) [] dX1_faultOfDrop_42 rfl wmX1_39 imX1_nextByte seX1_nextByte lkX1_nextByte k0_7 rc1 (Nat.le_of_ble_eq_true rfl) ((x_X1_nextByte  ep10).mono (by decide)) ?_
        refine e_bipush (x := (44 : Int32)) dX1_faultOfDrop_45 (by decide) ?_
        refine e_icmp_ne (tgt := 71) dX1_faultOfDrop_47 (by decide) (fun c15 => ?_) (fun c15 => ?_)
        · rw [if_neg c15] at h
          refine e_sub [0, 1] rfl ?_
          exact b_X1_faultOfDrop_71  h
        · rw [if_pos c15] at h
          refine e_aload_n dX1_faultOfDrop_50 rfl ?_
          refine e_dup dX1_faultOfDrop_51 rfl ?_
          refine e_get (w := .int (p10.2.1 7 3)) (j := 3) dX1_faultOfDrop_52 k0_7 rc1 (by decide) wfX1_19 rfl ?_
          refine e_iconst (x := (1 : Int32)) dX1_faultOfDrop_55 (by decide) ?_
          refine e_iadd dX1_faultOfDrop_56 ?_
          refine e_putI (j := 3) dX1_faultOfDrop_57 k0_7 rc1 (by decide) wfX1_19 rfl rfl ?_
          obtain ⟨v11, ev11, h⟩ := vlet_ex h
          refine e_nameV ev11.symm ?_
          clear ev11
          refine e_aload_n dX1_faultOfDrop_60 rfl ?_
          obtain ⟨p12, ep12, h⟩ := Option.bind_eq_some_iff.mp h
          refine c_VZ (M' := mX1_readItem) [] dX1_faultOfDrop_61 rfl wmX1_35 imX1_readItem seX1_readItem lkX1_readItem k0_7 rc1 (Nat.le_of_ble_eq_true rfl) ((x_X1_readItem  ep12).mono (by decide)) ?_
          obtain ⟨x13, ex13, h⟩ := vlet_ex h
          refine e_nameI ex13.symm ?_
          clear ex13
          refine e_istore_n (lv' := [(1, .int x13), (0, .ref 7), (2, .int a2)]) dX1_faultOfDrop_64 (by decide) rfl ?_
          obtain ⟨x14, ex14, h⟩ := vlet_ex h
          refine e_iinc (lv' := [(2, .int x14), (1, .int x13), (0, .ref 7)]) dX1_faultOfDrop_65 rfl (ex14.symm) (by decide) rfl ?_
          clear ex14
          refine e_goto (tgt := 31) dX1_faultOfDrop_68 (by decide) ?_
          refine e_sub [2, 1, 0] rfl ?_
          exact ih p12.2 x13 x14 h
set_option maxRecDepth 20000 in
theorem x_X1_faultOfDrop {X : Nat × (Nat → Int32)} {v : rV} {r : Int32 × rV}   (h : f_X1_faultOfDrop v = some r) : EvM mX1_faultOfDrop 11 0 0 [.ref 7] (rZ X) v (rPI X r) := by
  refine evm_of (by decide +kernel) (fun G => Nat.le_of_ble_eq_true rfl) ?_
  show Ev mX1_faultOfDrop 11 0 0 0 [(0, .ref 7)] [] (rZ X) v _
  unfold f_X1_faultOfDrop at h
  refine e_aload_n dX1_faultOfDrop_0 rfl ?_
  refine e_iconst (x := (0 : Int32)) dX1_faultOfDrop_1 (by decide) ?_
  refine e_putI (j := 3) dX1_faultOfDrop_2 k0_7 rc1 (by decide) wfX1_19 rfl rfl ?_
  obtain ⟨v1, ev1, h⟩ := vlet_ex h
  refine e_nameV ev1.symm ?_
  clear ev1
  refine e_aload_n dX1_faultOfDrop_5 rfl ?_
  refine e_iconst (x := (0 : Int32)) dX1_faultOfDrop_6 (by decide) ?_
  refine e_putI (j := 2) dX1_faultOfDrop_7 k0_7 rc1 (by decide) wfX1_23 rfl rfl ?_
  obtain ⟨v2, ev2, h⟩ := vlet_ex h
  refine e_nameV ev2.symm ?_
  clear ev2
  refine e_gst2 dX1_faultOfDrop_10 wfX1_26 ?_
  refine e_iconst (x := (0 : Int32)) dX1_faultOfDrop_13 (by decide) ?_
  refine e_aload_n dX1_faultOfDrop_14 rfl ?_
  refine e_get (w := .ref 8) (j := 1) dX1_faultOfDrop_15 k0_7 rc1 (by decide) wfX1_9 (g0_7_1) ?_
  refine e_iconst (x := (0 : Int32)) dX1_faultOfDrop_18 (by decide) ?_
  refine e_bipush (x := (12 : Int32)) dX1_faultOfDrop_19 (by decide) ?_
  refine e_copyT (i := 2) dX1_faultOfDrop_21 wmX1_29 wnative wcopystat winisys (by decide) k0_8 rfl (by decide) (by decide) (by decide) (by decide) (by decide) (Nat.le_of_ble_eq_true rfl) (by decide) ?_
  obtain ⟨v3, ev3, h⟩ := vlet_ex h
  refine e_nameV ev3.symm ?_
  clear ev3
  refine e_aload_n dX1_faultOfDrop_24 rfl ?_
  obtain ⟨p4, ep4, h⟩ := Option.bind_eq_some_iff.mp h
  refine c_VZ (M' := mX1_readItem) [] dX1_faultOfDrop_25 rfl wmX1_35 imX1_readItem seX1_readItem lkX1_readItem k0_7 rc1 (Nat.le_of_ble_eq_true rfl) ((x_X1_readItem  ep4).mono (by decide)) ?_
  obtain ⟨x5, ex5, h⟩ := vlet_ex h
  refine e_nameI ex5.symm ?_
  clear ex5
  refine e_istore_n (lv' := [(1, .int x5), (0, .ref 7)]) dX1_faultOfDrop_28 (by decide) rfl ?_
  refine e_iconst (x := (0 : Int32)) dX1_faultOfDrop_29 (by decide) ?_
  refine e_istore_n (lv' := [(2, .int (0 : Int32)), (1, .int x5), (0, .ref 7)]) dX1_faultOfDrop_30 (by decide) rfl ?_
  refine e_sub [2, 1, 0] rfl ?_
  exact b_X1_faultOfDrop_31  _ p4.2 x5 (0 : Int32) h
def f_X3_nextByte_43   (v : rV)  : Option (Int32 × rV) := (f_X6_byteAt v (v.1 3 3)).bind fun p1 =>
  some (p1, v)
def f_X3_nextByte_0   : Nat → rV → Option (Int32 × rV)
  | 0, _ => none
  | n + 1, v => if (v.1 1 1) ≤ (v.1 3 3) then
  (f_X3_nextByte_43  v)
else
  ((f_X6_byteAt v (v.1 3 3)).bind fun p2 =>
  if p2 = (32 : Int32) then
  (vlet (rI v 3 3 ((v.1 3 3) + (1 : Int32))) fun v3 =>
  f_X3_nextByte_0  n v3)
else
  (f_X3_nextByte_43  v))
def f_X3_nextByte (v : rV)  : Option (Int32 × rV) := f_X3_nextByte_0  20000 v
set_option maxRecDepth 20000 in
theorem b_X3_nextByte_43 {X : Nat × (Nat → Int32)} {r : Int32 × rV} {v : rV}     (h : f_X3_nextByte_43  v  = some r) : Ev mX3_nextByte 2 0 0 43 [(0, .ref 3)] [] (rZ X) v (rPI X r) := by
  unfold f_X3_nextByte_43 at h
  refine e_aload_n dX3_nextByte_43 rfl ?_
  refine e_get (w := .ref 1) (j := 0) dX3_nextByte_44 k0_3 rc3 (by decide) wfX3_24 (g0_3_0) ?_
  refine e_aload_n dX3_nextByte_47 rfl ?_
  refine e_get (w := .int (v.1 3 3)) (j := 3) dX3_nextByte_48 k0_3 rc3 (by decide) wfX3_44 rfl ?_
  obtain ⟨p1, ep1, h⟩ := Option.bind_eq_some_iff.mp h
  refine c_VI (M' := mX6_byteAt) [.int (v.1 3 3)] dX3_nextByte_51 rfl wmX3_64 imX6_byteAt seX6_byteAt lkX6_byteAt k0_1 rc6 (Nat.le_of_ble_eq_true rfl) ((x_X6_byteAt  ep1).mono (by decide)) ?_
  obtain rfl := Option.some.inj h
  exact e_iret dX3_nextByte_54 rfl rfl ⟨rfl, rfl, rfl⟩
set_option maxRecDepth 20000 in
theorem b_X3_nextByte_0 {X : Nat × (Nat → Int32)} {r : Int32 × rV}   : ∀ (n : Nat) (v : rV)  , f_X3_nextByte_0   n v  = some r → Ev mX3_nextByte 2 0 0 0 [(0, .ref 3)] [] (rZ X) v (rPI X r) := by
  intro n
  induction n with
  | zero =>
    intros
    rename_i h
    cases h
  | succ n ih =>
    intro v h
    rw [f_X3_nextByte_0] at h
    refine e_aload_n dX3_nextByte_0 rfl ?_
    refine e_get (w := .int (v.1 3 3)) (j := 3) dX3_nextByte_1 k0_3 rc3 (by decide) wfX3_44 rfl ?_
    refine e_aload_n dX3_nextByte_4 rfl ?_
    refine e_get (w := .ref 1) (j := 0) dX3_nextByte_5 k0_3 rc3 (by decide) wfX3_24 (g0_3_0) ?_
    refine e_get (w := .int (v.1 1 1)) (j := 1) dX3_nextByte_8 k0_1 rc6 (by decide) wfX3_61 rfl ?_
    refine e_icmp_ge (tgt := 43) dX3_nextByte_11 (by decide) (fun c5 => ?_) (fun c5 => ?_)
    · rw [if_pos c5] at h
      exact b_X3_nextByte_43  h
    · rw [if_neg c5] at h
      refine e_aload_n dX3_nextByte_14 rfl ?_
      refine e_get (w := .ref 1) (j := 0) dX3_nextByte_15 k0_3 rc3 (by decide) wfX3_24 (g0_3_0) ?_
      refine e_aload_n dX3_nextByte_18 rfl ?_
      refine e_get (w := .int (v.1 3 3)) (j := 3) dX3_nextByte_19 k0_3 rc3 (by decide) wfX3_44 rfl ?_
      obtain ⟨p2, ep2, h⟩ := Option.bind_eq_some_iff.mp h
      refine c_VI (M' := mX6_byteAt) [.int (v.1 3 3)] dX3_nextByte_22 rfl wmX3_64 imX6_byteAt seX6_byteAt lkX6_byteAt k0_1 rc6 (Nat.le_of_ble_eq_true rfl) ((x_X6_byteAt  ep2).mono (by decide)) ?_
      refine e_bipush (x := (32 : Int32)) dX3_nextByte_25 (by decide) ?_
      refine e_icmp_ne (tgt := 43) dX3_nextByte_27 (by decide) (fun c4 => ?_) (fun c4 => ?_)
      · rw [if_neg c4] at h
        exact b_X3_nextByte_43  h
      · rw [if_pos c4] at h
        refine e_aload_n dX3_nextByte_30 rfl ?_
        refine e_dup dX3_nextByte_31 rfl ?_
        refine e_get (w := .int (v.1 3 3)) (j := 3) dX3_nextByte_32 k0_3 rc3 (by decide) wfX3_44 rfl ?_
        refine e_iconst (x := (1 : Int32)) dX3_nextByte_35 (by decide) ?_
        refine e_iadd dX3_nextByte_36 ?_
        refine e_putI (j := 3) dX3_nextByte_37 k0_3 rc3 (by decide) wfX3_44 rfl rfl ?_
        obtain ⟨v3, ev3, h⟩ := vlet_ex h
        refine e_nameV ev3.symm ?_
        clear ev3
        refine e_goto (tgt := 0) dX3_nextByte_40 (by decide) ?_
        exact ih v3 h
set_option maxRecDepth 20000 in
theorem x_X3_nextByte {X : Nat × (Nat → Int32)} {v : rV} {r : Int32 × rV}   (h : f_X3_nextByte v = some r) : EvM mX3_nextByte 2 0 0 [.ref 3] (rZ X) v (rPI X r) := by
  refine evm_of (by decide +kernel) (fun G => Nat.le_of_ble_eq_true rfl) ?_
  show Ev mX3_nextByte 2 0 0 0 [(0, .ref 3)] [] (rZ X) v _
  unfold f_X3_nextByte at h
  exact b_X3_nextByte_0  _ v h
def f_X3_goesOnWith (v : rV) (a1 : Int32) : Option (Bool × rV) := (f_X3_nextByte v).bind fun p1 =>
  if p1.1 = a1 then
  (vlet (rI p1.2 3 3 ((p1.2.1 3 3) + (1 : Int32))) fun v2 =>
  some (true, v2))
else
  (some (false, p1.2))
set_option maxRecDepth 20000 in
theorem x_X3_goesOnWith {X : Nat × (Nat → Int32)} {v : rV} {r : Bool × rV} {a1 : Int32}  (h : f_X3_goesOnWith v a1 = some r) : EvM mX3_goesOnWith 3 0 0 [.ref 3, .int a1] (rZ X) v (rPZ X r) := by
  refine evm_of (by decide +kernel) (fun G => Nat.le_of_ble_eq_true rfl) ?_
  show Ev mX3_goesOnWith 3 0 0 0 [(0, .ref 3), (1, .int a1)] [] (rZ X) v _
  unfold f_X3_goesOnWith at h
  refine e_aload_n dX3_goesOnWith_0 rfl ?_
  obtain ⟨p1, ep1, h⟩ := Option.bind_eq_some_iff.mp h
  refine c_VI (M' := mX3_nextByte) [] dX3_goesOnWith_1 rfl wmX3_40 imX3_nextByte seX3_nextByte lkX3_nextByte k0_3 rc3 (Nat.le_of_ble_eq_true rfl) ((x_X3_nextByte  ep1).mono (by decide)) ?_
  refine e_iload_n dX3_goesOnWith_4 rfl ?_
  refine e_icmp_eq (tgt := 10) dX3_goesOnWith_5 (by decide) (fun c3 => ?_) (fun c3 => ?_)
  · rw [if_pos c3] at h
    refine e_aload_n dX3_goesOnWith_10 rfl ?_
    refine e_dup dX3_goesOnWith_11 rfl ?_
    refine e_get (w := .int (p1.2.1 3 3)) (j := 3) dX3_goesOnWith_12 k0_3 rc3 (by decide) wfX3_44 rfl ?_
    refine e_iconst (x := (1 : Int32)) dX3_goesOnWith_15 (by decide) ?_
    refine e_iadd dX3_goesOnWith_16 ?_
    refine e_putI (j := 3) dX3_goesOnWith_17 k0_3 rc3 (by decide) wfX3_44 rfl rfl ?_
    obtain ⟨v2, ev2, h⟩ := vlet_ex h
    refine e_nameV ev2.symm ?_
    clear ev2
    refine e_iconst (x := (1 : Int32)) dX3_goesOnWith_20 (by decide) ?_
    obtain rfl := Option.some.inj h
    exact e_iret dX3_goesOnWith_21 rfl rfl ⟨rfl, rfl, rfl⟩
  · rw [if_neg c3] at h
    refine e_iconst (x := (0 : Int32)) dX3_goesOnWith_8 (by decide) ?_
    obtain rfl := Option.some.inj h
    exact e_iret dX3_goesOnWith_9 rfl rfl ⟨rfl, rfl, rfl⟩
def f_X3_readNumber_71   (v : rV) (a1 : Int32) (a2 : Int32) : Option (Bool × rV) := (f_X2_add v 4 a1).bind fun p2 =>
  if a2 < (48 : Int32) then
  (some (true, p2))
else
  (if a2 ≤ (57 : Int32) then
  (some (false, p2))
else
  (some (true, p2)))
def f_X3_readNumber_16   : Nat → rV → Int32 → Int32 → Int32 → Option (Bool × rV)
  | 0, _, _, _, _ => none
  | n + 1, v, a1, a2, a3 => if (4 : Int32) ≤ a3 then
  (f_X3_readNumber_71  v a1 a2)
else
  (if a2 < (48 : Int32) then
  (f_X3_readNumber_71  v a1 a2)
else
  (if (57 : Int32) < a2 then
  (f_X3_readNumber_71  v a1 a2)
else
  (vlet (((a1 * (10 : Int32)) + a2) - (48 : Int32) : Int32) fun x5 =>
  vlet (rI v 3 3 ((v.1 3 3) + (1 : Int32))) fun v6 =>
  (f_X6_byteAt v6 (v6.1 3 3)).bind fun p7 =>
  vlet (a3 + (1 : Int32)) fun x8 =>
  f_X3_readNumber_16  n v6 x5 p7 x8)))
def f_X3_readNumber (v : rV)  : Option (Bool × rV) := (f_X6_byteAt v (v.1 3 3)).bind fun p1 =>
  f_X3_readNumber_16  20000 v (0 : Int32) p1 (0 : Int32)
set_option maxRecDepth 20000 in
theorem b_X3_readNumber_71 {X : Nat × (Nat → Int32)} {r : Bool × rV} {v : rV}   {a1 : Int32} {a2 : Int32}  (h : f_X3_readNumber_71  v a1 a2 = some r) : Ev mX3_readNumber 2 0 0 71 [(0, .ref 3), (1, .int a1), (2, .int a2)] [] (rZ X) v (rPZ X r) := by
  unfold f_X3_readNumber_71 at h
  refine e_aload_n dX3_readNumber_71 rfl ?_
  refine e_get (w := .ref 4) (j := 1) dX3_readNumber_72 k0_3 rc3 (by decide) wfX3_12 (g0_3_1) ?_
  refine e_iload_n dX3_readNumber_75 rfl ?_
  obtain ⟨p2, ep2, h⟩ := Option.bind_eq_some_iff.mp h
  refine c_VV (M' := mX2_add) [.int a1] dX3_readNumber_76 rfl wmX3_54 imX2_add seX2_add lkX2_add k0_4 rc2 (Nat.le_of_ble_eq_true rfl) ((x_X2_add (by decide) ep2).mono (by decide)) ?_
  refine e_iload_n dX3_readNumber_79 rfl ?_
  refine e_bipush (x := (48 : Int32)) dX3_readNumber_80 (by decide) ?_
  refine e_icmp_lt (tgt := 91) dX3_readNumber_82 (by decide) (fun c4 => ?_) (fun c4 => ?_)
  · rw [if_pos c4] at h
    refine e_iconst (x := (1 : Int32)) dX3_readNumber_91 (by decide) ?_
    refine e_goto (tgt := 96) dX3_readNumber_92 (by decide) ?_
    obtain rfl := Option.some.inj h
    exact e_iret dX3_readNumber_96 rfl rfl ⟨rfl, rfl, rfl⟩
  · rw [if_neg c4] at h
    refine e_iload_n dX3_readNumber_85 rfl ?_
    refine e_bipush (x := (57 : Int32)) dX3_readNumber_86 (by decide) ?_
    refine e_icmp_le (tgt := 95) dX3_readNumber_88 (by decide) (fun c3 => ?_) (fun c3 => ?_)
    · rw [if_pos c3] at h
      refine e_iconst (x := (0 : Int32)) dX3_readNumber_95 (by decide) ?_
      obtain rfl := Option.some.inj h
      exact e_iret dX3_readNumber_96 rfl rfl ⟨rfl, rfl, rfl⟩
    · rw [if_neg c3] at h
      refine e_iconst (x := (1 : Int32)) dX3_readNumber_91 (by decide) ?_
      refine e_goto (tgt := 96) dX3_readNumber_92 (by decide) ?_
      obtain rfl := Option.some.inj h
      exact e_iret dX3_readNumber_96 rfl rfl ⟨rfl, rfl, rfl⟩
set_option maxRecDepth 20000 in
theorem b_X3_readNumber_16 {X : Nat × (Nat → Int32)} {r : Bool × rV}   : ∀ (n : Nat) (v : rV) (a1 : Int32) (a2 : Int32) (a3 : Int32) , f_X3_readNumber_16   n v a1 a2 a3 = some r → Ev mX3_readNumber 2 0 0 16 [(0, .ref 3), (1, .int a1), (2, .int a2), (3, .int a3)] [] (rZ X) v (rPZ X r) := by
  intro n
  induction n with
  | zero =>
    intros
    rename_i h
    cases h
  | succ n ih =>
    intro v a1 a2 a3 h
    rw [f_X3_readNumber_16] at h
    refine e_iload_n dX3_readNumber_16 rfl ?_
    refine e_iconst (x := (4 : Int32)) dX3_readNumber_17 (by decide) ?_
    refine e_icmp_ge (tgt := 71) dX3_readNumber_18 (by decide) (fun c11 => ?_) (fun c11 => ?_)
    · rw [if_pos c11] at h
      refine e_sub [0, 1, 2] rfl ?_
      exact b_X3_readNumber_71  h
    · rw [if_neg c11] at h
      refine e_iload_n dX3_readNumber_21 rfl ?_
      refine e_bipush (x := (48 : Int32)) dX3_readNumber_22 (by decide) ?_
      refine e_icmp_lt (tgt := 71) dX3_readNumber_24 (by decide) (fun c10 => ?_) (fun c10 => ?_)
      · rw [if_pos c10] at h
        refine e_sub [0, 1, 2] rfl ?_
        exact b_X3_readNumber_71  h
      · rw [if_neg c10] at h
        refine e_iload_n dX3_readNumber_27 rfl ?_
        refine e_bipush (x := (57 : Int32)) dX3_readNumber_28 (by decide) ?_
        refine e_icmp_gt (tgt := 71) dX3_readNumber_30 (by decide) (fun c9 => ?_) (fun c9 => ?_)
        · rw [if_pos c9] at h
          refine e_sub [0, 1, 2] rfl ?_
          exact b_X3_readNumber_71  h
        · rw [if_neg c9] at h
          refine e_iload_n dX3_readNumber_33 rfl ?_
          refine e_bipush (x := (10 : Int32)) dX3_readNumber_34 (by decide) ?_
          refine e_imul dX3_readNumber_36 ?_
          refine e_iload_n dX3_readNumber_37 rfl ?_
          refine e_iadd dX3_readNumber_38 ?_
          refine e_bipush (x := (48 : Int32)) dX3_readNumber_39 (by decide) ?_
          refine e_isub dX3_readNumber_41 ?_
          obtain ⟨x5, ex5, h⟩ := vlet_ex h
          refine e_nameI ex5.symm ?_
          clear ex5
          refine e_istore_n (lv' := [(1, .int x5), (0, .ref 3), (2, .int a2), (3, .int a3)]) dX3_readNumber_42 (by decide) rfl ?_
          refine e_aload_n dX3_readNumber_43 rfl ?_
          refine e_dup dX3_readNumber_44 rfl ?_
          refine e_get (w := .int (v.1 3 3)) (j := 3) dX3_readNumber_45 k0_3 rc3 (by decide) wfX3_44 rfl ?_
          refine e_iconst (x := (1 : Int32)) dX3_readNumber_48 (by decide) ?_
          refine e_iadd dX3_readNumber_49 ?_
          refine e_putI (j := 3) dX3_readNumber_50 k0_3 rc3 (by decide) wfX3_44 rfl rfl ?_
          obtain ⟨v6, ev6, h⟩ := vlet_ex h
          refine e_nameV ev6.symm ?_
          clear ev6
          refine e_aload_n dX3_readNumber_53 rfl ?_
          refine e_get (w := .ref 1) (j := 0) dX3_readNumber_54 k0_3 rc3 (by decide) wfX3_24 (g0_3_0) ?_
          refine e_aload_n dX3_readNumber_57 rfl ?_
          refine e_get (w := .int (v6.1 3 3)) (j := 3) dX3_readNumber_58 k0_3 rc3 (by decide) wfX3_44 rfl ?_
          obtain ⟨p7, ep7, h⟩ := Option.bind_eq_some_iff.mp h
          refine c_VI (M' := mX6_byteAt) [.int (v6.1 3 3)] dX3_readNumber_61 rfl wmX3_64 imX6_byteAt seX6_byteAt lkX6_byteAt k0_1 rc6 (Nat.le_of_ble_eq_true rfl) ((x_X6_byteAt  ep7).mono (by decide)) ?_
          refine e_istore_n (lv' := [(2, .int p7), (1, .int x5), (0, .ref 3), (3, .int a3)]) dX3_readNumber_64 (by decide) rfl ?_
          obtain ⟨x8, ex8, h⟩ := vlet_ex h
          refine e_iinc (lv' := [(3, .int x8), (2, .int p7), (1, .int x5), (0, .ref 3)]) dX3_readNumber_65 rfl (ex8.symm) (by decide) rfl ?_
          clear ex8
          refine e_goto (tgt := 16) dX3_readNumber_68 (by decide) ?_
          refine e_sub [3, 2, 1, 0] rfl ?_
          exact ih v6 x5 p7 x8 h
set_option maxRecDepth 20000 in
theorem x_X3_readNumber {X : Nat × (Nat → Int32)} {v : rV} {r : Bool × rV}   (h : f_X3_readNumber v = some r) : EvM mX3_readNumber 2 0 0 [.ref 3] (rZ X) v (rPZ X r) := by
  refine evm_of (by decide +kernel) (fun G => Nat.le_of_ble_eq_true rfl) ?_
  show Ev mX3_readNumber 2 0 0 0 [(0, .ref 3)] [] (rZ X) v _
  unfold f_X3_readNumber at h
  refine e_iconst (x := (0 : Int32)) dX3_readNumber_0 (by decide) ?_
  refine e_istore_n (lv' := [(1, .int (0 : Int32)), (0, .ref 3)]) dX3_readNumber_1 (by decide) rfl ?_
  refine e_aload_n dX3_readNumber_2 rfl ?_
  refine e_get (w := .ref 1) (j := 0) dX3_readNumber_3 k0_3 rc3 (by decide) wfX3_24 (g0_3_0) ?_
  refine e_aload_n dX3_readNumber_6 rfl ?_
  refine e_get (w := .int (v.1 3 3)) (j := 3) dX3_readNumber_7 k0_3 rc3 (by decide) wfX3_44 rfl ?_
  obtain ⟨p1, ep1, h⟩ := Option.bind_eq_some_iff.mp h
  refine c_VI (M' := mX6_byteAt) [.int (v.1 3 3)] dX3_readNumber_10 rfl wmX3_64 imX6_byteAt seX6_byteAt lkX6_byteAt k0_1 rc6 (Nat.le_of_ble_eq_true rfl) ((x_X6_byteAt  ep1).mono (by decide)) ?_
  refine e_istore_n (lv' := [(2, .int p1), (1, .int (0 : Int32)), (0, .ref 3)]) dX3_readNumber_13 (by decide) rfl ?_
  refine e_iconst (x := (0 : Int32)) dX3_readNumber_14 (by decide) ?_
  refine e_istore_n (lv' := [(3, .int (0 : Int32)), (2, .int p1), (1, .int (0 : Int32)), (0, .ref 3)]) dX3_readNumber_15 (by decide) rfl ?_
  refine e_sub [3, 2, 1, 0] rfl ?_
  exact b_X3_readNumber_16  _ v (0 : Int32) p1 (0 : Int32) h
def f_X3_isComparison (a0 : Int32) : Bool := if a0 = (61 : Int32) then
  (true)
else
  (if a0 = (60 : Int32) then
  (true)
else
  (if a0 = (62 : Int32) then
  (true)
else
  (false)))
set_option maxRecDepth 20000 in
theorem x_X3_isComparison {X : Nat × (Nat → Int32)} {v : rV} {a0 : Int32}  : EvM mX3_isComparison 1 0 0 [.int a0] (rZ X) v (rPZ X ((f_X3_isComparison a0), v)) := by
  refine evm_of (by decide +kernel) (fun G => Nat.le_of_ble_eq_true rfl) ?_
  show Ev mX3_isComparison 1 0 0 0 [(0, .int a0)] [] (rZ X) v _
  generalize h : f_X3_isComparison a0 = r
  unfold f_X3_isComparison at h
  refine e_iload_n dX3_isComparison_0 rfl ?_
  refine e_bipush (x := (61 : Int32)) dX3_isComparison_1 (by decide) ?_
  refine e_icmp_eq (tgt := 18) dX3_isComparison_3 (by decide) (fun c3 => ?_) (fun c3 => ?_)
  · rw [if_pos c3] at h
    refine e_iconst (x := (1 : Int32)) dX3_isComparison_18 (by decide) ?_
    refine e_goto (tgt := 23) dX3_isComparison_19 (by decide) ?_
    subst h
    exact e_iret dX3_isComparison_23 rfl rfl ⟨rfl, rfl, rfl⟩
  · rw [if_neg c3] at h
    refine e_iload_n dX3_isComparison_6 rfl ?_
    refine e_bipush (x := (60 : Int32)) dX3_isComparison_7 (by decide) ?_
    refine e_icmp_eq (tgt := 18) dX3_isComparison_9 (by decide) (fun c2 => ?_) (fun c2 => ?_)
    · rw [if_pos c2] at h
      refine e_iconst (x := (1 : Int32)) dX3_isComparison_18 (by decide) ?_
      refine e_goto (tgt := 23) dX3_isComparison_19 (by decide) ?_
      subst h
      exact e_iret dX3_isComparison_23 rfl rfl ⟨rfl, rfl, rfl⟩
    · rw [if_neg c2] at h
      refine e_iload_n dX3_isComparison_12 rfl ?_
      refine e_bipush (x := (62 : Int32)) dX3_isComparison_13 (by decide) ?_
      refine e_icmp_ne (tgt := 22) dX3_isComparison_15 (by decide) (fun c1 => ?_) (fun c1 => ?_)
      · rw [if_neg c1] at h
        refine e_iconst (x := (0 : Int32)) dX3_isComparison_22 (by decide) ?_
        subst h
        exact e_iret dX3_isComparison_23 rfl rfl ⟨rfl, rfl, rfl⟩
      · rw [if_pos c1] at h
        refine e_iconst (x := (1 : Int32)) dX3_isComparison_18 (by decide) ?_
        refine e_goto (tgt := 23) dX3_isComparison_19 (by decide) ?_
        subst h
        exact e_iret dX3_isComparison_23 rfl rfl ⟨rfl, rfl, rfl⟩
