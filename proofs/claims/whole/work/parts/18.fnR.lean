/-! methods as functions over the numbered heap: 18.fnR -/
def f_X1_nextByte_43   (v : rV)  : Option (Int32 × rV) := (f_X6_byteAt v (v.1 7 3)).bind fun p1 =>
  some (p1, v)
def f_X1_nextByte_0   : Nat → rV → Option (Int32 × rV)
  | 0, _ => none
  | n + 1, v => if (v.1 1 1) ≤ (v.1 7 3) then
  (f_X1_nextByte_43  v)
else
  ((f_X6_byteAt v (v.1 7 3)).bind fun p2 =>
  if p2 = (32 : Int32) then
  (vlet (rI v 7 3 ((v.1 7 3) + (1 : Int32))) fun v3 =>
  f_X1_nextByte_0  n v3)
else
  (f_X1_nextByte_43  v))
def f_X1_nextByte (v : rV)  : Option (Int32 × rV) := f_X1_nextByte_0  20000 v
set_option maxRecDepth 20000 in
theorem b_X1_nextByte_43 {X : Nat × (Nat → Int32)} {r : Int32 × rV} {v : rV}     (h : f_X1_nextByte_43  v  = some r) : Ev mX1_nextByte 2 0 0 43 [(0, .ref 7)] [] (rZ X) v (rPI X r) := by
  unfold f_X1_nextByte_43 at h
  refine e_aload_n dX1_nextByte_43 rfl ?_
  refine e_get (w := .ref 1) (j := 0) dX1_nextByte_44 k0_7 rc1 (by decide) wfX1_15 (g0_7_0) ?_
  refine e_aload_n dX1_nextByte_47 rfl ?_
  refine e_get (w := .int (v.1 7 3)) (j := 3) dX1_nextByte_48 k0_7 rc1 (by decide) wfX1_19 rfl ?_
  obtain ⟨p1, ep1, h⟩ := Option.bind_eq_some_iff.mp h
  refine c_VI (M' := mX6_byteAt) [.int (v.1 7 3)] dX1_nextByte_51 rfl wmX1_48 imX6_byteAt seX6_byteAt lkX6_byteAt k0_1 rc6 (Nat.le_of_ble_eq_true rfl) ((x_X6_byteAt  ep1).mono (by omega)) ?_
  obtain rfl := Option.some.inj h
  exact e_iret dX1_nextByte_54 rfl rfl ⟨rfl, rfl, rfl⟩
set_option maxRecDepth 20000 in
theorem b_X1_nextByte_0 {X : Nat × (Nat → Int32)} {r : Int32 × rV}   : ∀ (n : Nat) (v : rV)  , f_X1_nextByte_0   n v  = some r → Ev mX1_nextByte 2 0 0 0 [(0, .ref 7)] [] (rZ X) v (rPI X r) := by
  intro n
  induction n with
  | zero =>
    intros
    rename_i h
    cases h
  | succ n ih =>
    intro v h
    rw [f_X1_nextByte_0] at h
    refine e_aload_n dX1_nextByte_0 rfl ?_
    refine e_get (w := .int (v.1 7 3)) (j := 3) dX1_nextByte_1 k0_7 rc1 (by decide) wfX1_19 rfl ?_
    refine e_aload_n dX1_nextByte_4 rfl ?_
    refine e_get (w := .ref 1) (j := 0) dX1_nextByte_5 k0_7 rc1 (by decide) wfX1_15 (g0_7_0) ?_
    refine e_get (w := .int (v.1 1 1)) (j := 1) dX1_nextByte_8 k0_1 rc6 (by decide) wfX1_43 rfl ?_
    refine e_icmp_ge (tgt := 43) dX1_nextByte_11 (by decide) (fun c5 => ?_) (fun c5 => ?_)
    · rw [if_pos c5] at h
      exact b_X1_nextByte_43  h
    · rw [if_neg c5] at h
      refine e_aload_n dX1_nextByte_14 rfl ?_
      refine e_get (w := .ref 1) (j := 0) dX1_nextByte_15 k0_7 rc1 (by decide) wfX1_15 (g0_7_0) ?_
      refine e_aload_n dX1_nextByte_18 rfl ?_
      refine e_get (w := .int (v.1 7 3)) (j := 3) dX1_nextByte_19 k0_7 rc1 (by decide) wfX1_19 rfl ?_
      obtain ⟨p2, ep2, h⟩ := Option.bind_eq_some_iff.mp h
      refine c_VI (M' := mX6_byteAt) [.int (v.1 7 3)] dX1_nextByte_22 rfl wmX1_48 imX6_byteAt seX6_byteAt lkX6_byteAt k0_1 rc6 (Nat.le_of_ble_eq_true rfl) ((x_X6_byteAt  ep2).mono (by omega)) ?_
      refine e_bipush (x := (32 : Int32)) dX1_nextByte_25 (by decide) ?_
      refine e_icmp_ne (tgt := 43) dX1_nextByte_27 (by decide) (fun c4 => ?_) (fun c4 => ?_)
      · rw [if_neg c4] at h
        exact b_X1_nextByte_43  h
      · rw [if_pos c4] at h
        refine e_aload_n dX1_nextByte_30 rfl ?_
        refine e_dup dX1_nextByte_31 rfl ?_
        refine e_get (w := .int (v.1 7 3)) (j := 3) dX1_nextByte_32 k0_7 rc1 (by decide) wfX1_19 rfl ?_
        refine e_iconst (x := (1 : Int32)) dX1_nextByte_35 (by decide) ?_
        refine e_iadd dX1_nextByte_36 ?_
        refine e_putI (j := 3) dX1_nextByte_37 k0_7 rc1 (by decide) wfX1_19 rfl rfl ?_
        obtain ⟨v3, ev3, h⟩ := vlet_ex h
        refine e_nameV ev3.symm ?_
        clear ev3
        refine e_goto (tgt := 0) dX1_nextByte_40 (by decide) ?_
        exact ih v3 h
set_option maxRecDepth 20000 in
theorem x_X1_nextByte {X : Nat × (Nat → Int32)} {v : rV} {r : Int32 × rV}   (h : f_X1_nextByte v = some r) : EvM mX1_nextByte 2 0 0 [.ref 7] (rZ X) v (rPI X r) := by
  refine evm_of (by decide +kernel) (fun G => Nat.le_of_ble_eq_true rfl) ?_
  show Ev mX1_nextByte 2 0 0 0 [(0, .ref 7)] [] (rZ X) v _
  unfold f_X1_nextByte at h
  exact b_X1_nextByte_0  _ v h
def f_X1_readNumber_107   (v : rV)  : Option (Bool × rV) := vlet (rI v 7 3 ((v.1 7 3) - (1 : Int32))) fun v3 =>
  some (false, v3)
def f_X1_readNumber_89   (v : rV) (a1 : Int32) (a2 : Int32) : Option (Bool × rV) := if ¬ a1 < 0 ∧ a1.toNatClampNeg < 12 then
  (if a2 < ((rtb.getD 0 []).getD a1.toNatClampNeg 0) then
  (f_X1_readNumber_107  v)
else
  (if a2 ≤ ((rtb.getD 1 []).getD a1.toNatClampNeg 0) then
  (vlet (rI v 8 a1.toNatClampNeg a2) fun v4 =>
  some (true, v4))
else
  (f_X1_readNumber_107  v)))
else none
def f_X1_readNumber_69   (v : rV) (a1 : Int32) (a2 : Int32) (a3 : Int32) (a4 : Int32) : Option (Bool × rV) := if a3 = 0 then
  (some (false, v))
else
  (if a4 < (48 : Int32) then
  (f_X1_readNumber_89  v a1 a2)
else
  (if (57 : Int32) < a4 then
  (f_X1_readNumber_89  v a1 a2)
else
  (some (false, v))))
def f_X1_readNumber_10   : Nat → rV → Int32 → Int32 → Int32 → Int32 → Option (Bool × rV)
  | 0, _, _, _, _, _ => none
  | n + 1, v, a1, a2, a3, a4 => if (4 : Int32) ≤ a3 then
  (f_X1_readNumber_69  v a1 a2 a3 a4)
else
  (if a4 < (48 : Int32) then
  (f_X1_readNumber_69  v a1 a2 a3 a4)
else
  (if (57 : Int32) < a4 then
  (f_X1_readNumber_69  v a1 a2 a3 a4)
else
  (vlet (((a2 * (10 : Int32)) + a4) - (48 : Int32) : Int32) fun x10 =>
  vlet (a3 + (1 : Int32)) fun x11 =>
  vlet (rI v 7 3 ((v.1 7 3) + (1 : Int32))) fun v12 =>
  (f_X6_byteAt v12 (v12.1 7 3)).bind fun p13 =>
  f_X1_readNumber_10  n v12 a1 x10 x11 p13)))
def f_X1_readNumber (v : rV) (a1 : Int32) : Option (Bool × rV) := (f_X1_nextByte v).bind fun p1 =>
  f_X1_readNumber_10  20000 p1.2 a1 (0 : Int32) (0 : Int32) p1.1
set_option maxRecDepth 20000 in
theorem b_X1_readNumber_107 {X : Nat × (Nat → Int32)} {r : Bool × rV} {v : rV}     (h : f_X1_readNumber_107  v  = some r) : Ev mX1_readNumber 3 0 0 107 [(0, .ref 7)] [] (rZ X) v (rPZ X r) := by
  unfold f_X1_readNumber_107 at h
  refine e_aload_n dX1_readNumber_107 rfl ?_
  refine e_dup dX1_readNumber_108 rfl ?_
  refine e_get (w := .int (v.1 7 3)) (j := 3) dX1_readNumber_109 k0_7 rc1 (by decide) wfX1_19 rfl ?_
  refine e_iconst (x := (1 : Int32)) dX1_readNumber_112 (by decide) ?_
  refine e_isub dX1_readNumber_113 ?_
  refine e_putI (j := 3) dX1_readNumber_114 k0_7 rc1 (by decide) wfX1_19 rfl rfl ?_
  obtain ⟨v3, ev3, h⟩ := vlet_ex h
  refine e_nameV ev3.symm ?_
  clear ev3
  refine e_iconst (x := (0 : Int32)) dX1_readNumber_117 (by decide) ?_
  obtain rfl := Option.some.inj h
  exact e_iret dX1_readNumber_118 rfl rfl ⟨rfl, rfl, rfl⟩
set_option maxRecDepth 20000 in
theorem b_X1_readNumber_89 {X : Nat × (Nat → Int32)} {r : Bool × rV} {v : rV}   {a1 : Int32} {a2 : Int32}  (h : f_X1_readNumber_89  v a1 a2 = some r) : Ev mX1_readNumber 3 0 0 89 [(0, .ref 7), (1, .int a1), (2, .int a2)] [] (rZ X) v (rPZ X r) := by
  unfold f_X1_readNumber_89 at h
  refine e_iload_n dX1_readNumber_89 rfl ?_
  refine e_gst0 dX1_readNumber_90 wfX1_67 ?_
  refine e_iload_n dX1_readNumber_93 rfl ?_
  obtain ⟨c2, h⟩ := grd h
  refine e_tld (i := 0) (by decide) dX1_readNumber_94 rfl c2.2 c2.1 ?_
  refine e_icmp_lt (tgt := 107) dX1_readNumber_95 (by decide) (fun c6 => ?_) (fun c6 => ?_)
  · rw [if_pos c6] at h
    refine e_sub [0] rfl ?_
    exact b_X1_readNumber_107  h
  · rw [if_neg c6] at h
    refine e_iload_n dX1_readNumber_98 rfl ?_
    refine e_gst1 dX1_readNumber_99 wfX1_70 ?_
    refine e_iload_n dX1_readNumber_102 rfl ?_
    refine e_tld (i := 1) (by decide) dX1_readNumber_103 rfl (c2).2 (c2).1 ?_
    refine e_icmp_le (tgt := 119) dX1_readNumber_104 (by decide) (fun c5 => ?_) (fun c5 => ?_)
    · rw [if_pos c5] at h
      refine e_aload_n dX1_readNumber_119 rfl ?_
      refine e_get (w := .ref 8) (j := 1) dX1_readNumber_120 k0_7 rc1 (by decide) wfX1_9 (g0_7_1) ?_
      refine e_iload_n dX1_readNumber_123 rfl ?_
      refine e_iload_n dX1_readNumber_124 rfl ?_
      refine e_iastJ dX1_readNumber_125 k0_8 rfl (c2).2 (c2).1 ?_
      obtain ⟨v4, ev4, h⟩ := vlet_ex h
      refine e_nameV ev4.symm ?_
      clear ev4
      refine e_iconst (x := (1 : Int32)) dX1_readNumber_126 (by decide) ?_
      obtain rfl := Option.some.inj h
      exact e_iret dX1_readNumber_127 rfl rfl ⟨rfl, rfl, rfl⟩
    · rw [if_neg c5] at h
      refine e_sub [0] rfl ?_
      exact b_X1_readNumber_107  h
set_option maxRecDepth 20000 in
theorem b_X1_readNumber_69 {X : Nat × (Nat → Int32)} {r : Bool × rV} {v : rV}   {a1 : Int32} {a2 : Int32} {a3 : Int32} {a4 : Int32}  (h : f_X1_readNumber_69  v a1 a2 a3 a4 = some r) : Ev mX1_readNumber 3 0 0 69 [(0, .ref 7), (1, .int a1), (2, .int a2), (3, .int a3), (4, .int a4)] [] (rZ X) v (rPZ X r) := by
  unfold f_X1_readNumber_69 at h
  refine e_iload_n dX1_readNumber_69 rfl ?_
  refine e_if_eq (tgt := 87) dX1_readNumber_70 (by decide) (fun c9 => ?_) (fun c9 => ?_)
  · rw [if_pos c9] at h
    refine e_iconst (x := (0 : Int32)) dX1_readNumber_87 (by decide) ?_
    obtain rfl := Option.some.inj h
    exact e_iret dX1_readNumber_88 rfl rfl ⟨rfl, rfl, rfl⟩
  · rw [if_neg c9] at h
    refine e_iload dX1_readNumber_73 rfl ?_
    refine e_bipush (x := (48 : Int32)) dX1_readNumber_75 (by decide) ?_
    refine e_icmp_lt (tgt := 89) dX1_readNumber_77 (by decide) (fun c8 => ?_) (fun c8 => ?_)
    · rw [if_pos c8] at h
      refine e_sub [0, 1, 2] rfl ?_
      exact b_X1_readNumber_89  h
    · rw [if_neg c8] at h
      refine e_iload dX1_readNumber_80 rfl ?_
      refine e_bipush (x := (57 : Int32)) dX1_readNumber_82 (by decide) ?_
      refine e_icmp_gt (tgt := 89) dX1_readNumber_84 (by decide) (fun c7 => ?_) (fun c7 => ?_)
      · rw [if_pos c7] at h
        refine e_sub [0, 1, 2] rfl ?_
        exact b_X1_readNumber_89  h
      · rw [if_neg c7] at h
        refine e_iconst (x := (0 : Int32)) dX1_readNumber_87 (by decide) ?_
        obtain rfl := Option.some.inj h
        exact e_iret dX1_readNumber_88 rfl rfl ⟨rfl, rfl, rfl⟩
set_option maxRecDepth 20000 in
theorem b_X1_readNumber_10 {X : Nat × (Nat → Int32)} {r : Bool × rV}   : ∀ (n : Nat) (v : rV) (a1 : Int32) (a2 : Int32) (a3 : Int32) (a4 : Int32) , f_X1_readNumber_10   n v a1 a2 a3 a4 = some r → Ev mX1_readNumber 3 0 0 10 [(0, .ref 7), (1, .int a1), (2, .int a2), (3, .int a3), (4, .int a4)] [] (rZ X) v (rPZ X r) := by
  intro n
  induction n with
  | zero =>
    intros
    rename_i h
    cases h
  | succ n ih =>
    intro v a1 a2 a3 a4 h
    rw [f_X1_readNumber_10] at h
    refine e_iload_n dX1_readNumber_10 rfl ?_
    refine e_iconst (x := (4 : Int32)) dX1_readNumber_11 (by decide) ?_
    refine e_icmp_ge (tgt := 69) dX1_readNumber_12 (by decide) (fun c16 => ?_) (fun c16 => ?_)
    · rw [if_pos c16] at h
      exact b_X1_readNumber_69  h
    · rw [if_neg c16] at h
      refine e_iload dX1_readNumber_15 rfl ?_
      refine e_bipush (x := (48 : Int32)) dX1_readNumber_17 (by decide) ?_
      refine e_icmp_lt (tgt := 69) dX1_readNumber_19 (by decide) (fun c15 => ?_) (fun c15 => ?_)
      · rw [if_pos c15] at h
        exact b_X1_readNumber_69  h
      · rw [if_neg c15] at h
        refine e_iload dX1_readNumber_22 rfl ?_
        refine e_bipush (x := (57 : Int32)) dX1_readNumber_24 (by decide) ?_
        refine e_icmp_gt (tgt := 69) dX1_readNumber_26 (by decide) (fun c14 => ?_) (fun c14 => ?_)
        · rw [if_pos c14] at h
          exact b_X1_readNumber_69  h
        · rw [if_neg c14] at h
          refine e_iload_n dX1_readNumber_29 rfl ?_
          refine e_bipush (x := (10 : Int32)) dX1_readNumber_30 (by decide) ?_
          refine e_imul dX1_readNumber_32 ?_
          refine e_iload dX1_readNumber_33 rfl ?_
          refine e_iadd dX1_readNumber_35 ?_
          refine e_bipush (x := (48 : Int32)) dX1_readNumber_36 (by decide) ?_
          refine e_isub dX1_readNumber_38 ?_
          obtain ⟨x10, ex10, h⟩ := vlet_ex h
          refine e_nameI ex10.symm ?_
          clear ex10
          refine e_istore_n (lv' := [(2, .int x10), (0, .ref 7), (1, .int a1), (3, .int a3), (4, .int a4)]) dX1_readNumber_39 (by decide) rfl ?_
          obtain ⟨x11, ex11, h⟩ := vlet_ex h
          refine e_iinc (lv' := [(3, .int x11), (2, .int x10), (0, .ref 7), (1, .int a1), (4, .int a4)]) dX1_readNumber_40 rfl (ex11.symm) (by decide) rfl ?_
          clear ex11
          refine e_aload_n dX1_readNumber_43 rfl ?_
          refine e_dup dX1_readNumber_44 rfl ?_
          refine e_get (w := .int (v.1 7 3)) (j := 3) dX1_readNumber_45 k0_7 rc1 (by decide) wfX1_19 rfl ?_
          refine e_iconst (x := (1 : Int32)) dX1_readNumber_48 (by decide) ?_
          refine e_iadd dX1_readNumber_49 ?_
          refine e_putI (j := 3) dX1_readNumber_50 k0_7 rc1 (by decide) wfX1_19 rfl rfl ?_
          obtain ⟨v12, ev12, h⟩ := vlet_ex h
          refine e_nameV ev12.symm ?_
          clear ev12
          refine e_aload_n dX1_readNumber_53 rfl ?_
          refine e_get (w := .ref 1) (j := 0) dX1_readNumber_54 k0_7 rc1 (by decide) wfX1_15 (g0_7_0) ?_
          refine e_aload_n dX1_readNumber_57 rfl ?_
          refine e_get (w := .int (v12.1 7 3)) (j := 3) dX1_readNumber_58 k0_7 rc1 (by decide) wfX1_19 rfl ?_
          obtain ⟨p13, ep13, h⟩ := Option.bind_eq_some_iff.mp h
          refine c_VI (M' := mX6_byteAt) [.int (v12.1 7 3)] dX1_readNumber_61 rfl wmX1_48 imX6_byteAt seX6_byteAt lkX6_byteAt k0_1 rc6 (Nat.le_of_ble_eq_true rfl) ((x_X6_byteAt  ep13).mono (by omega)) ?_
          refine e_istore (lv' := [(4, .int p13), (3, .int x11), (2, .int x10), (0, .ref 7), (1, .int a1)]) dX1_readNumber_64 (by decide) rfl ?_
          refine e_goto (tgt := 10) dX1_readNumber_66 (by decide) ?_
          refine e_sub [3, 4, 2, 1, 0] rfl ?_
          exact ih v12 a1 x10 x11 p13 h
set_option maxRecDepth 20000 in
theorem x_X1_readNumber {X : Nat × (Nat → Int32)} {v : rV} {r : Bool × rV} {a1 : Int32}  (h : f_X1_readNumber v a1 = some r) : EvM mX1_readNumber 3 0 0 [.ref 7, .int a1] (rZ X) v (rPZ X r) := by
  refine evm_of (by decide +kernel) (fun G => Nat.le_of_ble_eq_true rfl) ?_
  show Ev mX1_readNumber 3 0 0 0 [(0, .ref 7), (1, .int a1)] [] (rZ X) v _
  unfold f_X1_readNumber at h
  refine e_iconst (x := (0 : Int32)) dX1_readNumber_0 (by decide) ?_
  refine e_istore_n (lv' := [(2, .int (0 : Int32)), (0, .ref 7), (1, .int a1)]) dX1_readNumber_1 (by decide) rfl ?_
  refine e_iconst (x := (0 : Int32)) dX1_readNumber_2 (by decide) ?_
  refine e_istore_n (lv' := [(3, .int (0 : Int32)), (2, .int (0 : Int32)), (0, .ref 7), (1, .int a1)]) dX1_readNumber_3 (by decide) rfl ?_
  refine e_aload_n dX1_readNumber_4 rfl ?_
  obtain ⟨p1, ep1, h⟩ := Option.bind_eq_some_iff.mp h
  refine c_VI (M' := mX1_nextByte) [] dX1_readNumber_5 rfl wmX1_39 imX1_nextByte seX1_nextByte lkX1_nextByte k0_7 rc1 (Nat.le_of_ble_eq_true rfl) ((x_X1_nextByte  ep1).mono (by omega)) ?_
  refine e_istore (lv' := [(4, .int p1.1), (3, .int (0 : Int32)), (2, .int (0 : Int32)), (0, .ref 7), (1, .int a1)]) dX1_readNumber_8 (by decide) rfl ?_
  refine e_sub [3, 4, 2, 1, 0] rfl ?_
  exact b_X1_readNumber_10  _ p1.2 a1 (0 : Int32) (0 : Int32) p1.1 h
def f_X1_readItem_21   (v : rV) (s0 : Int32) : Option (Bool × rV) := if s0 < 0 then
  (some (false, v))
else
  (if (12 : Int32) ≤ s0 then
  (some (false, v))
else
  (if (f_X7_has (v.1 7 2) s0) = true then
  (some (false, v))
else
  (vlet (rI v 7 2 ((v.1 7 2) ||| ((1 : Int32) <<< (s0 &&& 31)))) fun v3 =>
  vlet (rI v3 7 3 ((v3.1 7 3) + (1 : Int32))) fun v4 =>
  (f_X1_readNumber v4 s0).bind fun p5 =>
  some (p5.1, p5.2))))
def f_X1_readItem (v : rV)  : Option (Bool × rV) := (f_X1_nextByte v).bind fun p1 =>
  if p1.1 = (-1 : Int32) then
  (f_X1_readItem_21  p1.2 (-1 : Int32))
else
  (f_X1_readItem_21  p1.2 (sidx 2 ((p1.1.toUInt32 % 65536).toInt32)))
set_option maxRecDepth 20000 in
theorem b_X1_readItem_21 {X : Nat × (Nat → Int32)} {r : Bool × rV} {v : rV}   {s0 : Int32}  (h : f_X1_readItem_21  v s0 = some r) : Ev mX1_readItem 10 0 0 21 [(0, .ref 7)] [.int s0] (rZ X) v (rPZ X r) := by
  unfold f_X1_readItem_21 at h
  refine e_istore_n (lv' := [(2, .int s0), (0, .ref 7)]) dX1_readItem_21 (by decide) rfl ?_
  refine e_iload_n dX1_readItem_22 rfl ?_
  refine e_if_lt (tgt := 43) dX1_readItem_23 (by decide) (fun c8 => ?_) (fun c8 => ?_)
  · rw [if_pos c8] at h
    refine e_iconst (x := (0 : Int32)) dX1_readItem_43 (by decide) ?_
    obtain rfl := Option.some.inj h
    exact e_iret dX1_readItem_44 rfl rfl ⟨rfl, rfl, rfl⟩
  · rw [if_neg c8] at h
    refine e_iload_n dX1_readItem_26 rfl ?_
    refine e_bipush (x := (12 : Int32)) dX1_readItem_27 (by decide) ?_
    refine e_icmp_ge (tgt := 43) dX1_readItem_29 (by decide) (fun c7 => ?_) (fun c7 => ?_)
    · rw [if_pos c7] at h
      refine e_iconst (x := (0 : Int32)) dX1_readItem_43 (by decide) ?_
      obtain rfl := Option.some.inj h
      exact e_iret dX1_readItem_44 rfl rfl ⟨rfl, rfl, rfl⟩
    · rw [if_neg c7] at h
      refine e_aload_n dX1_readItem_32 rfl ?_
      refine e_get (w := .int (v.1 7 2)) (j := 2) dX1_readItem_33 k0_7 rc1 (by decide) wfX1_23 rfl ?_
      refine e_iload_n dX1_readItem_36 rfl ?_
      refine c_SNZ (M' := mX7_has) [.int (v.1 7 2), .int s0] dX1_readItem_37 rfl wmX1_59 stX7_has lkX7_has (Nat.le_of_ble_eq_true rfl) ((x_X7_has ).mono (by omega)) ?_
      refine e_if_eq (tgt := 45) dX1_readItem_40 (by decide) (fun c6 => ?_) (fun c6 => ?_)
      · rw [if_neg (bI_n c6)] at h
        refine e_aload_n dX1_readItem_45 rfl ?_
        refine e_dup dX1_readItem_46 rfl ?_
        refine e_get (w := .int (v.1 7 2)) (j := 2) dX1_readItem_47 k0_7 rc1 (by decide) wfX1_23 rfl ?_
        refine e_iconst (x := (1 : Int32)) dX1_readItem_50 (by decide) ?_
        refine e_iload_n dX1_readItem_51 rfl ?_
        refine e_ishl dX1_readItem_52 ?_
        refine e_ior dX1_readItem_53 ?_
        refine e_putI (j := 2) dX1_readItem_54 k0_7 rc1 (by decide) wfX1_23 rfl rfl ?_
        obtain ⟨v3, ev3, h⟩ := vlet_ex h
        refine e_nameV ev3.symm ?_
        clear ev3
        refine e_aload_n dX1_readItem_57 rfl ?_
        refine e_dup dX1_readItem_58 rfl ?_
        refine e_get (w := .int (v3.1 7 3)) (j := 3) dX1_readItem_59 k0_7 rc1 (by decide) wfX1_19 rfl ?_
        refine e_iconst (x := (1 : Int32)) dX1_readItem_62 (by decide) ?_
        refine e_iadd dX1_readItem_63 ?_
        refine e_putI (j := 3) dX1_readItem_64 k0_7 rc1 (by decide) wfX1_19 rfl rfl ?_
        obtain ⟨v4, ev4, h⟩ := vlet_ex h
        refine e_nameV ev4.symm ?_
        clear ev4
        refine e_aload_n dX1_readItem_67 rfl ?_
        refine e_iload_n dX1_readItem_68 rfl ?_
        obtain ⟨p5, ep5, h⟩ := Option.bind_eq_some_iff.mp h
        refine c_VZ (M' := mX1_readNumber) [.int s0] dX1_readItem_69 rfl wmX1_63 imX1_readNumber seX1_readNumber lkX1_readNumber k0_7 rc1 (Nat.le_of_ble_eq_true rfl) ((x_X1_readNumber  ep5).mono (by omega)) ?_
        obtain rfl := Option.some.inj h
        exact e_iret dX1_readItem_72 rfl (bI_z _) ⟨rfl, rfl, rfl⟩
      · rw [if_pos (bI_p c6)] at h
        refine e_iconst (x := (0 : Int32)) dX1_readItem_43 (by decide) ?_
        obtain rfl := Option.some.inj h
        exact e_iret dX1_readItem_44 rfl rfl ⟨rfl, rfl, rfl⟩
set_option maxRecDepth 20000 in
theorem x_X1_readItem {X : Nat × (Nat → Int32)} {v : rV} {r : Bool × rV}   (h : f_X1_readItem v = some r) : EvM mX1_readItem 10 0 0 [.ref 7] (rZ X) v (rPZ X r) := by
  refine evm_of (by decide +kernel) (fun G => Nat.le_of_ble_eq_true rfl) ?_
  show Ev mX1_readItem 10 0 0 0 [(0, .ref 7)] [] (rZ X) v _
  unfold f_X1_readItem at h
  refine e_aload_n dX1_readItem_0 rfl ?_
  obtain ⟨p1, ep1, h⟩ := Option.bind_eq_some_iff.mp h
  refine c_VI (M' := mX1_nextByte) [] dX1_readItem_1 rfl wmX1_39 imX1_nextByte seX1_nextByte lkX1_nextByte k0_7 rc1 (Nat.le_of_ble_eq_true rfl) ((x_X1_nextByte  ep1).mono (by omega)) ?_
  refine e_istore_n (lv' := [(1, .int p1.1), (0, .ref 7)]) dX1_readItem_4 (by decide) rfl ?_
  refine e_iload_n dX1_readItem_5 rfl ?_
  refine e_iconst (x := (-1 : Int32)) dX1_readItem_6 (by decide) ?_
  refine e_icmp_ne (tgt := 14) dX1_readItem_7 (by decide) (fun c9 => ?_) (fun c9 => ?_)
  · rw [if_neg c9] at h
    refine e_ldcS4 dX1_readItem_14 rfl ?_
    refine e_iload_n dX1_readItem_16 rfl ?_
    refine e_i2c dX1_readItem_17 ?_
    refine e_indexOf (i := 2) (by decide) dX1_readItem_18 wmX1_54 (by omega) (Nat.le_of_ble_eq_true rfl) ?_
    refine e_sub [1] rfl ?_
    exact b_X1_readItem_21  h
  · rw [if_pos c9] at h
    refine e_iconst (x := (-1 : Int32)) dX1_readItem_10 (by decide) ?_
    refine e_goto (tgt := 21) dX1_readItem_11 (by decide) ?_
    refine e_sub [1] rfl ?_
    exact b_X1_readItem_21  h
def f_X1_faultOfDrop_71   (v : rV) (a1 : Int32) : Option (Int32 × rV) := if a1 = 0 then
  (some (v.1 7 3, v))
else
  ((f_X1_nextByte v).bind fun p6 =>
  if p6.1 = (-1 : Int32) then
  (if ((p6.2.1 8 0) + (p6.2.1 8 1)) ≤ (24 : Int32) then
  (some ((-1 : Int32), p6.2))
else
  (some (p6.2.1 1 1, p6.2)))
else
  (some (p6.2.1 7 3, p6.2)))
def f_X1_faultOfDrop_31   : Nat → rV → Int32 → Int32 → Option (Int32 × rV)
  | 0, _, _, _ => none
  | n + 1, v, a1, a2 => if (12 : Int32) ≤ a2 then
  (f_X1_faultOfDrop_71  v a1)
else
  (if a1 = 0 then
  (f_X1_faultOfDrop_71  v a1)
else
  ((f_X1_nextByte v).bind fun p10 =>
  if p10.1 = (44 : Int32) then
  (vlet (rI p10.2 7 3 ((p10.2.1 7 3) + (1 : Int32))) fun v11 =>
  (f_X1_readItem v11).bind fun p12 =>
  vlet (bI p12.1 : Int32) fun x13 =>
  vlet (a2 + (1 : Int32)) fun x14 =>
  f_X1_faultOfDrop_31  n p12.2 x13 x14)
else
  (f_X1_faultOfDrop_71  p10.2 a1)))
def f_X1_faultOfDrop (v : rV)  : Option (Int32 × rV) := vlet (rI v 7 3 (0 : Int32)) fun v1 =>
  vlet (rI v1 7 2 (0 : Int32)) fun v2 =>
  vlet (rCt v2 8 (fun j => (rtb.getD 2 []).getD j 0) 0 0 12) fun v3 =>
  (f_X1_readItem v3).bind fun p4 =>
  vlet (bI p4.1 : Int32) fun x5 =>
  f_X1_faultOfDrop_31  20000 p4.2 x5 (0 : Int32)
set_option maxRecDepth 20000 in
theorem b_X1_faultOfDrop_71 {X : Nat × (Nat → Int32)} {r : Int32 × rV} {v : rV}   {a1 : Int32}  (h : f_X1_faultOfDrop_71  v a1 = some r) : Ev mX1_faultOfDrop 11 0 0 71 [(0, .ref 7), (1, .int a1)] [] (rZ X) v (rPI X r) := by
  unfold f_X1_faultOfDrop_71 at h
  refine e_iload_n dX1_faultOfDrop_71 rfl ?_
  refine e_if_eq (tgt := 83) dX1_faultOfDrop_72 (by decide) (fun c9 => ?_) (fun c9 => ?_)
  · rw [if_pos c9] at h
    refine e_aload_n dX1_faultOfDrop_83 rfl ?_
    refine e_get (w := .int (v.1 7 3)) (j := 3) dX1_faultOfDrop_84 k0_7 rc1 (by decide) wfX1_19 rfl ?_
    obtain rfl := Option.some.inj h
    exact e_iret dX1_faultOfDrop_87 rfl rfl ⟨rfl, rfl, rfl⟩
  · rw [if_neg c9] at h
    refine e_aload_n dX1_faultOfDrop_75 rfl ?_
    obtain ⟨p6, ep6, h⟩ := Option.bind_eq_some_iff.mp h
    refine c_VI (M' := mX1_nextByte) [] dX1_faultOfDrop_76 rfl wmX1_39 imX1_nextByte seX1_nextByte lkX1_nextByte k0_7 rc1 (Nat.le_of_ble_eq_true rfl) ((x_X1_nextByte  ep6).mono (by omega)) ?_
    refine e_iconst (x := (-1 : Int32)) dX1_faultOfDrop_79 (by decide) ?_
    refine e_icmp_eq (tgt := 88) dX1_faultOfDrop_80 (by decide) (fun c8 => ?_) (fun c8 => ?_)
    · rw [if_pos c8] at h
      refine e_aload_n dX1_faultOfDrop_88 rfl ?_
      refine e_get (w := .ref 8) (j := 1) dX1_faultOfDrop_89 k0_7 rc1 (by decide) wfX1_9 (g0_7_1) ?_
      refine e_iconst (x := (0 : Int32)) dX1_faultOfDrop_92 (by decide) ?_
      refine e_ialdJ dX1_faultOfDrop_93 k0_8 (j := 0) (by decide) (by decide) (by decide) ?_
      refine e_aload_n dX1_faultOfDrop_94 rfl ?_
      refine e_get (w := .ref 8) (j := 1) dX1_faultOfDrop_95 k0_7 rc1 (by decide) wfX1_9 (g0_7_1) ?_
      refine e_iconst (x := (1 : Int32)) dX1_faultOfDrop_98 (by decide) ?_
      refine e_ialdJ dX1_faultOfDrop_99 k0_8 (j := 1) (by decide) (by decide) (by decide) ?_
      refine e_iadd dX1_faultOfDrop_100 ?_
      refine e_bipush (x := (24 : Int32)) dX1_faultOfDrop_101 (by decide) ?_
      refine e_icmp_le (tgt := 116) dX1_faultOfDrop_103 (by decide) (fun c7 => ?_) (fun c7 => ?_)
      · rw [if_pos c7] at h
        refine e_iconst (x := (-1 : Int32)) dX1_faultOfDrop_116 (by decide) ?_
        obtain rfl := Option.some.inj h
        exact e_iret dX1_faultOfDrop_117 rfl rfl ⟨rfl, rfl, rfl⟩
      · rw [if_neg c7] at h
        refine e_aload_n dX1_faultOfDrop_106 rfl ?_
        refine e_get (w := .ref 1) (j := 0) dX1_faultOfDrop_107 k0_7 rc1 (by decide) wfX1_15 (g0_7_0) ?_
        refine e_get (w := .int (p6.2.1 1 1)) (j := 1) dX1_faultOfDrop_110 k0_1 rc6 (by decide) wfX1_43 rfl ?_
        refine e_goto (tgt := 117) dX1_faultOfDrop_113 (by decide) ?_
        obtain rfl := Option.some.inj h
        exact e_iret dX1_faultOfDrop_117 rfl rfl ⟨rfl, rfl, rfl⟩
    · rw [if_neg c8] at h
      refine e_aload_n dX1_faultOfDrop_83 rfl ?_
      refine e_get (w := .int (p6.2.1 7 3)) (j := 3) dX1_faultOfDrop_84 k0_7 rc1 (by decide) wfX1_19 rfl ?_
      obtain rfl := Option.some.inj h
      exact e_iret dX1_faultOfDrop_87 rfl rfl ⟨rfl, rfl, rfl⟩
set_option maxRecDepth 20000 in
theorem b_X1_faultOfDrop_31 {X : Nat × (Nat → Int32)} {r : Int32 × rV}   : ∀ (n : Nat) (v : rV) (a1 : Int32) (a2 : Int32) , f_X1_faultOfDrop_31   n v a1 a2 = some r → Ev mX1_faultOfDrop 11 0 0 31 [(0, .ref 7), (1, .int a1), (2, .int a2)] [] (rZ X) v (rPI X r) := by
  intro n
  induction n with
  | zero =>
    intros
    rename_i h
    cases h
  | succ n ih =>
    intro v a1 a2 h
    rw [f_X1_faultOfDrop_31] at h
    refine e_iload_n dX1_faultOfDrop_31 rfl ?_
    refine e_bipush (x := (12 : Int32)) dX1_faultOfDrop_32 (by decide) ?_
    refine e_icmp_ge (tgt := 71) dX1_faultOfDrop_34 (by decide) (fun c17 => ?_) (fun c17 => ?_)
    · rw [if_pos c17] at h
      refine e_sub [0, 1] rfl ?_
      exact b_X1_faultOfDrop_71  h
    · rw [if_neg c17] at h
      refine e_iload_n dX1_faultOfDrop_37 rfl ?_
      refine e_if_eq (tgt := 71) dX1_faultOfDrop_38 (by decide) (fun c16 => ?_) (fun c16 => ?_)
      · rw [if_pos c16] at h
        refine e_sub [0, 1] rfl ?_
        exact b_X1_faultOfDrop_71  h
      · rw [if_neg c16] at h
        refine e_aload_n dX1_faultOfDrop_41 rfl ?_
        obtain ⟨p10, ep10, h⟩ := Option.bind_eq_some_iff.mp h
        refine c_VI (M' := mX1_nextByte) [] dX1_faultOfDrop_42 rfl wmX1_39 imX1_nextByte seX1_nextByte lkX1_nextByte k0_7 rc1 (Nat.le_of_ble_eq_true rfl) ((x_X1_nextByte  ep10).mono (by omega)) ?_
        refine e_bipush (x := (44 : Int32)) dX1_faultOfDrop_45 (by decide) ?_
        refine e_icmp_ne (tgt := 71) dX1_faultOfDrop_47 (by decide) (fun c15 => ?_) (fun c15 => ?_)
        · rw [if_neg c15] at h
          refine e_sub [0, 1] rfl ?_
          exact b_X1_faultOfDrop_71  h
        · rw [if_pos c15] at h
          refine e_aload_n dX1_faultOfDrop_50 rfl ?_
          refine e_dup dX1_faultOfDrop_51 rfl ?_
          refine e_get (w := .int (p10.2.1 7 3)) (j := 3) dX1_faultOfDrop_52 k0_7 rc1 (by decide) wfX1_19 rfl ?_
          refine e_iconst (x := (1 : Int32)) dX1_faultOfDrop_55 (by decide) ?_
          refine e_iadd dX1_faultOfDrop_56 ?_
          refine e_putI (j := 3) dX1_faultOfDrop_57 k0_7 rc1 (by decide) wfX1_19 rfl rfl ?_
          obtain ⟨v11, ev11, h⟩ := vlet_ex h
          refine e_nameV ev11.symm ?_
          clear ev11
          refine e_aload_n dX1_faultOfDrop_60 rfl ?_
          obtain ⟨p12, ep12, h⟩ := Option.bind_eq_some_iff.mp h
          refine c_VZ (M' := mX1_readItem) [] dX1_faultOfDrop_61 rfl wmX1_35 imX1_readItem seX1_readItem lkX1_readItem k0_7 rc1 (Nat.le_of_ble_eq_true rfl) ((x_X1_readItem  ep12).mono (by omega)) ?_
          obtain ⟨x13, ex13, h⟩ := vlet_ex h
          refine e_nameI ex13.symm ?_
          clear ex13
          refine e_istore_n (lv' := [(1, .int x13), (0, .ref 7), (2, .int a2)]) dX1_faultOfDrop_64 (by decide) rfl ?_
          obtain ⟨x14, ex14, h⟩ := vlet_ex h
          refine e_iinc (lv' := [(2, .int x14), (1, .int x13), (0, .ref 7)]) dX1_faultOfDrop_65 rfl (ex14.symm) (by decide) rfl ?_
          clear ex14
          refine e_goto (tgt := 31) dX1_faultOfDrop_68 (by decide) ?_
          refine e_sub [2, 1, 0] rfl ?_
          exact ih p12.2 x13 x14 h
set_option maxRecDepth 20000 in
theorem x_X1_faultOfDrop {X : Nat × (Nat → Int32)} {v : rV} {r : Int32 × rV}   (h : f_X1_faultOfDrop v = some r) : EvM mX1_faultOfDrop 11 0 0 [.ref 7] (rZ X) v (rPI X r) := by
  refine evm_of (by decide +kernel) (fun G => Nat.le_of_ble_eq_true rfl) ?_
  show Ev mX1_faultOfDrop 11 0 0 0 [(0, .ref 7)] [] (rZ X) v _
  unfold f_X1_faultOfDrop at h
  refine e_aload_n dX1_faultOfDrop_0 rfl ?_
  refine e_iconst (x := (0 : Int32)) dX1_faultOfDrop_1 (by decide) ?_
  refine e_putI (j := 3) dX1_faultOfDrop_2 k0_7 rc1 (by decide) wfX1_19 rfl rfl ?_
  obtain ⟨v1, ev1, h⟩ := vlet_ex h
  refine e_nameV ev1.symm ?_
  clear ev1
  refine e_aload_n dX1_faultOfDrop_5 rfl ?_
  refine e_iconst (x := (0 : Int32)) dX1_faultOfDrop_6 (by decide) ?_
  refine e_putI (j := 2) dX1_faultOfDrop_7 k0_7 rc1 (by decide) wfX1_23 rfl rfl ?_
  obtain ⟨v2, ev2, h⟩ := vlet_ex h
  refine e_nameV ev2.symm ?_
  clear ev2
  refine e_gst2 dX1_faultOfDrop_10 wfX1_26 ?_
  refine e_iconst (x := (0 : Int32)) dX1_faultOfDrop_13 (by decide) ?_
  refine e_aload_n dX1_faultOfDrop_14 rfl ?_
  refine e_get (w := .ref 8) (j := 1) dX1_faultOfDrop_15 k0_7 rc1 (by decide) wfX1_9 (g0_7_1) ?_
  refine e_iconst (x := (0 : Int32)) dX1_faultOfDrop_18 (by decide) ?_
  refine e_bipush (x := (12 : Int32)) dX1_faultOfDrop_19 (by decide) ?_
  refine e_copyT (i := 2) dX1_faultOfDrop_21 wmX1_29 wnative wcopystat winisys (by decide) k0_8 rfl (by decide) (by decide) (by decide) (by decide) (by decide) (Nat.le_of_ble_eq_true rfl) (by omega) ?_
  obtain ⟨v3, ev3, h⟩ := vlet_ex h
  refine e_nameV ev3.symm ?_
  clear ev3
  refine e_aload_n dX1_faultOfDrop_24 rfl ?_
  obtain ⟨p4, ep4, h⟩ := Option.bind_eq_some_iff.mp h
  refine c_VZ (M' := mX1_readItem) [] dX1_faultOfDrop_25 rfl wmX1_35 imX1_readItem seX1_readItem lkX1_readItem k0_7 rc1 (Nat.le_of_ble_eq_true rfl) ((x_X1_readItem  ep4).mono (by omega)) ?_
  obtain ⟨x5, ex5, h⟩ := vlet_ex h
  refine e_nameI ex5.symm ?_
  clear ex5
  refine e_istore_n (lv' := [(1, .int x5), (0, .ref 7)]) dX1_faultOfDrop_28 (by decide) rfl ?_
  refine e_iconst (x := (0 : Int32)) dX1_faultOfDrop_29 (by decide) ?_
  refine e_istore_n (lv' := [(2, .int (0 : Int32)), (1, .int x5), (0, .ref 7)]) dX1_faultOfDrop_30 (by decide) rfl ?_
  refine e_sub [2, 1, 0] rfl ?_
  exact b_X1_faultOfDrop_31  _ p4.2 x5 (0 : Int32) h
def f_X3_open (v : rV) (k1 : Nat) : Option (rV) := vlet (rR v 3 2 (some k1)) fun v1 =>
  vlet (rI v1 3 3 (0 : Int32)) fun v2 =>
  vlet (rI v2 4 2 (0 : Int32)) fun v3 =>
  some v3
set_option maxRecDepth 20000 in
theorem x_X3_open {X : Nat × (Nat → Int32)} {v : rV} {r : rV} {k1 : Nat}  (h : f_X3_open v k1 = some r) : EvM mX3_open 1 0 0 [.ref 3, .ref k1] (rZ X) v (rPV X r) := by
  refine evm_of (by decide +kernel) (fun G => Nat.le_of_ble_eq_true rfl) ?_
  show Ev mX3_open 1 0 0 0 [(0, .ref 3), (1, .ref k1)] [] (rZ X) v _
  unfold f_X3_open at h
  refine e_aload_n dX3_open_0 rfl ?_
  refine e_aload_n dX3_open_1 rfl ?_
  refine e_putR (j := 2) dX3_open_2 k0_3 rc3 (by decide) wfX3_20  (Or.inl rfl) (Or.inl ⟨_, rfl⟩) rfl ?_
  obtain ⟨v1, ev1, h⟩ := vlet_ex h
  refine e_nameV ev1.symm ?_
  clear ev1
  refine e_aload_n dX3_open_5 rfl ?_
  refine e_iconst (x := (0 : Int32)) dX3_open_6 (by decide) ?_
  refine e_putI (j := 3) dX3_open_7 k0_3 rc3 (by decide) wfX3_44 rfl rfl ?_
  obtain ⟨v2, ev2, h⟩ := vlet_ex h
  refine e_nameV ev2.symm ?_
  clear ev2
  refine e_aload_n dX3_open_10 rfl ?_
  refine e_get (w := .ref 4) (j := 1) dX3_open_11 k0_3 rc3 (by decide) wfX3_12 (g0_3_1) ?_
  refine e_iconst (x := (0 : Int32)) dX3_open_14 (by decide) ?_
  refine e_putI (j := 2) dX3_open_15 k0_4 rc2 (by decide) wfX3_58 rfl rfl ?_
  obtain ⟨v3, ev3, h⟩ := vlet_ex h
  refine e_nameV ev3.symm ?_
  clear ev3
  obtain rfl := Option.some.inj h
  exact e_ret dX3_open_18 rfl ⟨rfl, rfl, rfl⟩
def f_X3_nextByte_43   (v : rV)  : Option (Int32 × rV) := (f_X6_byteAt v (v.1 3 3)).bind fun p1 =>
  some (p1, v)
def f_X3_nextByte_0   : Nat → rV → Option (Int32 × rV)
  | 0, _ => none
  | n + 1, v => if (v.1 1 1) ≤ (v.1 3 3) then
  (f_X3_nextByte_43  v)
else
  ((f_X6_byteAt v (v.1 3 3)).bind fun p2 =>
  if p2 = (32 : Int32) then
  (vlet (rI v 3 3 ((v.1 3 3) + (1 : Int32))) fun v3 =>
  f_X3_nextByte_0  n v3)
else
  (f_X3_nextByte_43  v))
def f_X3_nextByte (v : rV)  : Option (Int32 × rV) := f_X3_nextByte_0  20000 v
set_option maxRecDepth 20000 in
theorem b_X3_nextByte_43 {X : Nat × (Nat → Int32)} {r : Int32 × rV} {v : rV}     (h : f_X3_nextByte_43  v  = some r) : Ev mX3_nextByte 2 0 0 43 [(0, .ref 3)] [] (rZ X) v (rPI X r) := by
  unfold f_X3_nextByte_43 at h
  refine e_aload_n dX3_nextByte_43 rfl ?_
  refine e_get (w := .ref 1) (j := 0) dX3_nextByte_44 k0_3 rc3 (by decide) wfX3_24 (g0_3_0) ?_
  refine e_aload_n dX3_nextByte_47 rfl ?_
  refine e_get (w := .int (v.1 3 3)) (j := 3) dX3_nextByte_48 k0_3 rc3 (by decide) wfX3_44 rfl ?_
  obtain ⟨p1, ep1, h⟩ := Option.bind_eq_some_iff.mp h
  refine c_VI (M' := mX6_byteAt) [.int (v.1 3 3)] dX3_nextByte_51 rfl wmX3_64 imX6_byteAt seX6_byteAt lkX6_byteAt k0_1 rc6 (Nat.le_of_ble_eq_true rfl) ((x_X6_byteAt  ep1).mono (by omega)) ?_
  obtain rfl := Option.some.inj h
  exact e_iret dX3_nextByte_54 rfl rfl ⟨rfl, rfl, rfl⟩
set_option maxRecDepth 20000 in
theorem b_X3_nextByte_0 {X : Nat × (Nat → Int32)} {r : Int32 × rV}   : ∀ (n : Nat) (v : rV)  , f_X3_nextByte_0   n v  = some r → Ev mX3_nextByte 2 0 0 0 [(0, .ref 3)] [] (rZ X) v (rPI X r) := by
  intro n
  induction n with
  | zero =>
    intros
    rename_i h
    cases h
  | succ n ih =>
    intro v h
    rw [f_X3_nextByte_0] at h
    refine e_aload_n dX3_nextByte_0 rfl ?_
    refine e_get (w := .int (v.1 3 3)) (j := 3) dX3_nextByte_1 k0_3 rc3 (by decide) wfX3_44 rfl ?_
    refine e_aload_n dX3_nextByte_4 rfl ?_
    refine e_get (w := .ref 1) (j := 0) dX3_nextByte_5 k0_3 rc3 (by decide) wfX3_24 (g0_3_0) ?_
    refine e_get (w := .int (v.1 1 1)) (j := 1) dX3_nextByte_8 k0_1 rc6 (by decide) wfX3_61 rfl ?_
    refine e_icmp_ge (tgt := 43) dX3_nextByte_11 (by decide) (fun c5 => ?_) (fun c5 => ?_)
    · rw [if_pos c5] at h
      exact b_X3_nextByte_43  h
    · rw [if_neg c5] at h
      refine e_aload_n dX3_nextByte_14 rfl ?_
      refine e_get (w := .ref 1) (j := 0) dX3_nextByte_15 k0_3 rc3 (by decide) wfX3_24 (g0_3_0) ?_
      refine e_aload_n dX3_nextByte_18 rfl ?_
      refine e_get (w := .int (v.1 3 3)) (j := 3) dX3_nextByte_19 k0_3 rc3 (by decide) wfX3_44 rfl ?_
      obtain ⟨p2, ep2, h⟩ := Option.bind_eq_some_iff.mp h
      refine c_VI (M' := mX6_byteAt) [.int (v.1 3 3)] dX3_nextByte_22 rfl wmX3_64 imX6_byteAt seX6_byteAt lkX6_byteAt k0_1 rc6 (Nat.le_of_ble_eq_true rfl) ((x_X6_byteAt  ep2).mono (by omega)) ?_
      refine e_bipush (x := (32 : Int32)) dX3_nextByte_25 (by decide) ?_
      refine e_icmp_ne (tgt := 43) dX3_nextByte_27 (by decide) (fun c4 => ?_) (fun c4 => ?_)
      · rw [if_neg c4] at h
        exact b_X3_nextByte_43  h
      · rw [if_pos c4] at h
        refine e_aload_n dX3_nextByte_30 rfl ?_
        refine e_dup dX3_nextByte_31 rfl ?_
        refine e_get (w := .int (v.1 3 3)) (j := 3) dX3_nextByte_32 k0_3 rc3 (by decide) wfX3_44 rfl ?_
        refine e_iconst (x := (1 : Int32)) dX3_nextByte_35 (by decide) ?_
        refine e_iadd dX3_nextByte_36 ?_
        refine e_putI (j := 3) dX3_nextByte_37 k0_3 rc3 (by decide) wfX3_44 rfl rfl ?_
        obtain ⟨v3, ev3, h⟩ := vlet_ex h
        refine e_nameV ev3.symm ?_
        clear ev3
        refine e_goto (tgt := 0) dX3_nextByte_40 (by decide) ?_
        exact ih v3 h
set_option maxRecDepth 20000 in
theorem x_X3_nextByte {X : Nat × (Nat → Int32)} {v : rV} {r : Int32 × rV}   (h : f_X3_nextByte v = some r) : EvM mX3_nextByte 2 0 0 [.ref 3] (rZ X) v (rPI X r) := by
  refine evm_of (by decide +kernel) (fun G => Nat.le_of_ble_eq_true rfl) ?_
  show Ev mX3_nextByte 2 0 0 0 [(0, .ref 3)] [] (rZ X) v _
  unfold f_X3_nextByte at h
  exact b_X3_nextByte_0  _ v h
def f_X3_goesOnWith (v : rV) (a1 : Int32) : Option (Bool × rV) := (f_X3_nextByte v).bind fun p1 =>
  if p1.1 = a1 then
  (vlet (rI p1.2 3 3 ((p1.2.1 3 3) + (1 : Int32))) fun v2 =>
  some (true, v2))
else
  (some (false, p1.2))
set_option maxRecDepth 20000 in
theorem x_X3_goesOnWith {X : Nat × (Nat → Int32)} {v : rV} {r : Bool × rV} {a1 : Int32}  (h : f_X3_goesOnWith v a1 = some r) : EvM mX3_goesOnWith 3 0 0 [.ref 3, .int a1] (rZ X) v (rPZ X r) := by
  refine evm_of (by decide +kernel) (fun G => Nat.le_of_ble_eq_true rfl) ?_
  show Ev mX3_goesOnWith 3 0 0 0 [(0, .ref 3), (1, .int a1)] [] (rZ X) v _
  unfold f_X3_goesOnWith at h
  refine e_aload_n dX3_goesOnWith_0 rfl ?_
  obtain ⟨p1, ep1, h⟩ := Option.bind_eq_some_iff.mp h
  refine c_VI (M' := mX3_nextByte) [] dX3_goesOnWith_1 rfl wmX3_40 imX3_nextByte seX3_nextByte lkX3_nextByte k0_3 rc3 (Nat.le_of_ble_eq_true rfl) ((x_X3_nextByte  ep1).mono (by omega)) ?_
  refine e_iload_n dX3_goesOnWith_4 rfl ?_
  refine e_icmp_eq (tgt := 10) dX3_goesOnWith_5 (by decide) (fun c3 => ?_) (fun c3 => ?_)
  · rw [if_pos c3] at h
    refine e_aload_n dX3_goesOnWith_10 rfl ?_
    refine e_dup dX3_goesOnWith_11 rfl ?_
    refine e_get (w := .int (p1.2.1 3 3)) (j := 3) dX3_goesOnWith_12 k0_3 rc3 (by decide) wfX3_44 rfl ?_
    refine e_iconst (x := (1 : Int32)) dX3_goesOnWith_15 (by decide) ?_
    refine e_iadd dX3_goesOnWith_16 ?_
    refine e_putI (j := 3) dX3_goesOnWith_17 k0_3 rc3 (by decide) wfX3_44 rfl rfl ?_
    obtain ⟨v2, ev2, h⟩ := vlet_ex h
    refine e_nameV ev2.symm ?_
    clear ev2
    refine e_iconst (x := (1 : Int32)) dX3_goesOnWith_20 (by decide) ?_
    obtain rfl := Option.some.inj h
    exact e_iret dX3_goesOnWith_21 rfl rfl ⟨rfl, rfl, rfl⟩
  · rw [if_neg c3] at h
    refine e_iconst (x := (0 : Int32)) dX3_goesOnWith_8 (by decide) ?_
    obtain rfl := Option.some.inj h
    exact e_iret dX3_goesOnWith_9 rfl rfl ⟨rfl, rfl, rfl⟩
def f_X3_readNumber_71   (v : rV) (a1 : Int32) (a2 : Int32) : Option (Bool × rV) := (f_X2_add v 4 a1).bind fun p2 =>
  if a2 < (48 : Int32) then
  (some (true, p2))
else
  (if a2 ≤ (57 : Int32) then
  (some (false, p2))
else
  (some (true, p2)))
def f_X3_readNumber_16   : Nat → rV → Int32 → Int32 → Int32 → Option (Bool × rV)
  | 0, _, _, _, _ => none
  | n + 1, v, a1, a2, a3 => if (4 : Int32) ≤ a3 then
  (f_X3_readNumber_71  v a1 a2)
else
  (if a2 < (48 : Int32) then
  (f_X3_readNumber_71  v a1 a2)
else
  (if (57 : Int32) < a2 then
  (f_X3_readNumber_71  v a1 a2)
else
  (vlet (((a1 * (10 : Int32)) + a2) - (48 : Int32) : Int32) fun x5 =>
  vlet (rI v 3 3 ((v.1 3 3) + (1 : Int32))) fun v6 =>
  (f_X6_byteAt v6 (v6.1 3 3)).bind fun p7 =>
  vlet (a3 + (1 : Int32)) fun x8 =>
  f_X3_readNumber_16  n v6 x5 p7 x8)))
def f_X3_readNumber (v : rV)  : Option (Bool × rV) := (f_X6_byteAt v (v.1 3 3)).bind fun p1 =>
  f_X3_readNumber_16  20000 v (0 : Int32) p1 (0 : Int32)
set_option maxRecDepth 20000 in
theorem b_X3_readNumber_71 {X : Nat × (Nat → Int32)} {r : Bool × rV} {v : rV}   {a1 : Int32} {a2 : Int32}  (h : f_X3_readNumber_71  v a1 a2 = some r) : Ev mX3_readNumber 2 0 0 71 [(0, .ref 3), (1, .int a1), (2, .int a2)] [] (rZ X) v (rPZ X r) := by
  unfold f_X3_readNumber_71 at h
  refine e_aload_n dX3_readNumber_71 rfl ?_
  refine e_get (w := .ref 4) (j := 1) dX3_readNumber_72 k0_3 rc3 (by decide) wfX3_12 (g0_3_1) ?_
  refine e_iload_n dX3_readNumber_75 rfl ?_
  obtain ⟨p2, ep2, h⟩ := Option.bind_eq_some_iff.mp h
  refine c_VV (M' := mX2_add) [.int a1] dX3_readNumber_76 rfl wmX3_54 imX2_add seX2_add lkX2_add k0_4 rc2 (Nat.le_of_ble_eq_true rfl) ((x_X2_add (by decide) ep2).mono (by omega)) ?_
  refine e_iload_n dX3_readNumber_79 rfl ?_
  refine e_bipush (x := (48 : Int32)) dX3_readNumber_80 (by decide) ?_
  refine e_icmp_lt (tgt := 91) dX3_readNumber_82 (by decide) (fun c4 => ?_) (fun c4 => ?_)
  · rw [if_pos c4] at h
    refine e_iconst (x := (1 : Int32)) dX3_readNumber_91 (by decide) ?_
    refine e_goto (tgt := 96) dX3_readNumber_92 (by decide) ?_
    obtain rfl := Option.some.inj h
    exact e_iret dX3_readNumber_96 rfl rfl ⟨rfl, rfl, rfl⟩
  · rw [if_neg c4] at h
    refine e_iload_n dX3_readNumber_85 rfl ?_
    refine e_bipush (x := (57 : Int32)) dX3_readNumber_86 (by decide) ?_
    refine e_icmp_le (tgt := 95) dX3_readNumber_88 (by decide) (fun c3 => ?_) (fun c3 => ?_)
    · rw [if_pos c3] at h
      refine e_iconst (x := (0 : Int32)) dX3_readNumber_95 (by decide) ?_
      obtain rfl := Option.some.inj h
      exact e_iret dX3_readNumber_96 rfl rfl ⟨rfl, rfl, rfl⟩
    · rw [if_neg c3] at h
      refine e_iconst (x := (1 : Int32)) dX3_readNumber_91 (by decide) ?_
      refine e_goto (tgt := 96) dX3_readNumber_92 (by decide) ?_
      obtain rfl := Option.some.inj h
      exact e_iret dX3_readNumber_96 rfl rfl ⟨rfl, rfl, rfl⟩
set_option maxRecDepth 20000 in
theorem b_X3_readNumber_16 {X : Nat × (Nat → Int32)} {r : Bool × rV}   : ∀ (n : Nat) (v : rV) (a1 : Int32) (a2 : Int32) (a3 : Int32) , f_X3_readNumber_16   n v a1 a2 a3 = some r → Ev mX3_readNumber 2 0 0 16 [(0, .ref 3), (1, .int a1), (2, .int a2), (3, .int a3)] [] (rZ X) v (rPZ X r) := by
  intro n
  induction n with
  | zero =>
    intros
    rename_i h
    cases h
  | succ n ih =>
    intro v a1 a2 a3 h
    rw [f_X3_readNumber_16] at h
    refine e_iload_n dX3_readNumber_16 rfl ?_
    refine e_iconst (x := (4 : Int32)) dX3_readNumber_17 (by decide) ?_
    refine e_icmp_ge (tgt := 71) dX3_readNumber_18 (by decide) (fun c11 => ?_) (fun c11 => ?_)
    · rw [if_pos c11] at h
      refine e_sub [0, 1, 2] rfl ?_
      exact b_X3_readNumber_71  h
    · rw [if_neg c11] at h
      refine e_iload_n dX3_readNumber_21 rfl ?_
      refine e_bipush (x := (48 : Int32)) dX3_readNumber_22 (by decide) ?_
      refine e_icmp_lt (tgt := 71) dX3_readNumber_24 (by decide) (fun c10 => ?_) (fun c10 => ?_)
      · rw [if_pos c10] at h
        refine e_sub [0, 1, 2] rfl ?_
        exact b_X3_readNumber_71  h
      · rw [if_neg c10] at h
        refine e_iload_n dX3_readNumber_27 rfl ?_
        refine e_bipush (x := (57 : Int32)) dX3_readNumber_28 (by decide) ?_
        refine e_icmp_gt (tgt := 71) dX3_readNumber_30 (by decide) (fun c9 => ?_) (fun c9 => ?_)
        · rw [if_pos c9] at h
          refine e_sub [0, 1, 2] rfl ?_
          exact b_X3_readNumber_71  h
        · rw [if_neg c9] at h
          refine e_iload_n dX3_readNumber_33 rfl ?_
          refine e_bipush (x := (10 : Int32)) dX3_readNumber_34 (by decide) ?_
          refine e_imul dX3_readNumber_36 ?_
          refine e_iload_n dX3_readNumber_37 rfl ?_
          refine e_iadd dX3_readNumber_38 ?_
          refine e_bipush (x := (48 : Int32)) dX3_readNumber_39 (by decide) ?_
          refine e_isub dX3_readNumber_41 ?_
          obtain ⟨x5, ex5, h⟩ := vlet_ex h
          refine e_nameI ex5.symm ?_
          clear ex5
          refine e_istore_n (lv' := [(1, .int x5), (0, .ref 3), (2, .int a2), (3, .int a3)]) dX3_readNumber_42 (by decide) rfl ?_
          refine e_aload_n dX3_readNumber_43 rfl ?_
          refine e_dup dX3_readNumber_44 rfl ?_
          refine e_get (w := .int (v.1 3 3)) (j := 3) dX3_readNumber_45 k0_3 rc3 (by decide) wfX3_44 rfl ?_
          refine e_iconst (x := (1 : Int32)) dX3_readNumber_48 (by decide) ?_
          refine e_iadd dX3_readNumber_49 ?_
          refine e_putI (j := 3) dX3_readNumber_50 k0_3 rc3 (by decide) wfX3_44 rfl rfl ?_
          obtain ⟨v6, ev6, h⟩ := vlet_ex h
          refine e_nameV ev6.symm ?_
          clear ev6
          refine e_aload_n dX3_readNumber_53 rfl ?_
          refine e_get (w := .ref 1) (j := 0) dX3_readNumber_54 k0_3 rc3 (by decide) wfX3_24 (g0_3_0) ?_
          refine e_aload_n dX3_readNumber_57 rfl ?_
          refine e_get (w := .int (v6.1 3 3)) (j := 3) dX3_readNumber_58 k0_3 rc3 (by decide) wfX3_44 rfl ?_
          obtain ⟨p7, ep7, h⟩ := Option.bind_eq_some_iff.mp h
          refine c_VI (M' := mX6_byteAt) [.int (v6.1 3 3)] dX3_readNumber_61 rfl wmX3_64 imX6_byteAt seX6_byteAt lkX6_byteAt k0_1 rc6 (Nat.le_of_ble_eq_true rfl) ((x_X6_byteAt  ep7).mono (by omega)) ?_
          refine e_istore_n (lv' := [(2, .int p7), (1, .int x5), (0, .ref 3), (3, .int a3)]) dX3_readNumber_64 (by decide) rfl ?_
          obtain ⟨x8, ex8, h⟩ := vlet_ex h
          refine e_iinc (lv' := [(3, .int x8), (2, .int p7), (1, .int x5), (0, .ref 3)]) dX3_readNumber_65 rfl (ex8.symm) (by decide) rfl ?_
          clear ex8
          refine e_goto (tgt := 16) dX3_readNumber_68 (by decide) ?_
          refine e_sub [3, 2, 1, 0] rfl ?_
          exact ih v6 x5 p7 x8 h
set_option maxRecDepth 20000 in
theorem x_X3_readNumber {X : Nat × (Nat → Int32)} {v : rV} {r : Bool × rV}   (h : f_X3_readNumber v = some r) : EvM mX3_readNumber 2 0 0 [.ref 3] (rZ X) v (rPZ X r) := by
  refine evm_of (by decide +kernel) (fun G => Nat.le_of_ble_eq_true rfl) ?_
  show Ev mX3_readNumber 2 0 0 0 [(0, .ref 3)] [] (rZ X) v _
  unfold f_X3_readNumber at h
  refine e_iconst (x := (0 : Int32)) dX3_readNumber_0 (by decide) ?_
  refine e_istore_n (lv' := [(1, .int (0 : Int32)), (0, .ref 3)]) dX3_readNumber_1 (by decide) rfl ?_
  refine e_aload_n dX3_readNumber_2 rfl ?_
  refine e_get (w := .ref 1) (j := 0) dX3_readNumber_3 k0_3 rc3 (by decide) wfX3_24 (g0_3_0) ?_
  refine e_aload_n dX3_readNumber_6 rfl ?_
  refine e_get (w := .int (v.1 3 3)) (j := 3) dX3_readNumber_7 k0_3 rc3 (by decide) wfX3_44 rfl ?_
  obtain ⟨p1, ep1, h⟩ := Option.bind_eq_some_iff.mp h
  refine c_VI (M' := mX6_byteAt) [.int (v.1 3 3)] dX3_readNumber_10 rfl wmX3_64 imX6_byteAt seX6_byteAt lkX6_byteAt k0_1 rc6 (Nat.le_of_ble_eq_true rfl) ((x_X6_byteAt  ep1).mono (by omega)) ?_
  refine e_istore_n (lv' := [(2, .int p1), (1, .int (0 : Int32)), (0, .ref 3)]) dX3_readNumber_13 (by decide) rfl ?_
  refine e_iconst (x := (0 : Int32)) dX3_readNumber_14 (by decide) ?_
  refine e_istore_n (lv' := [(3, .int (0 : Int32)), (2, .int p1), (1, .int (0 : Int32)), (0, .ref 3)]) dX3_readNumber_15 (by decide) rfl ?_
  refine e_sub [3, 2, 1, 0] rfl ?_
  exact b_X3_readNumber_16  _ v (0 : Int32) p1 (0 : Int32) h
def f_X3_readAtom_87 (R : rV → Int32 → Option (Bool × rV))   (v : rV) (s0 : Int32) : Option (Bool × rV) := if 0 ≤ s0 then
  (vlet (rI v 3 3 ((v.1 3 3) + (1 : Int32))) fun v3 =>
  (f_X2_add v3 4 ((-20 : Int32) - s0)).bind fun p4 =>
  some (true, p4))
else
  (some (false, v))
def f_X3_readAtom_69 (R : rV → Int32 → Option (Bool × rV))   (v : rV) (a2 : Int32) : Option (Bool × rV) := if a2 = (-1 : Int32) then
  (f_X3_readAtom_87 R  v (-1 : Int32))
else
  (if v.2.2 3 2 = some 1000010 then (f_X3_readAtom_87 R  v (sidx 0 ((a2.toUInt32 % 65536).toInt32))) else if v.2.2 3 2 = some 1000011 then (f_X3_readAtom_87 R  v (sidx 1 ((a2.toUInt32 % 65536).toInt32))) else none)
def f_X3_readAtom_22 (R : rV → Int32 → Option (Bool × rV))   (v : rV) (a1 : Int32) (a2 : Int32) : Option (Bool × rV) := if a2 = (91 : Int32) then
  (if (6 : Int32) ≤ a1 then
  (f_X3_readAtom_69 R  v a2)
else
  (vlet (rI v 3 3 ((v.1 3 3) + (1 : Int32))) fun v7 =>
  (R v7 (a1 + (1 : Int32))).bind fun p8 =>
  if p8.1 = true then
  ((f_X3_goesOnWith p8.2 (93 : Int32)).bind fun p9 =>
  if p9.1 = true then
  (some (true, p9.2))
else
  (some (false, p9.2)))
else
  (some (false, p8.2))))
else
  (f_X3_readAtom_69 R  v a2)
def f_X3_readAtom (R : rV → Int32 → Option (Bool × rV)) (v : rV) (a1 : Int32) : Option (Bool × rV) := (f_X3_nextByte v).bind fun p1 =>
  if p1.1 < (48 : Int32) then
  (f_X3_readAtom_22 R  p1.2 a1 p1.1)
else
  (if (57 : Int32) < p1.1 then
  (f_X3_readAtom_22 R  p1.2 a1 p1.1)
else
  ((f_X3_readNumber p1.2).bind fun p14 =>
  some (p14.1, p14.2)))
set_option maxRecDepth 20000 in
theorem b_X3_readAtom_87 {X : Nat × (Nat → Int32)} {R : rV → Int32 → Option (Bool × rV)} {dR : Nat} (hdR : 10 ≤ dR) (hR : ∀ (v : rV) (a1 : Int32) (r : Bool × rV), R v a1 = some r → EvM mX3_readSum dR 0 0 [.ref 3, .int a1] (rZ X) v (rPZ X r)) {r : Bool × rV} {v : rV}   {s0 : Int32}  (h : f_X3_readAtom_87 R  v s0 = some r) : Ev mX3_readAtom (dR + 1) 0 0 87 [(0, .ref 3)] [.int s0] (rZ X) v (rPZ X r) := by
  unfold f_X3_readAtom_87 at h
  refine e_istore_n (lv' := [(3, .int s0), (0, .ref 3)]) dX3_readAtom_87 (by decide) rfl ?_
  refine e_iload_n dX3_readAtom_88 rfl ?_
  refine e_if_ge (tgt := 94) dX3_readAtom_89 (by decide) (fun c5 => ?_) (fun c5 => ?_)
  · rw [if_pos c5] at h
    refine e_aload_n dX3_readAtom_94 rfl ?_
    refine e_dup dX3_readAtom_95 rfl ?_
    refine e_get (w := .int (v.1 3 3)) (j := 3) dX3_readAtom_96 k0_3 rc3 (by decide) wfX3_44 rfl ?_
    refine e_iconst (x := (1 : Int32)) dX3_readAtom_99 (by decide) ?_
    refine e_iadd dX3_readAtom_100 ?_
    refine e_putI (j := 3) dX3_readAtom_101 k0_3 rc3 (by decide) wfX3_44 rfl rfl ?_
    obtain ⟨v3, ev3, h⟩ := vlet_ex h
    refine e_nameV ev3.symm ?_
    clear ev3
    refine e_aload_n dX3_readAtom_104 rfl ?_
    refine e_get (w := .ref 4) (j := 1) dX3_readAtom_105 k0_3 rc3 (by decide) wfX3_12 (g0_3_1) ?_
    refine e_bipush (x := (-20 : Int32)) dX3_readAtom_108 (by decide) ?_
    refine e_iload_n dX3_readAtom_110 rfl ?_
    refine e_isub dX3_readAtom_111 ?_
    obtain ⟨p4, ep4, h⟩ := Option.bind_eq_some_iff.mp h
    refine c_VV (M' := mX2_add) [.int ((-20 : Int32) - s0)] dX3_readAtom_112 rfl wmX3_54 imX2_add seX2_add lkX2_add k0_4 rc2 (Nat.le_of_ble_eq_true rfl) ((x_X2_add (by decide) ep4).mono (by omega)) ?_
    refine e_iconst (x := (1 : Int32)) dX3_readAtom_115 (by decide) ?_
    obtain rfl := Option.some.inj h
    exact e_iret dX3_readAtom_116 rfl rfl ⟨rfl, rfl, rfl⟩
  · rw [if_neg c5] at h
    refine e_iconst (x := (0 : Int32)) dX3_readAtom_92 (by decide) ?_
    obtain rfl := Option.some.inj h
    exact e_iret dX3_readAtom_93 rfl rfl ⟨rfl, rfl, rfl⟩
set_option maxRecDepth 20000 in
theorem b_X3_readAtom_69 {X : Nat × (Nat → Int32)} {R : rV → Int32 → Option (Bool × rV)} {dR : Nat} (hdR : 10 ≤ dR) (hR : ∀ (v : rV) (a1 : Int32) (r : Bool × rV), R v a1 = some r → EvM mX3_readSum dR 0 0 [.ref 3, .int a1] (rZ X) v (rPZ X r)) {r : Bool × rV} {v : rV}   {a2 : Int32}  (h : f_X3_readAtom_69 R  v a2 = some r) : Ev mX3_readAtom (dR + 1) 0 0 69 [(0, .ref 3), (2, .int a2)] [] (rZ X) v (rPZ X r) := by
  unfold f_X3_readAtom_69 at h
  refine e_iload_n dX3_readAtom_69 rfl ?_
  refine e_iconst (x := (-1 : Int32)) dX3_readAtom_70 (by decide) ?_
  refine e_icmp_ne (tgt := 78) dX3_readAtom_71 (by decide) (fun c6 => ?_) (fun c6 => ?_)
  · rw [if_neg c6] at h
    refine e_aload_n dX3_readAtom_78 rfl ?_
    by_cases ckd2 : v.2.2 3 2 = some 1000010
    · rw [if_pos ckd2] at h
      refine e_get (w := .ref 1000010) (j := 2) dX3_readAtom_79 k0_3 rc3 (by decide) wfX3_20 (let_v ckd2) ?_
      refine e_iload_n dX3_readAtom_82 rfl ?_
      refine e_i2c dX3_readAtom_83 ?_
      refine e_indexOf (i := 0) (by decide) dX3_readAtom_84 wmX3_89 (by omega) (Nat.le_of_ble_eq_true rfl) ?_
      refine e_sub [0] rfl ?_
      exact b_X3_readAtom_87 hdR hR  h
    · rw [if_neg ckd2] at h
      obtain ⟨dkd2, h⟩ := grd h
      refine e_get (w := .ref 1000011) (j := 2) dX3_readAtom_79 k0_3 rc3 (by decide) wfX3_20 (let_v dkd2) ?_
      refine e_iload_n dX3_readAtom_82 rfl ?_
      refine e_i2c dX3_readAtom_83 ?_
      refine e_indexOf (i := 1) (by decide) dX3_readAtom_84 wmX3_89 (by omega) (Nat.le_of_ble_eq_true rfl) ?_
      refine e_sub [0] rfl ?_
      exact b_X3_readAtom_87 hdR hR  h
  · rw [if_pos c6] at h
    refine e_iconst (x := (-1 : Int32)) dX3_readAtom_74 (by decide) ?_
    refine e_goto (tgt := 87) dX3_readAtom_75 (by decide) ?_
    refine e_sub [0] rfl ?_
    exact b_X3_readAtom_87 hdR hR  h
set_option maxRecDepth 20000 in
theorem b_X3_readAtom_22 {X : Nat × (Nat → Int32)} {R : rV → Int32 → Option (Bool × rV)} {dR : Nat} (hdR : 10 ≤ dR) (hR : ∀ (v : rV) (a1 : Int32) (r : Bool × rV), R v a1 = some r → EvM mX3_readSum dR 0 0 [.ref 3, .int a1] (rZ X) v (rPZ X r)) {r : Bool × rV} {v : rV}   {a1 : Int32} {a2 : Int32}  (h : f_X3_readAtom_22 R  v a1 a2 = some r) : Ev mX3_readAtom (dR + 1) 0 0 22 [(0, .ref 3), (1, .int a1), (2, .int a2)] [] (rZ X) v (rPZ X r) := by
  unfold f_X3_readAtom_22 at h
  refine e_iload_n dX3_readAtom_22 rfl ?_
  refine e_bipush (x := (91 : Int32)) dX3_readAtom_23 (by decide) ?_
  refine e_icmp_ne (tgt := 69) dX3_readAtom_25 (by decide) (fun c13 => ?_) (fun c13 => ?_)
  · rw [if_neg c13] at h
    refine e_sub [0, 2] rfl ?_
    exact b_X3_readAtom_69 hdR hR  h
  · rw [if_pos c13] at h
    refine e_iload_n dX3_readAtom_28 rfl ?_
    refine e_bipush (x := (6 : Int32)) dX3_readAtom_29 (by decide) ?_
    refine e_icmp_ge (tgt := 69) dX3_readAtom_31 (by decide) (fun c12 => ?_) (fun c12 => ?_)
    · rw [if_pos c12] at h
      refine e_sub [0, 2] rfl ?_
      exact b_X3_readAtom_69 hdR hR  h
    · rw [if_neg c12] at h
      refine e_aload_n dX3_readAtom_34 rfl ?_
      refine e_dup dX3_readAtom_35 rfl ?_
      refine e_get (w := .int (v.1 3 3)) (j := 3) dX3_readAtom_36 k0_3 rc3 (by decide) wfX3_44 rfl ?_
      refine e_iconst (x := (1 : Int32)) dX3_readAtom_39 (by decide) ?_
      refine e_iadd dX3_readAtom_40 ?_
      refine e_putI (j := 3) dX3_readAtom_41 k0_3 rc3 (by decide) wfX3_44 rfl rfl ?_
      obtain ⟨v7, ev7, h⟩ := vlet_ex h
      refine e_nameV ev7.symm ?_
      clear ev7
      refine e_aload_n dX3_readAtom_44 rfl ?_
      refine e_iload_n dX3_readAtom_45 rfl ?_
      refine e_iconst (x := (1 : Int32)) dX3_readAtom_46 (by decide) ?_
      refine e_iadd dX3_readAtom_47 ?_
      obtain ⟨p8, ep8, h⟩ := Option.bind_eq_some_iff.mp h
      refine c_VZ (M' := mX3_readSum) [.int (a1 + (1 : Int32))] dX3_readAtom_48 rfl wmX3_68 imX3_readSum seX3_readSum lkX3_readSum k0_3 rc3 (Nat.le_of_ble_eq_true rfl) ((hR _ _ _  ep8).mono (by omega)) ?_
      refine e_if_eq (tgt := 67) dX3_readAtom_51 (by decide) (fun c11 => ?_) (fun c11 => ?_)
      · rw [if_neg (bI_n c11)] at h
        refine e_iconst (x := (0 : Int32)) dX3_readAtom_67 (by decide) ?_
        obtain rfl := Option.some.inj h
        exact e_iret dX3_readAtom_68 rfl rfl ⟨rfl, rfl, rfl⟩
      · rw [if_pos (bI_p c11)] at h
        refine e_aload_n dX3_readAtom_54 rfl ?_
        refine e_bipush (x := (93 : Int32)) dX3_readAtom_55 (by decide) ?_
        obtain ⟨p9, ep9, h⟩ := Option.bind_eq_some_iff.mp h
        refine c_VZ (M' := mX3_goesOnWith) [.int (93 : Int32)] dX3_readAtom_57 rfl wmX3_36 imX3_goesOnWith seX3_goesOnWith lkX3_goesOnWith k0_3 rc3 (Nat.le_of_ble_eq_true rfl) ((x_X3_goesOnWith  ep9).mono (by omega)) ?_
        refine e_if_eq (tgt := 67) dX3_readAtom_60 (by decide) (fun c10 => ?_) (fun c10 => ?_)
        · rw [if_neg (bI_n c10)] at h
          refine e_iconst (x := (0 : Int32)) dX3_readAtom_67 (by decide) ?_
          obtain rfl := Option.some.inj h
          exact e_iret dX3_readAtom_68 rfl rfl ⟨rfl, rfl, rfl⟩
        · rw [if_pos (bI_p c10)] at h
          refine e_iconst (x := (1 : Int32)) dX3_readAtom_63 (by decide) ?_
          refine e_goto (tgt := 68) dX3_readAtom_64 (by decide) ?_
          obtain rfl := Option.some.inj h
          exact e_iret dX3_readAtom_68 rfl rfl ⟨rfl, rfl, rfl⟩
set_option maxRecDepth 20000 in
theorem x_X3_readAtom {X : Nat × (Nat → Int32)} {v : rV} {r : Bool × rV} {R : rV → Int32 → Option (Bool × rV)} {dR : Nat} (hdR : 10 ≤ dR) (hR : ∀ (v : rV) (a1 : Int32) (r : Bool × rV), R v a1 = some r → EvM mX3_readSum dR 0 0 [.ref 3, .int a1] (rZ X) v (rPZ X r)) {a1 : Int32}  (h : f_X3_readAtom R v a1 = some r) : EvM mX3_readAtom (dR + 1) 0 0 [.ref 3, .int a1] (rZ X) v (rPZ X r) := by
  refine evm_of (by decide +kernel) (fun G => Nat.le_of_ble_eq_true rfl) ?_
  show Ev mX3_readAtom (dR + 1) 0 0 0 [(0, .ref 3), (1, .int a1)] [] (rZ X) v _
  unfold f_X3_readAtom at h
  refine e_aload_n dX3_readAtom_0 rfl ?_
  obtain ⟨p1, ep1, h⟩ := Option.bind_eq_some_iff.mp h
  refine c_VI (M' := mX3_nextByte) [] dX3_readAtom_1 rfl wmX3_40 imX3_nextByte seX3_nextByte lkX3_nextByte k0_3 rc3 (Nat.le_of_ble_eq_true rfl) ((x_X3_nextByte  ep1).mono (by omega)) ?_
  refine e_istore_n (lv' := [(2, .int p1.1), (0, .ref 3), (1, .int a1)]) dX3_readAtom_4 (by decide) rfl ?_
  refine e_iload_n dX3_readAtom_5 rfl ?_
  refine e_bipush (x := (48 : Int32)) dX3_readAtom_6 (by decide) ?_
  refine e_icmp_lt (tgt := 22) dX3_readAtom_8 (by decide) (fun c16 => ?_) (fun c16 => ?_)
  · rw [if_pos c16] at h
    refine e_sub [1, 2, 0] rfl ?_
    exact b_X3_readAtom_22 hdR hR  h
  · rw [if_neg c16] at h
    refine e_iload_n dX3_readAtom_11 rfl ?_
    refine e_bipush (x := (57 : Int32)) dX3_readAtom_12 (by decide) ?_
    refine e_icmp_gt (tgt := 22) dX3_readAtom_14 (by decide) (fun c15 => ?_) (fun c15 => ?_)
    · rw [if_pos c15] at h
      refine e_sub [1, 2, 0] rfl ?_
      exact b_X3_readAtom_22 hdR hR  h
    · rw [if_neg c15] at h
      refine e_aload_n dX3_readAtom_17 rfl ?_
      obtain ⟨p14, ep14, h⟩ := Option.bind_eq_some_iff.mp h
      refine c_VZ (M' := mX3_readNumber) [] dX3_readAtom_18 rfl wmX3_86 imX3_readNumber seX3_readNumber lkX3_readNumber k0_3 rc3 (Nat.le_of_ble_eq_true rfl) ((x_X3_readNumber  ep14).mono (by omega)) ?_
      obtain rfl := Option.some.inj h
      exact e_iret dX3_readAtom_21 rfl (bI_z _) ⟨rfl, rfl, rfl⟩
def f_X3_readSum_145 (R : rV → Int32 → Option (Bool × rV))  (q4 : rV → Int32 → Int32 → Int32 → Option (Bool × rV)) (v : rV) (a1 : Int32) (a3 : Int32) (a4 : Int32) : Option (Bool × rV) := vlet (rI v 3 3 ((v.1 3 3) + (1 : Int32))) fun v3 =>
  vlet (a3 + (1 : Int32)) fun x4 =>
  q4 v3 a1 a4 x4
def f_X3_readSum_129 (R : rV → Int32 → Option (Bool × rV))  (q4 : rV → Int32 → Int32 → Int32 → Option (Bool × rV)) (v : rV) (a1 : Int32) (a3 : Int32) (a4 : Int32) : Option (Bool × rV) := if a4 = (43 : Int32) then
  (f_X3_readSum_145 R q4 v a1 a3 a4)
else
  (if a4 = (45 : Int32) then
  (f_X3_readSum_145 R q4 v a1 a3 a4)
else
  (some (true, v)))
def f_X3_readSum_126 (R : rV → Int32 → Option (Bool × rV))  (q4 : rV → Int32 → Int32 → Int32 → Option (Bool × rV)) (v : rV) (a1 : Int32) (a3 : Int32) (a4 : Int32) (s0 : Int32) : Option (Bool × rV) := (f_X2_add v 4 s0).bind fun p7 =>
  f_X3_readSum_129 R q4 p7 a1 a3 a4
def f_X3_readSum_105 (R : rV → Int32 → Option (Bool × rV))  (q4 : rV → Int32 → Int32 → Int32 → Option (Bool × rV)) (v : rV) (a1 : Int32) (a2 : Int32) (a3 : Int32) (a4 : Int32) : Option (Bool × rV) := if a2 = (-1 : Int32) then
  (f_X3_readSum_129 R q4 v a1 a3 a4)
else
  (if a2 = (43 : Int32) then
  (f_X3_readSum_126 R q4 v a1 a3 a4 (-1 : Int32))
else
  (f_X3_readSum_126 R q4 v a1 a3 a4 (-2 : Int32)))
def f_X3_readSum_90 (R : rV → Int32 → Option (Bool × rV))  (q4 : rV → Int32 → Int32 → Int32 → Option (Bool × rV)) (q30 : rV → Int32 → Int32 → Int32 → Int32 → Int32 → Option (Bool × rV)) (v : rV) (a1 : Int32) (a2 : Int32) (a3 : Int32) (a5 : Int32) (s0 : Int32) : Option (Bool × rV) := (f_X2_add v 4 s0).bind fun p12 =>
  (f_X3_nextByte p12).bind fun p13 =>
  vlet (a5 + (1 : Int32)) fun x14 =>
  q30 p13.2 a1 a2 a3 p13.1 x14
def f_X3_readSum_52 (R : rV → Int32 → Option (Bool × rV))  (q4 : rV → Int32 → Int32 → Int32 → Option (Bool × rV)) (q30 : rV → Int32 → Int32 → Int32 → Int32 → Int32 → Option (Bool × rV)) (v : rV) (a1 : Int32) (a2 : Int32) (a3 : Int32) (a4 : Int32) (a5 : Int32) : Option (Bool × rV) := vlet (rI v 3 3 ((v.1 3 3) + (1 : Int32))) fun v10 =>
  (f_X3_readAtom R v10 a1).bind fun p11 =>
  if p11.1 = true then
  (if a4 = (42 : Int32) then
  (f_X3_readSum_90 R q4 q30 p11.2 a1 a2 a3 a5 (-3 : Int32))
else
  (f_X3_readSum_90 R q4 q30 p11.2 a1 a2 a3 a5 (-4 : Int32)))
else
  (some (false, p11.2))
def f_X3_readSum_30 (R : rV → Int32 → Option (Bool × rV))  (q4 : rV → Int32 → Int32 → Int32 → Option (Bool × rV)) : Nat → rV → Int32 → Int32 → Int32 → Int32 → Int32 → Option (Bool × rV)
  | 0, _, _, _, _, _, _ => none
  | n + 1, v, a1, a2, a3, a4, a5 => if (160 : Int32) ≤ a5 then
  (f_X3_readSum_105 R q4 v a1 a2 a3 a4)
else
  (if a4 = (42 : Int32) then
  (f_X3_readSum_52 R q4 (fun v a1 a2 a3 a4 a5 => f_X3_readSum_30 R q4 n v a1 a2 a3 a4 a5) v a1 a2 a3 a4 a5)
else
  (if a4 = (47 : Int32) then
  (f_X3_readSum_52 R q4 (fun v a1 a2 a3 a4 a5 => f_X3_readSum_30 R q4 n v a1 a2 a3 a4 a5) v a1 a2 a3 a4 a5)
else
  (f_X3_readSum_105 R q4 v a1 a2 a3 a4)))
def f_X3_readSum_4 (R : rV → Int32 → Option (Bool × rV))   : Nat → rV → Int32 → Int32 → Int32 → Option (Bool × rV)
  | 0, _, _, _, _ => none
  | n + 1, v, a1, a2, a3 => if (160 : Int32) ≤ a3 then
  (some (true, v))
else
  ((f_X3_readAtom R v a1).bind fun p1 =>
  if p1.1 = true then
  ((f_X3_nextByte p1.2).bind fun p2 =>
  f_X3_readSum_30 R (fun v a1 a2 a3 => f_X3_readSum_4 R  n v a1 a2 a3) 20000 p2.2 a1 a2 a3 p2.1 (0 : Int32))
else
  (some (false, p1.2)))
def f_X3_readSum_B (R : rV → Int32 → Option (Bool × rV)) (v : rV) (a1 : Int32) : Option (Bool × rV) := f_X3_readSum_4 R  20000 v a1 (-1 : Int32) (0 : Int32)
set_option maxRecDepth 20000 in
theorem b_X3_readSum_145 {X : Nat × (Nat → Int32)} {R : rV → Int32 → Option (Bool × rV)} {dR : Nat} (hdR : 10 ≤ dR) (hR : ∀ (v : rV) (a1 : Int32) (r : Bool × rV), R v a1 = some r → EvM mX3_readSum dR 0 0 [.ref 3, .int a1] (rZ X) v (rPZ X r)) {r : Bool × rV} {v : rV} {q4 : rV → Int32 → Int32 → Int32 → Option (Bool × rV)} (hq4 : ∀ (v : rV) (a1 : Int32) (a2 : Int32) (a3 : Int32) , q4 v a1 a2 a3 = some r → Ev mX3_readSum (dR + 2) 0 0 4 [(0, .ref 3), (1, .int a1), (2, .int a2), (3, .int a3)] [] (rZ X) v (rPZ X r)) {a1 : Int32} {a3 : Int32} {a4 : Int32}  (h : f_X3_readSum_145 R q4 v a1 a3 a4 = some r) : Ev mX3_readSum (dR + 2) 0 0 145 [(0, .ref 3), (1, .int a1), (3, .int a3), (4, .int a4)] [] (rZ X) v (rPZ X r) := by
  unfold f_X3_readSum_145 at h
  refine e_iload dX3_readSum_145 rfl ?_
  refine e_istore_n (lv' := [(2, .int a4), (0, .ref 3), (1, .int a1), (3, .int a3), (4, .int a4)]) dX3_readSum_147 (by decide) rfl ?_
  refine e_aload_n dX3_readSum_148 rfl ?_
  refine e_dup dX3_readSum_149 rfl ?_
  refine e_get (w := .int (v.1 3 3)) (j := 3) dX3_readSum_150 k0_3 rc3 (by decide) wfX3_44 rfl ?_
  refine e_iconst (x := (1 : Int32)) dX3_readSum_153 (by decide) ?_
  refine e_iadd dX3_readSum_154 ?_
  refine e_putI (j := 3) dX3_readSum_155 k0_3 rc3 (by decide) wfX3_44 rfl rfl ?_
  obtain ⟨v3, ev3, h⟩ := vlet_ex h
  refine e_nameV ev3.symm ?_
  clear ev3
  obtain ⟨x4, ex4, h⟩ := vlet_ex h
  refine e_iinc (lv' := [(3, .int x4), (2, .int a4), (0, .ref 3), (1, .int a1), (4, .int a4)]) dX3_readSum_158 rfl (ex4.symm) (by decide) rfl ?_
  clear ex4
  refine e_goto (tgt := 4) dX3_readSum_161 (by decide) ?_
  refine e_sub [2, 3, 1, 0] rfl ?_
  exact hq4 v3 a1 a4 x4 h
set_option maxRecDepth 20000 in
theorem b_X3_readSum_129 {X : Nat × (Nat → Int32)} {R : rV → Int32 → Option (Bool × rV)} {dR : Nat} (hdR : 10 ≤ dR) (hR : ∀ (v : rV) (a1 : Int32) (r : Bool × rV), R v a1 = some r → EvM mX3_readSum dR 0 0 [.ref 3, .int a1] (rZ X) v (rPZ X r)) {r : Bool × rV} {v : rV} {q4 : rV → Int32 → Int32 → Int32 → Option (Bool × rV)} (hq4 : ∀ (v : rV) (a1 : Int32) (a2 : Int32) (a3 : Int32) , q4 v a1 a2 a3 = some r → Ev mX3_readSum (dR + 2) 0 0 4 [(0, .ref 3), (1, .int a1), (2, .int a2), (3, .int a3)] [] (rZ X) v (rPZ X r)) {a1 : Int32} {a3 : Int32} {a4 : Int32}  (h : f_X3_readSum_129 R q4 v a1 a3 a4 = some r) : Ev mX3_readSum (dR + 2) 0 0 129 [(0, .ref 3), (1, .int a1), (3, .int a3), (4, .int a4)] [] (rZ X) v (rPZ X r) := by
  unfold f_X3_readSum_129 at h
  refine e_iload dX3_readSum_129 rfl ?_
  refine e_bipush (x := (43 : Int32)) dX3_readSum_131 (by decide) ?_
  refine e_icmp_eq (tgt := 145) dX3_readSum_133 (by decide) (fun c6 => ?_) (fun c6 => ?_)
  · rw [if_pos c6] at h
    exact b_X3_readSum_145 hdR hR hq4 h
  · rw [if_neg c6] at h
    refine e_iload dX3_readSum_136 rfl ?_
    refine e_bipush (x := (45 : Int32)) dX3_readSum_138 (by decide) ?_
    refine e_icmp_eq (tgt := 145) dX3_readSum_140 (by decide) (fun c5 => ?_) (fun c5 => ?_)
    · rw [if_pos c5] at h
      exact b_X3_readSum_145 hdR hR hq4 h
    · rw [if_neg c5] at h
      refine e_iconst (x := (1 : Int32)) dX3_readSum_143 (by decide) ?_
      obtain rfl := Option.some.inj h
      exact e_iret dX3_readSum_144 rfl rfl ⟨rfl, rfl, rfl⟩
set_option maxRecDepth 20000 in
theorem b_X3_readSum_126 {X : Nat × (Nat → Int32)} {R : rV → Int32 → Option (Bool × rV)} {dR : Nat} (hdR : 10 ≤ dR) (hR : ∀ (v : rV) (a1 : Int32) (r : Bool × rV), R v a1 = some r → EvM mX3_readSum dR 0 0 [.ref 3, .int a1] (rZ X) v (rPZ X r)) {r : Bool × rV} {v : rV} {q4 : rV → Int32 → Int32 → Int32 → Option (Bool × rV)} (hq4 : ∀ (v : rV) (a1 : Int32) (a2 : Int32) (a3 : Int32) , q4 v a1 a2 a3 = some r → Ev mX3_readSum (dR + 2) 0 0 4 [(0, .ref 3), (1, .int a1), (2, .int a2), (3, .int a3)] [] (rZ X) v (rPZ X r)) {a1 : Int32} {a3 : Int32} {a4 : Int32} {s0 : Int32}  (h : f_X3_readSum_126 R q4 v a1 a3 a4 s0 = some r) : Ev mX3_readSum (dR + 2) 0 0 126 [(0, .ref 3), (1, .int a1), (3, .int a3), (4, .int a4)] [.int s0, .ref 4] (rZ X) v (rPZ X r) := by
  unfold f_X3_readSum_126 at h
  obtain ⟨p7, ep7, h⟩ := Option.bind_eq_some_iff.mp h
  refine c_VV (M' := mX2_add) [.int s0] dX3_readSum_126 rfl wmX3_54 imX2_add seX2_add lkX2_add k0_4 rc2 (Nat.le_of_ble_eq_true rfl) ((x_X2_add (by decide) ep7).mono (by omega)) ?_
  exact b_X3_readSum_129 hdR hR hq4 h
set_option maxRecDepth 20000 in
theorem b_X3_readSum_105 {X : Nat × (Nat → Int32)} {R : rV → Int32 → Option (Bool × rV)} {dR : Nat} (hdR : 10 ≤ dR) (hR : ∀ (v : rV) (a1 : Int32) (r : Bool × rV), R v a1 = some r → EvM mX3_readSum dR 0 0 [.ref 3, .int a1] (rZ X) v (rPZ X r)) {r : Bool × rV} {v : rV} {q4 : rV → Int32 → Int32 → Int32 → Option (Bool × rV)} (hq4 : ∀ (v : rV) (a1 : Int32) (a2 : Int32) (a3 : Int32) , q4 v a1 a2 a3 = some r → Ev mX3_readSum (dR + 2) 0 0 4 [(0, .ref 3), (1, .int a1), (2, .int a2), (3, .int a3)] [] (rZ X) v (rPZ X r)) {a1 : Int32} {a2 : Int32} {a3 : Int32} {a4 : Int32}  (h : f_X3_readSum_105 R q4 v a1 a2 a3 a4 = some r) : Ev mX3_readSum (dR + 2) 0 0 105 [(0, .ref 3), (1, .int a1), (2, .int a2), (3, .int a3), (4, .int a4)] [] (rZ X) v (rPZ X r) := by
  unfold f_X3_readSum_105 at h
  refine e_iload_n dX3_readSum_105 rfl ?_
  refine e_iconst (x := (-1 : Int32)) dX3_readSum_106 (by decide) ?_
  refine e_icmp_eq (tgt := 129) dX3_readSum_107 (by decide) (fun c9 => ?_) (fun c9 => ?_)
  · rw [if_pos c9] at h
    refine e_sub [0, 1, 3, 4] rfl ?_
    exact b_X3_readSum_129 hdR hR hq4 h
  · rw [if_neg c9] at h
    refine e_aload_n dX3_readSum_110 rfl ?_
    refine e_get (w := .ref 4) (j := 1) dX3_readSum_111 k0_3 rc3 (by decide) wfX3_12 (g0_3_1) ?_
    refine e_iload_n dX3_readSum_114 rfl ?_
    refine e_bipush (x := (43 : Int32)) dX3_readSum_115 (by decide) ?_
    refine e_icmp_ne (tgt := 124) dX3_readSum_117 (by decide) (fun c8 => ?_) (fun c8 => ?_)
    · rw [if_neg c8] at h
      refine e_bipush (x := (-2 : Int32)) dX3_readSum_124 (by decide) ?_
      refine e_sub [0, 1, 3, 4] rfl ?_
      exact b_X3_readSum_126 hdR hR hq4 h
    · rw [if_pos c8] at h
      refine e_iconst (x := (-1 : Int32)) dX3_readSum_120 (by decide) ?_
      refine e_goto (tgt := 126) dX3_readSum_121 (by decide) ?_
      refine e_sub [0, 1, 3, 4] rfl ?_
      exact b_X3_readSum_126 hdR hR hq4 h
set_option maxRecDepth 20000 in
theorem b_X3_readSum_90 {X : Nat × (Nat → Int32)} {R : rV → Int32 → Option (Bool × rV)} {dR : Nat} (hdR : 10 ≤ dR) (hR : ∀ (v : rV) (a1 : Int32) (r : Bool × rV), R v a1 = some r → EvM mX3_readSum dR 0 0 [.ref 3, .int a1] (rZ X) v (rPZ X r)) {r : Bool × rV} {v : rV} {q4 : rV → Int32 → Int32 → Int32 → Option (Bool × rV)} {q30 : rV → Int32 → Int32 → Int32 → Int32 → Int32 → Option (Bool × rV)} (hq4 : ∀ (v : rV) (a1 : Int32) (a2 : Int32) (a3 : Int32) , q4 v a1 a2 a3 = some r → Ev mX3_readSum (dR + 2) 0 0 4 [(0, .ref 3), (1, .int a1), (2, .int a2), (3, .int a3)] [] (rZ X) v (rPZ X r)) (hq30 : ∀ (v : rV) (a1 : Int32) (a2 : Int32) (a3 : Int32) (a4 : Int32) (a5 : Int32) , q30 v a1 a2 a3 a4 a5 = some r → Ev mX3_readSum (dR + 2) 0 0 30 [(0, .ref 3), (1, .int a1), (2, .int a2), (3, .int a3), (4, .int a4), (5, .int a5)] [] (rZ X) v (rPZ X r)) {a1 : Int32} {a2 : Int32} {a3 : Int32} {a5 : Int32} {s0 : Int32}  (h : f_X3_readSum_90 R q4 q30 v a1 a2 a3 a5 s0 = some r) : Ev mX3_readSum (dR + 2) 0 0 90 [(0, .ref 3), (1, .int a1), (2, .int a2), (3, .int a3), (5, .int a5)] [.int s0, .ref 4] (rZ X) v (rPZ X r) := by
  unfold f_X3_readSum_90 at h
  obtain ⟨p12, ep12, h⟩ := Option.bind_eq_some_iff.mp h
  refine c_VV (M' := mX2_add) [.int s0] dX3_readSum_90 rfl wmX3_54 imX2_add seX2_add lkX2_add k0_4 rc2 (Nat.le_of_ble_eq_true rfl) ((x_X2_add (by decide) ep12).mono (by omega)) ?_
  refine e_aload_n dX3_readSum_93 rfl ?_
  obtain ⟨p13, ep13, h⟩ := Option.bind_eq_some_iff.mp h
  refine c_VI (M' := mX3_nextByte) [] dX3_readSum_94 rfl wmX3_40 imX3_nextByte seX3_nextByte lkX3_nextByte k0_3 rc3 (Nat.le_of_ble_eq_true rfl) ((x_X3_nextByte  ep13).mono (by omega)) ?_
  refine e_istore (lv' := [(4, .int p13.1), (0, .ref 3), (1, .int a1), (2, .int a2), (3, .int a3), (5, .int a5)]) dX3_readSum_97 (by decide) rfl ?_
  obtain ⟨x14, ex14, h⟩ := vlet_ex h
  refine e_iinc (lv' := [(5, .int x14), (4, .int p13.1), (0, .ref 3), (1, .int a1), (2, .int a2), (3, .int a3)]) dX3_readSum_99 rfl (ex14.symm) (by decide) rfl ?_
  clear ex14
  refine e_goto (tgt := 30) dX3_readSum_102 (by decide) ?_
  refine e_sub [2, 3, 4, 5, 1, 0] rfl ?_
  exact hq30 p13.2 a1 a2 a3 p13.1 x14 h
set_option maxRecDepth 20000 in
theorem b_X3_readSum_52 {X : Nat × (Nat → Int32)} {R : rV → Int32 → Option (Bool × rV)} {dR : Nat} (hdR : 10 ≤ dR) (hR : ∀ (v : rV) (a1 : Int32) (r : Bool × rV), R v a1 = some r → EvM mX3_readSum dR 0 0 [.ref 3, .int a1] (rZ X) v (rPZ X r)) {r : Bool × rV} {v : rV} {q4 : rV → Int32 → Int32 → Int32 → Option (Bool × rV)} {q30 : rV → Int32 → Int32 → Int32 → Int32 → Int32 → Option (Bool × rV)} (hq4 : ∀ (v : rV) (a1 : Int32) (a2 : Int32) (a3 : Int32) , q4 v a1 a2 a3 = some r → Ev mX3_readSum (dR + 2) 0 0 4 [(0, .ref 3), (1, .int a1), (2, .int a2), (3, .int a3)] [] (rZ X) v (rPZ X r)) (hq30 : ∀ (v : rV) (a1 : Int32) (a2 : Int32) (a3 : Int32) (a4 : Int32) (a5 : Int32) , q30 v a1 a2 a3 a4 a5 = some r → Ev mX3_readSum (dR + 2) 0 0 30 [(0, .ref 3), (1, .int a1), (2, .int a2), (3, .int a3), (4, .int a4), (5, .int a5)] [] (rZ X) v (rPZ X r)) {a1 : Int32} {a2 : Int32} {a3 : Int32} {a4 : Int32} {a5 : Int32}  (h : f_X3_readSum_52 R q4 q30 v a1 a2 a3 a4 a5 = some r) : Ev mX3_readSum (dR + 2) 0 0 52 [(0, .ref 3), (1, .int a1), (2, .int a2), (3, .int a3), (4, .int a4), (5, .int a5)] [] (rZ X) v (rPZ X r) := by
  unfold f_X3_readSum_52 at h
  refine e_aload_n dX3_readSum_52 rfl ?_
  refine e_dup dX3_readSum_53 rfl ?_
  refine e_get (w := .int (v.1 3 3)) (j := 3) dX3_readSum_54 k0_3 rc3 (by decide) wfX3_44 rfl ?_
  refine e_iconst (x := (1 : Int32)) dX3_readSum_57 (by decide) ?_
  refine e_iadd dX3_readSum_58 ?_
  refine e_putI (j := 3) dX3_readSum_59 k0_3 rc3 (by decide) wfX3_44 rfl rfl ?_
  obtain ⟨v10, ev10, h⟩ := vlet_ex h
  refine e_nameV ev10.symm ?_
  clear ev10
  refine e_aload_n dX3_readSum_62 rfl ?_
  refine e_iload_n dX3_readSum_63 rfl ?_
  obtain ⟨p11, ep11, h⟩ := Option.bind_eq_some_iff.mp h
  refine c_VZ (M' := mX3_readAtom) [.int a1] dX3_readSum_64 rfl wmX3_83 imX3_readAtom seX3_readAtom lkX3_readAtom k0_3 rc3 (Nat.le_of_ble_eq_true rfl) ((x_X3_readAtom hdR hR  ep11).mono (by omega)) ?_
  refine e_if_ne (tgt := 72) dX3_readSum_67 (by decide) (fun c16 => ?_) (fun c16 => ?_)
  · rw [if_pos (bI_p c16)] at h
    refine e_aload_n dX3_readSum_72 rfl ?_
    refine e_get (w := .ref 4) (j := 1) dX3_readSum_73 k0_3 rc3 (by decide) wfX3_12 (g0_3_1) ?_
    refine e_iload dX3_readSum_76 rfl ?_
    refine e_bipush (x := (42 : Int32)) dX3_readSum_78 (by decide) ?_
    refine e_icmp_ne (tgt := 88) dX3_readSum_80 (by decide) (fun c15 => ?_) (fun c15 => ?_)
    · rw [if_neg c15] at h
      refine e_bipush (x := (-4 : Int32)) dX3_readSum_88 (by decide) ?_
      refine e_sub [0, 1, 2, 3, 5] rfl ?_
      exact b_X3_readSum_90 hdR hR hq4 hq30 h
    · rw [if_pos c15] at h
      refine e_bipush (x := (-3 : Int32)) dX3_readSum_83 (by decide) ?_
      refine e_goto (tgt := 90) dX3_readSum_85 (by decide) ?_
      refine e_sub [0, 1, 2, 3, 5] rfl ?_
      exact b_X3_readSum_90 hdR hR hq4 hq30 h
  · rw [if_neg (bI_n c16)] at h
    refine e_iconst (x := (0 : Int32)) dX3_readSum_70 (by decide) ?_
    obtain rfl := Option.some.inj h
    exact e_iret dX3_readSum_71 rfl rfl ⟨rfl, rfl, rfl⟩
set_option maxRecDepth 20000 in
theorem b_X3_readSum_30 {X : Nat × (Nat → Int32)} {R : rV → Int32 → Option (Bool × rV)} {dR : Nat} (hdR : 10 ≤ dR) (hR : ∀ (v : rV) (a1 : Int32) (r : Bool × rV), R v a1 = some r → EvM mX3_readSum dR 0 0 [.ref 3, .int a1] (rZ X) v (rPZ X r)) {r : Bool × rV} {q4 : rV → Int32 → Int32 → Int32 → Option (Bool × rV)} (hq4 : ∀ (v : rV) (a1 : Int32) (a2 : Int32) (a3 : Int32) , q4 v a1 a2 a3 = some r → Ev mX3_readSum (dR + 2) 0 0 4 [(0, .ref 3), (1, .int a1), (2, .int a2), (3, .int a3)] [] (rZ X) v (rPZ X r)) : ∀ (n : Nat) (v : rV) (a1 : Int32) (a2 : Int32) (a3 : Int32) (a4 : Int32) (a5 : Int32) , f_X3_readSum_30 R  q4 n v a1 a2 a3 a4 a5 = some r → Ev mX3_readSum (dR + 2) 0 0 30 [(0, .ref 3), (1, .int a1), (2, .int a2), (3, .int a3), (4, .int a4), (5, .int a5)] [] (rZ X) v (rPZ X r) := by
  intro n
  induction n with
  | zero =>
    intros
    rename_i h
    cases h
  | succ n ih =>
    intro v a1 a2 a3 a4 a5 h
    rw [f_X3_readSum_30] at h
    refine e_iload dX3_readSum_30 rfl ?_
    refine e_sipush (x := (160 : Int32)) dX3_readSum_32 (by decide) ?_
    refine e_icmp_ge (tgt := 105) dX3_readSum_35 (by decide) (fun c19 => ?_) (fun c19 => ?_)
    · rw [if_pos c19] at h
      refine e_sub [0, 1, 2, 3, 4] rfl ?_
      exact b_X3_readSum_105 hdR hR hq4 h
    · rw [if_neg c19] at h
      refine e_iload dX3_readSum_38 rfl ?_
      refine e_bipush (x := (42 : Int32)) dX3_readSum_40 (by decide) ?_
      refine e_icmp_eq (tgt := 52) dX3_readSum_42 (by decide) (fun c18 => ?_) (fun c18 => ?_)
      · rw [if_pos c18] at h
        exact b_X3_readSum_52 hdR hR hq4 (fun v a1 a2 a3 a4 a5  hh => ih v a1 a2 a3 a4 a5  hh) h
      · rw [if_neg c18] at h
        refine e_iload dX3_readSum_45 rfl ?_
        refine e_bipush (x := (47 : Int32)) dX3_readSum_47 (by decide) ?_
        refine e_icmp_ne (tgt := 105) dX3_readSum_49 (by decide) (fun c17 => ?_) (fun c17 => ?_)
        · rw [if_neg c17] at h
          refine e_sub [0, 1, 2, 3, 4] rfl ?_
          exact b_X3_readSum_105 hdR hR hq4 h
        · rw [if_pos c17] at h
          exact b_X3_readSum_52 hdR hR hq4 (fun v a1 a2 a3 a4 a5  hh => ih v a1 a2 a3 a4 a5  hh) h
set_option maxRecDepth 20000 in
theorem b_X3_readSum_4 {X : Nat × (Nat → Int32)} {R : rV → Int32 → Option (Bool × rV)} {dR : Nat} (hdR : 10 ≤ dR) (hR : ∀ (v : rV) (a1 : Int32) (r : Bool × rV), R v a1 = some r → EvM mX3_readSum dR 0 0 [.ref 3, .int a1] (rZ X) v (rPZ X r)) {r : Bool × rV}   : ∀ (n : Nat) (v : rV) (a1 : Int32) (a2 : Int32) (a3 : Int32) , f_X3_readSum_4 R   n v a1 a2 a3 = some r → Ev mX3_readSum (dR + 2) 0 0 4 [(0, .ref 3), (1, .int a1), (2, .int a2), (3, .int a3)] [] (rZ X) v (rPZ X r) := by
  intro n
  induction n with
  | zero =>
    intros
    rename_i h
    cases h
  | succ n ih =>
    intro v a1 a2 a3 h
    rw [f_X3_readSum_4] at h
    refine e_iload_n dX3_readSum_4 rfl ?_
    refine e_sipush (x := (160 : Int32)) dX3_readSum_5 (by decide) ?_
    refine e_icmp_ge (tgt := 164) dX3_readSum_8 (by decide) (fun c21 => ?_) (fun c21 => ?_)
    · rw [if_pos c21] at h
      refine e_iconst (x := (1 : Int32)) dX3_readSum_164 (by decide) ?_
      obtain rfl := Option.some.inj h
      exact e_iret dX3_readSum_165 rfl rfl ⟨rfl, rfl, rfl⟩
    · rw [if_neg c21] at h
      refine e_aload_n dX3_readSum_11 rfl ?_
      refine e_iload_n dX3_readSum_12 rfl ?_
      obtain ⟨p1, ep1, h⟩ := Option.bind_eq_some_iff.mp h
      refine c_VZ (M' := mX3_readAtom) [.int a1] dX3_readSum_13 rfl wmX3_83 imX3_readAtom seX3_readAtom lkX3_readAtom k0_3 rc3 (Nat.le_of_ble_eq_true rfl) ((x_X3_readAtom hdR hR  ep1).mono (by omega)) ?_
      refine e_if_ne (tgt := 21) dX3_readSum_16 (by decide) (fun c20 => ?_) (fun c20 => ?_)
      · rw [if_pos (bI_p c20)] at h
        refine e_aload_n dX3_readSum_21 rfl ?_
        obtain ⟨p2, ep2, h⟩ := Option.bind_eq_some_iff.mp h
        refine c_VI (M' := mX3_nextByte) [] dX3_readSum_22 rfl wmX3_40 imX3_nextByte seX3_nextByte lkX3_nextByte k0_3 rc3 (Nat.le_of_ble_eq_true rfl) ((x_X3_nextByte  ep2).mono (by omega)) ?_
        refine e_istore (lv' := [(4, .int p2.1), (0, .ref 3), (1, .int a1), (2, .int a2), (3, .int a3)]) dX3_readSum_25 (by decide) rfl ?_
        refine e_iconst (x := (0 : Int32)) dX3_readSum_27 (by decide) ?_
        refine e_istore (lv' := [(5, .int (0 : Int32)), (4, .int p2.1), (0, .ref 3), (1, .int a1), (2, .int a2), (3, .int a3)]) dX3_readSum_28 (by decide) rfl ?_
        refine e_sub [2, 3, 4, 5, 1, 0] rfl ?_
        exact b_X3_readSum_30 hdR hR (fun v a1 a2 a3  hh => ih v a1 a2 a3  hh) _ p2.2 a1 a2 a3 p2.1 (0 : Int32) h
      · rw [if_neg (bI_n c20)] at h
        refine e_iconst (x := (0 : Int32)) dX3_readSum_19 (by decide) ?_
        obtain rfl := Option.some.inj h
        exact e_iret dX3_readSum_20 rfl rfl ⟨rfl, rfl, rfl⟩
set_option maxRecDepth 20000 in
theorem x_X3_readSum_B {X : Nat × (Nat → Int32)} {v : rV} {r : Bool × rV} {R : rV → Int32 → Option (Bool × rV)} {dR : Nat} (hdR : 10 ≤ dR) (hR : ∀ (v : rV) (a1 : Int32) (r : Bool × rV), R v a1 = some r → EvM mX3_readSum dR 0 0 [.ref 3, .int a1] (rZ X) v (rPZ X r)) {a1 : Int32}  (h : f_X3_readSum_B R v a1 = some r) : EvM mX3_readSum (dR + 2) 0 0 [.ref 3, .int a1] (rZ X) v (rPZ X r) := by
  refine evm_of (by decide +kernel) (fun G => Nat.le_of_ble_eq_true rfl) ?_
  show Ev mX3_readSum (dR + 2) 0 0 0 [(0, .ref 3), (1, .int a1)] [] (rZ X) v _
  unfold f_X3_readSum_B at h
  refine e_iconst (x := (-1 : Int32)) dX3_readSum_0 (by decide) ?_
  refine e_istore_n (lv' := [(2, .int (-1 : Int32)), (0, .ref 3), (1, .int a1)]) dX3_readSum_1 (by decide) rfl ?_
  refine e_iconst (x := (0 : Int32)) dX3_readSum_2 (by decide) ?_
  refine e_istore_n (lv' := [(3, .int (0 : Int32)), (2, .int (-1 : Int32)), (0, .ref 3), (1, .int a1)]) dX3_readSum_3 (by decide) rfl ?_
  refine e_sub [2, 3, 1, 0] rfl ?_
  exact b_X3_readSum_4 hdR hR  _ v a1 (-1 : Int32) (0 : Int32) h
def f_X3_readSum : Nat → rV → Int32 → Option (Bool × rV)
  | 0, _, _ => none
  | n + 1, v, a1 => f_X3_readSum_B (f_X3_readSum n) v a1
theorem x_X3_readSum {X : Nat × (Nat → Int32)} : ∀ (n : Nat) (v : rV) (a1 : Int32) (r : Bool × rV), f_X3_readSum n v a1 = some r → EvM mX3_readSum (10 + 2 * n) 0 0 [.ref 3, .int a1] (rZ X) v (rPZ X r) := by
  intro n
  induction n with
  | zero =>
    intros
    rename_i h
    cases h
  | succ n ih =>
    intro v a1 r h
    rw [f_X3_readSum] at h
    exact (x_X3_readSum_B (dR := 10 + 2 * n) (by omega) ih h).mono (by omega)
def f_X3_isComparison (a0 : Int32) : Bool := if a0 = (61 : Int32) then
  (true)
else
  (if a0 = (60 : Int32) then
  (true)
else
  (if a0 = (62 : Int32) then
  (true)
else
  (false)))
set_option maxRecDepth 20000 in
theorem x_X3_isComparison {X : Nat × (Nat → Int32)} {v : rV} {a0 : Int32}  : EvM mX3_isComparison 1 0 0 [.int a0] (rZ X) v (rPZ X ((f_X3_isComparison a0), v)) := by
  refine evm_of (by decide +kernel) (fun G => Nat.le_of_ble_eq_true rfl) ?_
  show Ev mX3_isComparison 1 0 0 0 [(0, .int a0)] [] (rZ X) v _
  generalize h : f_X3_isComparison a0 = r
  unfold f_X3_isComparison at h
  refine e_iload_n dX3_isComparison_0 rfl ?_
  refine e_bipush (x := (61 : Int32)) dX3_isComparison_1 (by decide) ?_
  refine e_icmp_eq (tgt := 18) dX3_isComparison_3 (by decide) (fun c3 => ?_) (fun c3 => ?_)
  · rw [if_pos c3] at h
    refine e_iconst (x := (1 : Int32)) dX3_isComparison_18 (by decide) ?_
    refine e_goto (tgt := 23) dX3_isComparison_19 (by decide) ?_
    subst h
    exact e_iret dX3_isComparison_23 rfl rfl ⟨rfl, rfl, rfl⟩
  · rw [if_neg c3] at h
    refine e_iload_n dX3_isComparison_6 rfl ?_
    refine e_bipush (x := (60 : Int32)) dX3_isComparison_7 (by decide) ?_
    refine e_icmp_eq (tgt := 18) dX3_isComparison_9 (by decide) (fun c2 => ?_) (fun c2 => ?_)
    · rw [if_pos c2] at h
      refine e_iconst (x := (1 : Int32)) dX3_isComparison_18 (by decide) ?_
      refine e_goto (tgt := 23) dX3_isComparison_19 (by decide) ?_
      subst h
      exact e_iret dX3_isComparison_23 rfl rfl ⟨rfl, rfl, rfl⟩
    · rw [if_neg c2] at h
      refine e_iload_n dX3_isComparison_12 rfl ?_
      refine e_bipush (x := (62 : Int32)) dX3_isComparison_13 (by decide) ?_
      refine e_icmp_ne (tgt := 22) dX3_isComparison_15 (by decide) (fun c1 => ?_) (fun c1 => ?_)
      · rw [if_neg c1] at h
        refine e_iconst (x := (0 : Int32)) dX3_isComparison_22 (by decide) ?_
        subst h
        exact e_iret dX3_isComparison_23 rfl rfl ⟨rfl, rfl, rfl⟩
      · rw [if_pos c1] at h
        refine e_iconst (x := (1 : Int32)) dX3_isComparison_18 (by decide) ?_
        refine e_goto (tgt := 23) dX3_isComparison_19 (by decide) ?_
        subst h
        exact e_iret dX3_isComparison_23 rfl rfl ⟨rfl, rfl, rfl⟩
def f_X3_readComparison_62   (v : rV) (s0 : Int32) : Option (Bool × rV) := (f_X2_add v 4 s0).bind fun p5 =>
  some (true, p5)
def f_X3_readComparison (v : rV) (a1 : Int32) : Option (Bool × rV) := (f_X3_nextByte v).bind fun p1 =>
  if (f_X3_isComparison p1.1) = true then
  (vlet (rI p1.2 3 3 ((p1.2.1 3 3) + (1 : Int32))) fun v3 =>
  (f_X3_readSum 10 v3 a1).bind fun p4 =>
  if p4.1 = true then
  (if p1.1 = (61 : Int32) then
  (f_X3_readComparison_62  p4.2 (-5 : Int32))
else
  (if p1.1 = (60 : Int32) then
  (f_X3_readComparison_62  p4.2 (-6 : Int32))
else
  (f_X3_readComparison_62  p4.2 (-7 : Int32))))
else
  (some (false, p4.2)))
else
  (some (false, p1.2))
set_option maxRecDepth 20000 in
theorem b_X3_readComparison_62 {X : Nat × (Nat → Int32)} {r : Bool × rV} {v : rV}   {s0 : Int32}  (h : f_X3_readComparison_62  v s0 = some r) : Ev mX3_readComparison 31 0 0 62 [] [.int s0, .ref 4] (rZ X) v (rPZ X r) := by
  unfold f_X3_readComparison_62 at h
  obtain ⟨p5, ep5, h⟩ := Option.bind_eq_some_iff.mp h
  refine c_VV (M' := mX2_add) [.int s0] dX3_readComparison_62 rfl wmX3_54 imX2_add seX2_add lkX2_add k0_4 rc2 (Nat.le_of_ble_eq_true rfl) ((x_X2_add (by decide) ep5).mono (by omega)) ?_
  refine e_iconst (x := (1 : Int32)) dX3_readComparison_65 (by decide) ?_
  obtain rfl := Option.some.inj h
  exact e_iret dX3_readComparison_66 rfl rfl ⟨rfl, rfl, rfl⟩
set_option maxRecDepth 20000 in
theorem x_X3_readComparison {X : Nat × (Nat → Int32)} {v : rV} {r : Bool × rV} {a1 : Int32}  (h : f_X3_readComparison v a1 = some r) : EvM mX3_readComparison 31 0 0 [.ref 3, .int a1] (rZ X) v (rPZ X r) := by
  refine evm_of (by decide +kernel) (fun G => Nat.le_of_ble_eq_true rfl) ?_
  show Ev mX3_readComparison 31 0 0 0 [(0, .ref 3), (1, .int a1)] [] (rZ X) v _
  unfold f_X3_readComparison at h
  refine e_aload_n dX3_readComparison_0 rfl ?_
  obtain ⟨p1, ep1, h⟩ := Option.bind_eq_some_iff.mp h
  refine c_VI (M' := mX3_nextByte) [] dX3_readComparison_1 rfl wmX3_40 imX3_nextByte seX3_nextByte lkX3_nextByte k0_3 rc3 (Nat.le_of_ble_eq_true rfl) ((x_X3_nextByte  ep1).mono (by omega)) ?_
  refine e_istore_n (lv' := [(2, .int p1.1), (0, .ref 3), (1, .int a1)]) dX3_readComparison_4 (by decide) rfl ?_
  refine e_iload_n dX3_readComparison_5 rfl ?_
  refine c_SZ (M' := mX3_isComparison) [.int p1.1] dX3_readComparison_6 rfl wmX3_71 stX3_isComparison lkX3_isComparison (Nat.le_of_ble_eq_true rfl) ((x_X3_isComparison ).mono (by omega)) ?_
  refine e_if_ne (tgt := 14) dX3_readComparison_9 (by decide) (fun c9 => ?_) (fun c9 => ?_)
  · rw [if_pos (bI_p c9)] at h
    refine e_aload_n dX3_readComparison_14 rfl ?_
    refine e_dup dX3_readComparison_15 rfl ?_
    refine e_get (w := .int (p1.2.1 3 3)) (j := 3) dX3_readComparison_16 k0_3 rc3 (by decide) wfX3_44 rfl ?_
    refine e_iconst (x := (1 : Int32)) dX3_readComparison_19 (by decide) ?_
    refine e_iadd dX3_readComparison_20 ?_
    refine e_putI (j := 3) dX3_readComparison_21 k0_3 rc3 (by decide) wfX3_44 rfl rfl ?_
    obtain ⟨v3, ev3, h⟩ := vlet_ex h
    refine e_nameV ev3.symm ?_
    clear ev3
    refine e_aload_n dX3_readComparison_24 rfl ?_
    refine e_iload_n dX3_readComparison_25 rfl ?_
    obtain ⟨p4, ep4, h⟩ := Option.bind_eq_some_iff.mp h
    refine c_VZ (M' := mX3_readSum) [.int a1] dX3_readComparison_26 rfl wmX3_68 imX3_readSum seX3_readSum lkX3_readSum k0_3 rc3 (Nat.le_of_ble_eq_true rfl) ((x_X3_readSum 10 _ _ _  ep4).mono (by omega)) ?_
    refine e_if_ne (tgt := 34) dX3_readComparison_29 (by decide) (fun c8 => ?_) (fun c8 => ?_)
    · rw [if_pos (bI_p c8)] at h
      refine e_aload_n dX3_readComparison_34 rfl ?_
      refine e_get (w := .ref 4) (j := 1) dX3_readComparison_35 k0_3 rc3 (by decide) wfX3_12 (g0_3_1) ?_
      refine e_iload_n dX3_readComparison_38 rfl ?_
      refine e_bipush (x := (61 : Int32)) dX3_readComparison_39 (by decide) ?_
      refine e_icmp_ne (tgt := 49) dX3_readComparison_41 (by decide) (fun c7 => ?_) (fun c7 => ?_)
      · rw [if_neg c7] at h
        refine e_iload_n dX3_readComparison_49 rfl ?_
        refine e_bipush (x := (60 : Int32)) dX3_readComparison_50 (by decide) ?_
        refine e_icmp_ne (tgt := 60) dX3_readComparison_52 (by decide) (fun c6 => ?_) (fun c6 => ?_)
        · rw [if_neg c6] at h
          refine e_bipush (x := (-7 : Int32)) dX3_readComparison_60 (by decide) ?_
          refine e_sub [] rfl ?_
          exact b_X3_readComparison_62  h
        · rw [if_pos c6] at h
          refine e_bipush (x := (-6 : Int32)) dX3_readComparison_55 (by decide) ?_
          refine e_goto (tgt := 62) dX3_readComparison_57 (by decide) ?_
          refine e_sub [] rfl ?_
          exact b_X3_readComparison_62  h
      · rw [if_pos c7] at h
        refine e_bipush (x := (-5 : Int32)) dX3_readComparison_44 (by decide) ?_
        refine e_goto (tgt := 62) dX3_readComparison_46 (by decide) ?_
        refine e_sub [] rfl ?_
        exact b_X3_readComparison_62  h
    · rw [if_neg (bI_n c8)] at h
      refine e_iconst (x := (0 : Int32)) dX3_readComparison_32 (by decide) ?_
      obtain rfl := Option.some.inj h
      exact e_iret dX3_readComparison_33 rfl rfl ⟨rfl, rfl, rfl⟩
  · rw [if_neg (bI_n c9)] at h
    refine e_iconst (x := (0 : Int32)) dX3_readComparison_12 (by decide) ?_
    obtain rfl := Option.some.inj h
    exact e_iret dX3_readComparison_13 rfl rfl ⟨rfl, rfl, rfl⟩
def f_X3_readUnit_117 (R : rV → Int32 → Int32 → Option (Bool × rV))   : Nat → rV → Int32 → Int32 → Int32 → Option (Bool × rV)
  | 0, _, _, _, _ => none
  | n + 1, v, a3, a5, a6 => if a3 ≤ a6 then
  (if a5 = 0 ∨ a5 = 1 then some ((decide (¬ a5 = 0)), v) else none)
else
  ((f_X2_add v 4 (-10 : Int32)).bind fun p4 =>
  vlet (a6 + (1 : Int32)) fun x5 =>
  f_X3_readUnit_117 R  n p4 a3 a5 x5)
def f_X3_readUnit_114 (R : rV → Int32 → Int32 → Option (Bool × rV))   (v : rV) (a3 : Int32) (a5 : Int32) : Option (Bool × rV) := f_X3_readUnit_117 R  20000 v a3 a5 (0 : Int32)
def f_X3_readUnit_112 (R : rV → Int32 → Int32 → Option (Bool × rV))   (v : rV) (a3 : Int32) (s0 : Int32) : Option (Bool × rV) := f_X3_readUnit_114 R  v a3 s0
def f_X3_readUnit_111 (R : rV → Int32 → Int32 → Option (Bool × rV))   (v : rV) (a3 : Int32) : Option (Bool × rV) := f_X3_readUnit_112 R  v a3 (0 : Int32)
def f_X3_readUnit_98 (R : rV → Int32 → Int32 → Option (Bool × rV))   (v : rV) (a3 : Int32) (a4 : Int32) : Option (Bool × rV) := (f_X3_readComparison v a4).bind fun p2 =>
  if p2.1 = true then
  (f_X3_readUnit_112 R  p2.2 a3 (1 : Int32))
else
  (f_X3_readUnit_111 R  p2.2 a3)
def f_X3_readUnit_85 (R : rV → Int32 → Int32 → Option (Bool × rV))   (v : rV) (a2 : Int32) (a3 : Int32) (a4 : Int32) : Option (Bool × rV) := if a2 = 0 then
  ((f_X3_readSum 10 v a4).bind fun p8 =>
  if p8.1 = true then
  (f_X3_readUnit_98 R  p8.2 a3 a4)
else
  (f_X3_readUnit_111 R  p8.2 a3))
else
  (f_X3_readUnit_98 R  v a3 a4)
def f_X3_readUnit_80 (R : rV → Int32 → Int32 → Option (Bool × rV))   (v : rV) (a3 : Int32) (s0 : Int32) : Option (Bool × rV) := f_X3_readUnit_114 R  v a3 s0
def f_X3_readUnit_79 (R : rV → Int32 → Int32 → Option (Bool × rV))   (v : rV) (a3 : Int32) : Option (Bool × rV) := f_X3_readUnit_80 R  v a3 (0 : Int32)
def f_X3_readUnit_29 (R : rV → Int32 → Int32 → Option (Bool × rV))   (v : rV) (a1 : Int32) (a2 : Int32) (a3 : Int32) : Option (Bool × rV) := vlet (a1 + a3 : Int32) fun x1 =>
  if a2 = 0 then
  (if (6 : Int32) ≤ x1 then
  (f_X3_readUnit_85 R  v a2 a3 x1)
else
  ((f_X3_goesOnWith v (40 : Int32)).bind fun p11 =>
  if p11.1 = true then
  ((R p11.2 (x1 + (1 : Int32)) (0 : Int32)).bind fun p12 =>
  if p12.1 = true then
  ((f_X3_goesOnWith p12.2 (41 : Int32)).bind fun p13 =>
  if p13.1 = true then
  (f_X3_readUnit_80 R  p13.2 a3 (1 : Int32))
else
  (f_X3_readUnit_79 R  p13.2 a3))
else
  (f_X3_readUnit_79 R  p12.2 a3))
else
  (f_X3_readUnit_85 R  p11.2 a2 a3 x1)))
else
  (f_X3_readUnit_85 R  v a2 a3 x1)
def f_X3_readUnit_2 (R : rV → Int32 → Int32 → Option (Bool × rV))   : Nat → rV → Int32 → Int32 → Int32 → Option (Bool × rV)
  | 0, _, _, _, _ => none
  | n + 1, v, a1, a2, a3 => if a2 = 0 then
  (if (6 : Int32) ≤ (a3 + a1) then
  (f_X3_readUnit_29 R  v a1 a2 a3)
else
  ((f_X3_goesOnWith v (33 : Int32)).bind fun p19 =>
  if p19.1 = true then
  (vlet (a3 + (1 : Int32)) fun x20 =>
  f_X3_readUnit_2 R  n p19.2 a1 a2 x20)
else
  (f_X3_readUnit_29 R  p19.2 a1 a2 a3)))
else
  (f_X3_readUnit_29 R  v a1 a2 a3)
def f_X3_readUnit (R : rV → Int32 → Int32 → Option (Bool × rV)) (v : rV) (a1 : Int32) (a2 : Int32) : Option (Bool × rV) := f_X3_readUnit_2 R  20000 v a1 a2 (0 : Int32)
set_option maxRecDepth 20000 in
theorem b_X3_readUnit_117 {X : Nat × (Nat → Int32)} {R : rV → Int32 → Int32 → Option (Bool × rV)} {dR : Nat} (hdR : 31 ≤ dR) (hR : ∀ (v : rV) (a1 a2 : Int32) (r : Bool × rV), R v a1 a2 = some r → EvM mX3_readCondition dR 0 0 [.ref 3, .int a1, .int a2] (rZ X) v (rPZ X r)) {r : Bool × rV}   : ∀ (n : Nat) (v : rV) (a3 : Int32) (a5 : Int32) (a6 : Int32) , f_X3_readUnit_117 R   n v a3 a5 a6 = some r → Ev mX3_readUnit (dR + 1) 0 0 117 [(0, .ref 3), (3, .int a3), (5, .int a5), (6, .int a6)] [] (rZ X) v (rPZ X r) := by
  intro n
  induction n with
  | zero =>
    intros
    rename_i h
    cases h
  | succ n ih =>
    intro v a3 a5 a6 h
    rw [f_X3_readUnit_117] at h
    refine e_iload dX3_readUnit_117 rfl ?_
    refine e_iload_n dX3_readUnit_119 rfl ?_
    refine e_icmp_ge (tgt := 138) dX3_readUnit_120 (by decide) (fun c6 => ?_) (fun c6 => ?_)
    · rw [if_pos c6] at h
      refine e_iload dX3_readUnit_138 rfl ?_
      obtain ⟨c3, h⟩ := grd h
      obtain rfl := Option.some.inj h
      exact e_iret dX3_readUnit_140 rfl (z01 c3) ⟨by rw [z01b c3], rfl, rfl⟩
    · rw [if_neg c6] at h
      refine e_aload_n dX3_readUnit_123 rfl ?_
      refine e_get (w := .ref 4) (j := 1) dX3_readUnit_124 k0_3 rc3 (by decide) wfX3_12 (g0_3_1) ?_
      refine e_bipush (x := (-10 : Int32)) dX3_readUnit_127 (by decide) ?_
      obtain ⟨p4, ep4, h⟩ := Option.bind_eq_some_iff.mp h
      refine c_VV (M' := mX2_add) [.int (-10 : Int32)] dX3_readUnit_129 rfl wmX3_54 imX2_add seX2_add lkX2_add k0_4 rc2 (Nat.le_of_ble_eq_true rfl) ((x_X2_add (by decide) ep4).mono (by omega)) ?_
      obtain ⟨x5, ex5, h⟩ := vlet_ex h
      refine e_iinc (lv' := [(6, .int x5), (0, .ref 3), (3, .int a3), (5, .int a5)]) dX3_readUnit_132 rfl (ex5.symm) (by decide) rfl ?_
      clear ex5
      refine e_goto (tgt := 117) dX3_readUnit_135 (by decide) ?_
      refine e_sub [1, 2, 3, 0] rfl ?_
      exact ih p4 a3 a5 x5 h
set_option maxRecDepth 20000 in
theorem b_X3_readUnit_114 {X : Nat × (Nat → Int32)} {R : rV → Int32 → Int32 → Option (Bool × rV)} {dR : Nat} (hdR : 31 ≤ dR) (hR : ∀ (v : rV) (a1 a2 : Int32) (r : Bool × rV), R v a1 a2 = some r → EvM mX3_readCondition dR 0 0 [.ref 3, .int a1, .int a2] (rZ X) v (rPZ X r)) {r : Bool × rV} {v : rV}   {a3 : Int32} {a5 : Int32}  (h : f_X3_readUnit_114 R  v a3 a5 = some r) : Ev mX3_readUnit (dR + 1) 0 0 114 [(0, .ref 3), (3, .int a3), (5, .int a5)] [] (rZ X) v (rPZ X r) := by
  unfold f_X3_readUnit_114 at h
  refine e_iconst (x := (0 : Int32)) dX3_readUnit_114 (by decide) ?_
  refine e_istore (lv' := [(6, .int (0 : Int32)), (0, .ref 3), (3, .int a3), (5, .int a5)]) dX3_readUnit_115 (by decide) rfl ?_
  refine e_sub [1, 2, 3, 0] rfl ?_
  exact b_X3_readUnit_117 hdR hR  _ v a3 a5 (0 : Int32) h
set_option maxRecDepth 20000 in
theorem b_X3_readUnit_112 {X : Nat × (Nat → Int32)} {R : rV → Int32 → Int32 → Option (Bool × rV)} {dR : Nat} (hdR : 31 ≤ dR) (hR : ∀ (v : rV) (a1 a2 : Int32) (r : Bool × rV), R v a1 a2 = some r → EvM mX3_readCondition dR 0 0 [.ref 3, .int a1, .int a2] (rZ X) v (rPZ X r)) {r : Bool × rV} {v : rV}   {a3 : Int32} {s0 : Int32}  (h : f_X3_readUnit_112 R  v a3 s0 = some r) : Ev mX3_readUnit (dR + 1) 0 0 112 [(0, .ref 3), (3, .int a3)] [.int s0] (rZ X) v (rPZ X r) := by
  unfold f_X3_readUnit_112 at h
  refine e_istore (lv' := [(5, .int s0), (0, .ref 3), (3, .int a3)]) dX3_readUnit_112 (by decide) rfl ?_
  refine e_sub [1, 2, 0] rfl ?_
  exact b_X3_readUnit_114 hdR hR  h
set_option maxRecDepth 20000 in
theorem b_X3_readUnit_111 {X : Nat × (Nat → Int32)} {R : rV → Int32 → Int32 → Option (Bool × rV)} {dR : Nat} (hdR : 31 ≤ dR) (hR : ∀ (v : rV) (a1 a2 : Int32) (r : Bool × rV), R v a1 a2 = some r → EvM mX3_readCondition dR 0 0 [.ref 3, .int a1, .int a2] (rZ X) v (rPZ X r)) {r : Bool × rV} {v : rV}   {a3 : Int32}  (h : f_X3_readUnit_111 R  v a3 = some r) : Ev mX3_readUnit (dR + 1) 0 0 111 [(0, .ref 3), (3, .int a3)] [] (rZ X) v (rPZ X r) := by
  unfold f_X3_readUnit_111 at h
  refine e_iconst (x := (0 : Int32)) dX3_readUnit_111 (by decide) ?_
  exact b_X3_readUnit_112 hdR hR  h
set_option maxRecDepth 20000 in
theorem b_X3_readUnit_98 {X : Nat × (Nat → Int32)} {R : rV → Int32 → Int32 → Option (Bool × rV)} {dR : Nat} (hdR : 31 ≤ dR) (hR : ∀ (v : rV) (a1 a2 : Int32) (r : Bool × rV), R v a1 a2 = some r → EvM mX3_readCondition dR 0 0 [.ref 3, .int a1, .int a2] (rZ X) v (rPZ X r)) {r : Bool × rV} {v : rV}   {a3 : Int32} {a4 : Int32}  (h : f_X3_readUnit_98 R  v a3 a4 = some r) : Ev mX3_readUnit (dR + 1) 0 0 98 [(0, .ref 3), (3, .int a3), (4, .int a4)] [] (rZ X) v (rPZ X r) := by
  unfold f_X3_readUnit_98 at h
  refine e_aload_n dX3_readUnit_98 rfl ?_
  refine e_iload dX3_readUnit_99 rfl ?_
  obtain ⟨p2, ep2, h⟩ := Option.bind_eq_some_iff.mp h
  refine c_VZ (M' := mX3_readComparison) [.int a4] dX3_readUnit_101 rfl wmX3_80 imX3_readComparison seX3_readComparison lkX3_readComparison k0_3 rc3 (Nat.le_of_ble_eq_true rfl) ((x_X3_readComparison  ep2).mono (by omega)) ?_
  refine e_if_eq (tgt := 111) dX3_readUnit_104 (by decide) (fun c7 => ?_) (fun c7 => ?_)
  · rw [if_neg (bI_n c7)] at h
    refine e_sub [0, 1] rfl ?_
    exact b_X3_readUnit_111 hdR hR  h
  · rw [if_pos (bI_p c7)] at h
    refine e_iconst (x := (1 : Int32)) dX3_readUnit_107 (by decide) ?_
    refine e_goto (tgt := 112) dX3_readUnit_108 (by decide) ?_
    refine e_sub [0, 1] rfl ?_
    exact b_X3_readUnit_112 hdR hR  h
set_option maxRecDepth 20000 in
theorem b_X3_readUnit_85 {X : Nat × (Nat → Int32)} {R : rV → Int32 → Int32 → Option (Bool × rV)} {dR : Nat} (hdR : 31 ≤ dR) (hR : ∀ (v : rV) (a1 a2 : Int32) (r : Bool × rV), R v a1 a2 = some r → EvM mX3_readCondition dR 0 0 [.ref 3, .int a1, .int a2] (rZ X) v (rPZ X r)) {r : Bool × rV} {v : rV}   {a2 : Int32} {a3 : Int32} {a4 : Int32}  (h : f_X3_readUnit_85 R  v a2 a3 a4 = some r) : Ev mX3_readUnit (dR + 1) 0 0 85 [(0, .ref 3), (2, .int a2), (3, .int a3), (4, .int a4)] [] (rZ X) v (rPZ X r) := by
  unfold f_X3_readUnit_85 at h
  refine e_iload_n dX3_readUnit_85 rfl ?_
  refine e_if_ne (tgt := 98) dX3_readUnit_86 (by decide) (fun c10 => ?_) (fun c10 => ?_)
  · rw [if_neg c10] at h
    refine e_sub [0, 2, 3] rfl ?_
    exact b_X3_readUnit_98 hdR hR  h
  · rw [if_pos c10] at h
    refine e_aload_n dX3_readUnit_89 rfl ?_
    refine e_iload dX3_readUnit_90 rfl ?_
    obtain ⟨p8, ep8, h⟩ := Option.bind_eq_some_iff.mp h
    refine c_VZ (M' := mX3_readSum) [.int a4] dX3_readUnit_92 rfl wmX3_68 imX3_readSum seX3_readSum lkX3_readSum k0_3 rc3 (Nat.le_of_ble_eq_true rfl) ((x_X3_readSum 10 _ _ _  ep8).mono (by omega)) ?_
    refine e_if_eq (tgt := 111) dX3_readUnit_95 (by decide) (fun c9 => ?_) (fun c9 => ?_)
    · rw [if_neg (bI_n c9)] at h
      refine e_sub [0, 2] rfl ?_
      exact b_X3_readUnit_111 hdR hR  h
    · rw [if_pos (bI_p c9)] at h
      refine e_sub [0, 2, 3] rfl ?_
      exact b_X3_readUnit_98 hdR hR  h
set_option maxRecDepth 20000 in
theorem b_X3_readUnit_80 {X : Nat × (Nat → Int32)} {R : rV → Int32 → Int32 → Option (Bool × rV)} {dR : Nat} (hdR : 31 ≤ dR) (hR : ∀ (v : rV) (a1 a2 : Int32) (r : Bool × rV), R v a1 a2 = some r → EvM mX3_readCondition dR 0 0 [.ref 3, .int a1, .int a2] (rZ X) v (rPZ X r)) {r : Bool × rV} {v : rV}   {a3 : Int32} {s0 : Int32}  (h : f_X3_readUnit_80 R  v a3 s0 = some r) : Ev mX3_readUnit (dR + 1) 0 0 80 [(0, .ref 3), (3, .int a3)] [.int s0] (rZ X) v (rPZ X r) := by
  unfold f_X3_readUnit_80 at h
  refine e_istore (lv' := [(5, .int s0), (0, .ref 3), (3, .int a3)]) dX3_readUnit_80 (by decide) rfl ?_
  refine e_goto (tgt := 114) dX3_readUnit_82 (by decide) ?_
  refine e_sub [1, 2, 0] rfl ?_
  exact b_X3_readUnit_114 hdR hR  h
set_option maxRecDepth 20000 in
theorem b_X3_readUnit_79 {X : Nat × (Nat → Int32)} {R : rV → Int32 → Int32 → Option (Bool × rV)} {dR : Nat} (hdR : 31 ≤ dR) (hR : ∀ (v : rV) (a1 a2 : Int32) (r : Bool × rV), R v a1 a2 = some r → EvM mX3_readCondition dR 0 0 [.ref 3, .int a1, .int a2] (rZ X) v (rPZ X r)) {r : Bool × rV} {v : rV}   {a3 : Int32}  (h : f_X3_readUnit_79 R  v a3 = some r) : Ev mX3_readUnit (dR + 1) 0 0 79 [(0, .ref 3), (3, .int a3)] [] (rZ X) v (rPZ X r) := by
  unfold f_X3_readUnit_79 at h
  refine e_iconst (x := (0 : Int32)) dX3_readUnit_79 (by decide) ?_
  exact b_X3_readUnit_80 hdR hR  h
set_option maxRecDepth 20000 in
theorem b_X3_readUnit_29 {X : Nat × (Nat → Int32)} {R : rV → Int32 → Int32 → Option (Bool × rV)} {dR : Nat} (hdR : 31 ≤ dR) (hR : ∀ (v : rV) (a1 a2 : Int32) (r : Bool × rV), R v a1 a2 = some r → EvM mX3_readCondition dR 0 0 [.ref 3, .int a1, .int a2] (rZ X) v (rPZ X r)) {r : Bool × rV} {v : rV}   {a1 : Int32} {a2 : Int32} {a3 : Int32}  (h : f_X3_readUnit_29 R  v a1 a2 a3 = some r) : Ev mX3_readUnit (dR + 1) 0 0 29 [(0, .ref 3), (1, .int a1), (2, .int a2), (3, .int a3)] [] (rZ X) v (rPZ X r) := by
  unfold f_X3_readUnit_29 at h
  refine e_iload_n dX3_readUnit_29 rfl ?_
  refine e_iload_n dX3_readUnit_30 rfl ?_
  refine e_iadd dX3_readUnit_31 ?_
  obtain ⟨x1, ex1, h⟩ := vlet_ex h
  refine e_nameI ex1.symm ?_
  clear ex1
  refine e_istore (lv' := [(4, .int x1), (0, .ref 3), (1, .int a1), (2, .int a2), (3, .int a3)]) dX3_readUnit_32 (by decide) rfl ?_
  refine e_iload_n dX3_readUnit_34 rfl ?_
  refine e_if_ne (tgt := 85) dX3_readUnit_35 (by decide) (fun c18 => ?_) (fun c18 => ?_)
  · rw [if_neg c18] at h
    refine e_sub [1, 3, 4, 0] rfl ?_
    exact b_X3_readUnit_85 hdR hR  h
  · rw [if_pos c18] at h
    refine e_iload dX3_readUnit_38 rfl ?_
    refine e_bipush (x := (6 : Int32)) dX3_readUnit_40 (by decide) ?_
    refine e_icmp_ge (tgt := 85) dX3_readUnit_42 (by decide) (fun c17 => ?_) (fun c17 => ?_)
    · rw [if_pos c17] at h
      refine e_sub [1, 3, 4, 0] rfl ?_
      exact b_X3_readUnit_85 hdR hR  h
    · rw [if_neg c17] at h
      refine e_aload_n dX3_readUnit_45 rfl ?_
      refine e_bipush (x := (40 : Int32)) dX3_readUnit_46 (by decide) ?_
      obtain ⟨p11, ep11, h⟩ := Option.bind_eq_some_iff.mp h
      refine c_VZ (M' := mX3_goesOnWith) [.int (40 : Int32)] dX3_readUnit_48 rfl wmX3_36 imX3_goesOnWith seX3_goesOnWith lkX3_goesOnWith k0_3 rc3 (Nat.le_of_ble_eq_true rfl) ((x_X3_goesOnWith  ep11).mono (by omega)) ?_
      refine e_if_eq (tgt := 85) dX3_readUnit_51 (by decide) (fun c16 => ?_) (fun c16 => ?_)
      · rw [if_neg (bI_n c16)] at h
        refine e_sub [1, 3, 4, 0] rfl ?_
        exact b_X3_readUnit_85 hdR hR  h
      · rw [if_pos (bI_p c16)] at h
        refine e_aload_n dX3_readUnit_54 rfl ?_
        refine e_iload dX3_readUnit_55 rfl ?_
        refine e_iconst (x := (1 : Int32)) dX3_readUnit_57 (by decide) ?_
        refine e_iadd dX3_readUnit_58 ?_
        refine e_iconst (x := (0 : Int32)) dX3_readUnit_59 (by decide) ?_
        obtain ⟨p12, ep12, h⟩ := Option.bind_eq_some_iff.mp h
        refine c_VZ (M' := mX3_readCondition) [.int (x1 + (1 : Int32)), .int (0 : Int32)] dX3_readUnit_60 rfl wmX3_50 imX3_readCondition seX3_readCondition lkX3_readCondition k0_3 rc3 (Nat.le_of_ble_eq_true rfl) ((hR _ _ _ _  ep12).mono (by omega)) ?_
        refine e_if_eq (tgt := 79) dX3_readUnit_63 (by decide) (fun c15 => ?_) (fun c15 => ?_)
        · rw [if_neg (bI_n c15)] at h
          refine e_sub [1, 4] rfl ?_
          exact b_X3_readUnit_79 hdR hR  h
        · rw [if_pos (bI_p c15)] at h
          refine e_aload_n dX3_readUnit_66 rfl ?_
          refine e_bipush (x := (41 : Int32)) dX3_readUnit_67 (by decide) ?_
          obtain ⟨p13, ep13, h⟩ := Option.bind_eq_some_iff.mp h
          refine c_VZ (M' := mX3_goesOnWith) [.int (41 : Int32)] dX3_readUnit_69 rfl wmX3_36 imX3_goesOnWith seX3_goesOnWith lkX3_goesOnWith k0_3 rc3 (Nat.le_of_ble_eq_true rfl) ((x_X3_goesOnWith  ep13).mono (by omega)) ?_
          refine e_if_eq (tgt := 79) dX3_readUnit_72 (by decide) (fun c14 => ?_) (fun c14 => ?_)
          · rw [if_neg (bI_n c14)] at h
            refine e_sub [1, 4] rfl ?_
            exact b_X3_readUnit_79 hdR hR  h
          · rw [if_pos (bI_p c14)] at h
            refine e_iconst (x := (1 : Int32)) dX3_readUnit_75 (by decide) ?_
            refine e_goto (tgt := 80) dX3_readUnit_76 (by decide) ?_
            refine e_sub [1, 4] rfl ?_
            exact b_X3_readUnit_80 hdR hR  h
set_option maxRecDepth 20000 in
theorem b_X3_readUnit_2 {X : Nat × (Nat → Int32)} {R : rV → Int32 → Int32 → Option (Bool × rV)} {dR : Nat} (hdR : 31 ≤ dR) (hR : ∀ (v : rV) (a1 a2 : Int32) (r : Bool × rV), R v a1 a2 = some r → EvM mX3_readCondition dR 0 0 [.ref 3, .int a1, .int a2] (rZ X) v (rPZ X r)) {r : Bool × rV}   : ∀ (n : Nat) (v : rV) (a1 : Int32) (a2 : Int32) (a3 : Int32) , f_X3_readUnit_2 R   n v a1 a2 a3 = some r → Ev mX3_readUnit (dR + 1) 0 0 2 [(0, .ref 3), (1, .int a1), (2, .int a2), (3, .int a3)] [] (rZ X) v (rPZ X r) := by
  intro n
  induction n with
  | zero =>
    intros
    rename_i h
    cases h
  | succ n ih =>
    intro v a1 a2 a3 h
    rw [f_X3_readUnit_2] at h
    refine e_iload_n dX3_readUnit_2 rfl ?_
    refine e_if_ne (tgt := 29) dX3_readUnit_3 (by decide) (fun c23 => ?_) (fun c23 => ?_)
    · rw [if_neg c23] at h
      exact b_X3_readUnit_29 hdR hR  h
    · rw [if_pos c23] at h
      refine e_iload_n dX3_readUnit_6 rfl ?_
      refine e_iload_n dX3_readUnit_7 rfl ?_
      refine e_iadd dX3_readUnit_8 ?_
      refine e_bipush (x := (6 : Int32)) dX3_readUnit_9 (by decide) ?_
      refine e_icmp_ge (tgt := 29) dX3_readUnit_11 (by decide) (fun c22 => ?_) (fun c22 => ?_)
      · rw [if_pos c22] at h
        exact b_X3_readUnit_29 hdR hR  h
      · rw [if_neg c22] at h
        refine e_aload_n dX3_readUnit_14 rfl ?_
        refine e_bipush (x := (33 : Int32)) dX3_readUnit_15 (by decide) ?_
        obtain ⟨p19, ep19, h⟩ := Option.bind_eq_some_iff.mp h
        refine c_VZ (M' := mX3_goesOnWith) [.int (33 : Int32)] dX3_readUnit_17 rfl wmX3_36 imX3_goesOnWith seX3_goesOnWith lkX3_goesOnWith k0_3 rc3 (Nat.le_of_ble_eq_true rfl) ((x_X3_goesOnWith  ep19).mono (by omega)) ?_
        refine e_if_eq (tgt := 29) dX3_readUnit_20 (by decide) (fun c21 => ?_) (fun c21 => ?_)
        · rw [if_neg (bI_n c21)] at h
          exact b_X3_readUnit_29 hdR hR  h
        · rw [if_pos (bI_p c21)] at h
          obtain ⟨x20, ex20, h⟩ := vlet_ex h
          refine e_iinc (lv' := [(3, .int x20), (0, .ref 3), (1, .int a1), (2, .int a2)]) dX3_readUnit_23 rfl (ex20.symm) (by decide) rfl ?_
          clear ex20
          refine e_goto (tgt := 2) dX3_readUnit_26 (by decide) ?_
          refine e_sub [1, 2, 3, 0] rfl ?_
          exact ih p19.2 a1 a2 x20 h
set_option maxRecDepth 20000 in
theorem x_X3_readUnit {X : Nat × (Nat → Int32)} {v : rV} {r : Bool × rV} {R : rV → Int32 → Int32 → Option (Bool × rV)} {dR : Nat} (hdR : 31 ≤ dR) (hR : ∀ (v : rV) (a1 a2 : Int32) (r : Bool × rV), R v a1 a2 = some r → EvM mX3_readCondition dR 0 0 [.ref 3, .int a1, .int a2] (rZ X) v (rPZ X r)) {a1 : Int32} {a2 : Int32}  (h : f_X3_readUnit R v a1 a2 = some r) : EvM mX3_readUnit (dR + 1) 0 0 [.ref 3, .int a1, .int a2] (rZ X) v (rPZ X r) := by
  refine evm_of (by decide +kernel) (fun G => Nat.le_of_ble_eq_true rfl) ?_
  show Ev mX3_readUnit (dR + 1) 0 0 0 [(0, .ref 3), (1, .int a1), (2, .int a2)] [] (rZ X) v _
  unfold f_X3_readUnit at h
  refine e_iconst (x := (0 : Int32)) dX3_readUnit_0 (by decide) ?_
  refine e_istore_n (lv' := [(3, .int (0 : Int32)), (0, .ref 3), (1, .int a1), (2, .int a2)]) dX3_readUnit_1 (by decide) rfl ?_
  refine e_sub [1, 2, 3, 0] rfl ?_
  exact b_X3_readUnit_2 hdR hR  _ v a1 a2 (0 : Int32) h
def f_X3_readCondition_96 (R : rV → Int32 → Int32 → Option (Bool × rV))  (q5 : rV → Int32 → Int32 → Int32 → Int32 → Option (Bool × rV)) (v : rV) (a1 : Int32) (a2 : Int32) (a3 : Int32) (a4 : Int32) : Option (Bool × rV) := vlet (a3 + (1 : Int32)) fun x2 =>
  (f_X3_goesOnWith v (124 : Int32)).bind fun p3 =>
  if p3.1 = true then
  (vlet (a4 + (1 : Int32)) fun x4 =>
  q5 p3.2 a1 a2 x2 x4)
else
  (some (true, p3.2))
def f_X3_readCondition_83 (R : rV → Int32 → Int32 → Option (Bool × rV))  (q5 : rV → Int32 → Int32 → Int32 → Int32 → Option (Bool × rV)) (v : rV) (a1 : Int32) (a2 : Int32) (a3 : Int32) (a4 : Int32) : Option (Bool × rV) := if a3 ≤ 0 then
  (f_X3_readCondition_96 R q5 v a1 a2 a3 a4)
else
  ((f_X2_add v 4 (-9 : Int32)).bind fun p6 =>
  f_X3_readCondition_96 R q5 p6 a1 a2 a3 a4)
def f_X3_readCondition_40 (R : rV → Int32 → Int32 → Option (Bool × rV))  (q5 : rV → Int32 → Int32 → Int32 → Int32 → Option (Bool × rV)) : Nat → rV → Int32 → Int32 → Int32 → Int32 → Int32 → Option (Bool × rV)
  | 0, _, _, _, _, _, _ => none
  | n + 1, v, a1, a2, a3, a4, a5 => if (160 : Int32) ≤ a5 then
  (f_X3_readCondition_83 R q5 v a1 a2 a3 a4)
else
  ((f_X3_goesOnWith v (38 : Int32)).bind fun p8 =>
  if p8.1 = true then
  ((f_X3_readUnit R p8.2 a1 (0 : Int32)).bind fun p9 =>
  if p9.1 = true then
  ((f_X2_add p9.2 4 (-8 : Int32)).bind fun p10 =>
  vlet (a5 + (1 : Int32)) fun x11 =>
  f_X3_readCondition_40 R q5 n p10 a1 a2 a3 a4 x11)
else
  (some (false, p9.2)))
else
  (f_X3_readCondition_83 R q5 p8.2 a1 a2 a3 a4))
def f_X3_readCondition_29 (R : rV → Int32 → Int32 → Option (Bool × rV))  (q5 : rV → Int32 → Int32 → Int32 → Int32 → Option (Bool × rV)) (v : rV) (a1 : Int32) (a2 : Int32) (a3 : Int32) (a4 : Int32) (s0 : Int32) (s1 : Int32) : Option (Bool × rV) := (f_X3_readUnit R v s1 s0).bind fun p1 =>
  if p1.1 = true then
  (f_X3_readCondition_40 R q5 20000 p1.2 a1 a2 a3 a4 (0 : Int32))
else
  (some (false, p1.2))
def f_X3_readCondition_28 (R : rV → Int32 → Int32 → Option (Bool × rV))  (q5 : rV → Int32 → Int32 → Int32 → Int32 → Option (Bool × rV)) (v : rV) (a1 : Int32) (a2 : Int32) (a3 : Int32) (a4 : Int32) (s0 : Int32) : Option (Bool × rV) := f_X3_readCondition_29 R q5 v a1 a2 a3 a4 (0 : Int32) s0
def f_X3_readCondition_5 (R : rV → Int32 → Int32 → Option (Bool × rV))   : Nat → rV → Int32 → Int32 → Int32 → Int32 → Option (Bool × rV)
  | 0, _, _, _, _, _ => none
  | n + 1, v, a1, a2, a3, a4 => if (160 : Int32) ≤ a4 then
  (some (true, v))
else
  (if a2 = 0 then
  (f_X3_readCondition_28 R (fun v a1 a2 a3 a4 => f_X3_readCondition_5 R  n v a1 a2 a3 a4) v a1 a2 a3 a4 a1)
else
  (if a4 = 0 then
  (f_X3_readCondition_29 R (fun v a1 a2 a3 a4 => f_X3_readCondition_5 R  n v a1 a2 a3 a4) v a1 a2 a3 a4 (1 : Int32) a1)
else
  (f_X3_readCondition_28 R (fun v a1 a2 a3 a4 => f_X3_readCondition_5 R  n v a1 a2 a3 a4) v a1 a2 a3 a4 a1)))
def f_X3_readCondition_B (R : rV → Int32 → Int32 → Option (Bool × rV)) (v : rV) (a1 : Int32) (a2 : Int32) : Option (Bool × rV) := f_X3_readCondition_5 R  20000 v a1 a2 (0 : Int32) (0 : Int32)
set_option maxRecDepth 20000 in
theorem b_X3_readCondition_96 {X : Nat × (Nat → Int32)} {R : rV → Int32 → Int32 → Option (Bool × rV)} {dR : Nat} (hdR : 31 ≤ dR) (hR : ∀ (v : rV) (a1 a2 : Int32) (r : Bool × rV), R v a1 a2 = some r → EvM mX3_readCondition dR 0 0 [.ref 3, .int a1, .int a2] (rZ X) v (rPZ X r)) {r : Bool × rV} {v : rV} {q5 : rV → Int32 → Int32 → Int32 → Int32 → Option (Bool × rV)} (hq5 : ∀ (v : rV) (a1 : Int32) (a2 : Int32) (a3 : Int32) (a4 : Int32) , q5 v a1 a2 a3 a4 = some r → Ev mX3_readCondition (dR + 2) 0 0 5 [(0, .ref 3), (1, .int a1), (2, .int a2), (3, .int a3), (4, .int a4)] [] (rZ X) v (rPZ X r)) {a1 : Int32} {a2 : Int32} {a3 : Int32} {a4 : Int32}  (h : f_X3_readCondition_96 R q5 v a1 a2 a3 a4 = some r) : Ev mX3_readCondition (dR + 2) 0 0 96 [(0, .ref 3), (1, .int a1), (2, .int a2), (3, .int a3), (4, .int a4)] [] (rZ X) v (rPZ X r) := by
  unfold f_X3_readCondition_96 at h
  obtain ⟨x2, ex2, h⟩ := vlet_ex h
  refine e_iinc (lv' := [(3, .int x2), (0, .ref 3), (1, .int a1), (2, .int a2), (4, .int a4)]) dX3_readCondition_96 rfl (ex2.symm) (by decide) rfl ?_
  clear ex2
  refine e_aload_n dX3_readCondition_99 rfl ?_
  refine e_bipush (x := (124 : Int32)) dX3_readCondition_100 (by decide) ?_
  obtain ⟨p3, ep3, h⟩ := Option.bind_eq_some_iff.mp h
  refine c_VZ (M' := mX3_goesOnWith) [.int (124 : Int32)] dX3_readCondition_102 rfl wmX3_36 imX3_goesOnWith seX3_goesOnWith lkX3_goesOnWith k0_3 rc3 (Nat.le_of_ble_eq_true rfl) ((x_X3_goesOnWith  ep3).mono (by omega)) ?_
  refine e_if_ne (tgt := 110) dX3_readCondition_105 (by decide) (fun c5 => ?_) (fun c5 => ?_)
  · rw [if_pos (bI_p c5)] at h
    obtain ⟨x4, ex4, h⟩ := vlet_ex h
    refine e_iinc (lv' := [(4, .int x4), (3, .int x2), (0, .ref 3), (1, .int a1), (2, .int a2)]) dX3_readCondition_110 rfl (ex4.symm) (by decide) rfl ?_
    clear ex4
    refine e_goto (tgt := 5) dX3_readCondition_113 (by decide) ?_
    refine e_sub [2, 3, 4, 1, 0] rfl ?_
    exact hq5 p3.2 a1 a2 x2 x4 h
  · rw [if_neg (bI_n c5)] at h
    refine e_iconst (x := (1 : Int32)) dX3_readCondition_108 (by decide) ?_
    obtain rfl := Option.some.inj h
    exact e_iret dX3_readCondition_109 rfl rfl ⟨rfl, rfl, rfl⟩
set_option maxRecDepth 20000 in
theorem b_X3_readCondition_83 {X : Nat × (Nat → Int32)} {R : rV → Int32 → Int32 → Option (Bool × rV)} {dR : Nat} (hdR : 31 ≤ dR) (hR : ∀ (v : rV) (a1 a2 : Int32) (r : Bool × rV), R v a1 a2 = some r → EvM mX3_readCondition dR 0 0 [.ref 3, .int a1, .int a2] (rZ X) v (rPZ X r)) {r : Bool × rV} {v : rV} {q5 : rV → Int32 → Int32 → Int32 → Int32 → Option (Bool × rV)} (hq5 : ∀ (v : rV) (a1 : Int32) (a2 : Int32) (a3 : Int32) (a4 : Int32) , q5 v a1 a2 a3 a4 = some r → Ev mX3_readCondition (dR + 2) 0 0 5 [(0, .ref 3), (1, .int a1), (2, .int a2), (3, .int a3), (4, .int a4)] [] (rZ X) v (rPZ X r)) {a1 : Int32} {a2 : Int32} {a3 : Int32} {a4 : Int32}  (h : f_X3_readCondition_83 R q5 v a1 a2 a3 a4 = some r) : Ev mX3_readCondition (dR + 2) 0 0 83 [(0, .ref 3), (1, .int a1), (2, .int a2), (3, .int a3), (4, .int a4)] [] (rZ X) v (rPZ X r) := by
  unfold f_X3_readCondition_83 at h
  refine e_iload_n dX3_readCondition_83 rfl ?_
  refine e_if_le (tgt := 96) dX3_readCondition_84 (by decide) (fun c7 => ?_) (fun c7 => ?_)
  · rw [if_pos c7] at h
    exact b_X3_readCondition_96 hdR hR hq5 h
  · rw [if_neg c7] at h
    refine e_aload_n dX3_readCondition_87 rfl ?_
    refine e_get (w := .ref 4) (j := 1) dX3_readCondition_88 k0_3 rc3 (by decide) wfX3_12 (g0_3_1) ?_
    refine e_bipush (x := (-9 : Int32)) dX3_readCondition_91 (by decide) ?_
    obtain ⟨p6, ep6, h⟩ := Option.bind_eq_some_iff.mp h
    refine c_VV (M' := mX2_add) [.int (-9 : Int32)] dX3_readCondition_93 rfl wmX3_54 imX2_add seX2_add lkX2_add k0_4 rc2 (Nat.le_of_ble_eq_true rfl) ((x_X2_add (by decide) ep6).mono (by omega)) ?_
    exact b_X3_readCondition_96 hdR hR hq5 h
set_option maxRecDepth 20000 in
theorem b_X3_readCondition_40 {X : Nat × (Nat → Int32)} {R : rV → Int32 → Int32 → Option (Bool × rV)} {dR : Nat} (hdR : 31 ≤ dR) (hR : ∀ (v : rV) (a1 a2 : Int32) (r : Bool × rV), R v a1 a2 = some r → EvM mX3_readCondition dR 0 0 [.ref 3, .int a1, .int a2] (rZ X) v (rPZ X r)) {r : Bool × rV} {q5 : rV → Int32 → Int32 → Int32 → Int32 → Option (Bool × rV)} (hq5 : ∀ (v : rV) (a1 : Int32) (a2 : Int32) (a3 : Int32) (a4 : Int32) , q5 v a1 a2 a3 a4 = some r → Ev mX3_readCondition (dR + 2) 0 0 5 [(0, .ref 3), (1, .int a1), (2, .int a2), (3, .int a3), (4, .int a4)] [] (rZ X) v (rPZ X r)) : ∀ (n : Nat) (v : rV) (a1 : Int32) (a2 : Int32) (a3 : Int32) (a4 : Int32) (a5 : Int32) , f_X3_readCondition_40 R  q5 n v a1 a2 a3 a4 a5 = some r → Ev mX3_readCondition (dR + 2) 0 0 40 [(0, .ref 3), (1, .int a1), (2, .int a2), (3, .int a3), (4, .int a4), (5, .int a5)] [] (rZ X) v (rPZ X r) := by
  intro n
  induction n with
  | zero =>
    intros
    rename_i h
    cases h
  | succ n ih =>
    intro v a1 a2 a3 a4 a5 h
    rw [f_X3_readCondition_40] at h
    refine e_iload dX3_readCondition_40 rfl ?_
    refine e_sipush (x := (160 : Int32)) dX3_readCondition_42 (by decide) ?_
    refine e_icmp_ge (tgt := 83) dX3_readCondition_45 (by decide) (fun c14 => ?_) (fun c14 => ?_)
    · rw [if_pos c14] at h
      refine e_sub [0, 1, 2, 3, 4] rfl ?_
      exact b_X3_readCondition_83 hdR hR hq5 h
    · rw [if_neg c14] at h
      refine e_aload_n dX3_readCondition_48 rfl ?_
      refine e_bipush (x := (38 : Int32)) dX3_readCondition_49 (by decide) ?_
      obtain ⟨p8, ep8, h⟩ := Option.bind_eq_some_iff.mp h
      refine c_VZ (M' := mX3_goesOnWith) [.int (38 : Int32)] dX3_readCondition_51 rfl wmX3_36 imX3_goesOnWith seX3_goesOnWith lkX3_goesOnWith k0_3 rc3 (Nat.le_of_ble_eq_true rfl) ((x_X3_goesOnWith  ep8).mono (by omega)) ?_
      refine e_if_eq (tgt := 83) dX3_readCondition_54 (by decide) (fun c13 => ?_) (fun c13 => ?_)
      · rw [if_neg (bI_n c13)] at h
        refine e_sub [0, 1, 2, 3, 4] rfl ?_
        exact b_X3_readCondition_83 hdR hR hq5 h
      · rw [if_pos (bI_p c13)] at h
        refine e_aload_n dX3_readCondition_57 rfl ?_
        refine e_iload_n dX3_readCondition_58 rfl ?_
        refine e_iconst (x := (0 : Int32)) dX3_readCondition_59 (by decide) ?_
        obtain ⟨p9, ep9, h⟩ := Option.bind_eq_some_iff.mp h
        refine c_VZ (M' := mX3_readUnit) [.int a1, .int (0 : Int32)] dX3_readCondition_60 rfl wmX3_77 imX3_readUnit seX3_readUnit lkX3_readUnit k0_3 rc3 (Nat.le_of_ble_eq_true rfl) ((x_X3_readUnit hdR hR  ep9).mono (by omega)) ?_
        refine e_if_ne (tgt := 68) dX3_readCondition_63 (by decide) (fun c12 => ?_) (fun c12 => ?_)
        · rw [if_pos (bI_p c12)] at h
          refine e_aload_n dX3_readCondition_68 rfl ?_
          refine e_get (w := .ref 4) (j := 1) dX3_readCondition_69 k0_3 rc3 (by decide) wfX3_12 (g0_3_1) ?_
          refine e_bipush (x := (-8 : Int32)) dX3_readCondition_72 (by decide) ?_
          obtain ⟨p10, ep10, h⟩ := Option.bind_eq_some_iff.mp h
          refine c_VV (M' := mX2_add) [.int (-8 : Int32)] dX3_readCondition_74 rfl wmX3_54 imX2_add seX2_add lkX2_add k0_4 rc2 (Nat.le_of_ble_eq_true rfl) ((x_X2_add (by decide) ep10).mono (by omega)) ?_
          obtain ⟨x11, ex11, h⟩ := vlet_ex h
          refine e_iinc (lv' := [(5, .int x11), (0, .ref 3), (1, .int a1), (2, .int a2), (3, .int a3), (4, .int a4)]) dX3_readCondition_77 rfl (ex11.symm) (by decide) rfl ?_
          clear ex11
          refine e_goto (tgt := 40) dX3_readCondition_80 (by decide) ?_
          refine e_sub [1, 2, 3, 4, 5, 0] rfl ?_
          exact ih p10 a1 a2 a3 a4 x11 h
        · rw [if_neg (bI_n c12)] at h
          refine e_iconst (x := (0 : Int32)) dX3_readCondition_66 (by decide) ?_
          obtain rfl := Option.some.inj h
          exact e_iret dX3_readCondition_67 rfl rfl ⟨rfl, rfl, rfl⟩
set_option maxRecDepth 20000 in
theorem b_X3_readCondition_29 {X : Nat × (Nat → Int32)} {R : rV → Int32 → Int32 → Option (Bool × rV)} {dR : Nat} (hdR : 31 ≤ dR) (hR : ∀ (v : rV) (a1 a2 : Int32) (r : Bool × rV), R v a1 a2 = some r → EvM mX3_readCondition dR 0 0 [.ref 3, .int a1, .int a2] (rZ X) v (rPZ X r)) {r : Bool × rV} {v : rV} {q5 : rV → Int32 → Int32 → Int32 → Int32 → Option (Bool × rV)} (hq5 : ∀ (v : rV) (a1 : Int32) (a2 : Int32) (a3 : Int32) (a4 : Int32) , q5 v a1 a2 a3 a4 = some r → Ev mX3_readCondition (dR + 2) 0 0 5 [(0, .ref 3), (1, .int a1), (2, .int a2), (3, .int a3), (4, .int a4)] [] (rZ X) v (rPZ X r)) {a1 : Int32} {a2 : Int32} {a3 : Int32} {a4 : Int32} {s0 : Int32} {s1 : Int32}  (h : f_X3_readCondition_29 R q5 v a1 a2 a3 a4 s0 s1 = some r) : Ev mX3_readCondition (dR + 2) 0 0 29 [(0, .ref 3), (1, .int a1), (2, .int a2), (3, .int a3), (4, .int a4)] [.int s0, .int s1, .ref 3] (rZ X) v (rPZ X r) := by
  unfold f_X3_readCondition_29 at h
  obtain ⟨p1, ep1, h⟩ := Option.bind_eq_some_iff.mp h
  refine c_VZ (M' := mX3_readUnit) [.int s1, .int s0] dX3_readCondition_29 rfl wmX3_77 imX3_readUnit seX3_readUnit lkX3_readUnit k0_3 rc3 (Nat.le_of_ble_eq_true rfl) ((x_X3_readUnit hdR hR  ep1).mono (by omega)) ?_
  refine e_if_ne (tgt := 37) dX3_readCondition_32 (by decide) (fun c15 => ?_) (fun c15 => ?_)
  · rw [if_pos (bI_p c15)] at h
    refine e_iconst (x := (0 : Int32)) dX3_readCondition_37 (by decide) ?_
    refine e_istore (lv' := [(5, .int (0 : Int32)), (0, .ref 3), (1, .int a1), (2, .int a2), (3, .int a3), (4, .int a4)]) dX3_readCondition_38 (by decide) rfl ?_
    refine e_sub [1, 2, 3, 4, 5, 0] rfl ?_
    exact b_X3_readCondition_40 hdR hR hq5 _ p1.2 a1 a2 a3 a4 (0 : Int32) h
  · rw [if_neg (bI_n c15)] at h
    refine e_iconst (x := (0 : Int32)) dX3_readCondition_35 (by decide) ?_
    obtain rfl := Option.some.inj h
    exact e_iret dX3_readCondition_36 rfl rfl ⟨rfl, rfl, rfl⟩
set_option maxRecDepth 20000 in
theorem b_X3_readCondition_28 {X : Nat × (Nat → Int32)} {R : rV → Int32 → Int32 → Option (Bool × rV)} {dR : Nat} (hdR : 31 ≤ dR) (hR : ∀ (v : rV) (a1 a2 : Int32) (r : Bool × rV), R v a1 a2 = some r → EvM mX3_readCondition dR 0 0 [.ref 3, .int a1, .int a2] (rZ X) v (rPZ X r)) {r : Bool × rV} {v : rV} {q5 : rV → Int32 → Int32 → Int32 → Int32 → Option (Bool × rV)} (hq5 : ∀ (v : rV) (a1 : Int32) (a2 : Int32) (a3 : Int32) (a4 : Int32) , q5 v a1 a2 a3 a4 = some r → Ev mX3_readCondition (dR + 2) 0 0 5 [(0, .ref 3), (1, .int a1), (2, .int a2), (3, .int a3), (4, .int a4)] [] (rZ X) v (rPZ X r)) {a1 : Int32} {a2 : Int32} {a3 : Int32} {a4 : Int32} {s0 : Int32}  (h : f_X3_readCondition_28 R q5 v a1 a2 a3 a4 s0 = some r) : Ev mX3_readCondition (dR + 2) 0 0 28 [(0, .ref 3), (1, .int a1), (2, .int a2), (3, .int a3), (4, .int a4)] [.int s0, .ref 3] (rZ X) v (rPZ X r) := by
  unfold f_X3_readCondition_28 at h
  refine e_iconst (x := (0 : Int32)) dX3_readCondition_28 (by decide) ?_
  exact b_X3_readCondition_29 hdR hR hq5 h
set_option maxRecDepth 20000 in
theorem b_X3_readCondition_5 {X : Nat × (Nat → Int32)} {R : rV → Int32 → Int32 → Option (Bool × rV)} {dR : Nat} (hdR : 31 ≤ dR) (hR : ∀ (v : rV) (a1 a2 : Int32) (r : Bool × rV), R v a1 a2 = some r → EvM mX3_readCondition dR 0 0 [.ref 3, .int a1, .int a2] (rZ X) v (rPZ X r)) {r : Bool × rV}   : ∀ (n : Nat) (v : rV) (a1 : Int32) (a2 : Int32) (a3 : Int32) (a4 : Int32) , f_X3_readCondition_5 R   n v a1 a2 a3 a4 = some r → Ev mX3_readCondition (dR + 2) 0 0 5 [(0, .ref 3), (1, .int a1), (2, .int a2), (3, .int a3), (4, .int a4)] [] (rZ X) v (rPZ X r) := by
  intro n
  induction n with
  | zero =>
    intros
    rename_i h
    cases h
  | succ n ih =>
    intro v a1 a2 a3 a4 h
    rw [f_X3_readCondition_5] at h
    refine e_iload dX3_readCondition_5 rfl ?_
    refine e_sipush (x := (160 : Int32)) dX3_readCondition_7 (by decide) ?_
    refine e_icmp_ge (tgt := 116) dX3_readCondition_10 (by decide) (fun c18 => ?_) (fun c18 => ?_)
    · rw [if_pos c18] at h
      refine e_iconst (x := (1 : Int32)) dX3_readCondition_116 (by decide) ?_
      obtain rfl := Option.some.inj h
      exact e_iret dX3_readCondition_117 rfl rfl ⟨rfl, rfl, rfl⟩
    · rw [if_neg c18] at h
      refine e_aload_n dX3_readCondition_13 rfl ?_
      refine e_iload_n dX3_readCondition_14 rfl ?_
      refine e_iload_n dX3_readCondition_15 rfl ?_
      refine e_if_eq (tgt := 28) dX3_readCondition_16 (by decide) (fun c17 => ?_) (fun c17 => ?_)
      · rw [if_pos c17] at h
        exact b_X3_readCondition_28 hdR hR (fun v a1 a2 a3 a4  hh => ih v a1 a2 a3 a4  hh) h
      · rw [if_neg c17] at h
        refine e_iload dX3_readCondition_19 rfl ?_
        refine e_if_ne (tgt := 28) dX3_readCondition_21 (by decide) (fun c16 => ?_) (fun c16 => ?_)
        · rw [if_neg c16] at h
          exact b_X3_readCondition_28 hdR hR (fun v a1 a2 a3 a4  hh => ih v a1 a2 a3 a4  hh) h
        · rw [if_pos c16] at h
          refine e_iconst (x := (1 : Int32)) dX3_readCondition_24 (by decide) ?_
          refine e_goto (tgt := 29) dX3_readCondition_25 (by decide) ?_
          exact b_X3_readCondition_29 hdR hR (fun v a1 a2 a3 a4  hh => ih v a1 a2 a3 a4  hh) h
set_option maxRecDepth 20000 in
theorem x_X3_readCondition_B {X : Nat × (Nat → Int32)} {v : rV} {r : Bool × rV} {R : rV → Int32 → Int32 → Option (Bool × rV)} {dR : Nat} (hdR : 31 ≤ dR) (hR : ∀ (v : rV) (a1 a2 : Int32) (r : Bool × rV), R v a1 a2 = some r → EvM mX3_readCondition dR 0 0 [.ref 3, .int a1, .int a2] (rZ X) v (rPZ X r)) {a1 : Int32} {a2 : Int32}  (h : f_X3_readCondition_B R v a1 a2 = some r) : EvM mX3_readCondition (dR + 2) 0 0 [.ref 3, .int a1, .int a2] (rZ X) v (rPZ X r) := by
  refine evm_of (by decide +kernel) (fun G => Nat.le_of_ble_eq_true rfl) ?_
  show Ev mX3_readCondition (dR + 2) 0 0 0 [(0, .ref 3), (1, .int a1), (2, .int a2)] [] (rZ X) v _
  unfold f_X3_readCondition_B at h
  refine e_iconst (x := (0 : Int32)) dX3_readCondition_0 (by decide) ?_
  refine e_istore_n (lv' := [(3, .int (0 : Int32)), (0, .ref 3), (1, .int a1), (2, .int a2)]) dX3_readCondition_1 (by decide) rfl ?_
  refine e_iconst (x := (0 : Int32)) dX3_readCondition_2 (by decide) ?_
  refine e_istore (lv' := [(4, .int (0 : Int32)), (3, .int (0 : Int32)), (0, .ref 3), (1, .int a1), (2, .int a2)]) dX3_readCondition_3 (by decide) rfl ?_
  refine e_sub [2, 3, 4, 1, 0] rfl ?_
  exact b_X3_readCondition_5 hdR hR  _ v a1 a2 (0 : Int32) (0 : Int32) h
def f_X3_readCondition : Nat → rV → Int32 → Int32 → Option (Bool × rV)
  | 0, _, _, _ => none
  | n + 1, v, a1, a2 => f_X3_readCondition_B (f_X3_readCondition n) v a1 a2
theorem x_X3_readCondition {X : Nat × (Nat → Int32)} : ∀ (n : Nat) (v : rV) (a1 a2 : Int32) (r : Bool × rV), f_X3_readCondition n v a1 a2 = some r → EvM mX3_readCondition (31 + 2 * n) 0 0 [.ref 3, .int a1, .int a2] (rZ X) v (rPZ X r) := by
  intro n
  induction n with
  | zero =>
    intros
    rename_i h
    cases h
  | succ n ih =>
    intro v a1 a2 r h
    rw [f_X3_readCondition] at h
    exact (x_X3_readCondition_B (dR := 31 + 2 * n) (by omega) ih h).mono (by omega)
def f_X3_readClause_82   (v : rV) (a2 : Int32) : Option (Bool × rV) := (f_X3_readCondition 10 v (0 : Int32) a2).bind fun p4 =>
  if p4.1 = true then
  ((f_X3_goesOnWith p4.2 (63 : Int32)).bind fun p5 =>
  if p5.1 = true then
  ((f_X2_add p5.2 4 (-11 : Int32)).bind fun p6 =>
  vlet (p6.1 4 2 : Int32) fun x7 =>
  (f_X2_add p6 4 (0 : Int32)).bind fun p8 =>
  (f_X3_readSum 10 p8 (0 : Int32)).bind fun p9 =>
  if p9.1 = true then
  ((f_X2_add p9.2 4 (-12 : Int32)).bind fun p10 =>
  (f_X2_endSkip p10 4 x7).bind fun p11 =>
  some (true, p11))
else
  (some (false, p9.2)))
else
  (some (false, p5.2)))
else
  (some (false, p4.2))
def f_X3_readClause_57   (v : rV) (a2 : Int32) : Option (Bool × rV) := if a2 = 0 then
  (f_X3_readClause_82  v a2)
else
  ((f_X3_nextByte v).bind fun p15 =>
  if (f_X3_isComparison p15.1) = true then
  (f_X3_readClause_82  p15.2 a2)
else
  ((f_X2_add p15.2 4 (-12 : Int32)).bind fun p17 =>
  some (true, p17)))
def f_X3_readClause_42   (v : rV) (s0 : Int32) : Option (Bool × rV) := if s0 = 0 then
  (f_X3_readClause_57  v s0)
else
  ((f_X3_readSum 10 v (0 : Int32)).bind fun p20 =>
  if p20.1 = true then
  (f_X3_readClause_57  p20.2 s0)
else
  (some (false, p20.2)))
def f_X3_readClause_41   (v : rV)  : Option (Bool × rV) := f_X3_readClause_42  v (0 : Int32)
def f_X3_readClause (v : rV)  : Option (Bool × rV) := (f_X3_goesOnWith v (121 : Int32)).bind fun p1 =>
  if p1.1 = true then
  ((f_X3_goesOnWith p1.2 (58 : Int32)).bind fun p2 =>
  if p2.1 = true then
  ((f_X3_nextByte p2.2).bind fun p3 =>
  if p3.1 = (33 : Int32) then
  (f_X3_readClause_41  p3.2)
else
  (if p3.1 = (40 : Int32) then
  (f_X3_readClause_41  p3.2)
else
  (f_X3_readClause_42  p3.2 (1 : Int32))))
else
  (some (false, p2.2)))
else
  (some (false, p1.2))
set_option maxRecDepth 20000 in
theorem b_X3_readClause_82 {X : Nat × (Nat → Int32)} {r : Bool × rV} {v : rV}   {a2 : Int32}  (h : f_X3_readClause_82  v a2 = some r) : Ev mX3_readClause 52 0 0 82 [(0, .ref 3), (2, .int a2)] [] (rZ X) v (rPZ X r) := by
  unfold f_X3_readClause_82 at h
  refine e_aload_n dX3_readClause_82 rfl ?_
  refine e_iconst (x := (0 : Int32)) dX3_readClause_83 (by decide) ?_
  refine e_iload_n dX3_readClause_84 rfl ?_
  obtain ⟨p4, ep4, h⟩ := Option.bind_eq_some_iff.mp h
  refine c_VZ (M' := mX3_readCondition) [.int (0 : Int32), .int a2] dX3_readClause_85 rfl wmX3_50 imX3_readCondition seX3_readCondition lkX3_readCondition k0_3 rc3 (Nat.le_of_ble_eq_true rfl) ((x_X3_readCondition 10 _ _ _ _  ep4).mono (by omega)) ?_
  refine e_if_eq (tgt := 100) dX3_readClause_88 (by decide) (fun c14 => ?_) (fun c14 => ?_)
  · rw [if_neg (bI_n c14)] at h
    refine e_iconst (x := (0 : Int32)) dX3_readClause_100 (by decide) ?_
    obtain rfl := Option.some.inj h
    exact e_iret dX3_readClause_101 rfl rfl ⟨rfl, rfl, rfl⟩
  · rw [if_pos (bI_p c14)] at h
    refine e_aload_n dX3_readClause_91 rfl ?_
    refine e_bipush (x := (63 : Int32)) dX3_readClause_92 (by decide) ?_
    obtain ⟨p5, ep5, h⟩ := Option.bind_eq_some_iff.mp h
    refine c_VZ (M' := mX3_goesOnWith) [.int (63 : Int32)] dX3_readClause_94 rfl wmX3_36 imX3_goesOnWith seX3_goesOnWith lkX3_goesOnWith k0_3 rc3 (Nat.le_of_ble_eq_true rfl) ((x_X3_goesOnWith  ep5).mono (by omega)) ?_
    refine e_if_ne (tgt := 102) dX3_readClause_97 (by decide) (fun c13 => ?_) (fun c13 => ?_)
    · rw [if_pos (bI_p c13)] at h
      refine e_aload_n dX3_readClause_102 rfl ?_
      refine e_get (w := .ref 4) (j := 1) dX3_readClause_103 k0_3 rc3 (by decide) wfX3_12 (g0_3_1) ?_
      refine e_bipush (x := (-11 : Int32)) dX3_readClause_106 (by decide) ?_
      obtain ⟨p6, ep6, h⟩ := Option.bind_eq_some_iff.mp h
      refine c_VV (M' := mX2_add) [.int (-11 : Int32)] dX3_readClause_108 rfl wmX3_54 imX2_add seX2_add lkX2_add k0_4 rc2 (Nat.le_of_ble_eq_true rfl) ((x_X2_add (by decide) ep6).mono (by omega)) ?_
      refine e_aload_n dX3_readClause_111 rfl ?_
      refine e_get (w := .ref 4) (j := 1) dX3_readClause_112 k0_3 rc3 (by decide) wfX3_12 (g0_3_1) ?_
      refine e_get (w := .int (p6.1 4 2)) (j := 2) dX3_readClause_115 k0_4 rc2 (by decide) wfX3_58 rfl ?_
      obtain ⟨x7, ex7, h⟩ := vlet_ex h
      refine e_nameI ex7.symm ?_
      clear ex7
      refine e_istore_n (lv' := [(3, .int x7), (0, .ref 3), (2, .int a2)]) dX3_readClause_118 (by decide) rfl ?_
      refine e_aload_n dX3_readClause_119 rfl ?_
      refine e_get (w := .ref 4) (j := 1) dX3_readClause_120 k0_3 rc3 (by decide) wfX3_12 (g0_3_1) ?_
      refine e_iconst (x := (0 : Int32)) dX3_readClause_123 (by decide) ?_
      obtain ⟨p8, ep8, h⟩ := Option.bind_eq_some_iff.mp h
      refine c_VV (M' := mX2_add) [.int (0 : Int32)] dX3_readClause_124 rfl wmX3_54 imX2_add seX2_add lkX2_add k0_4 rc2 (Nat.le_of_ble_eq_true rfl) ((x_X2_add (by decide) ep8).mono (by omega)) ?_
      refine e_aload_n dX3_readClause_127 rfl ?_
      refine e_iconst (x := (0 : Int32)) dX3_readClause_128 (by decide) ?_
      obtain ⟨p9, ep9, h⟩ := Option.bind_eq_some_iff.mp h
      refine c_VZ (M' := mX3_readSum) [.int (0 : Int32)] dX3_readClause_129 rfl wmX3_68 imX3_readSum seX3_readSum lkX3_readSum k0_3 rc3 (Nat.le_of_ble_eq_true rfl) ((x_X3_readSum 10 _ _ _  ep9).mono (by omega)) ?_
      refine e_if_ne (tgt := 137) dX3_readClause_132 (by decide) (fun c12 => ?_) (fun c12 => ?_)
      · rw [if_pos (bI_p c12)] at h
        refine e_aload_n dX3_readClause_137 rfl ?_
        refine e_get (w := .ref 4) (j := 1) dX3_readClause_138 k0_3 rc3 (by decide) wfX3_12 (g0_3_1) ?_
        refine e_bipush (x := (-12 : Int32)) dX3_readClause_141 (by decide) ?_
        obtain ⟨p10, ep10, h⟩ := Option.bind_eq_some_iff.mp h
        refine c_VV (M' := mX2_add) [.int (-12 : Int32)] dX3_readClause_143 rfl wmX3_54 imX2_add seX2_add lkX2_add k0_4 rc2 (Nat.le_of_ble_eq_true rfl) ((x_X2_add (by decide) ep10).mono (by omega)) ?_
        refine e_aload_n dX3_readClause_146 rfl ?_
        refine e_get (w := .ref 4) (j := 1) dX3_readClause_147 k0_3 rc3 (by decide) wfX3_12 (g0_3_1) ?_
        refine e_iload_n dX3_readClause_150 rfl ?_
        obtain ⟨p11, ep11, h⟩ := Option.bind_eq_some_iff.mp h
        refine c_VV (M' := mX2_endSkip) [.int x7] dX3_readClause_151 rfl wmX3_74 imX2_endSkip seX2_endSkip lkX2_endSkip k0_4 rc2 (Nat.le_of_ble_eq_true rfl) ((x_X2_endSkip (by decide) ep11).mono (by omega)) ?_
        refine e_iconst (x := (1 : Int32)) dX3_readClause_154 (by decide) ?_
        obtain rfl := Option.some.inj h
        exact e_iret dX3_readClause_155 rfl rfl ⟨rfl, rfl, rfl⟩
      · rw [if_neg (bI_n c12)] at h
        refine e_iconst (x := (0 : Int32)) dX3_readClause_135 (by decide) ?_
        obtain rfl := Option.some.inj h
        exact e_iret dX3_readClause_136 rfl rfl ⟨rfl, rfl, rfl⟩
    · rw [if_neg (bI_n c13)] at h
      refine e_iconst (x := (0 : Int32)) dX3_readClause_100 (by decide) ?_
      obtain rfl := Option.some.inj h
      exact e_iret dX3_readClause_101 rfl rfl ⟨rfl, rfl, rfl⟩
set_option maxRecDepth 20000 in
theorem b_X3_readClause_57 {X : Nat × (Nat → Int32)} {r : Bool × rV} {v : rV}   {a2 : Int32}  (h : f_X3_readClause_57  v a2 = some r) : Ev mX3_readClause 52 0 0 57 [(0, .ref 3), (2, .int a2)] [] (rZ X) v (rPZ X r) := by
  unfold f_X3_readClause_57 at h
  refine e_iload_n dX3_readClause_57 rfl ?_
  refine e_if_eq (tgt := 82) dX3_readClause_58 (by decide) (fun c19 => ?_) (fun c19 => ?_)
  · rw [if_pos c19] at h
    exact b_X3_readClause_82  h
  · rw [if_neg c19] at h
    refine e_aload_n dX3_readClause_61 rfl ?_
    obtain ⟨p15, ep15, h⟩ := Option.bind_eq_some_iff.mp h
    refine c_VI (M' := mX3_nextByte) [] dX3_readClause_62 rfl wmX3_40 imX3_nextByte seX3_nextByte lkX3_nextByte k0_3 rc3 (Nat.le_of_ble_eq_true rfl) ((x_X3_nextByte  ep15).mono (by omega)) ?_
    refine c_SZ (M' := mX3_isComparison) [.int p15.1] dX3_readClause_65 rfl wmX3_71 stX3_isComparison lkX3_isComparison (Nat.le_of_ble_eq_true rfl) ((x_X3_isComparison ).mono (by omega)) ?_
    refine e_if_ne (tgt := 82) dX3_readClause_68 (by decide) (fun c18 => ?_) (fun c18 => ?_)
    · rw [if_pos (bI_p c18)] at h
      exact b_X3_readClause_82  h
    · rw [if_neg (bI_n c18)] at h
      refine e_aload_n dX3_readClause_71 rfl ?_
      refine e_get (w := .ref 4) (j := 1) dX3_readClause_72 k0_3 rc3 (by decide) wfX3_12 (g0_3_1) ?_
      refine e_bipush (x := (-12 : Int32)) dX3_readClause_75 (by decide) ?_
      obtain ⟨p17, ep17, h⟩ := Option.bind_eq_some_iff.mp h
      refine c_VV (M' := mX2_add) [.int (-12 : Int32)] dX3_readClause_77 rfl wmX3_54 imX2_add seX2_add lkX2_add k0_4 rc2 (Nat.le_of_ble_eq_true rfl) ((x_X2_add (by decide) ep17).mono (by omega)) ?_
      refine e_iconst (x := (1 : Int32)) dX3_readClause_80 (by decide) ?_
      obtain rfl := Option.some.inj h
      exact e_iret dX3_readClause_81 rfl rfl ⟨rfl, rfl, rfl⟩
set_option maxRecDepth 20000 in
theorem b_X3_readClause_42 {X : Nat × (Nat → Int32)} {r : Bool × rV} {v : rV}   {s0 : Int32}  (h : f_X3_readClause_42  v s0 = some r) : Ev mX3_readClause 52 0 0 42 [(0, .ref 3)] [.int s0] (rZ X) v (rPZ X r) := by
  unfold f_X3_readClause_42 at h
  refine e_istore_n (lv' := [(2, .int s0), (0, .ref 3)]) dX3_readClause_42 (by decide) rfl ?_
  refine e_iload_n dX3_readClause_43 rfl ?_
  refine e_if_eq (tgt := 57) dX3_readClause_44 (by decide) (fun c22 => ?_) (fun c22 => ?_)
  · rw [if_pos c22] at h
    refine e_sub [1, 0] rfl ?_
    exact b_X3_readClause_57  h
  · rw [if_neg c22] at h
    refine e_aload_n dX3_readClause_47 rfl ?_
    refine e_iconst (x := (0 : Int32)) dX3_readClause_48 (by decide) ?_
    obtain ⟨p20, ep20, h⟩ := Option.bind_eq_some_iff.mp h
    refine c_VZ (M' := mX3_readSum) [.int (0 : Int32)] dX3_readClause_49 rfl wmX3_68 imX3_readSum seX3_readSum lkX3_readSum k0_3 rc3 (Nat.le_of_ble_eq_true rfl) ((x_X3_readSum 10 _ _ _  ep20).mono (by omega)) ?_
    refine e_if_ne (tgt := 57) dX3_readClause_52 (by decide) (fun c21 => ?_) (fun c21 => ?_)
    · rw [if_pos (bI_p c21)] at h
      refine e_sub [1, 0] rfl ?_
      exact b_X3_readClause_57  h
    · rw [if_neg (bI_n c21)] at h
      refine e_iconst (x := (0 : Int32)) dX3_readClause_55 (by decide) ?_
      obtain rfl := Option.some.inj h
      exact e_iret dX3_readClause_56 rfl rfl ⟨rfl, rfl, rfl⟩
set_option maxRecDepth 20000 in
theorem b_X3_readClause_41 {X : Nat × (Nat → Int32)} {r : Bool × rV} {v : rV}     (h : f_X3_readClause_41  v  = some r) : Ev mX3_readClause 52 0 0 41 [(0, .ref 3)] [] (rZ X) v (rPZ X r) := by
  unfold f_X3_readClause_41 at h
  refine e_iconst (x := (0 : Int32)) dX3_readClause_41 (by decide) ?_
  exact b_X3_readClause_42  h
set_option maxRecDepth 20000 in
theorem x_X3_readClause {X : Nat × (Nat → Int32)} {v : rV} {r : Bool × rV}   (h : f_X3_readClause v = some r) : EvM mX3_readClause 52 0 0 [.ref 3] (rZ X) v (rPZ X r) := by
  refine evm_of (by decide +kernel) (fun G => Nat.le_of_ble_eq_true rfl) ?_
  show Ev mX3_readClause 52 0 0 0 [(0, .ref 3)] [] (rZ X) v _
  unfold f_X3_readClause at h
  refine e_aload_n dX3_readClause_0 rfl ?_
  refine e_bipush (x := (121 : Int32)) dX3_readClause_1 (by decide) ?_
  obtain ⟨p1, ep1, h⟩ := Option.bind_eq_some_iff.mp h
  refine c_VZ (M' := mX3_goesOnWith) [.int (121 : Int32)] dX3_readClause_3 rfl wmX3_36 imX3_goesOnWith seX3_goesOnWith lkX3_goesOnWith k0_3 rc3 (Nat.le_of_ble_eq_true rfl) ((x_X3_goesOnWith  ep1).mono (by omega)) ?_
  refine e_if_eq (tgt := 18) dX3_readClause_6 (by decide) (fun c26 => ?_) (fun c26 => ?_)
  · rw [if_neg (bI_n c26)] at h
    refine e_iconst (x := (0 : Int32)) dX3_readClause_18 (by decide) ?_
    obtain rfl := Option.some.inj h
    exact e_iret dX3_readClause_19 rfl rfl ⟨rfl, rfl, rfl⟩
  · rw [if_pos (bI_p c26)] at h
    refine e_aload_n dX3_readClause_9 rfl ?_
    refine e_bipush (x := (58 : Int32)) dX3_readClause_10 (by decide) ?_
    obtain ⟨p2, ep2, h⟩ := Option.bind_eq_some_iff.mp h
    refine c_VZ (M' := mX3_goesOnWith) [.int (58 : Int32)] dX3_readClause_12 rfl wmX3_36 imX3_goesOnWith seX3_goesOnWith lkX3_goesOnWith k0_3 rc3 (Nat.le_of_ble_eq_true rfl) ((x_X3_goesOnWith  ep2).mono (by omega)) ?_
    refine e_if_ne (tgt := 20) dX3_readClause_15 (by decide) (fun c25 => ?_) (fun c25 => ?_)
    · rw [if_pos (bI_p c25)] at h
      refine e_aload_n dX3_readClause_20 rfl ?_
      obtain ⟨p3, ep3, h⟩ := Option.bind_eq_some_iff.mp h
      refine c_VI (M' := mX3_nextByte) [] dX3_readClause_21 rfl wmX3_40 imX3_nextByte seX3_nextByte lkX3_nextByte k0_3 rc3 (Nat.le_of_ble_eq_true rfl) ((x_X3_nextByte  ep3).mono (by omega)) ?_
      refine e_istore_n (lv' := [(1, .int p3.1), (0, .ref 3)]) dX3_readClause_24 (by decide) rfl ?_
      refine e_iload_n dX3_readClause_25 rfl ?_
      refine e_bipush (x := (33 : Int32)) dX3_readClause_26 (by decide) ?_
      refine e_icmp_eq (tgt := 41) dX3_readClause_28 (by decide) (fun c24 => ?_) (fun c24 => ?_)
      · rw [if_pos c24] at h
        refine e_sub [1] rfl ?_
        exact b_X3_readClause_41  h
      · rw [if_neg c24] at h
        refine e_iload_n dX3_readClause_31 rfl ?_
        refine e_bipush (x := (40 : Int32)) dX3_readClause_32 (by decide) ?_
        refine e_icmp_eq (tgt := 41) dX3_readClause_34 (by decide) (fun c23 => ?_) (fun c23 => ?_)
        · rw [if_pos c23] at h
          refine e_sub [1] rfl ?_
          exact b_X3_readClause_41  h
        · rw [if_neg c23] at h
          refine e_iconst (x := (1 : Int32)) dX3_readClause_37 (by decide) ?_
          refine e_goto (tgt := 42) dX3_readClause_38 (by decide) ?_
          refine e_sub [1] rfl ?_
          exact b_X3_readClause_42  h
    · rw [if_neg (bI_n c25)] at h
      refine e_iconst (x := (0 : Int32)) dX3_readClause_18 (by decide) ?_
      obtain rfl := Option.some.inj h
      exact e_iret dX3_readClause_19 rfl rfl ⟨rfl, rfl, rfl⟩
def f_X3_faultOfLaw_44   (v : rV) (a1 : Int32) : Option (Int32 × rV) := if a1 = 0 then
  (some (v.1 3 3, v))
else
  ((f_X3_nextByte v).bind fun p4 =>
  if p4.1 = (-1 : Int32) then
  (some ((-1 : Int32), p4.2))
else
  (some (p4.2.1 3 3, p4.2)))
def f_X3_faultOfLaw_13   : Nat → rV → Int32 → Int32 → Option (Int32 × rV)
  | 0, _, _, _ => none
  | n + 1, v, a1, a2 => if (160 : Int32) ≤ a2 then
  (f_X3_faultOfLaw_44  v a1)
else
  (if a1 = 0 then
  (f_X3_faultOfLaw_44  v a1)
else
  ((f_X3_goesOnWith v (59 : Int32)).bind fun p7 =>
  if p7.1 = true then
  ((f_X3_readClause p7.2).bind fun p8 =>
  vlet (bI p8.1 : Int32) fun x9 =>
  vlet (a2 + (1 : Int32)) fun x10 =>
  f_X3_faultOfLaw_13  n p8.2 x9 x10)
else
  (f_X3_faultOfLaw_44  p7.2 a1)))
def f_X3_faultOfLaw (v : rV)  : Option (Int32 × rV) := (f_X3_open v 1000010).bind fun p1 =>
  (f_X3_readClause p1).bind fun p2 =>
  vlet (bI p2.1 : Int32) fun x3 =>
  f_X3_faultOfLaw_13  20000 p2.2 x3 (0 : Int32)
set_option maxRecDepth 20000 in
theorem b_X3_faultOfLaw_44 {X : Nat × (Nat → Int32)} {r : Int32 × rV} {v : rV}   {a1 : Int32}  (h : f_X3_faultOfLaw_44  v a1 = some r) : Ev mX3_faultOfLaw 53 0 0 44 [(0, .ref 3), (1, .int a1)] [] (rZ X) v (rPI X r) := by
  unfold f_X3_faultOfLaw_44 at h
  refine e_iload_n dX3_faultOfLaw_44 rfl ?_
  refine e_if_eq (tgt := 60) dX3_faultOfLaw_45 (by decide) (fun c6 => ?_) (fun c6 => ?_)
  · rw [if_pos c6] at h
    refine e_aload_n dX3_faultOfLaw_60 rfl ?_
    refine e_get (w := .int (v.1 3 3)) (j := 3) dX3_faultOfLaw_61 k0_3 rc3 (by decide) wfX3_44 rfl ?_
    obtain rfl := Option.some.inj h
    exact e_iret dX3_faultOfLaw_64 rfl rfl ⟨rfl, rfl, rfl⟩
  · rw [if_neg c6] at h
    refine e_aload_n dX3_faultOfLaw_48 rfl ?_
    obtain ⟨p4, ep4, h⟩ := Option.bind_eq_some_iff.mp h
    refine c_VI (M' := mX3_nextByte) [] dX3_faultOfLaw_49 rfl wmX3_40 imX3_nextByte seX3_nextByte lkX3_nextByte k0_3 rc3 (Nat.le_of_ble_eq_true rfl) ((x_X3_nextByte  ep4).mono (by omega)) ?_
    refine e_iconst (x := (-1 : Int32)) dX3_faultOfLaw_52 (by decide) ?_
    refine e_icmp_ne (tgt := 60) dX3_faultOfLaw_53 (by decide) (fun c5 => ?_) (fun c5 => ?_)
    · rw [if_neg c5] at h
      refine e_aload_n dX3_faultOfLaw_60 rfl ?_
      refine e_get (w := .int (p4.2.1 3 3)) (j := 3) dX3_faultOfLaw_61 k0_3 rc3 (by decide) wfX3_44 rfl ?_
      obtain rfl := Option.some.inj h
      exact e_iret dX3_faultOfLaw_64 rfl rfl ⟨rfl, rfl, rfl⟩
    · rw [if_pos c5] at h
      refine e_iconst (x := (-1 : Int32)) dX3_faultOfLaw_56 (by decide) ?_
      refine e_goto (tgt := 64) dX3_faultOfLaw_57 (by decide) ?_
      obtain rfl := Option.some.inj h
      exact e_iret dX3_faultOfLaw_64 rfl rfl ⟨rfl, rfl, rfl⟩
set_option maxRecDepth 20000 in
theorem b_X3_faultOfLaw_13 {X : Nat × (Nat → Int32)} {r : Int32 × rV}   : ∀ (n : Nat) (v : rV) (a1 : Int32) (a2 : Int32) , f_X3_faultOfLaw_13   n v a1 a2 = some r → Ev mX3_faultOfLaw 53 0 0 13 [(0, .ref 3), (1, .int a1), (2, .int a2)] [] (rZ X) v (rPI X r) := by
  intro n
  induction n with
  | zero =>
    intros
    rename_i h
    cases h
  | succ n ih =>
    intro v a1 a2 h
    rw [f_X3_faultOfLaw_13] at h
    refine e_iload_n dX3_faultOfLaw_13 rfl ?_
    refine e_sipush (x := (160 : Int32)) dX3_faultOfLaw_14 (by decide) ?_
    refine e_icmp_ge (tgt := 44) dX3_faultOfLaw_17 (by decide) (fun c13 => ?_) (fun c13 => ?_)
    · rw [if_pos c13] at h
      refine e_sub [0, 1] rfl ?_
      exact b_X3_faultOfLaw_44  h
    · rw [if_neg c13] at h
      refine e_iload_n dX3_faultOfLaw_20 rfl ?_
      refine e_if_eq (tgt := 44) dX3_faultOfLaw_21 (by decide) (fun c12 => ?_) (fun c12 => ?_)
      · rw [if_pos c12] at h
        refine e_sub [0, 1] rfl ?_
        exact b_X3_faultOfLaw_44  h
      · rw [if_neg c12] at h
        refine e_aload_n dX3_faultOfLaw_24 rfl ?_
        refine e_bipush (x := (59 : Int32)) dX3_faultOfLaw_25 (by decide) ?_
        obtain ⟨p7, ep7, h⟩ := Option.bind_eq_some_iff.mp h
        refine c_VZ (M' := mX3_goesOnWith) [.int (59 : Int32)] dX3_faultOfLaw_27 rfl wmX3_36 imX3_goesOnWith seX3_goesOnWith lkX3_goesOnWith k0_3 rc3 (Nat.le_of_ble_eq_true rfl) ((x_X3_goesOnWith  ep7).mono (by omega)) ?_
        refine e_if_eq (tgt := 44) dX3_faultOfLaw_30 (by decide) (fun c11 => ?_) (fun c11 => ?_)
        · rw [if_neg (bI_n c11)] at h
          refine e_sub [0, 1] rfl ?_
          exact b_X3_faultOfLaw_44  h
        · rw [if_pos (bI_p c11)] at h
          refine e_aload_n dX3_faultOfLaw_33 rfl ?_
          obtain ⟨p8, ep8, h⟩ := Option.bind_eq_some_iff.mp h
          refine c_VZ (M' := mX3_readClause) [] dX3_faultOfLaw_34 rfl wmX3_32 imX3_readClause seX3_readClause lkX3_readClause k0_3 rc3 (Nat.le_of_ble_eq_true rfl) ((x_X3_readClause  ep8).mono (by omega)) ?_
          obtain ⟨x9, ex9, h⟩ := vlet_ex h
          refine e_nameI ex9.symm ?_
          clear ex9
          refine e_istore_n (lv' := [(1, .int x9), (0, .ref 3), (2, .int a2)]) dX3_faultOfLaw_37 (by decide) rfl ?_
          obtain ⟨x10, ex10, h⟩ := vlet_ex h
          refine e_iinc (lv' := [(2, .int x10), (1, .int x9), (0, .ref 3)]) dX3_faultOfLaw_38 rfl (ex10.symm) (by decide) rfl ?_
          clear ex10
          refine e_goto (tgt := 13) dX3_faultOfLaw_41 (by decide) ?_
          refine e_sub [2, 1, 0] rfl ?_
          exact ih p8.2 x9 x10 h
set_option maxRecDepth 20000 in
theorem x_X3_faultOfLaw {X : Nat × (Nat → Int32)} {v : rV} {r : Int32 × rV}   (h : f_X3_faultOfLaw v = some r) : EvM mX3_faultOfLaw 53 0 0 [.ref 3] (rZ X) v (rPI X r) := by
  refine evm_of (by decide +kernel) (fun G => Nat.le_of_ble_eq_true rfl) ?_
  show Ev mX3_faultOfLaw 53 0 0 0 [(0, .ref 3)] [] (rZ X) v _
  unfold f_X3_faultOfLaw at h
  refine e_aload_n dX3_faultOfLaw_0 rfl ?_
  refine e_ldcS0 dX3_faultOfLaw_1 rfl ?_
  obtain ⟨p1, ep1, h⟩ := Option.bind_eq_some_iff.mp h
  refine c_VV (M' := mX3_open) [.ref 1000010] dX3_faultOfLaw_3 rfl wmX3_28 imX3_open seX3_open lkX3_open k0_3 rc3 (Nat.le_of_ble_eq_true rfl) ((x_X3_open  ep1).mono (by omega)) ?_
  refine e_aload_n dX3_faultOfLaw_6 rfl ?_
  obtain ⟨p2, ep2, h⟩ := Option.bind_eq_some_iff.mp h
  refine c_VZ (M' := mX3_readClause) [] dX3_faultOfLaw_7 rfl wmX3_32 imX3_readClause seX3_readClause lkX3_readClause k0_3 rc3 (Nat.le_of_ble_eq_true rfl) ((x_X3_readClause  ep2).mono (by omega)) ?_
  obtain ⟨x3, ex3, h⟩ := vlet_ex h
  refine e_nameI ex3.symm ?_
  clear ex3
  refine e_istore_n (lv' := [(1, .int x3), (0, .ref 3)]) dX3_faultOfLaw_10 (by decide) rfl ?_
  refine e_iconst (x := (0 : Int32)) dX3_faultOfLaw_11 (by decide) ?_
  refine e_istore_n (lv' := [(2, .int (0 : Int32)), (1, .int x3), (0, .ref 3)]) dX3_faultOfLaw_12 (by decide) rfl ?_
  refine e_sub [2, 1, 0] rfl ?_
  exact b_X3_faultOfLaw_13  _ p2.2 x3 (0 : Int32) h
def f_X3_faultOfWant (v : rV)  : Option (Int32 × rV) := (f_X3_open v 1000011).bind fun p1 =>
  (f_X3_readCondition 10 p1 (0 : Int32) (0 : Int32)).bind fun p2 =>
  if p2.1 = true then
  ((f_X2_add p2.2 4 (-12 : Int32)).bind fun p3 =>
  (f_X3_nextByte p3).bind fun p4 =>
  if p4.1 = (-1 : Int32) then
  (some ((-1 : Int32), p4.2))
else
  (some (p4.2.1 3 3, p4.2)))
else
  (some (p2.2.1 3 3, p2.2))
set_option maxRecDepth 20000 in
theorem x_X3_faultOfWant {X : Nat × (Nat → Int32)} {v : rV} {r : Int32 × rV}   (h : f_X3_faultOfWant v = some r) : EvM mX3_faultOfWant 52 0 0 [.ref 3] (rZ X) v (rPI X r) := by
  refine evm_of (by decide +kernel) (fun G => Nat.le_of_ble_eq_true rfl) ?_
  show Ev mX3_faultOfWant 52 0 0 0 [(0, .ref 3)] [] (rZ X) v _
  unfold f_X3_faultOfWant at h
  refine e_aload_n dX3_faultOfWant_0 rfl ?_
  refine e_ldcS2 dX3_faultOfWant_1 rfl ?_
  obtain ⟨p1, ep1, h⟩ := Option.bind_eq_some_iff.mp h
  refine c_VV (M' := mX3_open) [.ref 1000011] dX3_faultOfWant_3 rfl wmX3_28 imX3_open seX3_open lkX3_open k0_3 rc3 (Nat.le_of_ble_eq_true rfl) ((x_X3_open  ep1).mono (by omega)) ?_
  refine e_aload_n dX3_faultOfWant_6 rfl ?_
  refine e_iconst (x := (0 : Int32)) dX3_faultOfWant_7 (by decide) ?_
  refine e_iconst (x := (0 : Int32)) dX3_faultOfWant_8 (by decide) ?_
  obtain ⟨p2, ep2, h⟩ := Option.bind_eq_some_iff.mp h
  refine c_VZ (M' := mX3_readCondition) [.int (0 : Int32), .int (0 : Int32)] dX3_faultOfWant_9 rfl wmX3_50 imX3_readCondition seX3_readCondition lkX3_readCondition k0_3 rc3 (Nat.le_of_ble_eq_true rfl) ((x_X3_readCondition 10 _ _ _ _  ep2).mono (by omega)) ?_
  refine e_if_ne (tgt := 20) dX3_faultOfWant_12 (by decide) (fun c6 => ?_) (fun c6 => ?_)
  · rw [if_pos (bI_p c6)] at h
    refine e_aload_n dX3_faultOfWant_20 rfl ?_
    refine e_get (w := .ref 4) (j := 1) dX3_faultOfWant_21 k0_3 rc3 (by decide) wfX3_12 (g0_3_1) ?_
    refine e_bipush (x := (-12 : Int32)) dX3_faultOfWant_24 (by decide) ?_
    obtain ⟨p3, ep3, h⟩ := Option.bind_eq_some_iff.mp h
    refine c_VV (M' := mX2_add) [.int (-12 : Int32)] dX3_faultOfWant_26 rfl wmX3_54 imX2_add seX2_add lkX2_add k0_4 rc2 (Nat.le_of_ble_eq_true rfl) ((x_X2_add (by decide) ep3).mono (by omega)) ?_
    refine e_aload_n dX3_faultOfWant_29 rfl ?_
    obtain ⟨p4, ep4, h⟩ := Option.bind_eq_some_iff.mp h
    refine c_VI (M' := mX3_nextByte) [] dX3_faultOfWant_30 rfl wmX3_40 imX3_nextByte seX3_nextByte lkX3_nextByte k0_3 rc3 (Nat.le_of_ble_eq_true rfl) ((x_X3_nextByte  ep4).mono (by omega)) ?_
    refine e_iconst (x := (-1 : Int32)) dX3_faultOfWant_33 (by decide) ?_
    refine e_icmp_ne (tgt := 41) dX3_faultOfWant_34 (by decide) (fun c5 => ?_) (fun c5 => ?_)
    · rw [if_neg c5] at h
      refine e_aload_n dX3_faultOfWant_41 rfl ?_
      refine e_get (w := .int (p4.2.1 3 3)) (j := 3) dX3_faultOfWant_42 k0_3 rc3 (by decide) wfX3_44 rfl ?_
      obtain rfl := Option.some.inj h
      exact e_iret dX3_faultOfWant_45 rfl rfl ⟨rfl, rfl, rfl⟩
    · rw [if_pos c5] at h
      refine e_iconst (x := (-1 : Int32)) dX3_faultOfWant_37 (by decide) ?_
      refine e_goto (tgt := 45) dX3_faultOfWant_38 (by decide) ?_
      obtain rfl := Option.some.inj h
      exact e_iret dX3_faultOfWant_45 rfl rfl ⟨rfl, rfl, rfl⟩
  · rw [if_neg (bI_n c6)] at h
    refine e_aload_n dX3_faultOfWant_15 rfl ?_
    refine e_get (w := .int (p2.2.1 3 3)) (j := 3) dX3_faultOfWant_16 k0_3 rc3 (by decide) wfX3_44 rfl ?_
    obtain rfl := Option.some.inj h
    exact e_iret dX3_faultOfWant_19 rfl rfl ⟨rfl, rfl, rfl⟩
