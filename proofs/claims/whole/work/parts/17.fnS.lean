/-! methods as functions over the numbered heap: 17.fnS -/
def f_X5_shape_97   : Nat → rV → Nat → Nat → Int32 → Int32 → Option (rV)
  | 0, _, _, _, _, _ => none
  | n + 1, v, k0, k1, a4, a5 => if (v.1 k1 3) < a5 then
  (some v)
else
  (if a4 ≤ 0 then
  (some v)
else
  (if ¬ a5 < 0 ∧ a5.toNatClampNeg < 24 then
  (vlet (rI v (k0 + 1) a5.toNatClampNeg ((v.1 (k0 + 1) a5.toNatClampNeg) + (1 : Int32))) fun v5 =>
  vlet (a4 + (-1 : Int32)) fun x6 =>
  vlet (a5 + (1 : Int32)) fun x7 =>
  f_X5_shape_97  n v5 k0 k1 x6 x7)
else none))
def f_X5_shape_47   : Nat → rV → Nat → Nat → Int32 → Int32 → Int32 → Int32 → Option (rV)
  | 0, _, _, _, _, _, _, _ => none
  | n + 1, v, k0, k1, a2, a3, a4, a5 => if (v.1 k1 3) < a5 then
  (vlet (v.1 k1 2 : Int32) fun x3 =>
  f_X5_shape_97  20000 v k0 k1 a4 x3)
else
  (if a3 = 0 then none else
  if ¬ a5 < 0 ∧ a5.toNatClampNeg < 24 then
  (vlet (rI v (k0 + 1) a5.toNatClampNeg ((a2 * (f_X0_weightOf v k1 a5)) / a3)) fun v12 =>
  vlet (a4 - (v12.1 (k0 + 1) a5.toNatClampNeg) : Int32) fun x13 =>
  vlet (a5 + (1 : Int32)) fun x14 =>
  f_X5_shape_47  n v12 k0 k1 a2 a3 x13 x14)
else none)
def f_X5_shape_8   : Nat → rV → Nat → Nat → Int32 → Int32 → Int32 → Option (rV)
  | 0, _, _, _, _, _, _ => none
  | n + 1, v, k0, k1, a2, a3, a4 => if (v.1 k1 3) < a4 then
  (if (1 : Int32) ≤ a3 then
  (vlet (v.1 k1 2 : Int32) fun x2 =>
  f_X5_shape_47  20000 v k0 k1 a2 a3 a2 x2)
else
  (some v))
else
  (vlet (a3 + (f_X0_weightOf v k1 a4) : Int32) fun x19 =>
  vlet (a4 + (1 : Int32)) fun x20 =>
  f_X5_shape_8  n v k0 k1 a2 x19 x20)
def f_X5_shape (v : rV) (k0 : Nat) (k1 : Nat) (a2 : Int32) : Option (rV) := vlet (v.1 k1 2 : Int32) fun x1 =>
  f_X5_shape_8  20000 v k0 k1 a2 (0 : Int32) x1
set_option maxRecDepth 20000 in
theorem b_X5_shape_97 {X : Nat × (Nat → Int32)} {r : rV}   : ∀ (n : Nat) (v : rV) (k0 : Nat) (k1 : Nat) (a4 : Int32) (a5 : Int32) (hk0 : isStrip k0 = true) (hk1 : isBody k1 = true), f_X5_shape_97   n v k0 k1 a4 a5 = some r → Ev mX5_shape 2 0 0 97 [(0, .ref k0), (1, .ref k1), (4, .int a4), (5, .int a5)] [] (rZ X) v (rPV X r) := by
  intro n
  induction n with
  | zero =>
    intros
    rename_i h
    cases h
  | succ n ih =>
    intro v k0 k1 a4 a5 hk0 hk1 h
    rw [f_X5_shape_97] at h
    refine e_iload dX5_shape_97 rfl ?_
    refine e_aload_n dX5_shape_99 rfl ?_
    refine e_get (w := .int (v.1 k1 3)) (j := 3) dX5_shape_100 (kBody_0 hk1) rc0 (by decide) wfX5_86 rfl ?_
    refine e_icmp_gt (tgt := 131) dX5_shape_103 (by decide) (fun c9 => ?_) (fun c9 => ?_)
    · rw [if_pos c9] at h
      obtain rfl := Option.some.inj h
      exact e_ret dX5_shape_131 rfl ⟨rfl, rfl, rfl⟩
    · rw [if_neg c9] at h
      refine e_iload dX5_shape_106 rfl ?_
      refine e_if_le (tgt := 131) dX5_shape_108 (by decide) (fun c8 => ?_) (fun c8 => ?_)
      · rw [if_pos c8] at h
        obtain rfl := Option.some.inj h
        exact e_ret dX5_shape_131 rfl ⟨rfl, rfl, rfl⟩
      · rw [if_neg c8] at h
        refine e_aload_n dX5_shape_111 rfl ?_
        refine e_get (w := .ref (k0 + 1)) (j := 0) dX5_shape_112 (kStrip_0 hk0) rc5 (by decide) wfX5_9 (gStrip_0 hk0) ?_
        refine e_iload dX5_shape_115 rfl ?_
        refine e_dup2 dX5_shape_117 rfl rfl ?_
        obtain ⟨c4, h⟩ := grd h
        refine e_ialdJ dX5_shape_118 (kStrip_1 hk0) rfl c4.2 c4.1 ?_
        refine e_iconst (x := (1 : Int32)) dX5_shape_119 (by decide) ?_
        refine e_iadd dX5_shape_120 ?_
        refine e_iastJ dX5_shape_121 (kStrip_1 hk0) rfl (c4).2 (c4).1 ?_
        obtain ⟨v5, ev5, h⟩ := vlet_ex h
        refine e_nameV ev5.symm ?_
        clear ev5
        obtain ⟨x6, ex6, h⟩ := vlet_ex h
        refine e_iinc (lv' := [(4, .int x6), (0, .ref k0), (1, .ref k1), (5, .int a5)]) dX5_shape_122 rfl (ex6.symm) (by decide) rfl ?_
        clear ex6
        obtain ⟨x7, ex7, h⟩ := vlet_ex h
        refine e_iinc (lv' := [(5, .int x7), (4, .int x6), (0, .ref k0), (1, .ref k1)]) dX5_shape_125 rfl (ex7.symm) (by decide) rfl ?_
        clear ex7
        refine e_goto (tgt := 97) dX5_shape_128 (by decide) ?_
        refine e_sub [2, 3, 1, 0] rfl ?_
        exact ih v5 k0 k1 x6 x7 hk0 hk1 h
set_option maxRecDepth 20000 in
theorem b_X5_shape_47 {X : Nat × (Nat → Int32)} {r : rV}   : ∀ (n : Nat) (v : rV) (k0 : Nat) (k1 : Nat) (a2 : Int32) (a3 : Int32) (a4 : Int32) (a5 : Int32) (hk0 : isStrip k0 = true) (hk1 : isBody k1 = true), f_X5_shape_47   n v k0 k1 a2 a3 a4 a5 = some r → Ev mX5_shape 2 0 0 47 [(0, .ref k0), (1, .ref k1), (2, .int a2), (3, .int a3), (4, .int a4), (5, .int a5)] [] (rZ X) v (rPV X r) := by
  intro n
  induction n with
  | zero =>
    intros
    rename_i h
    cases h
  | succ n ih =>
    intro v k0 k1 a2 a3 a4 a5 hk0 hk1 h
    rw [f_X5_shape_47] at h
    refine e_iload dX5_shape_47 rfl ?_
    refine e_aload_n dX5_shape_49 rfl ?_
    refine e_get (w := .int (v.1 k1 3)) (j := 3) dX5_shape_50 (kBody_0 hk1) rc0 (by decide) wfX5_86 rfl ?_
    refine e_icmp_gt (tgt := 91) dX5_shape_53 (by decide) (fun c16 => ?_) (fun c16 => ?_)
    · rw [if_pos c16] at h
      refine e_aload_n dX5_shape_91 rfl ?_
      refine e_get (w := .int (v.1 k1 2)) (j := 2) dX5_shape_92 (kBody_0 hk1) rc0 (by decide) wfX5_97 rfl ?_
      obtain ⟨x3, ex3, h⟩ := vlet_ex h
      refine e_nameI ex3.symm ?_
      clear ex3
      refine e_istore (lv' := [(5, .int x3), (0, .ref k0), (1, .ref k1), (2, .int a2), (3, .int a3), (4, .int a4)]) dX5_shape_95 (by decide) rfl ?_
      refine e_sub [1, 2, 5, 0] rfl ?_
      exact b_X5_shape_97  _ v k0 k1 a4 x3 hk0 hk1 h
    · rw [if_neg c16] at h
      refine e_aload_n dX5_shape_56 rfl ?_
      refine e_get (w := .ref (k0 + 1)) (j := 0) dX5_shape_57 (kStrip_0 hk0) rc5 (by decide) wfX5_9 (gStrip_0 hk0) ?_
      refine e_iload dX5_shape_60 rfl ?_
      refine e_iload_n dX5_shape_62 rfl ?_
      refine e_aload_n dX5_shape_63 rfl ?_
      refine e_iload dX5_shape_64 rfl ?_
      refine c_VI (M' := mX0_weightOf) [.int a5] dX5_shape_66 rfl wmX5_114 imX0_weightOf seX0_weightOf lkX0_weightOf (kBody_0 hk1) rc0 (Nat.le_of_ble_eq_true rfl) ((x_X0_weightOf hk1).mono (by omega)) ?_
      refine e_imul dX5_shape_69 ?_
      refine e_iload_n dX5_shape_70 rfl ?_
      obtain ⟨c15, h⟩ := grdn h
      refine e_idiv dX5_shape_71 c15 ?_
      obtain ⟨c11, h⟩ := grd h
      refine e_iastJ dX5_shape_72 (kStrip_1 hk0) rfl c11.2 c11.1 ?_
      obtain ⟨v12, ev12, h⟩ := vlet_ex h
      refine e_nameV ev12.symm ?_
      clear ev12
      refine e_iload dX5_shape_73 rfl ?_
      refine e_aload_n dX5_shape_75 rfl ?_
      refine e_get (w := .ref (k0 + 1)) (j := 0) dX5_shape_76 (kStrip_0 hk0) rc5 (by decide) wfX5_9 (gStrip_0 hk0) ?_
      refine e_iload dX5_shape_79 rfl ?_
      refine e_ialdJ dX5_shape_81 (kStrip_1 hk0) rfl (c11).2 (c11).1 ?_
      refine e_isub dX5_shape_82 ?_
      obtain ⟨x13, ex13, h⟩ := vlet_ex h
      refine e_nameI ex13.symm ?_
      clear ex13
      refine e_istore (lv' := [(4, .int x13), (0, .ref k0), (1, .ref k1), (2, .int a2), (3, .int a3), (5, .int a5)]) dX5_shape_83 (by decide) rfl ?_
      obtain ⟨x14, ex14, h⟩ := vlet_ex h
      refine e_iinc (lv' := [(5, .int x14), (4, .int x13), (0, .ref k0), (1, .ref k1), (2, .int a2), (3, .int a3)]) dX5_shape_85 rfl (ex14.symm) (by decide) rfl ?_
      clear ex14
      refine e_goto (tgt := 47) dX5_shape_88 (by decide) ?_
      refine e_sub [2, 3, 4, 5, 1, 0] rfl ?_
      exact ih v12 k0 k1 a2 a3 x13 x14 hk0 hk1 h
set_option maxRecDepth 20000 in
theorem b_X5_shape_8 {X : Nat × (Nat → Int32)} {r : rV}   : ∀ (n : Nat) (v : rV) (k0 : Nat) (k1 : Nat) (a2 : Int32) (a3 : Int32) (a4 : Int32) (hk0 : isStrip k0 = true) (hk1 : isBody k1 = true), f_X5_shape_8   n v k0 k1 a2 a3 a4 = some r → Ev mX5_shape 2 0 0 8 [(0, .ref k0), (1, .ref k1), (2, .int a2), (3, .int a3), (4, .int a4)] [] (rZ X) v (rPV X r) := by
  intro n
  induction n with
  | zero =>
    intros
    rename_i h
    cases h
  | succ n ih =>
    intro v k0 k1 a2 a3 a4 hk0 hk1 h
    rw [f_X5_shape_8] at h
    refine e_iload dX5_shape_8 rfl ?_
    refine e_aload_n dX5_shape_10 rfl ?_
    refine e_get (w := .int (v.1 k1 3)) (j := 3) dX5_shape_11 (kBody_0 hk1) rc0 (by decide) wfX5_86 rfl ?_
    refine e_icmp_gt (tgt := 32) dX5_shape_14 (by decide) (fun c21 => ?_) (fun c21 => ?_)
    · rw [if_pos c21] at h
      refine e_iload_n dX5_shape_32 rfl ?_
      refine e_iconst (x := (1 : Int32)) dX5_shape_33 (by decide) ?_
      refine e_icmp_ge (tgt := 38) dX5_shape_34 (by decide) (fun c17 => ?_) (fun c17 => ?_)
      · rw [if_pos c17] at h
        refine e_iload_n dX5_shape_38 rfl ?_
        refine e_istore (lv' := [(4, .int a2), (0, .ref k0), (1, .ref k1), (2, .int a2), (3, .int a3)]) dX5_shape_39 (by decide) rfl ?_
        refine e_aload_n dX5_shape_41 rfl ?_
        refine e_get (w := .int (v.1 k1 2)) (j := 2) dX5_shape_42 (kBody_0 hk1) rc0 (by decide) wfX5_97 rfl ?_
        obtain ⟨x2, ex2, h⟩ := vlet_ex h
        refine e_nameI ex2.symm ?_
        clear ex2
        refine e_istore (lv' := [(5, .int x2), (4, .int a2), (0, .ref k0), (1, .ref k1), (2, .int a2), (3, .int a3)]) dX5_shape_45 (by decide) rfl ?_
        refine e_sub [2, 3, 4, 5, 1, 0] rfl ?_
        exact b_X5_shape_47  _ v k0 k1 a2 a3 a2 x2 hk0 hk1 h
      · rw [if_neg c17] at h
        obtain rfl := Option.some.inj h
        exact e_ret dX5_shape_37 rfl ⟨rfl, rfl, rfl⟩
    · rw [if_neg c21] at h
      refine e_iload_n dX5_shape_17 rfl ?_
      refine e_aload_n dX5_shape_18 rfl ?_
      refine e_iload dX5_shape_19 rfl ?_
      refine c_VI (M' := mX0_weightOf) [.int a4] dX5_shape_21 rfl wmX5_114 imX0_weightOf seX0_weightOf lkX0_weightOf (kBody_0 hk1) rc0 (Nat.le_of_ble_eq_true rfl) ((x_X0_weightOf hk1).mono (by omega)) ?_
      refine e_iadd dX5_shape_24 ?_
      obtain ⟨x19, ex19, h⟩ := vlet_ex h
      refine e_nameI ex19.symm ?_
      clear ex19
      refine e_istore_n (lv' := [(3, .int x19), (0, .ref k0), (1, .ref k1), (2, .int a2), (4, .int a4)]) dX5_shape_25 (by decide) rfl ?_
      obtain ⟨x20, ex20, h⟩ := vlet_ex h
      refine e_iinc (lv' := [(4, .int x20), (3, .int x19), (0, .ref k0), (1, .ref k1), (2, .int a2)]) dX5_shape_26 rfl (ex20.symm) (by decide) rfl ?_
      clear ex20
      refine e_goto (tgt := 8) dX5_shape_29 (by decide) ?_
      refine e_sub [2, 3, 4, 1, 0] rfl ?_
      exact ih v k0 k1 a2 x19 x20 hk0 hk1 h
set_option maxRecDepth 20000 in
theorem x_X5_shape {X : Nat × (Nat → Int32)} {v : rV} {r : rV} {k0 : Nat} {k1 : Nat} {a2 : Int32} (hk0 : isStrip k0 = true) (hk1 : isBody k1 = true) (h : f_X5_shape v k0 k1 a2 = some r) : EvM mX5_shape 2 0 0 [.ref k0, .ref k1, .int a2] (rZ X) v (rPV X r) := by
  refine evm_of (by decide +kernel) (fun G => Nat.le_of_ble_eq_true rfl) ?_
  show Ev mX5_shape 2 0 0 0 [(0, .ref k0), (1, .ref k1), (2, .int a2)] [] (rZ X) v _
  unfold f_X5_shape at h
  refine e_iconst (x := (0 : Int32)) dX5_shape_0 (by decide) ?_
  refine e_istore_n (lv' := [(3, .int (0 : Int32)), (0, .ref k0), (1, .ref k1), (2, .int a2)]) dX5_shape_1 (by decide) rfl ?_
  refine e_aload_n dX5_shape_2 rfl ?_
  refine e_get (w := .int (v.1 k1 2)) (j := 2) dX5_shape_3 (kBody_0 hk1) rc0 (by decide) wfX5_97 rfl ?_
  obtain ⟨x1, ex1, h⟩ := vlet_ex h
  refine e_nameI ex1.symm ?_
  clear ex1
  refine e_istore (lv' := [(4, .int x1), (3, .int (0 : Int32)), (0, .ref k0), (1, .ref k1), (2, .int a2)]) dX5_shape_6 (by decide) rfl ?_
  refine e_sub [2, 3, 4, 1, 0] rfl ?_
  exact b_X5_shape_8  _ v k0 k1 a2 (0 : Int32) x1 hk0 hk1 h
def f_X5_layOut_63  (q19 : rV → Nat → Nat → Int32 → Int32 → Int32 → Int32 → Option (rV)) (v : rV) (k0 : Nat) (k1 : Nat) (a2 : Int32) (a3 : Int32) (a4 : Int32) (a5 : Int32) (s0 : Int32) (s1 : Int32) (s2 : Int32) (ks3 : Nat) : Option (rV) := if ¬ s2 < 0 ∧ s2.toNatClampNeg < 24 then
  (vlet (rI v ks3 s2.toNatClampNeg (s1 + s0)) fun v7 =>
  vlet (a5 + (1 : Int32)) fun x8 =>
  q19 v7 k0 k1 a2 a3 a4 x8)
else none
def f_X5_layOut_19   : Nat → rV → Nat → Nat → Int32 → Int32 → Int32 → Int32 → Option (rV)
  | 0, _, _, _, _, _, _, _ => none
  | n + 1, v, k0, k1, a2, a3, a4, a5 => if (v.1 k1 3) < a5 then
  (some v)
else
  (vlet (a5 - (v.1 k1 2) : Int32) fun x4 =>
  if ¬ a2 < 0 ∧ a2.toNatClampNeg < 2 then
  (if a4 = 0 then none else
  if a4 = 0 then none else
  if (a3 - a3 / a4 * a4) ≤ x4 then
  (f_X5_layOut_63 (fun v k0 k1 a2 a3 a4 a5 => f_X5_layOut_19  n v k0 k1 a2 a3 a4 a5) v k0 k1 a2 a3 a4 a5 (0 : Int32) (a3 / a4) a5 (k0 + 5 + a2.toNatClampNeg))
else
  (f_X5_layOut_63 (fun v k0 k1 a2 a3 a4 a5 => f_X5_layOut_19  n v k0 k1 a2 a3 a4 a5) v k0 k1 a2 a3 a4 a5 (1 : Int32) (a3 / a4) a5 (k0 + 5 + a2.toNatClampNeg)))
else none)
def f_X5_layOut (v : rV) (k0 : Nat) (k1 : Nat) (a2 : Int32) (a3 : Int32) : Option (rV) := vlet (f_X0_width v k1 : Int32) fun x2 =>
  if (1 : Int32) ≤ x2 then
  (vlet (v.1 k1 2 : Int32) fun x3 =>
  f_X5_layOut_19  20000 v k0 k1 a2 a3 x2 x3)
else
  (some v)
set_option maxRecDepth 20000 in
theorem b_X5_layOut_63 {X : Nat × (Nat → Int32)} {r : rV} {v : rV} {q19 : rV → Nat → Nat → Int32 → Int32 → Int32 → Int32 → Option (rV)} (hq19 : ∀ (v : rV) (k0 : Nat) (k1 : Nat) (a2 : Int32) (a3 : Int32) (a4 : Int32) (a5 : Int32) (hk0 : isStrip k0 = true) (hk1 : isBody k1 = true), q19 v k0 k1 a2 a3 a4 a5 = some r → Ev mX5_layOut 2 0 0 19 [(0, .ref k0), (1, .ref k1), (2, .int a2), (3, .int a3), (4, .int a4), (5, .int a5)] [] (rZ X) v (rPV X r)) {k0 : Nat} {k1 : Nat} {a2 : Int32} {a3 : Int32} {a4 : Int32} {a5 : Int32} {s0 : Int32} {s1 : Int32} {s2 : Int32} {ks3 : Nat} (hk0 : isStrip k0 = true) (hk1 : isBody k1 = true) (hks3 : isIA ks3 24) (h : f_X5_layOut_63 q19 v k0 k1 a2 a3 a4 a5 s0 s1 s2 ks3 = some r) : Ev mX5_layOut 2 0 0 63 [(0, .ref k0), (1, .ref k1), (2, .int a2), (3, .int a3), (4, .int a4), (5, .int a5)] [.int s0, .int s1, .int s2, .ref ks3] (rZ X) v (rPV X r) := by
  unfold f_X5_layOut_63 at h
  refine e_iadd dX5_layOut_63 ?_
  obtain ⟨c6, h⟩ := grd h
  refine e_iastJ dX5_layOut_64 hks3 rfl c6.2 c6.1 ?_
  obtain ⟨v7, ev7, h⟩ := vlet_ex h
  refine e_nameV ev7.symm ?_
  clear ev7
  obtain ⟨x8, ex8, h⟩ := vlet_ex h
  refine e_iinc (lv' := [(5, .int x8), (0, .ref k0), (1, .ref k1), (2, .int a2), (3, .int a3), (4, .int a4)]) dX5_layOut_65 rfl (ex8.symm) (by decide) rfl ?_
  clear ex8
  refine e_goto (tgt := 19) dX5_layOut_68 (by decide) ?_
  refine e_sub [1, 2, 3, 4, 5, 0] rfl ?_
  exact hq19 v7 k0 k1 a2 a3 a4 x8 hk0 hk1 h
set_option maxRecDepth 20000 in
theorem b_X5_layOut_19 {X : Nat × (Nat → Int32)} {r : rV}   : ∀ (n : Nat) (v : rV) (k0 : Nat) (k1 : Nat) (a2 : Int32) (a3 : Int32) (a4 : Int32) (a5 : Int32) (hk0 : isStrip k0 = true) (hk1 : isBody k1 = true), f_X5_layOut_19   n v k0 k1 a2 a3 a4 a5 = some r → Ev mX5_layOut 2 0 0 19 [(0, .ref k0), (1, .ref k1), (2, .int a2), (3, .int a3), (4, .int a4), (5, .int a5)] [] (rZ X) v (rPV X r) := by
  intro n
  induction n with
  | zero =>
    intros
    rename_i h
    cases h
  | succ n ih =>
    intro v k0 k1 a2 a3 a4 a5 hk0 hk1 h
    rw [f_X5_layOut_19] at h
    refine e_iload dX5_layOut_19 rfl ?_
    refine e_aload_n dX5_layOut_21 rfl ?_
    refine e_get (w := .int (v.1 k1 3)) (j := 3) dX5_layOut_22 (kBody_0 hk1) rc0 (by decide) wfX5_86 rfl ?_
    refine e_icmp_gt (tgt := 71) dX5_layOut_25 (by decide) (fun c12 => ?_) (fun c12 => ?_)
    · rw [if_pos c12] at h
      obtain rfl := Option.some.inj h
      exact e_ret dX5_layOut_71 rfl ⟨rfl, rfl, rfl⟩
    · rw [if_neg c12] at h
      refine e_iload dX5_layOut_28 rfl ?_
      refine e_aload_n dX5_layOut_30 rfl ?_
      refine e_get (w := .int (v.1 k1 2)) (j := 2) dX5_layOut_31 (kBody_0 hk1) rc0 (by decide) wfX5_97 rfl ?_
      refine e_isub dX5_layOut_34 ?_
      obtain ⟨x4, ex4, h⟩ := vlet_ex h
      refine e_nameI ex4.symm ?_
      clear ex4
      refine e_istore (lv' := [(6, .int x4), (0, .ref k0), (1, .ref k1), (2, .int a2), (3, .int a3), (4, .int a4), (5, .int a5)]) dX5_layOut_35 (by decide) rfl ?_
      refine e_aload_n dX5_layOut_37 rfl ?_
      refine e_get (w := .ref (k0 + 4)) (j := 4) dX5_layOut_38 (kStrip_0 hk0) rc5 (by decide) wfX5_31 (gStrip_4 hk0) ?_
      refine e_iload_n dX5_layOut_41 rfl ?_
      obtain ⟨c5, h⟩ := grd h
      refine e_aaldJ dX5_layOut_42 (kStrip_4 hk0) rfl rfl c5.2 c5.1 (rStrip_4 hk0 (c5).2) ?_
      refine e_iload dX5_layOut_43 rfl ?_
      refine e_iload_n dX5_layOut_45 rfl ?_
      refine e_iload dX5_layOut_46 rfl ?_
      obtain ⟨c11, h⟩ := grdn h
      refine e_idiv dX5_layOut_48 c11 ?_
      refine e_iload dX5_layOut_49 rfl ?_
      refine e_iload_n dX5_layOut_51 rfl ?_
      refine e_iload dX5_layOut_52 rfl ?_
      obtain ⟨c10, h⟩ := grdn h
      refine e_irem dX5_layOut_54 c10 ?_
      refine e_icmp_ge (tgt := 62) dX5_layOut_55 (by decide) (fun c9 => ?_) (fun c9 => ?_)
      · rw [if_pos c9] at h
        refine e_iconst (x := (0 : Int32)) dX5_layOut_62 (by decide) ?_
        refine e_sub [1, 2, 3, 4, 5, 6] rfl ?_
        exact b_X5_layOut_63 (fun v k0 k1 a2 a3 a4 a5 hk0 hk1 hh => ih v k0 k1 a2 a3 a4 a5 hk0 hk1 hh) hk0 hk1 (qStrip_4 (X := X) hk0 (c5).2) h
      · rw [if_neg c9] at h
        refine e_iconst (x := (1 : Int32)) dX5_layOut_58 (by decide) ?_
        refine e_goto (tgt := 63) dX5_layOut_59 (by decide) ?_
        refine e_sub [1, 2, 3, 4, 5, 6] rfl ?_
        exact b_X5_layOut_63 (fun v k0 k1 a2 a3 a4 a5 hk0 hk1 hh => ih v k0 k1 a2 a3 a4 a5 hk0 hk1 hh) hk0 hk1 (qStrip_4 (X := X) hk0 (c5).2) h
set_option maxRecDepth 20000 in
theorem x_X5_layOut {X : Nat × (Nat → Int32)} {v : rV} {r : rV} {k0 : Nat} {k1 : Nat} {a2 : Int32} {a3 : Int32} (hk0 : isStrip k0 = true) (hk1 : isBody k1 = true) (h : f_X5_layOut v k0 k1 a2 a3 = some r) : EvM mX5_layOut 2 0 0 [.ref k0, .ref k1, .int a2, .int a3] (rZ X) v (rPV X r) := by
  refine evm_of (by decide +kernel) (fun G => Nat.le_of_ble_eq_true rfl) ?_
  show Ev mX5_layOut 2 0 0 0 [(0, .ref k0), (1, .ref k1), (2, .int a2), (3, .int a3)] [] (rZ X) v _
  unfold f_X5_layOut at h
  refine e_aload_n dX5_layOut_0 rfl ?_
  refine c_VI (M' := mX0_width) [] dX5_layOut_1 rfl wmX5_111 imX0_width seX0_width lkX0_width (kBody_0 hk1) rc0 (Nat.le_of_ble_eq_true rfl) ((x_X0_width hk1).mono (by omega)) ?_
  obtain ⟨x2, ex2, h⟩ := vlet_ex h
  refine e_nameI ex2.symm ?_
  clear ex2
  refine e_istore (lv' := [(4, .int x2), (0, .ref k0), (1, .ref k1), (2, .int a2), (3, .int a3)]) dX5_layOut_4 (by decide) rfl ?_
  refine e_iload dX5_layOut_6 rfl ?_
  refine e_iconst (x := (1 : Int32)) dX5_layOut_8 (by decide) ?_
  refine e_icmp_ge (tgt := 13) dX5_layOut_9 (by decide) (fun c13 => ?_) (fun c13 => ?_)
  · rw [if_pos c13] at h
    refine e_aload_n dX5_layOut_13 rfl ?_
    refine e_get (w := .int (v.1 k1 2)) (j := 2) dX5_layOut_14 (kBody_0 hk1) rc0 (by decide) wfX5_97 rfl ?_
    obtain ⟨x3, ex3, h⟩ := vlet_ex h
    refine e_nameI ex3.symm ?_
    clear ex3
    refine e_istore (lv' := [(5, .int x3), (4, .int x2), (0, .ref k0), (1, .ref k1), (2, .int a2), (3, .int a3)]) dX5_layOut_17 (by decide) rfl ?_
    refine e_sub [2, 3, 4, 5, 1, 0] rfl ?_
    exact b_X5_layOut_19  _ v k0 k1 a2 a3 x2 x3 hk0 hk1 h
  · rw [if_neg c13] at h
    obtain rfl := Option.some.inj h
    exact e_ret dX5_layOut_12 rfl ⟨rfl, rfl, rfl⟩
def f_X5_begin_22  (q2 : rV → Nat → Int32 → Option (rV)) : Nat → rV → Nat → Int32 → Nat → Int32 → Option (rV)
  | 0, _, _, _, _, _ => none
  | n + 1, v, k0, a1, k2, a3 => if (v.1 k2 3) < a3 then
  (vlet (rI v k0 12 ((v.1 k0 12) ||| (((1 : Int32) <<< ((v.1 k2 2) &&& 31)) ||| ((1 : Int32) <<< ((v.1 k2 3) &&& 31))))) fun v4 =>
  (f_X5_shape v4 k0 k2 (v4.1 (k2 + 1) 2)).bind fun p5 =>
  (f_X5_layOut p5 k0 k2 (0 : Int32) (p5.1 (k2 + 1) 3)).bind fun p6 =>
  (f_X5_layOut p6 k0 k2 (1 : Int32) (p6.1 (k2 + 1) 4)).bind fun p7 =>
  vlet (a1 + (1 : Int32)) fun x8 =>
  q2 p7 k0 x8)
else
  (vlet (rI v k0 11 ((v.1 k0 11) ||| ((1 : Int32) <<< (a3 &&& 31)))) fun v9 =>
  vlet (a3 + (1 : Int32)) fun x10 =>
  f_X5_begin_22 q2 n v9 k0 a1 k2 x10)
def f_X5_begin_2   : Nat → rV → Nat → Int32 → Option (rV)
  | 0, _, _, _ => none
  | n + 1, v, k0, a1 => if (v.1 k0 10) ≤ a1 then
  (some v)
else
  (if ¬ a1 < 0 ∧ a1.toNatClampNeg < 12 then
  ((v.2.2 (k0 + 13) a1.toNatClampNeg).bind fun kd2 => if isBody kd2 = true then
  (vlet (v.1 kd2 2 : Int32) fun x3 =>
  f_X5_begin_22 (fun v k0 a1 => f_X5_begin_2  n v k0 a1) 20000 v k0 a1 kd2 x3) else none)
else none)
def f_X5_begin (v : rV) (k0 : Nat) : Option (rV) := f_X5_begin_2  20000 v k0 (0 : Int32)
set_option maxRecDepth 20000 in
theorem b_X5_begin_22 {X : Nat × (Nat → Int32)} {r : rV} {q2 : rV → Nat → Int32 → Option (rV)} (hq2 : ∀ (v : rV) (k0 : Nat) (a1 : Int32) (hk0 : isStrip k0 = true), q2 v k0 a1 = some r → Ev mX5_begin 3 0 0 2 [(0, .ref k0), (1, .int a1)] [] (rZ X) v (rPV X r)) : ∀ (n : Nat) (v : rV) (k0 : Nat) (a1 : Int32) (k2 : Nat) (a3 : Int32) (hk0 : isStrip k0 = true) (hk2 : isBody k2 = true), f_X5_begin_22  q2 n v k0 a1 k2 a3 = some r → Ev mX5_begin 3 0 0 22 [(0, .ref k0), (1, .int a1), (2, .ref k2), (3, .int a3)] [] (rZ X) v (rPV X r) := by
  intro n
  induction n with
  | zero =>
    intros
    rename_i h
    cases h
  | succ n ih =>
    intro v k0 a1 k2 a3 hk0 hk2 h
    rw [f_X5_begin_22] at h
    refine e_iload_n dX5_begin_22 rfl ?_
    refine e_aload_n dX5_begin_23 rfl ?_
    refine e_get (w := .int (v.1 k2 3)) (j := 3) dX5_begin_24 (kBody_0 hk2) rc0 (by decide) wfX5_86 rfl ?_
    refine e_icmp_gt (tgt := 48) dX5_begin_27 (by decide) (fun c11 => ?_) (fun c11 => ?_)
    · rw [if_pos c11] at h
      refine e_aload_n dX5_begin_48 rfl ?_
      refine e_dup dX5_begin_49 rfl ?_
      refine e_get (w := .int (v.1 k0 12)) (j := 12) dX5_begin_50 (kStrip_0 hk0) rc5 (by decide) wfX5_60 rfl ?_
      refine e_iconst (x := (1 : Int32)) dX5_begin_53 (by decide) ?_
      refine e_aload_n dX5_begin_54 rfl ?_
      refine e_get (w := .int (v.1 k2 2)) (j := 2) dX5_begin_55 (kBody_0 hk2) rc0 (by decide) wfX5_97 rfl ?_
      refine e_ishl dX5_begin_58 ?_
      refine e_iconst (x := (1 : Int32)) dX5_begin_59 (by decide) ?_
      refine e_aload_n dX5_begin_60 rfl ?_
      refine e_get (w := .int (v.1 k2 3)) (j := 3) dX5_begin_61 (kBody_0 hk2) rc0 (by decide) wfX5_86 rfl ?_
      refine e_ishl dX5_begin_64 ?_
      refine e_ior dX5_begin_65 ?_
      refine e_ior dX5_begin_66 ?_
      refine e_putI (j := 12) dX5_begin_67 (kStrip_0 hk0) rc5 (by decide) wfX5_60 rfl rfl ?_
      obtain ⟨v4, ev4, h⟩ := vlet_ex h
      refine e_nameV ev4.symm ?_
      clear ev4
      refine e_aload_n dX5_begin_70 rfl ?_
      refine e_aload_n dX5_begin_71 rfl ?_
      refine e_aload_n dX5_begin_72 rfl ?_
      refine e_get (w := .ref (k2 + 1)) (j := 0) dX5_begin_73 (kBody_0 hk2) rc0 (by decide) wfX5_100 (gBody_0 hk2) ?_
      refine e_iconst (x := (2 : Int32)) dX5_begin_76 (by decide) ?_
      refine e_ialdJ dX5_begin_77 (kBody_1 hk2) (j := 2) (by decide) (by decide) (by decide) ?_
      obtain ⟨p5, ep5, h⟩ := Option.bind_eq_some_iff.mp h
      refine c_VV (M' := mX5_shape) [.ref k2, .int (v4.1 (k2 + 1) 2)] dX5_begin_78 rfl wmX5_103 imX5_shape seX5_shape lkX5_shape (kStrip_0 hk0) rc5 (Nat.le_of_ble_eq_true rfl) ((x_X5_shape hk0 hk2 ep5).mono (by omega)) ?_
      refine e_aload_n dX5_begin_81 rfl ?_
      refine e_aload_n dX5_begin_82 rfl ?_
      refine e_iconst (x := (0 : Int32)) dX5_begin_83 (by decide) ?_
      refine e_aload_n dX5_begin_84 rfl ?_
      refine e_get (w := .ref (k2 + 1)) (j := 0) dX5_begin_85 (kBody_0 hk2) rc0 (by decide) wfX5_100 (gBody_0 hk2) ?_
      refine e_iconst (x := (3 : Int32)) dX5_begin_88 (by decide) ?_
      refine e_ialdJ dX5_begin_89 (kBody_1 hk2) (j := 3) (by decide) (by decide) (by decide) ?_
      obtain ⟨p6, ep6, h⟩ := Option.bind_eq_some_iff.mp h
      refine c_VV (M' := mX5_layOut) [.ref k2, .int (0 : Int32), .int (p5.1 (k2 + 1) 3)] dX5_begin_90 rfl wmX5_107 imX5_layOut seX5_layOut lkX5_layOut (kStrip_0 hk0) rc5 (Nat.le_of_ble_eq_true rfl) ((x_X5_layOut hk0 hk2 ep6).mono (by omega)) ?_
      refine e_aload_n dX5_begin_93 rfl ?_
      refine e_aload_n dX5_begin_94 rfl ?_
      refine e_iconst (x := (1 : Int32)) dX5_begin_95 (by decide) ?_
      refine e_aload_n dX5_begin_96 rfl ?_
      refine e_get (w := .ref (k2 + 1)) (j := 0) dX5_begin_97 (kBody_0 hk2) rc0 (by decide) wfX5_100 (gBody_0 hk2) ?_
      refine e_iconst (x := (4 : Int32)) dX5_begin_100 (by decide) ?_
      refine e_ialdJ dX5_begin_101 (kBody_1 hk2) (j := 4) (by decide) (by decide) (by decide) ?_
      obtain ⟨p7, ep7, h⟩ := Option.bind_eq_some_iff.mp h
      refine c_VV (M' := mX5_layOut) [.ref k2, .int (1 : Int32), .int (p6.1 (k2 + 1) 4)] dX5_begin_102 rfl wmX5_107 imX5_layOut seX5_layOut lkX5_layOut (kStrip_0 hk0) rc5 (Nat.le_of_ble_eq_true rfl) ((x_X5_layOut hk0 hk2 ep7).mono (by omega)) ?_
      obtain ⟨x8, ex8, h⟩ := vlet_ex h
      refine e_iinc (lv' := [(1, .int x8), (0, .ref k0), (2, .ref k2), (3, .int a3)]) dX5_begin_105 rfl (ex8.symm) (by decide) rfl ?_
      clear ex8
      refine e_goto (tgt := 2) dX5_begin_108 (by decide) ?_
      refine e_sub [1, 0] rfl ?_
      exact hq2 p7 k0 x8 hk0 h
    · rw [if_neg c11] at h
      refine e_aload_n dX5_begin_30 rfl ?_
      refine e_dup dX5_begin_31 rfl ?_
      refine e_get (w := .int (v.1 k0 11)) (j := 11) dX5_begin_32 (kStrip_0 hk0) rc5 (by decide) wfX5_57 rfl ?_
      refine e_iconst (x := (1 : Int32)) dX5_begin_35 (by decide) ?_
      refine e_iload_n dX5_begin_36 rfl ?_
      refine e_ishl dX5_begin_37 ?_
      refine e_ior dX5_begin_38 ?_
      refine e_putI (j := 11) dX5_begin_39 (kStrip_0 hk0) rc5 (by decide) wfX5_57 rfl rfl ?_
      obtain ⟨v9, ev9, h⟩ := vlet_ex h
      refine e_nameV ev9.symm ?_
      clear ev9
      obtain ⟨x10, ex10, h⟩ := vlet_ex h
      refine e_iinc (lv' := [(3, .int x10), (0, .ref k0), (1, .int a1), (2, .ref k2)]) dX5_begin_42 rfl (ex10.symm) (by decide) rfl ?_
      clear ex10
      refine e_goto (tgt := 22) dX5_begin_45 (by decide) ?_
      refine e_sub [1, 2, 3, 0] rfl ?_
      exact ih v9 k0 a1 k2 x10 hk0 hk2 h
set_option maxRecDepth 20000 in
theorem b_X5_begin_2 {X : Nat × (Nat → Int32)} {r : rV}   : ∀ (n : Nat) (v : rV) (k0 : Nat) (a1 : Int32) (hk0 : isStrip k0 = true), f_X5_begin_2   n v k0 a1 = some r → Ev mX5_begin 3 0 0 2 [(0, .ref k0), (1, .int a1)] [] (rZ X) v (rPV X r) := by
  intro n
  induction n with
  | zero =>
    intros
    rename_i h
    cases h
  | succ n ih =>
    intro v k0 a1 hk0 h
    rw [f_X5_begin_2] at h
    refine e_iload_n dX5_begin_2 rfl ?_
    refine e_aload_n dX5_begin_3 rfl ?_
    refine e_get (w := .int (v.1 k0 10)) (j := 10) dX5_begin_4 (kStrip_0 hk0) rc5 (by decide) wfX5_53 rfl ?_
    refine e_icmp_ge (tgt := 111) dX5_begin_7 (by decide) (fun c12 => ?_) (fun c12 => ?_)
    · rw [if_pos c12] at h
      obtain rfl := Option.some.inj h
      exact e_ret dX5_begin_111 rfl ⟨rfl, rfl, rfl⟩
    · rw [if_neg c12] at h
      refine e_aload_n dX5_begin_10 rfl ?_
      refine e_get (w := .ref (k0 + 13)) (j := 9) dX5_begin_11 (kStrip_0 hk0) rc5 (by decide) wfX5_48 (gStrip_9 hk0) ?_
      refine e_iload_n dX5_begin_14 rfl ?_
      obtain ⟨c1, h⟩ := grd h
      obtain ⟨kd2, ekd2, h⟩ := Option.bind_eq_some_iff.mp h
      obtain ⟨hkd2, h⟩ := grd h
      refine e_aaldJ (w := .ref kd2) dX5_begin_15 (kStrip_13 hk0) rfl rfl c1.2 c1.1 (body_v hk0 ekd2) ?_
      refine e_astore_n (lv' := [(2, .ref kd2), (0, .ref k0), (1, .int a1)]) dX5_begin_16 (by decide) rfl ?_
      refine e_aload_n dX5_begin_17 rfl ?_
      refine e_get (w := .int (v.1 kd2 2)) (j := 2) dX5_begin_18 (kBody_0 hkd2) rc0 (by decide) wfX5_97 rfl ?_
      obtain ⟨x3, ex3, h⟩ := vlet_ex h
      refine e_nameI ex3.symm ?_
      clear ex3
      refine e_istore_n (lv' := [(3, .int x3), (2, .ref kd2), (0, .ref k0), (1, .int a1)]) dX5_begin_21 (by decide) rfl ?_
      refine e_sub [2, 3, 1, 0] rfl ?_
      exact b_X5_begin_22 (fun v k0 a1 hk0 hh => ih v k0 a1 hk0 hh) _ v k0 a1 kd2 x3 hk0 hkd2 h
set_option maxRecDepth 20000 in
theorem x_X5_begin {X : Nat × (Nat → Int32)} {v : rV} {r : rV} {k0 : Nat} (hk0 : isStrip k0 = true) (h : f_X5_begin v k0 = some r) : EvM mX5_begin 3 0 0 [.ref k0] (rZ X) v (rPV X r) := by
  refine evm_of (by decide +kernel) (fun G => Nat.le_of_ble_eq_true rfl) ?_
  show Ev mX5_begin 3 0 0 0 [(0, .ref k0)] [] (rZ X) v _
  unfold f_X5_begin at h
  refine e_iconst (x := (0 : Int32)) dX5_begin_0 (by decide) ?_
  refine e_istore_n (lv' := [(1, .int (0 : Int32)), (0, .ref k0)]) dX5_begin_1 (by decide) rfl ?_
  refine e_sub [1, 0] rfl ?_
  exact b_X5_begin_2  _ v k0 (0 : Int32) hk0 h
def f_X5_carry_60   : Nat → rV → Nat → Int32 → Int32 → Int32 → Int32 → Int32 → Option (rV)
  | 0, _, _, _, _, _, _, _ => none
  | n + 1, v, k0, a1, a2, a3, a4, a7 => if (2 : Int32) ≤ a7 then
  (some v)
else
  (if ¬ a7 < 0 ∧ a7.toNatClampNeg < 2 then
  (if ¬ a1 < 0 ∧ a1.toNatClampNeg < 24 then
  (vlet (v.1 (k0 + 5 + a7.toNatClampNeg) a1.toNatClampNeg : Int32) fun x6 =>
  if (v.1 (k0 + 2) a1.toNatClampNeg) = 0 then none else
  vlet (((if ((x6 * a3) / (v.1 (k0 + 2) a1.toNatClampNeg)) < x6 then ((x6 * a3) / (v.1 (k0 + 2) a1.toNatClampNeg)) else x6) * a4) / (100 : Int32) : Int32) fun x7 =>
  vlet (rI v (k0 + 5 + a7.toNatClampNeg) a1.toNatClampNeg ((v.1 (k0 + 5 + a7.toNatClampNeg) a1.toNatClampNeg) - x7)) fun v8 =>
  if ¬ a2 < 0 ∧ a2.toNatClampNeg < 24 then
  (vlet (rI v8 (k0 + 5 + a7.toNatClampNeg) a2.toNatClampNeg ((v8.1 (k0 + 5 + a7.toNatClampNeg) a2.toNatClampNeg) + x7)) fun v10 =>
  vlet (a7 + (1 : Int32)) fun x11 =>
  f_X5_carry_60  n v10 k0 a1 a2 a3 a4 x11)
else none)
else none)
else none)
def f_X5_carry_39   (v : rV) (k0 : Nat) (a1 : Int32) (a2 : Int32) (a3 : Int32) (a4 : Int32) (s0 : Int32) : Option (rV) := if ¬ a1 < 0 ∧ a1.toNatClampNeg < 24 then
  (if (v.1 (k0 + 2) a1.toNatClampNeg) < (1 : Int32) then
  (some v)
else
  (if s0 = 0 then
  (f_X5_carry_60  20000 v k0 a1 a2 a3 a4 (0 : Int32))
else
  (some v)))
else none
def f_X5_carry_38   (v : rV) (k0 : Nat) (a1 : Int32) (a2 : Int32) (a3 : Int32) (a4 : Int32) : Option (rV) := f_X5_carry_39  v k0 a1 a2 a3 a4 (0 : Int32)
def f_X5_carry (v : rV) (k0 : Nat) (a1 : Int32) (a2 : Int32) (a3 : Int32) (a4 : Int32) : Option (rV) := if ¬ a1 < 0 ∧ a1.toNatClampNeg < 24 then
  (vlet (v.1 (k0 + 5 + 1) a1.toNatClampNeg : Int32) fun x2 =>
  if x2 ≤ 0 then
  (f_X5_carry_38  v k0 a1 a2 a3 a4)
else
  (if ((10 : Int32) * x2) < ((v.1 (k0 + 5 + 0) a1.toNatClampNeg) + x2) then
  (f_X5_carry_38  v k0 a1 a2 a3 a4)
else
  (f_X5_carry_39  v k0 a1 a2 a3 a4 (1 : Int32))))
else none
set_option maxRecDepth 20000 in
theorem b_X5_carry_60 {X : Nat × (Nat → Int32)} {r : rV}   : ∀ (n : Nat) (v : rV) (k0 : Nat) (a1 : Int32) (a2 : Int32) (a3 : Int32) (a4 : Int32) (a7 : Int32) (hk0 : isStrip k0 = true), f_X5_carry_60   n v k0 a1 a2 a3 a4 a7 = some r → Ev mX5_carry 1 0 0 60 [(0, .ref k0), (1, .int a1), (2, .int a2), (3, .int a3), (4, .int a4), (7, .int a7)] [] (rZ X) v (rPV X r) := by
  intro n
  induction n with
  | zero =>
    intros
    rename_i h
    cases h
  | succ n ih =>
    intro v k0 a1 a2 a3 a4 a7 hk0 h
    rw [f_X5_carry_60] at h
    refine e_iload dX5_carry_60 rfl ?_
    refine e_iconst (x := (2 : Int32)) dX5_carry_62 (by decide) ?_
    refine e_icmp_ge (tgt := 135) dX5_carry_63 (by decide) (fun c13 => ?_) (fun c13 => ?_)
    · rw [if_pos c13] at h
      obtain rfl := Option.some.inj h
      exact e_ret dX5_carry_135 rfl ⟨rfl, rfl, rfl⟩
    · rw [if_neg c13] at h
      refine e_aload_n dX5_carry_66 rfl ?_
      refine e_get (w := .ref (k0 + 4)) (j := 4) dX5_carry_67 (kStrip_0 hk0) rc5 (by decide) wfX5_31 (gStrip_4 hk0) ?_
      refine e_iload dX5_carry_70 rfl ?_
      obtain ⟨c4, h⟩ := grd h
      refine e_aaldJ dX5_carry_72 (kStrip_4 hk0) rfl rfl c4.2 c4.1 (rStrip_4 hk0 (c4).2) ?_
      refine e_iload_n dX5_carry_73 rfl ?_
      obtain ⟨c5, h⟩ := grd h
      refine e_ialdJ dX5_carry_74 (qStrip_4 hk0 (c4).2) rfl c5.2 c5.1 ?_
      obtain ⟨x6, ex6, h⟩ := vlet_ex h
      refine e_nameI ex6.symm ?_
      clear ex6
      refine e_istore (lv' := [(8, .int x6), (0, .ref k0), (1, .int a1), (2, .int a2), (3, .int a3), (4, .int a4), (7, .int a7)]) dX5_carry_75 (by decide) rfl ?_
      refine e_iload dX5_carry_77 rfl ?_
      refine e_iload dX5_carry_79 rfl ?_
      refine e_iload_n dX5_carry_81 rfl ?_
      refine e_imul dX5_carry_82 ?_
      refine e_aload_n dX5_carry_83 rfl ?_
      refine e_get (w := .ref (k0 + 2)) (j := 1) dX5_carry_84 (kStrip_0 hk0) rc5 (by decide) wfX5_15 (gStrip_1 hk0) ?_
      refine e_iload_n dX5_carry_87 rfl ?_
      refine e_ialdJ dX5_carry_88 (kStrip_2 hk0) rfl (c5).2 (c5).1 ?_
      obtain ⟨c12, h⟩ := grdn h
      refine e_idiv dX5_carry_89 c12 ?_
      refine e_min dX5_carry_90 wmX5_150 wmst_min winimath wmcd_min (by omega) (Nat.le_of_ble_eq_true rfl) ?_
      refine e_iload dX5_carry_93 rfl ?_
      refine e_imul dX5_carry_95 ?_
      refine e_bipush (x := (100 : Int32)) dX5_carry_96 (by decide) ?_
      refine e_idiv dX5_carry_98 (by decide) ?_
      obtain ⟨x7, ex7, h⟩ := vlet_ex h
      refine e_nameI ex7.symm ?_
      clear ex7
      refine e_istore (lv' := [(9, .int x7), (8, .int x6), (0, .ref k0), (1, .int a1), (2, .int a2), (3, .int a3), (4, .int a4), (7, .int a7)]) dX5_carry_99 (by decide) rfl ?_
      refine e_aload_n dX5_carry_101 rfl ?_
      refine e_get (w := .ref (k0 + 4)) (j := 4) dX5_carry_102 (kStrip_0 hk0) rc5 (by decide) wfX5_31 (gStrip_4 hk0) ?_
      refine e_iload dX5_carry_105 rfl ?_
      refine e_aaldJ dX5_carry_107 (kStrip_4 hk0) rfl rfl (c4).2 (c4).1 (rStrip_4 hk0 (c4).2) ?_
      refine e_iload_n dX5_carry_108 rfl ?_
      refine e_dup2 dX5_carry_109 rfl rfl ?_
      refine e_ialdJ dX5_carry_110 (qStrip_4 hk0 (c4).2) rfl (c5).2 (c5).1 ?_
      refine e_iload dX5_carry_111 rfl ?_
      refine e_isub dX5_carry_113 ?_
      refine e_iastJ dX5_carry_114 (qStrip_4 hk0 (c4).2) rfl (c5).2 (c5).1 ?_
      obtain ⟨v8, ev8, h⟩ := vlet_ex h
      refine e_nameV ev8.symm ?_
      clear ev8
      refine e_aload_n dX5_carry_115 rfl ?_
      refine e_get (w := .ref (k0 + 4)) (j := 4) dX5_carry_116 (kStrip_0 hk0) rc5 (by decide) wfX5_31 (gStrip_4 hk0) ?_
      refine e_iload dX5_carry_119 rfl ?_
      refine e_aaldJ dX5_carry_121 (kStrip_4 hk0) rfl rfl (c4).2 (c4).1 (rStrip_4 hk0 (c4).2) ?_
      refine e_iload_n dX5_carry_122 rfl ?_
      refine e_dup2 dX5_carry_123 rfl rfl ?_
      obtain ⟨c9, h⟩ := grd h
      refine e_ialdJ dX5_carry_124 (qStrip_4 hk0 (c4).2) rfl c9.2 c9.1 ?_
      refine e_iload dX5_carry_125 rfl ?_
      refine e_iadd dX5_carry_127 ?_
      refine e_iastJ dX5_carry_128 (qStrip_4 hk0 (c4).2) rfl (c9).2 (c9).1 ?_
      obtain ⟨v10, ev10, h⟩ := vlet_ex h
      refine e_nameV ev10.symm ?_
      clear ev10
      obtain ⟨x11, ex11, h⟩ := vlet_ex h
      refine e_iinc (lv' := [(7, .int x11), (9, .int x7), (8, .int x6), (0, .ref k0), (1, .int a1), (2, .int a2), (3, .int a3), (4, .int a4)]) dX5_carry_129 rfl (ex11.symm) (by decide) rfl ?_
      clear ex11
      refine e_goto (tgt := 60) dX5_carry_132 (by decide) ?_
      refine e_sub [3, 4, 5, 6, 7, 0] rfl ?_
      exact ih v10 k0 a1 a2 a3 a4 x11 hk0 h
set_option maxRecDepth 20000 in
theorem b_X5_carry_39 {X : Nat × (Nat → Int32)} {r : rV} {v : rV}   {k0 : Nat} {a1 : Int32} {a2 : Int32} {a3 : Int32} {a4 : Int32} {s0 : Int32} (hk0 : isStrip k0 = true) (h : f_X5_carry_39  v k0 a1 a2 a3 a4 s0 = some r) : Ev mX5_carry 1 0 0 39 [(0, .ref k0), (1, .int a1), (2, .int a2), (3, .int a3), (4, .int a4)] [.int s0] (rZ X) v (rPV X r) := by
  unfold f_X5_carry_39 at h
  refine e_istore (lv' := [(6, .int s0), (0, .ref k0), (1, .int a1), (2, .int a2), (3, .int a3), (4, .int a4)]) dX5_carry_39 (by decide) rfl ?_
  refine e_aload_n dX5_carry_41 rfl ?_
  refine e_get (w := .ref (k0 + 2)) (j := 1) dX5_carry_42 (kStrip_0 hk0) rc5 (by decide) wfX5_15 (gStrip_1 hk0) ?_
  refine e_iload_n dX5_carry_45 rfl ?_
  obtain ⟨c3, h⟩ := grd h
  refine e_ialdJ dX5_carry_46 (kStrip_2 hk0) rfl c3.2 c3.1 ?_
  refine e_iconst (x := (1 : Int32)) dX5_carry_47 (by decide) ?_
  refine e_icmp_lt (tgt := 56) dX5_carry_48 (by decide) (fun c15 => ?_) (fun c15 => ?_)
  · rw [if_pos c15] at h
    obtain rfl := Option.some.inj h
    exact e_ret dX5_carry_56 rfl ⟨rfl, rfl, rfl⟩
  · rw [if_neg c15] at h
    refine e_iload dX5_carry_51 rfl ?_
    refine e_if_eq (tgt := 57) dX5_carry_53 (by decide) (fun c14 => ?_) (fun c14 => ?_)
    · rw [if_pos c14] at h
      refine e_iconst (x := (0 : Int32)) dX5_carry_57 (by decide) ?_
      refine e_istore (lv' := [(7, .int (0 : Int32)), (6, .int s0), (0, .ref k0), (1, .int a1), (2, .int a2), (3, .int a3), (4, .int a4)]) dX5_carry_58 (by decide) rfl ?_
      refine e_sub [2, 3, 4, 5, 6, 0] rfl ?_
      exact b_X5_carry_60  _ v k0 a1 a2 a3 a4 (0 : Int32) hk0 h
    · rw [if_neg c14] at h
      obtain rfl := Option.some.inj h
      exact e_ret dX5_carry_56 rfl ⟨rfl, rfl, rfl⟩
set_option maxRecDepth 20000 in
theorem b_X5_carry_38 {X : Nat × (Nat → Int32)} {r : rV} {v : rV}   {k0 : Nat} {a1 : Int32} {a2 : Int32} {a3 : Int32} {a4 : Int32} (hk0 : isStrip k0 = true) (h : f_X5_carry_38  v k0 a1 a2 a3 a4 = some r) : Ev mX5_carry 1 0 0 38 [(0, .ref k0), (1, .int a1), (2, .int a2), (3, .int a3), (4, .int a4)] [] (rZ X) v (rPV X r) := by
  unfold f_X5_carry_38 at h
  refine e_iconst (x := (0 : Int32)) dX5_carry_38 (by decide) ?_
  exact b_X5_carry_39 hk0 h
set_option maxRecDepth 20000 in
theorem x_X5_carry {X : Nat × (Nat → Int32)} {v : rV} {r : rV} {k0 : Nat} {a1 : Int32} {a2 : Int32} {a3 : Int32} {a4 : Int32} (hk0 : isStrip k0 = true) (h : f_X5_carry v k0 a1 a2 a3 a4 = some r) : EvM mX5_carry 1 0 0 [.ref k0, .int a1, .int a2, .int a3, .int a4] (rZ X) v (rPV X r) := by
  refine evm_of (by decide +kernel) (fun G => Nat.le_of_ble_eq_true rfl) ?_
  show Ev mX5_carry 1 0 0 0 [(0, .ref k0), (1, .int a1), (2, .int a2), (3, .int a3), (4, .int a4)] [] (rZ X) v _
  unfold f_X5_carry at h
  refine e_aload_n dX5_carry_0 rfl ?_
  refine e_get (w := .ref (k0 + 4)) (j := 4) dX5_carry_1 (kStrip_0 hk0) rc5 (by decide) wfX5_31 (gStrip_4 hk0) ?_
  refine e_iconst (x := (1 : Int32)) dX5_carry_4 (by decide) ?_
  refine e_aaldJ dX5_carry_5 (kStrip_4 hk0) rfl (j := 1) (by decide) (by decide) (by decide) (rStrip_4 hk0 (by decide)) ?_
  refine e_iload_n dX5_carry_6 rfl ?_
  obtain ⟨c1, h⟩ := grd h
  refine e_ialdJ dX5_carry_7 (qStrip_4 hk0 (by decide)) rfl c1.2 c1.1 ?_
  obtain ⟨x2, ex2, h⟩ := vlet_ex h
  refine e_nameI ex2.symm ?_
  clear ex2
  refine e_istore (lv' := [(5, .int x2), (0, .ref k0), (1, .int a1), (2, .int a2), (3, .int a3), (4, .int a4)]) dX5_carry_8 (by decide) rfl ?_
  refine e_iload dX5_carry_10 rfl ?_
  refine e_if_le (tgt := 38) dX5_carry_12 (by decide) (fun c17 => ?_) (fun c17 => ?_)
  · rw [if_pos c17] at h
    refine e_sub [1, 2, 3, 4, 5] rfl ?_
    exact b_X5_carry_38 hk0 h
  · rw [if_neg c17] at h
    refine e_bipush (x := (10 : Int32)) dX5_carry_15 (by decide) ?_
    refine e_iload dX5_carry_17 rfl ?_
    refine e_imul dX5_carry_19 ?_
    refine e_aload_n dX5_carry_20 rfl ?_
    refine e_get (w := .ref (k0 + 4)) (j := 4) dX5_carry_21 (kStrip_0 hk0) rc5 (by decide) wfX5_31 (gStrip_4 hk0) ?_
    refine e_iconst (x := (0 : Int32)) dX5_carry_24 (by decide) ?_
    refine e_aaldJ dX5_carry_25 (kStrip_4 hk0) rfl (j := 0) (by decide) (by decide) (by decide) (rStrip_4 hk0 (by decide)) ?_
    refine e_iload_n dX5_carry_26 rfl ?_
    refine e_ialdJ dX5_carry_27 (qStrip_4 hk0 (by decide)) rfl (c1).2 (c1).1 ?_
    refine e_iload dX5_carry_28 rfl ?_
    refine e_iadd dX5_carry_30 ?_
    refine e_icmp_lt (tgt := 38) dX5_carry_31 (by decide) (fun c16 => ?_) (fun c16 => ?_)
    · rw [if_pos c16] at h
      refine e_sub [1, 2, 3, 4, 5] rfl ?_
      exact b_X5_carry_38 hk0 h
    · rw [if_neg c16] at h
      refine e_iconst (x := (1 : Int32)) dX5_carry_34 (by decide) ?_
      refine e_goto (tgt := 39) dX5_carry_35 (by decide) ?_
      refine e_sub [1, 2, 3, 4, 5] rfl ?_
      exact b_X5_carry_39 hk0 h
def f_X5_carryAll_76  (q16 : rV → Nat → Nat → Int32 → Int32 → Option (rV)) (v : rV) (k0 : Nat) (k1 : Nat) (a2 : Int32) (a3 : Int32) : Option (rV) := vlet (a3 + (1 : Int32)) fun x4 =>
  q16 v k0 k1 a2 x4
def f_X5_carryAll_16   : Nat → rV → Nat → Nat → Int32 → Int32 → Option (rV)
  | 0, _, _, _, _, _ => none
  | n + 1, v, k0, k1, a2, a3 => if (v.1 k1 3) ≤ a3 then
  (some v)
else
  (if ¬ a3 < 0 ∧ a3.toNatClampNeg < 24 then
  (if (v.1 (k0 + 11) a3.toNatClampNeg) ≤ 0 then
  (if 0 ≤ (v.1 (k0 + 11) a3.toNatClampNeg) then
  (f_X5_carryAll_76 (fun v k0 k1 a2 a3 => f_X5_carryAll_16  n v k0 k1 a2 a3) v k0 k1 a2 a3)
else
  ((f_X5_carry v k0 (a3 + (1 : Int32)) a3 (-(v.1 (k0 + 11) a3.toNatClampNeg)) a2).bind fun p5 =>
  f_X5_carryAll_76 (fun v k0 k1 a2 a3 => f_X5_carryAll_16  n v k0 k1 a2 a3) p5 k0 k1 a2 a3))
else
  ((f_X5_carry v k0 a3 (a3 + (1 : Int32)) (v.1 (k0 + 11) a3.toNatClampNeg) a2).bind fun p7 =>
  f_X5_carryAll_76 (fun v k0 k1 a2 a3 => f_X5_carryAll_16  n v k0 k1 a2 a3) p7 k0 k1 a2 a3))
else none)
def f_X5_carryAll (v : rV) (k0 : Nat) (k1 : Nat) : Option (rV) := vlet ((100 : Int32) - (v.1 (k1 + 1) 7) : Int32) fun x1 =>
  vlet (v.1 k1 2 : Int32) fun x2 =>
  f_X5_carryAll_16  20000 v k0 k1 x1 x2
set_option maxRecDepth 20000 in
theorem b_X5_carryAll_76 {X : Nat × (Nat → Int32)} {r : rV} {v : rV} {q16 : rV → Nat → Nat → Int32 → Int32 → Option (rV)} (hq16 : ∀ (v : rV) (k0 : Nat) (k1 : Nat) (a2 : Int32) (a3 : Int32) (hk0 : isStrip k0 = true) (hk1 : isBody k1 = true), q16 v k0 k1 a2 a3 = some r → Ev mX5_carryAll 2 0 0 16 [(0, .ref k0), (1, .ref k1), (2, .int a2), (3, .int a3)] [] (rZ X) v (rPV X r)) {k0 : Nat} {k1 : Nat} {a2 : Int32} {a3 : Int32} (hk0 : isStrip k0 = true) (hk1 : isBody k1 = true) (h : f_X5_carryAll_76 q16 v k0 k1 a2 a3 = some r) : Ev mX5_carryAll 2 0 0 76 [(0, .ref k0), (1, .ref k1), (2, .int a2), (3, .int a3)] [] (rZ X) v (rPV X r) := by
  unfold f_X5_carryAll_76 at h
  obtain ⟨x4, ex4, h⟩ := vlet_ex h
  refine e_iinc (lv' := [(3, .int x4), (0, .ref k0), (1, .ref k1), (2, .int a2)]) dX5_carryAll_76 rfl (ex4.symm) (by decide) rfl ?_
  clear ex4
  refine e_goto (tgt := 16) dX5_carryAll_79 (by decide) ?_
  refine e_sub [1, 2, 3, 0] rfl ?_
  exact hq16 v k0 k1 a2 x4 hk0 hk1 h
set_option maxRecDepth 20000 in
theorem b_X5_carryAll_16 {X : Nat × (Nat → Int32)} {r : rV}   : ∀ (n : Nat) (v : rV) (k0 : Nat) (k1 : Nat) (a2 : Int32) (a3 : Int32) (hk0 : isStrip k0 = true) (hk1 : isBody k1 = true), f_X5_carryAll_16   n v k0 k1 a2 a3 = some r → Ev mX5_carryAll 2 0 0 16 [(0, .ref k0), (1, .ref k1), (2, .int a2), (3, .int a3)] [] (rZ X) v (rPV X r) := by
  intro n
  induction n with
  | zero =>
    intros
    rename_i h
    cases h
  | succ n ih =>
    intro v k0 k1 a2 a3 hk0 hk1 h
    rw [f_X5_carryAll_16] at h
    refine e_iload_n dX5_carryAll_16 rfl ?_
    refine e_aload_n dX5_carryAll_17 rfl ?_
    refine e_get (w := .int (v.1 k1 3)) (j := 3) dX5_carryAll_18 (kBody_0 hk1) rc0 (by decide) wfX5_86 rfl ?_
    refine e_icmp_ge (tgt := 82) dX5_carryAll_21 (by decide) (fun c9 => ?_) (fun c9 => ?_)
    · rw [if_pos c9] at h
      obtain rfl := Option.some.inj h
      exact e_ret dX5_carryAll_82 rfl ⟨rfl, rfl, rfl⟩
    · rw [if_neg c9] at h
      refine e_aload_n dX5_carryAll_24 rfl ?_
      refine e_get (w := .ref (k0 + 11)) (j := 7) dX5_carryAll_25 (kStrip_0 hk0) rc5 (by decide) wfX5_40 (gStrip_7 hk0) ?_
      refine e_iload_n dX5_carryAll_28 rfl ?_
      obtain ⟨c3, h⟩ := grd h
      refine e_ialdJ dX5_carryAll_29 (kStrip_11 hk0) rfl c3.2 c3.1 ?_
      refine e_if_le (tgt := 51) dX5_carryAll_30 (by decide) (fun c8 => ?_) (fun c8 => ?_)
      · rw [if_pos c8] at h
        refine e_aload_n dX5_carryAll_51 rfl ?_
        refine e_get (w := .ref (k0 + 11)) (j := 7) dX5_carryAll_52 (kStrip_0 hk0) rc5 (by decide) wfX5_40 (gStrip_7 hk0) ?_
        refine e_iload_n dX5_carryAll_55 rfl ?_
        refine e_ialdJ dX5_carryAll_56 (kStrip_11 hk0) rfl (c3).2 (c3).1 ?_
        refine e_if_ge (tgt := 76) dX5_carryAll_57 (by decide) (fun c6 => ?_) (fun c6 => ?_)
        · rw [if_pos c6] at h
          exact b_X5_carryAll_76 (fun v k0 k1 a2 a3 hk0 hk1 hh => ih v k0 k1 a2 a3 hk0 hk1 hh) hk0 hk1 h
        · rw [if_neg c6] at h
          refine e_aload_n dX5_carryAll_60 rfl ?_
          refine e_iload_n dX5_carryAll_61 rfl ?_
          refine e_iconst (x := (1 : Int32)) dX5_carryAll_62 (by decide) ?_
          refine e_iadd dX5_carryAll_63 ?_
          refine e_iload_n dX5_carryAll_64 rfl ?_
          refine e_aload_n dX5_carryAll_65 rfl ?_
          refine e_get (w := .ref (k0 + 11)) (j := 7) dX5_carryAll_66 (kStrip_0 hk0) rc5 (by decide) wfX5_40 (gStrip_7 hk0) ?_
          refine e_iload_n dX5_carryAll_69 rfl ?_
          refine e_ialdJ dX5_carryAll_70 (kStrip_11 hk0) rfl (c3).2 (c3).1 ?_
          refine e_ineg dX5_carryAll_71 ?_
          refine e_iload_n dX5_carryAll_72 rfl ?_
          obtain ⟨p5, ep5, h⟩ := Option.bind_eq_some_iff.mp h
          refine c_VV (M' := mX5_carry) [.int (a3 + (1 : Int32)), .int a3, .int (-(v.1 (k0 + 11) a3.toNatClampNeg)), .int a2] dX5_carryAll_73 rfl wmX5_176 imX5_carry seX5_carry lkX5_carry (kStrip_0 hk0) rc5 (Nat.le_of_ble_eq_true rfl) ((x_X5_carry hk0 ep5).mono (by omega)) ?_
          exact b_X5_carryAll_76 (fun v k0 k1 a2 a3 hk0 hk1 hh => ih v k0 k1 a2 a3 hk0 hk1 hh) hk0 hk1 h
      · rw [if_neg c8] at h
        refine e_aload_n dX5_carryAll_33 rfl ?_
        refine e_iload_n dX5_carryAll_34 rfl ?_
        refine e_iload_n dX5_carryAll_35 rfl ?_
        refine e_iconst (x := (1 : Int32)) dX5_carryAll_36 (by decide) ?_
        refine e_iadd dX5_carryAll_37 ?_
        refine e_aload_n dX5_carryAll_38 rfl ?_
        refine e_get (w := .ref (k0 + 11)) (j := 7) dX5_carryAll_39 (kStrip_0 hk0) rc5 (by decide) wfX5_40 (gStrip_7 hk0) ?_
        refine e_iload_n dX5_carryAll_42 rfl ?_
        refine e_ialdJ dX5_carryAll_43 (kStrip_11 hk0) rfl (c3).2 (c3).1 ?_
        refine e_iload_n dX5_carryAll_44 rfl ?_
        obtain ⟨p7, ep7, h⟩ := Option.bind_eq_some_iff.mp h
        refine c_VV (M' := mX5_carry) [.int a3, .int (a3 + (1 : Int32)), .int (v.1 (k0 + 11) a3.toNatClampNeg), .int a2] dX5_carryAll_45 rfl wmX5_176 imX5_carry seX5_carry lkX5_carry (kStrip_0 hk0) rc5 (Nat.le_of_ble_eq_true rfl) ((x_X5_carry hk0 ep7).mono (by omega)) ?_
        refine e_goto (tgt := 76) dX5_carryAll_48 (by decide) ?_
        exact b_X5_carryAll_76 (fun v k0 k1 a2 a3 hk0 hk1 hh => ih v k0 k1 a2 a3 hk0 hk1 hh) hk0 hk1 h
set_option maxRecDepth 20000 in
theorem x_X5_carryAll {X : Nat × (Nat → Int32)} {v : rV} {r : rV} {k0 : Nat} {k1 : Nat} (hk0 : isStrip k0 = true) (hk1 : isBody k1 = true) (h : f_X5_carryAll v k0 k1 = some r) : EvM mX5_carryAll 2 0 0 [.ref k0, .ref k1] (rZ X) v (rPV X r) := by
  refine evm_of (by decide +kernel) (fun G => Nat.le_of_ble_eq_true rfl) ?_
  show Ev mX5_carryAll 2 0 0 0 [(0, .ref k0), (1, .ref k1)] [] (rZ X) v _
  unfold f_X5_carryAll at h
  refine e_bipush (x := (100 : Int32)) dX5_carryAll_0 (by decide) ?_
  refine e_aload_n dX5_carryAll_2 rfl ?_
  refine e_get (w := .ref (k1 + 1)) (j := 0) dX5_carryAll_3 (kBody_0 hk1) rc0 (by decide) wfX5_100 (gBody_0 hk1) ?_
  refine e_bipush (x := (7 : Int32)) dX5_carryAll_6 (by decide) ?_
  refine e_ialdJ dX5_carryAll_8 (kBody_1 hk1) (j := 7) (by decide) (by decide) (by decide) ?_
  refine e_isub dX5_carryAll_9 ?_
  obtain ⟨x1, ex1, h⟩ := vlet_ex h
  refine e_nameI ex1.symm ?_
  clear ex1
  refine e_istore_n (lv' := [(2, .int x1), (0, .ref k0), (1, .ref k1)]) dX5_carryAll_10 (by decide) rfl ?_
  refine e_aload_n dX5_carryAll_11 rfl ?_
  refine e_get (w := .int (v.1 k1 2)) (j := 2) dX5_carryAll_12 (kBody_0 hk1) rc0 (by decide) wfX5_97 rfl ?_
  obtain ⟨x2, ex2, h⟩ := vlet_ex h
  refine e_nameI ex2.symm ?_
  clear ex2
  refine e_istore_n (lv' := [(3, .int x2), (2, .int x1), (0, .ref k0), (1, .ref k1)]) dX5_carryAll_15 (by decide) rfl ?_
  refine e_sub [2, 3, 1, 0] rfl ?_
  exact b_X5_carryAll_16  _ v k0 k1 x1 x2 hk0 hk1 h
def f_X5_lyingAt (v : rV) (k0 : Nat) (a1 : Int32) : Option (Int32) := if a1 < 0 then
  (some (0 : Int32))
else
  (if (24 : Int32) ≤ a1 then
  (some (0 : Int32))
else
  (if ¬ a1 < 0 ∧ a1.toNatClampNeg < 24 then
  (some ((v.1 (k0 + 8 + 0) a1.toNatClampNeg) + (v.1 (k0 + 8 + 1) a1.toNatClampNeg)))
else none))
set_option maxRecDepth 20000 in
theorem x_X5_lyingAt {X : Nat × (Nat → Int32)} {v : rV} {r : Int32} {k0 : Nat} {a1 : Int32} (hk0 : isStrip k0 = true) (h : f_X5_lyingAt v k0 a1 = some r) : EvM mX5_lyingAt 1 0 0 [.ref k0, .int a1] (rZ X) v (rPI X (r, v)) := by
  refine evm_of (by decide +kernel) (fun G => Nat.le_of_ble_eq_true rfl) ?_
  show Ev mX5_lyingAt 1 0 0 0 [(0, .ref k0), (1, .int a1)] [] (rZ X) v _
  unfold f_X5_lyingAt at h
  refine e_iload_n dX5_lyingAt_0 rfl ?_
  refine e_if_lt (tgt := 30) dX5_lyingAt_1 (by decide) (fun c3 => ?_) (fun c3 => ?_)
  · rw [if_pos c3] at h
    refine e_iconst (x := (0 : Int32)) dX5_lyingAt_30 (by decide) ?_
    obtain rfl := Option.some.inj h
    exact e_iret dX5_lyingAt_31 rfl rfl ⟨rfl, rfl, rfl⟩
  · rw [if_neg c3] at h
    refine e_iload_n dX5_lyingAt_4 rfl ?_
    refine e_bipush (x := (24 : Int32)) dX5_lyingAt_5 (by decide) ?_
    refine e_icmp_ge (tgt := 30) dX5_lyingAt_7 (by decide) (fun c2 => ?_) (fun c2 => ?_)
    · rw [if_pos c2] at h
      refine e_iconst (x := (0 : Int32)) dX5_lyingAt_30 (by decide) ?_
      obtain rfl := Option.some.inj h
      exact e_iret dX5_lyingAt_31 rfl rfl ⟨rfl, rfl, rfl⟩
    · rw [if_neg c2] at h
      refine e_aload_n dX5_lyingAt_10 rfl ?_
      refine e_get (w := .ref (k0 + 7)) (j := 5) dX5_lyingAt_11 (kStrip_0 hk0) rc5 (by decide) wfX5_34 (gStrip_5 hk0) ?_
      refine e_iconst (x := (0 : Int32)) dX5_lyingAt_14 (by decide) ?_
      refine e_aaldJ dX5_lyingAt_15 (kStrip_7 hk0) rfl (j := 0) (by decide) (by decide) (by decide) (rStrip_7 hk0 (by decide)) ?_
      refine e_iload_n dX5_lyingAt_16 rfl ?_
      obtain ⟨c1, h⟩ := grd h
      refine e_ialdJ dX5_lyingAt_17 (qStrip_7 hk0 (by decide)) rfl c1.2 c1.1 ?_
      refine e_aload_n dX5_lyingAt_18 rfl ?_
      refine e_get (w := .ref (k0 + 7)) (j := 5) dX5_lyingAt_19 (kStrip_0 hk0) rc5 (by decide) wfX5_34 (gStrip_5 hk0) ?_
      refine e_iconst (x := (1 : Int32)) dX5_lyingAt_22 (by decide) ?_
      refine e_aaldJ dX5_lyingAt_23 (kStrip_7 hk0) rfl (j := 1) (by decide) (by decide) (by decide) (rStrip_7 hk0 (by decide)) ?_
      refine e_iload_n dX5_lyingAt_24 rfl ?_
      refine e_ialdJ dX5_lyingAt_25 (qStrip_7 hk0 (by decide)) rfl (c1).2 (c1).1 ?_
      refine e_iadd dX5_lyingAt_26 ?_
      refine e_goto (tgt := 31) dX5_lyingAt_27 (by decide) ?_
      obtain rfl := Option.some.inj h
      exact e_iret dX5_lyingAt_31 rfl rfl ⟨rfl, rfl, rfl⟩
def f_X5_lyingAll_4 (v : rV)  : Nat → Nat → Int32 → Int32 → Option (Int32)
  | 0, _, _, _ => none
  | n + 1, k0, a1, a2 => if (24 : Int32) ≤ a2 then
  (some a1)
else
  ((f_X5_lyingAt v k0 a2).bind fun p1 =>
  vlet (a1 + p1 : Int32) fun x2 =>
  vlet (a2 + (1 : Int32)) fun x3 =>
  f_X5_lyingAll_4 v n k0 x2 x3)
def f_X5_lyingAll (v : rV) (k0 : Nat) : Option (Int32) := f_X5_lyingAll_4 v 20000 k0 (0 : Int32) (0 : Int32)
set_option maxRecDepth 20000 in
theorem b_X5_lyingAll_4 {X : Nat × (Nat → Int32)} {r : Int32} {v : rV}   : ∀ (n : Nat) (k0 : Nat) (a1 : Int32) (a2 : Int32) (hk0 : isStrip k0 = true), f_X5_lyingAll_4 v  n k0 a1 a2 = some r → Ev mX5_lyingAll 2 0 0 4 [(0, .ref k0), (1, .int a1), (2, .int a2)] [] (rZ X) v (rPI X (r, v)) := by
  intro n
  induction n with
  | zero =>
    intros
    rename_i h
    cases h
  | succ n ih =>
    intro k0 a1 a2 hk0 h
    rw [f_X5_lyingAll_4] at h
    refine e_iload_n dX5_lyingAll_4 rfl ?_
    refine e_bipush (x := (24 : Int32)) dX5_lyingAll_5 (by decide) ?_
    refine e_icmp_ge (tgt := 24) dX5_lyingAll_7 (by decide) (fun c4 => ?_) (fun c4 => ?_)
    · rw [if_pos c4] at h
      refine e_iload_n dX5_lyingAll_24 rfl ?_
      obtain rfl := Option.some.inj h
      exact e_iret dX5_lyingAll_25 rfl rfl ⟨rfl, rfl, rfl⟩
    · rw [if_neg c4] at h
      refine e_iload_n dX5_lyingAll_10 rfl ?_
      refine e_aload_n dX5_lyingAll_11 rfl ?_
      refine e_iload_n dX5_lyingAll_12 rfl ?_
      obtain ⟨p1, ep1, h⟩ := Option.bind_eq_some_iff.mp h
      refine c_VI (M' := mX5_lyingAt) [.int a2] dX5_lyingAll_13 rfl wmX5_208 imX5_lyingAt seX5_lyingAt lkX5_lyingAt (kStrip_0 hk0) rc5 (Nat.le_of_ble_eq_true rfl) ((x_X5_lyingAt hk0 ep1).mono (by omega)) ?_
      refine e_iadd dX5_lyingAll_16 ?_
      obtain ⟨x2, ex2, h⟩ := vlet_ex h
      refine e_nameI ex2.symm ?_
      clear ex2
      refine e_istore_n (lv' := [(1, .int x2), (0, .ref k0), (2, .int a2)]) dX5_lyingAll_17 (by decide) rfl ?_
      obtain ⟨x3, ex3, h⟩ := vlet_ex h
      refine e_iinc (lv' := [(2, .int x3), (1, .int x2), (0, .ref k0)]) dX5_lyingAll_18 rfl (ex3.symm) (by decide) rfl ?_
      clear ex3
      refine e_goto (tgt := 4) dX5_lyingAll_21 (by decide) ?_
      refine e_sub [2, 1, 0] rfl ?_
      exact ih k0 x2 x3 hk0 h
set_option maxRecDepth 20000 in
theorem x_X5_lyingAll {X : Nat × (Nat → Int32)} {v : rV} {r : Int32} {k0 : Nat} (hk0 : isStrip k0 = true) (h : f_X5_lyingAll v k0 = some r) : EvM mX5_lyingAll 2 0 0 [.ref k0] (rZ X) v (rPI X (r, v)) := by
  refine evm_of (by decide +kernel) (fun G => Nat.le_of_ble_eq_true rfl) ?_
  show Ev mX5_lyingAll 2 0 0 0 [(0, .ref k0)] [] (rZ X) v _
  unfold f_X5_lyingAll at h
  refine e_iconst (x := (0 : Int32)) dX5_lyingAll_0 (by decide) ?_
  refine e_istore_n (lv' := [(1, .int (0 : Int32)), (0, .ref k0)]) dX5_lyingAll_1 (by decide) rfl ?_
  refine e_iconst (x := (0 : Int32)) dX5_lyingAll_2 (by decide) ?_
  refine e_istore_n (lv' := [(2, .int (0 : Int32)), (1, .int (0 : Int32)), (0, .ref k0)]) dX5_lyingAll_3 (by decide) rfl ?_
  refine e_sub [2, 1, 0] rfl ?_
  exact b_X5_lyingAll_4  _ k0 (0 : Int32) (0 : Int32) hk0 h
def f_X5_center_9 (v : rV)  : Nat → Nat → Int32 → Int32 → Int32 → Option (Int32)
  | 0, _, _, _, _ => none
  | n + 1, k0, a1, a2, a3 => if (24 : Int32) ≤ a3 then
  (if a1 = 0 then
  (some (-1 : Int32))
else
  (if a1 = 0 then none else
  some (a2 / a1)))
else
  ((f_X5_lyingAt v k0 a3).bind fun p4 =>
  vlet (a2 + (((10 : Int32) * a3) * p4) : Int32) fun x5 =>
  vlet (a3 + (1 : Int32)) fun x6 =>
  f_X5_center_9 v n k0 a1 x5 x6)
def f_X5_center (v : rV) (k0 : Nat) : Option (Int32) := (f_X5_lyingAll v k0).bind fun p1 =>
  f_X5_center_9 v 20000 k0 p1 (0 : Int32) (0 : Int32)
set_option maxRecDepth 20000 in
theorem b_X5_center_9 {X : Nat × (Nat → Int32)} {r : Int32} {v : rV}   : ∀ (n : Nat) (k0 : Nat) (a1 : Int32) (a2 : Int32) (a3 : Int32) (hk0 : isStrip k0 = true), f_X5_center_9 v  n k0 a1 a2 a3 = some r → Ev mX5_center 3 0 0 9 [(0, .ref k0), (1, .int a1), (2, .int a2), (3, .int a3)] [] (rZ X) v (rPI X (r, v)) := by
  intro n
  induction n with
  | zero =>
    intros
    rename_i h
    cases h
  | succ n ih =>
    intro k0 a1 a2 a3 hk0 h
    rw [f_X5_center_9] at h
    refine e_iload_n dX5_center_9 rfl ?_
    refine e_bipush (x := (24 : Int32)) dX5_center_10 (by decide) ?_
    refine e_icmp_ge (tgt := 34) dX5_center_12 (by decide) (fun c7 => ?_) (fun c7 => ?_)
    · rw [if_pos c7] at h
      refine e_iload_n dX5_center_34 rfl ?_
      refine e_if_ne (tgt := 42) dX5_center_35 (by decide) (fun c3 => ?_) (fun c3 => ?_)
      · rw [if_neg c3] at h
        refine e_iload_n dX5_center_42 rfl ?_
        refine e_iload_n dX5_center_43 rfl ?_
        obtain ⟨c2, h⟩ := grdn h
        refine e_idiv dX5_center_44 c2 ?_
        obtain rfl := Option.some.inj h
        exact e_iret dX5_center_45 rfl rfl ⟨rfl, rfl, rfl⟩
      · rw [if_pos c3] at h
        refine e_iconst (x := (-1 : Int32)) dX5_center_38 (by decide) ?_
        refine e_goto (tgt := 45) dX5_center_39 (by decide) ?_
        obtain rfl := Option.some.inj h
        exact e_iret dX5_center_45 rfl rfl ⟨rfl, rfl, rfl⟩
    · rw [if_neg c7] at h
      refine e_iload_n dX5_center_15 rfl ?_
      refine e_bipush (x := (10 : Int32)) dX5_center_16 (by decide) ?_
      refine e_iload_n dX5_center_18 rfl ?_
      refine e_imul dX5_center_19 ?_
      refine e_aload_n dX5_center_20 rfl ?_
      refine e_iload_n dX5_center_21 rfl ?_
      obtain ⟨p4, ep4, h⟩ := Option.bind_eq_some_iff.mp h
      refine c_VI (M' := mX5_lyingAt) [.int a3] dX5_center_22 rfl wmX5_208 imX5_lyingAt seX5_lyingAt lkX5_lyingAt (kStrip_0 hk0) rc5 (Nat.le_of_ble_eq_true rfl) ((x_X5_lyingAt hk0 ep4).mono (by omega)) ?_
      refine e_imul dX5_center_25 ?_
      refine e_iadd dX5_center_26 ?_
      obtain ⟨x5, ex5, h⟩ := vlet_ex h
      refine e_nameI ex5.symm ?_
      clear ex5
      refine e_istore_n (lv' := [(2, .int x5), (0, .ref k0), (1, .int a1), (3, .int a3)]) dX5_center_27 (by decide) rfl ?_
      obtain ⟨x6, ex6, h⟩ := vlet_ex h
      refine e_iinc (lv' := [(3, .int x6), (2, .int x5), (0, .ref k0), (1, .int a1)]) dX5_center_28 rfl (ex6.symm) (by decide) rfl ?_
      clear ex6
      refine e_goto (tgt := 9) dX5_center_31 (by decide) ?_
      refine e_sub [2, 3, 1, 0] rfl ?_
      exact ih k0 a1 x5 x6 hk0 h
set_option maxRecDepth 20000 in
theorem x_X5_center {X : Nat × (Nat → Int32)} {v : rV} {r : Int32} {k0 : Nat} (hk0 : isStrip k0 = true) (h : f_X5_center v k0 = some r) : EvM mX5_center 3 0 0 [.ref k0] (rZ X) v (rPI X (r, v)) := by
  refine evm_of (by decide +kernel) (fun G => Nat.le_of_ble_eq_true rfl) ?_
  show Ev mX5_center 3 0 0 0 [(0, .ref k0)] [] (rZ X) v _
  unfold f_X5_center at h
  refine e_aload_n dX5_center_0 rfl ?_
  obtain ⟨p1, ep1, h⟩ := Option.bind_eq_some_iff.mp h
  refine c_VI (M' := mX5_lyingAll) [] dX5_center_1 rfl wmX5_194 imX5_lyingAll seX5_lyingAll lkX5_lyingAll (kStrip_0 hk0) rc5 (Nat.le_of_ble_eq_true rfl) ((x_X5_lyingAll hk0 ep1).mono (by omega)) ?_
  refine e_istore_n (lv' := [(1, .int p1), (0, .ref k0)]) dX5_center_4 (by decide) rfl ?_
  refine e_iconst (x := (0 : Int32)) dX5_center_5 (by decide) ?_
  refine e_istore_n (lv' := [(2, .int (0 : Int32)), (1, .int p1), (0, .ref k0)]) dX5_center_6 (by decide) rfl ?_
  refine e_iconst (x := (0 : Int32)) dX5_center_7 (by decide) ?_
  refine e_istore_n (lv' := [(3, .int (0 : Int32)), (2, .int (0 : Int32)), (1, .int p1), (0, .ref k0)]) dX5_center_8 (by decide) rfl ?_
  refine e_sub [3, 2, 1, 0] rfl ?_
  exact b_X5_center_9  _ k0 p1 (0 : Int32) (0 : Int32) hk0 h
def f_X5_clear_37  (q3 : rV → Nat → Nat → Int64 → Int32 → Option (rV)) : Nat → rV → Nat → Nat → Int64 → Int32 → Int32 → Option (rV)
  | 0, _, _, _, _, _, _ => none
  | n + 1, v, k0, k1, a2, a4, a5 => if (2 : Int32) ≤ a5 then
  (vlet (a4 + (1 : Int32)) fun x15 =>
  q3 v k0 k1 a2 x15)
else
  (if ¬ a5 < 0 ∧ a5.toNatClampNeg < 2 then
  (if ¬ a4 < 0 ∧ a4.toNatClampNeg < 24 then
  (vlet (rI v (k0 + 5 + a5.toNatClampNeg) a4.toNatClampNeg (0 : Int32)) fun v18 =>
  vlet (rI v18 (k0 + 8 + a5.toNatClampNeg) a4.toNatClampNeg (0 : Int32)) fun v19 =>
  vlet (a5 + (1 : Int32)) fun x20 =>
  f_X5_clear_37 q3 n v19 k0 k1 a2 a4 x20)
else none)
else none)
def f_X5_clear_3   : Nat → rV → Nat → Nat → Int64 → Int32 → Option (rV)
  | 0, _, _, _, _, _ => none
  | n + 1, v, k0, k1, a2, a4 => if (24 : Int32) ≤ a4 then
  (vlet (rI v k0 10 (0 : Int32)) fun v1 =>
  vlet (rI v1 k0 11 (0 : Int32)) fun v2 =>
  vlet (rI v2 k0 12 (0 : Int32)) fun v3 =>
  vlet (rR v3 k0 13 (some k1)) fun v4 =>
  vlet (rL v4 k0 14 a2) fun v5 =>
  vlet (rI v5 k0 15 (0 : Int32)) fun v6 =>
  vlet (rI v6 k0 16 (0 : Int32)) fun v7 =>
  vlet (rI v7 k0 17 (0 : Int32)) fun v8 =>
  vlet (rI v8 k0 18 (0 : Int32)) fun v9 =>
  vlet (rI v9 k0 19 (0 : Int32)) fun v10 =>
  some v10)
else
  (if ¬ a4 < 0 ∧ a4.toNatClampNeg < 24 then
  (vlet (rI v (k0 + 1) a4.toNatClampNeg (0 : Int32)) fun v12 =>
  vlet (rI v12 (k0 + 10) a4.toNatClampNeg (0 : Int32)) fun v13 =>
  vlet (rI v13 (k0 + 11) a4.toNatClampNeg (0 : Int32)) fun v14 =>
  f_X5_clear_37 (fun v k0 k1 a2 a4 => f_X5_clear_3  n v k0 k1 a2 a4) 20000 v14 k0 k1 a2 a4 (0 : Int32))
else none)
def f_X5_clear (v : rV) (k0 : Nat) (k1 : Nat) (a2 : Int64) : Option (rV) := f_X5_clear_3  20000 v k0 k1 a2 (0 : Int32)
set_option maxRecDepth 20000 in
theorem b_X5_clear_37 {X : Nat × (Nat → Int32)} {r : rV} {q3 : rV → Nat → Nat → Int64 → Int32 → Option (rV)} (hq3 : ∀ (v : rV) (k0 : Nat) (k1 : Nat) (a2 : Int64) (a4 : Int32) (hk0 : isStrip k0 = true) (hk1 : isForm k1 = true), q3 v k0 k1 a2 a4 = some r → Ev mX5_clear 1 0 0 3 [(0, .ref k0), (1, .ref k1), (2, .long a2), (4, .int a4)] [] (rZ X) v (rPV X r)) : ∀ (n : Nat) (v : rV) (k0 : Nat) (k1 : Nat) (a2 : Int64) (a4 : Int32) (a5 : Int32) (hk0 : isStrip k0 = true) (hk1 : isForm k1 = true), f_X5_clear_37  q3 n v k0 k1 a2 a4 a5 = some r → Ev mX5_clear 1 0 0 37 [(0, .ref k0), (1, .ref k1), (2, .long a2), (4, .int a4), (5, .int a5)] [] (rZ X) v (rPV X r) := by
  intro n
  induction n with
  | zero =>
    intros
    rename_i h
    cases h
  | succ n ih =>
    intro v k0 k1 a2 a4 a5 hk0 hk1 h
    rw [f_X5_clear_37] at h
    refine e_iload dX5_clear_37 rfl ?_
    refine e_iconst (x := (2 : Int32)) dX5_clear_39 (by decide) ?_
    refine e_icmp_ge (tgt := 71) dX5_clear_40 (by decide) (fun c21 => ?_) (fun c21 => ?_)
    · rw [if_pos c21] at h
      obtain ⟨x15, ex15, h⟩ := vlet_ex h
      refine e_iinc (lv' := [(4, .int x15), (0, .ref k0), (1, .ref k1), (2, .long a2), (5, .int a5)]) dX5_clear_71 rfl (ex15.symm) (by decide) rfl ?_
      clear ex15
      refine e_goto (tgt := 3) dX5_clear_74 (by decide) ?_
      refine e_sub [1, 2, 3, 0] rfl ?_
      exact hq3 v k0 k1 a2 x15 hk0 hk1 h
    · rw [if_neg c21] at h
      refine e_aload_n dX5_clear_43 rfl ?_
      refine e_get (w := .ref (k0 + 4)) (j := 4) dX5_clear_44 (kStrip_0 hk0) rc5 (by decide) wfX5_31 (gStrip_4 hk0) ?_
      refine e_iload dX5_clear_47 rfl ?_
      obtain ⟨c16, h⟩ := grd h
      refine e_aaldJ dX5_clear_49 (kStrip_4 hk0) rfl rfl c16.2 c16.1 (rStrip_4 hk0 (c16).2) ?_
      refine e_iload dX5_clear_50 rfl ?_
      refine e_iconst (x := (0 : Int32)) dX5_clear_52 (by decide) ?_
      obtain ⟨c17, h⟩ := grd h
      refine e_iastJ dX5_clear_53 (qStrip_4 hk0 (c16).2) rfl c17.2 c17.1 ?_
      obtain ⟨v18, ev18, h⟩ := vlet_ex h
      refine e_nameV ev18.symm ?_
      clear ev18
      refine e_aload_n dX5_clear_54 rfl ?_
      refine e_get (w := .ref (k0 + 7)) (j := 5) dX5_clear_55 (kStrip_0 hk0) rc5 (by decide) wfX5_34 (gStrip_5 hk0) ?_
      refine e_iload dX5_clear_58 rfl ?_
      refine e_aaldJ dX5_clear_60 (kStrip_7 hk0) rfl rfl (c16).2 (c16).1 (rStrip_7 hk0 (c16).2) ?_
      refine e_iload dX5_clear_61 rfl ?_
      refine e_iconst (x := (0 : Int32)) dX5_clear_63 (by decide) ?_
      refine e_iastJ dX5_clear_64 (qStrip_7 hk0 (c16).2) rfl (c17).2 (c17).1 ?_
      obtain ⟨v19, ev19, h⟩ := vlet_ex h
      refine e_nameV ev19.symm ?_
      clear ev19
      obtain ⟨x20, ex20, h⟩ := vlet_ex h
      refine e_iinc (lv' := [(5, .int x20), (0, .ref k0), (1, .ref k1), (2, .long a2), (4, .int a4)]) dX5_clear_65 rfl (ex20.symm) (by decide) rfl ?_
      clear ex20
      refine e_goto (tgt := 37) dX5_clear_68 (by decide) ?_
      refine e_sub [1, 2, 3, 4, 0] rfl ?_
      exact ih v19 k0 k1 a2 a4 x20 hk0 hk1 h
set_option maxRecDepth 20000 in
theorem b_X5_clear_3 {X : Nat × (Nat → Int32)} {r : rV}   : ∀ (n : Nat) (v : rV) (k0 : Nat) (k1 : Nat) (a2 : Int64) (a4 : Int32) (hk0 : isStrip k0 = true) (hk1 : isForm k1 = true), f_X5_clear_3   n v k0 k1 a2 a4 = some r → Ev mX5_clear 1 0 0 3 [(0, .ref k0), (1, .ref k1), (2, .long a2), (4, .int a4)] [] (rZ X) v (rPV X r) := by
  intro n
  induction n with
  | zero =>
    intros
    rename_i h
    cases h
  | succ n ih =>
    intro v k0 k1 a2 a4 hk0 hk1 h
    rw [f_X5_clear_3] at h
    refine e_iload dX5_clear_3 rfl ?_
    refine e_bipush (x := (24 : Int32)) dX5_clear_5 (by decide) ?_
    refine e_icmp_ge (tgt := 77) dX5_clear_7 (by decide) (fun c22 => ?_) (fun c22 => ?_)
    · rw [if_pos c22] at h
      refine e_aload_n dX5_clear_77 rfl ?_
      refine e_iconst (x := (0 : Int32)) dX5_clear_78 (by decide) ?_
      refine e_putI (j := 10) dX5_clear_79 (kStrip_0 hk0) rc5 (by decide) wfX5_53 rfl rfl ?_
      obtain ⟨v1, ev1, h⟩ := vlet_ex h
      refine e_nameV ev1.symm ?_
      clear ev1
      refine e_aload_n dX5_clear_82 rfl ?_
      refine e_iconst (x := (0 : Int32)) dX5_clear_83 (by decide) ?_
      refine e_putI (j := 11) dX5_clear_84 (kStrip_0 hk0) rc5 (by decide) wfX5_57 rfl rfl ?_
      obtain ⟨v2, ev2, h⟩ := vlet_ex h
      refine e_nameV ev2.symm ?_
      clear ev2
      refine e_aload_n dX5_clear_87 rfl ?_
      refine e_iconst (x := (0 : Int32)) dX5_clear_88 (by decide) ?_
      refine e_putI (j := 12) dX5_clear_89 (kStrip_0 hk0) rc5 (by decide) wfX5_60 rfl rfl ?_
      obtain ⟨v3, ev3, h⟩ := vlet_ex h
      refine e_nameV ev3.symm ?_
      clear ev3
      refine e_aload_n dX5_clear_92 rfl ?_
      refine e_aload_n dX5_clear_93 rfl ?_
      refine e_putR (j := 13) dX5_clear_94 (kStrip_0 hk0) rc5 (by decide) wfX5_63  (Or.inl rfl) (Or.inl ⟨_, rfl⟩) (sLaw hk0) ?_
      obtain ⟨v4, ev4, h⟩ := vlet_ex h
      refine e_nameV ev4.symm ?_
      clear ev4
      refine e_aload_n dX5_clear_97 rfl ?_
      refine e_lload_n dX5_clear_98 rfl ?_
      refine e_putL (j := 14) dX5_clear_99 (kStrip_0 hk0) rc5 (by decide) wfX5_67 rfl rfl ?_
      obtain ⟨v5, ev5, h⟩ := vlet_ex h
      refine e_nameV ev5.symm ?_
      clear ev5
      refine e_aload_n dX5_clear_102 rfl ?_
      refine e_iconst (x := (0 : Int32)) dX5_clear_103 (by decide) ?_
      refine e_putI (j := 15) dX5_clear_104 (kStrip_0 hk0) rc5 (by decide) wfX5_71 rfl rfl ?_
      obtain ⟨v6, ev6, h⟩ := vlet_ex h
      refine e_nameV ev6.symm ?_
      clear ev6
      refine e_aload_n dX5_clear_107 rfl ?_
      refine e_iconst (x := (0 : Int32)) dX5_clear_108 (by decide) ?_
      refine e_putI (j := 16) dX5_clear_109 (kStrip_0 hk0) rc5 (by decide) wfX5_74 rfl rfl ?_
      obtain ⟨v7, ev7, h⟩ := vlet_ex h
      refine e_nameV ev7.symm ?_
      clear ev7
      refine e_aload_n dX5_clear_112 rfl ?_
      refine e_iconst (x := (0 : Int32)) dX5_clear_113 (by decide) ?_
      refine e_putI (j := 17) dX5_clear_114 (kStrip_0 hk0) rc5 (by decide) wfX5_77 rfl rfl ?_
      obtain ⟨v8, ev8, h⟩ := vlet_ex h
      refine e_nameV ev8.symm ?_
      clear ev8
      refine e_aload_n dX5_clear_117 rfl ?_
      refine e_iconst (x := (0 : Int32)) dX5_clear_118 (by decide) ?_
      refine e_putI (j := 18) dX5_clear_119 (kStrip_0 hk0) rc5 (by decide) wfX5_80 rfl rfl ?_
      obtain ⟨v9, ev9, h⟩ := vlet_ex h
      refine e_nameV ev9.symm ?_
      clear ev9
      refine e_aload_n dX5_clear_122 rfl ?_
      refine e_iconst (x := (0 : Int32)) dX5_clear_123 (by decide) ?_
      refine e_putI (j := 19) dX5_clear_124 (kStrip_0 hk0) rc5 (by decide) wfX5_83 rfl rfl ?_
      obtain ⟨v10, ev10, h⟩ := vlet_ex h
      refine e_nameV ev10.symm ?_
      clear ev10
      obtain rfl := Option.some.inj h
      exact e_ret dX5_clear_127 rfl ⟨rfl, rfl, rfl⟩
    · rw [if_neg c22] at h
      refine e_aload_n dX5_clear_10 rfl ?_
      refine e_get (w := .ref (k0 + 1)) (j := 0) dX5_clear_11 (kStrip_0 hk0) rc5 (by decide) wfX5_9 (gStrip_0 hk0) ?_
      refine e_iload dX5_clear_14 rfl ?_
      refine e_iconst (x := (0 : Int32)) dX5_clear_16 (by decide) ?_
      obtain ⟨c11, h⟩ := grd h
      refine e_iastJ dX5_clear_17 (kStrip_1 hk0) rfl c11.2 c11.1 ?_
      obtain ⟨v12, ev12, h⟩ := vlet_ex h
      refine e_nameV ev12.symm ?_
      clear ev12
      refine e_aload_n dX5_clear_18 rfl ?_
      refine e_get (w := .ref (k0 + 10)) (j := 6) dX5_clear_19 (kStrip_0 hk0) rc5 (by decide) wfX5_37 (gStrip_6 hk0) ?_
      refine e_iload dX5_clear_22 rfl ?_
      refine e_iconst (x := (0 : Int32)) dX5_clear_24 (by decide) ?_
      refine e_iastJ dX5_clear_25 (kStrip_10 hk0) rfl (c11).2 (c11).1 ?_
      obtain ⟨v13, ev13, h⟩ := vlet_ex h
      refine e_nameV ev13.symm ?_
      clear ev13
      refine e_aload_n dX5_clear_26 rfl ?_
      refine e_get (w := .ref (k0 + 11)) (j := 7) dX5_clear_27 (kStrip_0 hk0) rc5 (by decide) wfX5_40 (gStrip_7 hk0) ?_
      refine e_iload dX5_clear_30 rfl ?_
      refine e_iconst (x := (0 : Int32)) dX5_clear_32 (by decide) ?_
      refine e_iastJ dX5_clear_33 (kStrip_11 hk0) rfl (c11).2 (c11).1 ?_
      obtain ⟨v14, ev14, h⟩ := vlet_ex h
      refine e_nameV ev14.symm ?_
      clear ev14
      refine e_iconst (x := (0 : Int32)) dX5_clear_34 (by decide) ?_
      refine e_istore (lv' := [(5, .int (0 : Int32)), (0, .ref k0), (1, .ref k1), (2, .long a2), (4, .int a4)]) dX5_clear_35 (by decide) rfl ?_
      refine e_sub [1, 2, 3, 4, 0] rfl ?_
      exact b_X5_clear_37 (fun v k0 k1 a2 a4 hk0 hk1 hh => ih v k0 k1 a2 a4 hk0 hk1 hh) _ v14 k0 k1 a2 a4 (0 : Int32) hk0 hk1 h
set_option maxRecDepth 20000 in
theorem x_X5_clear {X : Nat × (Nat → Int32)} {v : rV} {r : rV} {k0 : Nat} {k1 : Nat} {a2 : Int64} (hk0 : isStrip k0 = true) (hk1 : isForm k1 = true) (h : f_X5_clear v k0 k1 a2 = some r) : EvM mX5_clear 1 0 0 [.ref k0, .ref k1, .long a2] (rZ X) v (rPV X r) := by
  refine evm_of (by decide +kernel) (fun G => Nat.le_of_ble_eq_true rfl) ?_
  show Ev mX5_clear 1 0 0 0 [(0, .ref k0), (1, .ref k1), (2, .long a2)] [] (rZ X) v _
  unfold f_X5_clear at h
  refine e_iconst (x := (0 : Int32)) dX5_clear_0 (by decide) ?_
  refine e_istore (lv' := [(4, .int (0 : Int32)), (0, .ref k0), (1, .ref k1), (2, .long a2)]) dX5_clear_1 (by decide) rfl ?_
  refine e_sub [1, 2, 3, 0] rfl ?_
  exact b_X5_clear_3  _ v k0 k1 a2 (0 : Int32) hk0 hk1 h
def f_X5_copy_151   (v : rV) (k0 : Nat) (k1 : Nat) : Option (rV) := vlet (rI v k0 10 (v.1 k1 10)) fun v5 =>
  vlet (rI v5 k0 11 (v5.1 k1 11)) fun v6 =>
  vlet (rI v6 k0 12 (v6.1 k1 12)) fun v7 =>
  match v7.2.2 k1 13 with
  | none => (vlet (rR v7 k0 13 none) fun v9 =>
  vlet (rL v9 k0 14 (v9.2.1 k1 14)) fun v10 =>
  vlet (rI v10 k0 15 (v10.1 k1 15)) fun v11 =>
  vlet (rI v11 k0 16 (v11.1 k1 16)) fun v12 =>
  vlet (rI v12 k0 17 (v12.1 k1 17)) fun v13 =>
  vlet (rI v13 k0 18 (v13.1 k1 18)) fun v14 =>
  vlet (rI v14 k0 19 (v14.1 k1 19)) fun v15 =>
  some v15)
  | some kd8 => if isForm kd8 = true then (vlet (rR v7 k0 13 (some kd8)) fun v16 =>
  vlet (rL v16 k0 14 (v16.2.1 k1 14)) fun v17 =>
  vlet (rI v17 k0 15 (v17.1 k1 15)) fun v18 =>
  vlet (rI v18 k0 16 (v18.1 k1 16)) fun v19 =>
  vlet (rI v19 k0 17 (v19.1 k1 17)) fun v20 =>
  vlet (rI v20 k0 18 (v20.1 k1 18)) fun v21 =>
  vlet (rI v21 k0 19 (v21.1 k1 19)) fun v22 =>
  some v22) else none
def f_X5_copy_113   : Nat → rV → Nat → Nat → Int32 → Option (rV)
  | 0, _, _, _, _ => none
  | n + 1, v, k0, k1, a2 => if (v.1 k1 10) ≤ a2 then
  (f_X5_copy_151  v k0 k1)
else
  (if (12 : Int32) ≤ a2 then
  (f_X5_copy_151  v k0 k1)
else
  (if ¬ a2 < 0 ∧ a2.toNatClampNeg < 12 then
  ((v.2.2 (k0 + 13) a2.toNatClampNeg).bind fun kd24 => if isBody kd24 = true then
  ((v.2.2 (k1 + 13) a2.toNatClampNeg).bind fun kd25 => if isBody kd25 = true then
  ((f_X0_copy v kd24 kd25).bind fun p26 =>
  vlet (a2 + (1 : Int32)) fun x27 =>
  f_X5_copy_113  n p26 k0 k1 x27) else none) else none)
else none))
def f_X5_copy_62   : Nat → rV → Nat → Nat → Int32 → Option (rV)
  | 0, _, _, _, _ => none
  | n + 1, v, k0, k1, a2 => if (2 : Int32) ≤ a2 then
  (f_X5_copy_113  20000 v k0 k1 (0 : Int32))
else
  (if ¬ a2 < 0 ∧ a2.toNatClampNeg < 2 then
  (vlet (rCp v (k0 + 5 + a2.toNatClampNeg) (k1 + 5 + a2.toNatClampNeg) 0 0 24) fun v31 =>
  vlet (rCp v31 (k0 + 8 + a2.toNatClampNeg) (k1 + 8 + a2.toNatClampNeg) 0 0 24) fun v32 =>
  vlet (a2 + (1 : Int32)) fun x33 =>
  f_X5_copy_62  n v32 k0 k1 x33)
else none)
def f_X5_copy (v : rV) (k0 : Nat) (k1 : Nat) : Option (rV) := vlet (rCp v (k0 + 1) (k1 + 1) 0 0 24) fun v1 =>
  vlet (rCp v1 (k0 + 10) (k1 + 10) 0 0 24) fun v2 =>
  vlet (rCp v2 (k0 + 11) (k1 + 11) 0 0 24) fun v3 =>
  vlet (rCp v3 (k0 + 12) (k1 + 12) 0 0 120) fun v4 =>
  f_X5_copy_62  20000 v4 k0 k1 (0 : Int32)
set_option maxRecDepth 20000 in
theorem b_X5_copy_151 {X : Nat × (Nat → Int32)} {r : rV} {v : rV}   {k0 : Nat} {k1 : Nat} (hk0 : isStrip k0 = true) (hk1 : isStrip k1 = true) (h : f_X5_copy_151  v k0 k1 = some r) : Ev mX5_copy 2 0 0 151 [(0, .ref k0), (1, .ref k1)] [] (rZ X) v (rPV X r) := by
  unfold f_X5_copy_151 at h
  refine e_aload_n dX5_copy_151 rfl ?_
  refine e_aload_n dX5_copy_152 rfl ?_
  refine e_get (w := .int (v.1 k1 10)) (j := 10) dX5_copy_153 (kStrip_0 hk1) rc5 (by decide) wfX5_53 rfl ?_
  refine e_putI (j := 10) dX5_copy_156 (kStrip_0 hk0) rc5 (by decide) wfX5_53 rfl rfl ?_
  obtain ⟨v5, ev5, h⟩ := vlet_ex h
  refine e_nameV ev5.symm ?_
  clear ev5
  refine e_aload_n dX5_copy_159 rfl ?_
  refine e_aload_n dX5_copy_160 rfl ?_
  refine e_get (w := .int (v5.1 k1 11)) (j := 11) dX5_copy_161 (kStrip_0 hk1) rc5 (by decide) wfX5_57 rfl ?_
  refine e_putI (j := 11) dX5_copy_164 (kStrip_0 hk0) rc5 (by decide) wfX5_57 rfl rfl ?_
  obtain ⟨v6, ev6, h⟩ := vlet_ex h
  refine e_nameV ev6.symm ?_
  clear ev6
  refine e_aload_n dX5_copy_167 rfl ?_
  refine e_aload_n dX5_copy_168 rfl ?_
  refine e_get (w := .int (v6.1 k1 12)) (j := 12) dX5_copy_169 (kStrip_0 hk1) rc5 (by decide) wfX5_60 rfl ?_
  refine e_putI (j := 12) dX5_copy_172 (kStrip_0 hk0) rc5 (by decide) wfX5_60 rfl rfl ?_
  obtain ⟨v7, ev7, h⟩ := vlet_ex h
  refine e_nameV ev7.symm ?_
  clear ev7
  refine e_aload_n dX5_copy_175 rfl ?_
  refine e_aload_n dX5_copy_176 rfl ?_
  rcases ekd8 : v7.2.2 k1 13 with _ | kd8
  · rw [ekd8] at h
    refine e_get (w := .null) (j := 13) dX5_copy_177 (kStrip_0 hk1) rc5 (by decide) wfX5_63 (law_v (dStrip_law hk1) ekd8) ?_
    refine e_putN (j := 13) dX5_copy_180 (kStrip_0 hk0) rc5 (by decide) wfX5_63 rfl ⟨_, rfl⟩ (sLaw hk0) ?_
    obtain ⟨v9, ev9, h⟩ := vlet_ex h
    refine e_nameV ev9.symm ?_
    clear ev9
    refine e_aload_n dX5_copy_183 rfl ?_
    refine e_aload_n dX5_copy_184 rfl ?_
    refine e_get (w := .long (v9.2.1 k1 14)) (j := 14) dX5_copy_185 (kStrip_0 hk1) rc5 (by decide) wfX5_67 rfl ?_
    refine e_putL (j := 14) dX5_copy_188 (kStrip_0 hk0) rc5 (by decide) wfX5_67 rfl rfl ?_
    obtain ⟨v10, ev10, h⟩ := vlet_ex h
    refine e_nameV ev10.symm ?_
    clear ev10
    refine e_aload_n dX5_copy_191 rfl ?_
    refine e_aload_n dX5_copy_192 rfl ?_
    refine e_get (w := .int (v10.1 k1 15)) (j := 15) dX5_copy_193 (kStrip_0 hk1) rc5 (by decide) wfX5_71 rfl ?_
    refine e_putI (j := 15) dX5_copy_196 (kStrip_0 hk0) rc5 (by decide) wfX5_71 rfl rfl ?_
    obtain ⟨v11, ev11, h⟩ := vlet_ex h
    refine e_nameV ev11.symm ?_
    clear ev11
    refine e_aload_n dX5_copy_199 rfl ?_
    refine e_aload_n dX5_copy_200 rfl ?_
    refine e_get (w := .int (v11.1 k1 16)) (j := 16) dX5_copy_201 (kStrip_0 hk1) rc5 (by decide) wfX5_74 rfl ?_
    refine e_putI (j := 16) dX5_copy_204 (kStrip_0 hk0) rc5 (by decide) wfX5_74 rfl rfl ?_
    obtain ⟨v12, ev12, h⟩ := vlet_ex h
    refine e_nameV ev12.symm ?_
    clear ev12
    refine e_aload_n dX5_copy_207 rfl ?_
    refine e_aload_n dX5_copy_208 rfl ?_
    refine e_get (w := .int (v12.1 k1 17)) (j := 17) dX5_copy_209 (kStrip_0 hk1) rc5 (by decide) wfX5_77 rfl ?_
    refine e_putI (j := 17) dX5_copy_212 (kStrip_0 hk0) rc5 (by decide) wfX5_77 rfl rfl ?_
    obtain ⟨v13, ev13, h⟩ := vlet_ex h
    refine e_nameV ev13.symm ?_
    clear ev13
    refine e_aload_n dX5_copy_215 rfl ?_
    refine e_aload_n dX5_copy_216 rfl ?_
    refine e_get (w := .int (v13.1 k1 18)) (j := 18) dX5_copy_217 (kStrip_0 hk1) rc5 (by decide) wfX5_80 rfl ?_
    refine e_putI (j := 18) dX5_copy_220 (kStrip_0 hk0) rc5 (by decide) wfX5_80 rfl rfl ?_
    obtain ⟨v14, ev14, h⟩ := vlet_ex h
    refine e_nameV ev14.symm ?_
    clear ev14
    refine e_aload_n dX5_copy_223 rfl ?_
    refine e_aload_n dX5_copy_224 rfl ?_
    refine e_get (w := .int (v14.1 k1 19)) (j := 19) dX5_copy_225 (kStrip_0 hk1) rc5 (by decide) wfX5_83 rfl ?_
    refine e_putI (j := 19) dX5_copy_228 (kStrip_0 hk0) rc5 (by decide) wfX5_83 rfl rfl ?_
    obtain ⟨v15, ev15, h⟩ := vlet_ex h
    refine e_nameV ev15.symm ?_
    clear ev15
    obtain rfl := Option.some.inj h
    exact e_ret dX5_copy_231 rfl ⟨rfl, rfl, rfl⟩
  · rw [ekd8] at h
    obtain ⟨hkd8, h⟩ := grd h
    refine e_get (w := .ref kd8) (j := 13) dX5_copy_177 (kStrip_0 hk1) rc5 (by decide) wfX5_63 (law_v (dStrip_law hk1) ekd8) ?_
    refine e_putR (j := 13) dX5_copy_180 (kStrip_0 hk0) rc5 (by decide) wfX5_63  (Or.inl rfl) (Or.inl ⟨_, rfl⟩) (sLaw hk0) ?_
    obtain ⟨v16, ev16, h⟩ := vlet_ex h
    refine e_nameV ev16.symm ?_
    clear ev16
    refine e_aload_n dX5_copy_183 rfl ?_
    refine e_aload_n dX5_copy_184 rfl ?_
    refine e_get (w := .long (v16.2.1 k1 14)) (j := 14) dX5_copy_185 (kStrip_0 hk1) rc5 (by decide) wfX5_67 rfl ?_
    refine e_putL (j := 14) dX5_copy_188 (kStrip_0 hk0) rc5 (by decide) wfX5_67 rfl rfl ?_
    obtain ⟨v17, ev17, h⟩ := vlet_ex h
    refine e_nameV ev17.symm ?_
    clear ev17
    refine e_aload_n dX5_copy_191 rfl ?_
    refine e_aload_n dX5_copy_192 rfl ?_
    refine e_get (w := .int (v17.1 k1 15)) (j := 15) dX5_copy_193 (kStrip_0 hk1) rc5 (by decide) wfX5_71 rfl ?_
    refine e_putI (j := 15) dX5_copy_196 (kStrip_0 hk0) rc5 (by decide) wfX5_71 rfl rfl ?_
    obtain ⟨v18, ev18, h⟩ := vlet_ex h
    refine e_nameV ev18.symm ?_
    clear ev18
    refine e_aload_n dX5_copy_199 rfl ?_
    refine e_aload_n dX5_copy_200 rfl ?_
    refine e_get (w := .int (v18.1 k1 16)) (j := 16) dX5_copy_201 (kStrip_0 hk1) rc5 (by decide) wfX5_74 rfl ?_
    refine e_putI (j := 16) dX5_copy_204 (kStrip_0 hk0) rc5 (by decide) wfX5_74 rfl rfl ?_
    obtain ⟨v19, ev19, h⟩ := vlet_ex h
    refine e_nameV ev19.symm ?_
    clear ev19
    refine e_aload_n dX5_copy_207 rfl ?_
    refine e_aload_n dX5_copy_208 rfl ?_
    refine e_get (w := .int (v19.1 k1 17)) (j := 17) dX5_copy_209 (kStrip_0 hk1) rc5 (by decide) wfX5_77 rfl ?_
    refine e_putI (j := 17) dX5_copy_212 (kStrip_0 hk0) rc5 (by decide) wfX5_77 rfl rfl ?_
    obtain ⟨v20, ev20, h⟩ := vlet_ex h
    refine e_nameV ev20.symm ?_
    clear ev20
    refine e_aload_n dX5_copy_215 rfl ?_
    refine e_aload_n dX5_copy_216 rfl ?_
    refine e_get (w := .int (v20.1 k1 18)) (j := 18) dX5_copy_217 (kStrip_0 hk1) rc5 (by decide) wfX5_80 rfl ?_
    refine e_putI (j := 18) dX5_copy_220 (kStrip_0 hk0) rc5 (by decide) wfX5_80 rfl rfl ?_
    obtain ⟨v21, ev21, h⟩ := vlet_ex h
    refine e_nameV ev21.symm ?_
    clear ev21
    refine e_aload_n dX5_copy_223 rfl ?_
    refine e_aload_n dX5_copy_224 rfl ?_
    refine e_get (w := .int (v21.1 k1 19)) (j := 19) dX5_copy_225 (kStrip_0 hk1) rc5 (by decide) wfX5_83 rfl ?_
    refine e_putI (j := 19) dX5_copy_228 (kStrip_0 hk0) rc5 (by decide) wfX5_83 rfl rfl ?_
    obtain ⟨v22, ev22, h⟩ := vlet_ex h
    refine e_nameV ev22.symm ?_
    clear ev22
    obtain rfl := Option.some.inj h
    exact e_ret dX5_copy_231 rfl ⟨rfl, rfl, rfl⟩
set_option maxRecDepth 20000 in
theorem b_X5_copy_113 {X : Nat × (Nat → Int32)} {r : rV}   : ∀ (n : Nat) (v : rV) (k0 : Nat) (k1 : Nat) (a2 : Int32) (hk0 : isStrip k0 = true) (hk1 : isStrip k1 = true), f_X5_copy_113   n v k0 k1 a2 = some r → Ev mX5_copy 2 0 0 113 [(0, .ref k0), (1, .ref k1), (2, .int a2)] [] (rZ X) v (rPV X r) := by
  intro n
  induction n with
  | zero =>
    intros
    rename_i h
    cases h
  | succ n ih =>
    intro v k0 k1 a2 hk0 hk1 h
    rw [f_X5_copy_113] at h
    refine e_iload_n dX5_copy_113 rfl ?_
    refine e_aload_n dX5_copy_114 rfl ?_
    refine e_get (w := .int (v.1 k1 10)) (j := 10) dX5_copy_115 (kStrip_0 hk1) rc5 (by decide) wfX5_53 rfl ?_
    refine e_icmp_ge (tgt := 151) dX5_copy_118 (by decide) (fun c29 => ?_) (fun c29 => ?_)
    · rw [if_pos c29] at h
      refine e_sub [0, 1] rfl ?_
      exact b_X5_copy_151 hk0 hk1 h
    · rw [if_neg c29] at h
      refine e_iload_n dX5_copy_121 rfl ?_
      refine e_aload_n dX5_copy_122 rfl ?_
      refine e_get (w := .ref (k0 + 13)) (j := 9) dX5_copy_123 (kStrip_0 hk0) rc5 (by decide) wfX5_48 (gStrip_9 hk0) ?_
      refine e_alenJ (x := (12 : Int32)) dX5_copy_126 (kStrip_13 hk0) (Or.inr (Or.inr rfl)) (by decide) ?_
      refine e_icmp_ge (tgt := 151) dX5_copy_127 (by decide) (fun c28 => ?_) (fun c28 => ?_)
      · rw [if_pos c28] at h
        refine e_sub [0, 1] rfl ?_
        exact b_X5_copy_151 hk0 hk1 h
      · rw [if_neg c28] at h
        refine e_aload_n dX5_copy_130 rfl ?_
        refine e_get (w := .ref (k0 + 13)) (j := 9) dX5_copy_131 (kStrip_0 hk0) rc5 (by decide) wfX5_48 (gStrip_9 hk0) ?_
        refine e_iload_n dX5_copy_134 rfl ?_
        obtain ⟨c23, h⟩ := grd h
        obtain ⟨kd24, ekd24, h⟩ := Option.bind_eq_some_iff.mp h
        obtain ⟨hkd24, h⟩ := grd h
        refine e_aaldJ (w := .ref kd24) dX5_copy_135 (kStrip_13 hk0) rfl rfl c23.2 c23.1 (body_v hk0 ekd24) ?_
        refine e_aload_n dX5_copy_136 rfl ?_
        refine e_get (w := .ref (k1 + 13)) (j := 9) dX5_copy_137 (kStrip_0 hk1) rc5 (by decide) wfX5_48 (gStrip_9 hk1) ?_
        refine e_iload_n dX5_copy_140 rfl ?_
        obtain ⟨kd25, ekd25, h⟩ := Option.bind_eq_some_iff.mp h
        obtain ⟨hkd25, h⟩ := grd h
        refine e_aaldJ (w := .ref kd25) dX5_copy_141 (kStrip_13 hk1) rfl rfl (c23).2 (c23).1 (body_v hk1 ekd25) ?_
        obtain ⟨p26, ep26, h⟩ := Option.bind_eq_some_iff.mp h
        refine c_VV (M' := mX0_copy) [.ref kd25] dX5_copy_142 rfl wmX5_227 imX0_copy seX0_copy lkX0_copy (kBody_0 hkd24) rc0 (Nat.le_of_ble_eq_true rfl) ((x_X0_copy hkd24 hkd25 ep26).mono (by omega)) ?_
        obtain ⟨x27, ex27, h⟩ := vlet_ex h
        refine e_iinc (lv' := [(2, .int x27), (0, .ref k0), (1, .ref k1)]) dX5_copy_145 rfl (ex27.symm) (by decide) rfl ?_
        clear ex27
        refine e_goto (tgt := 113) dX5_copy_148 (by decide) ?_
        refine e_sub [1, 2, 0] rfl ?_
        exact ih p26 k0 k1 x27 hk0 hk1 h
set_option maxRecDepth 20000 in
theorem b_X5_copy_62 {X : Nat × (Nat → Int32)} {r : rV}   : ∀ (n : Nat) (v : rV) (k0 : Nat) (k1 : Nat) (a2 : Int32) (hk0 : isStrip k0 = true) (hk1 : isStrip k1 = true), f_X5_copy_62   n v k0 k1 a2 = some r → Ev mX5_copy 2 0 0 62 [(0, .ref k0), (1, .ref k1), (2, .int a2)] [] (rZ X) v (rPV X r) := by
  intro n
  induction n with
  | zero =>
    intros
    rename_i h
    cases h
  | succ n ih =>
    intro v k0 k1 a2 hk0 hk1 h
    rw [f_X5_copy_62] at h
    refine e_iload_n dX5_copy_62 rfl ?_
    refine e_iconst (x := (2 : Int32)) dX5_copy_63 (by decide) ?_
    refine e_icmp_ge (tgt := 111) dX5_copy_64 (by decide) (fun c34 => ?_) (fun c34 => ?_)
    · rw [if_pos c34] at h
      refine e_iconst (x := (0 : Int32)) dX5_copy_111 (by decide) ?_
      refine e_istore_n (lv' := [(2, .int (0 : Int32)), (0, .ref k0), (1, .ref k1)]) dX5_copy_112 (by decide) rfl ?_
      refine e_sub [1, 2, 0] rfl ?_
      exact b_X5_copy_113  _ v k0 k1 (0 : Int32) hk0 hk1 h
    · rw [if_neg c34] at h
      refine e_aload_n dX5_copy_67 rfl ?_
      refine e_get (w := .ref (k1 + 4)) (j := 4) dX5_copy_68 (kStrip_0 hk1) rc5 (by decide) wfX5_31 (gStrip_4 hk1) ?_
      refine e_iload_n dX5_copy_71 rfl ?_
      obtain ⟨c30, h⟩ := grd h
      refine e_aaldJ dX5_copy_72 (kStrip_4 hk1) rfl rfl c30.2 c30.1 (rStrip_4 hk1 (c30).2) ?_
      refine e_iconst (x := (0 : Int32)) dX5_copy_73 (by decide) ?_
      refine e_aload_n dX5_copy_74 rfl ?_
      refine e_get (w := .ref (k0 + 4)) (j := 4) dX5_copy_75 (kStrip_0 hk0) rc5 (by decide) wfX5_31 (gStrip_4 hk0) ?_
      refine e_iload_n dX5_copy_78 rfl ?_
      refine e_aaldJ dX5_copy_79 (kStrip_4 hk0) rfl rfl (c30).2 (c30).1 (rStrip_4 hk0 (c30).2) ?_
      refine e_iconst (x := (0 : Int32)) dX5_copy_80 (by decide) ?_
      refine e_bipush (x := (24 : Int32)) dX5_copy_81 (by decide) ?_
      refine e_copy dX5_copy_83 wmX5_221 wnative wcopystat winisys (qStrip_4 hk1 (c30).2) (qStrip_4 hk0 (c30).2) rfl (by decide) (by decide) (by decide) (by decide) (by decide) (Nat.le_of_ble_eq_true rfl) (by omega) ?_
      obtain ⟨v31, ev31, h⟩ := vlet_ex h
      refine e_nameV ev31.symm ?_
      clear ev31
      refine e_aload_n dX5_copy_86 rfl ?_
      refine e_get (w := .ref (k1 + 7)) (j := 5) dX5_copy_87 (kStrip_0 hk1) rc5 (by decide) wfX5_34 (gStrip_5 hk1) ?_
      refine e_iload_n dX5_copy_90 rfl ?_
      refine e_aaldJ dX5_copy_91 (kStrip_7 hk1) rfl rfl (c30).2 (c30).1 (rStrip_7 hk1 (c30).2) ?_
      refine e_iconst (x := (0 : Int32)) dX5_copy_92 (by decide) ?_
      refine e_aload_n dX5_copy_93 rfl ?_
      refine e_get (w := .ref (k0 + 7)) (j := 5) dX5_copy_94 (kStrip_0 hk0) rc5 (by decide) wfX5_34 (gStrip_5 hk0) ?_
      refine e_iload_n dX5_copy_97 rfl ?_
      refine e_aaldJ dX5_copy_98 (kStrip_7 hk0) rfl rfl (c30).2 (c30).1 (rStrip_7 hk0 (c30).2) ?_
      refine e_iconst (x := (0 : Int32)) dX5_copy_99 (by decide) ?_
      refine e_bipush (x := (24 : Int32)) dX5_copy_100 (by decide) ?_
      refine e_copy dX5_copy_102 wmX5_221 wnative wcopystat winisys (qStrip_7 hk1 (c30).2) (qStrip_7 hk0 (c30).2) rfl (by decide) (by decide) (by decide) (by decide) (by decide) (Nat.le_of_ble_eq_true rfl) (by omega) ?_
      obtain ⟨v32, ev32, h⟩ := vlet_ex h
      refine e_nameV ev32.symm ?_
      clear ev32
      obtain ⟨x33, ex33, h⟩ := vlet_ex h
      refine e_iinc (lv' := [(2, .int x33), (0, .ref k0), (1, .ref k1)]) dX5_copy_105 rfl (ex33.symm) (by decide) rfl ?_
      clear ex33
      refine e_goto (tgt := 62) dX5_copy_108 (by decide) ?_
      refine e_sub [1, 2, 0] rfl ?_
      exact ih v32 k0 k1 x33 hk0 hk1 h
set_option maxRecDepth 20000 in
theorem x_X5_copy {X : Nat × (Nat → Int32)} {v : rV} {r : rV} {k0 : Nat} {k1 : Nat} (hk0 : isStrip k0 = true) (hk1 : isStrip k1 = true) (h : f_X5_copy v k0 k1 = some r) : EvM mX5_copy 2 0 0 [.ref k0, .ref k1] (rZ X) v (rPV X r) := by
  refine evm_of (by decide +kernel) (fun G => Nat.le_of_ble_eq_true rfl) ?_
  show Ev mX5_copy 2 0 0 0 [(0, .ref k0), (1, .ref k1)] [] (rZ X) v _
  unfold f_X5_copy at h
  refine e_aload_n dX5_copy_0 rfl ?_
  refine e_get (w := .ref (k1 + 1)) (j := 0) dX5_copy_1 (kStrip_0 hk1) rc5 (by decide) wfX5_9 (gStrip_0 hk1) ?_
  refine e_iconst (x := (0 : Int32)) dX5_copy_4 (by decide) ?_
  refine e_aload_n dX5_copy_5 rfl ?_
  refine e_get (w := .ref (k0 + 1)) (j := 0) dX5_copy_6 (kStrip_0 hk0) rc5 (by decide) wfX5_9 (gStrip_0 hk0) ?_
  refine e_iconst (x := (0 : Int32)) dX5_copy_9 (by decide) ?_
  refine e_bipush (x := (24 : Int32)) dX5_copy_10 (by decide) ?_
  refine e_copy dX5_copy_12 wmX5_221 wnative wcopystat winisys (kStrip_1 hk1) (kStrip_1 hk0) rfl (by decide) (by decide) (by decide) (by decide) (by decide) (Nat.le_of_ble_eq_true rfl) (by omega) ?_
  obtain ⟨v1, ev1, h⟩ := vlet_ex h
  refine e_nameV ev1.symm ?_
  clear ev1
  refine e_aload_n dX5_copy_15 rfl ?_
  refine e_get (w := .ref (k1 + 10)) (j := 6) dX5_copy_16 (kStrip_0 hk1) rc5 (by decide) wfX5_37 (gStrip_6 hk1) ?_
  refine e_iconst (x := (0 : Int32)) dX5_copy_19 (by decide) ?_
  refine e_aload_n dX5_copy_20 rfl ?_
  refine e_get (w := .ref (k0 + 10)) (j := 6) dX5_copy_21 (kStrip_0 hk0) rc5 (by decide) wfX5_37 (gStrip_6 hk0) ?_
  refine e_iconst (x := (0 : Int32)) dX5_copy_24 (by decide) ?_
  refine e_bipush (x := (24 : Int32)) dX5_copy_25 (by decide) ?_
  refine e_copy dX5_copy_27 wmX5_221 wnative wcopystat winisys (kStrip_10 hk1) (kStrip_10 hk0) rfl (by decide) (by decide) (by decide) (by decide) (by decide) (Nat.le_of_ble_eq_true rfl) (by omega) ?_
  obtain ⟨v2, ev2, h⟩ := vlet_ex h
  refine e_nameV ev2.symm ?_
  clear ev2
  refine e_aload_n dX5_copy_30 rfl ?_
  refine e_get (w := .ref (k1 + 11)) (j := 7) dX5_copy_31 (kStrip_0 hk1) rc5 (by decide) wfX5_40 (gStrip_7 hk1) ?_
  refine e_iconst (x := (0 : Int32)) dX5_copy_34 (by decide) ?_
  refine e_aload_n dX5_copy_35 rfl ?_
  refine e_get (w := .ref (k0 + 11)) (j := 7) dX5_copy_36 (kStrip_0 hk0) rc5 (by decide) wfX5_40 (gStrip_7 hk0) ?_
  refine e_iconst (x := (0 : Int32)) dX5_copy_39 (by decide) ?_
  refine e_bipush (x := (24 : Int32)) dX5_copy_40 (by decide) ?_
  refine e_copy dX5_copy_42 wmX5_221 wnative wcopystat winisys (kStrip_11 hk1) (kStrip_11 hk0) rfl (by decide) (by decide) (by decide) (by decide) (by decide) (Nat.le_of_ble_eq_true rfl) (by omega) ?_
  obtain ⟨v3, ev3, h⟩ := vlet_ex h
  refine e_nameV ev3.symm ?_
  clear ev3
  refine e_aload_n dX5_copy_45 rfl ?_
  refine e_get (w := .ref (k1 + 12)) (j := 8) dX5_copy_46 (kStrip_0 hk1) rc5 (by decide) wfX5_43 (gStrip_8 hk1) ?_
  refine e_iconst (x := (0 : Int32)) dX5_copy_49 (by decide) ?_
  refine e_aload_n dX5_copy_50 rfl ?_
  refine e_get (w := .ref (k0 + 12)) (j := 8) dX5_copy_51 (kStrip_0 hk0) rc5 (by decide) wfX5_43 (gStrip_8 hk0) ?_
  refine e_iconst (x := (0 : Int32)) dX5_copy_54 (by decide) ?_
  refine e_bipush (x := (120 : Int32)) dX5_copy_55 (by decide) ?_
  refine e_copy dX5_copy_57 wmX5_221 wnative wcopystat winisys (kStrip_12 hk1) (kStrip_12 hk0) rfl (by decide) (by decide) (by decide) (by decide) (by decide) (Nat.le_of_ble_eq_true rfl) (by omega) ?_
  obtain ⟨v4, ev4, h⟩ := vlet_ex h
  refine e_nameV ev4.symm ?_
  clear ev4
  refine e_iconst (x := (0 : Int32)) dX5_copy_60 (by decide) ?_
  refine e_istore_n (lv' := [(2, .int (0 : Int32)), (0, .ref k0), (1, .ref k1)]) dX5_copy_61 (by decide) rfl ?_
  refine e_sub [1, 2, 0] rfl ?_
  exact b_X5_copy_62  _ v4 k0 k1 (0 : Int32) hk0 hk1 h
def f_X5_waterOf_7 (v : rV)  : Nat → Nat → Nat → Int32 → Int32 → Option (Int32)
  | 0, _, _, _, _ => none
  | n + 1, k0, k1, a2, a3 => if (v.1 k1 3) < a3 then
  (some a2)
else
  (if ¬ a3 < 0 ∧ a3.toNatClampNeg < 24 then
  (vlet (a2 + (v.1 (k0 + 1) a3.toNatClampNeg) : Int32) fun x3 =>
  vlet (a3 + (1 : Int32)) fun x4 =>
  f_X5_waterOf_7 v n k0 k1 x3 x4)
else none)
def f_X5_waterOf (v : rV) (k0 : Nat) (k1 : Nat) : Option (Int32) := vlet (v.1 k1 2 : Int32) fun x1 =>
  f_X5_waterOf_7 v 20000 k0 k1 (0 : Int32) x1
set_option maxRecDepth 20000 in
theorem b_X5_waterOf_7 {X : Nat × (Nat → Int32)} {r : Int32} {v : rV}   : ∀ (n : Nat) (k0 : Nat) (k1 : Nat) (a2 : Int32) (a3 : Int32) (hk0 : isStrip k0 = true) (hk1 : isBody k1 = true), f_X5_waterOf_7 v  n k0 k1 a2 a3 = some r → Ev mX5_waterOf 1 0 0 7 [(0, .ref k0), (1, .ref k1), (2, .int a2), (3, .int a3)] [] (rZ X) v (rPI X (r, v)) := by
  intro n
  induction n with
  | zero =>
    intros
    rename_i h
    cases h
  | succ n ih =>
    intro k0 k1 a2 a3 hk0 hk1 h
    rw [f_X5_waterOf_7] at h
    refine e_iload_n dX5_waterOf_7 rfl ?_
    refine e_aload_n dX5_waterOf_8 rfl ?_
    refine e_get (w := .int (v.1 k1 3)) (j := 3) dX5_waterOf_9 (kBody_0 hk1) rc0 (by decide) wfX5_86 rfl ?_
    refine e_icmp_gt (tgt := 30) dX5_waterOf_12 (by decide) (fun c5 => ?_) (fun c5 => ?_)
    · rw [if_pos c5] at h
      refine e_iload_n dX5_waterOf_30 rfl ?_
      obtain rfl := Option.some.inj h
      exact e_iret dX5_waterOf_31 rfl rfl ⟨rfl, rfl, rfl⟩
    · rw [if_neg c5] at h
      refine e_iload_n dX5_waterOf_15 rfl ?_
      refine e_aload_n dX5_waterOf_16 rfl ?_
      refine e_get (w := .ref (k0 + 1)) (j := 0) dX5_waterOf_17 (kStrip_0 hk0) rc5 (by decide) wfX5_9 (gStrip_0 hk0) ?_
      refine e_iload_n dX5_waterOf_20 rfl ?_
      obtain ⟨c2, h⟩ := grd h
      refine e_ialdJ dX5_waterOf_21 (kStrip_1 hk0) rfl c2.2 c2.1 ?_
      refine e_iadd dX5_waterOf_22 ?_
      obtain ⟨x3, ex3, h⟩ := vlet_ex h
      refine e_nameI ex3.symm ?_
      clear ex3
      refine e_istore_n (lv' := [(2, .int x3), (0, .ref k0), (1, .ref k1), (3, .int a3)]) dX5_waterOf_23 (by decide) rfl ?_
      obtain ⟨x4, ex4, h⟩ := vlet_ex h
      refine e_iinc (lv' := [(3, .int x4), (2, .int x3), (0, .ref k0), (1, .ref k1)]) dX5_waterOf_24 rfl (ex4.symm) (by decide) rfl ?_
      clear ex4
      refine e_goto (tgt := 7) dX5_waterOf_27 (by decide) ?_
      refine e_sub [2, 3, 1, 0] rfl ?_
      exact ih k0 k1 x3 x4 hk0 hk1 h
set_option maxRecDepth 20000 in
theorem x_X5_waterOf {X : Nat × (Nat → Int32)} {v : rV} {r : Int32} {k0 : Nat} {k1 : Nat} (hk0 : isStrip k0 = true) (hk1 : isBody k1 = true) (h : f_X5_waterOf v k0 k1 = some r) : EvM mX5_waterOf 1 0 0 [.ref k0, .ref k1] (rZ X) v (rPI X (r, v)) := by
  refine evm_of (by decide +kernel) (fun G => Nat.le_of_ble_eq_true rfl) ?_
  show Ev mX5_waterOf 1 0 0 0 [(0, .ref k0), (1, .ref k1)] [] (rZ X) v _
  unfold f_X5_waterOf at h
  refine e_iconst (x := (0 : Int32)) dX5_waterOf_0 (by decide) ?_
  refine e_istore_n (lv' := [(2, .int (0 : Int32)), (0, .ref k0), (1, .ref k1)]) dX5_waterOf_1 (by decide) rfl ?_
  refine e_aload_n dX5_waterOf_2 rfl ?_
  refine e_get (w := .int (v.1 k1 2)) (j := 2) dX5_waterOf_3 (kBody_0 hk1) rc0 (by decide) wfX5_97 rfl ?_
  obtain ⟨x1, ex1, h⟩ := vlet_ex h
  refine e_nameI ex1.symm ?_
  clear ex1
  refine e_istore_n (lv' := [(3, .int x1), (2, .int (0 : Int32)), (0, .ref k0), (1, .ref k1)]) dX5_waterOf_6 (by decide) rfl ?_
  refine e_sub [2, 3, 1, 0] rfl ?_
  exact b_X5_waterOf_7  _ k0 k1 (0 : Int32) x1 hk0 hk1 h
def f_X5_dropTheDry_49  (q4 : rV → Nat → Int32 → Int32 → Option (rV)) (v : rV) (k0 : Nat) (a1 : Int32) (a2 : Int32) : Option (rV) := vlet (a2 + (1 : Int32)) fun x5 =>
  q4 v k0 a1 x5
def f_X5_dropTheDry_4   : Nat → rV → Nat → Int32 → Int32 → Option (rV)
  | 0, _, _, _, _ => none
  | n + 1, v, k0, a1, a2 => if (v.1 k0 10) ≤ a2 then
  (vlet (rI v k0 10 a1) fun v1 =>
  some v1)
else
  (if ¬ a2 < 0 ∧ a2.toNatClampNeg < 12 then
  ((v.2.2 (k0 + 13) a2.toNatClampNeg).bind fun kd3 => if isBody kd3 = true then
  ((f_X5_waterOf v k0 kd3).bind fun p4 =>
  if p4 ≤ 0 then
  (f_X5_dropTheDry_49 (fun v k0 a1 a2 => f_X5_dropTheDry_4  n v k0 a1 a2) v k0 a1 a2)
else
  (if ¬ a1 < 0 ∧ a1.toNatClampNeg < 12 then
  ((v.2.2 (k0 + 13) a1.toNatClampNeg).bind fun kd7 => if isBody kd7 = true then
  (vlet (rR v (k0 + 13) a2.toNatClampNeg (some kd7)) fun v8 =>
  vlet (rR v8 (k0 + 13) a1.toNatClampNeg (some kd3)) fun v9 =>
  vlet (a1 + (1 : Int32)) fun x10 =>
  f_X5_dropTheDry_49 (fun v k0 a1 a2 => f_X5_dropTheDry_4  n v k0 a1 a2) v9 k0 x10 a2) else none)
else none)) else none)
else none)
def f_X5_dropTheDry (v : rV) (k0 : Nat) : Option (rV) := f_X5_dropTheDry_4  20000 v k0 (0 : Int32) (0 : Int32)
set_option maxRecDepth 20000 in
theorem b_X5_dropTheDry_49 {X : Nat × (Nat → Int32)} {r : rV} {v : rV} {q4 : rV → Nat → Int32 → Int32 → Option (rV)} (hq4 : ∀ (v : rV) (k0 : Nat) (a1 : Int32) (a2 : Int32) (hk0 : isStrip k0 = true), q4 v k0 a1 a2 = some r → Ev mX5_dropTheDry 2 0 0 4 [(0, .ref k0), (1, .int a1), (2, .int a2)] [] (rZ X) v (rPV X r)) {k0 : Nat} {a1 : Int32} {a2 : Int32} (hk0 : isStrip k0 = true) (h : f_X5_dropTheDry_49 q4 v k0 a1 a2 = some r) : Ev mX5_dropTheDry 2 0 0 49 [(0, .ref k0), (1, .int a1), (2, .int a2)] [] (rZ X) v (rPV X r) := by
  unfold f_X5_dropTheDry_49 at h
  obtain ⟨x5, ex5, h⟩ := vlet_ex h
  refine e_iinc (lv' := [(2, .int x5), (0, .ref k0), (1, .int a1)]) dX5_dropTheDry_49 rfl (ex5.symm) (by decide) rfl ?_
  clear ex5
  refine e_goto (tgt := 4) dX5_dropTheDry_52 (by decide) ?_
  refine e_sub [1, 2, 0] rfl ?_
  exact hq4 v k0 a1 x5 hk0 h
set_option maxRecDepth 20000 in
theorem b_X5_dropTheDry_4 {X : Nat × (Nat → Int32)} {r : rV}   : ∀ (n : Nat) (v : rV) (k0 : Nat) (a1 : Int32) (a2 : Int32) (hk0 : isStrip k0 = true), f_X5_dropTheDry_4   n v k0 a1 a2 = some r → Ev mX5_dropTheDry 2 0 0 4 [(0, .ref k0), (1, .int a1), (2, .int a2)] [] (rZ X) v (rPV X r) := by
  intro n
  induction n with
  | zero =>
    intros
    rename_i h
    cases h
  | succ n ih =>
    intro v k0 a1 a2 hk0 h
    rw [f_X5_dropTheDry_4] at h
    refine e_iload_n dX5_dropTheDry_4 rfl ?_
    refine e_aload_n dX5_dropTheDry_5 rfl ?_
    refine e_get (w := .int (v.1 k0 10)) (j := 10) dX5_dropTheDry_6 (kStrip_0 hk0) rc5 (by decide) wfX5_53 rfl ?_
    refine e_icmp_ge (tgt := 55) dX5_dropTheDry_9 (by decide) (fun c12 => ?_) (fun c12 => ?_)
    · rw [if_pos c12] at h
      refine e_aload_n dX5_dropTheDry_55 rfl ?_
      refine e_iload_n dX5_dropTheDry_56 rfl ?_
      refine e_putI (j := 10) dX5_dropTheDry_57 (kStrip_0 hk0) rc5 (by decide) wfX5_53 rfl rfl ?_
      obtain ⟨v1, ev1, h⟩ := vlet_ex h
      refine e_nameV ev1.symm ?_
      clear ev1
      obtain rfl := Option.some.inj h
      exact e_ret dX5_dropTheDry_60 rfl ⟨rfl, rfl, rfl⟩
    · rw [if_neg c12] at h
      refine e_aload_n dX5_dropTheDry_12 rfl ?_
      refine e_get (w := .ref (k0 + 13)) (j := 9) dX5_dropTheDry_13 (kStrip_0 hk0) rc5 (by decide) wfX5_48 (gStrip_9 hk0) ?_
      refine e_iload_n dX5_dropTheDry_16 rfl ?_
      obtain ⟨c2, h⟩ := grd h
      obtain ⟨kd3, ekd3, h⟩ := Option.bind_eq_some_iff.mp h
      obtain ⟨hkd3, h⟩ := grd h
      refine e_aaldJ (w := .ref kd3) dX5_dropTheDry_17 (kStrip_13 hk0) rfl rfl c2.2 c2.1 (body_v hk0 ekd3) ?_
      refine e_astore_n (lv' := [(3, .ref kd3), (0, .ref k0), (1, .int a1), (2, .int a2)]) dX5_dropTheDry_18 (by decide) rfl ?_
      refine e_aload_n dX5_dropTheDry_19 rfl ?_
      refine e_aload_n dX5_dropTheDry_20 rfl ?_
      obtain ⟨p4, ep4, h⟩ := Option.bind_eq_some_iff.mp h
      refine c_VI (M' := mX5_waterOf) [.ref kd3] dX5_dropTheDry_21 rfl wmX5_165 imX5_waterOf seX5_waterOf lkX5_waterOf (kStrip_0 hk0) rc5 (Nat.le_of_ble_eq_true rfl) ((x_X5_waterOf hk0 hkd3 ep4).mono (by omega)) ?_
      refine e_if_le (tgt := 49) dX5_dropTheDry_24 (by decide) (fun c11 => ?_) (fun c11 => ?_)
      · rw [if_pos c11] at h
        refine e_sub [1, 2, 3] rfl ?_
        exact b_X5_dropTheDry_49 (fun v k0 a1 a2 hk0 hh => ih v k0 a1 a2 hk0 hh) hk0 h
      · rw [if_neg c11] at h
        refine e_aload_n dX5_dropTheDry_27 rfl ?_
        refine e_get (w := .ref (k0 + 13)) (j := 9) dX5_dropTheDry_28 (kStrip_0 hk0) rc5 (by decide) wfX5_48 (gStrip_9 hk0) ?_
        refine e_iload_n dX5_dropTheDry_31 rfl ?_
        refine e_aload_n dX5_dropTheDry_32 rfl ?_
        refine e_get (w := .ref (k0 + 13)) (j := 9) dX5_dropTheDry_33 (kStrip_0 hk0) rc5 (by decide) wfX5_48 (gStrip_9 hk0) ?_
        refine e_iload_n dX5_dropTheDry_36 rfl ?_
        obtain ⟨c6, h⟩ := grd h
        obtain ⟨kd7, ekd7, h⟩ := Option.bind_eq_some_iff.mp h
        obtain ⟨hkd7, h⟩ := grd h
        refine e_aaldJ (w := .ref kd7) dX5_dropTheDry_37 (kStrip_13 hk0) rfl rfl c6.2 c6.1 (body_v hk0 ekd7) ?_
        refine e_aastJ dX5_dropTheDry_38 (kStrip_13 hk0) (kBody_0 hkd7) rc0 rfl (c2).2 (c2).1 (sBodies hk0) ?_
        obtain ⟨v8, ev8, h⟩ := vlet_ex h
        refine e_nameV ev8.symm ?_
        clear ev8
        refine e_aload_n dX5_dropTheDry_39 rfl ?_
        refine e_get (w := .ref (k0 + 13)) (j := 9) dX5_dropTheDry_40 (kStrip_0 hk0) rc5 (by decide) wfX5_48 (gStrip_9 hk0) ?_
        refine e_iload_n dX5_dropTheDry_43 rfl ?_
        refine e_aload_n dX5_dropTheDry_44 rfl ?_
        refine e_aastJ dX5_dropTheDry_45 (kStrip_13 hk0) (kBody_0 hkd3) rc0 rfl (c6).2 (c6).1 (sBodies hk0) ?_
        obtain ⟨v9, ev9, h⟩ := vlet_ex h
        refine e_nameV ev9.symm ?_
        clear ev9
        obtain ⟨x10, ex10, h⟩ := vlet_ex h
        refine e_iinc (lv' := [(1, .int x10), (3, .ref kd3), (0, .ref k0), (2, .int a2)]) dX5_dropTheDry_46 rfl (ex10.symm) (by decide) rfl ?_
        clear ex10
        refine e_sub [2, 0, 3] rfl ?_
        exact b_X5_dropTheDry_49 (fun v k0 a1 a2 hk0 hh => ih v k0 a1 a2 hk0 hh) hk0 h
set_option maxRecDepth 20000 in
theorem x_X5_dropTheDry {X : Nat × (Nat → Int32)} {v : rV} {r : rV} {k0 : Nat} (hk0 : isStrip k0 = true) (h : f_X5_dropTheDry v k0 = some r) : EvM mX5_dropTheDry 2 0 0 [.ref k0] (rZ X) v (rPV X r) := by
  refine evm_of (by decide +kernel) (fun G => Nat.le_of_ble_eq_true rfl) ?_
  show Ev mX5_dropTheDry 2 0 0 0 [(0, .ref k0)] [] (rZ X) v _
  unfold f_X5_dropTheDry at h
  refine e_iconst (x := (0 : Int32)) dX5_dropTheDry_0 (by decide) ?_
  refine e_istore_n (lv' := [(1, .int (0 : Int32)), (0, .ref k0)]) dX5_dropTheDry_1 (by decide) rfl ?_
  refine e_iconst (x := (0 : Int32)) dX5_dropTheDry_2 (by decide) ?_
  refine e_istore_n (lv' := [(2, .int (0 : Int32)), (1, .int (0 : Int32)), (0, .ref k0)]) dX5_dropTheDry_3 (by decide) rfl ?_
  refine e_sub [2, 1, 0] rfl ?_
  exact b_X5_dropTheDry_4  _ v k0 (0 : Int32) (0 : Int32) hk0 h
def f_X5_evaporate_59   : Nat → rV → Nat → Nat → Int32 → Option (rV)
  | 0, _, _, _, _ => none
  | n + 1, v, k0, k1, a2 => if (v.1 k1 3) < a2 then
  (some v)
else
  (vlet (rI v (k0 + 3) 0 (if ((v.1 k1 3) - a2) < (a2 - (v.1 k1 2)) then ((v.1 k1 3) - a2) else (a2 - (v.1 k1 2)))) fun v8 =>
  if ¬ a2 < 0 ∧ a2.toNatClampNeg < 24 then
  (vlet (rI v8 (k0 + 3) 1 (v8.1 (k0 + 1) a2.toNatClampNeg)) fun v10 =>
  vlet (rI v10 (k0 + 3) 2 ((v10.1 (k0 + 5 + 0) a2.toNatClampNeg) + (v10.1 (k0 + 5 + 1) a2.toNatClampNeg))) fun v11 =>
  match v11.2.2 k0 13 with
  | none => (none)
  | some kd12 => if isForm kd12 = true then ((f_X2_worth v11 kd12 (k0 + 3)).bind fun p13 =>
  vlet (if (0 : Int32) < (if p13.1 < (v11.1 (k0 + 1) a2.toNatClampNeg) then p13.1 else (v11.1 (k0 + 1) a2.toNatClampNeg)) then (if p13.1 < (v11.1 (k0 + 1) a2.toNatClampNeg) then p13.1 else (v11.1 (k0 + 1) a2.toNatClampNeg)) else (0 : Int32) : Int32) fun x14 =>
  vlet (x14 - ((x14 * (p13.2.1 (k1 + 1) 6)) / (100 : Int32)) : Int32) fun x15 =>
  vlet (rI p13.2 (k0 + 1) a2.toNatClampNeg ((p13.2.1 (k0 + 1) a2.toNatClampNeg) - x15)) fun v16 =>
  vlet (rI v16 k0 16 ((v16.1 k0 16) + x15)) fun v17 =>
  vlet (a2 + (1 : Int32)) fun x18 =>
  f_X5_evaporate_59  n v17 k0 k1 x18) else none)
else none)
def f_X5_evaporate (v : rV) (k0 : Nat) (k1 : Nat) : Option (rV) := match v.2.2 k0 13 with
  | none => (some v)
  | some kd1 => if isForm kd1 = true then (vlet (rI v (k0 + 3) 3 (v.1 k0 15)) fun v2 =>
  vlet (rI v2 (k0 + 3) 4 (v2.1 (k1 + 1) 5)) fun v3 =>
  vlet (rI v3 (k0 + 3) 5 (v3.1 (k1 + 1) 6)) fun v4 =>
  vlet (rI v4 (k0 + 3) 6 (f_X0_width v4 k1)) fun v6 =>
  vlet (v6.1 k1 2 : Int32) fun x7 =>
  f_X5_evaporate_59  20000 v6 k0 k1 x7) else none
set_option maxRecDepth 20000 in
theorem b_X5_evaporate_59 {X : Nat × (Nat → Int32)} {r : rV}   : ∀ (n : Nat) (v : rV) (k0 : Nat) (k1 : Nat) (a2 : Int32) (hk0 : isStrip k0 = true) (hk1 : isBody k1 = true), f_X5_evaporate_59   n v k0 k1 a2 = some r → Ev mX5_evaporate 3 0 0 59 [(0, .ref k0), (1, .ref k1), (2, .int a2)] [] (rZ X) v (rPV X r) := by
  intro n
  induction n with
  | zero =>
    intros
    rename_i h
    cases h
  | succ n ih =>
    intro v k0 k1 a2 hk0 hk1 h
    rw [f_X5_evaporate_59] at h
    refine e_iload_n dX5_evaporate_59 rfl ?_
    refine e_aload_n dX5_evaporate_60 rfl ?_
    refine e_get (w := .int (v.1 k1 3)) (j := 3) dX5_evaporate_61 (kBody_0 hk1) rc0 (by decide) wfX5_86 rfl ?_
    refine e_icmp_gt (tgt := 189) dX5_evaporate_64 (by decide) (fun c19 => ?_) (fun c19 => ?_)
    · rw [if_pos c19] at h
      obtain rfl := Option.some.inj h
      exact e_ret dX5_evaporate_189 rfl ⟨rfl, rfl, rfl⟩
    · rw [if_neg c19] at h
      refine e_aload_n dX5_evaporate_67 rfl ?_
      refine e_get (w := .ref (k0 + 3)) (j := 2) dX5_evaporate_68 (kStrip_0 hk0) rc5 (by decide) wfX5_26 (gStrip_2 hk0) ?_
      refine e_iconst (x := (0 : Int32)) dX5_evaporate_71 (by decide) ?_
      refine e_iload_n dX5_evaporate_72 rfl ?_
      refine e_aload_n dX5_evaporate_73 rfl ?_
      refine e_get (w := .int (v.1 k1 2)) (j := 2) dX5_evaporate_74 (kBody_0 hk1) rc0 (by decide) wfX5_97 rfl ?_
      refine e_isub dX5_evaporate_77 ?_
      refine e_aload_n dX5_evaporate_78 rfl ?_
      refine e_get (w := .int (v.1 k1 3)) (j := 3) dX5_evaporate_79 (kBody_0 hk1) rc0 (by decide) wfX5_86 rfl ?_
      refine e_iload_n dX5_evaporate_82 rfl ?_
      refine e_isub dX5_evaporate_83 ?_
      refine e_min dX5_evaporate_84 wmX5_150 wmst_min winimath wmcd_min (by omega) (Nat.le_of_ble_eq_true rfl) ?_
      refine e_iastJ dX5_evaporate_87 (kStrip_3 hk0) (j := 0) (by decide) (by decide) (by decide) ?_
      obtain ⟨v8, ev8, h⟩ := vlet_ex h
      refine e_nameV ev8.symm ?_
      clear ev8
      refine e_aload_n dX5_evaporate_88 rfl ?_
      refine e_get (w := .ref (k0 + 3)) (j := 2) dX5_evaporate_89 (kStrip_0 hk0) rc5 (by decide) wfX5_26 (gStrip_2 hk0) ?_
      refine e_iconst (x := (1 : Int32)) dX5_evaporate_92 (by decide) ?_
      refine e_aload_n dX5_evaporate_93 rfl ?_
      refine e_get (w := .ref (k0 + 1)) (j := 0) dX5_evaporate_94 (kStrip_0 hk0) rc5 (by decide) wfX5_9 (gStrip_0 hk0) ?_
      refine e_iload_n dX5_evaporate_97 rfl ?_
      obtain ⟨c9, h⟩ := grd h
      refine e_ialdJ dX5_evaporate_98 (kStrip_1 hk0) rfl c9.2 c9.1 ?_
      refine e_iastJ dX5_evaporate_99 (kStrip_3 hk0) (j := 1) (by decide) (by decide) (by decide) ?_
      obtain ⟨v10, ev10, h⟩ := vlet_ex h
      refine e_nameV ev10.symm ?_
      clear ev10
      refine e_aload_n dX5_evaporate_100 rfl ?_
      refine e_get (w := .ref (k0 + 3)) (j := 2) dX5_evaporate_101 (kStrip_0 hk0) rc5 (by decide) wfX5_26 (gStrip_2 hk0) ?_
      refine e_iconst (x := (2 : Int32)) dX5_evaporate_104 (by decide) ?_
      refine e_aload_n dX5_evaporate_105 rfl ?_
      refine e_get (w := .ref (k0 + 4)) (j := 4) dX5_evaporate_106 (kStrip_0 hk0) rc5 (by decide) wfX5_31 (gStrip_4 hk0) ?_
      refine e_iconst (x := (0 : Int32)) dX5_evaporate_109 (by decide) ?_
      refine e_aaldJ dX5_evaporate_110 (kStrip_4 hk0) rfl (j := 0) (by decide) (by decide) (by decide) (rStrip_4 hk0 (by decide)) ?_
      refine e_iload_n dX5_evaporate_111 rfl ?_
      refine e_ialdJ dX5_evaporate_112 (qStrip_4 hk0 (by decide)) rfl (c9).2 (c9).1 ?_
      refine e_aload_n dX5_evaporate_113 rfl ?_
      refine e_get (w := .ref (k0 + 4)) (j := 4) dX5_evaporate_114 (kStrip_0 hk0) rc5 (by decide) wfX5_31 (gStrip_4 hk0) ?_
      refine e_iconst (x := (1 : Int32)) dX5_evaporate_117 (by decide) ?_
      refine e_aaldJ dX5_evaporate_118 (kStrip_4 hk0) rfl (j := 1) (by decide) (by decide) (by decide) (rStrip_4 hk0 (by decide)) ?_
      refine e_iload_n dX5_evaporate_119 rfl ?_
      refine e_ialdJ dX5_evaporate_120 (qStrip_4 hk0 (by decide)) rfl (c9).2 (c9).1 ?_
      refine e_iadd dX5_evaporate_121 ?_
      refine e_iastJ dX5_evaporate_122 (kStrip_3 hk0) (j := 2) (by decide) (by decide) (by decide) ?_
      obtain ⟨v11, ev11, h⟩ := vlet_ex h
      refine e_nameV ev11.symm ?_
      clear ev11
      refine e_iconst (x := (0 : Int32)) dX5_evaporate_123 (by decide) ?_
      refine e_aload_n dX5_evaporate_124 rfl ?_
      refine e_get (w := .ref (k0 + 1)) (j := 0) dX5_evaporate_125 (kStrip_0 hk0) rc5 (by decide) wfX5_9 (gStrip_0 hk0) ?_
      refine e_iload_n dX5_evaporate_128 rfl ?_
      refine e_ialdJ dX5_evaporate_129 (kStrip_1 hk0) rfl (c9).2 (c9).1 ?_
      refine e_aload_n dX5_evaporate_130 rfl ?_
      rcases ekd12 : v11.2.2 k0 13 with _ | kd12
      · rw [ekd12] at h
        refine e_get (w := .null) (j := 13) dX5_evaporate_131 (kStrip_0 hk0) rc5 (by decide) wfX5_63 (law_v (dStrip_law hk0) ekd12) ?_
        refine e_aload_n dX5_evaporate_134 rfl ?_
        refine e_get (w := .ref (k0 + 3)) (j := 2) dX5_evaporate_135 (kStrip_0 hk0) rc5 (by decide) wfX5_26 (gStrip_2 hk0) ?_
        cases h
      · rw [ekd12] at h
        obtain ⟨hkd12, h⟩ := grd h
        refine e_get (w := .ref kd12) (j := 13) dX5_evaporate_131 (kStrip_0 hk0) rc5 (by decide) wfX5_63 (law_v (dStrip_law hk0) ekd12) ?_
        refine e_aload_n dX5_evaporate_134 rfl ?_
        refine e_get (w := .ref (k0 + 3)) (j := 2) dX5_evaporate_135 (kStrip_0 hk0) rc5 (by decide) wfX5_26 (gStrip_2 hk0) ?_
        obtain ⟨p13, ep13, h⟩ := Option.bind_eq_some_iff.mp h
        refine c_VI (M' := mX2_worth) [.ref (k0 + 3)] dX5_evaporate_138 rfl wmX5_156 imX2_worth seX2_worth lkX2_worth (kForm_0 hkd12) rc2 (Nat.le_of_ble_eq_true rfl) ((x_X2_worth hkd12 (kStrip_3 (X := X) hk0) ep13).mono (by omega)) ?_
        refine e_min dX5_evaporate_141 wmX5_150 wmst_min winimath wmcd_min (by omega) (Nat.le_of_ble_eq_true rfl) ?_
        refine e_max dX5_evaporate_144 wmX5_162 wmst_max winimath wmcd_max (by omega) (Nat.le_of_ble_eq_true rfl) ?_
        obtain ⟨x14, ex14, h⟩ := vlet_ex h
        refine e_nameI ex14.symm ?_
        clear ex14
        refine e_istore_n (lv' := [(3, .int x14), (0, .ref k0), (1, .ref k1), (2, .int a2)]) dX5_evaporate_147 (by decide) rfl ?_
        refine e_iload_n dX5_evaporate_148 rfl ?_
        refine e_iload_n dX5_evaporate_149 rfl ?_
        refine e_aload_n dX5_evaporate_150 rfl ?_
        refine e_get (w := .ref (k1 + 1)) (j := 0) dX5_evaporate_151 (kBody_0 hk1) rc0 (by decide) wfX5_100 (gBody_0 hk1) ?_
        refine e_bipush (x := (6 : Int32)) dX5_evaporate_154 (by decide) ?_
        refine e_ialdJ dX5_evaporate_156 (kBody_1 hk1) (j := 6) (by decide) (by decide) (by decide) ?_
        refine e_imul dX5_evaporate_157 ?_
        refine e_bipush (x := (100 : Int32)) dX5_evaporate_158 (by decide) ?_
        refine e_idiv dX5_evaporate_160 (by decide) ?_
        refine e_isub dX5_evaporate_161 ?_
        obtain ⟨x15, ex15, h⟩ := vlet_ex h
        refine e_nameI ex15.symm ?_
        clear ex15
        refine e_istore_n (lv' := [(3, .int x15), (0, .ref k0), (1, .ref k1), (2, .int a2)]) dX5_evaporate_162 (by decide) rfl ?_
        refine e_aload_n dX5_evaporate_163 rfl ?_
        refine e_get (w := .ref (k0 + 1)) (j := 0) dX5_evaporate_164 (kStrip_0 hk0) rc5 (by decide) wfX5_9 (gStrip_0 hk0) ?_
        refine e_iload_n dX5_evaporate_167 rfl ?_
        refine e_dup2 dX5_evaporate_168 rfl rfl ?_
        refine e_ialdJ dX5_evaporate_169 (kStrip_1 hk0) rfl (c9).2 (c9).1 ?_
        refine e_iload_n dX5_evaporate_170 rfl ?_
        refine e_isub dX5_evaporate_171 ?_
        refine e_iastJ dX5_evaporate_172 (kStrip_1 hk0) rfl (c9).2 (c9).1 ?_
        obtain ⟨v16, ev16, h⟩ := vlet_ex h
        refine e_nameV ev16.symm ?_
        clear ev16
        refine e_aload_n dX5_evaporate_173 rfl ?_
        refine e_dup dX5_evaporate_174 rfl ?_
        refine e_get (w := .int (v16.1 k0 16)) (j := 16) dX5_evaporate_175 (kStrip_0 hk0) rc5 (by decide) wfX5_74 rfl ?_
        refine e_iload_n dX5_evaporate_178 rfl ?_
        refine e_iadd dX5_evaporate_179 ?_
        refine e_putI (j := 16) dX5_evaporate_180 (kStrip_0 hk0) rc5 (by decide) wfX5_74 rfl rfl ?_
        obtain ⟨v17, ev17, h⟩ := vlet_ex h
        refine e_nameV ev17.symm ?_
        clear ev17
        obtain ⟨x18, ex18, h⟩ := vlet_ex h
        refine e_iinc (lv' := [(2, .int x18), (3, .int x15), (0, .ref k0), (1, .ref k1)]) dX5_evaporate_183 rfl (ex18.symm) (by decide) rfl ?_
        clear ex18
        refine e_goto (tgt := 59) dX5_evaporate_186 (by decide) ?_
        refine e_sub [2, 3, 0] rfl ?_
        exact ih v17 k0 k1 x18 hk0 hk1 h
set_option maxRecDepth 20000 in
theorem x_X5_evaporate {X : Nat × (Nat → Int32)} {v : rV} {r : rV} {k0 : Nat} {k1 : Nat} (hk0 : isStrip k0 = true) (hk1 : isBody k1 = true) (h : f_X5_evaporate v k0 k1 = some r) : EvM mX5_evaporate 3 0 0 [.ref k0, .ref k1] (rZ X) v (rPV X r) := by
  refine evm_of (by decide +kernel) (fun G => Nat.le_of_ble_eq_true rfl) ?_
  show Ev mX5_evaporate 3 0 0 0 [(0, .ref k0), (1, .ref k1)] [] (rZ X) v _
  unfold f_X5_evaporate at h
  refine e_aload_n dX5_evaporate_0 rfl ?_
  rcases ekd1 : v.2.2 k0 13 with _ | kd1
  · rw [ekd1] at h
    refine e_get (w := .null) (j := 13) dX5_evaporate_1 (kStrip_0 hk0) rc5 (by decide) wfX5_63 (law_v (dStrip_law hk0) ekd1) ?_
    refine e_ifnonnullN dX5_evaporate_4 ?_
    obtain rfl := Option.some.inj h
    exact e_ret dX5_evaporate_7 rfl ⟨rfl, rfl, rfl⟩
  · rw [ekd1] at h
    obtain ⟨hkd1, h⟩ := grd h
    refine e_get (w := .ref kd1) (j := 13) dX5_evaporate_1 (kStrip_0 hk0) rc5 (by decide) wfX5_63 (law_v (dStrip_law hk0) ekd1) ?_
    refine e_ifnonnull (tgt := 8) dX5_evaporate_4 (by decide) ?_
    refine e_aload_n dX5_evaporate_8 rfl ?_
    refine e_get (w := .ref (k0 + 3)) (j := 2) dX5_evaporate_9 (kStrip_0 hk0) rc5 (by decide) wfX5_26 (gStrip_2 hk0) ?_
    refine e_iconst (x := (3 : Int32)) dX5_evaporate_12 (by decide) ?_
    refine e_aload_n dX5_evaporate_13 rfl ?_
    refine e_get (w := .int (v.1 k0 15)) (j := 15) dX5_evaporate_14 (kStrip_0 hk0) rc5 (by decide) wfX5_71 rfl ?_
    refine e_iastJ dX5_evaporate_17 (kStrip_3 hk0) (j := 3) (by decide) (by decide) (by decide) ?_
    obtain ⟨v2, ev2, h⟩ := vlet_ex h
    refine e_nameV ev2.symm ?_
    clear ev2
    refine e_aload_n dX5_evaporate_18 rfl ?_
    refine e_get (w := .ref (k0 + 3)) (j := 2) dX5_evaporate_19 (kStrip_0 hk0) rc5 (by decide) wfX5_26 (gStrip_2 hk0) ?_
    refine e_iconst (x := (4 : Int32)) dX5_evaporate_22 (by decide) ?_
    refine e_aload_n dX5_evaporate_23 rfl ?_
    refine e_get (w := .ref (k1 + 1)) (j := 0) dX5_evaporate_24 (kBody_0 hk1) rc0 (by decide) wfX5_100 (gBody_0 hk1) ?_
    refine e_iconst (x := (5 : Int32)) dX5_evaporate_27 (by decide) ?_
    refine e_ialdJ dX5_evaporate_28 (kBody_1 hk1) (j := 5) (by decide) (by decide) (by decide) ?_
    refine e_iastJ dX5_evaporate_29 (kStrip_3 hk0) (j := 4) (by decide) (by decide) (by decide) ?_
    obtain ⟨v3, ev3, h⟩ := vlet_ex h
    refine e_nameV ev3.symm ?_
    clear ev3
    refine e_aload_n dX5_evaporate_30 rfl ?_
    refine e_get (w := .ref (k0 + 3)) (j := 2) dX5_evaporate_31 (kStrip_0 hk0) rc5 (by decide) wfX5_26 (gStrip_2 hk0) ?_
    refine e_iconst (x := (5 : Int32)) dX5_evaporate_34 (by decide) ?_
    refine e_aload_n dX5_evaporate_35 rfl ?_
    refine e_get (w := .ref (k1 + 1)) (j := 0) dX5_evaporate_36 (kBody_0 hk1) rc0 (by decide) wfX5_100 (gBody_0 hk1) ?_
    refine e_bipush (x := (6 : Int32)) dX5_evaporate_39 (by decide) ?_
    refine e_ialdJ dX5_evaporate_41 (kBody_1 hk1) (j := 6) (by decide) (by decide) (by decide) ?_
    refine e_iastJ dX5_evaporate_42 (kStrip_3 hk0) (j := 5) (by decide) (by decide) (by decide) ?_
    obtain ⟨v4, ev4, h⟩ := vlet_ex h
    refine e_nameV ev4.symm ?_
    clear ev4
    refine e_aload_n dX5_evaporate_43 rfl ?_
    refine e_get (w := .ref (k0 + 3)) (j := 2) dX5_evaporate_44 (kStrip_0 hk0) rc5 (by decide) wfX5_26 (gStrip_2 hk0) ?_
    refine e_bipush (x := (6 : Int32)) dX5_evaporate_47 (by decide) ?_
    refine e_aload_n dX5_evaporate_49 rfl ?_
    refine c_VI (M' := mX0_width) [] dX5_evaporate_50 rfl wmX5_111 imX0_width seX0_width lkX0_width (kBody_0 hk1) rc0 (Nat.le_of_ble_eq_true rfl) ((x_X0_width hk1).mono (by omega)) ?_
    refine e_iastJ dX5_evaporate_53 (kStrip_3 hk0) (j := 6) (by decide) (by decide) (by decide) ?_
    obtain ⟨v6, ev6, h⟩ := vlet_ex h
    refine e_nameV ev6.symm ?_
    clear ev6
    refine e_aload_n dX5_evaporate_54 rfl ?_
    refine e_get (w := .int (v6.1 k1 2)) (j := 2) dX5_evaporate_55 (kBody_0 hk1) rc0 (by decide) wfX5_97 rfl ?_
    obtain ⟨x7, ex7, h⟩ := vlet_ex h
    refine e_nameI ex7.symm ?_
    clear ex7
    refine e_istore_n (lv' := [(2, .int x7), (0, .ref k0), (1, .ref k1)]) dX5_evaporate_58 (by decide) rfl ?_
    refine e_sub [1, 2, 0] rfl ?_
    exact b_X5_evaporate_59  _ v6 k0 k1 x7 hk0 hk1 h
def f_X5_even_54 (v : rV) (q6 : Nat → Int32 → Int32 → Int32 → Option (Int32)) (k0 : Nat) (a1 : Int32) (a2 : Int32) (a3 : Int32) : Option (Int32) := vlet (a3 + (1 : Int32)) fun x3 =>
  q6 k0 a1 a2 x3
def f_X5_even_46 (v : rV) (q6 : Nat → Int32 → Int32 → Int32 → Option (Int32)) (k0 : Nat) (a1 : Int32) (a3 : Int32) (a4 : Int32) (s0 : Int32) : Option (Int32) := vlet (if a1 < a4 then a4 else a1 : Int32) fun x5 =>
  f_X5_even_54 v q6 k0 x5 s0 a3
def f_X5_even_6 (v : rV)  : Nat → Nat → Int32 → Int32 → Int32 → Option (Int32)
  | 0, _, _, _, _ => none
  | n + 1, k0, a1, a2, a3 => if (24 : Int32) ≤ a3 then
  (if a1 = (-1 : Int32) then
  (some (0 : Int32))
else
  (some (a1 - a2)))
else
  (if (f_X7_has (v.1 k0 11) a3) = true then
  ((f_X5_lyingAt v k0 a3).bind fun p4 =>
  if a1 = (-1 : Int32) then
  (f_X5_even_46 v (fun k0 a1 a2 a3 => f_X5_even_6 v n k0 a1 a2 a3) k0 a1 a3 p4 p4)
else
  (f_X5_even_46 v (fun k0 a1 a2 a3 => f_X5_even_6 v n k0 a1 a2 a3) k0 a1 a3 p4 (if p4 < a2 then p4 else a2)))
else
  (f_X5_even_54 v (fun k0 a1 a2 a3 => f_X5_even_6 v n k0 a1 a2 a3) k0 a1 a2 a3))
def f_X5_even (v : rV) (k0 : Nat) : Option (Int32) := f_X5_even_6 v 20000 k0 (-1 : Int32) (0 : Int32) (0 : Int32)
set_option maxRecDepth 20000 in
theorem b_X5_even_54 {X : Nat × (Nat → Int32)} {r : Int32} {v : rV} {q6 : Nat → Int32 → Int32 → Int32 → Option (Int32)} (hq6 : ∀ (k0 : Nat) (a1 : Int32) (a2 : Int32) (a3 : Int32) (hk0 : isStrip k0 = true), q6 k0 a1 a2 a3 = some r → Ev mX5_even 2 0 0 6 [(0, .ref k0), (1, .int a1), (2, .int a2), (3, .int a3)] [] (rZ X) v (rPI X (r, v))) {k0 : Nat} {a1 : Int32} {a2 : Int32} {a3 : Int32} (hk0 : isStrip k0 = true) (h : f_X5_even_54 v q6 k0 a1 a2 a3 = some r) : Ev mX5_even 2 0 0 54 [(0, .ref k0), (1, .int a1), (2, .int a2), (3, .int a3)] [] (rZ X) v (rPI X (r, v)) := by
  unfold f_X5_even_54 at h
  obtain ⟨x3, ex3, h⟩ := vlet_ex h
  refine e_iinc (lv' := [(3, .int x3), (0, .ref k0), (1, .int a1), (2, .int a2)]) dX5_even_54 rfl (ex3.symm) (by decide) rfl ?_
  clear ex3
  refine e_goto (tgt := 6) dX5_even_57 (by decide) ?_
  refine e_sub [1, 2, 3, 0] rfl ?_
  exact hq6 k0 a1 a2 x3 hk0 h
set_option maxRecDepth 20000 in
theorem b_X5_even_46 {X : Nat × (Nat → Int32)} {r : Int32} {v : rV} {q6 : Nat → Int32 → Int32 → Int32 → Option (Int32)} (hq6 : ∀ (k0 : Nat) (a1 : Int32) (a2 : Int32) (a3 : Int32) (hk0 : isStrip k0 = true), q6 k0 a1 a2 a3 = some r → Ev mX5_even 2 0 0 6 [(0, .ref k0), (1, .int a1), (2, .int a2), (3, .int a3)] [] (rZ X) v (rPI X (r, v))) {k0 : Nat} {a1 : Int32} {a3 : Int32} {a4 : Int32} {s0 : Int32} (hk0 : isStrip k0 = true) (h : f_X5_even_46 v q6 k0 a1 a3 a4 s0 = some r) : Ev mX5_even 2 0 0 46 [(0, .ref k0), (1, .int a1), (3, .int a3), (4, .int a4)] [.int s0] (rZ X) v (rPI X (r, v)) := by
  unfold f_X5_even_46 at h
  refine e_istore_n (lv' := [(2, .int s0), (0, .ref k0), (1, .int a1), (3, .int a3), (4, .int a4)]) dX5_even_46 (by decide) rfl ?_
  refine e_iload_n dX5_even_47 rfl ?_
  refine e_iload dX5_even_48 rfl ?_
  refine e_max dX5_even_50 wmX5_162 wmst_max winimath wmcd_max (by omega) (Nat.le_of_ble_eq_true rfl) ?_
  obtain ⟨x5, ex5, h⟩ := vlet_ex h
  refine e_nameI ex5.symm ?_
  clear ex5
  refine e_istore_n (lv' := [(1, .int x5), (2, .int s0), (0, .ref k0), (3, .int a3), (4, .int a4)]) dX5_even_53 (by decide) rfl ?_
  refine e_sub [2, 0, 1, 3] rfl ?_
  exact b_X5_even_54 hq6 hk0 h
set_option maxRecDepth 20000 in
theorem b_X5_even_6 {X : Nat × (Nat → Int32)} {r : Int32} {v : rV}   : ∀ (n : Nat) (k0 : Nat) (a1 : Int32) (a2 : Int32) (a3 : Int32) (hk0 : isStrip k0 = true), f_X5_even_6 v  n k0 a1 a2 a3 = some r → Ev mX5_even 2 0 0 6 [(0, .ref k0), (1, .int a1), (2, .int a2), (3, .int a3)] [] (rZ X) v (rPI X (r, v)) := by
  intro n
  induction n with
  | zero =>
    intros
    rename_i h
    cases h
  | succ n ih =>
    intro k0 a1 a2 a3 hk0 h
    rw [f_X5_even_6] at h
    refine e_iload_n dX5_even_6 rfl ?_
    refine e_bipush (x := (24 : Int32)) dX5_even_7 (by decide) ?_
    refine e_icmp_ge (tgt := 60) dX5_even_9 (by decide) (fun c8 => ?_) (fun c8 => ?_)
    · rw [if_pos c8] at h
      refine e_iload_n dX5_even_60 rfl ?_
      refine e_iconst (x := (-1 : Int32)) dX5_even_61 (by decide) ?_
      refine e_icmp_ne (tgt := 69) dX5_even_62 (by decide) (fun c1 => ?_) (fun c1 => ?_)
      · rw [if_neg c1] at h
        refine e_iload_n dX5_even_69 rfl ?_
        refine e_iload_n dX5_even_70 rfl ?_
        refine e_isub dX5_even_71 ?_
        obtain rfl := Option.some.inj h
        exact e_iret dX5_even_72 rfl rfl ⟨rfl, rfl, rfl⟩
      · rw [if_pos c1] at h
        refine e_iconst (x := (0 : Int32)) dX5_even_65 (by decide) ?_
        refine e_goto (tgt := 72) dX5_even_66 (by decide) ?_
        obtain rfl := Option.some.inj h
        exact e_iret dX5_even_72 rfl rfl ⟨rfl, rfl, rfl⟩
    · rw [if_neg c8] at h
      refine e_aload_n dX5_even_12 rfl ?_
      refine e_get (w := .int (v.1 k0 11)) (j := 11) dX5_even_13 (kStrip_0 hk0) rc5 (by decide) wfX5_57 rfl ?_
      refine e_iload_n dX5_even_16 rfl ?_
      refine c_SNZ (M' := mX7_has) [.int (v.1 k0 11), .int a3] dX5_even_17 rfl wmX5_211 stX7_has lkX7_has (Nat.le_of_ble_eq_true rfl) ((x_X7_has ).mono (by omega)) ?_
      refine e_if_eq (tgt := 54) dX5_even_20 (by decide) (fun c7 => ?_) (fun c7 => ?_)
      · rw [if_neg (bI_n c7)] at h
        exact b_X5_even_54 (fun k0 a1 a2 a3 hk0 hh => ih k0 a1 a2 a3 hk0 hh) hk0 h
      · rw [if_pos (bI_p c7)] at h
        refine e_aload_n dX5_even_23 rfl ?_
        refine e_iload_n dX5_even_24 rfl ?_
        obtain ⟨p4, ep4, h⟩ := Option.bind_eq_some_iff.mp h
        refine c_VI (M' := mX5_lyingAt) [.int a3] dX5_even_25 rfl wmX5_208 imX5_lyingAt seX5_lyingAt lkX5_lyingAt (kStrip_0 hk0) rc5 (Nat.le_of_ble_eq_true rfl) ((x_X5_lyingAt hk0 ep4).mono (by omega)) ?_
        refine e_istore (lv' := [(4, .int p4), (0, .ref k0), (1, .int a1), (2, .int a2), (3, .int a3)]) dX5_even_28 (by decide) rfl ?_
        refine e_iload_n dX5_even_30 rfl ?_
        refine e_iconst (x := (-1 : Int32)) dX5_even_31 (by decide) ?_
        refine e_icmp_ne (tgt := 40) dX5_even_32 (by decide) (fun c6 => ?_) (fun c6 => ?_)
        · rw [if_neg c6] at h
          refine e_iload_n dX5_even_40 rfl ?_
          refine e_iload dX5_even_41 rfl ?_
          refine e_min dX5_even_43 wmX5_150 wmst_min winimath wmcd_min (by omega) (Nat.le_of_ble_eq_true rfl) ?_
          refine e_sub [1, 2, 4, 0] rfl ?_
          exact b_X5_even_46 (fun k0 a1 a2 a3 hk0 hh => ih k0 a1 a2 a3 hk0 hh) hk0 h
        · rw [if_pos c6] at h
          refine e_iload dX5_even_35 rfl ?_
          refine e_goto (tgt := 46) dX5_even_37 (by decide) ?_
          refine e_sub [1, 2, 4, 0] rfl ?_
          exact b_X5_even_46 (fun k0 a1 a2 a3 hk0 hh => ih k0 a1 a2 a3 hk0 hh) hk0 h
set_option maxRecDepth 20000 in
theorem x_X5_even {X : Nat × (Nat → Int32)} {v : rV} {r : Int32} {k0 : Nat} (hk0 : isStrip k0 = true) (h : f_X5_even v k0 = some r) : EvM mX5_even 2 0 0 [.ref k0] (rZ X) v (rPI X (r, v)) := by
  refine evm_of (by decide +kernel) (fun G => Nat.le_of_ble_eq_true rfl) ?_
  show Ev mX5_even 2 0 0 0 [(0, .ref k0)] [] (rZ X) v _
  unfold f_X5_even at h
  refine e_iconst (x := (-1 : Int32)) dX5_even_0 (by decide) ?_
  refine e_istore_n (lv' := [(1, .int (-1 : Int32)), (0, .ref k0)]) dX5_even_1 (by decide) rfl ?_
  refine e_iconst (x := (0 : Int32)) dX5_even_2 (by decide) ?_
  refine e_istore_n (lv' := [(2, .int (0 : Int32)), (1, .int (-1 : Int32)), (0, .ref k0)]) dX5_even_3 (by decide) rfl ?_
  refine e_iconst (x := (0 : Int32)) dX5_even_4 (by decide) ?_
  refine e_istore_n (lv' := [(3, .int (0 : Int32)), (2, .int (0 : Int32)), (1, .int (-1 : Int32)), (0, .ref k0)]) dX5_even_5 (by decide) rfl ?_
  refine e_sub [3, 2, 1, 0] rfl ?_
  exact b_X5_even_6  _ k0 (-1 : Int32) (0 : Int32) (0 : Int32) hk0 h
def f_X5_farthestFrom_4 (v : rV)  : Nat → Nat → Nat → Int32 → Int32 → Option (Int32)
  | 0, _, _, _, _ => none
  | n + 1, k0, k1, a2, a3 => if (24 : Int32) ≤ a3 then
  (some a2)
else
  (if (24 : Int32) ≤ a3 then
  (some a2)
else
  ((f_X5_lyingAt v k0 a3).bind fun p1 =>
  if ¬ a3 < 0 ∧ a3.toNatClampNeg < 24 then
  (vlet (if a2 < (if 0 ≤ (p1 - (v.1 k1 a3.toNatClampNeg)) then (p1 - (v.1 k1 a3.toNatClampNeg)) else 0 - (p1 - (v.1 k1 a3.toNatClampNeg))) then (if 0 ≤ (p1 - (v.1 k1 a3.toNatClampNeg)) then (p1 - (v.1 k1 a3.toNatClampNeg)) else 0 - (p1 - (v.1 k1 a3.toNatClampNeg))) else a2 : Int32) fun x3 =>
  vlet (a3 + (1 : Int32)) fun x4 =>
  f_X5_farthestFrom_4 v n k0 k1 x3 x4)
else none))
def f_X5_farthestFrom (v : rV) (k0 : Nat) (k1 : Nat) : Option (Int32) := f_X5_farthestFrom_4 v 20000 k0 k1 (0 : Int32) (0 : Int32)
set_option maxRecDepth 20000 in
theorem b_X5_farthestFrom_4 {X : Nat × (Nat → Int32)} {r : Int32} {v : rV}   : ∀ (n : Nat) (k0 : Nat) (k1 : Nat) (a2 : Int32) (a3 : Int32) (hk0 : isStrip k0 = true) (hk1 : isIA k1 24), f_X5_farthestFrom_4 v  n k0 k1 a2 a3 = some r → Ev mX5_farthestFrom 2 0 0 4 [(0, .ref k0), (1, .ref k1), (2, .int a2), (3, .int a3)] [] (rZ X) v (rPI X (r, v)) := by
  intro n
  induction n with
  | zero =>
    intros
    rename_i h
    cases h
  | succ n ih =>
    intro k0 k1 a2 a3 hk0 hk1 h
    rw [f_X5_farthestFrom_4] at h
    refine e_iload_n dX5_farthestFrom_4 rfl ?_
    refine e_bipush (x := (24 : Int32)) dX5_farthestFrom_5 (by decide) ?_
    refine e_icmp_ge (tgt := 39) dX5_farthestFrom_7 (by decide) (fun c6 => ?_) (fun c6 => ?_)
    · rw [if_pos c6] at h
      refine e_iload_n dX5_farthestFrom_39 rfl ?_
      obtain rfl := Option.some.inj h
      exact e_iret dX5_farthestFrom_40 rfl rfl ⟨rfl, rfl, rfl⟩
    · rw [if_neg c6] at h
      refine e_iload_n dX5_farthestFrom_10 rfl ?_
      refine e_aload_n dX5_farthestFrom_11 rfl ?_
      refine e_alenJ (x := (24 : Int32)) dX5_farthestFrom_12 hk1 (Or.inl rfl) (by decide) ?_
      refine e_icmp_ge (tgt := 39) dX5_farthestFrom_13 (by decide) (fun c5 => ?_) (fun c5 => ?_)
      · rw [if_pos c5] at h
        refine e_iload_n dX5_farthestFrom_39 rfl ?_
        obtain rfl := Option.some.inj h
        exact e_iret dX5_farthestFrom_40 rfl rfl ⟨rfl, rfl, rfl⟩
      · rw [if_neg c5] at h
        refine e_iload_n dX5_farthestFrom_16 rfl ?_
        refine e_aload_n dX5_farthestFrom_17 rfl ?_
        refine e_iload_n dX5_farthestFrom_18 rfl ?_
        obtain ⟨p1, ep1, h⟩ := Option.bind_eq_some_iff.mp h
        refine c_VI (M' := mX5_lyingAt) [.int a3] dX5_farthestFrom_19 rfl wmX5_208 imX5_lyingAt seX5_lyingAt lkX5_lyingAt (kStrip_0 hk0) rc5 (Nat.le_of_ble_eq_true rfl) ((x_X5_lyingAt hk0 ep1).mono (by omega)) ?_
        refine e_aload_n dX5_farthestFrom_22 rfl ?_
        refine e_iload_n dX5_farthestFrom_23 rfl ?_
        obtain ⟨c2, h⟩ := grd h
        refine e_ialdJ dX5_farthestFrom_24 hk1 rfl c2.2 c2.1 ?_
        refine e_isub dX5_farthestFrom_25 ?_
        refine e_abs dX5_farthestFrom_26 wmX5_218 wmst_abs winimath wmcd_abs (by omega) (Nat.le_of_ble_eq_true rfl) ?_
        refine e_max dX5_farthestFrom_29 wmX5_162 wmst_max winimath wmcd_max (by omega) (Nat.le_of_ble_eq_true rfl) ?_
        obtain ⟨x3, ex3, h⟩ := vlet_ex h
        refine e_nameI ex3.symm ?_
        clear ex3
        refine e_istore_n (lv' := [(2, .int x3), (0, .ref k0), (1, .ref k1), (3, .int a3)]) dX5_farthestFrom_32 (by decide) rfl ?_
        obtain ⟨x4, ex4, h⟩ := vlet_ex h
        refine e_iinc (lv' := [(3, .int x4), (2, .int x3), (0, .ref k0), (1, .ref k1)]) dX5_farthestFrom_33 rfl (ex4.symm) (by decide) rfl ?_
        clear ex4
        refine e_goto (tgt := 4) dX5_farthestFrom_36 (by decide) ?_
        refine e_sub [2, 3, 1, 0] rfl ?_
        exact ih k0 k1 x3 x4 hk0 hk1 h
set_option maxRecDepth 20000 in
theorem x_X5_farthestFrom {X : Nat × (Nat → Int32)} {v : rV} {r : Int32} {k0 : Nat} {k1 : Nat} (hk0 : isStrip k0 = true) (hk1 : isIA k1 24) (h : f_X5_farthestFrom v k0 k1 = some r) : EvM mX5_farthestFrom 2 0 0 [.ref k0, .ref k1] (rZ X) v (rPI X (r, v)) := by
  refine evm_of (by decide +kernel) (fun G => Nat.le_of_ble_eq_true rfl) ?_
  show Ev mX5_farthestFrom 2 0 0 0 [(0, .ref k0), (1, .ref k1)] [] (rZ X) v _
  unfold f_X5_farthestFrom at h
  refine e_iconst (x := (0 : Int32)) dX5_farthestFrom_0 (by decide) ?_
  refine e_istore_n (lv' := [(2, .int (0 : Int32)), (0, .ref k0), (1, .ref k1)]) dX5_farthestFrom_1 (by decide) rfl ?_
  refine e_iconst (x := (0 : Int32)) dX5_farthestFrom_2 (by decide) ?_
  refine e_istore_n (lv' := [(3, .int (0 : Int32)), (2, .int (0 : Int32)), (0, .ref k0), (1, .ref k1)]) dX5_farthestFrom_3 (by decide) rfl ?_
  refine e_sub [2, 3, 1, 0] rfl ?_
  exact b_X5_farthestFrom_4  _ k0 k1 (0 : Int32) (0 : Int32) hk0 hk1 h
def f_X5_freeAll_4 (v : rV)  : Nat → Nat → Int32 → Int32 → Option (Int32)
  | 0, _, _, _ => none
  | n + 1, k0, a1, a2 => if (24 : Int32) ≤ a2 then
  (some a1)
else
  (if ¬ a2 < 0 ∧ a2.toNatClampNeg < 24 then
  (vlet (a1 + ((v.1 (k0 + 5 + 0) a2.toNatClampNeg) + (v.1 (k0 + 5 + 1) a2.toNatClampNeg)) : Int32) fun x2 =>
  vlet (a2 + (1 : Int32)) fun x3 =>
  f_X5_freeAll_4 v n k0 x2 x3)
else none)
def f_X5_freeAll (v : rV) (k0 : Nat) : Option (Int32) := f_X5_freeAll_4 v 20000 k0 (0 : Int32) (0 : Int32)
set_option maxRecDepth 20000 in
theorem b_X5_freeAll_4 {X : Nat × (Nat → Int32)} {r : Int32} {v : rV}   : ∀ (n : Nat) (k0 : Nat) (a1 : Int32) (a2 : Int32) (hk0 : isStrip k0 = true), f_X5_freeAll_4 v  n k0 a1 a2 = some r → Ev mX5_freeAll 1 0 0 4 [(0, .ref k0), (1, .int a1), (2, .int a2)] [] (rZ X) v (rPI X (r, v)) := by
  intro n
  induction n with
  | zero =>
    intros
    rename_i h
    cases h
  | succ n ih =>
    intro k0 a1 a2 hk0 h
    rw [f_X5_freeAll_4] at h
    refine e_iload_n dX5_freeAll_4 rfl ?_
    refine e_bipush (x := (24 : Int32)) dX5_freeAll_5 (by decide) ?_
    refine e_icmp_ge (tgt := 36) dX5_freeAll_7 (by decide) (fun c4 => ?_) (fun c4 => ?_)
    · rw [if_pos c4] at h
      refine e_iload_n dX5_freeAll_36 rfl ?_
      obtain rfl := Option.some.inj h
      exact e_iret dX5_freeAll_37 rfl rfl ⟨rfl, rfl, rfl⟩
    · rw [if_neg c4] at h
      refine e_iload_n dX5_freeAll_10 rfl ?_
      refine e_aload_n dX5_freeAll_11 rfl ?_
      refine e_get (w := .ref (k0 + 4)) (j := 4) dX5_freeAll_12 (kStrip_0 hk0) rc5 (by decide) wfX5_31 (gStrip_4 hk0) ?_
      refine e_iconst (x := (0 : Int32)) dX5_freeAll_15 (by decide) ?_
      refine e_aaldJ dX5_freeAll_16 (kStrip_4 hk0) rfl (j := 0) (by decide) (by decide) (by decide) (rStrip_4 hk0 (by decide)) ?_
      refine e_iload_n dX5_freeAll_17 rfl ?_
      obtain ⟨c1, h⟩ := grd h
      refine e_ialdJ dX5_freeAll_18 (qStrip_4 hk0 (by decide)) rfl c1.2 c1.1 ?_
      refine e_aload_n dX5_freeAll_19 rfl ?_
      refine e_get (w := .ref (k0 + 4)) (j := 4) dX5_freeAll_20 (kStrip_0 hk0) rc5 (by decide) wfX5_31 (gStrip_4 hk0) ?_
      refine e_iconst (x := (1 : Int32)) dX5_freeAll_23 (by decide) ?_
      refine e_aaldJ dX5_freeAll_24 (kStrip_4 hk0) rfl (j := 1) (by decide) (by decide) (by decide) (rStrip_4 hk0 (by decide)) ?_
      refine e_iload_n dX5_freeAll_25 rfl ?_
      refine e_ialdJ dX5_freeAll_26 (qStrip_4 hk0 (by decide)) rfl (c1).2 (c1).1 ?_
      refine e_iadd dX5_freeAll_27 ?_
      refine e_iadd dX5_freeAll_28 ?_
      obtain ⟨x2, ex2, h⟩ := vlet_ex h
      refine e_nameI ex2.symm ?_
      clear ex2
      refine e_istore_n (lv' := [(1, .int x2), (0, .ref k0), (2, .int a2)]) dX5_freeAll_29 (by decide) rfl ?_
      obtain ⟨x3, ex3, h⟩ := vlet_ex h
      refine e_iinc (lv' := [(2, .int x3), (1, .int x2), (0, .ref k0)]) dX5_freeAll_30 rfl (ex3.symm) (by decide) rfl ?_
      clear ex3
      refine e_goto (tgt := 4) dX5_freeAll_33 (by decide) ?_
      refine e_sub [2, 1, 0] rfl ?_
      exact ih k0 x2 x3 hk0 h
set_option maxRecDepth 20000 in
theorem x_X5_freeAll {X : Nat × (Nat → Int32)} {v : rV} {r : Int32} {k0 : Nat} (hk0 : isStrip k0 = true) (h : f_X5_freeAll v k0 = some r) : EvM mX5_freeAll 1 0 0 [.ref k0] (rZ X) v (rPI X (r, v)) := by
  refine evm_of (by decide +kernel) (fun G => Nat.le_of_ble_eq_true rfl) ?_
  show Ev mX5_freeAll 1 0 0 0 [(0, .ref k0)] [] (rZ X) v _
  unfold f_X5_freeAll at h
  refine e_iconst (x := (0 : Int32)) dX5_freeAll_0 (by decide) ?_
  refine e_istore_n (lv' := [(1, .int (0 : Int32)), (0, .ref k0)]) dX5_freeAll_1 (by decide) rfl ?_
  refine e_iconst (x := (0 : Int32)) dX5_freeAll_2 (by decide) ?_
  refine e_istore_n (lv' := [(2, .int (0 : Int32)), (1, .int (0 : Int32)), (0, .ref k0)]) dX5_freeAll_3 (by decide) rfl ?_
  refine e_sub [2, 1, 0] rfl ?_
  exact b_X5_freeAll_4  _ k0 (0 : Int32) (0 : Int32) hk0 h
def f_X5_lieDown_71   (v : rV) (k0 : Nat) (a5 : Int32) : Option (rV) := vlet (rI v k0 3 ((v.1 k0 3) + a5)) fun v7 =>
  some v7
def f_X5_lieDown (v : rV) (k0 : Nat) (a1 : Int32) (a2 : Int32) (a3 : Int32) (a4 : Int32) : Option (rV) := if ¬ a1 < 0 ∧ a1.toNatClampNeg < 24 then
  (vlet (rI v (k0 + 5 + 0) a1.toNatClampNeg ((v.1 (k0 + 5 + 0) a1.toNatClampNeg) - a2)) fun v2 =>
  vlet (rI v2 (k0 + 5 + 1) a1.toNatClampNeg ((v2.1 (k0 + 5 + 1) a1.toNatClampNeg) - a3)) fun v3 =>
  vlet (rI v3 (k0 + 8 + 0) a1.toNatClampNeg ((v3.1 (k0 + 8 + 0) a1.toNatClampNeg) + a2)) fun v4 =>
  vlet (rI v4 (k0 + 8 + 1) a1.toNatClampNeg ((v4.1 (k0 + 8 + 1) a1.toNatClampNeg) + a3)) fun v5 =>
  vlet (a2 + a3 : Int32) fun x6 =>
  if x6 ≤ a4 then
  (f_X5_lieDown_71  v5 k0 x6)
else
  (vlet (rI v5 (k0 + 10) a1.toNatClampNeg ((v5.1 (k0 + 10) a1.toNatClampNeg) + x6)) fun v8 =>
  f_X5_lieDown_71  v8 k0 x6))
else none
set_option maxRecDepth 20000 in
theorem b_X5_lieDown_71 {X : Nat × (Nat → Int32)} {r : rV} {v : rV}   {k0 : Nat} {a5 : Int32} (hk0 : isStrip k0 = true) (h : f_X5_lieDown_71  v k0 a5 = some r) : Ev mX5_lieDown 1 0 0 71 [(0, .ref k0), (5, .int a5)] [] (rZ X) v (rPV X r) := by
  unfold f_X5_lieDown_71 at h
  refine e_aload_n dX5_lieDown_71 rfl ?_
  refine e_dup dX5_lieDown_72 rfl ?_
  refine e_get (w := .int (v.1 k0 3)) (j := 3) dX5_lieDown_73 (kStrip_0 hk0) rc5 (by decide) wfX5_122 rfl ?_
  refine e_iload dX5_lieDown_76 rfl ?_
  refine e_iadd dX5_lieDown_78 ?_
  refine e_putI (j := 3) dX5_lieDown_79 (kStrip_0 hk0) rc5 (by decide) wfX5_122 rfl rfl ?_
  obtain ⟨v7, ev7, h⟩ := vlet_ex h
  refine e_nameV ev7.symm ?_
  clear ev7
  obtain rfl := Option.some.inj h
  exact e_ret dX5_lieDown_82 rfl ⟨rfl, rfl, rfl⟩
set_option maxRecDepth 20000 in
theorem x_X5_lieDown {X : Nat × (Nat → Int32)} {v : rV} {r : rV} {k0 : Nat} {a1 : Int32} {a2 : Int32} {a3 : Int32} {a4 : Int32} (hk0 : isStrip k0 = true) (h : f_X5_lieDown v k0 a1 a2 a3 a4 = some r) : EvM mX5_lieDown 1 0 0 [.ref k0, .int a1, .int a2, .int a3, .int a4] (rZ X) v (rPV X r) := by
  refine evm_of (by decide +kernel) (fun G => Nat.le_of_ble_eq_true rfl) ?_
  show Ev mX5_lieDown 1 0 0 0 [(0, .ref k0), (1, .int a1), (2, .int a2), (3, .int a3), (4, .int a4)] [] (rZ X) v _
  unfold f_X5_lieDown at h
  refine e_aload_n dX5_lieDown_0 rfl ?_
  refine e_get (w := .ref (k0 + 4)) (j := 4) dX5_lieDown_1 (kStrip_0 hk0) rc5 (by decide) wfX5_31 (gStrip_4 hk0) ?_
  refine e_iconst (x := (0 : Int32)) dX5_lieDown_4 (by decide) ?_
  refine e_aaldJ dX5_lieDown_5 (kStrip_4 hk0) rfl (j := 0) (by decide) (by decide) (by decide) (rStrip_4 hk0 (by decide)) ?_
  refine e_iload_n dX5_lieDown_6 rfl ?_
  refine e_dup2 dX5_lieDown_7 rfl rfl ?_
  obtain ⟨c1, h⟩ := grd h
  refine e_ialdJ dX5_lieDown_8 (qStrip_4 hk0 (by decide)) rfl c1.2 c1.1 ?_
  refine e_iload_n dX5_lieDown_9 rfl ?_
  refine e_isub dX5_lieDown_10 ?_
  refine e_iastJ dX5_lieDown_11 (qStrip_4 hk0 (by decide)) rfl (c1).2 (c1).1 ?_
  obtain ⟨v2, ev2, h⟩ := vlet_ex h
  refine e_nameV ev2.symm ?_
  clear ev2
  refine e_aload_n dX5_lieDown_12 rfl ?_
  refine e_get (w := .ref (k0 + 4)) (j := 4) dX5_lieDown_13 (kStrip_0 hk0) rc5 (by decide) wfX5_31 (gStrip_4 hk0) ?_
  refine e_iconst (x := (1 : Int32)) dX5_lieDown_16 (by decide) ?_
  refine e_aaldJ dX5_lieDown_17 (kStrip_4 hk0) rfl (j := 1) (by decide) (by decide) (by decide) (rStrip_4 hk0 (by decide)) ?_
  refine e_iload_n dX5_lieDown_18 rfl ?_
  refine e_dup2 dX5_lieDown_19 rfl rfl ?_
  refine e_ialdJ dX5_lieDown_20 (qStrip_4 hk0 (by decide)) rfl (c1).2 (c1).1 ?_
  refine e_iload_n dX5_lieDown_21 rfl ?_
  refine e_isub dX5_lieDown_22 ?_
  refine e_iastJ dX5_lieDown_23 (qStrip_4 hk0 (by decide)) rfl (c1).2 (c1).1 ?_
  obtain ⟨v3, ev3, h⟩ := vlet_ex h
  refine e_nameV ev3.symm ?_
  clear ev3
  refine e_aload_n dX5_lieDown_24 rfl ?_
  refine e_get (w := .ref (k0 + 7)) (j := 5) dX5_lieDown_25 (kStrip_0 hk0) rc5 (by decide) wfX5_34 (gStrip_5 hk0) ?_
  refine e_iconst (x := (0 : Int32)) dX5_lieDown_28 (by decide) ?_
  refine e_aaldJ dX5_lieDown_29 (kStrip_7 hk0) rfl (j := 0) (by decide) (by decide) (by decide) (rStrip_7 hk0 (by decide)) ?_
  refine e_iload_n dX5_lieDown_30 rfl ?_
  refine e_dup2 dX5_lieDown_31 rfl rfl ?_
  refine e_ialdJ dX5_lieDown_32 (qStrip_7 hk0 (by decide)) rfl (c1).2 (c1).1 ?_
  refine e_iload_n dX5_lieDown_33 rfl ?_
  refine e_iadd dX5_lieDown_34 ?_
  refine e_iastJ dX5_lieDown_35 (qStrip_7 hk0 (by decide)) rfl (c1).2 (c1).1 ?_
  obtain ⟨v4, ev4, h⟩ := vlet_ex h
  refine e_nameV ev4.symm ?_
  clear ev4
  refine e_aload_n dX5_lieDown_36 rfl ?_
  refine e_get (w := .ref (k0 + 7)) (j := 5) dX5_lieDown_37 (kStrip_0 hk0) rc5 (by decide) wfX5_34 (gStrip_5 hk0) ?_
  refine e_iconst (x := (1 : Int32)) dX5_lieDown_40 (by decide) ?_
  refine e_aaldJ dX5_lieDown_41 (kStrip_7 hk0) rfl (j := 1) (by decide) (by decide) (by decide) (rStrip_7 hk0 (by decide)) ?_
  refine e_iload_n dX5_lieDown_42 rfl ?_
  refine e_dup2 dX5_lieDown_43 rfl rfl ?_
  refine e_ialdJ dX5_lieDown_44 (qStrip_7 hk0 (by decide)) rfl (c1).2 (c1).1 ?_
  refine e_iload_n dX5_lieDown_45 rfl ?_
  refine e_iadd dX5_lieDown_46 ?_
  refine e_iastJ dX5_lieDown_47 (qStrip_7 hk0 (by decide)) rfl (c1).2 (c1).1 ?_
  obtain ⟨v5, ev5, h⟩ := vlet_ex h
  refine e_nameV ev5.symm ?_
  clear ev5
  refine e_iload_n dX5_lieDown_48 rfl ?_
  refine e_iload_n dX5_lieDown_49 rfl ?_
  refine e_iadd dX5_lieDown_50 ?_
  obtain ⟨x6, ex6, h⟩ := vlet_ex h
  refine e_nameI ex6.symm ?_
  clear ex6
  refine e_istore (lv' := [(5, .int x6), (0, .ref k0), (1, .int a1), (2, .int a2), (3, .int a3), (4, .int a4)]) dX5_lieDown_51 (by decide) rfl ?_
  refine e_iload dX5_lieDown_53 rfl ?_
  refine e_iload dX5_lieDown_55 rfl ?_
  refine e_icmp_le (tgt := 71) dX5_lieDown_57 (by decide) (fun c9 => ?_) (fun c9 => ?_)
  · rw [if_pos c9] at h
    refine e_sub [1, 0] rfl ?_
    exact b_X5_lieDown_71 hk0 h
  · rw [if_neg c9] at h
    refine e_aload_n dX5_lieDown_60 rfl ?_
    refine e_get (w := .ref (k0 + 10)) (j := 6) dX5_lieDown_61 (kStrip_0 hk0) rc5 (by decide) wfX5_37 (gStrip_6 hk0) ?_
    refine e_iload_n dX5_lieDown_64 rfl ?_
    refine e_dup2 dX5_lieDown_65 rfl rfl ?_
    refine e_ialdJ dX5_lieDown_66 (kStrip_10 hk0) rfl (c1).2 (c1).1 ?_
    refine e_iload dX5_lieDown_67 rfl ?_
    refine e_iadd dX5_lieDown_69 ?_
    refine e_iastJ dX5_lieDown_70 (kStrip_10 hk0) rfl (c1).2 (c1).1 ?_
    obtain ⟨v8, ev8, h⟩ := vlet_ex h
    refine e_nameV ev8.symm ?_
    clear ev8
    refine e_sub [1, 0] rfl ?_
    exact b_X5_lieDown_71 hk0 h
def f_X5_letGo_44   : Nat → rV → Nat → Nat → Int32 → Int32 → Int32 → Option (rV)
  | 0, _, _, _, _, _, _ => none
  | n + 1, v, k0, k1, a2, a3, a4 => if a3 ≤ a4 then
  (vlet (rI v k1 4 ((v.1 k1 4) + (1 : Int32))) fun v5 =>
  some v5)
else
  (if ¬ (v.1 k1 2) < 0 ∧ (v.1 k1 2).toNatClampNeg < 24 then
  ((f_X5_lieDown v k0 (v.1 k1 2) (v.1 (k0 + 5 + 0) ((v.1 k1 2).toNatClampNeg)) (v.1 (k0 + 5 + 1) ((v.1 k1 2).toNatClampNeg)) a2).bind fun p7 =>
  if ¬ (p7.1 k1 3) < 0 ∧ (p7.1 k1 3).toNatClampNeg < 24 then
  ((f_X5_lieDown p7 k0 (p7.1 k1 3) (p7.1 (k0 + 5 + 0) ((p7.1 k1 3).toNatClampNeg)) (p7.1 (k0 + 5 + 1) ((p7.1 k1 3).toNatClampNeg)) a2).bind fun p9 =>
  vlet ((p9.1 k1 2) + (1 : Int32) : Int32) fun x10 =>
  if ¬ x10 < 0 ∧ x10.toNatClampNeg < 24 then
  (if ¬ (p9.1 k1 2) < 0 ∧ (p9.1 k1 2).toNatClampNeg < 24 then
  (vlet (rI p9 (k0 + 1) x10.toNatClampNeg ((p9.1 (k0 + 1) x10.toNatClampNeg) + (p9.1 (k0 + 1) ((p9.1 k1 2).toNatClampNeg)))) fun v13 =>
  vlet ((v13.1 k1 3) - (1 : Int32) : Int32) fun x14 =>
  if ¬ x14 < 0 ∧ x14.toNatClampNeg < 24 then
  (if ¬ (v13.1 k1 3) < 0 ∧ (v13.1 k1 3).toNatClampNeg < 24 then
  (vlet (rI v13 (k0 + 1) x14.toNatClampNeg ((v13.1 (k0 + 1) x14.toNatClampNeg) + (v13.1 (k0 + 1) ((v13.1 k1 3).toNatClampNeg)))) fun v17 =>
  if ¬ (v17.1 k1 2) < 0 ∧ (v17.1 k1 2).toNatClampNeg < 24 then
  (vlet (rI v17 (k0 + 1) ((v17.1 k1 2).toNatClampNeg) (0 : Int32)) fun v19 =>
  if ¬ (v19.1 k1 3) < 0 ∧ (v19.1 k1 3).toNatClampNeg < 24 then
  (vlet (rI v19 (k0 + 1) ((v19.1 k1 3).toNatClampNeg) (0 : Int32)) fun v21 =>
  vlet (rI v21 k1 2 ((v21.1 k1 2) + (1 : Int32))) fun v22 =>
  vlet (rI v22 k1 3 ((v22.1 k1 3) - (1 : Int32))) fun v23 =>
  vlet (a4 + (1 : Int32)) fun x24 =>
  f_X5_letGo_44  n v23 k0 k1 a2 a3 x24)
else none)
else none)
else none)
else none)
else none)
else none)
else none)
else none)
def f_X5_letGo (v : rV) (k0 : Nat) (k1 : Nat) (a2 : Int32) : Option (rV) := vlet (v.1 (k1 + 1) 10 : Int32) fun x1 =>
  (f_X5_waterOf v k0 k1).bind fun p2 =>
  if ((v.1 (k1 + 1) 9) * (f_X0_width v k1)) ≤ p2 then
  (some v)
else
  (if (((2 : Int32) * x1) + (1 : Int32)) < (f_X0_width v k1) then
  (f_X5_letGo_44  20000 v k0 k1 a2 x1 (0 : Int32))
else
  (some v))
set_option maxRecDepth 20000 in
theorem b_X5_letGo_44 {X : Nat × (Nat → Int32)} {r : rV}   : ∀ (n : Nat) (v : rV) (k0 : Nat) (k1 : Nat) (a2 : Int32) (a3 : Int32) (a4 : Int32) (hk0 : isStrip k0 = true) (hk1 : isBody k1 = true), f_X5_letGo_44   n v k0 k1 a2 a3 a4 = some r → Ev mX5_letGo 2 0 0 44 [(0, .ref k0), (1, .ref k1), (2, .int a2), (3, .int a3), (4, .int a4)] [] (rZ X) v (rPV X r) := by
  intro n
  induction n with
  | zero =>
    intros
    rename_i h
    cases h
  | succ n ih =>
    intro v k0 k1 a2 a3 a4 hk0 hk1 h
    rw [f_X5_letGo_44] at h
    refine e_iload dX5_letGo_44 rfl ?_
    refine e_iload_n dX5_letGo_46 rfl ?_
    refine e_icmp_ge (tgt := 204) dX5_letGo_47 (by decide) (fun c25 => ?_) (fun c25 => ?_)
    · rw [if_pos c25] at h
      refine e_aload_n dX5_letGo_204 rfl ?_
      refine e_dup dX5_letGo_205 rfl ?_
      refine e_get (w := .int (v.1 k1 4)) (j := 4) dX5_letGo_206 (kBody_0 hk1) rc0 (by decide) wfX5_173 rfl ?_
      refine e_iconst (x := (1 : Int32)) dX5_letGo_209 (by decide) ?_
      refine e_iadd dX5_letGo_210 ?_
      refine e_putI (j := 4) dX5_letGo_211 (kBody_0 hk1) rc0 (by decide) wfX5_173 rfl rfl ?_
      obtain ⟨v5, ev5, h⟩ := vlet_ex h
      refine e_nameV ev5.symm ?_
      clear ev5
      obtain rfl := Option.some.inj h
      exact e_ret dX5_letGo_214 rfl ⟨rfl, rfl, rfl⟩
    · rw [if_neg c25] at h
      refine e_aload_n dX5_letGo_50 rfl ?_
      refine e_aload_n dX5_letGo_51 rfl ?_
      refine e_get (w := .int (v.1 k1 2)) (j := 2) dX5_letGo_52 (kBody_0 hk1) rc0 (by decide) wfX5_97 rfl ?_
      refine e_aload_n dX5_letGo_55 rfl ?_
      refine e_get (w := .ref (k0 + 4)) (j := 4) dX5_letGo_56 (kStrip_0 hk0) rc5 (by decide) wfX5_31 (gStrip_4 hk0) ?_
      refine e_iconst (x := (0 : Int32)) dX5_letGo_59 (by decide) ?_
      refine e_aaldJ dX5_letGo_60 (kStrip_4 hk0) rfl (j := 0) (by decide) (by decide) (by decide) (rStrip_4 hk0 (by decide)) ?_
      refine e_aload_n dX5_letGo_61 rfl ?_
      refine e_get (w := .int (v.1 k1 2)) (j := 2) dX5_letGo_62 (kBody_0 hk1) rc0 (by decide) wfX5_97 rfl ?_
      obtain ⟨c6, h⟩ := grd h
      refine e_ialdJ dX5_letGo_65 (qStrip_4 hk0 (by decide)) rfl c6.2 c6.1 ?_
      refine e_aload_n dX5_letGo_66 rfl ?_
      refine e_get (w := .ref (k0 + 4)) (j := 4) dX5_letGo_67 (kStrip_0 hk0) rc5 (by decide) wfX5_31 (gStrip_4 hk0) ?_
      refine e_iconst (x := (1 : Int32)) dX5_letGo_70 (by decide) ?_
      refine e_aaldJ dX5_letGo_71 (kStrip_4 hk0) rfl (j := 1) (by decide) (by decide) (by decide) (rStrip_4 hk0 (by decide)) ?_
      refine e_aload_n dX5_letGo_72 rfl ?_
      refine e_get (w := .int (v.1 k1 2)) (j := 2) dX5_letGo_73 (kBody_0 hk1) rc0 (by decide) wfX5_97 rfl ?_
      refine e_ialdJ dX5_letGo_76 (qStrip_4 hk0 (by decide)) rfl (c6).2 (c6).1 ?_
      refine e_iload_n dX5_letGo_77 rfl ?_
      obtain ⟨p7, ep7, h⟩ := Option.bind_eq_some_iff.mp h
      refine c_VV (M' := mX5_lieDown) [.int (v.1 k1 2), .int (v.1 (k0 + 5 + 0) ((v.1 k1 2).toNatClampNeg)), .int (v.1 (k0 + 5 + 1) ((v.1 k1 2).toNatClampNeg)), .int a2] dX5_letGo_78 rfl wmX5_169 imX5_lieDown seX5_lieDown lkX5_lieDown (kStrip_0 hk0) rc5 (Nat.le_of_ble_eq_true rfl) ((x_X5_lieDown hk0 ep7).mono (by omega)) ?_
      refine e_aload_n dX5_letGo_81 rfl ?_
      refine e_aload_n dX5_letGo_82 rfl ?_
      refine e_get (w := .int (p7.1 k1 3)) (j := 3) dX5_letGo_83 (kBody_0 hk1) rc0 (by decide) wfX5_86 rfl ?_
      refine e_aload_n dX5_letGo_86 rfl ?_
      refine e_get (w := .ref (k0 + 4)) (j := 4) dX5_letGo_87 (kStrip_0 hk0) rc5 (by decide) wfX5_31 (gStrip_4 hk0) ?_
      refine e_iconst (x := (0 : Int32)) dX5_letGo_90 (by decide) ?_
      refine e_aaldJ dX5_letGo_91 (kStrip_4 hk0) rfl (j := 0) (by decide) (by decide) (by decide) (rStrip_4 hk0 (by decide)) ?_
      refine e_aload_n dX5_letGo_92 rfl ?_
      refine e_get (w := .int (p7.1 k1 3)) (j := 3) dX5_letGo_93 (kBody_0 hk1) rc0 (by decide) wfX5_86 rfl ?_
      obtain ⟨c8, h⟩ := grd h
      refine e_ialdJ dX5_letGo_96 (qStrip_4 hk0 (by decide)) rfl c8.2 c8.1 ?_
      refine e_aload_n dX5_letGo_97 rfl ?_
      refine e_get (w := .ref (k0 + 4)) (j := 4) dX5_letGo_98 (kStrip_0 hk0) rc5 (by decide) wfX5_31 (gStrip_4 hk0) ?_
      refine e_iconst (x := (1 : Int32)) dX5_letGo_101 (by decide) ?_
      refine e_aaldJ dX5_letGo_102 (kStrip_4 hk0) rfl (j := 1) (by decide) (by decide) (by decide) (rStrip_4 hk0 (by decide)) ?_
      refine e_aload_n dX5_letGo_103 rfl ?_
      refine e_get (w := .int (p7.1 k1 3)) (j := 3) dX5_letGo_104 (kBody_0 hk1) rc0 (by decide) wfX5_86 rfl ?_
      refine e_ialdJ dX5_letGo_107 (qStrip_4 hk0 (by decide)) rfl (c8).2 (c8).1 ?_
      refine e_iload_n dX5_letGo_108 rfl ?_
      obtain ⟨p9, ep9, h⟩ := Option.bind_eq_some_iff.mp h
      refine c_VV (M' := mX5_lieDown) [.int (p7.1 k1 3), .int (p7.1 (k0 + 5 + 0) ((p7.1 k1 3).toNatClampNeg)), .int (p7.1 (k0 + 5 + 1) ((p7.1 k1 3).toNatClampNeg)), .int a2] dX5_letGo_109 rfl wmX5_169 imX5_lieDown seX5_lieDown lkX5_lieDown (kStrip_0 hk0) rc5 (Nat.le_of_ble_eq_true rfl) ((x_X5_lieDown hk0 ep9).mono (by omega)) ?_
      refine e_aload_n dX5_letGo_112 rfl ?_
      refine e_get (w := .ref (k0 + 1)) (j := 0) dX5_letGo_113 (kStrip_0 hk0) rc5 (by decide) wfX5_9 (gStrip_0 hk0) ?_
      refine e_aload_n dX5_letGo_116 rfl ?_
      refine e_get (w := .int (p9.1 k1 2)) (j := 2) dX5_letGo_117 (kBody_0 hk1) rc0 (by decide) wfX5_97 rfl ?_
      refine e_iconst (x := (1 : Int32)) dX5_letGo_120 (by decide) ?_
      refine e_iadd dX5_letGo_121 ?_
      obtain ⟨x10, ex10, h⟩ := vlet_ex h
      refine e_nameI ex10.symm ?_
      clear ex10
      refine e_dup2 dX5_letGo_122 rfl rfl ?_
      obtain ⟨c11, h⟩ := grd h
      refine e_ialdJ dX5_letGo_123 (kStrip_1 hk0) rfl c11.2 c11.1 ?_
      refine e_aload_n dX5_letGo_124 rfl ?_
      refine e_get (w := .ref (k0 + 1)) (j := 0) dX5_letGo_125 (kStrip_0 hk0) rc5 (by decide) wfX5_9 (gStrip_0 hk0) ?_
      refine e_aload_n dX5_letGo_128 rfl ?_
      refine e_get (w := .int (p9.1 k1 2)) (j := 2) dX5_letGo_129 (kBody_0 hk1) rc0 (by decide) wfX5_97 rfl ?_
      obtain ⟨c12, h⟩ := grd h
      refine e_ialdJ dX5_letGo_132 (kStrip_1 hk0) rfl c12.2 c12.1 ?_
      refine e_iadd dX5_letGo_133 ?_
      refine e_iastJ dX5_letGo_134 (kStrip_1 hk0) rfl (c11).2 (c11).1 ?_
      obtain ⟨v13, ev13, h⟩ := vlet_ex h
      refine e_nameV ev13.symm ?_
      clear ev13
      refine e_aload_n dX5_letGo_135 rfl ?_
      refine e_get (w := .ref (k0 + 1)) (j := 0) dX5_letGo_136 (kStrip_0 hk0) rc5 (by decide) wfX5_9 (gStrip_0 hk0) ?_
      refine e_aload_n dX5_letGo_139 rfl ?_
      refine e_get (w := .int (v13.1 k1 3)) (j := 3) dX5_letGo_140 (kBody_0 hk1) rc0 (by decide) wfX5_86 rfl ?_
      refine e_iconst (x := (1 : Int32)) dX5_letGo_143 (by decide) ?_
      refine e_isub dX5_letGo_144 ?_
      obtain ⟨x14, ex14, h⟩ := vlet_ex h
      refine e_nameI ex14.symm ?_
      clear ex14
      refine e_dup2 dX5_letGo_145 rfl rfl ?_
      obtain ⟨c15, h⟩ := grd h
      refine e_ialdJ dX5_letGo_146 (kStrip_1 hk0) rfl c15.2 c15.1 ?_
      refine e_aload_n dX5_letGo_147 rfl ?_
      refine e_get (w := .ref (k0 + 1)) (j := 0) dX5_letGo_148 (kStrip_0 hk0) rc5 (by decide) wfX5_9 (gStrip_0 hk0) ?_
      refine e_aload_n dX5_letGo_151 rfl ?_
      refine e_get (w := .int (v13.1 k1 3)) (j := 3) dX5_letGo_152 (kBody_0 hk1) rc0 (by decide) wfX5_86 rfl ?_
      obtain ⟨c16, h⟩ := grd h
      refine e_ialdJ dX5_letGo_155 (kStrip_1 hk0) rfl c16.2 c16.1 ?_
      refine e_iadd dX5_letGo_156 ?_
      refine e_iastJ dX5_letGo_157 (kStrip_1 hk0) rfl (c15).2 (c15).1 ?_
      obtain ⟨v17, ev17, h⟩ := vlet_ex h
      refine e_nameV ev17.symm ?_
      clear ev17
      refine e_aload_n dX5_letGo_158 rfl ?_
      refine e_get (w := .ref (k0 + 1)) (j := 0) dX5_letGo_159 (kStrip_0 hk0) rc5 (by decide) wfX5_9 (gStrip_0 hk0) ?_
      refine e_aload_n dX5_letGo_162 rfl ?_
      refine e_get (w := .int (v17.1 k1 2)) (j := 2) dX5_letGo_163 (kBody_0 hk1) rc0 (by decide) wfX5_97 rfl ?_
      refine e_iconst (x := (0 : Int32)) dX5_letGo_166 (by decide) ?_
      obtain ⟨c18, h⟩ := grd h
      refine e_iastJ dX5_letGo_167 (kStrip_1 hk0) rfl c18.2 c18.1 ?_
      obtain ⟨v19, ev19, h⟩ := vlet_ex h
      refine e_nameV ev19.symm ?_
      clear ev19
      refine e_aload_n dX5_letGo_168 rfl ?_
      refine e_get (w := .ref (k0 + 1)) (j := 0) dX5_letGo_169 (kStrip_0 hk0) rc5 (by decide) wfX5_9 (gStrip_0 hk0) ?_
      refine e_aload_n dX5_letGo_172 rfl ?_
      refine e_get (w := .int (v19.1 k1 3)) (j := 3) dX5_letGo_173 (kBody_0 hk1) rc0 (by decide) wfX5_86 rfl ?_
      refine e_iconst (x := (0 : Int32)) dX5_letGo_176 (by decide) ?_
      obtain ⟨c20, h⟩ := grd h
      refine e_iastJ dX5_letGo_177 (kStrip_1 hk0) rfl c20.2 c20.1 ?_
      obtain ⟨v21, ev21, h⟩ := vlet_ex h
      refine e_nameV ev21.symm ?_
      clear ev21
      refine e_aload_n dX5_letGo_178 rfl ?_
      refine e_dup dX5_letGo_179 rfl ?_
      refine e_get (w := .int (v21.1 k1 2)) (j := 2) dX5_letGo_180 (kBody_0 hk1) rc0 (by decide) wfX5_97 rfl ?_
      refine e_iconst (x := (1 : Int32)) dX5_letGo_183 (by decide) ?_
      refine e_iadd dX5_letGo_184 ?_
      refine e_putI (j := 2) dX5_letGo_185 (kBody_0 hk1) rc0 (by decide) wfX5_97 rfl rfl ?_
      obtain ⟨v22, ev22, h⟩ := vlet_ex h
      refine e_nameV ev22.symm ?_
      clear ev22
      refine e_aload_n dX5_letGo_188 rfl ?_
      refine e_dup dX5_letGo_189 rfl ?_
      refine e_get (w := .int (v22.1 k1 3)) (j := 3) dX5_letGo_190 (kBody_0 hk1) rc0 (by decide) wfX5_86 rfl ?_
      refine e_iconst (x := (1 : Int32)) dX5_letGo_193 (by decide) ?_
      refine e_isub dX5_letGo_194 ?_
      refine e_putI (j := 3) dX5_letGo_195 (kBody_0 hk1) rc0 (by decide) wfX5_86 rfl rfl ?_
      obtain ⟨v23, ev23, h⟩ := vlet_ex h
      refine e_nameV ev23.symm ?_
      clear ev23
      obtain ⟨x24, ex24, h⟩ := vlet_ex h
      refine e_iinc (lv' := [(4, .int x24), (0, .ref k0), (1, .ref k1), (2, .int a2), (3, .int a3)]) dX5_letGo_198 rfl (ex24.symm) (by decide) rfl ?_
      clear ex24
      refine e_goto (tgt := 44) dX5_letGo_201 (by decide) ?_
      refine e_sub [1, 2, 3, 4, 0] rfl ?_
      exact ih v23 k0 k1 a2 a3 x24 hk0 hk1 h
set_option maxRecDepth 20000 in
theorem x_X5_letGo {X : Nat × (Nat → Int32)} {v : rV} {r : rV} {k0 : Nat} {k1 : Nat} {a2 : Int32} (hk0 : isStrip k0 = true) (hk1 : isBody k1 = true) (h : f_X5_letGo v k0 k1 a2 = some r) : EvM mX5_letGo 2 0 0 [.ref k0, .ref k1, .int a2] (rZ X) v (rPV X r) := by
  refine evm_of (by decide +kernel) (fun G => Nat.le_of_ble_eq_true rfl) ?_
  show Ev mX5_letGo 2 0 0 0 [(0, .ref k0), (1, .ref k1), (2, .int a2)] [] (rZ X) v _
  unfold f_X5_letGo at h
  refine e_aload_n dX5_letGo_0 rfl ?_
  refine e_get (w := .ref (k1 + 1)) (j := 0) dX5_letGo_1 (kBody_0 hk1) rc0 (by decide) wfX5_100 (gBody_0 hk1) ?_
  refine e_bipush (x := (10 : Int32)) dX5_letGo_4 (by decide) ?_
  refine e_ialdJ dX5_letGo_6 (kBody_1 hk1) (j := 10) (by decide) (by decide) (by decide) ?_
  obtain ⟨x1, ex1, h⟩ := vlet_ex h
  refine e_nameI ex1.symm ?_
  clear ex1
  refine e_istore_n (lv' := [(3, .int x1), (0, .ref k0), (1, .ref k1), (2, .int a2)]) dX5_letGo_7 (by decide) rfl ?_
  refine e_aload_n dX5_letGo_8 rfl ?_
  refine e_aload_n dX5_letGo_9 rfl ?_
  obtain ⟨p2, ep2, h⟩ := Option.bind_eq_some_iff.mp h
  refine c_VI (M' := mX5_waterOf) [.ref k1] dX5_letGo_10 rfl wmX5_165 imX5_waterOf seX5_waterOf lkX5_waterOf (kStrip_0 hk0) rc5 (Nat.le_of_ble_eq_true rfl) ((x_X5_waterOf hk0 hk1 ep2).mono (by omega)) ?_
  refine e_aload_n dX5_letGo_13 rfl ?_
  refine e_get (w := .ref (k1 + 1)) (j := 0) dX5_letGo_14 (kBody_0 hk1) rc0 (by decide) wfX5_100 (gBody_0 hk1) ?_
  refine e_bipush (x := (9 : Int32)) dX5_letGo_17 (by decide) ?_
  refine e_ialdJ dX5_letGo_19 (kBody_1 hk1) (j := 9) (by decide) (by decide) (by decide) ?_
  refine e_aload_n dX5_letGo_20 rfl ?_
  refine c_VI (M' := mX0_width) [] dX5_letGo_21 rfl wmX5_111 imX0_width seX0_width lkX0_width (kBody_0 hk1) rc0 (Nat.le_of_ble_eq_true rfl) ((x_X0_width hk1).mono (by omega)) ?_
  refine e_imul dX5_letGo_24 ?_
  refine e_icmp_ge (tgt := 40) dX5_letGo_25 (by decide) (fun c27 => ?_) (fun c27 => ?_)
  · rw [if_pos c27] at h
    obtain rfl := Option.some.inj h
    exact e_ret dX5_letGo_40 rfl ⟨rfl, rfl, rfl⟩
  · rw [if_neg c27] at h
    refine e_aload_n dX5_letGo_28 rfl ?_
    refine c_VI (M' := mX0_width) [] dX5_letGo_29 rfl wmX5_111 imX0_width seX0_width lkX0_width (kBody_0 hk1) rc0 (Nat.le_of_ble_eq_true rfl) ((x_X0_width hk1).mono (by omega)) ?_
    refine e_iconst (x := (2 : Int32)) dX5_letGo_32 (by decide) ?_
    refine e_iload_n dX5_letGo_33 rfl ?_
    refine e_imul dX5_letGo_34 ?_
    refine e_iconst (x := (1 : Int32)) dX5_letGo_35 (by decide) ?_
    refine e_iadd dX5_letGo_36 ?_
    refine e_icmp_gt (tgt := 41) dX5_letGo_37 (by decide) (fun c26 => ?_) (fun c26 => ?_)
    · rw [if_pos c26] at h
      refine e_iconst (x := (0 : Int32)) dX5_letGo_41 (by decide) ?_
      refine e_istore (lv' := [(4, .int (0 : Int32)), (3, .int x1), (0, .ref k0), (1, .ref k1), (2, .int a2)]) dX5_letGo_42 (by decide) rfl ?_
      refine e_sub [2, 3, 4, 1, 0] rfl ?_
      exact b_X5_letGo_44  _ v k0 k1 a2 x1 (0 : Int32) hk0 hk1 h
    · rw [if_neg c26] at h
      obtain rfl := Option.some.inj h
      exact e_ret dX5_letGo_40 rfl ⟨rfl, rfl, rfl⟩
def f_X5_reshape_142  (q48 : rV → Nat → Nat → Int32 → Int32 → Option (rV)) (v : rV) (k0 : Nat) (k1 : Nat) (a2 : Int32) (a3 : Int32) : Option (rV) := vlet (a3 + (1 : Int32)) fun x8 =>
  q48 v k0 k1 a2 x8
def f_X5_reshape_111  (q48 : rV → Nat → Nat → Int32 → Int32 → Option (rV)) (v : rV) (k0 : Nat) (k1 : Nat) (a2 : Int32) (a3 : Int32) : Option (rV) := if 0 ≤ a2 then
  (f_X5_reshape_142 q48 v k0 k1 a2 a3)
else
  (if ((v.1 k1 2) + (v.1 k1 3)) < ((2 : Int32) * (a3 + (1 : Int32))) then
  (f_X5_reshape_142 q48 v k0 k1 a2 a3)
else
  (vlet (rI v k0 17 ((v.1 k0 17) - a2)) fun v9 =>
  f_X5_reshape_142 q48 v9 k0 k1 a2 a3))
def f_X5_reshape_48   : Nat → rV → Nat → Nat → Int32 → Int32 → Option (rV)
  | 0, _, _, _, _, _ => none
  | n + 1, v, k0, k1, a2, a3 => if (v.1 k1 3) ≤ a3 then
  (some v)
else
  (if ¬ a3 < 0 ∧ a3.toNatClampNeg < 24 then
  (vlet (a2 + ((v.1 (k0 + 2) a3.toNatClampNeg) - (v.1 (k0 + 1) a3.toNatClampNeg)) : Int32) fun x6 =>
  vlet (rI v (k0 + 11) a3.toNatClampNeg x6) fun v7 =>
  if x6 ≤ 0 then
  (f_X5_reshape_111 (fun v k0 k1 a2 a3 => f_X5_reshape_48  n v k0 k1 a2 a3) v7 k0 k1 x6 a3)
else
  (if ((2 : Int32) * a3) < ((v7.1 k1 2) + (v7.1 k1 3)) then
  (f_X5_reshape_111 (fun v k0 k1 a2 a3 => f_X5_reshape_48  n v k0 k1 a2 a3) v7 k0 k1 x6 a3)
else
  (vlet (rI v7 k0 17 ((v7.1 k0 17) + x6)) fun v12 =>
  f_X5_reshape_142 (fun v k0 k1 a2 a3 => f_X5_reshape_48  n v k0 k1 a2 a3) v12 k0 k1 x6 a3)))
else none)
def f_X5_reshape_5   : Nat → rV → Nat → Nat → Int32 → Option (rV)
  | 0, _, _, _, _ => none
  | n + 1, v, k0, k1, a2 => if (v.1 k1 3) < a2 then
  ((f_X5_waterOf v k0 k1).bind fun p2 =>
  (f_X5_shape v k0 k1 p2).bind fun p3 =>
  vlet (p3.1 k1 2 : Int32) fun x4 =>
  f_X5_reshape_48  20000 p3 k0 k1 (0 : Int32) x4)
else
  (if ¬ a2 < 0 ∧ a2.toNatClampNeg < 24 then
  (vlet (rI v (k0 + 2) a2.toNatClampNeg (v.1 (k0 + 1) a2.toNatClampNeg)) fun v17 =>
  vlet (a2 + (1 : Int32)) fun x18 =>
  f_X5_reshape_5  n v17 k0 k1 x18)
else none)
def f_X5_reshape (v : rV) (k0 : Nat) (k1 : Nat) : Option (rV) := vlet (v.1 k1 2 : Int32) fun x1 =>
  f_X5_reshape_5  20000 v k0 k1 x1
set_option maxRecDepth 20000 in
theorem b_X5_reshape_142 {X : Nat × (Nat → Int32)} {r : rV} {v : rV} {q48 : rV → Nat → Nat → Int32 → Int32 → Option (rV)} (hq48 : ∀ (v : rV) (k0 : Nat) (k1 : Nat) (a2 : Int32) (a3 : Int32) (hk0 : isStrip k0 = true) (hk1 : isBody k1 = true), q48 v k0 k1 a2 a3 = some r → Ev mX5_reshape 3 0 0 48 [(0, .ref k0), (1, .ref k1), (2, .int a2), (3, .int a3)] [] (rZ X) v (rPV X r)) {k0 : Nat} {k1 : Nat} {a2 : Int32} {a3 : Int32} (hk0 : isStrip k0 = true) (hk1 : isBody k1 = true) (h : f_X5_reshape_142 q48 v k0 k1 a2 a3 = some r) : Ev mX5_reshape 3 0 0 142 [(0, .ref k0), (1, .ref k1), (2, .int a2), (3, .int a3)] [] (rZ X) v (rPV X r) := by
  unfold f_X5_reshape_142 at h
  obtain ⟨x8, ex8, h⟩ := vlet_ex h
  refine e_iinc (lv' := [(3, .int x8), (0, .ref k0), (1, .ref k1), (2, .int a2)]) dX5_reshape_142 rfl (ex8.symm) (by decide) rfl ?_
  clear ex8
  refine e_goto (tgt := 48) dX5_reshape_145 (by decide) ?_
  refine e_sub [1, 2, 3, 0] rfl ?_
  exact hq48 v k0 k1 a2 x8 hk0 hk1 h
set_option maxRecDepth 20000 in
theorem b_X5_reshape_111 {X : Nat × (Nat → Int32)} {r : rV} {v : rV} {q48 : rV → Nat → Nat → Int32 → Int32 → Option (rV)} (hq48 : ∀ (v : rV) (k0 : Nat) (k1 : Nat) (a2 : Int32) (a3 : Int32) (hk0 : isStrip k0 = true) (hk1 : isBody k1 = true), q48 v k0 k1 a2 a3 = some r → Ev mX5_reshape 3 0 0 48 [(0, .ref k0), (1, .ref k1), (2, .int a2), (3, .int a3)] [] (rZ X) v (rPV X r)) {k0 : Nat} {k1 : Nat} {a2 : Int32} {a3 : Int32} (hk0 : isStrip k0 = true) (hk1 : isBody k1 = true) (h : f_X5_reshape_111 q48 v k0 k1 a2 a3 = some r) : Ev mX5_reshape 3 0 0 111 [(0, .ref k0), (1, .ref k1), (2, .int a2), (3, .int a3)] [] (rZ X) v (rPV X r) := by
  unfold f_X5_reshape_111 at h
  refine e_iload_n dX5_reshape_111 rfl ?_
  refine e_if_ge (tgt := 142) dX5_reshape_112 (by decide) (fun c11 => ?_) (fun c11 => ?_)
  · rw [if_pos c11] at h
    exact b_X5_reshape_142 hq48 hk0 hk1 h
  · rw [if_neg c11] at h
    refine e_iconst (x := (2 : Int32)) dX5_reshape_115 (by decide) ?_
    refine e_iload_n dX5_reshape_116 rfl ?_
    refine e_iconst (x := (1 : Int32)) dX5_reshape_117 (by decide) ?_
    refine e_iadd dX5_reshape_118 ?_
    refine e_imul dX5_reshape_119 ?_
    refine e_aload_n dX5_reshape_120 rfl ?_
    refine e_get (w := .int (v.1 k1 2)) (j := 2) dX5_reshape_121 (kBody_0 hk1) rc0 (by decide) wfX5_97 rfl ?_
    refine e_aload_n dX5_reshape_124 rfl ?_
    refine e_get (w := .int (v.1 k1 3)) (j := 3) dX5_reshape_125 (kBody_0 hk1) rc0 (by decide) wfX5_86 rfl ?_
    refine e_iadd dX5_reshape_128 ?_
    refine e_icmp_gt (tgt := 142) dX5_reshape_129 (by decide) (fun c10 => ?_) (fun c10 => ?_)
    · rw [if_pos c10] at h
      exact b_X5_reshape_142 hq48 hk0 hk1 h
    · rw [if_neg c10] at h
      refine e_aload_n dX5_reshape_132 rfl ?_
      refine e_dup dX5_reshape_133 rfl ?_
      refine e_get (w := .int (v.1 k0 17)) (j := 17) dX5_reshape_134 (kStrip_0 hk0) rc5 (by decide) wfX5_77 rfl ?_
      refine e_iload_n dX5_reshape_137 rfl ?_
      refine e_isub dX5_reshape_138 ?_
      refine e_putI (j := 17) dX5_reshape_139 (kStrip_0 hk0) rc5 (by decide) wfX5_77 rfl rfl ?_
      obtain ⟨v9, ev9, h⟩ := vlet_ex h
      refine e_nameV ev9.symm ?_
      clear ev9
      exact b_X5_reshape_142 hq48 hk0 hk1 h
set_option maxRecDepth 20000 in
theorem b_X5_reshape_48 {X : Nat × (Nat → Int32)} {r : rV}   : ∀ (n : Nat) (v : rV) (k0 : Nat) (k1 : Nat) (a2 : Int32) (a3 : Int32) (hk0 : isStrip k0 = true) (hk1 : isBody k1 = true), f_X5_reshape_48   n v k0 k1 a2 a3 = some r → Ev mX5_reshape 3 0 0 48 [(0, .ref k0), (1, .ref k1), (2, .int a2), (3, .int a3)] [] (rZ X) v (rPV X r) := by
  intro n
  induction n with
  | zero =>
    intros
    rename_i h
    cases h
  | succ n ih =>
    intro v k0 k1 a2 a3 hk0 hk1 h
    rw [f_X5_reshape_48] at h
    refine e_iload_n dX5_reshape_48 rfl ?_
    refine e_aload_n dX5_reshape_49 rfl ?_
    refine e_get (w := .int (v.1 k1 3)) (j := 3) dX5_reshape_50 (kBody_0 hk1) rc0 (by decide) wfX5_86 rfl ?_
    refine e_icmp_ge (tgt := 148) dX5_reshape_53 (by decide) (fun c15 => ?_) (fun c15 => ?_)
    · rw [if_pos c15] at h
      obtain rfl := Option.some.inj h
      exact e_ret dX5_reshape_148 rfl ⟨rfl, rfl, rfl⟩
    · rw [if_neg c15] at h
      refine e_iload_n dX5_reshape_56 rfl ?_
      refine e_aload_n dX5_reshape_57 rfl ?_
      refine e_get (w := .ref (k0 + 2)) (j := 1) dX5_reshape_58 (kStrip_0 hk0) rc5 (by decide) wfX5_15 (gStrip_1 hk0) ?_
      refine e_iload_n dX5_reshape_61 rfl ?_
      obtain ⟨c5, h⟩ := grd h
      refine e_ialdJ dX5_reshape_62 (kStrip_2 hk0) rfl c5.2 c5.1 ?_
      refine e_aload_n dX5_reshape_63 rfl ?_
      refine e_get (w := .ref (k0 + 1)) (j := 0) dX5_reshape_64 (kStrip_0 hk0) rc5 (by decide) wfX5_9 (gStrip_0 hk0) ?_
      refine e_iload_n dX5_reshape_67 rfl ?_
      refine e_ialdJ dX5_reshape_68 (kStrip_1 hk0) rfl (c5).2 (c5).1 ?_
      refine e_isub dX5_reshape_69 ?_
      refine e_iadd dX5_reshape_70 ?_
      obtain ⟨x6, ex6, h⟩ := vlet_ex h
      refine e_nameI ex6.symm ?_
      clear ex6
      refine e_istore_n (lv' := [(2, .int x6), (0, .ref k0), (1, .ref k1), (3, .int a3)]) dX5_reshape_71 (by decide) rfl ?_
      refine e_aload_n dX5_reshape_72 rfl ?_
      refine e_get (w := .ref (k0 + 11)) (j := 7) dX5_reshape_73 (kStrip_0 hk0) rc5 (by decide) wfX5_40 (gStrip_7 hk0) ?_
      refine e_iload_n dX5_reshape_76 rfl ?_
      refine e_iload_n dX5_reshape_77 rfl ?_
      refine e_iastJ dX5_reshape_78 (kStrip_11 hk0) rfl (c5).2 (c5).1 ?_
      obtain ⟨v7, ev7, h⟩ := vlet_ex h
      refine e_nameV ev7.symm ?_
      clear ev7
      refine e_iload_n dX5_reshape_79 rfl ?_
      refine e_if_le (tgt := 111) dX5_reshape_80 (by decide) (fun c14 => ?_) (fun c14 => ?_)
      · rw [if_pos c14] at h
        refine e_sub [1, 2, 0, 3] rfl ?_
        exact b_X5_reshape_111 (fun v k0 k1 a2 a3 hk0 hk1 hh => ih v k0 k1 a2 a3 hk0 hk1 hh) hk0 hk1 h
      · rw [if_neg c14] at h
        refine e_iconst (x := (2 : Int32)) dX5_reshape_83 (by decide) ?_
        refine e_iload_n dX5_reshape_84 rfl ?_
        refine e_imul dX5_reshape_85 ?_
        refine e_aload_n dX5_reshape_86 rfl ?_
        refine e_get (w := .int (v7.1 k1 2)) (j := 2) dX5_reshape_87 (kBody_0 hk1) rc0 (by decide) wfX5_97 rfl ?_
        refine e_aload_n dX5_reshape_90 rfl ?_
        refine e_get (w := .int (v7.1 k1 3)) (j := 3) dX5_reshape_91 (kBody_0 hk1) rc0 (by decide) wfX5_86 rfl ?_
        refine e_iadd dX5_reshape_94 ?_
        refine e_icmp_lt (tgt := 111) dX5_reshape_95 (by decide) (fun c13 => ?_) (fun c13 => ?_)
        · rw [if_pos c13] at h
          refine e_sub [1, 2, 0, 3] rfl ?_
          exact b_X5_reshape_111 (fun v k0 k1 a2 a3 hk0 hk1 hh => ih v k0 k1 a2 a3 hk0 hk1 hh) hk0 hk1 h
        · rw [if_neg c13] at h
          refine e_aload_n dX5_reshape_98 rfl ?_
          refine e_dup dX5_reshape_99 rfl ?_
          refine e_get (w := .int (v7.1 k0 17)) (j := 17) dX5_reshape_100 (kStrip_0 hk0) rc5 (by decide) wfX5_77 rfl ?_
          refine e_iload_n dX5_reshape_103 rfl ?_
          refine e_iadd dX5_reshape_104 ?_
          refine e_putI (j := 17) dX5_reshape_105 (kStrip_0 hk0) rc5 (by decide) wfX5_77 rfl rfl ?_
          obtain ⟨v12, ev12, h⟩ := vlet_ex h
          refine e_nameV ev12.symm ?_
          clear ev12
          refine e_goto (tgt := 142) dX5_reshape_108 (by decide) ?_
          refine e_sub [1, 2, 0, 3] rfl ?_
          exact b_X5_reshape_142 (fun v k0 k1 a2 a3 hk0 hk1 hh => ih v k0 k1 a2 a3 hk0 hk1 hh) hk0 hk1 h
set_option maxRecDepth 20000 in
theorem b_X5_reshape_5 {X : Nat × (Nat → Int32)} {r : rV}   : ∀ (n : Nat) (v : rV) (k0 : Nat) (k1 : Nat) (a2 : Int32) (hk0 : isStrip k0 = true) (hk1 : isBody k1 = true), f_X5_reshape_5   n v k0 k1 a2 = some r → Ev mX5_reshape 3 0 0 5 [(0, .ref k0), (1, .ref k1), (2, .int a2)] [] (rZ X) v (rPV X r) := by
  intro n
  induction n with
  | zero =>
    intros
    rename_i h
    cases h
  | succ n ih =>
    intro v k0 k1 a2 hk0 hk1 h
    rw [f_X5_reshape_5] at h
    refine e_iload_n dX5_reshape_5 rfl ?_
    refine e_aload_n dX5_reshape_6 rfl ?_
    refine e_get (w := .int (v.1 k1 3)) (j := 3) dX5_reshape_7 (kBody_0 hk1) rc0 (by decide) wfX5_86 rfl ?_
    refine e_icmp_gt (tgt := 31) dX5_reshape_10 (by decide) (fun c19 => ?_) (fun c19 => ?_)
    · rw [if_pos c19] at h
      refine e_aload_n dX5_reshape_31 rfl ?_
      refine e_aload_n dX5_reshape_32 rfl ?_
      refine e_aload_n dX5_reshape_33 rfl ?_
      refine e_aload_n dX5_reshape_34 rfl ?_
      obtain ⟨p2, ep2, h⟩ := Option.bind_eq_some_iff.mp h
      refine c_VI (M' := mX5_waterOf) [.ref k1] dX5_reshape_35 rfl wmX5_165 imX5_waterOf seX5_waterOf lkX5_waterOf (kStrip_0 hk0) rc5 (Nat.le_of_ble_eq_true rfl) ((x_X5_waterOf hk0 hk1 ep2).mono (by omega)) ?_
      obtain ⟨p3, ep3, h⟩ := Option.bind_eq_some_iff.mp h
      refine c_VV (M' := mX5_shape) [.ref k1, .int p2] dX5_reshape_38 rfl wmX5_103 imX5_shape seX5_shape lkX5_shape (kStrip_0 hk0) rc5 (Nat.le_of_ble_eq_true rfl) ((x_X5_shape hk0 hk1 ep3).mono (by omega)) ?_
      refine e_iconst (x := (0 : Int32)) dX5_reshape_41 (by decide) ?_
      refine e_istore_n (lv' := [(2, .int (0 : Int32)), (0, .ref k0), (1, .ref k1)]) dX5_reshape_42 (by decide) rfl ?_
      refine e_aload_n dX5_reshape_43 rfl ?_
      refine e_get (w := .int (p3.1 k1 2)) (j := 2) dX5_reshape_44 (kBody_0 hk1) rc0 (by decide) wfX5_97 rfl ?_
      obtain ⟨x4, ex4, h⟩ := vlet_ex h
      refine e_nameI ex4.symm ?_
      clear ex4
      refine e_istore_n (lv' := [(3, .int x4), (2, .int (0 : Int32)), (0, .ref k0), (1, .ref k1)]) dX5_reshape_47 (by decide) rfl ?_
      refine e_sub [2, 3, 1, 0] rfl ?_
      exact b_X5_reshape_48  _ p3 k0 k1 (0 : Int32) x4 hk0 hk1 h
    · rw [if_neg c19] at h
      refine e_aload_n dX5_reshape_13 rfl ?_
      refine e_get (w := .ref (k0 + 2)) (j := 1) dX5_reshape_14 (kStrip_0 hk0) rc5 (by decide) wfX5_15 (gStrip_1 hk0) ?_
      refine e_iload_n dX5_reshape_17 rfl ?_
      refine e_aload_n dX5_reshape_18 rfl ?_
      refine e_get (w := .ref (k0 + 1)) (j := 0) dX5_reshape_19 (kStrip_0 hk0) rc5 (by decide) wfX5_9 (gStrip_0 hk0) ?_
      refine e_iload_n dX5_reshape_22 rfl ?_
      obtain ⟨c16, h⟩ := grd h
      refine e_ialdJ dX5_reshape_23 (kStrip_1 hk0) rfl c16.2 c16.1 ?_
      refine e_iastJ dX5_reshape_24 (kStrip_2 hk0) rfl (c16).2 (c16).1 ?_
      obtain ⟨v17, ev17, h⟩ := vlet_ex h
      refine e_nameV ev17.symm ?_
      clear ev17
      obtain ⟨x18, ex18, h⟩ := vlet_ex h
      refine e_iinc (lv' := [(2, .int x18), (0, .ref k0), (1, .ref k1)]) dX5_reshape_25 rfl (ex18.symm) (by decide) rfl ?_
      clear ex18
      refine e_goto (tgt := 5) dX5_reshape_28 (by decide) ?_
      refine e_sub [1, 2, 0] rfl ?_
      exact ih v17 k0 k1 x18 hk0 hk1 h
set_option maxRecDepth 20000 in
theorem x_X5_reshape {X : Nat × (Nat → Int32)} {v : rV} {r : rV} {k0 : Nat} {k1 : Nat} (hk0 : isStrip k0 = true) (hk1 : isBody k1 = true) (h : f_X5_reshape v k0 k1 = some r) : EvM mX5_reshape 3 0 0 [.ref k0, .ref k1] (rZ X) v (rPV X r) := by
  refine evm_of (by decide +kernel) (fun G => Nat.le_of_ble_eq_true rfl) ?_
  show Ev mX5_reshape 3 0 0 0 [(0, .ref k0), (1, .ref k1)] [] (rZ X) v _
  unfold f_X5_reshape at h
  refine e_aload_n dX5_reshape_0 rfl ?_
  refine e_get (w := .int (v.1 k1 2)) (j := 2) dX5_reshape_1 (kBody_0 hk1) rc0 (by decide) wfX5_97 rfl ?_
  obtain ⟨x1, ex1, h⟩ := vlet_ex h
  refine e_nameI ex1.symm ?_
  clear ex1
  refine e_istore_n (lv' := [(2, .int x1), (0, .ref k0), (1, .ref k1)]) dX5_reshape_4 (by decide) rfl ?_
  refine e_sub [1, 2, 0] rfl ?_
  exact b_X5_reshape_5  _ v k0 k1 x1 hk0 hk1 h
def f_X5_stir_27  (q17 : rV → Nat → Nat → Int32 → Option (rV)) : Nat → rV → Nat → Nat → Int32 → Int32 → Option (rV)
  | 0, _, _, _, _, _ => none
  | n + 1, v, k0, k1, a2, a3 => if (2 : Int32) ≤ a3 then
  (vlet (a2 + (1 : Int32)) fun x2 =>
  q17 v k0 k1 x2)
else
  (if ¬ a3 < 0 ∧ a3.toNatClampNeg < 2 then
  (if ¬ a2 < 0 ∧ a2.toNatClampNeg < 24 then
  (if ¬ (a2 + (1 : Int32)) < 0 ∧ (a2 + (1 : Int32)).toNatClampNeg < 24 then
  (vlet (((v.1 (k0 + 5 + a3.toNatClampNeg) a2.toNatClampNeg) - (v.1 (k0 + 5 + a3.toNatClampNeg) ((a2 + (1 : Int32)).toNatClampNeg))) / (2 : Int32) : Int32) fun x6 =>
  vlet (rI v (k0 + 5 + a3.toNatClampNeg) a2.toNatClampNeg ((v.1 (k0 + 5 + a3.toNatClampNeg) a2.toNatClampNeg) - x6)) fun v7 =>
  vlet (a2 + (1 : Int32) : Int32) fun x8 =>
  if ¬ x8 < 0 ∧ x8.toNatClampNeg < 24 then
  (vlet (rI v7 (k0 + 5 + a3.toNatClampNeg) x8.toNatClampNeg ((v7.1 (k0 + 5 + a3.toNatClampNeg) x8.toNatClampNeg) + x6)) fun v10 =>
  vlet (a3 + (1 : Int32)) fun x11 =>
  f_X5_stir_27 q17 n v10 k0 k1 a2 x11)
else none)
else none)
else none)
else none)
def f_X5_stir_17   : Nat → rV → Nat → Nat → Int32 → Option (rV)
  | 0, _, _, _, _ => none
  | n + 1, v, k0, k1, a2 => if (v.1 k1 3) ≤ a2 then
  (some v)
else
  (f_X5_stir_27 (fun v k0 k1 a2 => f_X5_stir_17  n v k0 k1 a2) 20000 v k0 k1 a2 (0 : Int32))
def f_X5_stir (v : rV) (k0 : Nat) (k1 : Nat) : Option (rV) := if (50 : Int32) ≤ (v.1 (k1 + 1) 5) then
  (vlet (v.1 k1 2 : Int32) fun x1 =>
  f_X5_stir_17  20000 v k0 k1 x1)
else
  (some v)
set_option maxRecDepth 20000 in
theorem b_X5_stir_27 {X : Nat × (Nat → Int32)} {r : rV} {q17 : rV → Nat → Nat → Int32 → Option (rV)} (hq17 : ∀ (v : rV) (k0 : Nat) (k1 : Nat) (a2 : Int32) (hk0 : isStrip k0 = true) (hk1 : isBody k1 = true), q17 v k0 k1 a2 = some r → Ev mX5_stir 1 0 0 17 [(0, .ref k0), (1, .ref k1), (2, .int a2)] [] (rZ X) v (rPV X r)) : ∀ (n : Nat) (v : rV) (k0 : Nat) (k1 : Nat) (a2 : Int32) (a3 : Int32) (hk0 : isStrip k0 = true) (hk1 : isBody k1 = true), f_X5_stir_27  q17 n v k0 k1 a2 a3 = some r → Ev mX5_stir 1 0 0 27 [(0, .ref k0), (1, .ref k1), (2, .int a2), (3, .int a3)] [] (rZ X) v (rPV X r) := by
  intro n
  induction n with
  | zero =>
    intros
    rename_i h
    cases h
  | succ n ih =>
    intro v k0 k1 a2 a3 hk0 hk1 h
    rw [f_X5_stir_27] at h
    refine e_iload_n dX5_stir_27 rfl ?_
    refine e_iconst (x := (2 : Int32)) dX5_stir_28 (by decide) ?_
    refine e_icmp_ge (tgt := 89) dX5_stir_29 (by decide) (fun c12 => ?_) (fun c12 => ?_)
    · rw [if_pos c12] at h
      obtain ⟨x2, ex2, h⟩ := vlet_ex h
      refine e_iinc (lv' := [(2, .int x2), (0, .ref k0), (1, .ref k1), (3, .int a3)]) dX5_stir_89 rfl (ex2.symm) (by decide) rfl ?_
      clear ex2
      refine e_goto (tgt := 17) dX5_stir_92 (by decide) ?_
      refine e_sub [1, 2, 0] rfl ?_
      exact hq17 v k0 k1 x2 hk0 hk1 h
    · rw [if_neg c12] at h
      refine e_aload_n dX5_stir_32 rfl ?_
      refine e_get (w := .ref (k0 + 4)) (j := 4) dX5_stir_33 (kStrip_0 hk0) rc5 (by decide) wfX5_31 (gStrip_4 hk0) ?_
      refine e_iload_n dX5_stir_36 rfl ?_
      obtain ⟨c3, h⟩ := grd h
      refine e_aaldJ dX5_stir_37 (kStrip_4 hk0) rfl rfl c3.2 c3.1 (rStrip_4 hk0 (c3).2) ?_
      refine e_iload_n dX5_stir_38 rfl ?_
      obtain ⟨c4, h⟩ := grd h
      refine e_ialdJ dX5_stir_39 (qStrip_4 hk0 (c3).2) rfl c4.2 c4.1 ?_
      refine e_aload_n dX5_stir_40 rfl ?_
      refine e_get (w := .ref (k0 + 4)) (j := 4) dX5_stir_41 (kStrip_0 hk0) rc5 (by decide) wfX5_31 (gStrip_4 hk0) ?_
      refine e_iload_n dX5_stir_44 rfl ?_
      refine e_aaldJ dX5_stir_45 (kStrip_4 hk0) rfl rfl (c3).2 (c3).1 (rStrip_4 hk0 (c3).2) ?_
      refine e_iload_n dX5_stir_46 rfl ?_
      refine e_iconst (x := (1 : Int32)) dX5_stir_47 (by decide) ?_
      refine e_iadd dX5_stir_48 ?_
      obtain ⟨c5, h⟩ := grd h
      refine e_ialdJ dX5_stir_49 (qStrip_4 hk0 (c3).2) rfl c5.2 c5.1 ?_
      refine e_isub dX5_stir_50 ?_
      refine e_iconst (x := (2 : Int32)) dX5_stir_51 (by decide) ?_
      refine e_idiv dX5_stir_52 (by decide) ?_
      obtain ⟨x6, ex6, h⟩ := vlet_ex h
      refine e_nameI ex6.symm ?_
      clear ex6
      refine e_istore (lv' := [(4, .int x6), (0, .ref k0), (1, .ref k1), (2, .int a2), (3, .int a3)]) dX5_stir_53 (by decide) rfl ?_
      refine e_aload_n dX5_stir_55 rfl ?_
      refine e_get (w := .ref (k0 + 4)) (j := 4) dX5_stir_56 (kStrip_0 hk0) rc5 (by decide) wfX5_31 (gStrip_4 hk0) ?_
      refine e_iload_n dX5_stir_59 rfl ?_
      refine e_aaldJ dX5_stir_60 (kStrip_4 hk0) rfl rfl (c3).2 (c3).1 (rStrip_4 hk0 (c3).2) ?_
      refine e_iload_n dX5_stir_61 rfl ?_
      refine e_dup2 dX5_stir_62 rfl rfl ?_
      refine e_ialdJ dX5_stir_63 (qStrip_4 hk0 (c3).2) rfl (c4).2 (c4).1 ?_
      refine e_iload dX5_stir_64 rfl ?_
      refine e_isub dX5_stir_66 ?_
      refine e_iastJ dX5_stir_67 (qStrip_4 hk0 (c3).2) rfl (c4).2 (c4).1 ?_
      obtain ⟨v7, ev7, h⟩ := vlet_ex h
      refine e_nameV ev7.symm ?_
      clear ev7
      refine e_aload_n dX5_stir_68 rfl ?_
      refine e_get (w := .ref (k0 + 4)) (j := 4) dX5_stir_69 (kStrip_0 hk0) rc5 (by decide) wfX5_31 (gStrip_4 hk0) ?_
      refine e_iload_n dX5_stir_72 rfl ?_
      refine e_aaldJ dX5_stir_73 (kStrip_4 hk0) rfl rfl (c3).2 (c3).1 (rStrip_4 hk0 (c3).2) ?_
      refine e_iload_n dX5_stir_74 rfl ?_
      refine e_iconst (x := (1 : Int32)) dX5_stir_75 (by decide) ?_
      refine e_iadd dX5_stir_76 ?_
      obtain ⟨x8, ex8, h⟩ := vlet_ex h
      refine e_nameI ex8.symm ?_
      clear ex8
      refine e_dup2 dX5_stir_77 rfl rfl ?_
      obtain ⟨c9, h⟩ := grd h
      refine e_ialdJ dX5_stir_78 (qStrip_4 hk0 (c3).2) rfl c9.2 c9.1 ?_
      refine e_iload dX5_stir_79 rfl ?_
      refine e_iadd dX5_stir_81 ?_
      refine e_iastJ dX5_stir_82 (qStrip_4 hk0 (c3).2) rfl (c9).2 (c9).1 ?_
      obtain ⟨v10, ev10, h⟩ := vlet_ex h
      refine e_nameV ev10.symm ?_
      clear ev10
      obtain ⟨x11, ex11, h⟩ := vlet_ex h
      refine e_iinc (lv' := [(3, .int x11), (4, .int x6), (0, .ref k0), (1, .ref k1), (2, .int a2)]) dX5_stir_83 rfl (ex11.symm) (by decide) rfl ?_
      clear ex11
      refine e_goto (tgt := 27) dX5_stir_86 (by decide) ?_
      refine e_sub [2, 3, 4, 0] rfl ?_
      exact ih v10 k0 k1 a2 x11 hk0 hk1 h
set_option maxRecDepth 20000 in
theorem b_X5_stir_17 {X : Nat × (Nat → Int32)} {r : rV}   : ∀ (n : Nat) (v : rV) (k0 : Nat) (k1 : Nat) (a2 : Int32) (hk0 : isStrip k0 = true) (hk1 : isBody k1 = true), f_X5_stir_17   n v k0 k1 a2 = some r → Ev mX5_stir 1 0 0 17 [(0, .ref k0), (1, .ref k1), (2, .int a2)] [] (rZ X) v (rPV X r) := by
  intro n
  induction n with
  | zero =>
    intros
    rename_i h
    cases h
  | succ n ih =>
    intro v k0 k1 a2 hk0 hk1 h
    rw [f_X5_stir_17] at h
    refine e_iload_n dX5_stir_17 rfl ?_
    refine e_aload_n dX5_stir_18 rfl ?_
    refine e_get (w := .int (v.1 k1 3)) (j := 3) dX5_stir_19 (kBody_0 hk1) rc0 (by decide) wfX5_86 rfl ?_
    refine e_icmp_ge (tgt := 95) dX5_stir_22 (by decide) (fun c13 => ?_) (fun c13 => ?_)
    · rw [if_pos c13] at h
      obtain rfl := Option.some.inj h
      exact e_ret dX5_stir_95 rfl ⟨rfl, rfl, rfl⟩
    · rw [if_neg c13] at h
      refine e_iconst (x := (0 : Int32)) dX5_stir_25 (by decide) ?_
      refine e_istore_n (lv' := [(3, .int (0 : Int32)), (0, .ref k0), (1, .ref k1), (2, .int a2)]) dX5_stir_26 (by decide) rfl ?_
      refine e_sub [1, 2, 3, 0] rfl ?_
      exact b_X5_stir_27 (fun v k0 k1 a2 hk0 hk1 hh => ih v k0 k1 a2 hk0 hk1 hh) _ v k0 k1 a2 (0 : Int32) hk0 hk1 h
set_option maxRecDepth 20000 in
theorem x_X5_stir {X : Nat × (Nat → Int32)} {v : rV} {r : rV} {k0 : Nat} {k1 : Nat} (hk0 : isStrip k0 = true) (hk1 : isBody k1 = true) (h : f_X5_stir v k0 k1 = some r) : EvM mX5_stir 1 0 0 [.ref k0, .ref k1] (rZ X) v (rPV X r) := by
  refine evm_of (by decide +kernel) (fun G => Nat.le_of_ble_eq_true rfl) ?_
  show Ev mX5_stir 1 0 0 0 [(0, .ref k0), (1, .ref k1)] [] (rZ X) v _
  unfold f_X5_stir at h
  refine e_aload_n dX5_stir_0 rfl ?_
  refine e_get (w := .ref (k1 + 1)) (j := 0) dX5_stir_1 (kBody_0 hk1) rc0 (by decide) wfX5_100 (gBody_0 hk1) ?_
  refine e_iconst (x := (5 : Int32)) dX5_stir_4 (by decide) ?_
  refine e_ialdJ dX5_stir_5 (kBody_1 hk1) (j := 5) (by decide) (by decide) (by decide) ?_
  refine e_bipush (x := (50 : Int32)) dX5_stir_6 (by decide) ?_
  refine e_icmp_ge (tgt := 12) dX5_stir_8 (by decide) (fun c14 => ?_) (fun c14 => ?_)
  · rw [if_pos c14] at h
    refine e_aload_n dX5_stir_12 rfl ?_
    refine e_get (w := .int (v.1 k1 2)) (j := 2) dX5_stir_13 (kBody_0 hk1) rc0 (by decide) wfX5_97 rfl ?_
    obtain ⟨x1, ex1, h⟩ := vlet_ex h
    refine e_nameI ex1.symm ?_
    clear ex1
    refine e_istore_n (lv' := [(2, .int x1), (0, .ref k0), (1, .ref k1)]) dX5_stir_16 (by decide) rfl ?_
    refine e_sub [1, 2, 0] rfl ?_
    exact b_X5_stir_17  _ v k0 k1 x1 hk0 hk1 h
  · rw [if_neg c14] at h
    obtain rfl := Option.some.inj h
    exact e_ret dX5_stir_11 rfl ⟨rfl, rfl, rfl⟩
def f_X5_wander_121  (q5 : rV → Nat → Nat → Int32 → Option (rV)) (v : rV) (k0 : Nat) (k1 : Nat) (a2 : Int32) : Option (rV) := vlet (a2 + (1 : Int32)) fun x5 =>
  q5 v k0 k1 x5
def f_X5_wander_65  (q5 : rV → Nat → Nat → Int32 → Option (rV)) (v : rV) (k0 : Nat) (k1 : Nat) (a2 : Int32) (s0 : Int32) : Option (rV) := if ¬ a2 < 0 ∧ a2.toNatClampNeg < 24 then
  (if (v.1 (k0 + 5 + 0) a2.toNatClampNeg) ≤ 0 then
  (f_X5_wander_121 q5 v k0 k1 a2)
else
  (if s0 < (v.1 k1 2) then
  (f_X5_wander_121 q5 v k0 k1 a2)
else
  (if (v.1 k1 3) < s0 then
  (f_X5_wander_121 q5 v k0 k1 a2)
else
  (vlet (rI v (k0 + 5 + 0) a2.toNatClampNeg ((v.1 (k0 + 5 + 0) a2.toNatClampNeg) - (1 : Int32))) fun v6 =>
  if ¬ s0 < 0 ∧ s0.toNatClampNeg < 24 then
  (vlet (rI v6 (k0 + 5 + 0) s0.toNatClampNeg ((v6.1 (k0 + 5 + 0) s0.toNatClampNeg) + (1 : Int32))) fun v8 =>
  f_X5_wander_121 q5 v8 k0 k1 a2)
else none))))
else none
def f_X5_wander_5   : Nat → rV → Nat → Nat → Int32 → Option (rV)
  | 0, _, _, _, _ => none
  | n + 1, v, k0, k1, a2 => if (v.1 k1 3) < a2 then
  (some v)
else
  (vlet (rL v k0 14 (((v.2.1 k0 14) * (6364136223846793005 : Int64)) + (1442695040888963407 : Int64))) fun v2 =>
  vlet (((((v2.2.1 k0 14).toUInt64 >>> ((33 : Int32).toInt64.toUInt64 &&& Int64.toUInt64 63)).toInt64) - (((v2.2.1 k0 14).toUInt64 >>> ((33 : Int32).toInt64.toUInt64 &&& Int64.toUInt64 63)).toInt64) / (4 : Int64) * (4 : Int64)).toInt32 : Int32) fun x3 =>
  if x3 = (1 : Int32) then
  (f_X5_wander_65 (fun v k0 k1 a2 => f_X5_wander_5  n v k0 k1 a2) v2 k0 k1 a2 (a2 - (1 : Int32)))
else
  (if x3 = (2 : Int32) then
  (f_X5_wander_65 (fun v k0 k1 a2 => f_X5_wander_5  n v k0 k1 a2) v2 k0 k1 a2 (a2 + (1 : Int32)))
else
  (f_X5_wander_65 (fun v k0 k1 a2 => f_X5_wander_5  n v k0 k1 a2) v2 k0 k1 a2 a2)))
def f_X5_wander (v : rV) (k0 : Nat) (k1 : Nat) : Option (rV) := vlet (v.1 k1 2 : Int32) fun x1 =>
  f_X5_wander_5  20000 v k0 k1 x1
set_option maxRecDepth 20000 in
theorem b_X5_wander_121 {X : Nat × (Nat → Int32)} {r : rV} {v : rV} {q5 : rV → Nat → Nat → Int32 → Option (rV)} (hq5 : ∀ (v : rV) (k0 : Nat) (k1 : Nat) (a2 : Int32) (hk0 : isStrip k0 = true) (hk1 : isBody k1 = true), q5 v k0 k1 a2 = some r → Ev mX5_wander 1 0 0 5 [(0, .ref k0), (1, .ref k1), (2, .int a2)] [] (rZ X) v (rPV X r)) {k0 : Nat} {k1 : Nat} {a2 : Int32} (hk0 : isStrip k0 = true) (hk1 : isBody k1 = true) (h : f_X5_wander_121 q5 v k0 k1 a2 = some r) : Ev mX5_wander 1 0 0 121 [(0, .ref k0), (1, .ref k1), (2, .int a2)] [] (rZ X) v (rPV X r) := by
  unfold f_X5_wander_121 at h
  obtain ⟨x5, ex5, h⟩ := vlet_ex h
  refine e_iinc (lv' := [(2, .int x5), (0, .ref k0), (1, .ref k1)]) dX5_wander_121 rfl (ex5.symm) (by decide) rfl ?_
  clear ex5
  refine e_goto (tgt := 5) dX5_wander_124 (by decide) ?_
  refine e_sub [1, 2, 0] rfl ?_
  exact hq5 v k0 k1 x5 hk0 hk1 h
set_option maxRecDepth 20000 in
theorem b_X5_wander_65 {X : Nat × (Nat → Int32)} {r : rV} {v : rV} {q5 : rV → Nat → Nat → Int32 → Option (rV)} (hq5 : ∀ (v : rV) (k0 : Nat) (k1 : Nat) (a2 : Int32) (hk0 : isStrip k0 = true) (hk1 : isBody k1 = true), q5 v k0 k1 a2 = some r → Ev mX5_wander 1 0 0 5 [(0, .ref k0), (1, .ref k1), (2, .int a2)] [] (rZ X) v (rPV X r)) {k0 : Nat} {k1 : Nat} {a2 : Int32} {s0 : Int32} (hk0 : isStrip k0 = true) (hk1 : isBody k1 = true) (h : f_X5_wander_65 q5 v k0 k1 a2 s0 = some r) : Ev mX5_wander 1 0 0 65 [(0, .ref k0), (1, .ref k1), (2, .int a2)] [.int s0] (rZ X) v (rPV X r) := by
  unfold f_X5_wander_65 at h
  refine e_istore (lv' := [(4, .int s0), (0, .ref k0), (1, .ref k1), (2, .int a2)]) dX5_wander_65 (by decide) rfl ?_
  refine e_aload_n dX5_wander_67 rfl ?_
  refine e_get (w := .ref (k0 + 4)) (j := 4) dX5_wander_68 (kStrip_0 hk0) rc5 (by decide) wfX5_31 (gStrip_4 hk0) ?_
  refine e_iconst (x := (0 : Int32)) dX5_wander_71 (by decide) ?_
  refine e_aaldJ dX5_wander_72 (kStrip_4 hk0) rfl (j := 0) (by decide) (by decide) (by decide) (rStrip_4 hk0 (by decide)) ?_
  refine e_iload_n dX5_wander_73 rfl ?_
  obtain ⟨c4, h⟩ := grd h
  refine e_ialdJ dX5_wander_74 (qStrip_4 hk0 (by decide)) rfl c4.2 c4.1 ?_
  refine e_if_le (tgt := 121) dX5_wander_75 (by decide) (fun c11 => ?_) (fun c11 => ?_)
  · rw [if_pos c11] at h
    refine e_sub [1, 2, 3] rfl ?_
    exact b_X5_wander_121 hq5 hk0 hk1 h
  · rw [if_neg c11] at h
    refine e_iload dX5_wander_78 rfl ?_
    refine e_aload_n dX5_wander_80 rfl ?_
    refine e_get (w := .int (v.1 k1 2)) (j := 2) dX5_wander_81 (kBody_0 hk1) rc0 (by decide) wfX5_97 rfl ?_
    refine e_icmp_lt (tgt := 121) dX5_wander_84 (by decide) (fun c10 => ?_) (fun c10 => ?_)
    · rw [if_pos c10] at h
      refine e_sub [1, 2, 3] rfl ?_
      exact b_X5_wander_121 hq5 hk0 hk1 h
    · rw [if_neg c10] at h
      refine e_iload dX5_wander_87 rfl ?_
      refine e_aload_n dX5_wander_89 rfl ?_
      refine e_get (w := .int (v.1 k1 3)) (j := 3) dX5_wander_90 (kBody_0 hk1) rc0 (by decide) wfX5_86 rfl ?_
      refine e_icmp_gt (tgt := 121) dX5_wander_93 (by decide) (fun c9 => ?_) (fun c9 => ?_)
      · rw [if_pos c9] at h
        refine e_sub [1, 2, 3] rfl ?_
        exact b_X5_wander_121 hq5 hk0 hk1 h
      · rw [if_neg c9] at h
        refine e_aload_n dX5_wander_96 rfl ?_
        refine e_get (w := .ref (k0 + 4)) (j := 4) dX5_wander_97 (kStrip_0 hk0) rc5 (by decide) wfX5_31 (gStrip_4 hk0) ?_
        refine e_iconst (x := (0 : Int32)) dX5_wander_100 (by decide) ?_
        refine e_aaldJ dX5_wander_101 (kStrip_4 hk0) rfl (j := 0) (by decide) (by decide) (by decide) (rStrip_4 hk0 (by decide)) ?_
        refine e_iload_n dX5_wander_102 rfl ?_
        refine e_dup2 dX5_wander_103 rfl rfl ?_
        refine e_ialdJ dX5_wander_104 (qStrip_4 hk0 (by decide)) rfl (c4).2 (c4).1 ?_
        refine e_iconst (x := (1 : Int32)) dX5_wander_105 (by decide) ?_
        refine e_isub dX5_wander_106 ?_
        refine e_iastJ dX5_wander_107 (qStrip_4 hk0 (by decide)) rfl (c4).2 (c4).1 ?_
        obtain ⟨v6, ev6, h⟩ := vlet_ex h
        refine e_nameV ev6.symm ?_
        clear ev6
        refine e_aload_n dX5_wander_108 rfl ?_
        refine e_get (w := .ref (k0 + 4)) (j := 4) dX5_wander_109 (kStrip_0 hk0) rc5 (by decide) wfX5_31 (gStrip_4 hk0) ?_
        refine e_iconst (x := (0 : Int32)) dX5_wander_112 (by decide) ?_
        refine e_aaldJ dX5_wander_113 (kStrip_4 hk0) rfl (j := 0) (by decide) (by decide) (by decide) (rStrip_4 hk0 (by decide)) ?_
        refine e_iload dX5_wander_114 rfl ?_
        refine e_dup2 dX5_wander_116 rfl rfl ?_
        obtain ⟨c7, h⟩ := grd h
        refine e_ialdJ dX5_wander_117 (qStrip_4 hk0 (by decide)) rfl c7.2 c7.1 ?_
        refine e_iconst (x := (1 : Int32)) dX5_wander_118 (by decide) ?_
        refine e_iadd dX5_wander_119 ?_
        refine e_iastJ dX5_wander_120 (qStrip_4 hk0 (by decide)) rfl (c7).2 (c7).1 ?_
        obtain ⟨v8, ev8, h⟩ := vlet_ex h
        refine e_nameV ev8.symm ?_
        clear ev8
        refine e_sub [1, 2, 3] rfl ?_
        exact b_X5_wander_121 hq5 hk0 hk1 h
set_option maxRecDepth 20000 in
theorem b_X5_wander_5 {X : Nat × (Nat → Int32)} {r : rV}   : ∀ (n : Nat) (v : rV) (k0 : Nat) (k1 : Nat) (a2 : Int32) (hk0 : isStrip k0 = true) (hk1 : isBody k1 = true), f_X5_wander_5   n v k0 k1 a2 = some r → Ev mX5_wander 1 0 0 5 [(0, .ref k0), (1, .ref k1), (2, .int a2)] [] (rZ X) v (rPV X r) := by
  intro n
  induction n with
  | zero =>
    intros
    rename_i h
    cases h
  | succ n ih =>
    intro v k0 k1 a2 hk0 hk1 h
    rw [f_X5_wander_5] at h
    refine e_iload_n dX5_wander_5 rfl ?_
    refine e_aload_n dX5_wander_6 rfl ?_
    refine e_get (w := .int (v.1 k1 3)) (j := 3) dX5_wander_7 (kBody_0 hk1) rc0 (by decide) wfX5_86 rfl ?_
    refine e_icmp_gt (tgt := 127) dX5_wander_10 (by decide) (fun c14 => ?_) (fun c14 => ?_)
    · rw [if_pos c14] at h
      obtain rfl := Option.some.inj h
      exact e_ret dX5_wander_127 rfl ⟨rfl, rfl, rfl⟩
    · rw [if_neg c14] at h
      refine e_aload_n dX5_wander_13 rfl ?_
      refine e_aload_n dX5_wander_14 rfl ?_
      refine e_get (w := .long (v.2.1 k0 14)) (j := 14) dX5_wander_15 (kStrip_0 hk0) rc5 (by decide) wfX5_67 rfl ?_
      refine e_ldc2 dX5_wander_18 wcX5_179 ?_
      refine e_lmul dX5_wander_21 ?_
      refine e_ldc2 dX5_wander_22 wcX5_181 ?_
      refine e_ladd dX5_wander_25 ?_
      refine e_putL (j := 14) dX5_wander_26 (kStrip_0 hk0) rc5 (by decide) wfX5_67 rfl rfl ?_
      obtain ⟨v2, ev2, h⟩ := vlet_ex h
      refine e_nameV ev2.symm ?_
      clear ev2
      refine e_aload_n dX5_wander_29 rfl ?_
      refine e_get (w := .long (v2.2.1 k0 14)) (j := 14) dX5_wander_30 (kStrip_0 hk0) rc5 (by decide) wfX5_67 rfl ?_
      refine e_bipush (x := (33 : Int32)) dX5_wander_33 (by decide) ?_
      refine e_lushr dX5_wander_35 ?_
      refine e_ldc2 dX5_wander_36 wcX5_183 ?_
      refine e_lrem dX5_wander_39 (by decide) ?_
      refine e_l2i dX5_wander_40 ?_
      obtain ⟨x3, ex3, h⟩ := vlet_ex h
      refine e_nameI ex3.symm ?_
      clear ex3
      refine e_istore_n (lv' := [(3, .int x3), (0, .ref k0), (1, .ref k1), (2, .int a2)]) dX5_wander_41 (by decide) rfl ?_
      refine e_iload_n dX5_wander_42 rfl ?_
      refine e_iconst (x := (1 : Int32)) dX5_wander_43 (by decide) ?_
      refine e_icmp_ne (tgt := 53) dX5_wander_44 (by decide) (fun c13 => ?_) (fun c13 => ?_)
      · rw [if_neg c13] at h
        refine e_iload_n dX5_wander_53 rfl ?_
        refine e_iconst (x := (2 : Int32)) dX5_wander_54 (by decide) ?_
        refine e_icmp_ne (tgt := 64) dX5_wander_55 (by decide) (fun c12 => ?_) (fun c12 => ?_)
        · rw [if_neg c12] at h
          refine e_iload_n dX5_wander_64 rfl ?_
          refine e_sub [1, 2, 3] rfl ?_
          exact b_X5_wander_65 (fun v k0 k1 a2 hk0 hk1 hh => ih v k0 k1 a2 hk0 hk1 hh) hk0 hk1 h
        · rw [if_pos c12] at h
          refine e_iload_n dX5_wander_58 rfl ?_
          refine e_iconst (x := (1 : Int32)) dX5_wander_59 (by decide) ?_
          refine e_iadd dX5_wander_60 ?_
          refine e_goto (tgt := 65) dX5_wander_61 (by decide) ?_
          refine e_sub [1, 2, 3] rfl ?_
          exact b_X5_wander_65 (fun v k0 k1 a2 hk0 hk1 hh => ih v k0 k1 a2 hk0 hk1 hh) hk0 hk1 h
      · rw [if_pos c13] at h
        refine e_iload_n dX5_wander_47 rfl ?_
        refine e_iconst (x := (1 : Int32)) dX5_wander_48 (by decide) ?_
        refine e_isub dX5_wander_49 ?_
        refine e_goto (tgt := 65) dX5_wander_50 (by decide) ?_
        refine e_sub [1, 2, 3] rfl ?_
        exact b_X5_wander_65 (fun v k0 k1 a2 hk0 hk1 hh => ih v k0 k1 a2 hk0 hk1 hh) hk0 hk1 h
set_option maxRecDepth 20000 in
theorem x_X5_wander {X : Nat × (Nat → Int32)} {v : rV} {r : rV} {k0 : Nat} {k1 : Nat} (hk0 : isStrip k0 = true) (hk1 : isBody k1 = true) (h : f_X5_wander v k0 k1 = some r) : EvM mX5_wander 1 0 0 [.ref k0, .ref k1] (rZ X) v (rPV X r) := by
  refine evm_of (by decide +kernel) (fun G => Nat.le_of_ble_eq_true rfl) ?_
  show Ev mX5_wander 1 0 0 0 [(0, .ref k0), (1, .ref k1)] [] (rZ X) v _
  unfold f_X5_wander at h
  refine e_aload_n dX5_wander_0 rfl ?_
  refine e_get (w := .int (v.1 k1 2)) (j := 2) dX5_wander_1 (kBody_0 hk1) rc0 (by decide) wfX5_97 rfl ?_
  obtain ⟨x1, ex1, h⟩ := vlet_ex h
  refine e_nameI ex1.symm ?_
  clear ex1
  refine e_istore_n (lv' := [(2, .int x1), (0, .ref k0), (1, .ref k1)]) dX5_wander_4 (by decide) rfl ?_
  refine e_sub [1, 2, 0] rfl ?_
  exact b_X5_wander_5  _ v k0 k1 x1 hk0 hk1 h
def f_X5_layDown_83  (q5 : rV → Nat → Nat → Int32 → Int32 → Option (rV)) (v : rV) (k0 : Nat) (k1 : Nat) (a2 : Int32) (a3 : Int32) : Option (rV) := vlet (a3 + (1 : Int32)) fun x4 =>
  q5 v k0 k1 a2 x4
def f_X5_layDown_5   : Nat → rV → Nat → Nat → Int32 → Int32 → Option (rV)
  | 0, _, _, _, _, _ => none
  | n + 1, v, k0, k1, a2, a3 => if (v.1 k1 3) < a3 then
  (some v)
else
  (if ¬ a3 < 0 ∧ a3.toNatClampNeg < 24 then
  (vlet (((v.1 (k0 + 5 + 0) a3.toNatClampNeg) + (v.1 (k0 + 5 + 1) a3.toNatClampNeg)) - (((v.1 (k0 + 1) a3.toNatClampNeg) * (v.1 (k1 + 1) 8)) / (10 : Int32)) : Int32) fun x3 =>
  if x3 ≤ 0 then
  (f_X5_layDown_83 (fun v k0 k1 a2 a3 => f_X5_layDown_5  n v k0 k1 a2 a3) v k0 k1 a2 a3)
else
  (vlet (if (v.1 (k0 + 5 + 0) a3.toNatClampNeg) < x3 then (v.1 (k0 + 5 + 0) a3.toNatClampNeg) else x3 : Int32) fun x5 =>
  (f_X5_lieDown v k0 a3 x5 (x3 - x5) a2).bind fun p6 =>
  f_X5_layDown_83 (fun v k0 k1 a2 a3 => f_X5_layDown_5  n v k0 k1 a2 a3) p6 k0 k1 a2 a3))
else none)
def f_X5_layDown (v : rV) (k0 : Nat) (k1 : Nat) (a2 : Int32) : Option (rV) := vlet (v.1 k1 2 : Int32) fun x1 =>
  f_X5_layDown_5  20000 v k0 k1 a2 x1
set_option maxRecDepth 20000 in
theorem b_X5_layDown_83 {X : Nat × (Nat → Int32)} {r : rV} {v : rV} {q5 : rV → Nat → Nat → Int32 → Int32 → Option (rV)} (hq5 : ∀ (v : rV) (k0 : Nat) (k1 : Nat) (a2 : Int32) (a3 : Int32) (hk0 : isStrip k0 = true) (hk1 : isBody k1 = true), q5 v k0 k1 a2 a3 = some r → Ev mX5_layDown 2 0 0 5 [(0, .ref k0), (1, .ref k1), (2, .int a2), (3, .int a3)] [] (rZ X) v (rPV X r)) {k0 : Nat} {k1 : Nat} {a2 : Int32} {a3 : Int32} (hk0 : isStrip k0 = true) (hk1 : isBody k1 = true) (h : f_X5_layDown_83 q5 v k0 k1 a2 a3 = some r) : Ev mX5_layDown 2 0 0 83 [(0, .ref k0), (1, .ref k1), (2, .int a2), (3, .int a3)] [] (rZ X) v (rPV X r) := by
  unfold f_X5_layDown_83 at h
  obtain ⟨x4, ex4, h⟩ := vlet_ex h
  refine e_iinc (lv' := [(3, .int x4), (0, .ref k0), (1, .ref k1), (2, .int a2)]) dX5_layDown_83 rfl (ex4.symm) (by decide) rfl ?_
  clear ex4
  refine e_goto (tgt := 5) dX5_layDown_86 (by decide) ?_
  refine e_sub [1, 2, 3, 0] rfl ?_
  exact hq5 v k0 k1 a2 x4 hk0 hk1 h
set_option maxRecDepth 20000 in
theorem b_X5_layDown_5 {X : Nat × (Nat → Int32)} {r : rV}   : ∀ (n : Nat) (v : rV) (k0 : Nat) (k1 : Nat) (a2 : Int32) (a3 : Int32) (hk0 : isStrip k0 = true) (hk1 : isBody k1 = true), f_X5_layDown_5   n v k0 k1 a2 a3 = some r → Ev mX5_layDown 2 0 0 5 [(0, .ref k0), (1, .ref k1), (2, .int a2), (3, .int a3)] [] (rZ X) v (rPV X r) := by
  intro n
  induction n with
  | zero =>
    intros
    rename_i h
    cases h
  | succ n ih =>
    intro v k0 k1 a2 a3 hk0 hk1 h
    rw [f_X5_layDown_5] at h
    refine e_iload_n dX5_layDown_5 rfl ?_
    refine e_aload_n dX5_layDown_6 rfl ?_
    refine e_get (w := .int (v.1 k1 3)) (j := 3) dX5_layDown_7 (kBody_0 hk1) rc0 (by decide) wfX5_86 rfl ?_
    refine e_icmp_gt (tgt := 89) dX5_layDown_10 (by decide) (fun c8 => ?_) (fun c8 => ?_)
    · rw [if_pos c8] at h
      obtain rfl := Option.some.inj h
      exact e_ret dX5_layDown_89 rfl ⟨rfl, rfl, rfl⟩
    · rw [if_neg c8] at h
      refine e_aload_n dX5_layDown_13 rfl ?_
      refine e_get (w := .ref (k0 + 4)) (j := 4) dX5_layDown_14 (kStrip_0 hk0) rc5 (by decide) wfX5_31 (gStrip_4 hk0) ?_
      refine e_iconst (x := (0 : Int32)) dX5_layDown_17 (by decide) ?_
      refine e_aaldJ dX5_layDown_18 (kStrip_4 hk0) rfl (j := 0) (by decide) (by decide) (by decide) (rStrip_4 hk0 (by decide)) ?_
      refine e_iload_n dX5_layDown_19 rfl ?_
      obtain ⟨c2, h⟩ := grd h
      refine e_ialdJ dX5_layDown_20 (qStrip_4 hk0 (by decide)) rfl c2.2 c2.1 ?_
      refine e_aload_n dX5_layDown_21 rfl ?_
      refine e_get (w := .ref (k0 + 4)) (j := 4) dX5_layDown_22 (kStrip_0 hk0) rc5 (by decide) wfX5_31 (gStrip_4 hk0) ?_
      refine e_iconst (x := (1 : Int32)) dX5_layDown_25 (by decide) ?_
      refine e_aaldJ dX5_layDown_26 (kStrip_4 hk0) rfl (j := 1) (by decide) (by decide) (by decide) (rStrip_4 hk0 (by decide)) ?_
      refine e_iload_n dX5_layDown_27 rfl ?_
      refine e_ialdJ dX5_layDown_28 (qStrip_4 hk0 (by decide)) rfl (c2).2 (c2).1 ?_
      refine e_iadd dX5_layDown_29 ?_
      refine e_aload_n dX5_layDown_30 rfl ?_
      refine e_get (w := .ref (k0 + 1)) (j := 0) dX5_layDown_31 (kStrip_0 hk0) rc5 (by decide) wfX5_9 (gStrip_0 hk0) ?_
      refine e_iload_n dX5_layDown_34 rfl ?_
      refine e_ialdJ dX5_layDown_35 (kStrip_1 hk0) rfl (c2).2 (c2).1 ?_
      refine e_aload_n dX5_layDown_36 rfl ?_
      refine e_get (w := .ref (k1 + 1)) (j := 0) dX5_layDown_37 (kBody_0 hk1) rc0 (by decide) wfX5_100 (gBody_0 hk1) ?_
      refine e_bipush (x := (8 : Int32)) dX5_layDown_40 (by decide) ?_
      refine e_ialdJ dX5_layDown_42 (kBody_1 hk1) (j := 8) (by decide) (by decide) (by decide) ?_
      refine e_imul dX5_layDown_43 ?_
      refine e_bipush (x := (10 : Int32)) dX5_layDown_44 (by decide) ?_
      refine e_idiv dX5_layDown_46 (by decide) ?_
      refine e_isub dX5_layDown_47 ?_
      obtain ⟨x3, ex3, h⟩ := vlet_ex h
      refine e_nameI ex3.symm ?_
      clear ex3
      refine e_istore (lv' := [(4, .int x3), (0, .ref k0), (1, .ref k1), (2, .int a2), (3, .int a3)]) dX5_layDown_48 (by decide) rfl ?_
      refine e_iload dX5_layDown_50 rfl ?_
      refine e_if_le (tgt := 83) dX5_layDown_52 (by decide) (fun c7 => ?_) (fun c7 => ?_)
      · rw [if_pos c7] at h
        refine e_sub [1, 2, 3, 4] rfl ?_
        exact b_X5_layDown_83 (fun v k0 k1 a2 a3 hk0 hk1 hh => ih v k0 k1 a2 a3 hk0 hk1 hh) hk0 hk1 h
      · rw [if_neg c7] at h
        refine e_iload dX5_layDown_55 rfl ?_
        refine e_aload_n dX5_layDown_57 rfl ?_
        refine e_get (w := .ref (k0 + 4)) (j := 4) dX5_layDown_58 (kStrip_0 hk0) rc5 (by decide) wfX5_31 (gStrip_4 hk0) ?_
        refine e_iconst (x := (0 : Int32)) dX5_layDown_61 (by decide) ?_
        refine e_aaldJ dX5_layDown_62 (kStrip_4 hk0) rfl (j := 0) (by decide) (by decide) (by decide) (rStrip_4 hk0 (by decide)) ?_
        refine e_iload_n dX5_layDown_63 rfl ?_
        refine e_ialdJ dX5_layDown_64 (qStrip_4 hk0 (by decide)) rfl (c2).2 (c2).1 ?_
        refine e_min dX5_layDown_65 wmX5_150 wmst_min winimath wmcd_min (by omega) (Nat.le_of_ble_eq_true rfl) ?_
        obtain ⟨x5, ex5, h⟩ := vlet_ex h
        refine e_nameI ex5.symm ?_
        clear ex5
        refine e_istore (lv' := [(5, .int x5), (4, .int x3), (0, .ref k0), (1, .ref k1), (2, .int a2), (3, .int a3)]) dX5_layDown_68 (by decide) rfl ?_
        refine e_aload_n dX5_layDown_70 rfl ?_
        refine e_iload_n dX5_layDown_71 rfl ?_
        refine e_iload dX5_layDown_72 rfl ?_
        refine e_iload dX5_layDown_74 rfl ?_
        refine e_iload dX5_layDown_76 rfl ?_
        refine e_isub dX5_layDown_78 ?_
        refine e_iload_n dX5_layDown_79 rfl ?_
        obtain ⟨p6, ep6, h⟩ := Option.bind_eq_some_iff.mp h
        refine c_VV (M' := mX5_lieDown) [.int a3, .int x5, .int (x3 - x5), .int a2] dX5_layDown_80 rfl wmX5_169 imX5_lieDown seX5_lieDown lkX5_lieDown (kStrip_0 hk0) rc5 (Nat.le_of_ble_eq_true rfl) ((x_X5_lieDown hk0 ep6).mono (by omega)) ?_
        refine e_sub [2, 3, 4, 5] rfl ?_
        exact b_X5_layDown_83 (fun v k0 k1 a2 a3 hk0 hk1 hh => ih v k0 k1 a2 a3 hk0 hk1 hh) hk0 hk1 h
set_option maxRecDepth 20000 in
theorem x_X5_layDown {X : Nat × (Nat → Int32)} {v : rV} {r : rV} {k0 : Nat} {k1 : Nat} {a2 : Int32} (hk0 : isStrip k0 = true) (hk1 : isBody k1 = true) (h : f_X5_layDown v k0 k1 a2 = some r) : EvM mX5_layDown 2 0 0 [.ref k0, .ref k1, .int a2] (rZ X) v (rPV X r) := by
  refine evm_of (by decide +kernel) (fun G => Nat.le_of_ble_eq_true rfl) ?_
  show Ev mX5_layDown 2 0 0 0 [(0, .ref k0), (1, .ref k1), (2, .int a2)] [] (rZ X) v _
  unfold f_X5_layDown at h
  refine e_aload_n dX5_layDown_0 rfl ?_
  refine e_get (w := .int (v.1 k1 2)) (j := 2) dX5_layDown_1 (kBody_0 hk1) rc0 (by decide) wfX5_97 rfl ?_
  obtain ⟨x1, ex1, h⟩ := vlet_ex h
  refine e_nameI ex1.symm ?_
  clear ex1
  refine e_istore_n (lv' := [(3, .int x1), (0, .ref k0), (1, .ref k1), (2, .int a2)]) dX5_layDown_4 (by decide) rfl ?_
  refine e_sub [1, 2, 3, 0] rfl ?_
  exact b_X5_layDown_5  _ v k0 k1 a2 x1 hk0 hk1 h
def f_X5_oneTick_153   (v : rV) (k0 : Nat) : Option (rV) := (f_X5_dropTheDry v k0).bind fun p4 =>
  some p4
def f_X5_oneTick_116   (v : rV) (k0 : Nat) : Option (rV) := vlet (rI v k0 15 ((v.1 k0 15) + (1 : Int32))) fun v3 =>
  if (v3.1 k0 3) ≤ (v3.1 k0 19) then
  (f_X5_oneTick_153  v3 k0)
else
  (vlet (rI v3 k0 19 (v3.1 k0 3)) fun v5 =>
  vlet (rI v5 k0 18 (v5.1 k0 15)) fun v6 =>
  f_X5_oneTick_153  v6 k0)
def f_X5_oneTick_33   : Nat → rV → Nat → Int32 → Int32 → Option (rV)
  | 0, _, _, _, _ => none
  | n + 1, v, k0, a1, a2 => if (v.1 k0 10) ≤ a2 then
  (if (120 : Int32) ≤ (v.1 k0 15) then
  (f_X5_oneTick_116  v k0)
else
  (if ¬ (v.1 k0 15) < 0 ∧ (v.1 k0 15).toNatClampNeg < 120 then
  (vlet (rI v (k0 + 12) ((v.1 k0 15).toNatClampNeg) (v.1 k0 3)) fun v9 =>
  f_X5_oneTick_116  v9 k0)
else none))
else
  (if ¬ a2 < 0 ∧ a2.toNatClampNeg < 12 then
  ((v.2.2 (k0 + 13) a2.toNatClampNeg).bind fun kd12 => if isBody kd12 = true then
  ((f_X5_evaporate v k0 kd12).bind fun p13 =>
  (f_X5_letGo p13 k0 kd12 a1).bind fun p14 =>
  (f_X5_reshape p14 k0 kd12).bind fun p15 =>
  (f_X5_carryAll p15 k0 kd12).bind fun p16 =>
  (f_X5_stir p16 k0 kd12).bind fun p17 =>
  (f_X5_wander p17 k0 kd12).bind fun p18 =>
  (f_X5_layDown p18 k0 kd12 a1).bind fun p19 =>
  vlet (a2 + (1 : Int32)) fun x20 =>
  f_X5_oneTick_33  n p19 k0 a1 x20) else none)
else none)
def f_X5_oneTick_12   : Nat → rV → Nat → Int32 → Int32 → Option (rV)
  | 0, _, _, _, _ => none
  | n + 1, v, k0, a1, a2 => if (24 : Int32) ≤ a2 then
  (f_X5_oneTick_33  20000 v k0 a1 (0 : Int32))
else
  (if ¬ a2 < 0 ∧ a2.toNatClampNeg < 24 then
  (vlet (rI v (k0 + 11) a2.toNatClampNeg (0 : Int32)) fun v23 =>
  vlet (a2 + (1 : Int32)) fun x24 =>
  f_X5_oneTick_12  n v23 k0 a1 x24)
else none)
def f_X5_oneTick (v : rV) (k0 : Nat) (a1 : Int32) : Option (rV) := vlet (rI v k0 3 (0 : Int32)) fun v1 =>
  vlet (rI v1 k0 17 (0 : Int32)) fun v2 =>
  f_X5_oneTick_12  20000 v2 k0 a1 (0 : Int32)
set_option maxRecDepth 20000 in
theorem b_X5_oneTick_153 {X : Nat × (Nat → Int32)} {r : rV} {v : rV}   {k0 : Nat} (hk0 : isStrip k0 = true) (h : f_X5_oneTick_153  v k0 = some r) : Ev mX5_oneTick 4 0 0 153 [(0, .ref k0)] [] (rZ X) v (rPV X r) := by
  unfold f_X5_oneTick_153 at h
  refine e_aload_n dX5_oneTick_153 rfl ?_
  obtain ⟨p4, ep4, h⟩ := Option.bind_eq_some_iff.mp h
  refine c_VV (M' := mX5_dropTheDry) [] dX5_oneTick_154 rfl wmX5_147 imX5_dropTheDry seX5_dropTheDry lkX5_dropTheDry (kStrip_0 hk0) rc5 (Nat.le_of_ble_eq_true rfl) ((x_X5_dropTheDry hk0 ep4).mono (by omega)) ?_
  obtain rfl := Option.some.inj h
  exact e_ret dX5_oneTick_157 rfl ⟨rfl, rfl, rfl⟩
set_option maxRecDepth 20000 in
theorem b_X5_oneTick_116 {X : Nat × (Nat → Int32)} {r : rV} {v : rV}   {k0 : Nat} (hk0 : isStrip k0 = true) (h : f_X5_oneTick_116  v k0 = some r) : Ev mX5_oneTick 4 0 0 116 [(0, .ref k0)] [] (rZ X) v (rPV X r) := by
  unfold f_X5_oneTick_116 at h
  refine e_aload_n dX5_oneTick_116 rfl ?_
  refine e_dup dX5_oneTick_117 rfl ?_
  refine e_get (w := .int (v.1 k0 15)) (j := 15) dX5_oneTick_118 (kStrip_0 hk0) rc5 (by decide) wfX5_71 rfl ?_
  refine e_iconst (x := (1 : Int32)) dX5_oneTick_121 (by decide) ?_
  refine e_iadd dX5_oneTick_122 ?_
  refine e_putI (j := 15) dX5_oneTick_123 (kStrip_0 hk0) rc5 (by decide) wfX5_71 rfl rfl ?_
  obtain ⟨v3, ev3, h⟩ := vlet_ex h
  refine e_nameV ev3.symm ?_
  clear ev3
  refine e_aload_n dX5_oneTick_126 rfl ?_
  refine e_get (w := .int (v3.1 k0 3)) (j := 3) dX5_oneTick_127 (kStrip_0 hk0) rc5 (by decide) wfX5_122 rfl ?_
  refine e_aload_n dX5_oneTick_130 rfl ?_
  refine e_get (w := .int (v3.1 k0 19)) (j := 19) dX5_oneTick_131 (kStrip_0 hk0) rc5 (by decide) wfX5_83 rfl ?_
  refine e_icmp_le (tgt := 153) dX5_oneTick_134 (by decide) (fun c7 => ?_) (fun c7 => ?_)
  · rw [if_pos c7] at h
    exact b_X5_oneTick_153 hk0 h
  · rw [if_neg c7] at h
    refine e_aload_n dX5_oneTick_137 rfl ?_
    refine e_aload_n dX5_oneTick_138 rfl ?_
    refine e_get (w := .int (v3.1 k0 3)) (j := 3) dX5_oneTick_139 (kStrip_0 hk0) rc5 (by decide) wfX5_122 rfl ?_
    refine e_putI (j := 19) dX5_oneTick_142 (kStrip_0 hk0) rc5 (by decide) wfX5_83 rfl rfl ?_
    obtain ⟨v5, ev5, h⟩ := vlet_ex h
    refine e_nameV ev5.symm ?_
    clear ev5
    refine e_aload_n dX5_oneTick_145 rfl ?_
    refine e_aload_n dX5_oneTick_146 rfl ?_
    refine e_get (w := .int (v5.1 k0 15)) (j := 15) dX5_oneTick_147 (kStrip_0 hk0) rc5 (by decide) wfX5_71 rfl ?_
    refine e_putI (j := 18) dX5_oneTick_150 (kStrip_0 hk0) rc5 (by decide) wfX5_80 rfl rfl ?_
    obtain ⟨v6, ev6, h⟩ := vlet_ex h
    refine e_nameV ev6.symm ?_
    clear ev6
    exact b_X5_oneTick_153 hk0 h
set_option maxRecDepth 20000 in
theorem b_X5_oneTick_33 {X : Nat × (Nat → Int32)} {r : rV}   : ∀ (n : Nat) (v : rV) (k0 : Nat) (a1 : Int32) (a2 : Int32) (hk0 : isStrip k0 = true), f_X5_oneTick_33   n v k0 a1 a2 = some r → Ev mX5_oneTick 4 0 0 33 [(0, .ref k0), (1, .int a1), (2, .int a2)] [] (rZ X) v (rPV X r) := by
  intro n
  induction n with
  | zero =>
    intros
    rename_i h
    cases h
  | succ n ih =>
    intro v k0 a1 a2 hk0 h
    rw [f_X5_oneTick_33] at h
    refine e_iload_n dX5_oneTick_33 rfl ?_
    refine e_aload_n dX5_oneTick_34 rfl ?_
    refine e_get (w := .int (v.1 k0 10)) (j := 10) dX5_oneTick_35 (kStrip_0 hk0) rc5 (by decide) wfX5_53 rfl ?_
    refine e_icmp_ge (tgt := 91) dX5_oneTick_38 (by decide) (fun c21 => ?_) (fun c21 => ?_)
    · rw [if_pos c21] at h
      refine e_aload_n dX5_oneTick_91 rfl ?_
      refine e_get (w := .int (v.1 k0 15)) (j := 15) dX5_oneTick_92 (kStrip_0 hk0) rc5 (by decide) wfX5_71 rfl ?_
      refine e_aload_n dX5_oneTick_95 rfl ?_
      refine e_get (w := .ref (k0 + 12)) (j := 8) dX5_oneTick_96 (kStrip_0 hk0) rc5 (by decide) wfX5_43 (gStrip_8 hk0) ?_
      refine e_alenJ (x := (120 : Int32)) dX5_oneTick_99 (kStrip_12 hk0) (Or.inl rfl) (by decide) ?_
      refine e_icmp_ge (tgt := 116) dX5_oneTick_100 (by decide) (fun c10 => ?_) (fun c10 => ?_)
      · rw [if_pos c10] at h
        refine e_sub [0] rfl ?_
        exact b_X5_oneTick_116 hk0 h
      · rw [if_neg c10] at h
        refine e_aload_n dX5_oneTick_103 rfl ?_
        refine e_get (w := .ref (k0 + 12)) (j := 8) dX5_oneTick_104 (kStrip_0 hk0) rc5 (by decide) wfX5_43 (gStrip_8 hk0) ?_
        refine e_aload_n dX5_oneTick_107 rfl ?_
        refine e_get (w := .int (v.1 k0 15)) (j := 15) dX5_oneTick_108 (kStrip_0 hk0) rc5 (by decide) wfX5_71 rfl ?_
        refine e_aload_n dX5_oneTick_111 rfl ?_
        refine e_get (w := .int (v.1 k0 3)) (j := 3) dX5_oneTick_112 (kStrip_0 hk0) rc5 (by decide) wfX5_122 rfl ?_
        obtain ⟨c8, h⟩ := grd h
        refine e_iastJ dX5_oneTick_115 (kStrip_12 hk0) rfl c8.2 c8.1 ?_
        obtain ⟨v9, ev9, h⟩ := vlet_ex h
        refine e_nameV ev9.symm ?_
        clear ev9
        refine e_sub [0] rfl ?_
        exact b_X5_oneTick_116 hk0 h
    · rw [if_neg c21] at h
      refine e_aload_n dX5_oneTick_41 rfl ?_
      refine e_get (w := .ref (k0 + 13)) (j := 9) dX5_oneTick_42 (kStrip_0 hk0) rc5 (by decide) wfX5_48 (gStrip_9 hk0) ?_
      refine e_iload_n dX5_oneTick_45 rfl ?_
      obtain ⟨c11, h⟩ := grd h
      obtain ⟨kd12, ekd12, h⟩ := Option.bind_eq_some_iff.mp h
      obtain ⟨hkd12, h⟩ := grd h
      refine e_aaldJ (w := .ref kd12) dX5_oneTick_46 (kStrip_13 hk0) rfl rfl c11.2 c11.1 (body_v hk0 ekd12) ?_
      refine e_astore_n (lv' := [(3, .ref kd12), (0, .ref k0), (1, .int a1), (2, .int a2)]) dX5_oneTick_47 (by decide) rfl ?_
      refine e_aload_n dX5_oneTick_48 rfl ?_
      refine e_aload_n dX5_oneTick_49 rfl ?_
      obtain ⟨p13, ep13, h⟩ := Option.bind_eq_some_iff.mp h
      refine c_VV (M' := mX5_evaporate) [.ref kd12] dX5_oneTick_50 rfl wmX5_125 imX5_evaporate seX5_evaporate lkX5_evaporate (kStrip_0 hk0) rc5 (Nat.le_of_ble_eq_true rfl) ((x_X5_evaporate hk0 hkd12 ep13).mono (by omega)) ?_
      refine e_aload_n dX5_oneTick_53 rfl ?_
      refine e_aload_n dX5_oneTick_54 rfl ?_
      refine e_iload_n dX5_oneTick_55 rfl ?_
      obtain ⟨p14, ep14, h⟩ := Option.bind_eq_some_iff.mp h
      refine c_VV (M' := mX5_letGo) [.ref kd12, .int a1] dX5_oneTick_56 rfl wmX5_129 imX5_letGo seX5_letGo lkX5_letGo (kStrip_0 hk0) rc5 (Nat.le_of_ble_eq_true rfl) ((x_X5_letGo hk0 hkd12 ep14).mono (by omega)) ?_
      refine e_aload_n dX5_oneTick_59 rfl ?_
      refine e_aload_n dX5_oneTick_60 rfl ?_
      obtain ⟨p15, ep15, h⟩ := Option.bind_eq_some_iff.mp h
      refine c_VV (M' := mX5_reshape) [.ref kd12] dX5_oneTick_61 rfl wmX5_132 imX5_reshape seX5_reshape lkX5_reshape (kStrip_0 hk0) rc5 (Nat.le_of_ble_eq_true rfl) ((x_X5_reshape hk0 hkd12 ep15).mono (by omega)) ?_
      refine e_aload_n dX5_oneTick_64 rfl ?_
      refine e_aload_n dX5_oneTick_65 rfl ?_
      obtain ⟨p16, ep16, h⟩ := Option.bind_eq_some_iff.mp h
      refine c_VV (M' := mX5_carryAll) [.ref kd12] dX5_oneTick_66 rfl wmX5_135 imX5_carryAll seX5_carryAll lkX5_carryAll (kStrip_0 hk0) rc5 (Nat.le_of_ble_eq_true rfl) ((x_X5_carryAll hk0 hkd12 ep16).mono (by omega)) ?_
      refine e_aload_n dX5_oneTick_69 rfl ?_
      refine e_aload_n dX5_oneTick_70 rfl ?_
      obtain ⟨p17, ep17, h⟩ := Option.bind_eq_some_iff.mp h
      refine c_VV (M' := mX5_stir) [.ref kd12] dX5_oneTick_71 rfl wmX5_138 imX5_stir seX5_stir lkX5_stir (kStrip_0 hk0) rc5 (Nat.le_of_ble_eq_true rfl) ((x_X5_stir hk0 hkd12 ep17).mono (by omega)) ?_
      refine e_aload_n dX5_oneTick_74 rfl ?_
      refine e_aload_n dX5_oneTick_75 rfl ?_
      obtain ⟨p18, ep18, h⟩ := Option.bind_eq_some_iff.mp h
      refine c_VV (M' := mX5_wander) [.ref kd12] dX5_oneTick_76 rfl wmX5_141 imX5_wander seX5_wander lkX5_wander (kStrip_0 hk0) rc5 (Nat.le_of_ble_eq_true rfl) ((x_X5_wander hk0 hkd12 ep18).mono (by omega)) ?_
      refine e_aload_n dX5_oneTick_79 rfl ?_
      refine e_aload_n dX5_oneTick_80 rfl ?_
      refine e_iload_n dX5_oneTick_81 rfl ?_
      obtain ⟨p19, ep19, h⟩ := Option.bind_eq_some_iff.mp h
      refine c_VV (M' := mX5_layDown) [.ref kd12, .int a1] dX5_oneTick_82 rfl wmX5_144 imX5_layDown seX5_layDown lkX5_layDown (kStrip_0 hk0) rc5 (Nat.le_of_ble_eq_true rfl) ((x_X5_layDown hk0 hkd12 ep19).mono (by omega)) ?_
      obtain ⟨x20, ex20, h⟩ := vlet_ex h
      refine e_iinc (lv' := [(2, .int x20), (3, .ref kd12), (0, .ref k0), (1, .int a1)]) dX5_oneTick_85 rfl (ex20.symm) (by decide) rfl ?_
      clear ex20
      refine e_goto (tgt := 33) dX5_oneTick_88 (by decide) ?_
      refine e_sub [2, 3, 0] rfl ?_
      exact ih p19 k0 a1 x20 hk0 h
set_option maxRecDepth 20000 in
theorem b_X5_oneTick_12 {X : Nat × (Nat → Int32)} {r : rV}   : ∀ (n : Nat) (v : rV) (k0 : Nat) (a1 : Int32) (a2 : Int32) (hk0 : isStrip k0 = true), f_X5_oneTick_12   n v k0 a1 a2 = some r → Ev mX5_oneTick 4 0 0 12 [(0, .ref k0), (1, .int a1), (2, .int a2)] [] (rZ X) v (rPV X r) := by
  intro n
  induction n with
  | zero =>
    intros
    rename_i h
    cases h
  | succ n ih =>
    intro v k0 a1 a2 hk0 h
    rw [f_X5_oneTick_12] at h
    refine e_iload_n dX5_oneTick_12 rfl ?_
    refine e_bipush (x := (24 : Int32)) dX5_oneTick_13 (by decide) ?_
    refine e_icmp_ge (tgt := 31) dX5_oneTick_15 (by decide) (fun c25 => ?_) (fun c25 => ?_)
    · rw [if_pos c25] at h
      refine e_iconst (x := (0 : Int32)) dX5_oneTick_31 (by decide) ?_
      refine e_istore_n (lv' := [(2, .int (0 : Int32)), (0, .ref k0), (1, .int a1)]) dX5_oneTick_32 (by decide) rfl ?_
      refine e_sub [1, 2, 0] rfl ?_
      exact b_X5_oneTick_33  _ v k0 a1 (0 : Int32) hk0 h
    · rw [if_neg c25] at h
      refine e_aload_n dX5_oneTick_18 rfl ?_
      refine e_get (w := .ref (k0 + 11)) (j := 7) dX5_oneTick_19 (kStrip_0 hk0) rc5 (by decide) wfX5_40 (gStrip_7 hk0) ?_
      refine e_iload_n dX5_oneTick_22 rfl ?_
      refine e_iconst (x := (0 : Int32)) dX5_oneTick_23 (by decide) ?_
      obtain ⟨c22, h⟩ := grd h
      refine e_iastJ dX5_oneTick_24 (kStrip_11 hk0) rfl c22.2 c22.1 ?_
      obtain ⟨v23, ev23, h⟩ := vlet_ex h
      refine e_nameV ev23.symm ?_
      clear ev23
      obtain ⟨x24, ex24, h⟩ := vlet_ex h
      refine e_iinc (lv' := [(2, .int x24), (0, .ref k0), (1, .int a1)]) dX5_oneTick_25 rfl (ex24.symm) (by decide) rfl ?_
      clear ex24
      refine e_goto (tgt := 12) dX5_oneTick_28 (by decide) ?_
      refine e_sub [1, 2, 0] rfl ?_
      exact ih v23 k0 a1 x24 hk0 h
set_option maxRecDepth 20000 in
theorem x_X5_oneTick {X : Nat × (Nat → Int32)} {v : rV} {r : rV} {k0 : Nat} {a1 : Int32} (hk0 : isStrip k0 = true) (h : f_X5_oneTick v k0 a1 = some r) : EvM mX5_oneTick 4 0 0 [.ref k0, .int a1] (rZ X) v (rPV X r) := by
  refine evm_of (by decide +kernel) (fun G => Nat.le_of_ble_eq_true rfl) ?_
  show Ev mX5_oneTick 4 0 0 0 [(0, .ref k0), (1, .int a1)] [] (rZ X) v _
  unfold f_X5_oneTick at h
  refine e_aload_n dX5_oneTick_0 rfl ?_
  refine e_iconst (x := (0 : Int32)) dX5_oneTick_1 (by decide) ?_
  refine e_putI (j := 3) dX5_oneTick_2 (kStrip_0 hk0) rc5 (by decide) wfX5_122 rfl rfl ?_
  obtain ⟨v1, ev1, h⟩ := vlet_ex h
  refine e_nameV ev1.symm ?_
  clear ev1
  refine e_aload_n dX5_oneTick_5 rfl ?_
  refine e_iconst (x := (0 : Int32)) dX5_oneTick_6 (by decide) ?_
  refine e_putI (j := 17) dX5_oneTick_7 (kStrip_0 hk0) rc5 (by decide) wfX5_77 rfl rfl ?_
  obtain ⟨v2, ev2, h⟩ := vlet_ex h
  refine e_nameV ev2.symm ?_
  clear ev2
  refine e_iconst (x := (0 : Int32)) dX5_oneTick_10 (by decide) ?_
  refine e_istore_n (lv' := [(2, .int (0 : Int32)), (0, .ref k0), (1, .int a1)]) dX5_oneTick_11 (by decide) rfl ?_
  refine e_sub [1, 2, 0] rfl ?_
  exact b_X5_oneTick_12  _ v2 k0 a1 (0 : Int32) hk0 h
def f_X5_goOn_2   : Nat → rV → Nat → Int32 → Int32 → Int32 → Option (Int32 × rV)
  | 0, _, _, _, _, _ => none
  | n + 1, v, k0, a1, a2, a3 => if a1 ≤ a3 then
  (some (a3, v))
else
  (if (v.1 k0 10) ≤ 0 then
  (some (a3, v))
else
  ((f_X5_oneTick v k0 a2).bind fun p1 =>
  vlet (a3 + (1 : Int32)) fun x2 =>
  f_X5_goOn_2  n p1 k0 a1 a2 x2))
def f_X5_goOn (v : rV) (k0 : Nat) (a1 : Int32) (a2 : Int32) : Option (Int32 × rV) := f_X5_goOn_2  20000 v k0 a1 a2 (0 : Int32)
set_option maxRecDepth 20000 in
theorem b_X5_goOn_2 {X : Nat × (Nat → Int32)} {r : Int32 × rV}   : ∀ (n : Nat) (v : rV) (k0 : Nat) (a1 : Int32) (a2 : Int32) (a3 : Int32) (hk0 : isStrip k0 = true), f_X5_goOn_2   n v k0 a1 a2 a3 = some r → Ev mX5_goOn 5 0 0 2 [(0, .ref k0), (1, .int a1), (2, .int a2), (3, .int a3)] [] (rZ X) v (rPI X r) := by
  intro n
  induction n with
  | zero =>
    intros
    rename_i h
    cases h
  | succ n ih =>
    intro v k0 a1 a2 a3 hk0 h
    rw [f_X5_goOn_2] at h
    refine e_iload_n dX5_goOn_2 rfl ?_
    refine e_iload_n dX5_goOn_3 rfl ?_
    refine e_icmp_ge (tgt := 25) dX5_goOn_4 (by decide) (fun c4 => ?_) (fun c4 => ?_)
    · rw [if_pos c4] at h
      refine e_iload_n dX5_goOn_25 rfl ?_
      obtain rfl := Option.some.inj h
      exact e_iret dX5_goOn_26 rfl rfl ⟨rfl, rfl, rfl⟩
    · rw [if_neg c4] at h
      refine e_aload_n dX5_goOn_7 rfl ?_
      refine e_get (w := .int (v.1 k0 10)) (j := 10) dX5_goOn_8 (kStrip_0 hk0) rc5 (by decide) wfX5_53 rfl ?_
      refine e_if_le (tgt := 25) dX5_goOn_11 (by decide) (fun c3 => ?_) (fun c3 => ?_)
      · rw [if_pos c3] at h
        refine e_iload_n dX5_goOn_25 rfl ?_
        obtain rfl := Option.some.inj h
        exact e_iret dX5_goOn_26 rfl rfl ⟨rfl, rfl, rfl⟩
      · rw [if_neg c3] at h
        refine e_aload_n dX5_goOn_14 rfl ?_
        refine e_iload_n dX5_goOn_15 rfl ?_
        obtain ⟨p1, ep1, h⟩ := Option.bind_eq_some_iff.mp h
        refine c_VV (M' := mX5_oneTick) [.int a2] dX5_goOn_16 rfl wmX5_118 imX5_oneTick seX5_oneTick lkX5_oneTick (kStrip_0 hk0) rc5 (Nat.le_of_ble_eq_true rfl) ((x_X5_oneTick hk0 ep1).mono (by omega)) ?_
        obtain ⟨x2, ex2, h⟩ := vlet_ex h
        refine e_iinc (lv' := [(3, .int x2), (0, .ref k0), (1, .int a1), (2, .int a2)]) dX5_goOn_19 rfl (ex2.symm) (by decide) rfl ?_
        clear ex2
        refine e_goto (tgt := 2) dX5_goOn_22 (by decide) ?_
        refine e_sub [1, 2, 3, 0] rfl ?_
        exact ih p1 k0 a1 a2 x2 hk0 h
set_option maxRecDepth 20000 in
theorem x_X5_goOn {X : Nat × (Nat → Int32)} {v : rV} {r : Int32 × rV} {k0 : Nat} {a1 : Int32} {a2 : Int32} (hk0 : isStrip k0 = true) (h : f_X5_goOn v k0 a1 a2 = some r) : EvM mX5_goOn 5 0 0 [.ref k0, .int a1, .int a2] (rZ X) v (rPI X r) := by
  refine evm_of (by decide +kernel) (fun G => Nat.le_of_ble_eq_true rfl) ?_
  show Ev mX5_goOn 5 0 0 0 [(0, .ref k0), (1, .int a1), (2, .int a2)] [] (rZ X) v _
  unfold f_X5_goOn at h
  refine e_iconst (x := (0 : Int32)) dX5_goOn_0 (by decide) ?_
  refine e_istore_n (lv' := [(3, .int (0 : Int32)), (0, .ref k0), (1, .int a1), (2, .int a2)]) dX5_goOn_1 (by decide) rfl ?_
  refine e_sub [1, 2, 3, 0] rfl ?_
  exact b_X5_goOn_2  _ v k0 a1 a2 (0 : Int32) hk0 h
def f_X5_heapedAll_4 (v : rV)  : Nat → Nat → Int32 → Int32 → Option (Int32)
  | 0, _, _, _ => none
  | n + 1, k0, a1, a2 => if (24 : Int32) ≤ a2 then
  (some a1)
else
  (if ¬ a2 < 0 ∧ a2.toNatClampNeg < 24 then
  (vlet (a1 + (v.1 (k0 + 10) a2.toNatClampNeg) : Int32) fun x2 =>
  vlet (a2 + (1 : Int32)) fun x3 =>
  f_X5_heapedAll_4 v n k0 x2 x3)
else none)
def f_X5_heapedAll (v : rV) (k0 : Nat) : Option (Int32) := f_X5_heapedAll_4 v 20000 k0 (0 : Int32) (0 : Int32)
set_option maxRecDepth 20000 in
theorem b_X5_heapedAll_4 {X : Nat × (Nat → Int32)} {r : Int32} {v : rV}   : ∀ (n : Nat) (k0 : Nat) (a1 : Int32) (a2 : Int32) (hk0 : isStrip k0 = true), f_X5_heapedAll_4 v  n k0 a1 a2 = some r → Ev mX5_heapedAll 1 0 0 4 [(0, .ref k0), (1, .int a1), (2, .int a2)] [] (rZ X) v (rPI X (r, v)) := by
  intro n
  induction n with
  | zero =>
    intros
    rename_i h
    cases h
  | succ n ih =>
    intro k0 a1 a2 hk0 h
    rw [f_X5_heapedAll_4] at h
    refine e_iload_n dX5_heapedAll_4 rfl ?_
    refine e_bipush (x := (24 : Int32)) dX5_heapedAll_5 (by decide) ?_
    refine e_icmp_ge (tgt := 25) dX5_heapedAll_7 (by decide) (fun c4 => ?_) (fun c4 => ?_)
    · rw [if_pos c4] at h
      refine e_iload_n dX5_heapedAll_25 rfl ?_
      obtain rfl := Option.some.inj h
      exact e_iret dX5_heapedAll_26 rfl rfl ⟨rfl, rfl, rfl⟩
    · rw [if_neg c4] at h
      refine e_iload_n dX5_heapedAll_10 rfl ?_
      refine e_aload_n dX5_heapedAll_11 rfl ?_
      refine e_get (w := .ref (k0 + 10)) (j := 6) dX5_heapedAll_12 (kStrip_0 hk0) rc5 (by decide) wfX5_37 (gStrip_6 hk0) ?_
      refine e_iload_n dX5_heapedAll_15 rfl ?_
      obtain ⟨c1, h⟩ := grd h
      refine e_ialdJ dX5_heapedAll_16 (kStrip_10 hk0) rfl c1.2 c1.1 ?_
      refine e_iadd dX5_heapedAll_17 ?_
      obtain ⟨x2, ex2, h⟩ := vlet_ex h
      refine e_nameI ex2.symm ?_
      clear ex2
      refine e_istore_n (lv' := [(1, .int x2), (0, .ref k0), (2, .int a2)]) dX5_heapedAll_18 (by decide) rfl ?_
      obtain ⟨x3, ex3, h⟩ := vlet_ex h
      refine e_iinc (lv' := [(2, .int x3), (1, .int x2), (0, .ref k0)]) dX5_heapedAll_19 rfl (ex3.symm) (by decide) rfl ?_
      clear ex3
      refine e_goto (tgt := 4) dX5_heapedAll_22 (by decide) ?_
      refine e_sub [2, 1, 0] rfl ?_
      exact ih k0 x2 x3 hk0 h
set_option maxRecDepth 20000 in
theorem x_X5_heapedAll {X : Nat × (Nat → Int32)} {v : rV} {r : Int32} {k0 : Nat} (hk0 : isStrip k0 = true) (h : f_X5_heapedAll v k0 = some r) : EvM mX5_heapedAll 1 0 0 [.ref k0] (rZ X) v (rPI X (r, v)) := by
  refine evm_of (by decide +kernel) (fun G => Nat.le_of_ble_eq_true rfl) ?_
  show Ev mX5_heapedAll 1 0 0 0 [(0, .ref k0)] [] (rZ X) v _
  unfold f_X5_heapedAll at h
  refine e_iconst (x := (0 : Int32)) dX5_heapedAll_0 (by decide) ?_
  refine e_istore_n (lv' := [(1, .int (0 : Int32)), (0, .ref k0)]) dX5_heapedAll_1 (by decide) rfl ?_
  refine e_iconst (x := (0 : Int32)) dX5_heapedAll_2 (by decide) ?_
  refine e_istore_n (lv' := [(2, .int (0 : Int32)), (1, .int (0 : Int32)), (0, .ref k0)]) dX5_heapedAll_3 (by decide) rfl ?_
  refine e_sub [2, 1, 0] rfl ?_
  exact b_X5_heapedAll_4  _ k0 (0 : Int32) (0 : Int32) hk0 h
def f_X5_ofBody (v : rV) (k0 : Nat) (a1 : Int32) (a2 : Int32) : Option (Int32) := if a1 < 0 then
  (some (-1 : Int32))
else
  (if (v.1 k0 10) ≤ a1 then
  (some (-1 : Int32))
else
  (if a1 < (12 : Int32) then
  (if ¬ a1 < 0 ∧ a1.toNatClampNeg < 12 then
  ((v.2.2 (k0 + 13) a1.toNatClampNeg).bind fun kd2 => if isBody kd2 = true then
  (if a2 = (0 : Int32) then
  (some (v.1 kd2 2))
else
  (if a2 = (1 : Int32) then
  (some (v.1 kd2 3))
else
  (if a2 = (2 : Int32) then
  ((f_X5_waterOf v k0 kd2).bind fun p6 =>
  some p6)
else
  (if a2 = (3 : Int32) then
  (some (v.1 kd2 4))
else
  (some (-1 : Int32)))))) else none)
else none)
else
  (some (-1 : Int32))))
set_option maxRecDepth 20000 in
theorem x_X5_ofBody {X : Nat × (Nat → Int32)} {v : rV} {r : Int32} {k0 : Nat} {a1 : Int32} {a2 : Int32} (hk0 : isStrip k0 = true) (h : f_X5_ofBody v k0 a1 a2 = some r) : EvM mX5_ofBody 2 0 0 [.ref k0, .int a1, .int a2] (rZ X) v (rPI X (r, v)) := by
  refine evm_of (by decide +kernel) (fun G => Nat.le_of_ble_eq_true rfl) ?_
  show Ev mX5_ofBody 2 0 0 0 [(0, .ref k0), (1, .int a1), (2, .int a2)] [] (rZ X) v _
  unfold f_X5_ofBody at h
  refine e_iload_n dX5_ofBody_0 rfl ?_
  refine e_if_lt (tgt := 21) dX5_ofBody_1 (by decide) (fun c10 => ?_) (fun c10 => ?_)
  · rw [if_pos c10] at h
    refine e_iconst (x := (-1 : Int32)) dX5_ofBody_21 (by decide) ?_
    obtain rfl := Option.some.inj h
    exact e_iret dX5_ofBody_22 rfl rfl ⟨rfl, rfl, rfl⟩
  · rw [if_neg c10] at h
    refine e_iload_n dX5_ofBody_4 rfl ?_
    refine e_aload_n dX5_ofBody_5 rfl ?_
    refine e_get (w := .int (v.1 k0 10)) (j := 10) dX5_ofBody_6 (kStrip_0 hk0) rc5 (by decide) wfX5_53 rfl ?_
    refine e_icmp_ge (tgt := 21) dX5_ofBody_9 (by decide) (fun c9 => ?_) (fun c9 => ?_)
    · rw [if_pos c9] at h
      refine e_iconst (x := (-1 : Int32)) dX5_ofBody_21 (by decide) ?_
      obtain rfl := Option.some.inj h
      exact e_iret dX5_ofBody_22 rfl rfl ⟨rfl, rfl, rfl⟩
    · rw [if_neg c9] at h
      refine e_iload_n dX5_ofBody_12 rfl ?_
      refine e_aload_n dX5_ofBody_13 rfl ?_
      refine e_get (w := .ref (k0 + 13)) (j := 9) dX5_ofBody_14 (kStrip_0 hk0) rc5 (by decide) wfX5_48 (gStrip_9 hk0) ?_
      refine e_alenJ (x := (12 : Int32)) dX5_ofBody_17 (kStrip_13 hk0) (Or.inr (Or.inr rfl)) (by decide) ?_
      refine e_icmp_lt (tgt := 23) dX5_ofBody_18 (by decide) (fun c8 => ?_) (fun c8 => ?_)
      · rw [if_pos c8] at h
        refine e_aload_n dX5_ofBody_23 rfl ?_
        refine e_get (w := .ref (k0 + 13)) (j := 9) dX5_ofBody_24 (kStrip_0 hk0) rc5 (by decide) wfX5_48 (gStrip_9 hk0) ?_
        refine e_iload_n dX5_ofBody_27 rfl ?_
        obtain ⟨c1, h⟩ := grd h
        obtain ⟨kd2, ekd2, h⟩ := Option.bind_eq_some_iff.mp h
        obtain ⟨hkd2, h⟩ := grd h
        refine e_aaldJ (w := .ref kd2) dX5_ofBody_28 (kStrip_13 hk0) rfl rfl c1.2 c1.1 (body_v hk0 ekd2) ?_
        refine e_astore_n (lv' := [(3, .ref kd2), (0, .ref k0), (1, .int a1), (2, .int a2)]) dX5_ofBody_29 (by decide) rfl ?_
        refine e_iload_n dX5_ofBody_30 rfl ?_
        by_cases c3 : a2 = (0 : Int32)
        · rw [if_pos c3] at h
          refine e_tabIn (off := 29) (tgt := 60) dX5_ofBody_31 (by rw [c3]; decide) (by rw [c3]; decide) (by rw [c3]; rfl) (by decide) ?_
          refine e_aload_n dX5_ofBody_60 rfl ?_
          refine e_get (w := .int (v.1 kd2 2)) (j := 2) dX5_ofBody_61 (kBody_0 hkd2) rc0 (by decide) wfX5_97 rfl ?_
          obtain rfl := Option.some.inj h
          exact e_iret dX5_ofBody_64 rfl rfl ⟨rfl, rfl, rfl⟩
        · rw [if_neg c3] at h
          have nc3 := tab_ne c3 (k := 0) (by decide)
          by_cases c4 : a2 = (1 : Int32)
          · rw [if_pos c4] at h
            refine e_tabIn (off := 34) (tgt := 65) dX5_ofBody_31 (by rw [c4]; decide) (by rw [c4]; decide) (by rw [c4]; rfl) (by decide) ?_
            refine e_aload_n dX5_ofBody_65 rfl ?_
            refine e_get (w := .int (v.1 kd2 3)) (j := 3) dX5_ofBody_66 (kBody_0 hkd2) rc0 (by decide) wfX5_86 rfl ?_
            obtain rfl := Option.some.inj h
            exact e_iret dX5_ofBody_69 rfl rfl ⟨rfl, rfl, rfl⟩
          · rw [if_neg c4] at h
            have nc4 := tab_ne c4 (k := 1) (by decide)
            by_cases c5 : a2 = (2 : Int32)
            · rw [if_pos c5] at h
              refine e_tabIn (off := 39) (tgt := 70) dX5_ofBody_31 (by rw [c5]; decide) (by rw [c5]; decide) (by rw [c5]; rfl) (by decide) ?_
              refine e_aload_n dX5_ofBody_70 rfl ?_
              refine e_aload_n dX5_ofBody_71 rfl ?_
              obtain ⟨p6, ep6, h⟩ := Option.bind_eq_some_iff.mp h
              refine c_VI (M' := mX5_waterOf) [.ref kd2] dX5_ofBody_72 rfl wmX5_165 imX5_waterOf seX5_waterOf lkX5_waterOf (kStrip_0 hk0) rc5 (Nat.le_of_ble_eq_true rfl) ((x_X5_waterOf hk0 hkd2 ep6).mono (by omega)) ?_
              obtain rfl := Option.some.inj h
              exact e_iret dX5_ofBody_75 rfl rfl ⟨rfl, rfl, rfl⟩
            · rw [if_neg c5] at h
              have nc5 := tab_ne c5 (k := 2) (by decide)
              by_cases c7 : a2 = (3 : Int32)
              · rw [if_pos c7] at h
                refine e_tabIn (off := 45) (tgt := 76) dX5_ofBody_31 (by rw [c7]; decide) (by rw [c7]; decide) (by rw [c7]; rfl) (by decide) ?_
                refine e_aload_n dX5_ofBody_76 rfl ?_
                refine e_get (w := .int (v.1 kd2 4)) (j := 4) dX5_ofBody_77 (kBody_0 hkd2) rc0 (by decide) wfX5_173 rfl ?_
                obtain rfl := Option.some.inj h
                exact e_iret dX5_ofBody_80 rfl rfl ⟨rfl, rfl, rfl⟩
              · rw [if_neg c7] at h
                have nc7 := tab_ne c7 (k := 3) (by decide)
                refine e_tabOut (tgt := 81) dX5_ofBody_31 (by omega) (by decide) ?_
                refine e_iconst (x := (-1 : Int32)) dX5_ofBody_81 (by decide) ?_
                obtain rfl := Option.some.inj h
                exact e_iret dX5_ofBody_82 rfl rfl ⟨rfl, rfl, rfl⟩
      · rw [if_neg c8] at h
        refine e_iconst (x := (-1 : Int32)) dX5_ofBody_21 (by decide) ?_
        obtain rfl := Option.some.inj h
        exact e_iret dX5_ofBody_22 rfl rfl ⟨rfl, rfl, rfl⟩
def f_X5_offFrom_4 (v : rV)  : Nat → Nat → Nat → Int32 → Int32 → Option (Int32)
  | 0, _, _, _, _ => none
  | n + 1, k0, k1, a2, a3 => if (24 : Int32) ≤ a3 then
  (some a2)
else
  (if (24 : Int32) ≤ a3 then
  (some a2)
else
  ((f_X5_lyingAt v k0 a3).bind fun p1 =>
  if ¬ a3 < 0 ∧ a3.toNatClampNeg < 24 then
  (vlet (a2 + (if 0 ≤ (p1 - (v.1 k1 a3.toNatClampNeg)) then (p1 - (v.1 k1 a3.toNatClampNeg)) else 0 - (p1 - (v.1 k1 a3.toNatClampNeg))) : Int32) fun x3 =>
  vlet (a3 + (1 : Int32)) fun x4 =>
  f_X5_offFrom_4 v n k0 k1 x3 x4)
else none))
def f_X5_offFrom (v : rV) (k0 : Nat) (k1 : Nat) : Option (Int32) := f_X5_offFrom_4 v 20000 k0 k1 (0 : Int32) (0 : Int32)
set_option maxRecDepth 20000 in
theorem b_X5_offFrom_4 {X : Nat × (Nat → Int32)} {r : Int32} {v : rV}   : ∀ (n : Nat) (k0 : Nat) (k1 : Nat) (a2 : Int32) (a3 : Int32) (hk0 : isStrip k0 = true) (hk1 : isIA k1 24), f_X5_offFrom_4 v  n k0 k1 a2 a3 = some r → Ev mX5_offFrom 2 0 0 4 [(0, .ref k0), (1, .ref k1), (2, .int a2), (3, .int a3)] [] (rZ X) v (rPI X (r, v)) := by
  intro n
  induction n with
  | zero =>
    intros
    rename_i h
    cases h
  | succ n ih =>
    intro k0 k1 a2 a3 hk0 hk1 h
    rw [f_X5_offFrom_4] at h
    refine e_iload_n dX5_offFrom_4 rfl ?_
    refine e_bipush (x := (24 : Int32)) dX5_offFrom_5 (by decide) ?_
    refine e_icmp_ge (tgt := 37) dX5_offFrom_7 (by decide) (fun c6 => ?_) (fun c6 => ?_)
    · rw [if_pos c6] at h
      refine e_iload_n dX5_offFrom_37 rfl ?_
      obtain rfl := Option.some.inj h
      exact e_iret dX5_offFrom_38 rfl rfl ⟨rfl, rfl, rfl⟩
    · rw [if_neg c6] at h
      refine e_iload_n dX5_offFrom_10 rfl ?_
      refine e_aload_n dX5_offFrom_11 rfl ?_
      refine e_alenJ (x := (24 : Int32)) dX5_offFrom_12 hk1 (Or.inl rfl) (by decide) ?_
      refine e_icmp_ge (tgt := 37) dX5_offFrom_13 (by decide) (fun c5 => ?_) (fun c5 => ?_)
      · rw [if_pos c5] at h
        refine e_iload_n dX5_offFrom_37 rfl ?_
        obtain rfl := Option.some.inj h
        exact e_iret dX5_offFrom_38 rfl rfl ⟨rfl, rfl, rfl⟩
      · rw [if_neg c5] at h
        refine e_iload_n dX5_offFrom_16 rfl ?_
        refine e_aload_n dX5_offFrom_17 rfl ?_
        refine e_iload_n dX5_offFrom_18 rfl ?_
        obtain ⟨p1, ep1, h⟩ := Option.bind_eq_some_iff.mp h
        refine c_VI (M' := mX5_lyingAt) [.int a3] dX5_offFrom_19 rfl wmX5_208 imX5_lyingAt seX5_lyingAt lkX5_lyingAt (kStrip_0 hk0) rc5 (Nat.le_of_ble_eq_true rfl) ((x_X5_lyingAt hk0 ep1).mono (by omega)) ?_
        refine e_aload_n dX5_offFrom_22 rfl ?_
        refine e_iload_n dX5_offFrom_23 rfl ?_
        obtain ⟨c2, h⟩ := grd h
        refine e_ialdJ dX5_offFrom_24 hk1 rfl c2.2 c2.1 ?_
        refine e_isub dX5_offFrom_25 ?_
        refine e_abs dX5_offFrom_26 wmX5_218 wmst_abs winimath wmcd_abs (by omega) (Nat.le_of_ble_eq_true rfl) ?_
        refine e_iadd dX5_offFrom_29 ?_
        obtain ⟨x3, ex3, h⟩ := vlet_ex h
        refine e_nameI ex3.symm ?_
        clear ex3
        refine e_istore_n (lv' := [(2, .int x3), (0, .ref k0), (1, .ref k1), (3, .int a3)]) dX5_offFrom_30 (by decide) rfl ?_
        obtain ⟨x4, ex4, h⟩ := vlet_ex h
        refine e_iinc (lv' := [(3, .int x4), (2, .int x3), (0, .ref k0), (1, .ref k1)]) dX5_offFrom_31 rfl (ex4.symm) (by decide) rfl ?_
        clear ex4
        refine e_goto (tgt := 4) dX5_offFrom_34 (by decide) ?_
        refine e_sub [2, 3, 1, 0] rfl ?_
        exact ih k0 k1 x3 x4 hk0 hk1 h
set_option maxRecDepth 20000 in
theorem x_X5_offFrom {X : Nat × (Nat → Int32)} {v : rV} {r : Int32} {k0 : Nat} {k1 : Nat} (hk0 : isStrip k0 = true) (hk1 : isIA k1 24) (h : f_X5_offFrom v k0 k1 = some r) : EvM mX5_offFrom 2 0 0 [.ref k0, .ref k1] (rZ X) v (rPI X (r, v)) := by
  refine evm_of (by decide +kernel) (fun G => Nat.le_of_ble_eq_true rfl) ?_
  show Ev mX5_offFrom 2 0 0 0 [(0, .ref k0), (1, .ref k1)] [] (rZ X) v _
  unfold f_X5_offFrom at h
  refine e_iconst (x := (0 : Int32)) dX5_offFrom_0 (by decide) ?_
  refine e_istore_n (lv' := [(2, .int (0 : Int32)), (0, .ref k0), (1, .ref k1)]) dX5_offFrom_1 (by decide) rfl ?_
  refine e_iconst (x := (0 : Int32)) dX5_offFrom_2 (by decide) ?_
  refine e_istore_n (lv' := [(3, .int (0 : Int32)), (2, .int (0 : Int32)), (0, .ref k0), (1, .ref k1)]) dX5_offFrom_3 (by decide) rfl ?_
  refine e_sub [2, 3, 1, 0] rfl ?_
  exact b_X5_offFrom_4  _ k0 k1 (0 : Int32) (0 : Int32) hk0 hk1 h
def f_X5_put_46   (v : rV) (k0 : Nat) (k1 : Nat) (a2 : Int32) (a3 : Int32) : Option (rV) := if (12 : Int32) ≤ (v.1 k0 10) then
  (some v)
else
  (if ¬ (v.1 k0 10) < 0 ∧ (v.1 k0 10).toNatClampNeg < 12 then
  ((v.2.2 (k0 + 13) ((v.1 k0 10).toNatClampNeg)).bind fun kd2 => if isBody kd2 = true then
  ((f_X0_become v kd2 k1 a2 a3).bind fun p3 =>
  vlet (rI p3 k0 10 ((p3.1 k0 10) + (1 : Int32))) fun v4 =>
  some v4) else none)
else none)
def f_X5_put (v : rV) (k0 : Nat) (k1 : Nat) (a2 : Int32) (a3 : Int32) : Option (rV) := if (v.1 k0 10) ≤ 0 then
  (f_X5_put_46  v k0 k1 a2 a3)
else
  (if ¬ ((v.1 k0 10) - (1 : Int32)) < 0 ∧ ((v.1 k0 10) - (1 : Int32)).toNatClampNeg < 12 then
  ((v.2.2 (k0 + 13) (((v.1 k0 10) - (1 : Int32)).toNatClampNeg)).bind fun kd7 => if isBody kd7 = true then
  (if ((v.1 kd7 3) + (1 : Int32)) = a3 then
  ((v.2.2 (k0 + 13) (((v.1 k0 10) - (1 : Int32)).toNatClampNeg)).bind fun kd8 => if isBody kd8 = true then
  ((f_X0_takeIn v kd8 k1 a2).bind fun p9 =>
  some p9) else none)
else
  (f_X5_put_46  v k0 k1 a2 a3)) else none)
else none)
set_option maxRecDepth 20000 in
theorem b_X5_put_46 {X : Nat × (Nat → Int32)} {r : rV} {v : rV}   {k0 : Nat} {k1 : Nat} {a2 : Int32} {a3 : Int32} (hk0 : isStrip k0 = true) (hk1 : isIA k1 12) (h : f_X5_put_46  v k0 k1 a2 a3 = some r) : Ev mX5_put 2 0 0 46 [(0, .ref k0), (1, .ref k1), (2, .int a2), (3, .int a3)] [] (rZ X) v (rPV X r) := by
  unfold f_X5_put_46 at h
  refine e_aload_n dX5_put_46 rfl ?_
  refine e_get (w := .int (v.1 k0 10)) (j := 10) dX5_put_47 (kStrip_0 hk0) rc5 (by decide) wfX5_53 rfl ?_
  refine e_aload_n dX5_put_50 rfl ?_
  refine e_get (w := .ref (k0 + 13)) (j := 9) dX5_put_51 (kStrip_0 hk0) rc5 (by decide) wfX5_48 (gStrip_9 hk0) ?_
  refine e_alenJ (x := (12 : Int32)) dX5_put_54 (kStrip_13 hk0) (Or.inr (Or.inr rfl)) (by decide) ?_
  refine e_icmp_ge (tgt := 83) dX5_put_55 (by decide) (fun c5 => ?_) (fun c5 => ?_)
  · rw [if_pos c5] at h
    obtain rfl := Option.some.inj h
    exact e_ret dX5_put_83 rfl ⟨rfl, rfl, rfl⟩
  · rw [if_neg c5] at h
    refine e_aload_n dX5_put_58 rfl ?_
    refine e_get (w := .ref (k0 + 13)) (j := 9) dX5_put_59 (kStrip_0 hk0) rc5 (by decide) wfX5_48 (gStrip_9 hk0) ?_
    refine e_aload_n dX5_put_62 rfl ?_
    refine e_get (w := .int (v.1 k0 10)) (j := 10) dX5_put_63 (kStrip_0 hk0) rc5 (by decide) wfX5_53 rfl ?_
    obtain ⟨c1, h⟩ := grd h
    obtain ⟨kd2, ekd2, h⟩ := Option.bind_eq_some_iff.mp h
    obtain ⟨hkd2, h⟩ := grd h
    refine e_aaldJ (w := .ref kd2) dX5_put_66 (kStrip_13 hk0) rfl rfl c1.2 c1.1 (body_v hk0 ekd2) ?_
    refine e_aload_n dX5_put_67 rfl ?_
    refine e_iload_n dX5_put_68 rfl ?_
    refine e_iload_n dX5_put_69 rfl ?_
    obtain ⟨p3, ep3, h⟩ := Option.bind_eq_some_iff.mp h
    refine c_VV (M' := mX0_become) [.ref k1, .int a2, .int a3] dX5_put_70 rfl wmX5_93 imX0_become seX0_become lkX0_become (kBody_0 hkd2) rc0 (Nat.le_of_ble_eq_true rfl) ((x_X0_become hkd2 hk1 ep3).mono (by omega)) ?_
    refine e_aload_n dX5_put_73 rfl ?_
    refine e_dup dX5_put_74 rfl ?_
    refine e_get (w := .int (p3.1 k0 10)) (j := 10) dX5_put_75 (kStrip_0 hk0) rc5 (by decide) wfX5_53 rfl ?_
    refine e_iconst (x := (1 : Int32)) dX5_put_78 (by decide) ?_
    refine e_iadd dX5_put_79 ?_
    refine e_putI (j := 10) dX5_put_80 (kStrip_0 hk0) rc5 (by decide) wfX5_53 rfl rfl ?_
    obtain ⟨v4, ev4, h⟩ := vlet_ex h
    refine e_nameV ev4.symm ?_
    clear ev4
    obtain rfl := Option.some.inj h
    exact e_ret dX5_put_83 rfl ⟨rfl, rfl, rfl⟩
set_option maxRecDepth 20000 in
theorem x_X5_put {X : Nat × (Nat → Int32)} {v : rV} {r : rV} {k0 : Nat} {k1 : Nat} {a2 : Int32} {a3 : Int32} (hk0 : isStrip k0 = true) (hk1 : isIA k1 12) (h : f_X5_put v k0 k1 a2 a3 = some r) : EvM mX5_put 2 0 0 [.ref k0, .ref k1, .int a2, .int a3] (rZ X) v (rPV X r) := by
  refine evm_of (by decide +kernel) (fun G => Nat.le_of_ble_eq_true rfl) ?_
  show Ev mX5_put 2 0 0 0 [(0, .ref k0), (1, .ref k1), (2, .int a2), (3, .int a3)] [] (rZ X) v _
  unfold f_X5_put at h
  refine e_aload_n dX5_put_0 rfl ?_
  refine e_get (w := .int (v.1 k0 10)) (j := 10) dX5_put_1 (kStrip_0 hk0) rc5 (by decide) wfX5_53 rfl ?_
  refine e_if_le (tgt := 46) dX5_put_4 (by decide) (fun c11 => ?_) (fun c11 => ?_)
  · rw [if_pos c11] at h
    exact b_X5_put_46 hk0 hk1 h
  · rw [if_neg c11] at h
    refine e_aload_n dX5_put_7 rfl ?_
    refine e_get (w := .ref (k0 + 13)) (j := 9) dX5_put_8 (kStrip_0 hk0) rc5 (by decide) wfX5_48 (gStrip_9 hk0) ?_
    refine e_aload_n dX5_put_11 rfl ?_
    refine e_get (w := .int (v.1 k0 10)) (j := 10) dX5_put_12 (kStrip_0 hk0) rc5 (by decide) wfX5_53 rfl ?_
    refine e_iconst (x := (1 : Int32)) dX5_put_15 (by decide) ?_
    refine e_isub dX5_put_16 ?_
    obtain ⟨c6, h⟩ := grd h
    obtain ⟨kd7, ekd7, h⟩ := Option.bind_eq_some_iff.mp h
    obtain ⟨hkd7, h⟩ := grd h
    refine e_aaldJ (w := .ref kd7) dX5_put_17 (kStrip_13 hk0) rfl rfl c6.2 c6.1 (body_v hk0 ekd7) ?_
    refine e_get (w := .int (v.1 kd7 3)) (j := 3) dX5_put_18 (kBody_0 hkd7) rc0 (by decide) wfX5_86 rfl ?_
    refine e_iconst (x := (1 : Int32)) dX5_put_21 (by decide) ?_
    refine e_iadd dX5_put_22 ?_
    refine e_iload_n dX5_put_23 rfl ?_
    refine e_icmp_ne (tgt := 46) dX5_put_24 (by decide) (fun c10 => ?_) (fun c10 => ?_)
    · rw [if_neg c10] at h
      exact b_X5_put_46 hk0 hk1 h
    · rw [if_pos c10] at h
      refine e_aload_n dX5_put_27 rfl ?_
      refine e_get (w := .ref (k0 + 13)) (j := 9) dX5_put_28 (kStrip_0 hk0) rc5 (by decide) wfX5_48 (gStrip_9 hk0) ?_
      refine e_aload_n dX5_put_31 rfl ?_
      refine e_get (w := .int (v.1 k0 10)) (j := 10) dX5_put_32 (kStrip_0 hk0) rc5 (by decide) wfX5_53 rfl ?_
      refine e_iconst (x := (1 : Int32)) dX5_put_35 (by decide) ?_
      refine e_isub dX5_put_36 ?_
      obtain ⟨kd8, ekd8, h⟩ := Option.bind_eq_some_iff.mp h
      obtain ⟨hkd8, h⟩ := grd h
      refine e_aaldJ (w := .ref kd8) dX5_put_37 (kStrip_13 hk0) rfl rfl (c6).2 (c6).1 (body_v hk0 ekd8) ?_
      refine e_aload_n dX5_put_38 rfl ?_
      refine e_iload_n dX5_put_39 rfl ?_
      obtain ⟨p9, ep9, h⟩ := Option.bind_eq_some_iff.mp h
      refine c_VV (M' := mX0_takeIn) [.ref k1, .int a2] dX5_put_40 rfl wmX5_89 imX0_takeIn seX0_takeIn lkX0_takeIn (kBody_0 hkd8) rc0 (Nat.le_of_ble_eq_true rfl) ((x_X0_takeIn hkd8 hk1 ep9).mono (by omega)) ?_
      refine e_goto (tgt := 83) dX5_put_43 (by decide) ?_
      obtain rfl := Option.some.inj h
      exact e_ret dX5_put_83 rfl ⟨rfl, rfl, rfl⟩
def f_X5_ring_41 (v : rV) (q6 : Nat → Int32 → Int32 → Int32 → Option (Int32)) (k0 : Nat) (a1 : Int32) (a3 : Int32) (s0 : Int32) (s1 : Int32) : Option (Int32) := vlet (s1 + s0 : Int32) fun x6 =>
  vlet (a3 + (1 : Int32)) fun x7 =>
  q6 k0 a1 x6 x7
def f_X5_ring_6 (v : rV)  : Nat → Nat → Int32 → Int32 → Int32 → Option (Int32)
  | 0, _, _, _, _ => none
  | n + 1, k0, a1, a2, a3 => if (24 : Int32) ≤ a3 then
  (if a1 = 0 then
  (some (0 : Int32))
else
  (if a1 = 0 then none else
  some ((a2 * (100 : Int32)) / a1)))
else
  ((f_X5_lyingAt v k0 a3).bind fun p3 =>
  vlet (a1 + p3 : Int32) fun x4 =>
  if (f_X7_has (v.1 k0 12) a3) = true then
  ((f_X5_lyingAt v k0 a3).bind fun p8 =>
  f_X5_ring_41 v (fun k0 a1 a2 a3 => f_X5_ring_6 v n k0 a1 a2 a3) k0 x4 a3 p8 a2)
else
  (f_X5_ring_41 v (fun k0 a1 a2 a3 => f_X5_ring_6 v n k0 a1 a2 a3) k0 x4 a3 (0 : Int32) a2))
def f_X5_ring (v : rV) (k0 : Nat) : Option (Int32) := f_X5_ring_6 v 20000 k0 (0 : Int32) (0 : Int32) (0 : Int32)
set_option maxRecDepth 20000 in
theorem b_X5_ring_41 {X : Nat × (Nat → Int32)} {r : Int32} {v : rV} {q6 : Nat → Int32 → Int32 → Int32 → Option (Int32)} (hq6 : ∀ (k0 : Nat) (a1 : Int32) (a2 : Int32) (a3 : Int32) (hk0 : isStrip k0 = true), q6 k0 a1 a2 a3 = some r → Ev mX5_ring 2 0 0 6 [(0, .ref k0), (1, .int a1), (2, .int a2), (3, .int a3)] [] (rZ X) v (rPI X (r, v))) {k0 : Nat} {a1 : Int32} {a3 : Int32} {s0 : Int32} {s1 : Int32} (hk0 : isStrip k0 = true) (h : f_X5_ring_41 v q6 k0 a1 a3 s0 s1 = some r) : Ev mX5_ring 2 0 0 41 [(0, .ref k0), (1, .int a1), (3, .int a3)] [.int s0, .int s1] (rZ X) v (rPI X (r, v)) := by
  unfold f_X5_ring_41 at h
  refine e_iadd dX5_ring_41 ?_
  obtain ⟨x6, ex6, h⟩ := vlet_ex h
  refine e_nameI ex6.symm ?_
  clear ex6
  refine e_istore_n (lv' := [(2, .int x6), (0, .ref k0), (1, .int a1), (3, .int a3)]) dX5_ring_42 (by decide) rfl ?_
  obtain ⟨x7, ex7, h⟩ := vlet_ex h
  refine e_iinc (lv' := [(3, .int x7), (2, .int x6), (0, .ref k0), (1, .int a1)]) dX5_ring_43 rfl (ex7.symm) (by decide) rfl ?_
  clear ex7
  refine e_goto (tgt := 6) dX5_ring_46 (by decide) ?_
  refine e_sub [2, 3, 1, 0] rfl ?_
  exact hq6 k0 a1 x6 x7 hk0 h
set_option maxRecDepth 20000 in
theorem b_X5_ring_6 {X : Nat × (Nat → Int32)} {r : Int32} {v : rV}   : ∀ (n : Nat) (k0 : Nat) (a1 : Int32) (a2 : Int32) (a3 : Int32) (hk0 : isStrip k0 = true), f_X5_ring_6 v  n k0 a1 a2 a3 = some r → Ev mX5_ring 2 0 0 6 [(0, .ref k0), (1, .int a1), (2, .int a2), (3, .int a3)] [] (rZ X) v (rPI X (r, v)) := by
  intro n
  induction n with
  | zero =>
    intros
    rename_i h
    cases h
  | succ n ih =>
    intro k0 a1 a2 a3 hk0 h
    rw [f_X5_ring_6] at h
    refine e_iload_n dX5_ring_6 rfl ?_
    refine e_bipush (x := (24 : Int32)) dX5_ring_7 (by decide) ?_
    refine e_icmp_ge (tgt := 49) dX5_ring_9 (by decide) (fun c10 => ?_) (fun c10 => ?_)
    · rw [if_pos c10] at h
      refine e_iload_n dX5_ring_49 rfl ?_
      refine e_if_ne (tgt := 57) dX5_ring_50 (by decide) (fun c2 => ?_) (fun c2 => ?_)
      · rw [if_neg c2] at h
        refine e_iload_n dX5_ring_57 rfl ?_
        refine e_bipush (x := (100 : Int32)) dX5_ring_58 (by decide) ?_
        refine e_imul dX5_ring_60 ?_
        refine e_iload_n dX5_ring_61 rfl ?_
        obtain ⟨c1, h⟩ := grdn h
        refine e_idiv dX5_ring_62 c1 ?_
        obtain rfl := Option.some.inj h
        exact e_iret dX5_ring_63 rfl rfl ⟨rfl, rfl, rfl⟩
      · rw [if_pos c2] at h
        refine e_iconst (x := (0 : Int32)) dX5_ring_53 (by decide) ?_
        refine e_goto (tgt := 63) dX5_ring_54 (by decide) ?_
        obtain rfl := Option.some.inj h
        exact e_iret dX5_ring_63 rfl rfl ⟨rfl, rfl, rfl⟩
    · rw [if_neg c10] at h
      refine e_iload_n dX5_ring_12 rfl ?_
      refine e_aload_n dX5_ring_13 rfl ?_
      refine e_iload_n dX5_ring_14 rfl ?_
      obtain ⟨p3, ep3, h⟩ := Option.bind_eq_some_iff.mp h
      refine c_VI (M' := mX5_lyingAt) [.int a3] dX5_ring_15 rfl wmX5_208 imX5_lyingAt seX5_lyingAt lkX5_lyingAt (kStrip_0 hk0) rc5 (Nat.le_of_ble_eq_true rfl) ((x_X5_lyingAt hk0 ep3).mono (by omega)) ?_
      refine e_iadd dX5_ring_18 ?_
      obtain ⟨x4, ex4, h⟩ := vlet_ex h
      refine e_nameI ex4.symm ?_
      clear ex4
      refine e_istore_n (lv' := [(1, .int x4), (0, .ref k0), (2, .int a2), (3, .int a3)]) dX5_ring_19 (by decide) rfl ?_
      refine e_iload_n dX5_ring_20 rfl ?_
      refine e_aload_n dX5_ring_21 rfl ?_
      refine e_get (w := .int (v.1 k0 12)) (j := 12) dX5_ring_22 (kStrip_0 hk0) rc5 (by decide) wfX5_60 rfl ?_
      refine e_iload_n dX5_ring_25 rfl ?_
      refine c_SNZ (M' := mX7_has) [.int (v.1 k0 12), .int a3] dX5_ring_26 rfl wmX5_211 stX7_has lkX7_has (Nat.le_of_ble_eq_true rfl) ((x_X7_has ).mono (by omega)) ?_
      refine e_if_eq (tgt := 40) dX5_ring_29 (by decide) (fun c9 => ?_) (fun c9 => ?_)
      · rw [if_neg (bI_n c9)] at h
        refine e_iconst (x := (0 : Int32)) dX5_ring_40 (by decide) ?_
        refine e_sub [1, 0, 3] rfl ?_
        exact b_X5_ring_41 (fun k0 a1 a2 a3 hk0 hh => ih k0 a1 a2 a3 hk0 hh) hk0 h
      · rw [if_pos (bI_p c9)] at h
        refine e_aload_n dX5_ring_32 rfl ?_
        refine e_iload_n dX5_ring_33 rfl ?_
        obtain ⟨p8, ep8, h⟩ := Option.bind_eq_some_iff.mp h
        refine c_VI (M' := mX5_lyingAt) [.int a3] dX5_ring_34 rfl wmX5_208 imX5_lyingAt seX5_lyingAt lkX5_lyingAt (kStrip_0 hk0) rc5 (Nat.le_of_ble_eq_true rfl) ((x_X5_lyingAt hk0 ep8).mono (by omega)) ?_
        refine e_goto (tgt := 41) dX5_ring_37 (by decide) ?_
        refine e_sub [1, 0, 3] rfl ?_
        exact b_X5_ring_41 (fun k0 a1 a2 a3 hk0 hh => ih k0 a1 a2 a3 hk0 hh) hk0 h
set_option maxRecDepth 20000 in
theorem x_X5_ring {X : Nat × (Nat → Int32)} {v : rV} {r : Int32} {k0 : Nat} (hk0 : isStrip k0 = true) (h : f_X5_ring v k0 = some r) : EvM mX5_ring 2 0 0 [.ref k0] (rZ X) v (rPI X (r, v)) := by
  refine evm_of (by decide +kernel) (fun G => Nat.le_of_ble_eq_true rfl) ?_
  show Ev mX5_ring 2 0 0 0 [(0, .ref k0)] [] (rZ X) v _
  unfold f_X5_ring at h
  refine e_iconst (x := (0 : Int32)) dX5_ring_0 (by decide) ?_
  refine e_istore_n (lv' := [(1, .int (0 : Int32)), (0, .ref k0)]) dX5_ring_1 (by decide) rfl ?_
  refine e_iconst (x := (0 : Int32)) dX5_ring_2 (by decide) ?_
  refine e_istore_n (lv' := [(2, .int (0 : Int32)), (1, .int (0 : Int32)), (0, .ref k0)]) dX5_ring_3 (by decide) rfl ?_
  refine e_iconst (x := (0 : Int32)) dX5_ring_4 (by decide) ?_
  refine e_istore_n (lv' := [(3, .int (0 : Int32)), (2, .int (0 : Int32)), (1, .int (0 : Int32)), (0, .ref k0)]) dX5_ring_5 (by decide) rfl ?_
  refine e_sub [3, 2, 1, 0] rfl ?_
  exact b_X5_ring_6  _ k0 (0 : Int32) (0 : Int32) (0 : Int32) hk0 h
def f_X5_rings_41 (v : rV) (q4 : Nat → Int32 → Int32 → Option (Int32)) (k0 : Nat) (a1 : Int32) (a2 : Int32) : Option (Int32) := vlet (a2 + (1 : Int32)) fun x3 =>
  q4 k0 a1 x3
def f_X5_rings_4 (v : rV)  : Nat → Nat → Int32 → Int32 → Option (Int32)
  | 0, _, _, _ => none
  | n + 1, k0, a1, a2 => if (24 : Int32) ≤ a2 then
  (some a1)
else
  ((f_X5_lyingAt v k0 a2).bind fun p1 =>
  (f_X5_lyingAt v k0 (a2 - (1 : Int32))).bind fun p2 =>
  if p1 ≤ p2 then
  (f_X5_rings_41 v (fun k0 a1 a2 => f_X5_rings_4 v n k0 a1 a2) k0 a1 a2)
else
  ((f_X5_lyingAt v k0 (a2 + (1 : Int32))).bind fun p4 =>
  if p1 ≤ p4 then
  (f_X5_rings_41 v (fun k0 a1 a2 => f_X5_rings_4 v n k0 a1 a2) k0 a1 a2)
else
  (vlet (a1 + (1 : Int32)) fun x5 =>
  f_X5_rings_41 v (fun k0 a1 a2 => f_X5_rings_4 v n k0 a1 a2) k0 x5 a2)))
def f_X5_rings (v : rV) (k0 : Nat) : Option (Int32) := f_X5_rings_4 v 20000 k0 (0 : Int32) (0 : Int32)
set_option maxRecDepth 20000 in
theorem b_X5_rings_41 {X : Nat × (Nat → Int32)} {r : Int32} {v : rV} {q4 : Nat → Int32 → Int32 → Option (Int32)} (hq4 : ∀ (k0 : Nat) (a1 : Int32) (a2 : Int32) (hk0 : isStrip k0 = true), q4 k0 a1 a2 = some r → Ev mX5_rings 2 0 0 4 [(0, .ref k0), (1, .int a1), (2, .int a2)] [] (rZ X) v (rPI X (r, v))) {k0 : Nat} {a1 : Int32} {a2 : Int32} (hk0 : isStrip k0 = true) (h : f_X5_rings_41 v q4 k0 a1 a2 = some r) : Ev mX5_rings 2 0 0 41 [(0, .ref k0), (1, .int a1), (2, .int a2)] [] (rZ X) v (rPI X (r, v)) := by
  unfold f_X5_rings_41 at h
  obtain ⟨x3, ex3, h⟩ := vlet_ex h
  refine e_iinc (lv' := [(2, .int x3), (0, .ref k0), (1, .int a1)]) dX5_rings_41 rfl (ex3.symm) (by decide) rfl ?_
  clear ex3
  refine e_goto (tgt := 4) dX5_rings_44 (by decide) ?_
  refine e_sub [1, 2, 0] rfl ?_
  exact hq4 k0 a1 x3 hk0 h
set_option maxRecDepth 20000 in
theorem b_X5_rings_4 {X : Nat × (Nat → Int32)} {r : Int32} {v : rV}   : ∀ (n : Nat) (k0 : Nat) (a1 : Int32) (a2 : Int32) (hk0 : isStrip k0 = true), f_X5_rings_4 v  n k0 a1 a2 = some r → Ev mX5_rings 2 0 0 4 [(0, .ref k0), (1, .int a1), (2, .int a2)] [] (rZ X) v (rPI X (r, v)) := by
  intro n
  induction n with
  | zero =>
    intros
    rename_i h
    cases h
  | succ n ih =>
    intro k0 a1 a2 hk0 h
    rw [f_X5_rings_4] at h
    refine e_iload_n dX5_rings_4 rfl ?_
    refine e_bipush (x := (24 : Int32)) dX5_rings_5 (by decide) ?_
    refine e_icmp_ge (tgt := 47) dX5_rings_7 (by decide) (fun c8 => ?_) (fun c8 => ?_)
    · rw [if_pos c8] at h
      refine e_iload_n dX5_rings_47 rfl ?_
      obtain rfl := Option.some.inj h
      exact e_iret dX5_rings_48 rfl rfl ⟨rfl, rfl, rfl⟩
    · rw [if_neg c8] at h
      refine e_aload_n dX5_rings_10 rfl ?_
      refine e_iload_n dX5_rings_11 rfl ?_
      obtain ⟨p1, ep1, h⟩ := Option.bind_eq_some_iff.mp h
      refine c_VI (M' := mX5_lyingAt) [.int a2] dX5_rings_12 rfl wmX5_208 imX5_lyingAt seX5_lyingAt lkX5_lyingAt (kStrip_0 hk0) rc5 (Nat.le_of_ble_eq_true rfl) ((x_X5_lyingAt hk0 ep1).mono (by omega)) ?_
      refine e_istore_n (lv' := [(3, .int p1), (0, .ref k0), (1, .int a1), (2, .int a2)]) dX5_rings_15 (by decide) rfl ?_
      refine e_iload_n dX5_rings_16 rfl ?_
      refine e_aload_n dX5_rings_17 rfl ?_
      refine e_iload_n dX5_rings_18 rfl ?_
      refine e_iconst (x := (1 : Int32)) dX5_rings_19 (by decide) ?_
      refine e_isub dX5_rings_20 ?_
      obtain ⟨p2, ep2, h⟩ := Option.bind_eq_some_iff.mp h
      refine c_VI (M' := mX5_lyingAt) [.int (a2 - (1 : Int32))] dX5_rings_21 rfl wmX5_208 imX5_lyingAt seX5_lyingAt lkX5_lyingAt (kStrip_0 hk0) rc5 (Nat.le_of_ble_eq_true rfl) ((x_X5_lyingAt hk0 ep2).mono (by omega)) ?_
      refine e_icmp_le (tgt := 41) dX5_rings_24 (by decide) (fun c7 => ?_) (fun c7 => ?_)
      · rw [if_pos c7] at h
        refine e_sub [1, 2, 3] rfl ?_
        exact b_X5_rings_41 (fun k0 a1 a2 hk0 hh => ih k0 a1 a2 hk0 hh) hk0 h
      · rw [if_neg c7] at h
        refine e_iload_n dX5_rings_27 rfl ?_
        refine e_aload_n dX5_rings_28 rfl ?_
        refine e_iload_n dX5_rings_29 rfl ?_
        refine e_iconst (x := (1 : Int32)) dX5_rings_30 (by decide) ?_
        refine e_iadd dX5_rings_31 ?_
        obtain ⟨p4, ep4, h⟩ := Option.bind_eq_some_iff.mp h
        refine c_VI (M' := mX5_lyingAt) [.int (a2 + (1 : Int32))] dX5_rings_32 rfl wmX5_208 imX5_lyingAt seX5_lyingAt lkX5_lyingAt (kStrip_0 hk0) rc5 (Nat.le_of_ble_eq_true rfl) ((x_X5_lyingAt hk0 ep4).mono (by omega)) ?_
        refine e_icmp_le (tgt := 41) dX5_rings_35 (by decide) (fun c6 => ?_) (fun c6 => ?_)
        · rw [if_pos c6] at h
          refine e_sub [1, 2, 3] rfl ?_
          exact b_X5_rings_41 (fun k0 a1 a2 hk0 hh => ih k0 a1 a2 hk0 hh) hk0 h
        · rw [if_neg c6] at h
          obtain ⟨x5, ex5, h⟩ := vlet_ex h
          refine e_iinc (lv' := [(1, .int x5), (3, .int p1), (0, .ref k0), (2, .int a2)]) dX5_rings_38 rfl (ex5.symm) (by decide) rfl ?_
          clear ex5
          refine e_sub [2, 0, 3] rfl ?_
          exact b_X5_rings_41 (fun k0 a1 a2 hk0 hh => ih k0 a1 a2 hk0 hh) hk0 h
set_option maxRecDepth 20000 in
theorem x_X5_rings {X : Nat × (Nat → Int32)} {v : rV} {r : Int32} {k0 : Nat} (hk0 : isStrip k0 = true) (h : f_X5_rings v k0 = some r) : EvM mX5_rings 2 0 0 [.ref k0] (rZ X) v (rPI X (r, v)) := by
  refine evm_of (by decide +kernel) (fun G => Nat.le_of_ble_eq_true rfl) ?_
  show Ev mX5_rings 2 0 0 0 [(0, .ref k0)] [] (rZ X) v _
  unfold f_X5_rings at h
  refine e_iconst (x := (0 : Int32)) dX5_rings_0 (by decide) ?_
  refine e_istore_n (lv' := [(1, .int (0 : Int32)), (0, .ref k0)]) dX5_rings_1 (by decide) rfl ?_
  refine e_iconst (x := (0 : Int32)) dX5_rings_2 (by decide) ?_
  refine e_istore_n (lv' := [(2, .int (0 : Int32)), (1, .int (0 : Int32)), (0, .ref k0)]) dX5_rings_3 (by decide) rfl ?_
  refine e_sub [2, 1, 0] rfl ?_
  exact b_X5_rings_4  _ k0 (0 : Int32) (0 : Int32) hk0 h
def f_X5_spread_12 (v : rV)  : Nat → Nat → Int32 → Int32 → Int32 → Option (Int32)
  | 0, _, _, _, _ => none
  | n + 1, k0, a1, a2, a3 => if (24 : Int32) ≤ a3 then
  (some a2)
else
  ((f_X5_lyingAt v k0 a3).bind fun p3 =>
  vlet (a2 + ((if 0 ≤ (a3 - a1) then (a3 - a1) else 0 - (a3 - a1)) * p3) : Int32) fun x4 =>
  vlet (a3 + (1 : Int32)) fun x5 =>
  f_X5_spread_12 v n k0 a1 x4 x5)
def f_X5_spread (v : rV) (k0 : Nat) : Option (Int32) := (f_X5_center v k0).bind fun p1 =>
  vlet (p1 / (10 : Int32) : Int32) fun x2 =>
  f_X5_spread_12 v 20000 k0 x2 (0 : Int32) (0 : Int32)
set_option maxRecDepth 20000 in
theorem b_X5_spread_12 {X : Nat × (Nat → Int32)} {r : Int32} {v : rV}   : ∀ (n : Nat) (k0 : Nat) (a1 : Int32) (a2 : Int32) (a3 : Int32) (hk0 : isStrip k0 = true), f_X5_spread_12 v  n k0 a1 a2 a3 = some r → Ev mX5_spread 4 0 0 12 [(0, .ref k0), (1, .int a1), (2, .int a2), (3, .int a3)] [] (rZ X) v (rPI X (r, v)) := by
  intro n
  induction n with
  | zero =>
    intros
    rename_i h
    cases h
  | succ n ih =>
    intro k0 a1 a2 a3 hk0 h
    rw [f_X5_spread_12] at h
    refine e_iload_n dX5_spread_12 rfl ?_
    refine e_bipush (x := (24 : Int32)) dX5_spread_13 (by decide) ?_
    refine e_icmp_ge (tgt := 39) dX5_spread_15 (by decide) (fun c6 => ?_) (fun c6 => ?_)
    · rw [if_pos c6] at h
      refine e_iload_n dX5_spread_39 rfl ?_
      obtain rfl := Option.some.inj h
      exact e_iret dX5_spread_40 rfl rfl ⟨rfl, rfl, rfl⟩
    · rw [if_neg c6] at h
      refine e_iload_n dX5_spread_18 rfl ?_
      refine e_iload_n dX5_spread_19 rfl ?_
      refine e_iload_n dX5_spread_20 rfl ?_
      refine e_isub dX5_spread_21 ?_
      refine e_abs dX5_spread_22 wmX5_218 wmst_abs winimath wmcd_abs (by omega) (Nat.le_of_ble_eq_true rfl) ?_
      refine e_aload_n dX5_spread_25 rfl ?_
      refine e_iload_n dX5_spread_26 rfl ?_
      obtain ⟨p3, ep3, h⟩ := Option.bind_eq_some_iff.mp h
      refine c_VI (M' := mX5_lyingAt) [.int a3] dX5_spread_27 rfl wmX5_208 imX5_lyingAt seX5_lyingAt lkX5_lyingAt (kStrip_0 hk0) rc5 (Nat.le_of_ble_eq_true rfl) ((x_X5_lyingAt hk0 ep3).mono (by omega)) ?_
      refine e_imul dX5_spread_30 ?_
      refine e_iadd dX5_spread_31 ?_
      obtain ⟨x4, ex4, h⟩ := vlet_ex h
      refine e_nameI ex4.symm ?_
      clear ex4
      refine e_istore_n (lv' := [(2, .int x4), (0, .ref k0), (1, .int a1), (3, .int a3)]) dX5_spread_32 (by decide) rfl ?_
      obtain ⟨x5, ex5, h⟩ := vlet_ex h
      refine e_iinc (lv' := [(3, .int x5), (2, .int x4), (0, .ref k0), (1, .int a1)]) dX5_spread_33 rfl (ex5.symm) (by decide) rfl ?_
      clear ex5
      refine e_goto (tgt := 12) dX5_spread_36 (by decide) ?_
      refine e_sub [2, 3, 1, 0] rfl ?_
      exact ih k0 a1 x4 x5 hk0 h
set_option maxRecDepth 20000 in
theorem x_X5_spread {X : Nat × (Nat → Int32)} {v : rV} {r : Int32} {k0 : Nat} (hk0 : isStrip k0 = true) (h : f_X5_spread v k0 = some r) : EvM mX5_spread 4 0 0 [.ref k0] (rZ X) v (rPI X (r, v)) := by
  refine evm_of (by decide +kernel) (fun G => Nat.le_of_ble_eq_true rfl) ?_
  show Ev mX5_spread 4 0 0 0 [(0, .ref k0)] [] (rZ X) v _
  unfold f_X5_spread at h
  refine e_aload_n dX5_spread_0 rfl ?_
  obtain ⟨p1, ep1, h⟩ := Option.bind_eq_some_iff.mp h
  refine c_VI (M' := mX5_center) [] dX5_spread_1 rfl wmX5_215 imX5_center seX5_center lkX5_center (kStrip_0 hk0) rc5 (Nat.le_of_ble_eq_true rfl) ((x_X5_center hk0 ep1).mono (by omega)) ?_
  refine e_bipush (x := (10 : Int32)) dX5_spread_4 (by decide) ?_
  refine e_idiv dX5_spread_6 (by decide) ?_
  obtain ⟨x2, ex2, h⟩ := vlet_ex h
  refine e_nameI ex2.symm ?_
  clear ex2
  refine e_istore_n (lv' := [(1, .int x2), (0, .ref k0)]) dX5_spread_7 (by decide) rfl ?_
  refine e_iconst (x := (0 : Int32)) dX5_spread_8 (by decide) ?_
  refine e_istore_n (lv' := [(2, .int (0 : Int32)), (1, .int x2), (0, .ref k0)]) dX5_spread_9 (by decide) rfl ?_
  refine e_iconst (x := (0 : Int32)) dX5_spread_10 (by decide) ?_
  refine e_istore_n (lv' := [(3, .int (0 : Int32)), (2, .int (0 : Int32)), (1, .int x2), (0, .ref k0)]) dX5_spread_11 (by decide) rfl ?_
  refine e_sub [3, 2, 1, 0] rfl ?_
  exact b_X5_spread_12  _ k0 x2 (0 : Int32) (0 : Int32) hk0 h
def f_X5_tell (v : rV) (k0 : Nat) (a1 : Int32) : Option (Int32) := if a1 = (0 : Int32) then
  ((f_X5_ring v k0).bind fun p2 =>
  some p2)
else
  (if a1 = (1 : Int32) then
  ((f_X5_rings v k0).bind fun p4 =>
  some p4)
else
  (if a1 = (2 : Int32) then
  ((f_X5_even v k0).bind fun p6 =>
  some p6)
else
  (if a1 = (3 : Int32) then
  ((f_X5_lyingAll v k0).bind fun p8 =>
  some p8)
else
  (if a1 = (4 : Int32) then
  ((f_X5_heapedAll v k0).bind fun p10 =>
  some p10)
else
  (if a1 = (5 : Int32) then
  (some (v.1 k0 15))
else
  (if a1 = (6 : Int32) then
  (some (v.1 k0 16))
else
  (if a1 = (7 : Int32) then
  (some (v.1 k0 10))
else
  (if a1 = (8 : Int32) then
  ((f_X5_freeAll v k0).bind fun p15 =>
  some p15)
else
  (some (-1 : Int32))))))))))
set_option maxRecDepth 20000 in
theorem x_X5_tell {X : Nat × (Nat → Int32)} {v : rV} {r : Int32} {k0 : Nat} {a1 : Int32} (hk0 : isStrip k0 = true) (h : f_X5_tell v k0 a1 = some r) : EvM mX5_tell 3 0 0 [.ref k0, .int a1] (rZ X) v (rPI X (r, v)) := by
  refine evm_of (by decide +kernel) (fun G => Nat.le_of_ble_eq_true rfl) ?_
  show Ev mX5_tell 3 0 0 0 [(0, .ref k0), (1, .int a1)] [] (rZ X) v _
  unfold f_X5_tell at h
  refine e_iload_n dX5_tell_0 rfl ?_
  by_cases c1 : a1 = (0 : Int32)
  · rw [if_pos c1] at h
    refine e_tabIn (off := 51) (tgt := 52) dX5_tell_1 (by rw [c1]; decide) (by rw [c1]; decide) (by rw [c1]; rfl) (by decide) ?_
    refine e_aload_n dX5_tell_52 rfl ?_
    obtain ⟨p2, ep2, h⟩ := Option.bind_eq_some_iff.mp h
    refine c_VI (M' := mX5_ring) [] dX5_tell_53 rfl wmX5_185 imX5_ring seX5_ring lkX5_ring (kStrip_0 hk0) rc5 (Nat.le_of_ble_eq_true rfl) ((x_X5_ring hk0 ep2).mono (by omega)) ?_
    obtain rfl := Option.some.inj h
    exact e_iret dX5_tell_56 rfl rfl ⟨rfl, rfl, rfl⟩
  · rw [if_neg c1] at h
    have nc1 := tab_ne c1 (k := 0) (by decide)
    by_cases c3 : a1 = (1 : Int32)
    · rw [if_pos c3] at h
      refine e_tabIn (off := 56) (tgt := 57) dX5_tell_1 (by rw [c3]; decide) (by rw [c3]; decide) (by rw [c3]; rfl) (by decide) ?_
      refine e_aload_n dX5_tell_57 rfl ?_
      obtain ⟨p4, ep4, h⟩ := Option.bind_eq_some_iff.mp h
      refine c_VI (M' := mX5_rings) [] dX5_tell_58 rfl wmX5_188 imX5_rings seX5_rings lkX5_rings (kStrip_0 hk0) rc5 (Nat.le_of_ble_eq_true rfl) ((x_X5_rings hk0 ep4).mono (by omega)) ?_
      obtain rfl := Option.some.inj h
      exact e_iret dX5_tell_61 rfl rfl ⟨rfl, rfl, rfl⟩
    · rw [if_neg c3] at h
      have nc3 := tab_ne c3 (k := 1) (by decide)
      by_cases c5 : a1 = (2 : Int32)
      · rw [if_pos c5] at h
        refine e_tabIn (off := 61) (tgt := 62) dX5_tell_1 (by rw [c5]; decide) (by rw [c5]; decide) (by rw [c5]; rfl) (by decide) ?_
        refine e_aload_n dX5_tell_62 rfl ?_
        obtain ⟨p6, ep6, h⟩ := Option.bind_eq_some_iff.mp h
        refine c_VI (M' := mX5_even) [] dX5_tell_63 rfl wmX5_191 imX5_even seX5_even lkX5_even (kStrip_0 hk0) rc5 (Nat.le_of_ble_eq_true rfl) ((x_X5_even hk0 ep6).mono (by omega)) ?_
        obtain rfl := Option.some.inj h
        exact e_iret dX5_tell_66 rfl rfl ⟨rfl, rfl, rfl⟩
      · rw [if_neg c5] at h
        have nc5 := tab_ne c5 (k := 2) (by decide)
        by_cases c7 : a1 = (3 : Int32)
        · rw [if_pos c7] at h
          refine e_tabIn (off := 66) (tgt := 67) dX5_tell_1 (by rw [c7]; decide) (by rw [c7]; decide) (by rw [c7]; rfl) (by decide) ?_
          refine e_aload_n dX5_tell_67 rfl ?_
          obtain ⟨p8, ep8, h⟩ := Option.bind_eq_some_iff.mp h
          refine c_VI (M' := mX5_lyingAll) [] dX5_tell_68 rfl wmX5_194 imX5_lyingAll seX5_lyingAll lkX5_lyingAll (kStrip_0 hk0) rc5 (Nat.le_of_ble_eq_true rfl) ((x_X5_lyingAll hk0 ep8).mono (by omega)) ?_
          obtain rfl := Option.some.inj h
          exact e_iret dX5_tell_71 rfl rfl ⟨rfl, rfl, rfl⟩
        · rw [if_neg c7] at h
          have nc7 := tab_ne c7 (k := 3) (by decide)
          by_cases c9 : a1 = (4 : Int32)
          · rw [if_pos c9] at h
            refine e_tabIn (off := 71) (tgt := 72) dX5_tell_1 (by rw [c9]; decide) (by rw [c9]; decide) (by rw [c9]; rfl) (by decide) ?_
            refine e_aload_n dX5_tell_72 rfl ?_
            obtain ⟨p10, ep10, h⟩ := Option.bind_eq_some_iff.mp h
            refine c_VI (M' := mX5_heapedAll) [] dX5_tell_73 rfl wmX5_197 imX5_heapedAll seX5_heapedAll lkX5_heapedAll (kStrip_0 hk0) rc5 (Nat.le_of_ble_eq_true rfl) ((x_X5_heapedAll hk0 ep10).mono (by omega)) ?_
            obtain rfl := Option.some.inj h
            exact e_iret dX5_tell_76 rfl rfl ⟨rfl, rfl, rfl⟩
          · rw [if_neg c9] at h
            have nc9 := tab_ne c9 (k := 4) (by decide)
            by_cases c11 : a1 = (5 : Int32)
            · rw [if_pos c11] at h
              refine e_tabIn (off := 76) (tgt := 77) dX5_tell_1 (by rw [c11]; decide) (by rw [c11]; decide) (by rw [c11]; rfl) (by decide) ?_
              refine e_aload_n dX5_tell_77 rfl ?_
              refine e_get (w := .int (v.1 k0 15)) (j := 15) dX5_tell_78 (kStrip_0 hk0) rc5 (by decide) wfX5_71 rfl ?_
              obtain rfl := Option.some.inj h
              exact e_iret dX5_tell_81 rfl rfl ⟨rfl, rfl, rfl⟩
            · rw [if_neg c11] at h
              have nc11 := tab_ne c11 (k := 5) (by decide)
              by_cases c12 : a1 = (6 : Int32)
              · rw [if_pos c12] at h
                refine e_tabIn (off := 81) (tgt := 82) dX5_tell_1 (by rw [c12]; decide) (by rw [c12]; decide) (by rw [c12]; rfl) (by decide) ?_
                refine e_aload_n dX5_tell_82 rfl ?_
                refine e_get (w := .int (v.1 k0 16)) (j := 16) dX5_tell_83 (kStrip_0 hk0) rc5 (by decide) wfX5_74 rfl ?_
                obtain rfl := Option.some.inj h
                exact e_iret dX5_tell_86 rfl rfl ⟨rfl, rfl, rfl⟩
              · rw [if_neg c12] at h
                have nc12 := tab_ne c12 (k := 6) (by decide)
                by_cases c13 : a1 = (7 : Int32)
                · rw [if_pos c13] at h
                  refine e_tabIn (off := 86) (tgt := 87) dX5_tell_1 (by rw [c13]; decide) (by rw [c13]; decide) (by rw [c13]; rfl) (by decide) ?_
                  refine e_aload_n dX5_tell_87 rfl ?_
                  refine e_get (w := .int (v.1 k0 10)) (j := 10) dX5_tell_88 (kStrip_0 hk0) rc5 (by decide) wfX5_53 rfl ?_
                  obtain rfl := Option.some.inj h
                  exact e_iret dX5_tell_91 rfl rfl ⟨rfl, rfl, rfl⟩
                · rw [if_neg c13] at h
                  have nc13 := tab_ne c13 (k := 7) (by decide)
                  by_cases c14 : a1 = (8 : Int32)
                  · rw [if_pos c14] at h
                    refine e_tabIn (off := 91) (tgt := 92) dX5_tell_1 (by rw [c14]; decide) (by rw [c14]; decide) (by rw [c14]; rfl) (by decide) ?_
                    refine e_aload_n dX5_tell_92 rfl ?_
                    obtain ⟨p15, ep15, h⟩ := Option.bind_eq_some_iff.mp h
                    refine c_VI (M' := mX5_freeAll) [] dX5_tell_93 rfl wmX5_200 imX5_freeAll seX5_freeAll lkX5_freeAll (kStrip_0 hk0) rc5 (Nat.le_of_ble_eq_true rfl) ((x_X5_freeAll hk0 ep15).mono (by omega)) ?_
                    obtain rfl := Option.some.inj h
                    exact e_iret dX5_tell_96 rfl rfl ⟨rfl, rfl, rfl⟩
                  · rw [if_neg c14] at h
                    have nc14 := tab_ne c14 (k := 8) (by decide)
                    refine e_tabOut (tgt := 97) dX5_tell_1 (by omega) (by decide) ?_
                    refine e_iconst (x := (-1 : Int32)) dX5_tell_97 (by decide) ?_
                    obtain rfl := Option.some.inj h
                    exact e_iret dX5_tell_98 rfl rfl ⟨rfl, rfl, rfl⟩
def f_X5_tellWants_2   : Nat → rV → Nat → Int32 → Option (rV)
  | 0, _, _, _ => none
  | n + 1, v, k0, a1 => if (6 : Int32) ≤ a1 then
  (some v)
else
  (if (7 : Int32) ≤ a1 then
  (some v)
else
  ((f_X5_tell v k0 a1).bind fun p1 =>
  if ¬ a1 < 0 ∧ a1.toNatClampNeg < 7 then
  (vlet (rI v (k0 + 3) a1.toNatClampNeg p1) fun v3 =>
  vlet (a1 + (1 : Int32)) fun x4 =>
  f_X5_tellWants_2  n v3 k0 x4)
else none))
def f_X5_tellWants (v : rV) (k0 : Nat) : Option (rV) := f_X5_tellWants_2  20000 v k0 (0 : Int32)
set_option maxRecDepth 20000 in
theorem b_X5_tellWants_2 {X : Nat × (Nat → Int32)} {r : rV}   : ∀ (n : Nat) (v : rV) (k0 : Nat) (a1 : Int32) (hk0 : isStrip k0 = true), f_X5_tellWants_2   n v k0 a1 = some r → Ev mX5_tellWants 10 0 0 2 [(0, .ref k0), (1, .int a1)] [] (rZ X) v (rPV X r) := by
  intro n
  induction n with
  | zero =>
    intros
    rename_i h
    cases h
  | succ n ih =>
    intro v k0 a1 hk0 h
    rw [f_X5_tellWants_2] at h
    refine e_iload_n dX5_tellWants_2 rfl ?_
    refine e_ldcS3 dX5_tellWants_3 rfl ?_
    refine e_strlenJ (i := 1) (x := (6 : Int32)) (by decide) dX5_tellWants_5 wmX5_20 (by omega) (Nat.le_of_ble_eq_true rfl) (by decide) ?_
    refine e_icmp_ge (tgt := 37) dX5_tellWants_8 (by decide) (fun c6 => ?_) (fun c6 => ?_)
    · rw [if_pos c6] at h
      obtain rfl := Option.some.inj h
      exact e_ret dX5_tellWants_37 rfl ⟨rfl, rfl, rfl⟩
    · rw [if_neg c6] at h
      refine e_iload_n dX5_tellWants_11 rfl ?_
      refine e_aload_n dX5_tellWants_12 rfl ?_
      refine e_get (w := .ref (k0 + 3)) (j := 2) dX5_tellWants_13 (kStrip_0 hk0) rc5 (by decide) wfX5_26 (gStrip_2 hk0) ?_
      refine e_alenJ (x := (7 : Int32)) dX5_tellWants_16 (kStrip_3 hk0) (Or.inl rfl) (by decide) ?_
      refine e_icmp_ge (tgt := 37) dX5_tellWants_17 (by decide) (fun c5 => ?_) (fun c5 => ?_)
      · rw [if_pos c5] at h
        obtain rfl := Option.some.inj h
        exact e_ret dX5_tellWants_37 rfl ⟨rfl, rfl, rfl⟩
      · rw [if_neg c5] at h
        refine e_aload_n dX5_tellWants_20 rfl ?_
        refine e_get (w := .ref (k0 + 3)) (j := 2) dX5_tellWants_21 (kStrip_0 hk0) rc5 (by decide) wfX5_26 (gStrip_2 hk0) ?_
        refine e_iload_n dX5_tellWants_24 rfl ?_
        refine e_aload_n dX5_tellWants_25 rfl ?_
        refine e_iload_n dX5_tellWants_26 rfl ?_
        obtain ⟨p1, ep1, h⟩ := Option.bind_eq_some_iff.mp h
        refine c_VI (M' := mX5_tell) [.int a1] dX5_tellWants_27 rfl wmX5_205 imX5_tell seX5_tell lkX5_tell (kStrip_0 hk0) rc5 (Nat.le_of_ble_eq_true rfl) ((x_X5_tell hk0 ep1).mono (by omega)) ?_
        obtain ⟨c2, h⟩ := grd h
        refine e_iastJ dX5_tellWants_30 (kStrip_3 hk0) rfl c2.2 c2.1 ?_
        obtain ⟨v3, ev3, h⟩ := vlet_ex h
        refine e_nameV ev3.symm ?_
        clear ev3
        obtain ⟨x4, ex4, h⟩ := vlet_ex h
        refine e_iinc (lv' := [(1, .int x4), (0, .ref k0)]) dX5_tellWants_31 rfl (ex4.symm) (by decide) rfl ?_
        clear ex4
        refine e_goto (tgt := 2) dX5_tellWants_34 (by decide) ?_
        refine e_sub [1, 0] rfl ?_
        exact ih v3 k0 x4 hk0 h
set_option maxRecDepth 20000 in
theorem x_X5_tellWants {X : Nat × (Nat → Int32)} {v : rV} {r : rV} {k0 : Nat} (hk0 : isStrip k0 = true) (h : f_X5_tellWants v k0 = some r) : EvM mX5_tellWants 10 0 0 [.ref k0] (rZ X) v (rPV X r) := by
  refine evm_of (by decide +kernel) (fun G => Nat.le_of_ble_eq_true rfl) ?_
  show Ev mX5_tellWants 10 0 0 0 [(0, .ref k0)] [] (rZ X) v _
  unfold f_X5_tellWants at h
  refine e_iconst (x := (0 : Int32)) dX5_tellWants_0 (by decide) ?_
  refine e_istore_n (lv' := [(1, .int (0 : Int32)), (0, .ref k0)]) dX5_tellWants_1 (by decide) rfl ?_
  refine e_sub [1, 0] rfl ?_
  exact b_X5_tellWants_2  _ v k0 (0 : Int32) hk0 h
def f_X5_writeLying_2   : Nat → rV → Nat → Nat → Int32 → Option (rV)
  | 0, _, _, _, _ => none
  | n + 1, v, k0, k1, a2 => if (24 : Int32) ≤ a2 then
  (some v)
else
  (if (24 : Int32) ≤ a2 then
  (some v)
else
  ((f_X5_lyingAt v k0 a2).bind fun p1 =>
  if ¬ a2 < 0 ∧ a2.toNatClampNeg < 24 then
  (vlet (rI v k1 a2.toNatClampNeg p1) fun v3 =>
  vlet (a2 + (1 : Int32)) fun x4 =>
  f_X5_writeLying_2  n v3 k0 k1 x4)
else none))
def f_X5_writeLying (v : rV) (k0 : Nat) (k1 : Nat) : Option (rV) := f_X5_writeLying_2  20000 v k0 k1 (0 : Int32)
set_option maxRecDepth 20000 in
theorem b_X5_writeLying_2 {X : Nat × (Nat → Int32)} {r : rV}   : ∀ (n : Nat) (v : rV) (k0 : Nat) (k1 : Nat) (a2 : Int32) (hk0 : isStrip k0 = true) (hk1 : isIA k1 24), f_X5_writeLying_2   n v k0 k1 a2 = some r → Ev mX5_writeLying 2 0 0 2 [(0, .ref k0), (1, .ref k1), (2, .int a2)] [] (rZ X) v (rPV X r) := by
  intro n
  induction n with
  | zero =>
    intros
    rename_i h
    cases h
  | succ n ih =>
    intro v k0 k1 a2 hk0 hk1 h
    rw [f_X5_writeLying_2] at h
    refine e_iload_n dX5_writeLying_2 rfl ?_
    refine e_bipush (x := (24 : Int32)) dX5_writeLying_3 (by decide) ?_
    refine e_icmp_ge (tgt := 28) dX5_writeLying_5 (by decide) (fun c6 => ?_) (fun c6 => ?_)
    · rw [if_pos c6] at h
      obtain rfl := Option.some.inj h
      exact e_ret dX5_writeLying_28 rfl ⟨rfl, rfl, rfl⟩
    · rw [if_neg c6] at h
      refine e_iload_n dX5_writeLying_8 rfl ?_
      refine e_aload_n dX5_writeLying_9 rfl ?_
      refine e_alenJ (x := (24 : Int32)) dX5_writeLying_10 hk1 (Or.inl rfl) (by decide) ?_
      refine e_icmp_ge (tgt := 28) dX5_writeLying_11 (by decide) (fun c5 => ?_) (fun c5 => ?_)
      · rw [if_pos c5] at h
        obtain rfl := Option.some.inj h
        exact e_ret dX5_writeLying_28 rfl ⟨rfl, rfl, rfl⟩
      · rw [if_neg c5] at h
        refine e_aload_n dX5_writeLying_14 rfl ?_
        refine e_iload_n dX5_writeLying_15 rfl ?_
        refine e_aload_n dX5_writeLying_16 rfl ?_
        refine e_iload_n dX5_writeLying_17 rfl ?_
        obtain ⟨p1, ep1, h⟩ := Option.bind_eq_some_iff.mp h
        refine c_VI (M' := mX5_lyingAt) [.int a2] dX5_writeLying_18 rfl wmX5_208 imX5_lyingAt seX5_lyingAt lkX5_lyingAt (kStrip_0 hk0) rc5 (Nat.le_of_ble_eq_true rfl) ((x_X5_lyingAt hk0 ep1).mono (by omega)) ?_
        obtain ⟨c2, h⟩ := grd h
        refine e_iastJ dX5_writeLying_21 hk1 rfl c2.2 c2.1 ?_
        obtain ⟨v3, ev3, h⟩ := vlet_ex h
        refine e_nameV ev3.symm ?_
        clear ev3
        obtain ⟨x4, ex4, h⟩ := vlet_ex h
        refine e_iinc (lv' := [(2, .int x4), (0, .ref k0), (1, .ref k1)]) dX5_writeLying_22 rfl (ex4.symm) (by decide) rfl ?_
        clear ex4
        refine e_goto (tgt := 2) dX5_writeLying_25 (by decide) ?_
        refine e_sub [1, 2, 0] rfl ?_
        exact ih v3 k0 k1 x4 hk0 hk1 h
set_option maxRecDepth 20000 in
theorem x_X5_writeLying {X : Nat × (Nat → Int32)} {v : rV} {r : rV} {k0 : Nat} {k1 : Nat} (hk0 : isStrip k0 = true) (hk1 : isIA k1 24) (h : f_X5_writeLying v k0 k1 = some r) : EvM mX5_writeLying 2 0 0 [.ref k0, .ref k1] (rZ X) v (rPV X r) := by
  refine evm_of (by decide +kernel) (fun G => Nat.le_of_ble_eq_true rfl) ?_
  show Ev mX5_writeLying 2 0 0 0 [(0, .ref k0), (1, .ref k1)] [] (rZ X) v _
  unfold f_X5_writeLying at h
  refine e_iconst (x := (0 : Int32)) dX5_writeLying_0 (by decide) ?_
  refine e_istore_n (lv' := [(2, .int (0 : Int32)), (0, .ref k0), (1, .ref k1)]) dX5_writeLying_1 (by decide) rfl ?_
  refine e_sub [1, 2, 0] rfl ?_
  exact b_X5_writeLying_2  _ v k0 k1 (0 : Int32) hk0 hk1 h
